/-! The layer N: constructors, over a world that grows -/
def nA (h0 sz : Nat) : Nat → Prop := fun q => q = h0 ∨ sz ≤ q
def nQ (g : Gx) (B : va_W → Prop) (h0 : Nat) : Array Value → State → Outcome → State → Prop := fun _ st oc t => oc = .returned none ∧ (∃ ws, B ws ∧ va_P g.2.1 vwCl ws t.heap ∧ va_D (nA h0 st.heap.size) ws ∧ va_K g.2.1 vwCl (zT g) t) ∧ va_F (nA h0 st.heap.size) st t
def nB (g : Gx) (sz : Nat) (ws : va_W) (U : State) : Prop := U.heap.size = sz ∧ va_P g.2.1 vwCl ws U.heap ∧ va_D (fun _ => True) ws ∧ va_K g.2.1 vwCl (zT g) U ∧ zNs U ∧ va_AO RX4 U
def Nm (g : Gx) (y : MethodName) (cc : ByteArray) (nL : Nat) (rm : Room) (h0 : Nat) (e0 : va_E) (As : List Value) (B : va_W → Prop) (mc ms : Nat) : Prop := ∀ sz, Met g.1 y (Cond.code y cc nL none :: zt) rm (va_Pc (.ref h0 :: As) (nB g sz [(h0, e0)])) (nQ g B h0) mc ms (nA h0 sz)
def Nw (g : Gx) (own : String) (cc : ByteArray) (nL : Nat) (R : Room) (h0 mc ms : Nat) (B : va_W → Prop) (pc : Nat) (lv : List (Nat × Value)) (st : List Value) (ws : va_W) (ce sl : Nat) : Prop :=
  ∀ (p : Program) (e : Env) (s : State) (m : MethodId) (args : Array Value) (below : List Frame) (meth : Method) (c : Code) (H : Heap) (locs : List Loc) (ls : Array Slot),
    zC g own cc nL none p s m args meth c → meth.name = "<init>" → va_AO RX4 s → va_P g.2.1 vwCl ws H → va_D (nA h0 s.heap.size) ws → va_S (nA h0 s.heap.size) s.heap H locs → lv_has ls nL lv →
    W p g.1 e R s m args below meth c H locs ce sl (MQ below (nQ g B h0) args s mc ms (nA h0 s.heap.size)) (F0 m pc ls st)
theorem nA_ge {h0 sz : Nat} : ∀ q : Nat, sz ≤ q → nA h0 sz q := fun _ h => Or.inr h
theorem n_met {g : Gx} {y : MethodName} {cc : ByteArray} {nL : Nat} {rm : Room} {h0 : Nat} {e0 : va_E} {As : List Value} {B : va_W → Prop} {mc ms : Nat} (hy : plainName y.cls = true) (hn : (lg_sl (.ref h0 :: As)).length ≤ nL)
    (hi : y.name = "<init>") (k : Nw g y.cls cc nL rm h0 mc ms B 0 (lv_args 0 (.ref h0 :: As)) [] [(h0, e0)] 0 0) : Nm g y cc nL rm h0 e0 As B mc ms := by
  intro sz
  refine Met.ofW (cc := cc) (maxL := nL) (ret := none) hy rfl ?_
  intro p e s m args below meth c s₁ B0 hml hv
  obtain ⟨rfl, hsz, hP, hD, hK, hN, hO⟩ := hv
  subst hsz
  have hts := atoms_spec (ws := Cond.code y cc nL none :: zt) B0.pre
  have hown : s.vm.findClass y.cls = some m.cls := findClass_of_methodNamed B0.named
  have hin : meth.name = "<init>" := (name_of_methodNamed B0.named B0.method).1.trans hi
  have hl := lv_entry (.ref h0 :: As) (n := nL) hn
  rw [lg_entry_eq]
  have hD1 : va_D (nA h0 s.heap.size) [(h0, e0)] := hD.weaken (fun k q hq _ => by
    have hz : k < 1 := (List.getElem?_eq_some_iff.mp hq).1
    rw [show k = 0 by omega] at hq
    cases hq
    exact Or.inl rfl)
  exact k p e s m _ below meth c s.heap [] _ ⟨B0.exec, B0.bytes, B0.returns, hml, hown, fun w hw => hts w (List.mem_cons_of_mem _ hw), B0.notSynchronized, hK, hN⟩ hin hO hP hD1 va_S.rf hl
theorem zT_eq {g : Gx} {s : State} {cA : ClassId} {ty : FieldType} (i : Nat) {c1 : ClassId} (hi : (zT g)[i]? = some (c1, ty)) (hp : ∀ (U : State) (c : ClassId), va_RA U c ty → U.vm.findClass ("[" ++ ty.toString) = some c) (hK : va_K g.2.1 vwCl (zT g ++ [(cA, ty)]) s) : cA = c1 := by
  have h1 := hp _ _ (hK.2 4 (cA, ty) (by simp [zT])).2
  have h2 := hp _ _ (hK.2 i (c1, ty) (by
    have hl : i < (zT g).length := (List.getElem?_eq_some_iff.mp hi).1
    rw [List.getElem?_append_left hl]; exact hi)).2
  exact Option.some.inj (h1.symm.trans h2)
section N1
variable {g : Gx} {own : String} {cc : ByteArray} {nL : Nat} {R : Room} {h0 mc ms : Nat} {B : va_W → Prop} {pc : Nat} {lv lv2 : List (Nat × Value)} {rest : List Value} {ws : va_W} {ce sl : Nat}
theorem n_iconst {n : Int} {v : Int32} (hdg : decode cc pc = .ok (.iconst n, 1)) (hv : Int32.ofInt n = v) (k : Nw g own cc nL R h0 mc ms B (pc + 1) lv (.int v :: rest) ws (ce) (sl)) : Nw g own cc nL R h0 mc ms B (pc) lv (rest) ws (ce) (sl) := by
  intro p e s m args below meth c H locs ls C hin hO hP hD hS hl
  exact lv_iconst C.1 C.2.1 hdg hv (k p e s m args below meth c H locs ls C hin hO hP hD hS hl)
theorem n_bipush {n : Int} {v : Int32} (hdg : decode cc pc = .ok (.bipush n, 2)) (hv : (Int8.ofInt n).toInt32 = v) (k : Nw g own cc nL R h0 mc ms B (pc + 2) lv (.int v :: rest) ws (ce) (sl)) : Nw g own cc nL R h0 mc ms B (pc) lv (rest) ws (ce) (sl) := by
  intro p e s m args below meth c H locs ls C hin hO hP hD hS hl
  exact lv_bipush C.1 C.2.1 hdg hv (k p e s m args below meth c H locs ls C hin hO hP hD hS hl)
theorem n_sipush {n : Int} {v : Int32} (hdg : decode cc pc = .ok (.sipush n, 3)) (hv : (Int16.ofInt n).toInt32 = v) (k : Nw g own cc nL R h0 mc ms B (pc + 3) lv (.int v :: rest) ws (ce) (sl)) : Nw g own cc nL R h0 mc ms B (pc) lv (rest) ws (ce) (sl) := by
  intro p e s m args below meth c H locs ls C hin hO hP hD hS hl
  exact lv_sipush C.1 C.2.1 hdg hv (k p e s m args below meth c H locs ls C hin hO hP hD hS hl)
theorem n_iload_n {k : Fin 4} {i : Nat} {x : Int32} (j : Nat) (hdg : decode cc pc = .ok (.iload_n k, 1)) (hi : (k : Nat) = i) (hj : lv[j]? = some (i, .int x)) (k : Nw g own cc nL R h0 mc ms B (pc + 1) lv (.int x :: rest) ws (ce) (sl)) : Nw g own cc nL R h0 mc ms B (pc) lv (rest) ws (ce) (sl) := by
  intro p e s m args below meth c H locs ls C hin hO hP hD hS hl
  exact lv_iload_n C.1 C.2.1 hdg hi (lv_at hl j hj) (k p e s m args below meth c H locs ls C hin hO hP hD hS hl)
theorem n_aload_n {k : Fin 4} {i : Nat} {x : Nat} (j : Nat) (hdg : decode cc pc = .ok (.aload_n k, 1)) (hi : (k : Nat) = i) (hj : lv[j]? = some (i, .ref x)) (k : Nw g own cc nL R h0 mc ms B (pc + 1) lv (.ref x :: rest) ws (ce) (sl)) : Nw g own cc nL R h0 mc ms B (pc) lv (rest) ws (ce) (sl) := by
  intro p e s m args below meth c H locs ls C hin hO hP hD hS hl
  exact lv_aload_n C.1 C.2.1 hdg hi (lv_at hl j hj) (k p e s m args below meth c H locs ls C hin hO hP hD hS hl)
theorem n_istore_n {k0 : Fin 4} {i : Nat} {x : Int32} (ks : List Nat) (hdg : decode cc pc = .ok (.istore_n k0, 1)) (hi : (k0 : Nat) = i) (hn : i < nL) (hl2 : lv_pick ((i, Value.int x) :: lv.filter (fun q => !(q.1 == i) && !(q.1 + 1 == i && q.2.category == 2))) ks = lv2) (k : Nw g own cc nL R h0 mc ms B (pc + 1) lv2 (rest) ws (ce) (sl)) : Nw g own cc nL R h0 mc ms B (pc) lv (.int x :: rest) ws (ce) (sl) := by
  intro p e s m args below meth c H locs ls C hin hO hP hD hS hl
  exact lv_istore_n C.1 C.2.1 hdg hi hl hn rfl (fun ls1 hl1 => k p e s m args below meth c H locs ls1 C hin hO hP hD hS (lv_sub hl1 ks hl2))
theorem n_astore_n {k0 : Fin 4} {i : Nat} {x : Nat} (ks : List Nat) (hdg : decode cc pc = .ok (.astore_n k0, 1)) (hi : (k0 : Nat) = i) (hn : i < nL) (hl2 : lv_pick ((i, Value.ref x) :: lv.filter (fun q => !(q.1 == i) && !(q.1 + 1 == i && q.2.category == 2))) ks = lv2) (k : Nw g own cc nL R h0 mc ms B (pc + 1) lv2 (rest) ws (ce) (sl)) : Nw g own cc nL R h0 mc ms B (pc) lv (.ref x :: rest) ws (ce) (sl) := by
  intro p e s m args below meth c H locs ls C hin hO hP hD hS hl
  exact lv_astore_n C.1 C.2.1 hdg hi hl hn rfl (fun ls1 hl1 => k p e s m args below meth c H locs ls1 C hin hO hP hD hS (lv_sub hl1 ks hl2))
theorem n_iinc {i : Nat} {n : Int} {x v : Int32} (j : Nat) (ks : List Nat) (hdg : decode cc pc = .ok (.iinc i n, 3)) (hj : lv[j]? = some (i, .int x)) (hv : x + Int32.ofInt n = v) (hn : i < nL) (hl2 : lv_pick ((i, Value.int v) :: lv.filter (fun q => !(q.1 == i) && !(q.1 + 1 == i && q.2.category == 2))) ks = lv2) (k : Nw g own cc nL R h0 mc ms B (pc + 3) lv2 (rest) ws (ce) (sl)) : Nw g own cc nL R h0 mc ms B (pc) lv (rest) ws (ce) (sl) := by
  intro p e s m args below meth c H locs ls C hin hO hP hD hS hl
  exact lv_iinc C.1 C.2.1 hdg hl hj hv hn rfl (fun ls1 hl1 => k p e s m args below meth c H locs ls1 C hin hO hP hD hS (lv_sub hl1 ks hl2))
theorem n_dup {va : Value} (hdg : decode cc pc = .ok (.dup, 1)) (hva : va.category = 1) (k : Nw g own cc nL R h0 mc ms B (pc + 1) lv (va :: va :: rest) ws (ce) (sl)) : Nw g own cc nL R h0 mc ms B (pc) lv (va :: rest) ws (ce) (sl) := by
  intro p e s m args below meth c H locs ls C hin hO hP hD hS hl
  exact lv_dup C.1 C.2.1 hdg hva (k p e s m args below meth c H locs ls C hin hO hP hD hS hl)
theorem n_goto {off : Int} {tgt : Nat} (hdg : decode cc pc = .ok (.goto off, 3)) (ht : (pc : Int) + off = (tgt : Int)) (k : Nw g own cc nL R h0 mc ms B (tgt) lv (rest) ws (ce) (sl)) : Nw g own cc nL R h0 mc ms B (pc) lv (rest) ws (ce) (sl) := by
  intro p e s m args below meth c H locs ls C hin hO hP hD hS hl
  exact lv_goto C.1 C.2.1 hdg ht (k p e s m args below meth c H locs ls C hin hO hP hD hS hl)
theorem n_icmp_ge_y {x y : Int32} {off : Int} {tgt : Nat} (hdg : decode cc pc = .ok (.if_icmp .ge off, 3)) (ht : (pc : Int) + off = (tgt : Int)) (hc : y ≤ x) (k : Nw g own cc nL R h0 mc ms B (tgt) lv (rest) ws (ce) (sl)) : Nw g own cc nL R h0 mc ms B (pc) lv (.int y :: .int x :: rest) ws (ce) (sl) := by
  intro p e s m args below meth c H locs ls C hin hO hP hD hS hl
  exact lv_icmp_ge C.1 C.2.1 hdg ht (fun _ => k p e s m args below meth c H locs ls C hin hO hP hD hS hl) (fun h => absurd hc h)
theorem n_icmp_ge_x {x y : Int32} {off : Int} {tgt : Nat} (hdg : decode cc pc = .ok (.if_icmp .ge off, 3)) (ht : (pc : Int) + off = (tgt : Int)) (hc : ¬ y ≤ x) (k : Nw g own cc nL R h0 mc ms B (pc + 3) lv (rest) ws (ce) (sl)) : Nw g own cc nL R h0 mc ms B (pc) lv (.int y :: .int x :: rest) ws (ce) (sl) := by
  intro p e s m args below meth c H locs ls C hin hO hP hD hS hl
  exact lv_icmp_ge C.1 C.2.1 hdg ht (fun h => absurd h hc) (fun _ => k p e s m args below meth c H locs ls C hin hO hP hD hS hl)
theorem n_obj {ix a : Nat} (hw : Cond.methodLink own ix objectInit ∈ zt ∧ Cond.instanceMethod objectInit ∈ zt ∧ Cond.code objectInit ⟨#[0xb1]⟩ 1 none ∈ zt) (hdg : decode cc pc = .ok (.invokespecial ix, 3)) (hf : 1 ≤ R.frames) (hlo : 20 ≤ R.locals) (hroom : (rest.map fun v => v.category).sum ≤ 8) (k : Nw g own cc nL R h0 mc ms B (pc + 3) lv (rest) ws (ce) (sl)) : Nw g own cc nL R h0 mc ms B (pc) lv (.ref a :: rest) ws (ce) (sl) := by
  intro p e s m args below meth c H locs ls C hin hO hP hD hS hl
  refine W.objInit C.1 C.2.1 C.2.2.2.2.1 (C.2.2.2.2.2.1 _ hw.1) (C.2.2.2.2.2.1 _ hw.2.1) (C.2.2.2.2.2.1 _ hw.2.2) rfl (by rw [C.2.2.2.1]; exact hl.1) rfl hdg hf (by have := lv_room (m := m) (pc := pc) (ls := ls) (rest := .ref a :: rest) hroom; omega) ?_
  exact k p e s m args below meth c H locs ls C hin hO hP hD hS hl
theorem n_newa_int {n : Int32} {N : Nat} (hw : Cond.arrayClass .int ∈ zt) (hn : ¬ n < 0) (hN : n.toNatClampNeg = N) (hb : N ≤ 1000) (hcells : ce + 1 ≤ R.cells) (hslots : sl + N ≤ R.slots) (hdg : decode cc pc = .ok (.newarray .int, 2)) (k : ∀ q, Nw g own cc nL R h0 mc ms B (pc + 2) lv (.ref q :: rest) (ws ++ [(q, .inl (g.2.2.2 1, N, .inl (fun _ => 0)))]) (ce + 1) (sl + N)) : Nw g own cc nL R h0 mc ms B (pc) lv (.int n :: rest) ws (ce) (sl) := by
  intro p e s m args below meth c H locs ls C hin hO hP hD hS hl
  have hbt : N * componentBytes .int ≤ 536870912 := Nat.le_trans (Nat.mul_le_mul hb (show componentBytes .int ≤ 8 by decide)) (by decide)
  refine va_newa (atype := .int) (ty := .int) (N' := N) (a0 := (N, .inl (fun _ => 0))) C.1 C.2.1 (C.2.2.2.2.2.1 _ hw) rfl C.2.2.2.2.2.2.2.1 hP hD hS nA_ge (fun cA => rfl) hn hN hbt hcells hslots hdg (fun q cA H1 hK1 hP1 hD1 hS1 => ?_)
  have ec := zT_eq 1 (c1 := g.2.2.2 1) rfl (fun U c h => h) hK1
  subst ec
  exact k q p e s m args below meth c H1 locs ls C hin hO hP1 hD1 hS1 hl
theorem n_newa_long {n : Int32} {N : Nat} (hw : Cond.arrayClass .long ∈ zt) (hn : ¬ n < 0) (hN : n.toNatClampNeg = N) (hb : N ≤ 1000) (hcells : ce + 1 ≤ R.cells) (hslots : sl + N ≤ R.slots) (hdg : decode cc pc = .ok (.newarray .long, 2)) (k : ∀ q, Nw g own cc nL R h0 mc ms B (pc + 2) lv (.ref q :: rest) (ws ++ [(q, .inl (g.2.2.2 2, N, .inr (.inl (fun _ => 0))))]) (ce + 1) (sl + N)) : Nw g own cc nL R h0 mc ms B (pc) lv (.int n :: rest) ws (ce) (sl) := by
  intro p e s m args below meth c H locs ls C hin hO hP hD hS hl
  have hbt : N * componentBytes .long ≤ 536870912 := Nat.le_trans (Nat.mul_le_mul hb (show componentBytes .long ≤ 8 by decide)) (by decide)
  refine va_newa (atype := .long) (ty := .long) (N' := N) (a0 := (N, .inr (.inl (fun _ => 0)))) C.1 C.2.1 (C.2.2.2.2.2.1 _ hw) rfl C.2.2.2.2.2.2.2.1 hP hD hS nA_ge (fun cA => rfl) hn hN hbt hcells hslots hdg (fun q cA H1 hK1 hP1 hD1 hS1 => ?_)
  have ec := zT_eq 2 (c1 := g.2.2.2 2) rfl (fun U c h => h) hK1
  subst ec
  exact k q p e s m args below meth c H1 locs ls C hin hO hP1 hD1 hS1 hl
theorem n_newa_byte {n : Int32} {N : Nat} (hw : Cond.arrayClass .byte ∈ zt) (hn : ¬ n < 0) (hN : n.toNatClampNeg = N) (hb : N ≤ 1000) (hcells : ce + 1 ≤ R.cells) (hslots : sl + N ≤ R.slots) (hdg : decode cc pc = .ok (.newarray .byte, 2)) (k : ∀ q, Nw g own cc nL R h0 mc ms B (pc + 2) lv (.ref q :: rest) (ws ++ [(q, .inl (g.2.2.2 0, N, .inl (fun _ => 0)))]) (ce + 1) (sl + N)) : Nw g own cc nL R h0 mc ms B (pc) lv (.int n :: rest) ws (ce) (sl) := by
  intro p e s m args below meth c H locs ls C hin hO hP hD hS hl
  have hbt : N * componentBytes .byte ≤ 536870912 := Nat.le_trans (Nat.mul_le_mul hb (show componentBytes .byte ≤ 8 by decide)) (by decide)
  refine va_newa (atype := .byte) (ty := .byte) (N' := N) (a0 := (N, .inl (fun _ => 0))) C.1 C.2.1 (C.2.2.2.2.2.1 _ hw) rfl C.2.2.2.2.2.2.2.1 hP hD hS nA_ge (fun cA => rfl) hn hN hbt hcells hslots hdg (fun q cA H1 hK1 hP1 hD1 hS1 => ?_)
  have ec := zT_eq 0 (c1 := g.2.2.2 0) rfl (fun U c h => h) hK1
  subst ec
  exact k q p e s m args below meth c H1 locs ls C hin hO hP1 hD1 hS1 hl
theorem n_newq {n : Int32} {N ix : Nat} (hw : Cond.classLink own ix RX4 ∈ zt) (hn : ¬ n < 0) (hN : n.toNatClampNeg = N) (hb : N ≤ 1000) (hcells : ce + 1 ≤ R.cells) (hslots : sl + N ≤ R.slots) (hdg : decode cc pc = .ok (.anewarray ix, 3)) (k : ∀ q, Nw g own cc nL R h0 mc ms B (pc + 3) lv (.ref q :: rest) (ws ++ [(q, .inl (g.2.2.2 3, N, .inr (.inr (.inr (.inr (fun _ => none))))))]) (ce + 1) (sl + N)) : Nw g own cc nL R h0 mc ms B (pc) lv (.int n :: rest) ws (ce) (sl) := by
  intro p e s m args below meth c H locs ls C hin hO hP hD hS hl
  refine va_newq (C := RX4) (N' := N) C.1 C.2.1 C.2.2.2.2.1 (C.2.2.2.2.2.1 _ hw) hO C.2.2.2.2.2.2.2.1 hP hD hS nA_ge hn hN (by omega) hcells hslots hdg (fun q cA H1 hK1 hP1 hD1 hS1 => ?_)
  have ec := zT_eq 3 (c1 := g.2.2.2 3) rfl (fun U c h => by obtain ⟨kA, comp, h1, h2, h3, h4⟩ := h; exact h4) hK1
  subst ec
  exact k q p e s m args below meth c H1 locs ls C hin hO hP1 hD1 hS1 hl
theorem n_new {ix N ci : Nat} {C0 : String} {T : u_T} {fs : List Value} (hw : Cond.classLink own ix C0 ∈ zt ∧ Cond.instantiable C0 N ∈ zt ∧ Cond.initialized C0 ∈ zt) (hjn : ∀ w ∈ u_ws C0 T N, w ∈ zt) (ty : Nat → FieldType) (hty : ∀ k, k < N → parseFieldDescriptor (T k).2.2.1 = some (ty k)) (hc : vwCl[ci]? = some (C0, T, N)) (hfs : ∀ j, j < N → defaultValue (ty j) = vp_V fs j) (hcells : ce + 1 ≤ R.cells) (hslots : sl + N ≤ R.slots) (hdg : decode cc pc = .ok (.new ix, 3)) (k : ∀ q, Nw g own cc nL R h0 mc ms B (pc + 3) lv (.ref q :: rest) (ws ++ [(q, .inr (ci, fs))]) (ce + 1) (sl + N)) : Nw g own cc nL R h0 mc ms B (pc) lv (rest) ws (ce) (sl) := by
  intro p e s m args below meth c H locs ls C hin hO hP hD hS hl
  refine va_new (ci := ci) (fs := fs) C.1 C.2.1 C.2.2.2.2.2.1 hjn ty hty C.2.2.2.2.1 (C.2.2.2.2.2.1 _ hw.1) (C.2.2.2.2.2.1 _ hw.2.1) (C.2.2.2.2.2.1 _ hw.2.2) C.2.2.2.2.2.2.2.1 hP hD hS nA_ge hc hfs hcells hslots hdg (fun q H1 hP1 hD1 hS1 => ?_)
  exact k q p e s m args below meth c H1 locs ls C hin hO hP1 hD1 hS1 hl
theorem n_putF {a ci ix N k q0 : Nat} {C0 : String} {T : u_T} {nm ds : String} {v : Value} {fs : List Value} {ws2 : va_W} {ty : FieldType} (hw : Cond.fieldLink own ix own nm ds ∈ zt) (hjn : ∀ w ∈ u_ws C0 T N, w ∈ zt) (ty0 : Nat → FieldType) (hty : ∀ k, k < N → parseFieldDescriptor (T k).2.2.1 = some (ty0 k)) (hnm : ∀ a, a < N → ∀ b, b < N → a ≠ b → (T a).2.1 ≠ (T b).2.1) (he : ws[q0]? = some (a, .inr (ci, fs))) (hc : vwCl[ci]? = some (C0, T, N)) (hkN : k < N) (hT : T k = (own, nm, ds, true)) (hd : ty0 k = ty) (hfit : narrow ty v = v ∧ fits ty v = true) (hlen : k < fs.length) (h2 : ws.set q0 (a, .inr (ci, fs.set k v)) = ws2) (hdg : decode cc pc = .ok (.putfield ix, 3)) (kk : Nw g own cc nL R h0 mc ms B (pc + 3) lv (rest) ws2 (ce) (sl)) : Nw g own cc nL R h0 mc ms B (pc) lv (v :: .ref a :: rest) ws (ce) (sl) := by
  intro p e s m args below meth c H locs ls C hin hO hP hD hS hl
  have hq : Cond.fieldLink own ix (T k).1 (T k).2.1 (T k).2.2.1 ∈ zt := by rw [hT]; exact hw
  refine va_putF (D := g.2.1) (v := v) (ty := ty) C.1 C.2.1 (own := own) (ref := (T k).1) C.2.2.2.2.2.1 hjn ty0 hty hnm C.2.2.2.2.1 C.2.2.2.2.2.2.2.1 hP hD hS q0 he hc k hkN (C.2.2.2.2.2.1 _ hq) (fun _ h => h) (by rw [hT]) hin (by rw [hT]) (by rw [← hd]; exact hty k hkN) hfit.1 hfit.2 hlen hdg (fun H1 locs1 hP1 hD1 hS1 => ?_)
  rw [h2] at hP1 hD1
  exact kk p e s m args below meth c H1 locs1 ls C hin hO hP1 hD1 hS1 hl
theorem n_puti {a ci ix N k q0 : Nat} {C0 : String} {T : u_T} {nm ds : String} {v : Value} {fs : List Value} {ws2 : va_W} {ty : FieldType} (hw : Cond.fieldLink own ix own nm ds ∈ zt) (hjn : ∀ w ∈ u_ws C0 T N, w ∈ zt) (ty0 : Nat → FieldType) (hty : ∀ k, k < N → parseFieldDescriptor (T k).2.2.1 = some (ty0 k)) (hnm : ∀ a, a < N → ∀ b, b < N → a ≠ b → (T a).2.1 ≠ (T b).2.1) (he : ws[q0]? = some (a, .inr (ci, fs))) (hc : vwCl[ci]? = some (C0, T, N)) (hkN : k < N) (hT : T k = (own, nm, ds, false)) (hd : ty0 k = ty) (hfit : narrow ty v = v ∧ fits ty v = true) (hlen : k < fs.length) (h2 : ws.set q0 (a, .inr (ci, fs.set k v)) = ws2) (hdg : decode cc pc = .ok (.putfield ix, 3)) (kk : Nw g own cc nL R h0 mc ms B (pc + 3) lv (rest) ws2 (ce) (sl)) : Nw g own cc nL R h0 mc ms B (pc) lv (v :: .ref a :: rest) ws (ce) (sl) := by
  intro p e s m args below meth c H locs ls C hin hO hP hD hS hl
  have hq : Cond.fieldLink own ix (T k).1 (T k).2.1 (T k).2.2.1 ∈ zt := by rw [hT]; exact hw
  refine va_put (D := g.2.1) (v := v) (ty := ty) C.1 C.2.1 (own := own) (ref := (T k).1) C.2.2.2.2.2.1 hjn ty0 hty hnm C.2.2.2.2.1 C.2.2.2.2.2.2.2.1 hP hD hS q0 he hc k hkN (C.2.2.2.2.2.1 _ hq) (fun _ h => h) (by rw [hT])  (by rw [← hd]; exact hty k hkN) hfit.1 hfit.2 hlen hdg (fun H1 locs1 hP1 hD1 hS1 => ?_)
  rw [h2] at hP1 hD1
  exact kk p e s m args below meth c H1 locs1 ls C hin hO hP1 hD1 hS1 hl
theorem n_get {a ci ix N k q0 : Nat} {C0 : String} {T : u_T} {nm ds : String} {v : Value} {fs : List Value} {fb : Bool} (hw : Cond.fieldLink own ix own nm ds ∈ zt) (hjn : ∀ w ∈ u_ws C0 T N, w ∈ zt) (he : ws[q0]? = some (a, .inr (ci, fs))) (hc : vwCl[ci]? = some (C0, T, N)) (hkN : k < N) (hT : T k = (own, nm, ds, fb)) (hv : fs[k]? = some v) (hdg : decode cc pc = .ok (.getfield ix, 3)) (kk : Nw g own cc nL R h0 mc ms B (pc + 3) lv (v :: rest) ws (ce) (sl)) : Nw g own cc nL R h0 mc ms B (pc) lv (.ref a :: rest) ws (ce) (sl) := by
  intro p e s m args below meth c H locs ls C hin hO hP hD hS hl
  have hq : Cond.fieldLink own ix (T k).1 (T k).2.1 (T k).2.2.1 ∈ zt := by rw [hT]; exact hw
  exact va_get C.1 C.2.1 (own := own) (ref := (T k).1) C.2.2.2.2.2.1 hjn C.2.2.2.2.1 C.2.2.2.2.2.2.2.1 hP q0 he hc k hkN (C.2.2.2.2.2.1 _ hq) (fun _ h => h) hv hdg (kk p e s m args below meth c H locs ls C hin hO hP hD hS hl)
theorem n_alen {a q0 t0 : Nat} {cA : ClassId} {x : vp_A} {ty : FieldType} {v : Int32} (ha : ws[q0]? = some (a, .inl (cA, x))) (ht : (zT g)[t0]? = some (cA, ty)) (hv : Int32.ofNat x.1 = v) (hdg : decode cc pc = .ok (.arraylength, 1)) (kk : Nw g own cc nL R h0 mc ms B (pc + 1) lv (.int v :: rest) ws (ce) (sl)) : Nw g own cc nL R h0 mc ms B (pc) lv (.ref a :: rest) ws (ce) (sl) := by
  intro p e s m args below meth c H locs ls C hin hO hP hD hS hl
  exact va_alen C.1 C.2.1 C.2.2.2.2.2.2.2.1 hP q0 t0 ha ht hv hdg (kk p e s m args below meth c H locs ls C hin hO hP hD hS hl)
theorem n_iast {a q0 n : Nat} {f : Nat → Int32} {i x : Int32} {ws2 : va_W} (ha : ws[q0]? = some (a, .inl (g.2.2.2 1, n, .inl f))) (hi : zin i n = true) (h2 : ws.set q0 (a, .inl (g.2.2.2 1, n, .inl (upd f i.toNatClampNeg x))) = ws2) (hdg : decode cc pc = .ok (.iastore, 1)) (kk : Nw g own cc nL R h0 mc ms B (pc + 1) lv (rest) ws2 (ce) (sl)) : Nw g own cc nL R h0 mc ms B (pc) lv (.int x :: .int i :: .ref a :: rest) ws (ce) (sl) := by
  intro p e s m args below meth c H locs ls C hin hO hP hD hS hl
  refine va_iast C.1 C.2.1 C.2.2.2.2.2.2.2.1 hP hD hS q0 1 ha rfl (zin_vp hi) hdg (fun H1 locs1 hP1 hD1 hS1 => ?_)
  rw [h2] at hP1 hD1
  exact kk p e s m args below meth c H1 locs1 ls C hin hO hP1 hD1 hS1 hl
theorem n_aast {a q0 qk n v : Nat} {f : Nat → Option Nat} {vs : List Value} {i : Int32} {ws2 : va_W} (ha : ws[q0]? = some (a, .inl (g.2.2.2 3, n, .inr (.inr (.inr (.inr f)))))) (hv : ws[qk]? = some (v, .inr (4, vs))) (hi : zin i n = true) (h2 : ws.set q0 (a, .inl (g.2.2.2 3, n, .inr (.inr (.inr (.inr (va_up f i.toNatClampNeg (some v))))))) = ws2) (hdg : decode cc pc = .ok (.aastore, 1)) (kk : Nw g own cc nL R h0 mc ms B (pc + 1) lv (rest) ws2 (ce) (sl)) : Nw g own cc nL R h0 mc ms B (pc) lv (.ref v :: .int i :: .ref a :: rest) ws (ce) (sl) := by
  intro p e s m args below meth c H locs ls C hin hO hP hD hS hl
  refine va_astq C.1 C.2.1 C.2.2.2.2.2.2.2.1 hP hD hS q0 3 qk 4 (r := (RX4, TX4, 13)) ha rfl hv rfl (zin_vp hi) hdg (fun H1 locs1 hP1 hD1 hS1 => ?_)
  rw [h2] at hP1 hD1
  exact kk p e s m args below meth c H1 locs1 ls C hin hO hP1 hD1 hS1 hl
theorem n_ret (hB : B ws) (h1 : ce ≤ mc) (h2 : sl ≤ ms) (hdg : decode cc pc = .ok (.return_, 1)) : Nw g own cc nL R h0 mc ms B (pc) lv ([]) ws (ce) (sl) := by
  intro p e s m args below meth c H locs ls C hin hO hP hD hS hl
  refine W.widen (k := mc) (n := ms) h1 h2 ?_
  exact W.vret C.1 C.2.1 C.2.2.1 (fun t ht hW => ⟨rfl, ⟨ws, hB, by rw [ht]; exact hP, hD, va_K.moved hW.alike C.2.2.2.2.2.2.2.1⟩, hS.F ht⟩) hS.2.2 hdg C.2.2.2.2.2.2.1
theorem nB.blind {sz : Nat} {As : List Value} : FrameBlind (va_Pc As (nB g sz ws)) := fun a U gf mk q => by
  obtain ⟨q0, q1, qP, qD, qK, qN, qO⟩ := q
  exact ⟨q0, q1, qP, qD, va_K.moved (u := U) (U := U.calling gf mk a) (Vm.Alike.refl U.vm) qK, zNs.same (u := U) (U := U.calling gf mk a) rfl qN, va_AO.moved (u := U) (U := U.calling gf mk a) (Vm.Alike.refl U.vm) qO⟩
theorem n_run {p : Program} {e : Env} {s : State} {m : MethodId} {args : Array Value} {below : List Frame} {meth : Method} {c : Code} {H : Heap} {locs : List Loc} {Q : State → Prop} {ls : Array Slot} {st0 : List Value} {a : Array Value} {Bc : va_W → Prop} {q mcc msc : Nat} {e0 : va_E} {wr : va_W} {A0 : Nat → Prop}
    (hr : va_Run p g.1 e R s m args below meth c H locs ce sl mcc msc (F0 m pc ls st0) rest (nQ g Bc q a) (nA q H.size)) (hP : va_P g.2.1 vwCl ws H) (hD : va_D A0 ws) (hA : ∀ x, s.heap.size ≤ x → A0 x) (hS : va_S A0 s.heap H locs) (k : Nat) (isR : List Nat) (hk : ws[k]? = some (q, e0)) (hR : isR.map (fun i => ws[i]?) = wr.map some) (hnd : va_nd isR = true) (hdis : k ∉ isR)
    (kk : ∀ (w1 : va_W) (H1 : Heap) (locs1 : List Loc), Bc w1 → va_P g.2.1 vwCl (wr ++ w1) H1 → va_D A0 (wr ++ w1) → va_S A0 s.heap H1 locs1 → W p g.1 e R s m args below meth c H1 locs1 (ce + mcc) (sl + msc) Q (F0 m (pc + 3) ls rest)) : W p g.1 e R s m args below meth c H locs ce sl Q (F0 m pc ls st0) := by
  have hFx : ∀ x, nA q H.size x → A0 x := fun x hx => by
    rcases hx with rfl | hx
    · exact hD.2 k _ hk
    · exact hA x (Nat.le_trans hS.1 hx)
  have hE : ∀ x, va_A [(q, e0)] H.size x ↔ nA q H.size x := fun x => by
    constructor
    · rintro (⟨i, e1, hi⟩ | h)
      · have hz : i < 1 := (List.getElem?_eq_some_iff.mp hi).1
        rw [show i = 0 by omega] at hi
        cases hi
        exact Or.inl rfl
      · exact Or.inr h
    · rintro (rfl | h)
      · exact Or.inl ⟨0, e0, rfl⟩
      · exact Or.inr h
  intro T hT X
  obtain ⟨v, st₀, t, T', L, h0, X', hL, e1, e2, ⟨hv, ⟨w1, hB, hP1, hD1, hK1⟩, hz, hk1⟩, st⟩ := hr T hT X
  cases hv
  rw [h0] at hz hk1 hD1
  have hD1' : va_D (va_A [(q, e0)] H.size) w1 := hD1.weaken (fun _ x _ h => (hE x.1).mpr h)
  obtain ⟨hPj, hDj⟩ := va_join (wc := [(q, e0)]) (wr := wr) (w1 := w1) (H1 := t.heap) hP hD [k] isR (by simp [hk]) hR hnd (fun i hi h => by rw [List.mem_singleton.mp h] at hi; exact hdis hi) (fun x h1 h2 => hk1 x h1 (fun y => h2 ((hE x).mpr y))) (fun x hx => hFx x ((hE x).mp hx)) hP1 hD1'
  obtain ⟨t2, a1, b1⟩ := kk w1 T'.heap (locs ++ L) hB (by rw [e1]; exact hPj) hDj
    ⟨Nat.le_trans hS.1 (by rw [e1]; exact hz), fun x h1 h2 => by rw [e1, hk1 x (Nat.lt_of_lt_of_le h1 hS.1) (fun y => h2 (hFx x y))]; exact hS.2.1 x h1 h2, fun x hx => by
      rcases List.mem_append.mp hx with h | h
      · exact hS.2.2 x h
      · exact hFx _ (hL x h)⟩ T' rfl X'
  exact ⟨t2, st t2 a1, b1⟩
theorem n_callI {ix q n maxL mcc msc kp : Nat} {e0 : va_E} {As : List Value} {y : MethodName} {bytes : ByteArray} {rm : Room} {Bc : va_W → Prop} {wr : va_W} {st0 : List Value} (hc : ZcB own ix y bytes maxL none n ∧ Cond.methodLink own ix y ∈ zt ∧ y.name = "<init>" ∧ Cond.instanceMethod y ∈ zt) (hM : Nm g y bytes maxL rm q e0 As Bc mcc msc) (isR : List Nat) (hk : ws[kp]? = some (q, e0)) (hR : isR.map (fun i => ws[i]?) = wr.map some) (hnd : va_nd isR = true) (hdis : kp ∉ isR)
    (hrm : rm.cells = mcc ∧ rm.slots = msc) (hRm : rm.frames + 1 ≤ R.frames ∧ 8 + (maxL + 11) + rm.locals ≤ R.locals) (hroom : (rest.map fun v => v.category).sum ≤ 8) (hst : st0 = As.reverse ++ .ref q :: rest) (hn : As.length = n) (hdg : decode cc pc = .ok (.invokespecial ix, 3)) (hf : ce + mcc ≤ R.cells ∧ sl + msc ≤ R.slots)
    (kk : ∀ w1, Bc w1 → Nw g own cc nL R h0 mc ms B (pc + 3) lv (rest) (wr ++ w1) (ce + mcc) (sl + msc)) : Nw g own cc nL R h0 mc ms B (pc) lv (st0) ws (ce) (sl) := by
  intro p e s m args below meth c H locs ls C hin hO hP hD hS hl
  have hPq : va_P g.2.1 vwCl [(q, e0)] H := hP.sub [kp] (by simp [hk])
  have hDq : va_D (fun _ => True) [(q, e0)] := (hD.sub (ws' := [(q, e0)]) [kp] rfl (by simp [hk])).weaken (fun _ _ _ _ => trivial)
  refine n_run (va_runI (As := As) (rest := rest) (b := q) ⟨C.1, C.2.1, C.2.2.2.1, C.2.2.2.2.1, C.2.2.2.2.2.1⟩ (hM H.size) ⟨callB_of n C.2.2.2.2.2.1 (zG hc.1.1) rfl hrm.1 hrm.2 (C.2.2.2.2.2.1 _ hc.1.2.1) (C.2.2.2.2.2.1 _ hc.2.1) ⟨hc.1.2.2.1, hc.1.2.2.2.1, hc.1.2.2.2.2⟩ hRm, hc.2.2.1, C.2.2.2.2.2.1 _ hc.2.2.2⟩ ⟨nB.blind, fun U hU hW => ⟨rfl, by rw [hU], by rw [hU]; exact hPq, hDq, va_K.moved hW.alike C.2.2.2.2.2.2.2.1, zNs.warm hW C.2.2.2.2.2.2.2.2, va_AO.moved hW.alike hO⟩⟩ rfl hn hl.1 hst (lv_room hroom) hdg hf) hP hD nA_ge hS kp isR hk hR hnd hdis (fun w1 H1 locs1 hB hP1 hD1 hS1 => ?_)
  exact kk w1 hB p e s m args below meth c H1 locs1 ls C hin hO hP1 hD1 hS1 hl
theorem n_callIN {ix q n maxL mcc msc kp : Nat} {e0 : va_E} {As : List Value} {y : MethodName} {bytes : ByteArray} {rm : Room} {Bc : va_W → Prop} {wr : va_W} {st0 : List Value} {host : String} (hc : ZcB own ix y bytes maxL none n ∧ Cond.methodLinkNest own ix y host ∈ lw_tbl ∧ y.name = "<init>" ∧ Cond.instanceMethod y ∈ zt) (hM : Nm g y bytes maxL rm q e0 As Bc mcc msc) (isR : List Nat) (hk : ws[kp]? = some (q, e0)) (hR : isR.map (fun i => ws[i]?) = wr.map some) (hnd : va_nd isR = true) (hdis : kp ∉ isR)
    (hrm : rm.cells = mcc ∧ rm.slots = msc) (hRm : rm.frames + 1 ≤ R.frames ∧ 8 + (maxL + 11) + rm.locals ≤ R.locals) (hroom : (rest.map fun v => v.category).sum ≤ 8) (hst : st0 = As.reverse ++ .ref q :: rest) (hn : As.length = n) (hdg : decode cc pc = .ok (.invokespecial ix, 3)) (hf : ce + mcc ≤ R.cells ∧ sl + msc ≤ R.slots)
    (kk : ∀ w1, Bc w1 → Nw g own cc nL R h0 mc ms B (pc + 3) lv (rest) (wr ++ w1) (ce + mcc) (sl + msc)) : Nw g own cc nL R h0 mc ms B (pc) lv (st0) ws (ce) (sl) := by
  intro p e s m args below meth c H locs ls C hin hO hP hD hS hl
  have hPq : va_P g.2.1 vwCl [(q, e0)] H := hP.sub [kp] (by simp [hk])
  have hDq : va_D (fun _ => True) [(q, e0)] := (hD.sub (ws' := [(q, e0)]) [kp] rfl (by simp [hk])).weaken (fun _ _ _ _ => trivial)
  refine n_run (va_runIN (As := As) (rest := rest) (b := q) ⟨C.1, C.2.1, C.2.2.2.1, C.2.2.2.2.1, C.2.2.2.2.2.1⟩ (hM H.size) ⟨va_cnB n C.2.2.2.2.2.1 (zG hc.1.1) rfl hrm.1 hrm.2 (C.2.2.2.2.2.2.2.2 _ hc.2.1 rfl) (C.2.2.2.2.2.1 _ hc.1.2.1) ⟨hc.1.2.2.1, hc.1.2.2.2.1, hc.1.2.2.2.2⟩ hRm, hc.2.2.1, C.2.2.2.2.2.1 _ hc.2.2.2⟩ ⟨nB.blind, fun U hU hW => ⟨rfl, by rw [hU], by rw [hU]; exact hPq, hDq, va_K.moved hW.alike C.2.2.2.2.2.2.2.1, zNs.warm hW C.2.2.2.2.2.2.2.2, va_AO.moved hW.alike hO⟩⟩ rfl hn hl.1 hst (lv_room hroom) hdg hf) hP hD nA_ge hS kp isR hk hR hnd hdis (fun w1 H1 locs1 hB hP1 hD1 hS1 => ?_)
  exact kk w1 hB p e s m args below meth c H1 locs1 ls C hin hO hP1 hD1 hS1 hl
end N1
