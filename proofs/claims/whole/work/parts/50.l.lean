/-! THE CLAIM OUT OF ONE WALK OF THE LAW'S BODY. Your part is whole_start (and what it stands on); all else here is the same for every law, but numbers. -/
def R_law : String := "SungLinesLaw"
def lw_P (b : Addr) (xs : List Int32) (args : Array Value) (s : State) : Prop := args = #[.ref b] ∧ s.IntsAt b xs ∧ xs.length ≤ 2048 ∧ (Jvm.Cond.and given_1 narrow_1).before args s = true
def lw_Q (_ : Array Value) (s : State) (o : Outcome) (t : State) : Prop := o = .returned (some (.int 1)) ∧ Framed s o t [] 600000 7302250
def lw_Z (below : List Frame) (a : Array Value) (s : State) : State → Prop := fun t => ∃ o, t.status = .running ∧ Ended t below o ∧ lw_Q a s o t
/-- the law's own end, with 1 on the stack, nothing written that was there before, its room as the claim has it -/
theorem lw_ret {p : Program} {l : Launch} {e : Env} {s : State} {m : MethodId} {below : List Frame} {meth : Method} {c : Code} {b : Nat} (hx : p.tables.exec = Jvm.exec) (hb : c.code = code) (hr : meth.sig.returnType = ret) (hlocks : meth.locks = false) {pc : Nat} {H : Heap} {ls : Array Slot} (hdg : decode code pc = .ok (.ireturn, 1)) : W p l e room_1 s m #[Value.ref b] below meth c H [] 600000 7302250 (lw_Z below #[Value.ref b] s) (F0 m pc ls [.int 1]) := by
  intro T hT X
  obtain ⟨fs, hret, hrun, hended, hW, hframe⟩ := X.leave (v := some (.int 1)) (hlocks := hlocks) (fun h => by rw [hr] at h; cases h)
  have hmeth' : T.vm.method? m = some meth := X.method'
  refine ⟨T.setFrames fs, ?_, .returned (some (.int 1)), hrun, hended, rfl, ⟨_, rfl⟩, hW, hframe⟩
  jvm_step X.here [X.here.top, hx, hb, hdg, hmeth', hr, ret, narrow_b1]
  (try refine ⟨rfl, ?_⟩); (try refine ⟨rfl, ?_⟩)
  first | (intro acts; rw [hret _ acts rfl rfl rfl]) | rw [hret _ _ rfl rfl rfl]
  exact Steps.refl _
/-- what holds at the law's entry: the machine, the code, the tables' words (any of lw_tbl by 'hts w (by decide +kernel)'), the script of L ints xs at the cell b, what the Statement gives of the start (any of its parts by flat_of_before) -/
def lw_At (p : Program) (s : State) (m : MethodId) (meth : Method) (c : Code) (b L : Nat) (xs : Nat → Int32) : Prop :=
  p.tables.exec = Jvm.exec ∧ c.code = code ∧ meth.sig.returnType = ret ∧ c.maxLocals = 4 ∧ s.vm.findClass R_law = some m.cls ∧ (∀ w ∈ lw_tbl, w.before #[Value.ref b] s = true) ∧ va_X b L xs s s.heap ∧ b < s.heap.size ∧ meth.locks = false ∧ (Jvm.Cond.and given_1 narrow_1).before #[Value.ref b] s = true

def gMo (g : Gx) (am : Nat → Nat) : Gx := (g.1, g.2.1, am, g.2.2.2)
/-- the two worlds: the system's and the reference's, apart, both new since the law began -/
def lwC (g : Gx) (am : Nat → Nat) (s : State) : Prop := zI g ΛC ∧ zI (gMo g am) ΛM ∧ (∀ i j, i < 83 → j < 13 → g.2.2.1 i ≠ am j) ∧ (∀ k, k < 83 → s.heap.size ≤ g.2.2.1 k) ∧ (∀ k, k < 13 → s.heap.size ≤ am k) ∧ va_K g.2.1 vwCl (zT g) s ∧ zNs s
def Lw (g : Gx) (am : Nat → Nat) (b L : Nat) (xs : Nat → Int32) (pc : Nat) (lv : List (Nat × Value)) (st : List Value) (μC μM : Mm) : Prop :=
  ∀ (p : Program) (e : Env) (s : State) (m : MethodId) (below : List Frame) (meth : Method) (c : Code) (H : Heap) (locs : List Loc) (ls : Array Slot),
    lw_At p s m meth c b L xs → lwC g am s → va_P g.2.1 vwCl (zW g ΛC μC) H → va_P g.2.1 vwCl (zW (gMo g am) ΛM μM) H → va_S (fun q : Nat => s.heap.size ≤ q) s.heap H locs → lv_has ls 4 lv →
    W p g.1 e room_1 s m #[Value.ref b] below meth c H locs 600000 7302250 (lw_Z below #[Value.ref b] s) (F0 m pc ls st)
section L1
variable {g : Gx} {am : Nat → Nat} {b L : Nat} {xs : Nat → Int32} {pc : Nat} {lv lv2 : List (Nat × Value)} {rest : List Value} {μC μM : Mm}
theorem lA_ts {p : Program} {s : State} {m : MethodId} {meth : Method} {c : Code} (C : lw_At p s m meth c b L xs) : ∀ w ∈ zt, w.before #[Value.ref b] s = true := fun w hw => C.2.2.2.2.2.1 w (List.mem_filter.mp hw).1
theorem l_iconst {n : Int} {v : Int32} (hdg : decode code pc = .ok (.iconst n, 1)) (hv : Int32.ofInt n = v) (k : Lw g am b L xs (pc + 1) lv (.int v :: rest) μC μM) : Lw g am b L xs (pc) lv (rest) μC μM := by
  intro p e s m below meth c H locs ls C K hP hP2 hS hl
  exact lv_iconst C.1 C.2.1 hdg hv (k p e s m below meth c H locs ls C K hP hP2 hS hl)
theorem l_bipush {n : Int} {v : Int32} (hdg : decode code pc = .ok (.bipush n, 2)) (hv : (Int8.ofInt n).toInt32 = v) (k : Lw g am b L xs (pc + 2) lv (.int v :: rest) μC μM) : Lw g am b L xs (pc) lv (rest) μC μM := by
  intro p e s m below meth c H locs ls C K hP hP2 hS hl
  exact lv_bipush C.1 C.2.1 hdg hv (k p e s m below meth c H locs ls C K hP hP2 hS hl)
theorem l_ldc2 {ix : Nat} {v : Int64} (hw : Cond.constantLong R_law ix v ∈ zt) (hdg : decode code pc = .ok (.ldc2_w ix, 3)) (k : Lw g am b L xs (pc + 3) lv (.long v :: rest) μC μM) : Lw g am b L xs (pc) lv (rest) μC μM := by
  intro p e s m below meth c H locs ls C K hP hP2 hS hl
  exact lv_ldc2 C.1 C.2.1 C.2.2.2.2.1 (lA_ts C _ hw) hdg (k p e s m below meth c H locs ls C K hP hP2 hS hl)
theorem l_iload_n {k : Fin 4} {i : Nat} {x : Int32} (j : Nat) (hdg : decode code pc = .ok (.iload_n k, 1)) (hi : (k : Nat) = i) (hj : lv[j]? = some (i, .int x)) (k : Lw g am b L xs (pc + 1) lv (.int x :: rest) μC μM) : Lw g am b L xs (pc) lv (rest) μC μM := by
  intro p e s m below meth c H locs ls C K hP hP2 hS hl
  exact lv_iload_n C.1 C.2.1 hdg hi (lv_at hl j hj) (k p e s m below meth c H locs ls C K hP hP2 hS hl)
theorem l_aload_n {k : Fin 4} {i : Nat} {x : Nat} (j : Nat) (hdg : decode code pc = .ok (.aload_n k, 1)) (hi : (k : Nat) = i) (hj : lv[j]? = some (i, .ref x)) (k : Lw g am b L xs (pc + 1) lv (.ref x :: rest) μC μM) : Lw g am b L xs (pc) lv (rest) μC μM := by
  intro p e s m below meth c H locs ls C K hP hP2 hS hl
  exact lv_aload_n C.1 C.2.1 hdg hi (lv_at hl j hj) (k p e s m below meth c H locs ls C K hP hP2 hS hl)
theorem l_iinc {i : Nat} {n : Int} {x v : Int32} (j : Nat) (ks : List Nat) (hdg : decode code pc = .ok (.iinc i n, 3)) (hj : lv[j]? = some (i, .int x)) (hv : x + Int32.ofInt n = v) (hn : i < 4) (hl2 : lv_pick ((i, Value.int v) :: lv.filter (fun q => !(q.1 == i) && !(q.1 + 1 == i && q.2.category == 2))) ks = lv2) (k : Lw g am b L xs (pc + 3) lv2 (rest) μC μM) : Lw g am b L xs (pc) lv (rest) μC μM := by
  intro p e s m below meth c H locs ls C K hP hP2 hS hl
  exact lv_iinc C.1 C.2.1 hdg hl hj hv hn rfl (fun ls1 hl1 => k p e s m below meth c H locs ls1 C K hP hP2 hS (lv_sub hl1 ks hl2))
theorem l_iadd {x y : Int32} (hdg : decode code pc = .ok (.iadd, 1)) (k : Lw g am b L xs (pc + 1) lv (.int (x + y) :: rest) μC μM) : Lw g am b L xs (pc) lv (.int y :: .int x :: rest) μC μM := by
  intro p e s m below meth c H locs ls C K hP hP2 hS hl
  exact lv_iadd C.1 C.2.1 hdg (k p e s m below meth c H locs ls C K hP hP2 hS hl)
theorem l_isub {x y : Int32} (hdg : decode code pc = .ok (.isub, 1)) (k : Lw g am b L xs (pc + 1) lv (.int (x - y) :: rest) μC μM) : Lw g am b L xs (pc) lv (.int y :: .int x :: rest) μC μM := by
  intro p e s m below meth c H locs ls C K hP hP2 hS hl
  exact lv_isub C.1 C.2.1 hdg (k p e s m below meth c H locs ls C K hP hP2 hS hl)
theorem l_iand {x y : Int32} (hdg : decode code pc = .ok (.iand, 1)) (k : Lw g am b L xs (pc + 1) lv (.int (x &&& y) :: rest) μC μM) : Lw g am b L xs (pc) lv (.int y :: .int x :: rest) μC μM := by
  intro p e s m below meth c H locs ls C K hP hP2 hS hl
  exact lv_iand C.1 C.2.1 hdg (k p e s m below meth c H locs ls C K hP hP2 hS hl)
theorem l_land {x y : Int64} (hdg : decode code pc = .ok (.land, 1)) (k : Lw g am b L xs (pc + 1) lv (.long (x &&& y) :: rest) μC μM) : Lw g am b L xs (pc) lv (.long y :: .long x :: rest) μC μM := by
  intro p e s m below meth c H locs ls C K hP hP2 hS hl
  exact lv_land C.1 C.2.1 hdg (k p e s m below meth c H locs ls C K hP hP2 hS hl)
theorem l_lor {x y : Int64} (hdg : decode code pc = .ok (.lor, 1)) (k : Lw g am b L xs (pc + 1) lv (.long (x ||| y) :: rest) μC μM) : Lw g am b L xs (pc) lv (.long y :: .long x :: rest) μC μM := by
  intro p e s m below meth c H locs ls C K hP hP2 hS hl
  exact lv_lor C.1 C.2.1 hdg (k p e s m below meth c H locs ls C K hP hP2 hS hl)
theorem l_i2l {x : Int32} (hdg : decode code pc = .ok (.i2l, 1)) (k : Lw g am b L xs (pc + 1) lv (.long x.toInt64 :: rest) μC μM) : Lw g am b L xs (pc) lv (.int x :: rest) μC μM := by
  intro p e s m below meth c H locs ls C K hP hP2 hS hl
  exact lv_i2l C.1 C.2.1 hdg rfl (k p e s m below meth c H locs ls C K hP hP2 hS hl)
theorem l_lshl {x : Int64} {y : Int32} (hdg : decode code pc = .ok (.lshl, 1)) (k : Lw g am b L xs (pc + 1) lv (.long (x <<< (y.toInt64 &&& 63)) :: rest) μC μM) : Lw g am b L xs (pc) lv (.int y :: .long x :: rest) μC μM := by
  intro p e s m below meth c H locs ls C K hP hP2 hS hl
  exact lv_lshl C.1 C.2.1 hdg rfl (k p e s m below meth c H locs ls C K hP hP2 hS hl)
theorem l_goto {off : Int} {tgt : Nat} (hdg : decode code pc = .ok (.goto off, 3)) (ht : (pc : Int) + off = (tgt : Int)) (k : Lw g am b L xs (tgt) lv (rest) μC μM) : Lw g am b L xs (pc) lv (rest) μC μM := by
  intro p e s m below meth c H locs ls C K hP hP2 hS hl
  exact lv_goto C.1 C.2.1 hdg ht (k p e s m below meth c H locs ls C K hP hP2 hS hl)
theorem l_icmp_gt {x y : Int32} {off : Int} {tgt : Nat} (hdg : decode code pc = .ok (.if_icmp .gt off, 3)) (ht : (pc : Int) + off = (tgt : Int)) (kt : y < x → Lw g am b L xs (tgt) lv (rest) μC μM) (kf : ¬ y < x → Lw g am b L xs (pc + 3) lv (rest) μC μM) : Lw g am b L xs (pc) lv (.int y :: .int x :: rest) μC μM := by
  intro p e s m below meth c H locs ls C K hP hP2 hS hl
  exact lv_icmp_gt C.1 C.2.1 hdg ht (fun h => kt h p e s m below meth c H locs ls C K hP hP2 hS hl) (fun h => kf h p e s m below meth c H locs ls C K hP hP2 hS hl)
theorem l_icmp_eq {x y : Int32} {off : Int} {tgt : Nat} (hdg : decode code pc = .ok (.if_icmp .eq off, 3)) (ht : (pc : Int) + off = (tgt : Int)) (h : x = y) (k : Lw g am b L xs (tgt) lv (rest) μC μM) : Lw g am b L xs (pc) lv (.int y :: .int x :: rest) μC μM := by
  intro p e s m below meth c H locs ls C K hP hP2 hS hl
  exact lv_icmp_eq C.1 C.2.1 hdg ht (fun _ => k p e s m below meth c H locs ls C K hP hP2 hS hl) (fun q => absurd h q)
theorem l_lcmp_eq {x y : Int64} {off : Int} {tgt : Nat} (hdg : decode code pc = .ok (.lcmp, 1)) (hdg2 : decode code (pc + 1) = .ok (.ifCond .eq off, 3)) (ht : ((pc + 1 : Nat) : Int) + off = (tgt : Int)) (h : x = y) (k : Lw g am b L xs (tgt) lv (rest) μC μM) : Lw g am b L xs (pc) lv (.long y :: .long x :: rest) μC μM := by
  intro p e s m below meth c H locs ls C K hP hP2 hS hl
  exact W.lcmp C.1 C.2.1 hdg (lv_if_eq C.1 C.2.1 hdg2 ht (fun _ => k p e s m below meth c H locs ls C K hP hP2 hS hl) (fun q => absurd ((lg_cmp_eq x y).mpr h) q))
theorem l_sld {i : Int32} (hin : zin i L = true) (hdg : decode code pc = .ok (.iaload, 1)) (k : Lw g am b L xs (pc + 1) lv (.int (xs i.toNatClampNeg) :: rest) μC μM) : Lw g am b L xs (pc) lv (.int i :: .ref b :: rest) μC μM := by
  intro p e s m below meth c H locs ls C K hP hP2 hS hl
  exact va_sld C.1 C.2.1 C.2.2.2.2.2.2.1 C.2.2.2.2.2.2.2.1 (Nat.not_le.mpr C.2.2.2.2.2.2.2.1) hS (zin_vp hin) hdg (k p e s m below meth c H locs ls C K hP hP2 hS hl)
theorem l_slen (hdg : decode code pc = .ok (.arraylength, 1)) (k : Lw g am b L xs (pc + 1) lv (.int (Int32.ofNat L) :: rest) μC μM) : Lw g am b L xs (pc) lv (.ref b :: rest) μC μM := by
  intro p e s m below meth c H locs ls C K hP hP2 hS hl
  exact va_slen C.1 C.2.1 C.2.2.2.2.2.2.1 C.2.2.2.2.2.2.2.1 (Nat.not_le.mpr C.2.2.2.2.2.2.2.1) hS hdg (k p e s m below meth c H locs ls C K hP hP2 hS hl)
theorem l_tabIn {dflt lo hi : Int} {offs : Array Int} {len : Nat} {x : Int32} {off : Int} {tgt : Nat} (hdg : decode code pc = .ok (.tableswitch dflt lo hi offs, len)) (h1 : ¬ x.toInt < lo) (h2 : ¬ hi < x.toInt) (ho1 : offs[(x.toInt - lo).toNat]? = some off) (ht : (pc : Int) + off = (tgt : Int)) (k : Lw g am b L xs (tgt) lv (rest) μC μM) : Lw g am b L xs (pc) lv (.int x :: rest) μC μM := by
  intro p e s m below meth c H locs ls C K hP hP2 hS hl
  exact lv_tableIn C.1 C.2.1 hdg h1 h2 ho1 ht (k p e s m below meth c H locs ls C K hP hP2 hS hl)
theorem l_tabOut {dflt lo hi : Int} {offs : Array Int} {len : Nat} {x : Int32} {tgt : Nat} (hdg : decode code pc = .ok (.tableswitch dflt lo hi offs, len)) (h : x.toInt < lo ∨ hi < x.toInt) (ht : (pc : Int) + dflt = (tgt : Int)) (k : Lw g am b L xs (tgt) lv (rest) μC μM) : Lw g am b L xs (pc) lv (.int x :: rest) μC μM := by
  intro p e s m below meth c H locs ls C K hP hP2 hS hl
  exact lv_tableOut C.1 C.2.1 hdg h ht (k p e s m below meth c H locs ls C K hP hP2 hS hl)
theorem l_ret (hdg : decode code pc = .ok (.ireturn, 1)) : Lw g am b L xs (pc) lv ([.int 1]) μC μM := by
  intro p e s m below meth c H locs ls C K hP hP2 hS hl
  refine va_forget (fun q hq => hS.2.2 q hq) ?_
  exact lw_ret C.1 C.2.1 C.2.2.1 C.2.2.2.2.2.2.2.2.1 hdg
theorem l_run {p : Program} {e : Env} {s : State} {m : MethodId} {below : List Frame} {meth : Method} {c : Code} {H : Heap} {locs : List Loc} {Q : State → Prop} {g1 : Gx} {Λ : Ly} {ls : Array Slot} {st0 : List Value} {rv : Option Value} {μ1 : Mm} {a : Array Value} {wo : va_W} {ce sl : Nat}
    (hr : va_Run p g1.1 e room_1 s m #[Value.ref b] below meth c H locs ce sl 0 0 (F0 m pc ls st0) rest (zQ g1 Λ rv μ1 a) (zA g1 Λ)) (hS : va_S (fun q : Nat => s.heap.size ≤ q) s.heap H locs) (hn : ∀ q, zA g1 Λ q → s.heap.size ≤ q) (ho : va_P g1.2.1 vwCl wo H) (hd : ∀ (k : Nat) (q : Nat × va_E), wo[k]? = some q → ¬ zA g1 Λ q.1)
    (kk : ∀ (H1 : Heap) (locs1 : List Loc), va_P g1.2.1 vwCl (zW g1 Λ μ1) H1 → va_P g1.2.1 vwCl wo H1 → va_S (fun q : Nat => s.heap.size ≤ q) s.heap H1 locs1 → W p g1.1 e room_1 s m #[Value.ref b] below meth c H1 locs1 ce sl Q (F0 m (pc + 3) ls (rv.toList ++ rest))) : W p g1.1 e room_1 s m #[Value.ref b] below meth c H locs ce sl Q (F0 m pc ls st0) := by
  intro T hT X
  obtain ⟨v, st₀, t, T', L, h0, X', hL, e1, e2, ⟨hv, hP, hK, hz, hk⟩, st⟩ := hr T hT X
  cases hv
  rw [h0] at hz hk
  have ho1 : va_P g1.2.1 vwCl wo T'.heap := ho.kept (fun k q hq => by rw [e1]; exact hk q.1 ((ho k q hq).lt) (hd k q hq))
  obtain ⟨t2, a1, b1⟩ := kk T'.heap (locs ++ L) (by rw [e1]; exact hP) ho1
    ⟨Nat.le_trans hS.1 (by rw [e1]; exact hz), fun q h1 h2 => by rw [e1, hk q (Nat.lt_of_lt_of_le h1 hS.1) (fun y => h2 (hn q y))]; exact hS.2.1 q h1 h2, fun q hq => by
      rcases List.mem_append.mp hq with h | h
      · exact hS.2.2 q h
      · exact hn _ (hL q h)⟩ T' rfl X'
  exact ⟨t2, st t2 a1, b1⟩
theorem l_callC {β : Type} {enb : β → Option Value} {ix n maxL : Nat} {y : MethodName} {bytes : ByteArray} {retb : Option FieldType} {rm : Room} {As st0 : List Value} {ob : Option (β × Mm)} {r : β} {μ1 : Mm} (hc : ZcV R_law ix y bytes maxL retb n) (hM : Zm g ΛC enb y bytes maxL retb rm (.ref (g.2.2.1 0) :: As) μC ob) (hob : ob = some (r, μ1)) (hq1 : RX6 = y.cls)
    (hrm : rm.cells = 0 ∧ rm.slots = 0) (hR : rm.frames + 1 ≤ room_1.frames ∧ 8 + (maxL + 11) + rm.locals ≤ room_1.locals) (hroom : (rest.map fun v => v.category).sum ≤ 8) (hst : st0 = As.reverse ++ .ref (g.2.2.1 0) :: rest) (hn : As.length = n) (hdg : decode code pc = .ok (.invokevirtual ix, 3))
    (kk : Lw g am b L xs (pc + 3) lv ((enb r).toList ++ rest) μ1 μM) : Lw g am b L xs (pc) lv (st0) μC μM := by
  subst hob
  intro p e s m below meth c H locs ls C K hP hP2 hS hl
  have hK1 : va_K g.2.1 vwCl (zT g) s := K.2.2.2.2.2.1
  have hcell := va_recv hK1 hP (ci := 6) (q := (RX6, TX6, 7)) rfl (zW_of (by decide) (zE_o kdC_0))
  have hcell : ∃ cell : Cell, H[g.2.2.1 0]? = some cell ∧ cell.vm.isStatics = false ∧ s.vm.findClass y.cls = some cell.cls := by rw [← hq1]; exact hcell
  have cb : CallB room_1 s #[Value.ref b] R_law ix y bytes maxL retb (Cond.code y bytes maxL retb :: zt) rm 0 0 n := callB_of n (lA_ts C) (zG hc.1.1) rfl hrm.1 hrm.2 (lA_ts C _ hc.1.2.1) (lA_ts C _ hc.2.1) ⟨hc.1.2.2.1, hc.1.2.2.2.1, hc.1.2.2.2.2⟩ hR
  refine l_run (g1 := g) (Λ := ΛC) (μ1 := μ1) (rest := rest) (va_runV (As := As) (rest := rest) (b := g.2.2.1 0) (C := y.cls) ⟨C.1, C.2.1, C.2.2.2.1, C.2.2.2.2.1, lA_ts C⟩ (hM K.1 r μ1 rfl) ⟨cb, lA_ts C _ hc.2.2.1, lA_ts C _ hc.2.2.2⟩ ⟨zB.blind, hcell, fun U hU hW => ⟨rfl, by rw [hU]; exact hP, va_K.moved hW.alike hK1, zNs.warm hW K.2.2.2.2.2.2⟩⟩ rfl hn hl.1 hst (lv_room hroom) hdg ⟨Nat.le_refl _, Nat.le_refl _⟩) hS (fun q hq => by obtain ⟨k, hk, rfl⟩ := hq; exact K.2.2.2.1 k hk) hP2 (fun k q hq hz => by obtain ⟨h1, rfl⟩ := zW_lt hq; obtain ⟨j, hj, ej⟩ := hz; exact K.2.2.1 j k hj h1 ej.symm) (fun H1 locs1 hP1 hPo1 hS1 => ?_)
  exact kk p e s m below meth c H1 locs1 ls C K hP1 hPo1 hS1 hl
theorem l_callM {β : Type} {enb : β → Option Value} {ix n maxL : Nat} {y : MethodName} {bytes : ByteArray} {retb : Option FieldType} {rm : Room} {As st0 : List Value} {ob : Option (β × Mm)} {r : β} {μ1 : Mm} (hc : ZcV R_law ix y bytes maxL retb n) (hM : Zm (gMo g am) ΛM enb y bytes maxL retb rm (.ref ((gMo g am).2.2.1 0) :: As) μM ob) (hob : ob = some (r, μ1)) (hq1 : RX7 = y.cls)
    (hrm : rm.cells = 0 ∧ rm.slots = 0) (hR : rm.frames + 1 ≤ room_1.frames ∧ 8 + (maxL + 11) + rm.locals ≤ room_1.locals) (hroom : (rest.map fun v => v.category).sum ≤ 8) (hst : st0 = As.reverse ++ .ref ((gMo g am).2.2.1 0) :: rest) (hn : As.length = n) (hdg : decode code pc = .ok (.invokevirtual ix, 3))
    (kk : Lw g am b L xs (pc + 3) lv ((enb r).toList ++ rest) μC μ1) : Lw g am b L xs (pc) lv (st0) μC μM := by
  subst hob
  intro p e s m below meth c H locs ls C K hP hP2 hS hl
  have hK1 : va_K (gMo g am).2.1 vwCl (zT (gMo g am)) s := K.2.2.2.2.2.1
  have hcell := va_recv hK1 hP2 (ci := 7) (q := (RX7, TX7, 23)) rfl (zW_of (by decide) (zE_o kdM_0))
  have hcell : ∃ cell : Cell, H[(gMo g am).2.2.1 0]? = some cell ∧ cell.vm.isStatics = false ∧ s.vm.findClass y.cls = some cell.cls := by rw [← hq1]; exact hcell
  have cb : CallB room_1 s #[Value.ref b] R_law ix y bytes maxL retb (Cond.code y bytes maxL retb :: zt) rm 0 0 n := callB_of n (lA_ts C) (zG hc.1.1) rfl hrm.1 hrm.2 (lA_ts C _ hc.1.2.1) (lA_ts C _ hc.2.1) ⟨hc.1.2.2.1, hc.1.2.2.2.1, hc.1.2.2.2.2⟩ hR
  refine l_run (g1 := (gMo g am)) (Λ := ΛM) (μ1 := μ1) (rest := rest) (va_runV (As := As) (rest := rest) (b := (gMo g am).2.2.1 0) (C := y.cls) ⟨C.1, C.2.1, C.2.2.2.1, C.2.2.2.2.1, lA_ts C⟩ (hM K.2.1 r μ1 rfl) ⟨cb, lA_ts C _ hc.2.2.1, lA_ts C _ hc.2.2.2⟩ ⟨zB.blind, hcell, fun U hU hW => ⟨rfl, by rw [hU]; exact hP2, va_K.moved hW.alike hK1, zNs.warm hW K.2.2.2.2.2.2⟩⟩ rfl hn hl.1 hst (lv_room hroom) hdg ⟨Nat.le_refl _, Nat.le_refl _⟩) hS (fun q hq => by obtain ⟨k, hk, rfl⟩ := hq; exact K.2.2.2.2.1 k hk) hP (fun k q hq hz => by obtain ⟨h1, rfl⟩ := zW_lt hq; obtain ⟨j, hj, ej⟩ := hz; exact K.2.2.1 k j h1 hj ej) (fun H1 locs1 hP1 hPo1 hS1 => ?_)
  exact kk p e s m below meth c H1 locs1 ls C K hPo1 hP1 hS1 hl
end L1
