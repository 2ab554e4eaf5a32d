/-! The layer Z: a method of the system over a memory of ints and longs by place; a world of a fixed shape; Zw: from here the method comes to its end as the pure value o says -/
def zt : List Cond := lw_tbl.filter goodWord
theorem zt_of {w : Cond} (i : Nat) (h : lw_tbl[i]? = some w) (hg : goodWord w = true) : w ∈ zt := List.mem_filter.mpr ⟨List.mem_of_getElem? h, hg⟩
theorem zt_in {ws : List Cond} (h : ∀ w ∈ ws, w ∈ lw_tbl) (hg : ws.all goodWord = true) : ∀ w ∈ ws, w ∈ zt := fun w hw => List.mem_filter.mpr ⟨h w hw, List.all_eq_true.mp hg w hw⟩
theorem zG {w : Cond} (h : w ∈ zt) : GoodIn zt (w :: zt) := by
  have k : ∀ x ∈ zt, x ∈ zt ∧ ((x.onTables && x.keeps) = true ∨ ∃ ty, x = .arrayClass ty) := fun x hx => ⟨hx, good_of_word (List.mem_filter.mp hx).2⟩
  intro x hx
  rcases List.mem_cons.mp hx with rfl | hx
  · exact k _ h
  · exact k _ hx
def isNest (w : Cond) : Bool := match w with
  | .methodLinkNest _ _ _ _ => true
  | _ => false
def zNs (U : State) : Prop := ∀ w ∈ lw_tbl, isNest w = true → va_Nw w U
theorem zNs.warm {s U : State} (hW : s.WarmedH U.vm) (h : zNs s) : zNs U := by
  intro w hw hn
  have h1 := h w hw hn
  cases w <;> first | exact va_Nw.warmM hW h1 | (simp [isNest] at hn; done)
theorem zNs.same {u U : State} (e : u.vm = U.vm) (h : zNs u) : zNs U := by
  intro w hw hn
  have h1 := h w hw hn
  cases w <;> first | exact va_Nw.same rfl e h1 | (simp [isNest] at hn; done)
def zin (i : Int32) (n : Nat) : Bool := decide (¬ (i < 0 ∨ n ≤ i.toNatClampNeg))
theorem zin_vp {i : Int32} {n : Nat} (h : zin i n = true) : vp_in i n := (of_decide_eq_true h : ¬ (i < 0 ∨ n ≤ i.toNatClampNeg))
theorem vp_zin {i : Int32} {n : Nat} (h : vp_in i n) : zin i n = true := decide_eq_true (show ¬ (i < 0 ∨ n ≤ i.toNatClampNeg) from h)
abbrev Mm : Type := (Nat → Nat → Int32) × (Nat → Nat → Int64)
def si (μ : Mm) (a i : Nat) (v : Int32) : Mm := (va_up μ.1 a (upd (μ.1 a) i v), μ.2)
def sj (μ : Mm) (a i : Nat) (v : Int64) : Mm := (μ.1, va_up μ.2 a (vp_updL (μ.2 a) i v))
def sc (μ : Mm) (a b sp dp n : Nat) : Mm := (va_up μ.1 b (va_cpy (μ.1 a) (μ.1 b) sp dp n), μ.2)
abbrev Ly : Type := Nat × (Nat → Nat × Nat) × (Nat → List (Nat × Nat)) × (Nat → Nat → Nat)
abbrev Gx : Type := Launch × va_G × (Nat → Nat) × (Nat → ClassId)
def zF (g : Gx) (μ : Mm) (k : Nat) (x : (Nat × Nat) × Nat) : Value := match x.1.1 with
  | 0 => .ref (g.2.2.1 x.1.2)
  | 1 => .int (μ.1 k x.2)
  | _ => .long (μ.2 k x.2)
def zE (g : Gx) (Λ : Ly) (μ : Mm) (k : Nat) : va_E := match (Λ.2.1 k).1 with
  | 0 => .inl (g.2.2.2 1, (Λ.2.1 k).2, .inl (μ.1 k))
  | 1 => .inl (g.2.2.2 2, (Λ.2.1 k).2, .inr (.inl (μ.2 k)))
  | 2 => .inl (g.2.2.2 0, (Λ.2.1 k).2, .inl (μ.1 k))
  | 3 => .inl (g.2.2.2 3, (Λ.2.1 k).2, .inr (.inr (.inr (.inr (fun i => some (g.2.2.1 (Λ.2.2.2 k i)))))))
  | _ => .inr ((Λ.2.1 k).2, (Λ.2.2.1 k).zipIdx.map (zF g μ k))
def zW (g : Gx) (Λ : Ly) (μ : Mm) : va_W := (List.range Λ.1).map (fun k => (g.2.2.1 k, zE g Λ μ k))
def zT (g : Gx) : List (ClassId × FieldType) := [(g.2.2.2 0, .byte), (g.2.2.2 1, .int), (g.2.2.2 2, .long), (g.2.2.2 3, .object RX4)]
def zA (g : Gx) (Λ : Ly) : Nat → Prop := fun q => ∃ k, k < Λ.1 ∧ q = g.2.2.1 k
def zI (g : Gx) (Λ : Ly) : Prop := ∀ i j, i < Λ.1 → j < Λ.1 → g.2.2.1 i = g.2.2.1 j → i = j
def enI (v : Int32) : Option Value := some (.int v)
def enJ (v : Int64) : Option Value := some (.long v)
def enV (_ : Unit) : Option Value := none
def bd {α β : Type} (o : Option (α × Mm)) (k : α → Mm → Option (β × Mm)) : Option (β × Mm) := o.bind (fun q => k q.1 q.2)
def zQ (g : Gx) (Λ : Ly) (rv : Option Value) (μ : Mm) : Array Value → State → Outcome → State → Prop := fun _ st oc t => oc = .returned rv ∧ va_P g.2.1 vwCl (zW g Λ μ) t.heap ∧ va_K g.2.1 vwCl (zT g) t ∧ va_F (zA g Λ) st t
def zB (g : Gx) (Λ : Ly) (μ : Mm) (U : State) : Prop := va_P g.2.1 vwCl (zW g Λ μ) U.heap ∧ va_K g.2.1 vwCl (zT g) U ∧ zNs U
def zC (g : Gx) (own : String) (cc : ByteArray) (nL : Nat) (ret : Option FieldType) (p : Program) (s : State) (m : MethodId) (args : Array Value) (meth : Method) (c : Code) : Prop :=
  p.tables.exec = Jvm.exec ∧ c.code = cc ∧ meth.sig.returnType = ret ∧ c.maxLocals = nL ∧ s.vm.findClass own = some m.cls ∧ (∀ w ∈ zt, w.before args s = true) ∧ meth.locks = false ∧ va_K g.2.1 vwCl (zT g) s ∧ zNs s
def Zm {α : Type} (g : Gx) (Λ : Ly) (en : α → Option Value) (y : MethodName) (cc : ByteArray) (nL : Nat) (ret : Option FieldType) (rm : Room) (As : List Value) (μ : Mm) (o : Option (α × Mm)) : Prop :=
  zI g Λ → ∀ r μ', o = some (r, μ') → Met g.1 y (Cond.code y cc nL ret :: zt) rm (va_Pc As (zB g Λ μ)) (zQ g Λ (en r) μ') 0 0 (zA g Λ)
def Zw {α : Type} (g : Gx) (Λ : Ly) (en : α → Option Value) (own : String) (cc : ByteArray) (nL : Nat) (ret : Option FieldType) (R : Room) (pc : Nat) (lv : List (Nat × Value)) (st : List Value) (μ : Mm) (o : Option (α × Mm)) : Prop :=
  zI g Λ → ∀ r μ', o = some (r, μ') → ∀ (p : Program) (e : Env) (s : State) (m : MethodId) (args : Array Value) (below : List Frame) (meth : Method) (c : Code) (H : Heap) (locs : List Loc) (ls : Array Slot),
    zC g own cc nL ret p s m args meth c → va_P g.2.1 vwCl (zW g Λ μ) H → va_S (zA g Λ) s.heap H locs → lv_has ls nL lv →
    W p g.1 e R s m args below meth c H locs 0 0 (MQ below (zQ g Λ (en r) μ') args s 0 0 (zA g Λ)) (F0 m pc ls st)
theorem zW_at {g : Gx} {Λ : Ly} {μ : Mm} {k : Nat} (h : k < Λ.1) : (zW g Λ μ)[k]? = some (g.2.2.1 k, zE g Λ μ k) := by
  simp [zW, List.getElem?_map, List.getElem?_range h]
theorem zW_of {g : Gx} {Λ : Ly} {μ : Mm} {k : Nat} {e : va_E} (h : k < Λ.1) (he : zE g Λ μ k = e) : (zW g Λ μ)[k]? = some (g.2.2.1 k, e) := by rw [← he]; exact zW_at h
theorem zW_lt {g : Gx} {Λ : Ly} {μ : Mm} {k : Nat} {q : Nat × va_E} (h : (zW g Λ μ)[k]? = some q) : k < Λ.1 ∧ q = (g.2.2.1 k, zE g Λ μ k) := by
  have hk : k < Λ.1 := by
    have := (List.getElem?_eq_some_iff.mp h).1
    simpa [zW] using this
  rw [zW_at hk] at h
  exact ⟨hk, (Option.some.inj h).symm⟩
theorem zD {g : Gx} {Λ : Ly} (hI : zI g Λ) (μ : Mm) : va_D (zA g Λ) (zW g Λ μ) := by
  refine ⟨fun i j p q hi hj e => ?_, fun k q hk => ?_⟩
  · obtain ⟨h1, rfl⟩ := zW_lt hi
    obtain ⟨h2, rfl⟩ := zW_lt hj
    exact hI i j h1 h2 e
  · obtain ⟨h1, rfl⟩ := zW_lt hk
    exact ⟨k, h1, rfl⟩
theorem zE_ne {g : Gx} {Λ : Ly} {μ μ' : Mm} {b : Nat} (h1 : μ'.1 b = μ.1 b) (h2 : μ'.2 b = μ.2 b) : zE g Λ μ' b = zE g Λ μ b := by
  have hf : zF g μ' b = zF g μ b := by
    funext x
    unfold zF
    rw [h1, h2]
  unfold zE
  rw [h1, h2, hf]
theorem zW_set {g : Gx} {Λ : Ly} {μ μ' : Mm} {a : Nat} {e : va_E} (ha : a < Λ.1) (he : zE g Λ μ' a = e) (hn : ∀ b, b ≠ a → μ'.1 b = μ.1 b ∧ μ'.2 b = μ.2 b) : (zW g Λ μ).set a (g.2.2.1 a, e) = zW g Λ μ' := by
  apply List.ext_getElem?
  intro k
  by_cases hk : k < Λ.1
  · rw [zW_at hk, List.getElem?_set]
    by_cases hka : a = k
    · subst hka
      rw [if_pos rfl, if_pos (by simpa [zW] using hk), he]
    · rw [if_neg hka, zW_at hk]
      have := hn k (fun q => hka q.symm)
      rw [zE_ne this.1 this.2]
  · have h1 : (zW g Λ μ').length ≤ k := by simp [zW]; omega
    have h2 : ((zW g Λ μ).set a (g.2.2.1 a, e)).length ≤ k := by simp [zW]; omega
    rw [List.getElem?_eq_none h1, List.getElem?_eq_none h2]
theorem si_ne1 {μ : Mm} {a i : Nat} {v : Int32} {b : Nat} (h : b ≠ a) : (si μ a i v).1 b = μ.1 b := by simp [si, va_up, h]
theorem si_ne {μ : Mm} {a i : Nat} {v : Int32} : ∀ b, b ≠ a → (si μ a i v).1 b = μ.1 b ∧ (si μ a i v).2 b = μ.2 b := fun b h => ⟨si_ne1 h, rfl⟩
theorem sj_ne {μ : Mm} {a i : Nat} {v : Int64} : ∀ b, b ≠ a → (sj μ a i v).1 b = μ.1 b ∧ (sj μ a i v).2 b = μ.2 b := fun b h => ⟨rfl, by simp [sj, va_up, h]⟩
theorem sc_ne {μ : Mm} {a b sp dp n : Nat} : ∀ x, x ≠ b → (sc μ a b sp dp n).1 x = μ.1 x ∧ (sc μ a b sp dp n).2 x = μ.2 x := fun x h => ⟨by simp [sc, va_up, h], rfl⟩
theorem si_at {μ : Mm} {a i : Nat} {v : Int32} : (si μ a i v).1 a = upd (μ.1 a) i v := by simp [si, va_up]
theorem sj_at {μ : Mm} {a i : Nat} {v : Int64} : (sj μ a i v).2 a = vp_updL (μ.2 a) i v := by simp [sj, va_up]
theorem sc_at {μ : Mm} {a b sp dp n : Nat} : (sc μ a b sp dp n).1 b = va_cpy (μ.1 a) (μ.1 b) sp dp n := by simp [sc, va_up]
theorem zE_i {g : Gx} {Λ : Ly} {μ : Mm} {a n : Nat} (h : Λ.2.1 a = (0, n)) : zE g Λ μ a = .inl (g.2.2.2 1, n, .inl (μ.1 a)) := by simp [zE, h]
theorem zE_j {g : Gx} {Λ : Ly} {μ : Mm} {a n : Nat} (h : Λ.2.1 a = (1, n)) : zE g Λ μ a = .inl (g.2.2.2 2, n, .inr (.inl (μ.2 a))) := by simp [zE, h]
theorem zE_b {g : Gx} {Λ : Ly} {μ : Mm} {a n : Nat} (h : Λ.2.1 a = (2, n)) : zE g Λ μ a = .inl (g.2.2.2 0, n, .inl (μ.1 a)) := by simp [zE, h]
theorem zE_r {g : Gx} {Λ : Ly} {μ : Mm} {a n : Nat} (h : Λ.2.1 a = (3, n)) : zE g Λ μ a = .inl (g.2.2.2 3, n, .inr (.inr (.inr (.inr (fun i => some (g.2.2.1 (Λ.2.2.2 a i))))))) := by simp [zE, h]
theorem zE_o {g : Gx} {Λ : Ly} {μ : Mm} {a ci : Nat} (h : Λ.2.1 a = (4, ci)) : zE g Λ μ a = .inr (ci, (Λ.2.2.1 a).zipIdx.map (zF g μ a)) := by simp [zE, h]
theorem zo_f {g : Gx} {Λ : Ly} {μ : Mm} {a k : Nat} {x : Nat × Nat} (h : (Λ.2.2.1 a)[k]? = some x) : ((Λ.2.2.1 a).zipIdx.map (zF g μ a))[k]? = some (zF g μ a (x, k)) := by
  simp [List.getElem?_map, List.getElem?_zipIdx, h]
theorem zo_set {g : Gx} {Λ : Ly} {μ μ' : Mm} {a k : Nat} {v : Value} {x : Nat × Nat} (hx : (Λ.2.2.1 a)[k]? = some x) (hv : zF g μ' a (x, k) = v) (hn : ∀ (y : Nat × Nat) (j : Nat), j ≠ k → zF g μ' a (y, j) = zF g μ a (y, j)) :
    ((Λ.2.2.1 a).zipIdx.map (zF g μ a)).set k v = (Λ.2.2.1 a).zipIdx.map (zF g μ' a) := by
  apply List.ext_getElem?
  intro j
  rw [List.getElem?_set]
  by_cases hj : k = j
  · subst hj
    have hlt : k < (Λ.2.2.1 a).length := (List.getElem?_eq_some_iff.mp hx).1
    rw [if_pos rfl, if_pos (by simpa using hlt), zo_f hx, hv]
  · rw [if_neg hj]
    simp only [List.getElem?_map, List.getElem?_zipIdx]
    cases h : (Λ.2.2.1 a)[j]? with
    | none => rfl
    | some y => simp [hn y j (fun q => hj q.symm)]

section Z1
variable {α : Type} {g : Gx} {Λ : Ly} {en : α → Option Value} {own : String} {cc : ByteArray} {nL : Nat} {ret : Option FieldType} {R : Room} {pc : Nat} {lv : List (Nat × Value)} {rest : List Value} {μ : Mm} {o o1 o2 : Option (α × Mm)}
theorem z_none : Zw g Λ en own cc nL ret R (pc) lv (rest) μ none := by
  intro hI r μ2 ho
  cases ho
theorem z_iconst {n : Int} {v : Int32} (hdg : decode cc pc = .ok (.iconst n, 1)) (hv : Int32.ofInt n = v) (k : Zw g Λ en own cc nL ret R (pc + 1) lv (.int v :: rest) μ o) : Zw g Λ en own cc nL ret R (pc) lv (rest) μ o := by
  intro hI r μ2 ho p e s m args below meth c H locs ls C hP hS hl
  exact lv_iconst C.1 C.2.1 hdg hv (k hI r μ2 ho p e s m args below meth c H locs ls C hP hS hl)
theorem z_bipush {n : Int} {v : Int32} (hdg : decode cc pc = .ok (.bipush n, 2)) (hv : (Int8.ofInt n).toInt32 = v) (k : Zw g Λ en own cc nL ret R (pc + 2) lv (.int v :: rest) μ o) : Zw g Λ en own cc nL ret R (pc) lv (rest) μ o := by
  intro hI r μ2 ho p e s m args below meth c H locs ls C hP hS hl
  exact lv_bipush C.1 C.2.1 hdg hv (k hI r μ2 ho p e s m args below meth c H locs ls C hP hS hl)
theorem z_sipush {n : Int} {v : Int32} (hdg : decode cc pc = .ok (.sipush n, 3)) (hv : (Int16.ofInt n).toInt32 = v) (k : Zw g Λ en own cc nL ret R (pc + 3) lv (.int v :: rest) μ o) : Zw g Λ en own cc nL ret R (pc) lv (rest) μ o := by
  intro hI r μ2 ho p e s m args below meth c H locs ls C hP hS hl
  exact lv_sipush C.1 C.2.1 hdg hv (k hI r μ2 ho p e s m args below meth c H locs ls C hP hS hl)
theorem z_lconst {n : Fin 2} {v : Int64} (hdg : decode cc pc = .ok (.lconst n, 1)) (hv : Int64.ofNat (n : Nat) = v) (k : Zw g Λ en own cc nL ret R (pc + 1) lv (.long v :: rest) μ o) : Zw g Λ en own cc nL ret R (pc) lv (rest) μ o := by
  intro hI r μ2 ho p e s m args below meth c H locs ls C hP hS hl
  exact lv_lconst C.1 C.2.1 hdg hv (k hI r μ2 ho p e s m args below meth c H locs ls C hP hS hl)
theorem z_ldc {ix : Nat} {v : Int32} (hw : Cond.constant own ix v ∈ zt) (hdg : decode cc pc = .ok (.ldc ix, 2)) (k : Zw g Λ en own cc nL ret R (pc + 2) lv (.int v :: rest) μ o) : Zw g Λ en own cc nL ret R (pc) lv (rest) μ o := by
  intro hI r μ2 ho p e s m args below meth c H locs ls C hP hS hl
  exact lv_ldc C.1 C.2.1 C.2.2.2.2.1 (C.2.2.2.2.2.1 _ hw) hdg (k hI r μ2 ho p e s m args below meth c H locs ls C hP hS hl)
theorem z_ldc2 {ix : Nat} {v : Int64} (hw : Cond.constantLong own ix v ∈ zt) (hdg : decode cc pc = .ok (.ldc2_w ix, 3)) (k : Zw g Λ en own cc nL ret R (pc + 3) lv (.long v :: rest) μ o) : Zw g Λ en own cc nL ret R (pc) lv (rest) μ o := by
  intro hI r μ2 ho p e s m args below meth c H locs ls C hP hS hl
  exact lv_ldc2 C.1 C.2.1 C.2.2.2.2.1 (C.2.2.2.2.2.1 _ hw) hdg (k hI r μ2 ho p e s m args below meth c H locs ls C hP hS hl)
theorem z_iload_n {k : Fin 4} {i : Nat} {x : Int32} (j : Nat) (hdg : decode cc pc = .ok (.iload_n k, 1)) (hi : (k : Nat) = i) (hj : lv[j]? = some (i, .int x)) (k : Zw g Λ en own cc nL ret R (pc + 1) lv (.int x :: rest) μ o) : Zw g Λ en own cc nL ret R (pc) lv (rest) μ o := by
  intro hI r μ2 ho p e s m args below meth c H locs ls C hP hS hl
  exact lv_iload_n C.1 C.2.1 hdg hi (lv_at hl j hj) (k hI r μ2 ho p e s m args below meth c H locs ls C hP hS hl)
theorem z_iload {i : Nat} {x : Int32} (j : Nat) (hdg : decode cc pc = .ok (.iload i, 2)) (hj : lv[j]? = some (i, .int x)) (k : Zw g Λ en own cc nL ret R (pc + 2) lv (.int x :: rest) μ o) : Zw g Λ en own cc nL ret R (pc) lv (rest) μ o := by
  intro hI r μ2 ho p e s m args below meth c H locs ls C hP hS hl
  exact lv_iload C.1 C.2.1 hdg (lv_at hl j hj) (k hI r μ2 ho p e s m args below meth c H locs ls C hP hS hl)
theorem z_lload_n {k : Fin 4} {i : Nat} {x : Int64} (j : Nat) (hdg : decode cc pc = .ok (.lload_n k, 1)) (hi : (k : Nat) = i) (hj : lv[j]? = some (i, .long x)) (k : Zw g Λ en own cc nL ret R (pc + 1) lv (.long x :: rest) μ o) : Zw g Λ en own cc nL ret R (pc) lv (rest) μ o := by
  intro hI r μ2 ho p e s m args below meth c H locs ls C hP hS hl
  exact lv_lload_n C.1 C.2.1 hdg hi (lv_at hl j hj) (k hI r μ2 ho p e s m args below meth c H locs ls C hP hS hl)
theorem z_lload {i : Nat} {x : Int64} (j : Nat) (hdg : decode cc pc = .ok (.lload i, 2)) (hj : lv[j]? = some (i, .long x)) (k : Zw g Λ en own cc nL ret R (pc + 2) lv (.long x :: rest) μ o) : Zw g Λ en own cc nL ret R (pc) lv (rest) μ o := by
  intro hI r μ2 ho p e s m args below meth c H locs ls C hP hS hl
  exact lv_lload C.1 C.2.1 hdg (lv_at hl j hj) (k hI r μ2 ho p e s m args below meth c H locs ls C hP hS hl)
theorem z_aload_n {k : Fin 4} {i : Nat} {x : Nat} (j : Nat) (hdg : decode cc pc = .ok (.aload_n k, 1)) (hi : (k : Nat) = i) (hj : lv[j]? = some (i, .ref x)) (k : Zw g Λ en own cc nL ret R (pc + 1) lv (.ref x :: rest) μ o) : Zw g Λ en own cc nL ret R (pc) lv (rest) μ o := by
  intro hI r μ2 ho p e s m args below meth c H locs ls C hP hS hl
  exact lv_aload_n C.1 C.2.1 hdg hi (lv_at hl j hj) (k hI r μ2 ho p e s m args below meth c H locs ls C hP hS hl)
theorem z_aload {i : Nat} {x : Nat} (j : Nat) (hdg : decode cc pc = .ok (.aload i, 2)) (hj : lv[j]? = some (i, .ref x)) (k : Zw g Λ en own cc nL ret R (pc + 2) lv (.ref x :: rest) μ o) : Zw g Λ en own cc nL ret R (pc) lv (rest) μ o := by
  intro hI r μ2 ho p e s m args below meth c H locs ls C hP hS hl
  exact lv_aload C.1 C.2.1 hdg (lv_at hl j hj) (k hI r μ2 ho p e s m args below meth c H locs ls C hP hS hl)
theorem z_istore_n {k0 : Fin 4} {i : Nat} {x : Int32} {lv2 : List (Nat × Value)} (ks : List Nat) (hdg : decode cc pc = .ok (.istore_n k0, 1)) (hi : (k0 : Nat) = i) (hn : i < nL) (hl2 : lv_pick ((i, Value.int x) :: lv.filter (fun q => !(q.1 == i) && !(q.1 + 1 == i && q.2.category == 2))) ks = lv2) (k : Zw g Λ en own cc nL ret R (pc + 1) lv2 (rest) μ o) : Zw g Λ en own cc nL ret R (pc) lv (.int x :: rest) μ o := by
  intro hI r μ2 ho p e s m args below meth c H locs ls C hP hS hl
  exact lv_istore_n C.1 C.2.1 hdg hi hl hn rfl (fun ls1 hl1 => k hI r μ2 ho p e s m args below meth c H locs ls1 C hP hS (lv_sub hl1 ks hl2))
theorem z_istore {i : Nat} {x : Int32} {lv2 : List (Nat × Value)} (ks : List Nat) (hdg : decode cc pc = .ok (.istore i, 2)) (hn : i < nL) (hl2 : lv_pick ((i, Value.int x) :: lv.filter (fun q => !(q.1 == i) && !(q.1 + 1 == i && q.2.category == 2))) ks = lv2) (k : Zw g Λ en own cc nL ret R (pc + 2) lv2 (rest) μ o) : Zw g Λ en own cc nL ret R (pc) lv (.int x :: rest) μ o := by
  intro hI r μ2 ho p e s m args below meth c H locs ls C hP hS hl
  exact lv_istore C.1 C.2.1 hdg hl hn rfl (fun ls1 hl1 => k hI r μ2 ho p e s m args below meth c H locs ls1 C hP hS (lv_sub hl1 ks hl2))
theorem z_lstore_n {k0 : Fin 4} {i : Nat} {x : Int64} {lv2 : List (Nat × Value)} (ks : List Nat) (hdg : decode cc pc = .ok (.lstore_n k0, 1)) (hi : (k0 : Nat) = i) (hn : i + 1 < nL) (hl2 : lv_pick ((i, Value.long x) :: lv.filter (fun q => !(q.1 == i) && (!(q.1 == i + 1) && !(q.1 + 1 == i && q.2.category == 2)))) ks = lv2) (k : Zw g Λ en own cc nL ret R (pc + 1) lv2 (rest) μ o) : Zw g Λ en own cc nL ret R (pc) lv (.long x :: rest) μ o := by
  intro hI r μ2 ho p e s m args below meth c H locs ls C hP hS hl
  exact lv_lstore_n C.1 C.2.1 hdg hi hl hn rfl (fun ls1 hl1 => k hI r μ2 ho p e s m args below meth c H locs ls1 C hP hS (lv_sub hl1 ks hl2))
theorem z_lstore {i : Nat} {x : Int64} {lv2 : List (Nat × Value)} (ks : List Nat) (hdg : decode cc pc = .ok (.lstore i, 2)) (hn : i + 1 < nL) (hl2 : lv_pick ((i, Value.long x) :: lv.filter (fun q => !(q.1 == i) && (!(q.1 == i + 1) && !(q.1 + 1 == i && q.2.category == 2)))) ks = lv2) (k : Zw g Λ en own cc nL ret R (pc + 2) lv2 (rest) μ o) : Zw g Λ en own cc nL ret R (pc) lv (.long x :: rest) μ o := by
  intro hI r μ2 ho p e s m args below meth c H locs ls C hP hS hl
  exact lv_lstore C.1 C.2.1 hdg hl hn rfl (fun ls1 hl1 => k hI r μ2 ho p e s m args below meth c H locs ls1 C hP hS (lv_sub hl1 ks hl2))
theorem z_astore_n {k0 : Fin 4} {i : Nat} {x : Nat} {lv2 : List (Nat × Value)} (ks : List Nat) (hdg : decode cc pc = .ok (.astore_n k0, 1)) (hi : (k0 : Nat) = i) (hn : i < nL) (hl2 : lv_pick ((i, Value.ref x) :: lv.filter (fun q => !(q.1 == i) && !(q.1 + 1 == i && q.2.category == 2))) ks = lv2) (k : Zw g Λ en own cc nL ret R (pc + 1) lv2 (rest) μ o) : Zw g Λ en own cc nL ret R (pc) lv (.ref x :: rest) μ o := by
  intro hI r μ2 ho p e s m args below meth c H locs ls C hP hS hl
  exact lv_astore_n C.1 C.2.1 hdg hi hl hn rfl (fun ls1 hl1 => k hI r μ2 ho p e s m args below meth c H locs ls1 C hP hS (lv_sub hl1 ks hl2))
theorem z_astore {i : Nat} {x : Nat} {lv2 : List (Nat × Value)} (ks : List Nat) (hdg : decode cc pc = .ok (.astore i, 2)) (hn : i < nL) (hl2 : lv_pick ((i, Value.ref x) :: lv.filter (fun q => !(q.1 == i) && !(q.1 + 1 == i && q.2.category == 2))) ks = lv2) (k : Zw g Λ en own cc nL ret R (pc + 2) lv2 (rest) μ o) : Zw g Λ en own cc nL ret R (pc) lv (.ref x :: rest) μ o := by
  intro hI r μ2 ho p e s m args below meth c H locs ls C hP hS hl
  exact lv_astore C.1 C.2.1 hdg hl hn rfl (fun ls1 hl1 => k hI r μ2 ho p e s m args below meth c H locs ls1 C hP hS (lv_sub hl1 ks hl2))
theorem z_iinc {i : Nat} {n : Int} {x v : Int32} {lv2 : List (Nat × Value)} (j : Nat) (ks : List Nat) (hdg : decode cc pc = .ok (.iinc i n, 3)) (hj : lv[j]? = some (i, .int x)) (hv : x + Int32.ofInt n = v) (hn : i < nL) (hl2 : lv_pick ((i, Value.int v) :: lv.filter (fun q => !(q.1 == i) && !(q.1 + 1 == i && q.2.category == 2))) ks = lv2) (k : Zw g Λ en own cc nL ret R (pc + 3) lv2 (rest) μ o) : Zw g Λ en own cc nL ret R (pc) lv (rest) μ o := by
  intro hI r μ2 ho p e s m args below meth c H locs ls C hP hS hl
  exact lv_iinc C.1 C.2.1 hdg hl hj hv hn rfl (fun ls1 hl1 => k hI r μ2 ho p e s m args below meth c H locs ls1 C hP hS (lv_sub hl1 ks hl2))
theorem z_iadd {x y : Int32} (hdg : decode cc pc = .ok (.iadd, 1)) (k : Zw g Λ en own cc nL ret R (pc + 1) lv (.int (x + y) :: rest) μ o) : Zw g Λ en own cc nL ret R (pc) lv (.int y :: .int x :: rest) μ o := by
  intro hI r μ2 ho p e s m args below meth c H locs ls C hP hS hl
  exact lv_iadd C.1 C.2.1 hdg (k hI r μ2 ho p e s m args below meth c H locs ls C hP hS hl)
theorem z_isub {x y : Int32} (hdg : decode cc pc = .ok (.isub, 1)) (k : Zw g Λ en own cc nL ret R (pc + 1) lv (.int (x - y) :: rest) μ o) : Zw g Λ en own cc nL ret R (pc) lv (.int y :: .int x :: rest) μ o := by
  intro hI r μ2 ho p e s m args below meth c H locs ls C hP hS hl
  exact lv_isub C.1 C.2.1 hdg (k hI r μ2 ho p e s m args below meth c H locs ls C hP hS hl)
theorem z_imul {x y : Int32} (hdg : decode cc pc = .ok (.imul, 1)) (k : Zw g Λ en own cc nL ret R (pc + 1) lv (.int (x * y) :: rest) μ o) : Zw g Λ en own cc nL ret R (pc) lv (.int y :: .int x :: rest) μ o := by
  intro hI r μ2 ho p e s m args below meth c H locs ls C hP hS hl
  exact lv_imul C.1 C.2.1 hdg (k hI r μ2 ho p e s m args below meth c H locs ls C hP hS hl)
theorem z_iand {x y : Int32} (hdg : decode cc pc = .ok (.iand, 1)) (k : Zw g Λ en own cc nL ret R (pc + 1) lv (.int (x &&& y) :: rest) μ o) : Zw g Λ en own cc nL ret R (pc) lv (.int y :: .int x :: rest) μ o := by
  intro hI r μ2 ho p e s m args below meth c H locs ls C hP hS hl
  exact lv_iand C.1 C.2.1 hdg (k hI r μ2 ho p e s m args below meth c H locs ls C hP hS hl)
theorem z_ishl {x y : Int32} (hdg : decode cc pc = .ok (.ishl, 1)) (k : Zw g Λ en own cc nL ret R (pc + 1) lv (.int (x <<< (y &&& 31)) :: rest) μ o) : Zw g Λ en own cc nL ret R (pc) lv (.int y :: .int x :: rest) μ o := by
  intro hI r μ2 ho p e s m args below meth c H locs ls C hP hS hl
  exact lv_ishl C.1 C.2.1 hdg (k hI r μ2 ho p e s m args below meth c H locs ls C hP hS hl)
theorem z_ishr {x y : Int32} (hdg : decode cc pc = .ok (.ishr, 1)) (k : Zw g Λ en own cc nL ret R (pc + 1) lv (.int (x >>> (y &&& 31)) :: rest) μ o) : Zw g Λ en own cc nL ret R (pc) lv (.int y :: .int x :: rest) μ o := by
  intro hI r μ2 ho p e s m args below meth c H locs ls C hP hS hl
  exact lv_ishr C.1 C.2.1 hdg (k hI r μ2 ho p e s m args below meth c H locs ls C hP hS hl)
theorem z_ladd {x y : Int64} (hdg : decode cc pc = .ok (.ladd, 1)) (k : Zw g Λ en own cc nL ret R (pc + 1) lv (.long (x + y) :: rest) μ o) : Zw g Λ en own cc nL ret R (pc) lv (.long y :: .long x :: rest) μ o := by
  intro hI r μ2 ho p e s m args below meth c H locs ls C hP hS hl
  exact lv_ladd C.1 C.2.1 hdg (k hI r μ2 ho p e s m args below meth c H locs ls C hP hS hl)
theorem z_lsub {x y : Int64} (hdg : decode cc pc = .ok (.lsub, 1)) (k : Zw g Λ en own cc nL ret R (pc + 1) lv (.long (x - y) :: rest) μ o) : Zw g Λ en own cc nL ret R (pc) lv (.long y :: .long x :: rest) μ o := by
  intro hI r μ2 ho p e s m args below meth c H locs ls C hP hS hl
  exact lv_lsub C.1 C.2.1 hdg (k hI r μ2 ho p e s m args below meth c H locs ls C hP hS hl)
theorem z_lmul {x y : Int64} (hdg : decode cc pc = .ok (.lmul, 1)) (k : Zw g Λ en own cc nL ret R (pc + 1) lv (.long (x * y) :: rest) μ o) : Zw g Λ en own cc nL ret R (pc) lv (.long y :: .long x :: rest) μ o := by
  intro hI r μ2 ho p e s m args below meth c H locs ls C hP hS hl
  exact lv_lmul C.1 C.2.1 hdg (k hI r μ2 ho p e s m args below meth c H locs ls C hP hS hl)
theorem z_land {x y : Int64} (hdg : decode cc pc = .ok (.land, 1)) (k : Zw g Λ en own cc nL ret R (pc + 1) lv (.long (x &&& y) :: rest) μ o) : Zw g Λ en own cc nL ret R (pc) lv (.long y :: .long x :: rest) μ o := by
  intro hI r μ2 ho p e s m args below meth c H locs ls C hP hS hl
  exact lv_land C.1 C.2.1 hdg (k hI r μ2 ho p e s m args below meth c H locs ls C hP hS hl)
theorem z_lor {x y : Int64} (hdg : decode cc pc = .ok (.lor, 1)) (k : Zw g Λ en own cc nL ret R (pc + 1) lv (.long (x ||| y) :: rest) μ o) : Zw g Λ en own cc nL ret R (pc) lv (.long y :: .long x :: rest) μ o := by
  intro hI r μ2 ho p e s m args below meth c H locs ls C hP hS hl
  exact lv_lor C.1 C.2.1 hdg (k hI r μ2 ho p e s m args below meth c H locs ls C hP hS hl)
theorem z_idiv_g {x y : Int32} (hdg : decode cc pc = .ok (.idiv, 1)) (k : Zw g Λ en own cc nL ret R (pc + 1) lv (.int (x / y) :: rest) μ o) : Zw g Λ en own cc nL ret R (pc) lv (.int y :: .int x :: rest) μ (if ¬ y = 0 then o else none) := by
  intro hI r μ2 ho p e s m args below meth c H locs ls C hP hS hl
  by_cases hg : ¬ y = 0
  · rw [if_pos hg] at ho
    exact lv_idiv C.1 C.2.1 hdg hg (k hI r μ2 ho p e s m args below meth c H locs ls C hP hS hl)
  · rw [if_neg hg] at ho
    cases ho
theorem z_idiv {x y : Int32} (hdg : decode cc pc = .ok (.idiv, 1)) (hne : ¬ y = 0) (k : Zw g Λ en own cc nL ret R (pc + 1) lv (.int (x / y) :: rest) μ o) : Zw g Λ en own cc nL ret R (pc) lv (.int y :: .int x :: rest) μ o := by
  intro hI r μ2 ho p e s m args below meth c H locs ls C hP hS hl
  exact lv_idiv C.1 C.2.1 hdg hne (k hI r μ2 ho p e s m args below meth c H locs ls C hP hS hl)
theorem z_irem_g {x y : Int32} (hdg : decode cc pc = .ok (.irem, 1)) (k : Zw g Λ en own cc nL ret R (pc + 1) lv (.int (x - x / y * y) :: rest) μ o) : Zw g Λ en own cc nL ret R (pc) lv (.int y :: .int x :: rest) μ (if ¬ y = 0 then o else none) := by
  intro hI r μ2 ho p e s m args below meth c H locs ls C hP hS hl
  by_cases hg : ¬ y = 0
  · rw [if_pos hg] at ho
    exact lv_irem C.1 C.2.1 hdg hg (k hI r μ2 ho p e s m args below meth c H locs ls C hP hS hl)
  · rw [if_neg hg] at ho
    cases ho
theorem z_irem {x y : Int32} (hdg : decode cc pc = .ok (.irem, 1)) (hne : ¬ y = 0) (k : Zw g Λ en own cc nL ret R (pc + 1) lv (.int (x - x / y * y) :: rest) μ o) : Zw g Λ en own cc nL ret R (pc) lv (.int y :: .int x :: rest) μ o := by
  intro hI r μ2 ho p e s m args below meth c H locs ls C hP hS hl
  exact lv_irem C.1 C.2.1 hdg hne (k hI r μ2 ho p e s m args below meth c H locs ls C hP hS hl)
theorem z_ldiv_g {x y : Int64} (hdg : decode cc pc = .ok (.ldiv, 1)) (k : Zw g Λ en own cc nL ret R (pc + 1) lv (.long (x / y) :: rest) μ o) : Zw g Λ en own cc nL ret R (pc) lv (.long y :: .long x :: rest) μ (if ¬ y = 0 then o else none) := by
  intro hI r μ2 ho p e s m args below meth c H locs ls C hP hS hl
  by_cases hg : ¬ y = 0
  · rw [if_pos hg] at ho
    exact lv_ldiv C.1 C.2.1 hdg hg (k hI r μ2 ho p e s m args below meth c H locs ls C hP hS hl)
  · rw [if_neg hg] at ho
    cases ho
theorem z_ldiv {x y : Int64} (hdg : decode cc pc = .ok (.ldiv, 1)) (hne : ¬ y = 0) (k : Zw g Λ en own cc nL ret R (pc + 1) lv (.long (x / y) :: rest) μ o) : Zw g Λ en own cc nL ret R (pc) lv (.long y :: .long x :: rest) μ o := by
  intro hI r μ2 ho p e s m args below meth c H locs ls C hP hS hl
  exact lv_ldiv C.1 C.2.1 hdg hne (k hI r μ2 ho p e s m args below meth c H locs ls C hP hS hl)
theorem z_lrem_g {x y : Int64} (hdg : decode cc pc = .ok (.lrem, 1)) (k : Zw g Λ en own cc nL ret R (pc + 1) lv (.long (x - x / y * y) :: rest) μ o) : Zw g Λ en own cc nL ret R (pc) lv (.long y :: .long x :: rest) μ (if ¬ y = 0 then o else none) := by
  intro hI r μ2 ho p e s m args below meth c H locs ls C hP hS hl
  by_cases hg : ¬ y = 0
  · rw [if_pos hg] at ho
    exact lv_lrem C.1 C.2.1 hdg hg (k hI r μ2 ho p e s m args below meth c H locs ls C hP hS hl)
  · rw [if_neg hg] at ho
    cases ho
theorem z_lrem {x y : Int64} (hdg : decode cc pc = .ok (.lrem, 1)) (hne : ¬ y = 0) (k : Zw g Λ en own cc nL ret R (pc + 1) lv (.long (x - x / y * y) :: rest) μ o) : Zw g Λ en own cc nL ret R (pc) lv (.long y :: .long x :: rest) μ o := by
  intro hI r μ2 ho p e s m args below meth c H locs ls C hP hS hl
  exact lv_lrem C.1 C.2.1 hdg hne (k hI r μ2 ho p e s m args below meth c H locs ls C hP hS hl)
theorem z_i2l {x : Int32} (hdg : decode cc pc = .ok (.i2l, 1)) (k : Zw g Λ en own cc nL ret R (pc + 1) lv (.long x.toInt64 :: rest) μ o) : Zw g Λ en own cc nL ret R (pc) lv (.int x :: rest) μ o := by
  intro hI r μ2 ho p e s m args below meth c H locs ls C hP hS hl
  exact lv_i2l C.1 C.2.1 hdg rfl (k hI r μ2 ho p e s m args below meth c H locs ls C hP hS hl)
theorem z_i2b {x : Int32} (hdg : decode cc pc = .ok (.i2b, 1)) (k : Zw g Λ en own cc nL ret R (pc + 1) lv (.int x.toInt8.toInt32 :: rest) μ o) : Zw g Λ en own cc nL ret R (pc) lv (.int x :: rest) μ o := by
  intro hI r μ2 ho p e s m args below meth c H locs ls C hP hS hl
  exact lv_i2b C.1 C.2.1 hdg rfl (k hI r μ2 ho p e s m args below meth c H locs ls C hP hS hl)
theorem z_lshl {x : Int64} {y : Int32} (hdg : decode cc pc = .ok (.lshl, 1)) (k : Zw g Λ en own cc nL ret R (pc + 1) lv (.long (x <<< (y.toInt64 &&& 63)) :: rest) μ o) : Zw g Λ en own cc nL ret R (pc) lv (.int y :: .long x :: rest) μ o := by
  intro hI r μ2 ho p e s m args below meth c H locs ls C hP hS hl
  exact lv_lshl C.1 C.2.1 hdg rfl (k hI r μ2 ho p e s m args below meth c H locs ls C hP hS hl)
theorem z_dup {va : Value} (hdg : decode cc pc = .ok (.dup, 1)) (hva : va.category = 1) (k : Zw g Λ en own cc nL ret R (pc + 1) lv (va :: va :: rest) μ o) : Zw g Λ en own cc nL ret R (pc) lv (va :: rest) μ o := by
  intro hI r μ2 ho p e s m args below meth c H locs ls C hP hS hl
  exact lv_dup C.1 C.2.1 hdg hva (k hI r μ2 ho p e s m args below meth c H locs ls C hP hS hl)
theorem z_dup_x1 {va vb : Value} (hdg : decode cc pc = .ok (.dup_x1, 1)) (hva : va.category = 1) (hvb : vb.category = 1) (k : Zw g Λ en own cc nL ret R (pc + 1) lv (va :: vb :: va :: rest) μ o) : Zw g Λ en own cc nL ret R (pc) lv (va :: vb :: rest) μ o := by
  intro hI r μ2 ho p e s m args below meth c H locs ls C hP hS hl
  exact lv_dup_x1 C.1 C.2.1 hdg hva hvb (k hI r μ2 ho p e s m args below meth c H locs ls C hP hS hl)
theorem z_dup2 {va vb : Value} (hdg : decode cc pc = .ok (.dup2, 1)) (hva : va.category = 1) (hvb : vb.category = 1) (k : Zw g Λ en own cc nL ret R (pc + 1) lv (va :: vb :: va :: vb :: rest) μ o) : Zw g Λ en own cc nL ret R (pc) lv (va :: vb :: rest) μ o := by
  intro hI r μ2 ho p e s m args below meth c H locs ls C hP hS hl
  exact lv_dup2_11 C.1 C.2.1 hdg hva hvb (k hI r μ2 ho p e s m args below meth c H locs ls C hP hS hl)
theorem z_goto {off : Int} {tgt : Nat} (hdg : decode cc pc = .ok (.goto off, 3)) (ht : (pc : Int) + off = (tgt : Int)) (k : Zw g Λ en own cc nL ret R (tgt) lv (rest) μ o) : Zw g Λ en own cc nL ret R (pc) lv (rest) μ o := by
  intro hI r μ2 ho p e s m args below meth c H locs ls C hP hS hl
  exact lv_goto C.1 C.2.1 hdg ht (k hI r μ2 ho p e s m args below meth c H locs ls C hP hS hl)
theorem z_if_eq {x : Int32} {off : Int} {tgt : Nat} (hdg : decode cc pc = .ok (.ifCond .eq off, 3)) (ht : (pc : Int) + off = (tgt : Int)) (kt : x = 0 → Zw g Λ en own cc nL ret R (tgt) lv (rest) μ o1) (kf : ¬ (x = 0) → Zw g Λ en own cc nL ret R (pc + 3) lv (rest) μ o2) : Zw g Λ en own cc nL ret R (pc) lv (.int x :: rest) μ (if x = 0 then o1 else o2) := by
  intro hI r μ2 ho p e s m args below meth c H locs ls C hP hS hl
  exact lv_if_eq C.1 C.2.1 hdg ht (fun h => kt h hI r μ2 (by rw [if_pos h] at ho; exact ho) p e s m args below meth c H locs ls C hP hS hl) (fun h => kf h hI r μ2 (by rw [if_neg h] at ho; exact ho) p e s m args below meth c H locs ls C hP hS hl)
theorem z_if_eq_y {x : Int32} {off : Int} {tgt : Nat} (hdg : decode cc pc = .ok (.ifCond .eq off, 3)) (ht : (pc : Int) + off = (tgt : Int)) (hc : x = 0) (k : Zw g Λ en own cc nL ret R (tgt) lv (rest) μ o) : Zw g Λ en own cc nL ret R (pc) lv (.int x :: rest) μ o := by
  intro hI r μ2 ho p e s m args below meth c H locs ls C hP hS hl
  exact lv_if_eq C.1 C.2.1 hdg ht (fun _ => k hI r μ2 ho p e s m args below meth c H locs ls C hP hS hl) (fun h => absurd hc h)
theorem z_if_eq_x {x : Int32} {off : Int} {tgt : Nat} (hdg : decode cc pc = .ok (.ifCond .eq off, 3)) (ht : (pc : Int) + off = (tgt : Int)) (hc : ¬ (x = 0)) (k : Zw g Λ en own cc nL ret R (pc + 3) lv (rest) μ o) : Zw g Λ en own cc nL ret R (pc) lv (.int x :: rest) μ o := by
  intro hI r μ2 ho p e s m args below meth c H locs ls C hP hS hl
  exact lv_if_eq C.1 C.2.1 hdg ht (fun h => absurd h hc) (fun _ => k hI r μ2 ho p e s m args below meth c H locs ls C hP hS hl)
theorem z_icmp_eq {x y : Int32} {off : Int} {tgt : Nat} (hdg : decode cc pc = .ok (.if_icmp .eq off, 3)) (ht : (pc : Int) + off = (tgt : Int)) (kt : x = y → Zw g Λ en own cc nL ret R (tgt) lv (rest) μ o1) (kf : ¬ (x = y) → Zw g Λ en own cc nL ret R (pc + 3) lv (rest) μ o2) : Zw g Λ en own cc nL ret R (pc) lv (.int y :: .int x :: rest) μ (if x = y then o1 else o2) := by
  intro hI r μ2 ho p e s m args below meth c H locs ls C hP hS hl
  exact lv_icmp_eq C.1 C.2.1 hdg ht (fun h => kt h hI r μ2 (by rw [if_pos h] at ho; exact ho) p e s m args below meth c H locs ls C hP hS hl) (fun h => kf h hI r μ2 (by rw [if_neg h] at ho; exact ho) p e s m args below meth c H locs ls C hP hS hl)
theorem z_icmp_eq_y {x y : Int32} {off : Int} {tgt : Nat} (hdg : decode cc pc = .ok (.if_icmp .eq off, 3)) (ht : (pc : Int) + off = (tgt : Int)) (hc : x = y) (k : Zw g Λ en own cc nL ret R (tgt) lv (rest) μ o) : Zw g Λ en own cc nL ret R (pc) lv (.int y :: .int x :: rest) μ o := by
  intro hI r μ2 ho p e s m args below meth c H locs ls C hP hS hl
  exact lv_icmp_eq C.1 C.2.1 hdg ht (fun _ => k hI r μ2 ho p e s m args below meth c H locs ls C hP hS hl) (fun h => absurd hc h)
theorem z_icmp_eq_x {x y : Int32} {off : Int} {tgt : Nat} (hdg : decode cc pc = .ok (.if_icmp .eq off, 3)) (ht : (pc : Int) + off = (tgt : Int)) (hc : ¬ (x = y)) (k : Zw g Λ en own cc nL ret R (pc + 3) lv (rest) μ o) : Zw g Λ en own cc nL ret R (pc) lv (.int y :: .int x :: rest) μ o := by
  intro hI r μ2 ho p e s m args below meth c H locs ls C hP hS hl
  exact lv_icmp_eq C.1 C.2.1 hdg ht (fun h => absurd h hc) (fun _ => k hI r μ2 ho p e s m args below meth c H locs ls C hP hS hl)
theorem z_if_ne {x : Int32} {off : Int} {tgt : Nat} (hdg : decode cc pc = .ok (.ifCond .ne off, 3)) (ht : (pc : Int) + off = (tgt : Int)) (kt : ¬ (x = 0) → Zw g Λ en own cc nL ret R (tgt) lv (rest) μ o2) (kf : x = 0 → Zw g Λ en own cc nL ret R (pc + 3) lv (rest) μ o1) : Zw g Λ en own cc nL ret R (pc) lv (.int x :: rest) μ (if x = 0 then o1 else o2) := by
  intro hI r μ2 ho p e s m args below meth c H locs ls C hP hS hl
  exact lv_if_ne C.1 C.2.1 hdg ht (fun h => kt h hI r μ2 (by rw [if_neg h] at ho; exact ho) p e s m args below meth c H locs ls C hP hS hl) (fun h => kf h hI r μ2 (by rw [if_pos h] at ho; exact ho) p e s m args below meth c H locs ls C hP hS hl)
theorem z_if_ne_y {x : Int32} {off : Int} {tgt : Nat} (hdg : decode cc pc = .ok (.ifCond .ne off, 3)) (ht : (pc : Int) + off = (tgt : Int)) (hc : ¬ (x = 0)) (k : Zw g Λ en own cc nL ret R (tgt) lv (rest) μ o) : Zw g Λ en own cc nL ret R (pc) lv (.int x :: rest) μ o := by
  intro hI r μ2 ho p e s m args below meth c H locs ls C hP hS hl
  exact lv_if_ne C.1 C.2.1 hdg ht (fun _ => k hI r μ2 ho p e s m args below meth c H locs ls C hP hS hl) (fun h => absurd h hc)
theorem z_if_ne_x {x : Int32} {off : Int} {tgt : Nat} (hdg : decode cc pc = .ok (.ifCond .ne off, 3)) (ht : (pc : Int) + off = (tgt : Int)) (hc : x = 0) (k : Zw g Λ en own cc nL ret R (pc + 3) lv (rest) μ o) : Zw g Λ en own cc nL ret R (pc) lv (.int x :: rest) μ o := by
  intro hI r μ2 ho p e s m args below meth c H locs ls C hP hS hl
  exact lv_if_ne C.1 C.2.1 hdg ht (fun h => absurd hc h) (fun _ => k hI r μ2 ho p e s m args below meth c H locs ls C hP hS hl)
theorem z_icmp_ne {x y : Int32} {off : Int} {tgt : Nat} (hdg : decode cc pc = .ok (.if_icmp .ne off, 3)) (ht : (pc : Int) + off = (tgt : Int)) (kt : ¬ (x = y) → Zw g Λ en own cc nL ret R (tgt) lv (rest) μ o2) (kf : x = y → Zw g Λ en own cc nL ret R (pc + 3) lv (rest) μ o1) : Zw g Λ en own cc nL ret R (pc) lv (.int y :: .int x :: rest) μ (if x = y then o1 else o2) := by
  intro hI r μ2 ho p e s m args below meth c H locs ls C hP hS hl
  exact lv_icmp_ne C.1 C.2.1 hdg ht (fun h => kt h hI r μ2 (by rw [if_neg h] at ho; exact ho) p e s m args below meth c H locs ls C hP hS hl) (fun h => kf h hI r μ2 (by rw [if_pos h] at ho; exact ho) p e s m args below meth c H locs ls C hP hS hl)
theorem z_icmp_ne_y {x y : Int32} {off : Int} {tgt : Nat} (hdg : decode cc pc = .ok (.if_icmp .ne off, 3)) (ht : (pc : Int) + off = (tgt : Int)) (hc : ¬ (x = y)) (k : Zw g Λ en own cc nL ret R (tgt) lv (rest) μ o) : Zw g Λ en own cc nL ret R (pc) lv (.int y :: .int x :: rest) μ o := by
  intro hI r μ2 ho p e s m args below meth c H locs ls C hP hS hl
  exact lv_icmp_ne C.1 C.2.1 hdg ht (fun _ => k hI r μ2 ho p e s m args below meth c H locs ls C hP hS hl) (fun h => absurd h hc)
theorem z_icmp_ne_x {x y : Int32} {off : Int} {tgt : Nat} (hdg : decode cc pc = .ok (.if_icmp .ne off, 3)) (ht : (pc : Int) + off = (tgt : Int)) (hc : x = y) (k : Zw g Λ en own cc nL ret R (pc + 3) lv (rest) μ o) : Zw g Λ en own cc nL ret R (pc) lv (.int y :: .int x :: rest) μ o := by
  intro hI r μ2 ho p e s m args below meth c H locs ls C hP hS hl
  exact lv_icmp_ne C.1 C.2.1 hdg ht (fun h => absurd hc h) (fun _ => k hI r μ2 ho p e s m args below meth c H locs ls C hP hS hl)
theorem z_if_lt {x : Int32} {off : Int} {tgt : Nat} (hdg : decode cc pc = .ok (.ifCond .lt off, 3)) (ht : (pc : Int) + off = (tgt : Int)) (kt : x < 0 → Zw g Λ en own cc nL ret R (tgt) lv (rest) μ o1) (kf : ¬ (x < 0) → Zw g Λ en own cc nL ret R (pc + 3) lv (rest) μ o2) : Zw g Λ en own cc nL ret R (pc) lv (.int x :: rest) μ (if x < 0 then o1 else o2) := by
  intro hI r μ2 ho p e s m args below meth c H locs ls C hP hS hl
  exact lv_if_lt C.1 C.2.1 hdg ht (fun h => kt h hI r μ2 (by rw [if_pos h] at ho; exact ho) p e s m args below meth c H locs ls C hP hS hl) (fun h => kf h hI r μ2 (by rw [if_neg h] at ho; exact ho) p e s m args below meth c H locs ls C hP hS hl)
theorem z_if_lt_y {x : Int32} {off : Int} {tgt : Nat} (hdg : decode cc pc = .ok (.ifCond .lt off, 3)) (ht : (pc : Int) + off = (tgt : Int)) (hc : x < 0) (k : Zw g Λ en own cc nL ret R (tgt) lv (rest) μ o) : Zw g Λ en own cc nL ret R (pc) lv (.int x :: rest) μ o := by
  intro hI r μ2 ho p e s m args below meth c H locs ls C hP hS hl
  exact lv_if_lt C.1 C.2.1 hdg ht (fun _ => k hI r μ2 ho p e s m args below meth c H locs ls C hP hS hl) (fun h => absurd hc h)
theorem z_if_lt_x {x : Int32} {off : Int} {tgt : Nat} (hdg : decode cc pc = .ok (.ifCond .lt off, 3)) (ht : (pc : Int) + off = (tgt : Int)) (hc : ¬ (x < 0)) (k : Zw g Λ en own cc nL ret R (pc + 3) lv (rest) μ o) : Zw g Λ en own cc nL ret R (pc) lv (.int x :: rest) μ o := by
  intro hI r μ2 ho p e s m args below meth c H locs ls C hP hS hl
  exact lv_if_lt C.1 C.2.1 hdg ht (fun h => absurd h hc) (fun _ => k hI r μ2 ho p e s m args below meth c H locs ls C hP hS hl)
theorem z_icmp_lt {x y : Int32} {off : Int} {tgt : Nat} (hdg : decode cc pc = .ok (.if_icmp .lt off, 3)) (ht : (pc : Int) + off = (tgt : Int)) (kt : x < y → Zw g Λ en own cc nL ret R (tgt) lv (rest) μ o1) (kf : ¬ (x < y) → Zw g Λ en own cc nL ret R (pc + 3) lv (rest) μ o2) : Zw g Λ en own cc nL ret R (pc) lv (.int y :: .int x :: rest) μ (if x < y then o1 else o2) := by
  intro hI r μ2 ho p e s m args below meth c H locs ls C hP hS hl
  exact lv_icmp_lt C.1 C.2.1 hdg ht (fun h => kt h hI r μ2 (by rw [if_pos h] at ho; exact ho) p e s m args below meth c H locs ls C hP hS hl) (fun h => kf h hI r μ2 (by rw [if_neg h] at ho; exact ho) p e s m args below meth c H locs ls C hP hS hl)
theorem z_icmp_lt_y {x y : Int32} {off : Int} {tgt : Nat} (hdg : decode cc pc = .ok (.if_icmp .lt off, 3)) (ht : (pc : Int) + off = (tgt : Int)) (hc : x < y) (k : Zw g Λ en own cc nL ret R (tgt) lv (rest) μ o) : Zw g Λ en own cc nL ret R (pc) lv (.int y :: .int x :: rest) μ o := by
  intro hI r μ2 ho p e s m args below meth c H locs ls C hP hS hl
  exact lv_icmp_lt C.1 C.2.1 hdg ht (fun _ => k hI r μ2 ho p e s m args below meth c H locs ls C hP hS hl) (fun h => absurd hc h)
theorem z_icmp_lt_x {x y : Int32} {off : Int} {tgt : Nat} (hdg : decode cc pc = .ok (.if_icmp .lt off, 3)) (ht : (pc : Int) + off = (tgt : Int)) (hc : ¬ (x < y)) (k : Zw g Λ en own cc nL ret R (pc + 3) lv (rest) μ o) : Zw g Λ en own cc nL ret R (pc) lv (.int y :: .int x :: rest) μ o := by
  intro hI r μ2 ho p e s m args below meth c H locs ls C hP hS hl
  exact lv_icmp_lt C.1 C.2.1 hdg ht (fun h => absurd h hc) (fun _ => k hI r μ2 ho p e s m args below meth c H locs ls C hP hS hl)
theorem z_if_ge {x : Int32} {off : Int} {tgt : Nat} (hdg : decode cc pc = .ok (.ifCond .ge off, 3)) (ht : (pc : Int) + off = (tgt : Int)) (kt : 0 ≤ x → Zw g Λ en own cc nL ret R (tgt) lv (rest) μ o1) (kf : ¬ (0 ≤ x) → Zw g Λ en own cc nL ret R (pc + 3) lv (rest) μ o2) : Zw g Λ en own cc nL ret R (pc) lv (.int x :: rest) μ (if 0 ≤ x then o1 else o2) := by
  intro hI r μ2 ho p e s m args below meth c H locs ls C hP hS hl
  exact lv_if_ge C.1 C.2.1 hdg ht (fun h => kt h hI r μ2 (by rw [if_pos h] at ho; exact ho) p e s m args below meth c H locs ls C hP hS hl) (fun h => kf h hI r μ2 (by rw [if_neg h] at ho; exact ho) p e s m args below meth c H locs ls C hP hS hl)
theorem z_if_ge_y {x : Int32} {off : Int} {tgt : Nat} (hdg : decode cc pc = .ok (.ifCond .ge off, 3)) (ht : (pc : Int) + off = (tgt : Int)) (hc : 0 ≤ x) (k : Zw g Λ en own cc nL ret R (tgt) lv (rest) μ o) : Zw g Λ en own cc nL ret R (pc) lv (.int x :: rest) μ o := by
  intro hI r μ2 ho p e s m args below meth c H locs ls C hP hS hl
  exact lv_if_ge C.1 C.2.1 hdg ht (fun _ => k hI r μ2 ho p e s m args below meth c H locs ls C hP hS hl) (fun h => absurd hc h)
theorem z_if_ge_x {x : Int32} {off : Int} {tgt : Nat} (hdg : decode cc pc = .ok (.ifCond .ge off, 3)) (ht : (pc : Int) + off = (tgt : Int)) (hc : ¬ (0 ≤ x)) (k : Zw g Λ en own cc nL ret R (pc + 3) lv (rest) μ o) : Zw g Λ en own cc nL ret R (pc) lv (.int x :: rest) μ o := by
  intro hI r μ2 ho p e s m args below meth c H locs ls C hP hS hl
  exact lv_if_ge C.1 C.2.1 hdg ht (fun h => absurd h hc) (fun _ => k hI r μ2 ho p e s m args below meth c H locs ls C hP hS hl)
theorem z_icmp_ge {x y : Int32} {off : Int} {tgt : Nat} (hdg : decode cc pc = .ok (.if_icmp .ge off, 3)) (ht : (pc : Int) + off = (tgt : Int)) (kt : y ≤ x → Zw g Λ en own cc nL ret R (tgt) lv (rest) μ o1) (kf : ¬ (y ≤ x) → Zw g Λ en own cc nL ret R (pc + 3) lv (rest) μ o2) : Zw g Λ en own cc nL ret R (pc) lv (.int y :: .int x :: rest) μ (if y ≤ x then o1 else o2) := by
  intro hI r μ2 ho p e s m args below meth c H locs ls C hP hS hl
  exact lv_icmp_ge C.1 C.2.1 hdg ht (fun h => kt h hI r μ2 (by rw [if_pos h] at ho; exact ho) p e s m args below meth c H locs ls C hP hS hl) (fun h => kf h hI r μ2 (by rw [if_neg h] at ho; exact ho) p e s m args below meth c H locs ls C hP hS hl)
theorem z_icmp_ge_y {x y : Int32} {off : Int} {tgt : Nat} (hdg : decode cc pc = .ok (.if_icmp .ge off, 3)) (ht : (pc : Int) + off = (tgt : Int)) (hc : y ≤ x) (k : Zw g Λ en own cc nL ret R (tgt) lv (rest) μ o) : Zw g Λ en own cc nL ret R (pc) lv (.int y :: .int x :: rest) μ o := by
  intro hI r μ2 ho p e s m args below meth c H locs ls C hP hS hl
  exact lv_icmp_ge C.1 C.2.1 hdg ht (fun _ => k hI r μ2 ho p e s m args below meth c H locs ls C hP hS hl) (fun h => absurd hc h)
theorem z_icmp_ge_x {x y : Int32} {off : Int} {tgt : Nat} (hdg : decode cc pc = .ok (.if_icmp .ge off, 3)) (ht : (pc : Int) + off = (tgt : Int)) (hc : ¬ (y ≤ x)) (k : Zw g Λ en own cc nL ret R (pc + 3) lv (rest) μ o) : Zw g Λ en own cc nL ret R (pc) lv (.int y :: .int x :: rest) μ o := by
  intro hI r μ2 ho p e s m args below meth c H locs ls C hP hS hl
  exact lv_icmp_ge C.1 C.2.1 hdg ht (fun h => absurd h hc) (fun _ => k hI r μ2 ho p e s m args below meth c H locs ls C hP hS hl)
theorem z_if_gt {x : Int32} {off : Int} {tgt : Nat} (hdg : decode cc pc = .ok (.ifCond .gt off, 3)) (ht : (pc : Int) + off = (tgt : Int)) (kt : 0 < x → Zw g Λ en own cc nL ret R (tgt) lv (rest) μ o1) (kf : ¬ (0 < x) → Zw g Λ en own cc nL ret R (pc + 3) lv (rest) μ o2) : Zw g Λ en own cc nL ret R (pc) lv (.int x :: rest) μ (if 0 < x then o1 else o2) := by
  intro hI r μ2 ho p e s m args below meth c H locs ls C hP hS hl
  exact lv_if_gt C.1 C.2.1 hdg ht (fun h => kt h hI r μ2 (by rw [if_pos h] at ho; exact ho) p e s m args below meth c H locs ls C hP hS hl) (fun h => kf h hI r μ2 (by rw [if_neg h] at ho; exact ho) p e s m args below meth c H locs ls C hP hS hl)
theorem z_if_gt_y {x : Int32} {off : Int} {tgt : Nat} (hdg : decode cc pc = .ok (.ifCond .gt off, 3)) (ht : (pc : Int) + off = (tgt : Int)) (hc : 0 < x) (k : Zw g Λ en own cc nL ret R (tgt) lv (rest) μ o) : Zw g Λ en own cc nL ret R (pc) lv (.int x :: rest) μ o := by
  intro hI r μ2 ho p e s m args below meth c H locs ls C hP hS hl
  exact lv_if_gt C.1 C.2.1 hdg ht (fun _ => k hI r μ2 ho p e s m args below meth c H locs ls C hP hS hl) (fun h => absurd hc h)
theorem z_if_gt_x {x : Int32} {off : Int} {tgt : Nat} (hdg : decode cc pc = .ok (.ifCond .gt off, 3)) (ht : (pc : Int) + off = (tgt : Int)) (hc : ¬ (0 < x)) (k : Zw g Λ en own cc nL ret R (pc + 3) lv (rest) μ o) : Zw g Λ en own cc nL ret R (pc) lv (.int x :: rest) μ o := by
  intro hI r μ2 ho p e s m args below meth c H locs ls C hP hS hl
  exact lv_if_gt C.1 C.2.1 hdg ht (fun h => absurd h hc) (fun _ => k hI r μ2 ho p e s m args below meth c H locs ls C hP hS hl)
theorem z_icmp_gt {x y : Int32} {off : Int} {tgt : Nat} (hdg : decode cc pc = .ok (.if_icmp .gt off, 3)) (ht : (pc : Int) + off = (tgt : Int)) (kt : y < x → Zw g Λ en own cc nL ret R (tgt) lv (rest) μ o1) (kf : ¬ (y < x) → Zw g Λ en own cc nL ret R (pc + 3) lv (rest) μ o2) : Zw g Λ en own cc nL ret R (pc) lv (.int y :: .int x :: rest) μ (if y < x then o1 else o2) := by
  intro hI r μ2 ho p e s m args below meth c H locs ls C hP hS hl
  exact lv_icmp_gt C.1 C.2.1 hdg ht (fun h => kt h hI r μ2 (by rw [if_pos h] at ho; exact ho) p e s m args below meth c H locs ls C hP hS hl) (fun h => kf h hI r μ2 (by rw [if_neg h] at ho; exact ho) p e s m args below meth c H locs ls C hP hS hl)
theorem z_icmp_gt_y {x y : Int32} {off : Int} {tgt : Nat} (hdg : decode cc pc = .ok (.if_icmp .gt off, 3)) (ht : (pc : Int) + off = (tgt : Int)) (hc : y < x) (k : Zw g Λ en own cc nL ret R (tgt) lv (rest) μ o) : Zw g Λ en own cc nL ret R (pc) lv (.int y :: .int x :: rest) μ o := by
  intro hI r μ2 ho p e s m args below meth c H locs ls C hP hS hl
  exact lv_icmp_gt C.1 C.2.1 hdg ht (fun _ => k hI r μ2 ho p e s m args below meth c H locs ls C hP hS hl) (fun h => absurd hc h)
theorem z_icmp_gt_x {x y : Int32} {off : Int} {tgt : Nat} (hdg : decode cc pc = .ok (.if_icmp .gt off, 3)) (ht : (pc : Int) + off = (tgt : Int)) (hc : ¬ (y < x)) (k : Zw g Λ en own cc nL ret R (pc + 3) lv (rest) μ o) : Zw g Λ en own cc nL ret R (pc) lv (.int y :: .int x :: rest) μ o := by
  intro hI r μ2 ho p e s m args below meth c H locs ls C hP hS hl
  exact lv_icmp_gt C.1 C.2.1 hdg ht (fun h => absurd h hc) (fun _ => k hI r μ2 ho p e s m args below meth c H locs ls C hP hS hl)
theorem z_if_le {x : Int32} {off : Int} {tgt : Nat} (hdg : decode cc pc = .ok (.ifCond .le off, 3)) (ht : (pc : Int) + off = (tgt : Int)) (kt : x ≤ 0 → Zw g Λ en own cc nL ret R (tgt) lv (rest) μ o1) (kf : ¬ (x ≤ 0) → Zw g Λ en own cc nL ret R (pc + 3) lv (rest) μ o2) : Zw g Λ en own cc nL ret R (pc) lv (.int x :: rest) μ (if x ≤ 0 then o1 else o2) := by
  intro hI r μ2 ho p e s m args below meth c H locs ls C hP hS hl
  exact lv_if_le C.1 C.2.1 hdg ht (fun h => kt h hI r μ2 (by rw [if_pos h] at ho; exact ho) p e s m args below meth c H locs ls C hP hS hl) (fun h => kf h hI r μ2 (by rw [if_neg h] at ho; exact ho) p e s m args below meth c H locs ls C hP hS hl)
theorem z_if_le_y {x : Int32} {off : Int} {tgt : Nat} (hdg : decode cc pc = .ok (.ifCond .le off, 3)) (ht : (pc : Int) + off = (tgt : Int)) (hc : x ≤ 0) (k : Zw g Λ en own cc nL ret R (tgt) lv (rest) μ o) : Zw g Λ en own cc nL ret R (pc) lv (.int x :: rest) μ o := by
  intro hI r μ2 ho p e s m args below meth c H locs ls C hP hS hl
  exact lv_if_le C.1 C.2.1 hdg ht (fun _ => k hI r μ2 ho p e s m args below meth c H locs ls C hP hS hl) (fun h => absurd hc h)
theorem z_if_le_x {x : Int32} {off : Int} {tgt : Nat} (hdg : decode cc pc = .ok (.ifCond .le off, 3)) (ht : (pc : Int) + off = (tgt : Int)) (hc : ¬ (x ≤ 0)) (k : Zw g Λ en own cc nL ret R (pc + 3) lv (rest) μ o) : Zw g Λ en own cc nL ret R (pc) lv (.int x :: rest) μ o := by
  intro hI r μ2 ho p e s m args below meth c H locs ls C hP hS hl
  exact lv_if_le C.1 C.2.1 hdg ht (fun h => absurd h hc) (fun _ => k hI r μ2 ho p e s m args below meth c H locs ls C hP hS hl)
theorem z_icmp_le {x y : Int32} {off : Int} {tgt : Nat} (hdg : decode cc pc = .ok (.if_icmp .le off, 3)) (ht : (pc : Int) + off = (tgt : Int)) (kt : x ≤ y → Zw g Λ en own cc nL ret R (tgt) lv (rest) μ o1) (kf : ¬ (x ≤ y) → Zw g Λ en own cc nL ret R (pc + 3) lv (rest) μ o2) : Zw g Λ en own cc nL ret R (pc) lv (.int y :: .int x :: rest) μ (if x ≤ y then o1 else o2) := by
  intro hI r μ2 ho p e s m args below meth c H locs ls C hP hS hl
  exact lv_icmp_le C.1 C.2.1 hdg ht (fun h => kt h hI r μ2 (by rw [if_pos h] at ho; exact ho) p e s m args below meth c H locs ls C hP hS hl) (fun h => kf h hI r μ2 (by rw [if_neg h] at ho; exact ho) p e s m args below meth c H locs ls C hP hS hl)
theorem z_icmp_le_y {x y : Int32} {off : Int} {tgt : Nat} (hdg : decode cc pc = .ok (.if_icmp .le off, 3)) (ht : (pc : Int) + off = (tgt : Int)) (hc : x ≤ y) (k : Zw g Λ en own cc nL ret R (tgt) lv (rest) μ o) : Zw g Λ en own cc nL ret R (pc) lv (.int y :: .int x :: rest) μ o := by
  intro hI r μ2 ho p e s m args below meth c H locs ls C hP hS hl
  exact lv_icmp_le C.1 C.2.1 hdg ht (fun _ => k hI r μ2 ho p e s m args below meth c H locs ls C hP hS hl) (fun h => absurd hc h)
theorem z_icmp_le_x {x y : Int32} {off : Int} {tgt : Nat} (hdg : decode cc pc = .ok (.if_icmp .le off, 3)) (ht : (pc : Int) + off = (tgt : Int)) (hc : ¬ (x ≤ y)) (k : Zw g Λ en own cc nL ret R (pc + 3) lv (rest) μ o) : Zw g Λ en own cc nL ret R (pc) lv (.int y :: .int x :: rest) μ o := by
  intro hI r μ2 ho p e s m args below meth c H locs ls C hP hS hl
  exact lv_icmp_le C.1 C.2.1 hdg ht (fun h => absurd h hc) (fun _ => k hI r μ2 ho p e s m args below meth c H locs ls C hP hS hl)
theorem z_lcmp_eq {x y : Int64} {off : Int} {tgt : Nat} (hdg : decode cc pc = .ok (.lcmp, 1)) (hdg2 : decode cc (pc + 1) = .ok (.ifCond .eq off, 3)) (ht : ((pc + 1 : Nat) : Int) + off = (tgt : Int)) (kt : x = y → Zw g Λ en own cc nL ret R (tgt) lv (rest) μ o1) (kf : ¬ (x = y) → Zw g Λ en own cc nL ret R (pc + 4) lv (rest) μ o2) : Zw g Λ en own cc nL ret R (pc) lv (.long y :: .long x :: rest) μ (if x = y then o1 else o2) := by
  intro hI r μ2 ho p e s m args below meth c H locs ls C hP hS hl
  exact W.lcmp C.1 C.2.1 hdg (lv_if_eq C.1 C.2.1 hdg2 ht (fun h => kt ((lg_cmp_eq x y).mp h) hI r μ2 (by rw [if_pos ((lg_cmp_eq x y).mp h)] at ho; exact ho) p e s m args below meth c H locs ls C hP hS hl) (fun h => kf (fun q => h ((lg_cmp_eq x y).mpr q)) hI r μ2 (by rw [if_neg (fun q => h ((lg_cmp_eq x y).mpr q))] at ho; exact ho) p e s m args below meth c H locs ls C hP hS hl))
theorem z_lcmp_ne {x y : Int64} {off : Int} {tgt : Nat} (hdg : decode cc pc = .ok (.lcmp, 1)) (hdg2 : decode cc (pc + 1) = .ok (.ifCond .ne off, 3)) (ht : ((pc + 1 : Nat) : Int) + off = (tgt : Int)) (kt : ¬ (x = y) → Zw g Λ en own cc nL ret R (tgt) lv (rest) μ o2) (kf : x = y → Zw g Λ en own cc nL ret R (pc + 4) lv (rest) μ o1) : Zw g Λ en own cc nL ret R (pc) lv (.long y :: .long x :: rest) μ (if x = y then o1 else o2) := by
  intro hI r μ2 ho p e s m args below meth c H locs ls C hP hS hl
  exact W.lcmp C.1 C.2.1 hdg (lv_if_ne C.1 C.2.1 hdg2 ht (fun h => kt (fun q => h ((lg_cmp_eq x y).mpr q)) hI r μ2 (by rw [if_neg (fun q => h ((lg_cmp_eq x y).mpr q))] at ho; exact ho) p e s m args below meth c H locs ls C hP hS hl) (fun h => kf ((lg_cmp_eq x y).mp h) hI r μ2 (by rw [if_pos ((lg_cmp_eq x y).mp h)] at ho; exact ho) p e s m args below meth c H locs ls C hP hS hl))
theorem z_lcmp_lt {x y : Int64} {off : Int} {tgt : Nat} (hdg : decode cc pc = .ok (.lcmp, 1)) (hdg2 : decode cc (pc + 1) = .ok (.ifCond .lt off, 3)) (ht : ((pc + 1 : Nat) : Int) + off = (tgt : Int)) (kt : x < y → Zw g Λ en own cc nL ret R (tgt) lv (rest) μ o1) (kf : ¬ (x < y) → Zw g Λ en own cc nL ret R (pc + 4) lv (rest) μ o2) : Zw g Λ en own cc nL ret R (pc) lv (.long y :: .long x :: rest) μ (if x < y then o1 else o2) := by
  intro hI r μ2 ho p e s m args below meth c H locs ls C hP hS hl
  exact W.lcmp C.1 C.2.1 hdg (lv_if_lt C.1 C.2.1 hdg2 ht (fun h => kt ((lg_cmp_lt x y).mp h) hI r μ2 (by rw [if_pos ((lg_cmp_lt x y).mp h)] at ho; exact ho) p e s m args below meth c H locs ls C hP hS hl) (fun h => kf (fun q => h ((lg_cmp_lt x y).mpr q)) hI r μ2 (by rw [if_neg (fun q => h ((lg_cmp_lt x y).mpr q))] at ho; exact ho) p e s m args below meth c H locs ls C hP hS hl))
theorem z_lcmp_ge {x y : Int64} {off : Int} {tgt : Nat} (hdg : decode cc pc = .ok (.lcmp, 1)) (hdg2 : decode cc (pc + 1) = .ok (.ifCond .ge off, 3)) (ht : ((pc + 1 : Nat) : Int) + off = (tgt : Int)) (kt : y ≤ x → Zw g Λ en own cc nL ret R (tgt) lv (rest) μ o1) (kf : ¬ (y ≤ x) → Zw g Λ en own cc nL ret R (pc + 4) lv (rest) μ o2) : Zw g Λ en own cc nL ret R (pc) lv (.long y :: .long x :: rest) μ (if y ≤ x then o1 else o2) := by
  intro hI r μ2 ho p e s m args below meth c H locs ls C hP hS hl
  exact W.lcmp C.1 C.2.1 hdg (lv_if_ge C.1 C.2.1 hdg2 ht (fun h => kt ((lg_cmp_ge x y).mp h) hI r μ2 (by rw [if_pos ((lg_cmp_ge x y).mp h)] at ho; exact ho) p e s m args below meth c H locs ls C hP hS hl) (fun h => kf (fun q => h ((lg_cmp_ge x y).mpr q)) hI r μ2 (by rw [if_neg (fun q => h ((lg_cmp_ge x y).mpr q))] at ho; exact ho) p e s m args below meth c H locs ls C hP hS hl))
theorem z_lcmp_gt {x y : Int64} {off : Int} {tgt : Nat} (hdg : decode cc pc = .ok (.lcmp, 1)) (hdg2 : decode cc (pc + 1) = .ok (.ifCond .gt off, 3)) (ht : ((pc + 1 : Nat) : Int) + off = (tgt : Int)) (kt : y < x → Zw g Λ en own cc nL ret R (tgt) lv (rest) μ o1) (kf : ¬ (y < x) → Zw g Λ en own cc nL ret R (pc + 4) lv (rest) μ o2) : Zw g Λ en own cc nL ret R (pc) lv (.long y :: .long x :: rest) μ (if y < x then o1 else o2) := by
  intro hI r μ2 ho p e s m args below meth c H locs ls C hP hS hl
  exact W.lcmp C.1 C.2.1 hdg (lv_if_gt C.1 C.2.1 hdg2 ht (fun h => kt ((lg_cmp_gt x y).mp h) hI r μ2 (by rw [if_pos ((lg_cmp_gt x y).mp h)] at ho; exact ho) p e s m args below meth c H locs ls C hP hS hl) (fun h => kf (fun q => h ((lg_cmp_gt x y).mpr q)) hI r μ2 (by rw [if_neg (fun q => h ((lg_cmp_gt x y).mpr q))] at ho; exact ho) p e s m args below meth c H locs ls C hP hS hl))
theorem z_lcmp_le {x y : Int64} {off : Int} {tgt : Nat} (hdg : decode cc pc = .ok (.lcmp, 1)) (hdg2 : decode cc (pc + 1) = .ok (.ifCond .le off, 3)) (ht : ((pc + 1 : Nat) : Int) + off = (tgt : Int)) (kt : x ≤ y → Zw g Λ en own cc nL ret R (tgt) lv (rest) μ o1) (kf : ¬ (x ≤ y) → Zw g Λ en own cc nL ret R (pc + 4) lv (rest) μ o2) : Zw g Λ en own cc nL ret R (pc) lv (.long y :: .long x :: rest) μ (if x ≤ y then o1 else o2) := by
  intro hI r μ2 ho p e s m args below meth c H locs ls C hP hS hl
  exact W.lcmp C.1 C.2.1 hdg (lv_if_le C.1 C.2.1 hdg2 ht (fun h => kt ((lg_cmp_le x y).mp h) hI r μ2 (by rw [if_pos ((lg_cmp_le x y).mp h)] at ho; exact ho) p e s m args below meth c H locs ls C hP hS hl) (fun h => kf (fun q => h ((lg_cmp_le x y).mpr q)) hI r μ2 (by rw [if_neg (fun q => h ((lg_cmp_le x y).mpr q))] at ho; exact ho) p e s m args below meth c H locs ls C hP hS hl))
theorem z_get {a ci ix N k : Nat} {C0 : String} {T : u_T} {ref nm ds : String} {v : Value} {x : Nat × Nat} (hw : Cond.fieldLink own ix ref nm ds ∈ zt) (hin : ∀ w ∈ u_ws C0 T N, w ∈ zt) (ha : a < Λ.1) (hk : Λ.2.1 a = (4, ci)) (hc : vwCl[ci]? = some (C0, T, N)) (hkN : k < N) (hT : T k = (ref, nm, ds, (T k).2.2.2)) (hx : (Λ.2.2.1 a)[k]? = some x) (hv : zF g μ a (x, k) = v) (hdg : decode cc pc = .ok (.getfield ix, 3)) (kk : Zw g Λ en own cc nL ret R (pc + 3) lv (v :: rest) μ o) : Zw g Λ en own cc nL ret R (pc) lv (.ref (g.2.2.1 a) :: rest) μ o := by
  intro hI r μ2 ho p e s m args below meth c H locs ls C hP hS hl
  have hq : Cond.fieldLink own ix (T k).1 (T k).2.1 (T k).2.2.1 ∈ zt := by rw [hT]; exact hw
  exact va_get C.1 C.2.1 (own := own) (ref := (T k).1) C.2.2.2.2.2.1 hin C.2.2.2.2.1 C.2.2.2.2.2.2.2.1 hP a (zW_of ha (zE_o hk)) hc k hkN (C.2.2.2.2.2.1 _ hq) (fun _ h => h) (by rw [zo_f hx, hv]) hdg (kk hI r μ2 ho p e s m args below meth c H locs ls C hP hS hl)
theorem z_puti {a ci ix N k : Nat} {C0 : String} {T : u_T} {ref nm ds : String} {v : Int32} {x : Nat × Nat} {ty : FieldType} (hw : Cond.fieldLink own ix ref nm ds ∈ zt) (hin : ∀ w ∈ u_ws C0 T N, w ∈ zt) (ty0 : Nat → FieldType) (hty : ∀ k, k < N → parseFieldDescriptor (T k).2.2.1 = some (ty0 k)) (hnm : ∀ a, a < N → ∀ b, b < N → a ≠ b → (T a).2.1 ≠ (T b).2.1) (ha : a < Λ.1) (hk : Λ.2.1 a = (4, ci)) (hc : vwCl[ci]? = some (C0, T, N)) (hkN : k < N) (hT : T k = (ref, nm, ds, false)) (hx : (Λ.2.2.1 a)[k]? = some (1, 0)) (hd : ty0 k = ty) (hfit : narrow ty (.int v) = .int v ∧ fits ty (.int v) = true) (hdg : decode cc pc = .ok (.putfield ix, 3)) (kk : Zw g Λ en own cc nL ret R (pc + 3) lv (rest) (si μ a k v) o) : Zw g Λ en own cc nL ret R (pc) lv (.int v :: .ref (g.2.2.1 a) :: rest) μ o := by
  intro hI r μ2 ho p e s m args below meth c H locs ls C hP hS hl
  have hq : Cond.fieldLink own ix (T k).1 (T k).2.1 (T k).2.2.1 ∈ zt := by rw [hT]; exact hw
  have hlen : k < ((Λ.2.2.1 a).zipIdx.map (zF g μ a)).length := by
    have := (List.getElem?_eq_some_iff.mp hx).1
    simpa using this
  refine va_put (D := g.2.1) (v := .int v) (ty := ty) C.1 C.2.1 (own := own) (ref := (T k).1) C.2.2.2.2.2.1 hin ty0 hty hnm C.2.2.2.2.1 C.2.2.2.2.2.2.2.1 hP (zD hI μ) hS a (zW_of ha (zE_o hk)) hc k hkN (C.2.2.2.2.2.1 _ hq) (fun _ h => h) (by rw [hT]) (by rw [← hd]; exact hty k hkN) hfit.1 hfit.2 hlen hdg (fun H1 locs1 hP1 _ hS1 => ?_)
  refine kk hI r μ2 ho p e s m args below meth c H1 locs1 ls C ?_ hS1 hl
  have hE : zE g Λ (si μ a k v) a = .inr (ci, ((Λ.2.2.1 a).zipIdx.map (zF g μ a)).set k (.int v)) := by
    rw [zE_o hk, zo_set (μ' := si μ a k v) hx]
    · simp [zF, si_at, upd]
    · intro y j hj
      unfold zF
      rw [si_at]; simp [upd, hj, si]
  rw [zW_set ha hE si_ne] at hP1
  exact hP1
theorem z_putj {a ci ix N k : Nat} {C0 : String} {T : u_T} {ref nm ds : String} {v : Int64} {x : Nat × Nat} {ty : FieldType} (hw : Cond.fieldLink own ix ref nm ds ∈ zt) (hin : ∀ w ∈ u_ws C0 T N, w ∈ zt) (ty0 : Nat → FieldType) (hty : ∀ k, k < N → parseFieldDescriptor (T k).2.2.1 = some (ty0 k)) (hnm : ∀ a, a < N → ∀ b, b < N → a ≠ b → (T a).2.1 ≠ (T b).2.1) (ha : a < Λ.1) (hk : Λ.2.1 a = (4, ci)) (hc : vwCl[ci]? = some (C0, T, N)) (hkN : k < N) (hT : T k = (ref, nm, ds, false)) (hx : (Λ.2.2.1 a)[k]? = some (2, 0)) (hd : ty0 k = ty) (hfit : narrow ty (.long v) = .long v ∧ fits ty (.long v) = true) (hdg : decode cc pc = .ok (.putfield ix, 3)) (kk : Zw g Λ en own cc nL ret R (pc + 3) lv (rest) (sj μ a k v) o) : Zw g Λ en own cc nL ret R (pc) lv (.long v :: .ref (g.2.2.1 a) :: rest) μ o := by
  intro hI r μ2 ho p e s m args below meth c H locs ls C hP hS hl
  have hq : Cond.fieldLink own ix (T k).1 (T k).2.1 (T k).2.2.1 ∈ zt := by rw [hT]; exact hw
  have hlen : k < ((Λ.2.2.1 a).zipIdx.map (zF g μ a)).length := by
    have := (List.getElem?_eq_some_iff.mp hx).1
    simpa using this
  refine va_put (D := g.2.1) (v := .long v) (ty := ty) C.1 C.2.1 (own := own) (ref := (T k).1) C.2.2.2.2.2.1 hin ty0 hty hnm C.2.2.2.2.1 C.2.2.2.2.2.2.2.1 hP (zD hI μ) hS a (zW_of ha (zE_o hk)) hc k hkN (C.2.2.2.2.2.1 _ hq) (fun _ h => h) (by rw [hT]) (by rw [← hd]; exact hty k hkN) hfit.1 hfit.2 hlen hdg (fun H1 locs1 hP1 _ hS1 => ?_)
  refine kk hI r μ2 ho p e s m args below meth c H1 locs1 ls C ?_ hS1 hl
  have hE : zE g Λ (sj μ a k v) a = .inr (ci, ((Λ.2.2.1 a).zipIdx.map (zF g μ a)).set k (.long v)) := by
    rw [zE_o hk, zo_set (μ' := sj μ a k v) hx]
    · simp [zF, sj_at, vp_updL]
    · intro y j hj
      unfold zF
      rw [sj_at]; simp [vp_updL, hj, sj]
  rw [zW_set ha hE sj_ne] at hP1
  exact hP1
theorem vp_in_dec_ok : True := trivial
theorem z_iaload_g {a n : Nat} {i : Int32} (ha : a < Λ.1) (hk : Λ.2.1 a = (0, n)) (hdg : decode cc pc = .ok (.iaload, 1)) (k : Zw g Λ en own cc nL ret R (pc + 1) lv (.int (μ.1 a i.toNatClampNeg) :: rest) μ o) : Zw g Λ en own cc nL ret R (pc) lv (.int i :: .ref (g.2.2.1 a) :: rest) μ (if zin i n then o else none) := by
  intro hI r μ2 ho p e s m args below meth c H locs ls C hP hS hl
  by_cases hg : zin i n
  · rw [if_pos hg] at ho
    exact va_iald C.1 C.2.1 C.2.2.2.2.2.2.2.1 hP a 1 (zW_of ha (zE_i hk)) rfl (zin_vp hg) hdg (k hI r μ2 ho p e s m args below meth c H locs ls C hP hS hl)
  · rw [if_neg hg] at ho
    cases ho
theorem z_iaload {a n : Nat} {i : Int32} (ha : a < Λ.1) (hk : Λ.2.1 a = (0, n)) {j : Nat} (hin : zin i n = true) (hj : i.toNatClampNeg = j) (hdg : decode cc pc = .ok (.iaload, 1)) (k : Zw g Λ en own cc nL ret R (pc + 1) lv (.int (μ.1 a j) :: rest) μ o) : Zw g Λ en own cc nL ret R (pc) lv (.int i :: .ref (g.2.2.1 a) :: rest) μ o := by
  subst hj
  intro hI r μ2 ho p e s m args below meth c H locs ls C hP hS hl
  exact va_iald C.1 C.2.1 C.2.2.2.2.2.2.2.1 hP a 1 (zW_of ha (zE_i hk)) rfl (zin_vp hin) hdg (k hI r μ2 ho p e s m args below meth c H locs ls C hP hS hl)
theorem z_laload_g {a n : Nat} {i : Int32} (ha : a < Λ.1) (hk : Λ.2.1 a = (1, n)) (hdg : decode cc pc = .ok (.laload, 1)) (k : Zw g Λ en own cc nL ret R (pc + 1) lv (.long (μ.2 a i.toNatClampNeg) :: rest) μ o) : Zw g Λ en own cc nL ret R (pc) lv (.int i :: .ref (g.2.2.1 a) :: rest) μ (if zin i n then o else none) := by
  intro hI r μ2 ho p e s m args below meth c H locs ls C hP hS hl
  by_cases hg : zin i n
  · rw [if_pos hg] at ho
    exact va_lald C.1 C.2.1 C.2.2.2.2.2.2.2.1 hP a 2 (zW_of ha (zE_j hk)) rfl (zin_vp hg) hdg (k hI r μ2 ho p e s m args below meth c H locs ls C hP hS hl)
  · rw [if_neg hg] at ho
    cases ho
theorem z_laload {a n : Nat} {i : Int32} (ha : a < Λ.1) (hk : Λ.2.1 a = (1, n)) {j : Nat} (hin : zin i n = true) (hj : i.toNatClampNeg = j) (hdg : decode cc pc = .ok (.laload, 1)) (k : Zw g Λ en own cc nL ret R (pc + 1) lv (.long (μ.2 a j) :: rest) μ o) : Zw g Λ en own cc nL ret R (pc) lv (.int i :: .ref (g.2.2.1 a) :: rest) μ o := by
  subst hj
  intro hI r μ2 ho p e s m args below meth c H locs ls C hP hS hl
  exact va_lald C.1 C.2.1 C.2.2.2.2.2.2.2.1 hP a 2 (zW_of ha (zE_j hk)) rfl (zin_vp hin) hdg (k hI r μ2 ho p e s m args below meth c H locs ls C hP hS hl)
theorem z_baload_g {a n : Nat} {i : Int32} (ha : a < Λ.1) (hk : Λ.2.1 a = (2, n)) (hdg : decode cc pc = .ok (.baload, 1)) (k : Zw g Λ en own cc nL ret R (pc + 1) lv (.int (μ.1 a i.toNatClampNeg) :: rest) μ o) : Zw g Λ en own cc nL ret R (pc) lv (.int i :: .ref (g.2.2.1 a) :: rest) μ (if zin i n then o else none) := by
  intro hI r μ2 ho p e s m args below meth c H locs ls C hP hS hl
  by_cases hg : zin i n
  · rw [if_pos hg] at ho
    exact va_bald C.1 C.2.1 C.2.2.2.2.2.2.2.1 hP a 0 (zW_of ha (zE_b hk)) rfl (zin_vp hg) hdg (k hI r μ2 ho p e s m args below meth c H locs ls C hP hS hl)
  · rw [if_neg hg] at ho
    cases ho
theorem z_baload {a n : Nat} {i : Int32} (ha : a < Λ.1) (hk : Λ.2.1 a = (2, n)) {j : Nat} (hin : zin i n = true) (hj : i.toNatClampNeg = j) (hdg : decode cc pc = .ok (.baload, 1)) (k : Zw g Λ en own cc nL ret R (pc + 1) lv (.int (μ.1 a j) :: rest) μ o) : Zw g Λ en own cc nL ret R (pc) lv (.int i :: .ref (g.2.2.1 a) :: rest) μ o := by
  subst hj
  intro hI r μ2 ho p e s m args below meth c H locs ls C hP hS hl
  exact va_bald C.1 C.2.1 C.2.2.2.2.2.2.2.1 hP a 0 (zW_of ha (zE_b hk)) rfl (zin_vp hin) hdg (k hI r μ2 ho p e s m args below meth c H locs ls C hP hS hl)
theorem z_iastore {a n : Nat} {i : Int32} {x : Int32} (ha : a < Λ.1) (hk : Λ.2.1 a = (0, n)) {j : Nat} (hin : zin i n = true) (hj : i.toNatClampNeg = j) (hdg : decode cc pc = .ok (.iastore, 1)) (kk : Zw g Λ en own cc nL ret R (pc + 1) lv (rest) (si μ a j x) o) : Zw g Λ en own cc nL ret R (pc) lv (.int x :: .int i :: .ref (g.2.2.1 a) :: rest) μ o := by
  subst hj
  intro hI r μ2 ho p e s m args below meth c H locs ls C hP hS hl
  refine va_iast C.1 C.2.1 C.2.2.2.2.2.2.2.1 hP (zD hI μ) hS a 1 (zW_of ha (zE_i hk)) rfl (zin_vp hin) hdg (fun H1 locs1 hP1 _ hS1 => ?_)
  refine kk hI r μ2 ho p e s m args below meth c H1 locs1 ls C ?_ hS1 hl
  rw [zW_set ha (by rw [zE_i hk, si_at]) si_ne] at hP1
  exact hP1
theorem z_iastore_g {a n : Nat} {i : Int32} {x : Int32} (ha : a < Λ.1) (hk : Λ.2.1 a = (0, n)) (hdg : decode cc pc = .ok (.iastore, 1)) (kk : Zw g Λ en own cc nL ret R (pc + 1) lv (rest) (si μ a i.toNatClampNeg x) o) : Zw g Λ en own cc nL ret R (pc) lv (.int x :: .int i :: .ref (g.2.2.1 a) :: rest) μ (if zin i n then o else none) := by
  intro hI r μ2 ho p e s m args below meth c H locs ls C hP hS hl
  by_cases hin : zin i n
  · rw [if_pos hin] at ho
    refine va_iast C.1 C.2.1 C.2.2.2.2.2.2.2.1 hP (zD hI μ) hS a 1 (zW_of ha (zE_i hk)) rfl (zin_vp hin) hdg (fun H1 locs1 hP1 _ hS1 => ?_)
    refine kk hI r μ2 ho p e s m args below meth c H1 locs1 ls C ?_ hS1 hl
    rw [zW_set ha (by rw [zE_i hk, si_at]) si_ne] at hP1
    exact hP1
  · rw [if_neg hin] at ho
    cases ho
theorem z_lastore {a n : Nat} {i : Int32} {x : Int64} (ha : a < Λ.1) (hk : Λ.2.1 a = (1, n)) {j : Nat} (hin : zin i n = true) (hj : i.toNatClampNeg = j) (hdg : decode cc pc = .ok (.lastore, 1)) (kk : Zw g Λ en own cc nL ret R (pc + 1) lv (rest) (sj μ a j x) o) : Zw g Λ en own cc nL ret R (pc) lv (.long x :: .int i :: .ref (g.2.2.1 a) :: rest) μ o := by
  subst hj
  intro hI r μ2 ho p e s m args below meth c H locs ls C hP hS hl
  refine va_last C.1 C.2.1 C.2.2.2.2.2.2.2.1 hP (zD hI μ) hS a 2 (zW_of ha (zE_j hk)) rfl (zin_vp hin) hdg (fun H1 locs1 hP1 _ hS1 => ?_)
  refine kk hI r μ2 ho p e s m args below meth c H1 locs1 ls C ?_ hS1 hl
  rw [zW_set ha (by rw [zE_j hk, sj_at]) sj_ne] at hP1
  exact hP1
theorem z_lastore_g {a n : Nat} {i : Int32} {x : Int64} (ha : a < Λ.1) (hk : Λ.2.1 a = (1, n)) (hdg : decode cc pc = .ok (.lastore, 1)) (kk : Zw g Λ en own cc nL ret R (pc + 1) lv (rest) (sj μ a i.toNatClampNeg x) o) : Zw g Λ en own cc nL ret R (pc) lv (.long x :: .int i :: .ref (g.2.2.1 a) :: rest) μ (if zin i n then o else none) := by
  intro hI r μ2 ho p e s m args below meth c H locs ls C hP hS hl
  by_cases hin : zin i n
  · rw [if_pos hin] at ho
    refine va_last C.1 C.2.1 C.2.2.2.2.2.2.2.1 hP (zD hI μ) hS a 2 (zW_of ha (zE_j hk)) rfl (zin_vp hin) hdg (fun H1 locs1 hP1 _ hS1 => ?_)
    refine kk hI r μ2 ho p e s m args below meth c H1 locs1 ls C ?_ hS1 hl
    rw [zW_set ha (by rw [zE_j hk, sj_at]) sj_ne] at hP1
    exact hP1
  · rw [if_neg hin] at ho
    cases ho
theorem z_bastore {a n : Nat} {i : Int32} {x : Int32} (ha : a < Λ.1) (hk : Λ.2.1 a = (2, n)) {j : Nat} (hin : zin i n = true) (hj : i.toNatClampNeg = j) (hdg : decode cc pc = .ok (.bastore, 1)) (kk : Zw g Λ en own cc nL ret R (pc + 1) lv (rest) (si μ a j (vp_nar .byte x)) o) : Zw g Λ en own cc nL ret R (pc) lv (.int x :: .int i :: .ref (g.2.2.1 a) :: rest) μ o := by
  subst hj
  intro hI r μ2 ho p e s m args below meth c H locs ls C hP hS hl
  refine va_bast C.1 C.2.1 C.2.2.2.2.2.2.2.1 hP (zD hI μ) hS a 0 (zW_of ha (zE_b hk)) rfl (zin_vp hin) hdg (fun H1 locs1 hP1 _ hS1 => ?_)
  refine kk hI r μ2 ho p e s m args below meth c H1 locs1 ls C ?_ hS1 hl
  rw [zW_set ha (by rw [zE_b hk, si_at]) si_ne] at hP1
  exact hP1
theorem z_bastore_g {a n : Nat} {i : Int32} {x : Int32} (ha : a < Λ.1) (hk : Λ.2.1 a = (2, n)) (hdg : decode cc pc = .ok (.bastore, 1)) (kk : Zw g Λ en own cc nL ret R (pc + 1) lv (rest) (si μ a i.toNatClampNeg (vp_nar .byte x)) o) : Zw g Λ en own cc nL ret R (pc) lv (.int x :: .int i :: .ref (g.2.2.1 a) :: rest) μ (if zin i n then o else none) := by
  intro hI r μ2 ho p e s m args below meth c H locs ls C hP hS hl
  by_cases hin : zin i n
  · rw [if_pos hin] at ho
    refine va_bast C.1 C.2.1 C.2.2.2.2.2.2.2.1 hP (zD hI μ) hS a 0 (zW_of ha (zE_b hk)) rfl (zin_vp hin) hdg (fun H1 locs1 hP1 _ hS1 => ?_)
    refine kk hI r μ2 ho p e s m args below meth c H1 locs1 ls C ?_ hS1 hl
    rw [zW_set ha (by rw [zE_b hk, si_at]) si_ne] at hP1
    exact hP1
  · rw [if_neg hin] at ho
    cases ho
theorem z_aaload_g {a n : Nat} {i : Int32} (ha : a < Λ.1) (hk : Λ.2.1 a = (3, n)) (hdg : decode cc pc = .ok (.aaload, 1)) (k : Zw g Λ en own cc nL ret R (pc + 1) lv (.ref (g.2.2.1 (Λ.2.2.2 a i.toNatClampNeg)) :: rest) μ o) : Zw g Λ en own cc nL ret R (pc) lv (.int i :: .ref (g.2.2.1 a) :: rest) μ (if zin i n then o else none) := by
  intro hI r μ2 ho p e s m args below meth c H locs ls C hP hS hl
  by_cases hg : zin i n
  · rw [if_pos hg] at ho
    exact va_aldq C.1 C.2.1 C.2.2.2.2.2.2.2.1 hP a 3 (zW_of ha (zE_r hk)) rfl (zin_vp hg) hdg (k hI r μ2 ho p e s m args below meth c H locs ls C hP hS hl)
  · rw [if_neg hg] at ho
    cases ho
theorem z_alen_i {a n : Nat} {v : Int32} (ha : a < Λ.1) (hk : Λ.2.1 a = (0, n)) (hv : Int32.ofNat n = v) (hdg : decode cc pc = .ok (.arraylength, 1)) (k : Zw g Λ en own cc nL ret R (pc + 1) lv (.int v :: rest) μ o) : Zw g Λ en own cc nL ret R (pc) lv (.ref (g.2.2.1 a) :: rest) μ o := by
  intro hI r μ2 ho p e s m args below meth c H locs ls C hP hS hl
  exact va_alen (x := (n, .inl (μ.1 a))) C.1 C.2.1 C.2.2.2.2.2.2.2.1 hP a 1 (zW_of ha (zE_i hk)) rfl hv hdg (k hI r μ2 ho p e s m args below meth c H locs ls C hP hS hl)
theorem z_alen_j {a n : Nat} {v : Int32} (ha : a < Λ.1) (hk : Λ.2.1 a = (1, n)) (hv : Int32.ofNat n = v) (hdg : decode cc pc = .ok (.arraylength, 1)) (k : Zw g Λ en own cc nL ret R (pc + 1) lv (.int v :: rest) μ o) : Zw g Λ en own cc nL ret R (pc) lv (.ref (g.2.2.1 a) :: rest) μ o := by
  intro hI r μ2 ho p e s m args below meth c H locs ls C hP hS hl
  exact va_alen (x := (n, .inr (.inl (μ.2 a)))) C.1 C.2.1 C.2.2.2.2.2.2.2.1 hP a 2 (zW_of ha (zE_j hk)) rfl hv hdg (k hI r μ2 ho p e s m args below meth c H locs ls C hP hS hl)
theorem z_iret {v : Int32} (hdg : decode cc pc = .ok (.ireturn, 1)) : Zw g Λ enI own cc nL (some .int) R pc lv [.int v] μ (some (v, μ)) := by
  intro hI r μ2 ho p e s m args below meth c H locs ls C hP hS hl
  cases ho
  exact W.iret C.1 C.2.1 C.2.2.1 (fun t ht hW => ⟨rfl, by rw [ht]; exact hP, va_K.moved hW.alike C.2.2.2.2.2.2.2.1, hS.F ht⟩) hS.2.2 hdg C.2.2.2.2.2.2.1
theorem z_lret {v : Int64} (hdg : decode cc pc = .ok (.lreturn, 1)) : Zw g Λ enJ own cc nL (some .long) R pc lv [.long v] μ (some (v, μ)) := by
  intro hI r μ2 ho p e s m args below meth c H locs ls C hP hS hl
  cases ho
  exact W.lret C.1 C.2.1 C.2.2.1 (fun t ht hW => ⟨rfl, by rw [ht]; exact hP, va_K.moved hW.alike C.2.2.2.2.2.2.2.1, hS.F ht⟩) hS.2.2 hdg C.2.2.2.2.2.2.1
theorem z_vret (hdg : decode cc pc = .ok (.return_, 1)) : Zw g Λ enV own cc nL none R pc lv [] μ (some ((), μ)) := by
  intro hI r μ2 ho p e s m args below meth c H locs ls C hP hS hl
  cases ho
  exact W.vret C.1 C.2.1 C.2.2.1 (fun t ht hW => ⟨rfl, by rw [ht]; exact hP, va_K.moved hW.alike C.2.2.2.2.2.2.2.1, hS.F ht⟩) hS.2.2 hdg C.2.2.2.2.2.2.1
theorem zb_n {v : Int32} (h : v = 0 ∨ v = 1) : narrow .boolean (.int v) = .int v ∧ fits .boolean (.int v) = true := by
  rcases h with rfl | rfl <;> decide +kernel
theorem z_zret {v : Int32} (hdg : decode cc pc = .ok (.ireturn, 1)) (hv : v = 0 ∨ v = 1) : Zw g Λ enI own cc nL (some .boolean) R pc lv [.int v] μ (some (v, μ)) := by
  intro hI r μ2 ho p e s m args below meth c H locs ls C hP hS hl
  cases ho
  exact W.zret C.1 C.2.1 C.2.2.1 (zb_n hv).1 (fun t ht hW => ⟨rfl, by rw [ht]; exact hP, va_K.moved hW.alike C.2.2.2.2.2.2.2.1, hS.F ht⟩) hS.2.2 hdg C.2.2.2.2.2.2.1
theorem z_zret_g {v : Int32} (hdg : decode cc pc = .ok (.ireturn, 1)) : Zw g Λ enI own cc nL (some .boolean) R pc lv [.int v] μ (if v = 0 ∨ v = 1 then some (v, μ) else none) := by
  by_cases h : v = 0 ∨ v = 1
  · rw [if_pos h]
    exact z_zret hdg h
  · rw [if_neg h]
    exact z_none
end Z1
theorem zB.blind {g : Gx} {Λ : Ly} {μ : Mm} {As : List Value} : FrameBlind (va_Pc As (zB g Λ μ)) := fun a U gf mk q => by
  obtain ⟨q0, qP, qK, qN⟩ := q
  exact ⟨q0, qP, va_K.moved (u := U) (U := U.calling gf mk a) (Vm.Alike.refl U.vm) qK, zNs.same (u := U) (U := U.calling gf mk a) rfl qN⟩
theorem z_met {α : Type} {g : Gx} {Λ : Ly} {en : α → Option Value} {y : MethodName} {cc : ByteArray} {nL : Nat} {ret : Option FieldType} {rm : Room} {As : List Value} {μ : Mm} {o : Option (α × Mm)} (hy : plainName y.cls = true) (hn : (lg_sl As).length ≤ nL)
    (k : Zw g Λ en y.cls cc nL ret rm 0 (lv_args 0 As) [] μ o) : Zm g Λ en y cc nL ret rm As μ o := by
  intro hI r μ2 ho
  refine Met.ofW (cc := cc) (maxL := nL) (ret := ret) hy rfl ?_
  intro p e s m args below meth c s₁ B hml hv
  obtain ⟨rfl, hP, hK, hN⟩ := hv
  have hts := atoms_spec (ws := Cond.code y cc nL ret :: zt) B.pre
  have hown : s.vm.findClass y.cls = some m.cls := findClass_of_methodNamed B.named
  have hl := lv_entry As (n := nL) hn
  rw [lg_entry_eq]
  exact k hI r μ2 ho p e s m As.toArray below meth c s.heap [] _ ⟨B.exec, B.bytes, B.returns, hml, hown, fun w hw => hts w (List.mem_cons_of_mem _ hw), B.notSynchronized, hK, hN⟩ hP va_S.rf hl
theorem z_run {p : Program} {e : Env} {R : Room} {s : State} {m : MethodId} {args : Array Value} {below : List Frame} {meth : Method} {c : Code} {H : Heap} {locs : List Loc} {Q : State → Prop} {g : Gx} {Λ : Ly} {pc : Nat} {ls : Array Slot} {st0 rest : List Value} {rv : Option Value} {μ1 : Mm} {a : Array Value}
    (hr : va_Run p g.1 e R s m args below meth c H locs 0 0 0 0 (F0 m pc ls st0) rest (zQ g Λ rv μ1 a) (zA g Λ)) (hS : va_S (zA g Λ) s.heap H locs)
    (kk : ∀ (H1 : Heap) (locs1 : List Loc), va_P g.2.1 vwCl (zW g Λ μ1) H1 → va_S (zA g Λ) s.heap H1 locs1 → W p g.1 e R s m args below meth c H1 locs1 0 0 Q (F0 m (pc + 3) ls (rv.toList ++ rest))) : W p g.1 e R s m args below meth c H locs 0 0 Q (F0 m pc ls st0) := by
  intro T hT X
  obtain ⟨v, st₀, t, T', L, h0, X', hL, e1, e2, ⟨hv, hP, hK, hz, hk⟩, st⟩ := hr T hT X
  cases hv
  rw [h0] at hz hk
  obtain ⟨t2, a1, b1⟩ := kk T'.heap (locs ++ L) (by rw [e1]; exact hP)
    ⟨Nat.le_trans hS.1 (by rw [e1]; exact hz), fun q h1 h2 => by rw [e1, hk q (Nat.lt_of_lt_of_le h1 hS.1) h2]; exact hS.2.1 q h1 h2, fun q hq => by
      rcases List.mem_append.mp hq with h | h
      · exact hS.2.2 q h
      · exact hL q h⟩ T' rfl X'
  exact ⟨t2, st t2 a1, b1⟩
def ZcB (own : String) (ix : Nat) (y : MethodName) (bytes : ByteArray) (maxL : Nat) (retb : Option FieldType) (n : Nat) : Prop :=
  Cond.code y bytes maxL retb ∈ zt ∧ Cond.initialized y.cls ∈ zt ∧ y.cls ≠ "java/lang/invoke/MethodHandle" ∧ y.cls ≠ "java/lang/invoke/VarHandle" ∧ (parseMethodDescriptor y.desc).map (fun d => d.parameters.length) = some n
def ZcV (own : String) (ix : Nat) (y : MethodName) (bytes : ByteArray) (maxL : Nat) (retb : Option FieldType) (n : Nat) : Prop :=
  ZcB own ix y bytes maxL retb n ∧ Cond.methodLink own ix y ∈ zt ∧ Cond.instanceMethod y ∈ zt ∧ Cond.selects y.cls y y ∈ zt
def ZcS (own : String) (ix : Nat) (y : MethodName) (bytes : ByteArray) (maxL : Nat) (retb : Option FieldType) (n : Nat) : Prop :=
  ZcB own ix y bytes maxL retb n ∧ Cond.methodLink own ix y ∈ zt ∧ Cond.static y ∈ zt
def ZcSN (own : String) (ix : Nat) (y : MethodName) (bytes : ByteArray) (maxL : Nat) (retb : Option FieldType) (n : Nat) (host : String) : Prop :=
  ZcB own ix y bytes maxL retb n ∧ Cond.methodLinkNest own ix y host ∈ lw_tbl ∧ Cond.static y ∈ zt
section Z2
variable {α β : Type} {g : Gx} {Λ : Ly} {en : α → Option Value} {enb : β → Option Value} {own : String} {cc bytes : ByteArray} {nL maxL n ix : Nat} {ret retb : Option FieldType} {R rm : Room} {pc : Nat} {lv : List (Nat × Value)} {st0 rest As : List Value} {μ : Mm} {ob : Option (β × Mm)} {y : MethodName} {k : β → Mm → Option (α × Mm)}
theorem zCB {p : Program} {s : State} {m : MethodId} {args : Array Value} {meth : Method} {c : Code} (C : zC g own cc nL ret p s m args meth c) (hc : ZcB own ix y bytes maxL retb n) (hl : Cond.methodLink own ix y ∈ zt) (hrm : rm.cells = 0 ∧ rm.slots = 0) (hR : rm.frames + 1 ≤ R.frames ∧ 8 + (maxL + 11) + rm.locals ≤ R.locals) : CallB R s args own ix y bytes maxL retb (Cond.code y bytes maxL retb :: zt) rm 0 0 n :=
  callB_of n C.2.2.2.2.2.1 (zG hc.1) rfl hrm.1 hrm.2 (C.2.2.2.2.2.1 _ hc.2.1) (C.2.2.2.2.2.1 _ hl) ⟨hc.2.2.1, hc.2.2.2.1, hc.2.2.2.2⟩ hR
theorem zPre {p : Program} {s : State} {m : MethodId} {args : Array Value} {meth : Method} {c : Code} {H : Heap} (C : zC g own cc nL ret p s m args meth c) (hP : va_P g.2.1 vwCl (zW g Λ μ) H) (U : State) (hU : U.heap = H) (hW : s.WarmedH U.vm) (As : List Value) : va_Pc As (zB g Λ μ) As.toArray U :=
  ⟨rfl, by rw [hU]; exact hP, va_K.moved hW.alike C.2.2.2.2.2.2.2.1, zNs.warm hW C.2.2.2.2.2.2.2.2⟩
theorem z_callV {b ci : Nat} {q : vw_C} (hc : ZcV own ix y bytes maxL retb n) (hM : Zm g Λ enb y bytes maxL retb rm (.ref (g.2.2.1 b) :: As) μ ob) (hb : b < Λ.1) (hk : Λ.2.1 b = (4, ci)) (hq : vwCl[ci]? = some q) (hq1 : q.1 = y.cls)
    (hrm : rm.cells = 0 ∧ rm.slots = 0) (hR : rm.frames + 1 ≤ R.frames ∧ 8 + (maxL + 11) + rm.locals ≤ R.locals) (hroom : (rest.map fun v => v.category).sum ≤ 8) (hst : st0 = As.reverse ++ .ref (g.2.2.1 b) :: rest) (hn : As.length = n) (hdg : decode cc pc = .ok (.invokevirtual ix, 3))
    (kk : ∀ (r : β) (μ1 : Mm), Zw g Λ en own cc nL ret R (pc + 3) lv ((enb r).toList ++ rest) μ1 (k r μ1)) : Zw g Λ en own cc nL ret R pc lv st0 μ (bd ob k) := by
  intro hI r μ2 ho p e s m args below meth c H locs ls C hP hS hl
  cases hob : ob with
  | none => rw [hob] at ho; cases ho
  | some z =>
    obtain ⟨r1, μ1⟩ := z
    rw [hob] at ho
    have ho : k r1 μ1 = some (r, μ2) := ho
    have hMt := hM hI r1 μ1 hob
    have hcell := va_recv C.2.2.2.2.2.2.2.1 hP (ci := ci) (q := q) hq (zW_of hb (zE_o hk))
    rw [hq1] at hcell
    refine z_run (va_runV (As := As) (rest := rest) (b := g.2.2.1 b) (C := y.cls) ⟨C.1, C.2.1, C.2.2.2.1, C.2.2.2.2.1, C.2.2.2.2.2.1⟩ hMt ⟨zCB C hc.1 hc.2.1 hrm hR, C.2.2.2.2.2.1 _ hc.2.2.1, C.2.2.2.2.2.1 _ hc.2.2.2⟩ ⟨zB.blind, hcell, fun U hU hW => zPre C hP U hU hW _⟩ rfl hn hl.1 hst (lv_room hroom) hdg ⟨Nat.zero_le _, Nat.zero_le _⟩) hS (fun H1 locs1 hP1 hS1 => ?_)
    exact kk r1 μ1 hI r μ2 ho p e s m args below meth c H1 locs1 ls C hP1 hS1 hl
theorem z_callS (hc : ZcS own ix y bytes maxL retb n) (hM : Zm g Λ enb y bytes maxL retb rm As μ ob)
    (hrm : rm.cells = 0 ∧ rm.slots = 0) (hR : rm.frames + 1 ≤ R.frames ∧ 8 + (maxL + 11) + rm.locals ≤ R.locals) (hroom : (rest.map fun v => v.category).sum ≤ 8) (hst : st0 = As.reverse ++ rest) (hn : As.length = n) (hdg : decode cc pc = .ok (.invokestatic ix, 3))
    (kk : ∀ (r : β) (μ1 : Mm), Zw g Λ en own cc nL ret R (pc + 3) lv ((enb r).toList ++ rest) μ1 (k r μ1)) : Zw g Λ en own cc nL ret R pc lv st0 μ (bd ob k) := by
  intro hI r μ2 ho p e s m args below meth c H locs ls C hP hS hl
  cases hob : ob with
  | none => rw [hob] at ho; cases ho
  | some z =>
    obtain ⟨r1, μ1⟩ := z
    rw [hob] at ho
    have ho : k r1 μ1 = some (r, μ2) := ho
    have hMt := hM hI r1 μ1 hob
    refine z_run (va_runS (As := As) (rest := rest) ⟨C.1, C.2.1, C.2.2.2.1, C.2.2.2.2.1, C.2.2.2.2.2.1⟩ hMt ⟨zCB C hc.1 hc.2.1 hrm hR, C.2.2.2.2.2.1 _ hc.2.2⟩ ⟨zB.blind, fun U hU hW => zPre C hP U hU hW _⟩ rfl hn hl.1 hst (lv_room hroom) hdg ⟨Nat.zero_le _, Nat.zero_le _⟩) hS (fun H1 locs1 hP1 hS1 => ?_)
    exact kk r1 μ1 hI r μ2 ho p e s m args below meth c H1 locs1 ls C hP1 hS1 hl
theorem z_callSN {host : String} (hc : ZcSN own ix y bytes maxL retb n host) (hM : Zm g Λ enb y bytes maxL retb rm As μ ob)
    (hrm : rm.cells = 0 ∧ rm.slots = 0) (hR : rm.frames + 1 ≤ R.frames ∧ 8 + (maxL + 11) + rm.locals ≤ R.locals) (hroom : (rest.map fun v => v.category).sum ≤ 8) (hst : st0 = As.reverse ++ rest) (hn : As.length = n) (hdg : decode cc pc = .ok (.invokestatic ix, 3))
    (kk : ∀ (r : β) (μ1 : Mm), Zw g Λ en own cc nL ret R (pc + 3) lv ((enb r).toList ++ rest) μ1 (k r μ1)) : Zw g Λ en own cc nL ret R pc lv st0 μ (bd ob k) := by
  intro hI r μ2 ho p e s m args below meth c H locs ls C hP hS hl
  cases hob : ob with
  | none => rw [hob] at ho; cases ho
  | some z =>
    obtain ⟨r1, μ1⟩ := z
    rw [hob] at ho
    have ho : k r1 μ1 = some (r, μ2) := ho
    have hMt := hM hI r1 μ1 hob
    have cn : va_CN R s args own ix y host bytes maxL retb (Cond.code y bytes maxL retb :: zt) rm 0 0 n := va_cnB n C.2.2.2.2.2.1 (zG hc.1.1) rfl hrm.1 hrm.2 (C.2.2.2.2.2.2.2.2 _ hc.2.1 rfl) (C.2.2.2.2.2.1 _ hc.1.2.1) ⟨hc.1.2.2.1, hc.1.2.2.2.1, hc.1.2.2.2.2⟩ hR
    refine z_run (va_runSN (As := As) (rest := rest) ⟨C.1, C.2.1, C.2.2.2.1, C.2.2.2.2.1, C.2.2.2.2.2.1⟩ hMt ⟨cn, C.2.2.2.2.2.1 _ hc.2.2, trivial⟩ ⟨zB.blind, fun U hU hW => zPre C hP U hU hW _⟩ rfl hn hl.1 hst (lv_room hroom) hdg ⟨Nat.zero_le _, Nat.zero_le _⟩) hS (fun H1 locs1 hP1 hS1 => ?_)
    exact kk r1 μ1 hI r μ2 ho p e s m args below meth c H1 locs1 ls C hP1 hS1 hl
end Z2
section Z3
variable {α : Type} {g : Gx} {Λ : Ly} {en : α → Option Value} {own : String} {cc : ByteArray} {nL ix : Nat} {ret : Option FieldType} {R : Room} {pc : Nat} {lv : List (Nat × Value)} {rest : List Value} {μ : Mm} {o : Option (α × Mm)}
theorem z_min {x y : Int32} (hw : Cond.methodLink own ix Lib.Math.min.name ∈ zt ∧ Cond.static Lib.Math.min.name ∈ zt ∧ Cond.initialized "java/lang/Math" ∈ zt ∧ Cond.code Lib.Math.min.name Lib.Math.min.code 2 (some .int) ∈ zt) (hf : 1 ≤ R.frames) (hlo : 21 ≤ R.locals) (hroom : (rest.map fun v => v.category).sum ≤ 8) (hdg : decode cc pc = .ok (.invokestatic ix, 3))
    (kk : Zw g Λ en own cc nL ret R (pc + 3) lv (.int (if y < x then y else x) :: rest) μ o) : Zw g Λ en own cc nL ret R pc lv (.int y :: .int x :: rest) μ o := by
  intro hI r μ2 ho p e s m args below meth c H locs ls C hP hS hl
  exact va_mmin C.1 C.2.1 (by rw [hl.1]; exact C.2.2.2.1) C.2.2.2.2.1 (C.2.2.2.2.2.1 _ hw.1) (C.2.2.2.2.2.1 _ hw.2.1) (C.2.2.2.2.2.1 _ hw.2.2.1) (C.2.2.2.2.2.1 _ hw.2.2.2) hf (by omega) (Nat.zero_le _) (Nat.zero_le _) hdg (kk hI r μ2 ho p e s m args below meth c H locs ls C hP hS hl)
theorem z_maxl {x y : Int64} (hw : Cond.methodLink own ix Lib.MathLoose.max_long.x ∈ zt ∧ Cond.static Lib.MathLoose.max_long.x ∈ zt ∧ Cond.initialized "java/lang/Math" ∈ zt ∧ Cond.code Lib.MathLoose.max_long.x Lib.MathLoose.max_long.code 4 (some .long) ∈ zt) (hf : 1 ≤ R.frames) (hlo : 23 ≤ R.locals) (hroom : (rest.map fun v => v.category).sum ≤ 8) (hdg : decode cc pc = .ok (.invokestatic ix, 3))
    (kk : Zw g Λ en own cc nL ret R (pc + 3) lv (.long (if y < x then x else y) :: rest) μ o) : Zw g Λ en own cc nL ret R pc lv (.long y :: .long x :: rest) μ o := by
  intro hI r μ2 ho p e s m args below meth c H locs ls C hP hS hl
  exact va_mmax_long C.1 C.2.1 (by rw [hl.1]; exact C.2.2.2.1) C.2.2.2.2.1 (C.2.2.2.2.2.1 _ hw.1) (C.2.2.2.2.2.1 _ hw.2.1) (C.2.2.2.2.2.1 _ hw.2.2.1) (C.2.2.2.2.2.1 _ hw.2.2.2) hf (by omega) (Nat.zero_le _) (Nat.zero_le _) hdg (kk hI r μ2 ho p e s m args below meth c H locs ls C hP hS hl)
theorem z_copy {a b n0 n1 : Nat} {sp dp n : Int32} (hw : Cond.methodLink own ix arraycopyName ∈ zt ∧ Cond.native arraycopyName ∈ zt ∧ Cond.static arraycopyName ∈ zt ∧ Cond.initialized "java/lang/System" ∈ zt) (ha : a < Λ.1) (hka : Λ.2.1 a = (0, n0)) (hb : b < Λ.1) (hkb : Λ.2.1 b = (0, n1)) (hf : 1 ≤ R.frames) (hlo : 8 + (nativeFrameWords "java/lang/System" "arraycopy" 5 + 11) ≤ R.locals) (hroom : (rest.map fun v => v.category).sum ≤ 8) (hdg : decode cc pc = .ok (.invokestatic ix, 3))
    (kk : Zw g Λ en own cc nL ret R (pc + 3) lv rest (sc μ a b sp.toNatClampNeg dp.toNatClampNeg n.toNatClampNeg) o) : Zw g Λ en own cc nL ret R pc lv (.int n :: .int dp :: .ref (g.2.2.1 b) :: .int sp :: .ref (g.2.2.1 a) :: rest) μ (if ¬ sp < 0 ∧ ¬ dp < 0 ∧ ¬ n < 0 ∧ sp.toNatClampNeg + n.toNatClampNeg ≤ n0 ∧ dp.toNatClampNeg + n.toNatClampNeg ≤ n1 then o else none) := by
  intro hI r μ2 ho p e s m args below meth c H locs ls C hP hS hl
  by_cases hg : ¬ sp < 0 ∧ ¬ dp < 0 ∧ ¬ n < 0 ∧ sp.toNatClampNeg + n.toNatClampNeg ≤ n0 ∧ dp.toNatClampNeg + n.toNatClampNeg ≤ n1
  · rw [if_pos hg] at ho
    refine va_copyi C.1 C.2.1 (by rw [hl.1]; exact C.2.2.2.1) C.2.2.2.2.1 (C.2.2.2.2.2.1 _ hw.1) (C.2.2.2.2.2.1 _ hw.2.1) (C.2.2.2.2.2.1 _ hw.2.2.1) (C.2.2.2.2.2.1 _ hw.2.2.2) C.2.2.2.2.2.2.2.1 hP (zD hI μ) hS a b 1 1 (zW_of ha (zE_i hka)) (zW_of hb (zE_i hkb)) rfl rfl rfl hg.1 hg.2.1 hg.2.2.1 hg.2.2.2.1 hg.2.2.2.2 (fun _ _ => rfl) hf (by omega) hdg (fun H1 locs1 hP1 _ hS1 => ?_)
    refine kk hI r μ2 ho p e s m args below meth c H1 locs1 ls C ?_ hS1 hl
    rw [zW_set hb (by rw [zE_i hkb, sc_at]) sc_ne] at hP1
    exact hP1
  · rw [if_neg hg] at ho
    cases ho
theorem z_tabIn {dflt lo hi : Int} {offs : Array Int} {len : Nat} {x : Int32} {off : Int} {tgt : Nat} (hdg : decode cc pc = .ok (.tableswitch dflt lo hi offs, len)) (h1 : ¬ x.toInt < lo) (h2 : ¬ hi < x.toInt) (ho1 : offs[(x.toInt - lo).toNat]? = some off) (ht : (pc : Int) + off = (tgt : Int)) (k : Zw g Λ en own cc nL ret R tgt lv rest μ o) : Zw g Λ en own cc nL ret R pc lv (.int x :: rest) μ o := by
  intro hI r μ2 ho p e s m args below meth c H locs ls C hP hS hl
  exact lv_tableIn C.1 C.2.1 hdg h1 h2 ho1 ht (k hI r μ2 ho p e s m args below meth c H locs ls C hP hS hl)
theorem z_tabOut {dflt lo hi : Int} {offs : Array Int} {len : Nat} {x : Int32} {tgt : Nat} (hdg : decode cc pc = .ok (.tableswitch dflt lo hi offs, len)) (h : x.toInt < lo ∨ hi < x.toInt) (ht : (pc : Int) + dflt = (tgt : Int)) (k : Zw g Λ en own cc nL ret R tgt lv rest μ o) : Zw g Λ en own cc nL ret R pc lv (.int x :: rest) μ o := by
  intro hI r μ2 ho p e s m args below meth c H locs ls C hP hS hl
  exact lv_tableOut C.1 C.2.1 hdg h ht (k hI r μ2 ho p e s m args below meth c H locs ls C hP hS hl)
end Z3
section Z4
variable {α : Type} {g : Gx} {Λ : Ly} {en : α → Option Value} {own : String} {cc : ByteArray} {nL : Nat} {ret : Option FieldType} {R : Room} {pc : Nat} {lv lv2 : List (Nat × Value)} {rest : List Value} {μ : Mm} {o o1 o2 : Option (α × Mm)}
theorem z_sub (ks : List Nat) (h : lv_pick lv ks = lv2) (k : Zw g Λ en own cc nL ret R pc lv2 rest μ o) : Zw g Λ en own cc nL ret R pc lv rest μ o := by
  intro hI r μ2 ho p e s m args below meth c H locs ls C hP hS hl
  exact k hI r μ2 ho p e s m args below meth c H locs ls C hP hS (lv_sub hl ks h)
theorem z_eqi {x y : Int32} (h : x = y) (k : y = 0 → Zw g Λ en own cc nL ret R pc lv rest μ o1) (k2 : ¬ y = 0 → Zw g Λ en own cc nL ret R pc lv rest μ o2) : Zw g Λ en own cc nL ret R pc lv rest μ (if x = 0 then o1 else o2) := by
  subst h
  by_cases q : x = 0
  · rw [if_pos q]; exact k q
  · rw [if_neg q]; exact k2 q
theorem z_ite {x y : Int32} (k : x = y → Zw g Λ en own cc nL ret R pc lv rest μ o1) (k2 : ¬ x = y → Zw g Λ en own cc nL ret R pc lv rest μ o2) : Zw g Λ en own cc nL ret R pc lv rest μ (if x = y then o1 else o2) := by
  by_cases q : x = y
  · rw [if_pos q]; exact k q
  · rw [if_neg q]; exact k2 q
theorem z_ite_g {x : Int32} (k : x = 0 ∨ x = 1 → Zw g Λ en own cc nL ret R pc lv rest μ o) : Zw g Λ en own cc nL ret R pc lv rest μ (if x = 0 ∨ x = 1 then o else none) := by
  by_cases q : x = 0 ∨ x = 1
  · rw [if_pos q]; exact k q
  · rw [if_neg q]; exact z_none
end Z4
theorem oi_1 : Int32.ofInt 1 = 1 := by decide +kernel
theorem oi_n1 : Int32.ofInt (-1) = -1 := by decide +kernel
theorem oi_4 : Int32.ofInt 4 = 4 := by decide +kernel
def FU : Nat := 1000
