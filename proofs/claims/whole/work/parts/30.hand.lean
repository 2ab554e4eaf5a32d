section Z5
variable {α β : Type} {g : Gx} {Λ : Ly} {en : α → Option Value} {enb : β → Option Value} {own : String} {cc bytes : ByteArray} {nL maxL n ix : Nat} {ret retb : Option FieldType} {R rm : Room} {pc : Nat} {lv : List (Nat × Value)} {st0 rest As : List Value} {μ μ1 : Mm} {ob : Option (β × Mm)} {y : MethodName} {o : Option (α × Mm)} {r : β}
theorem z_callS1 (hc : ZcS own ix y bytes maxL retb n) (hM : Zm g Λ enb y bytes maxL retb rm As μ ob) (hob : ob = some (r, μ1))
    (hrm : rm.cells = 0 ∧ rm.slots = 0) (hR : rm.frames + 1 ≤ R.frames ∧ 8 + (maxL + 11) + rm.locals ≤ R.locals) (hroom : (rest.map fun v => v.category).sum ≤ 8) (hst : st0 = As.reverse ++ rest) (hn : As.length = n) (hdg : decode cc pc = .ok (.invokestatic ix, 3))
    (kk : Zw g Λ en own cc nL ret R (pc + 3) lv ((enb r).toList ++ rest) μ1 o) : Zw g Λ en own cc nL ret R pc lv st0 μ o := by
  subst hob
  intro hI r' μ2 ho p e s m args below meth c H locs ls C hP hS hl
  refine z_run (va_runS (As := As) (rest := rest) ⟨C.1, C.2.1, C.2.2.2.1, C.2.2.2.2.1, C.2.2.2.2.2.1⟩ (hM hI r μ1 rfl) ⟨zCB C hc.1 hc.2.1 hrm hR, C.2.2.2.2.2.1 _ hc.2.2⟩ ⟨zB.blind, fun U hU hW => zPre C hP U hU hW _⟩ rfl hn hl.1 hst (lv_room hroom) hdg ⟨Nat.zero_le _, Nat.zero_le _⟩) hS (fun H1 locs1 hP1 hS1 => ?_)
  exact kk hI r' μ2 ho p e s m args below meth c H1 locs1 ls C hP1 hS1 hl
theorem z_callV1 {b ci : Nat} {q : vw_C} (hc : ZcV own ix y bytes maxL retb n) (hM : Zm g Λ enb y bytes maxL retb rm (.ref (g.2.2.1 b) :: As) μ ob) (hob : ob = some (r, μ1)) (hb : b < Λ.1) (hk : Λ.2.1 b = (4, ci)) (hq : vwCl[ci]? = some q) (hq1 : q.1 = y.cls)
    (hrm : rm.cells = 0 ∧ rm.slots = 0) (hR : rm.frames + 1 ≤ R.frames ∧ 8 + (maxL + 11) + rm.locals ≤ R.locals) (hroom : (rest.map fun v => v.category).sum ≤ 8) (hst : st0 = As.reverse ++ .ref (g.2.2.1 b) :: rest) (hn : As.length = n) (hdg : decode cc pc = .ok (.invokevirtual ix, 3))
    (kk : Zw g Λ en own cc nL ret R (pc + 3) lv ((enb r).toList ++ rest) μ1 o) : Zw g Λ en own cc nL ret R pc lv st0 μ o := by
  subst hob
  intro hI r' μ2 ho p e s m args below meth c H locs ls C hP hS hl
  have hcell := va_recv C.2.2.2.2.2.2.2.1 hP (ci := ci) (q := q) hq (zW_of hb (zE_o hk))
  rw [hq1] at hcell
  refine z_run (va_runV (As := As) (rest := rest) (b := g.2.2.1 b) (C := y.cls) ⟨C.1, C.2.1, C.2.2.2.1, C.2.2.2.2.1, C.2.2.2.2.2.1⟩ (hM hI r μ1 rfl) ⟨zCB C hc.1 hc.2.1 hrm hR, C.2.2.2.2.2.1 _ hc.2.2.1, C.2.2.2.2.2.1 _ hc.2.2.2⟩ ⟨zB.blind, hcell, fun U hU hW => zPre C hP U hU hW _⟩ rfl hn hl.1 hst (lv_room hroom) hdg ⟨Nat.zero_le _, Nat.zero_le _⟩) hS (fun H1 locs1 hP1 hS1 => ?_)
  exact kk hI r' μ2 ho p e s m args below meth c H1 locs1 ls C hP1 hS1 hl
theorem z_zin_g {i : Int32} {N : Nat} (k : zin i N = true → Zw g Λ en own cc nL ret R pc lv rest μ o) : Zw g Λ en own cc nL ret R pc lv rest μ (if zin i N then o else none) := by
  by_cases q : zin i N
  · rw [if_pos q]; exact k q
  · rw [if_neg q]; exact z_none
theorem z_aaload {a N : Nat} {i : Int32} (ha : a < Λ.1) (hk : Λ.2.1 a = (3, N)) (hin : zin i N = true) (hdg : decode cc pc = .ok (.aaload, 1)) (k : Zw g Λ en own cc nL ret R (pc + 1) lv (.ref (g.2.2.1 (Λ.2.2.2 a i.toNatClampNeg)) :: rest) μ o) : Zw g Λ en own cc nL ret R pc lv (.int i :: .ref (g.2.2.1 a) :: rest) μ o := by
  have h := z_aaload_g ha hk hdg k
  rw [if_pos hin] at h
  exact h
theorem z_alen_r {a N : Nat} {v : Int32} (ha : a < Λ.1) (hk : Λ.2.1 a = (3, N)) (hv : Int32.ofNat N = v) (hdg : decode cc pc = .ok (.arraylength, 1)) (k : Zw g Λ en own cc nL ret R (pc + 1) lv (.int v :: rest) μ o) : Zw g Λ en own cc nL ret R pc lv (.ref (g.2.2.1 a) :: rest) μ o := by
  intro hI r μ2 ho p e s m args below meth c H locs ls C hP hS hl
  exact va_alen (x := (N, .inr (.inr (.inr (.inr (fun i => some (g.2.2.1 (Λ.2.2.2 a i)))))))) C.1 C.2.1 C.2.2.2.2.2.2.2.1 hP a 3 (zW_of ha (zE_r hk)) rfl hv hdg (k hI r μ2 ho p e s m args below meth c H locs ls C hP hS hl)
end Z5
def isSong (a : Nat) : Prop := a = 1 ∨ a = 24 ∨ a = 33 ∨ a = 42 ∨ a = 51 ∨ a = 60 ∨ a = 69
theorem sg_lt {a : Nat} (h : isSong a) : a < ΛC.1 := by
  rcases h with rfl | rfl | rfl | rfl | rfl | rfl | rfl <;> decide +kernel
theorem sg_kd {a : Nat} (h : isSong a) : ΛC.2.1 a = (4, 4) := by
  rcases h with rfl | rfl | rfl | rfl | rfl | rfl | rfl <;> decide +kernel
theorem sg_fo0 {a : Nat} (h : isSong a) : (ΛC.2.2.1 a)[0]? = some (0, a + 1) := by
  rcases h with rfl | rfl | rfl | rfl | rfl | rfl | rfl <;> decide +kernel
theorem sg_la1 {a : Nat} (h : isSong a) : a + 1 < ΛC.1 := by
  rcases h with rfl | rfl | rfl | rfl | rfl | rfl | rfl <;> decide +kernel
theorem sg_ka1 {a : Nat} (h : isSong a) : ΛC.2.1 (a + 1) = (0, 12) := by
  rcases h with rfl | rfl | rfl | rfl | rfl | rfl | rfl <;> decide +kernel
theorem sg_fo1 {a : Nat} (h : isSong a) : (ΛC.2.2.1 a)[1]? = some (0, a + 2) := by
  rcases h with rfl | rfl | rfl | rfl | rfl | rfl | rfl <;> decide +kernel
theorem sg_la2 {a : Nat} (h : isSong a) : a + 2 < ΛC.1 := by
  rcases h with rfl | rfl | rfl | rfl | rfl | rfl | rfl <;> decide +kernel
theorem sg_ka2 {a : Nat} (h : isSong a) : ΛC.2.1 (a + 2) = (0, 12) := by
  rcases h with rfl | rfl | rfl | rfl | rfl | rfl | rfl <;> decide +kernel
theorem sg_fo2 {a : Nat} (h : isSong a) : (ΛC.2.2.1 a)[2]? = some (0, a + 3) := by
  rcases h with rfl | rfl | rfl | rfl | rfl | rfl | rfl <;> decide +kernel
theorem sg_la3 {a : Nat} (h : isSong a) : a + 3 < ΛC.1 := by
  rcases h with rfl | rfl | rfl | rfl | rfl | rfl | rfl <;> decide +kernel
theorem sg_ka3 {a : Nat} (h : isSong a) : ΛC.2.1 (a + 3) = (0, 12) := by
  rcases h with rfl | rfl | rfl | rfl | rfl | rfl | rfl <;> decide +kernel
theorem sg_fo3 {a : Nat} (h : isSong a) : (ΛC.2.2.1 a)[3]? = some (0, a + 4) := by
  rcases h with rfl | rfl | rfl | rfl | rfl | rfl | rfl <;> decide +kernel
theorem sg_la4 {a : Nat} (h : isSong a) : a + 4 < ΛC.1 := by
  rcases h with rfl | rfl | rfl | rfl | rfl | rfl | rfl <;> decide +kernel
theorem sg_ka4 {a : Nat} (h : isSong a) : ΛC.2.1 (a + 4) = (0, 12) := by
  rcases h with rfl | rfl | rfl | rfl | rfl | rfl | rfl <;> decide +kernel
theorem sg_fo4 {a : Nat} (h : isSong a) : (ΛC.2.2.1 a)[4]? = some (0, a + 5) := by
  rcases h with rfl | rfl | rfl | rfl | rfl | rfl | rfl <;> decide +kernel
theorem sg_la5 {a : Nat} (h : isSong a) : a + 5 < ΛC.1 := by
  rcases h with rfl | rfl | rfl | rfl | rfl | rfl | rfl <;> decide +kernel
theorem sg_ka5 {a : Nat} (h : isSong a) : ΛC.2.1 (a + 5) = (0, 36) := by
  rcases h with rfl | rfl | rfl | rfl | rfl | rfl | rfl <;> decide +kernel
theorem sg_fo5 {a : Nat} (h : isSong a) : (ΛC.2.2.1 a)[5]? = some (0, a + 6) := by
  rcases h with rfl | rfl | rfl | rfl | rfl | rfl | rfl <;> decide +kernel
theorem sg_la6 {a : Nat} (h : isSong a) : a + 6 < ΛC.1 := by
  rcases h with rfl | rfl | rfl | rfl | rfl | rfl | rfl <;> decide +kernel
theorem sg_ka6 {a : Nat} (h : isSong a) : ΛC.2.1 (a + 6) = (0, 40) := by
  rcases h with rfl | rfl | rfl | rfl | rfl | rfl | rfl <;> decide +kernel
theorem sg_fo6 {a : Nat} (h : isSong a) : (ΛC.2.2.1 a)[6]? = some (0, a + 7) := by
  rcases h with rfl | rfl | rfl | rfl | rfl | rfl | rfl <;> decide +kernel
theorem sg_la7 {a : Nat} (h : isSong a) : a + 7 < ΛC.1 := by
  rcases h with rfl | rfl | rfl | rfl | rfl | rfl | rfl <;> decide +kernel
theorem sg_ka7 {a : Nat} (h : isSong a) : ΛC.2.1 (a + 7) = (0, 40) := by
  rcases h with rfl | rfl | rfl | rfl | rfl | rfl | rfl <;> decide +kernel
theorem sg_fo7 {a : Nat} (h : isSong a) : (ΛC.2.2.1 a)[7]? = some (0, a + 8) := by
  rcases h with rfl | rfl | rfl | rfl | rfl | rfl | rfl <;> decide +kernel
theorem sg_la8 {a : Nat} (h : isSong a) : a + 8 < ΛC.1 := by
  rcases h with rfl | rfl | rfl | rfl | rfl | rfl | rfl <;> decide +kernel
theorem sg_ka8 {a : Nat} (h : isSong a) : ΛC.2.1 (a + 8) = (0, 4) := by
  rcases h with rfl | rfl | rfl | rfl | rfl | rfl | rfl <;> decide +kernel
theorem sg_fo8 {a : Nat} (h : isSong a) : (ΛC.2.2.1 a)[8]? = some (1, 0) := by
  rcases h with rfl | rfl | rfl | rfl | rfl | rfl | rfl <;> decide +kernel
theorem sg_fo9 {a : Nat} (h : isSong a) : (ΛC.2.2.1 a)[9]? = some (1, 0) := by
  rcases h with rfl | rfl | rfl | rfl | rfl | rfl | rfl <;> decide +kernel
theorem sg_fo10 {a : Nat} (h : isSong a) : (ΛC.2.2.1 a)[10]? = some (1, 0) := by
  rcases h with rfl | rfl | rfl | rfl | rfl | rfl | rfl <;> decide +kernel
theorem sg_fo11 {a : Nat} (h : isSong a) : (ΛC.2.2.1 a)[11]? = some (1, 0) := by
  rcases h with rfl | rfl | rfl | rfl | rfl | rfl | rfl <;> decide +kernel
theorem sg_fo12 {a : Nat} (h : isSong a) : (ΛC.2.2.1 a)[12]? = some (1, 0) := by
  rcases h with rfl | rfl | rfl | rfl | rfl | rfl | rfl <;> decide +kernel
theorem sg_ring {i : Int32} (h : zin i 6 = true) : isSong (24 + 9 * i.toNatClampNeg) := by
  have h2 : i.toNatClampNeg < 6 := Nat.not_le.mp fun q => zin_vp h (Or.inr q)
  unfold isSong
  omega
def f_X4_copyRow (a b n : Nat) (μ : Mm) : Option (Unit × Mm) := some ((), sc μ a b 0 0 n)
theorem m_X4_copyRow (g : Gx) (μ : Mm) {a b n : Nat} (hla : a < ΛC.1) (hka : ΛC.2.1 a = (0, n)) (hlb : b < ΛC.1) (hkb : ΛC.2.1 b = (0, n)) (hn : n = 12 ∨ n = 36 ∨ n = 40 ∨ n = 4) : Zm g ΛC enV yX4_copyRow cX4_copyRow 2 none rX4_copyRow [.ref (g.2.2.1 a), .ref (g.2.2.1 b)] μ (f_X4_copyRow a b n μ) := by
  refine z_met (by decide +kernel) (Nat.le_of_ble_eq_true rfl) ?_
  change Zw g ΛC enV RX4 cX4_copyRow 2 none rX4_copyRow 0 [(0, .ref (g.2.2.1 a)), (1, .ref (g.2.2.1 b))] [] μ (f_X4_copyRow a b n μ)
  rw [f_X4_copyRow]
  refine z_aload_n (pc := 0) 0 dX4_copyRow_0 rfl rfl ?_
  refine z_iconst (pc := 1) (v := 0) dX4_copyRow_1 rfl ?_
  refine z_aload_n (pc := 2) 1 dX4_copyRow_2 rfl rfl ?_
  refine z_iconst (pc := 3) (v := 0) dX4_copyRow_3 rfl ?_
  refine z_aload_n (pc := 4) 0 dX4_copyRow_4 rfl rfl ?_
  refine z_alen_i (pc := 5) hla hka rfl dX4_copyRow_5 ?_
  refine z_aload_n (pc := 6) 1 dX4_copyRow_6 rfl rfl ?_
  refine z_alen_i (pc := 7) hlb hkb rfl dX4_copyRow_7 ?_
  refine z_min (pc := 8) kX4_62 (Nat.le_of_ble_eq_true rfl) (Nat.le_of_ble_eq_true rfl) (Nat.le_of_ble_eq_true rfl) dX4_copyRow_8 ?_
  have key : some ((), sc μ a b 0 0 n) = (if ¬ (0 : Int32) < 0 ∧ ¬ (0 : Int32) < 0 ∧ ¬ (if Int32.ofNat n < Int32.ofNat n then Int32.ofNat n else Int32.ofNat n) < 0 ∧ (0 : Int32).toNatClampNeg + (if Int32.ofNat n < Int32.ofNat n then Int32.ofNat n else Int32.ofNat n).toNatClampNeg ≤ n ∧ (0 : Int32).toNatClampNeg + (if Int32.ofNat n < Int32.ofNat n then Int32.ofNat n else Int32.ofNat n).toNatClampNeg ≤ n then some ((), sc μ a b (0 : Int32).toNatClampNeg (0 : Int32).toNatClampNeg (if Int32.ofNat n < Int32.ofNat n then Int32.ofNat n else Int32.ofNat n).toNatClampNeg) else none) := by
    have h0 : (0 : Int32).toNatClampNeg = 0 := by decide +kernel
    have h1 : (if Int32.ofNat n < Int32.ofNat n then Int32.ofNat n else Int32.ofNat n).toNatClampNeg = n := by
      rcases hn with rfl | rfl | rfl | rfl <;> decide +kernel
    rw [if_pos, h0, h1]
    rcases hn with rfl | rfl | rfl | rfl <;> decide +kernel
  rw [key]
  refine z_copy (pc := 11) kX4_68 hla hka hlb hkb (Nat.le_of_ble_eq_true rfl) (by decide +kernel) (Nat.le_of_ble_eq_true rfl) dX4_copyRow_11 ?_
  exact z_vret dX4_copyRow_14
def cf (μ : Mm) (a b k : Nat) : Mm := si μ a k (μ.1 b k)
def cpA (μ : Mm) (a b : Nat) : Mm := (sc (sc (sc (sc (sc (sc (sc (sc μ (b + 1) (a + 1) 0 0 12) (b + 2) (a + 2) 0 0 12) (b + 3) (a + 3) 0 0 12) (b + 4) (a + 4) 0 0 12) (b + 5) (a + 5) 0 0 36) (b + 6) (a + 6) 0 0 40) (b + 7) (a + 7) 0 0 40) (b + 8) (a + 8) 0 0 4)
def cpS (μ : Mm) (a b : Nat) : Mm := cf (cf (cf (cf (cf (cpA μ a b) a b 8) a b 9) a b 10) a b 11) a b 12
def f_X4_copyFrom (a b : Nat) (μ : Mm) : Option (Unit × Mm) := some ((), cpS μ a b)
theorem m_X4_copyFrom (g : Gx) (μ : Mm) {a b : Nat} (ha : isSong a) (hb : isSong b) : Zm g ΛC enV yX4_copyFrom cX4_copyFrom 2 none rX4_copyFrom [.ref (g.2.2.1 a), .ref (g.2.2.1 b)] μ (f_X4_copyFrom a b μ) := by
  refine z_met (by decide +kernel) (Nat.le_of_ble_eq_true rfl) ?_
  change Zw g ΛC enV RX4 cX4_copyFrom 2 none rX4_copyFrom 0 [(0, .ref (g.2.2.1 a)), (1, .ref (g.2.2.1 b))] [] μ (f_X4_copyFrom a b μ)
  rw [f_X4_copyFrom, cpS, cpA]
  refine z_aload_n (pc := 0) 1 dX4_copyFrom_0 rfl rfl ?_
  refine z_get (pc := 1) (v := .ref (g.2.2.1 (b + 1))) flX4_9 jnX4 (sg_lt hb) (sg_kd hb) rfl (by decide) rfl (sg_fo0 hb) rfl dX4_copyFrom_1 ?_
  refine z_aload_n (pc := 4) 0 dX4_copyFrom_4 rfl rfl ?_
  refine z_get (pc := 5) (v := .ref (g.2.2.1 (a + 1))) flX4_9 jnX4 (sg_lt ha) (sg_kd ha) rfl (by decide) rfl (sg_fo0 ha) rfl dX4_copyFrom_5 ?_
  refine z_callS1 (pc := 8) (As := [.ref (g.2.2.1 (b + 1)), .ref (g.2.2.1 (a + 1))]) (rest := []) kX4_52 (m_X4_copyRow g μ (sg_la1 hb) (sg_ka1 hb) (sg_la1 ha) (sg_ka1 ha) (by decide)) rfl ⟨rfl, rfl⟩ ⟨Nat.le_of_ble_eq_true rfl, Nat.le_of_ble_eq_true rfl⟩ (Nat.le_of_ble_eq_true rfl) rfl rfl dX4_copyFrom_8 ?_
  change Zw g ΛC enV RX4 cX4_copyFrom 2 none rX4_copyFrom 11 [(0, .ref (g.2.2.1 a)), (1, .ref (g.2.2.1 b))] [] (sc μ (b + 1) (a + 1) 0 0 12) _
  refine z_aload_n (pc := 11) 1 dX4_copyFrom_11 rfl rfl ?_
  refine z_get (pc := 12) (v := .ref (g.2.2.1 (b + 2))) flX4_15 jnX4 (sg_lt hb) (sg_kd hb) rfl (by decide) rfl (sg_fo1 hb) rfl dX4_copyFrom_12 ?_
  refine z_aload_n (pc := 15) 0 dX4_copyFrom_15 rfl rfl ?_
  refine z_get (pc := 16) (v := .ref (g.2.2.1 (a + 2))) flX4_15 jnX4 (sg_lt ha) (sg_kd ha) rfl (by decide) rfl (sg_fo1 ha) rfl dX4_copyFrom_16 ?_
  refine z_callS1 (pc := 19) (As := [.ref (g.2.2.1 (b + 2)), .ref (g.2.2.1 (a + 2))]) (rest := []) kX4_52 (m_X4_copyRow g (sc μ (b + 1) (a + 1) 0 0 12) (sg_la2 hb) (sg_ka2 hb) (sg_la2 ha) (sg_ka2 ha) (by decide)) rfl ⟨rfl, rfl⟩ ⟨Nat.le_of_ble_eq_true rfl, Nat.le_of_ble_eq_true rfl⟩ (Nat.le_of_ble_eq_true rfl) rfl rfl dX4_copyFrom_19 ?_
  change Zw g ΛC enV RX4 cX4_copyFrom 2 none rX4_copyFrom 22 [(0, .ref (g.2.2.1 a)), (1, .ref (g.2.2.1 b))] [] (sc (sc μ (b + 1) (a + 1) 0 0 12) (b + 2) (a + 2) 0 0 12) _
  refine z_aload_n (pc := 22) 1 dX4_copyFrom_22 rfl rfl ?_
  refine z_get (pc := 23) (v := .ref (g.2.2.1 (b + 3))) flX4_18 jnX4 (sg_lt hb) (sg_kd hb) rfl (by decide) rfl (sg_fo2 hb) rfl dX4_copyFrom_23 ?_
  refine z_aload_n (pc := 26) 0 dX4_copyFrom_26 rfl rfl ?_
  refine z_get (pc := 27) (v := .ref (g.2.2.1 (a + 3))) flX4_18 jnX4 (sg_lt ha) (sg_kd ha) rfl (by decide) rfl (sg_fo2 ha) rfl dX4_copyFrom_27 ?_
  refine z_callS1 (pc := 30) (As := [.ref (g.2.2.1 (b + 3)), .ref (g.2.2.1 (a + 3))]) (rest := []) kX4_52 (m_X4_copyRow g (sc (sc μ (b + 1) (a + 1) 0 0 12) (b + 2) (a + 2) 0 0 12) (sg_la3 hb) (sg_ka3 hb) (sg_la3 ha) (sg_ka3 ha) (by decide)) rfl ⟨rfl, rfl⟩ ⟨Nat.le_of_ble_eq_true rfl, Nat.le_of_ble_eq_true rfl⟩ (Nat.le_of_ble_eq_true rfl) rfl rfl dX4_copyFrom_30 ?_
  change Zw g ΛC enV RX4 cX4_copyFrom 2 none rX4_copyFrom 33 [(0, .ref (g.2.2.1 a)), (1, .ref (g.2.2.1 b))] [] (sc (sc (sc μ (b + 1) (a + 1) 0 0 12) (b + 2) (a + 2) 0 0 12) (b + 3) (a + 3) 0 0 12) _
  refine z_aload_n (pc := 33) 1 dX4_copyFrom_33 rfl rfl ?_
  refine z_get (pc := 34) (v := .ref (g.2.2.1 (b + 4))) flX4_21 jnX4 (sg_lt hb) (sg_kd hb) rfl (by decide) rfl (sg_fo3 hb) rfl dX4_copyFrom_34 ?_
  refine z_aload_n (pc := 37) 0 dX4_copyFrom_37 rfl rfl ?_
  refine z_get (pc := 38) (v := .ref (g.2.2.1 (a + 4))) flX4_21 jnX4 (sg_lt ha) (sg_kd ha) rfl (by decide) rfl (sg_fo3 ha) rfl dX4_copyFrom_38 ?_
  refine z_callS1 (pc := 41) (As := [.ref (g.2.2.1 (b + 4)), .ref (g.2.2.1 (a + 4))]) (rest := []) kX4_52 (m_X4_copyRow g (sc (sc (sc μ (b + 1) (a + 1) 0 0 12) (b + 2) (a + 2) 0 0 12) (b + 3) (a + 3) 0 0 12) (sg_la4 hb) (sg_ka4 hb) (sg_la4 ha) (sg_ka4 ha) (by decide)) rfl ⟨rfl, rfl⟩ ⟨Nat.le_of_ble_eq_true rfl, Nat.le_of_ble_eq_true rfl⟩ (Nat.le_of_ble_eq_true rfl) rfl rfl dX4_copyFrom_41 ?_
  change Zw g ΛC enV RX4 cX4_copyFrom 2 none rX4_copyFrom 44 [(0, .ref (g.2.2.1 a)), (1, .ref (g.2.2.1 b))] [] (sc (sc (sc (sc μ (b + 1) (a + 1) 0 0 12) (b + 2) (a + 2) 0 0 12) (b + 3) (a + 3) 0 0 12) (b + 4) (a + 4) 0 0 12) _
  refine z_aload_n (pc := 44) 1 dX4_copyFrom_44 rfl rfl ?_
  refine z_get (pc := 45) (v := .ref (g.2.2.1 (b + 5))) flX4_24 jnX4 (sg_lt hb) (sg_kd hb) rfl (by decide) rfl (sg_fo4 hb) rfl dX4_copyFrom_45 ?_
  refine z_aload_n (pc := 48) 0 dX4_copyFrom_48 rfl rfl ?_
  refine z_get (pc := 49) (v := .ref (g.2.2.1 (a + 5))) flX4_24 jnX4 (sg_lt ha) (sg_kd ha) rfl (by decide) rfl (sg_fo4 ha) rfl dX4_copyFrom_49 ?_
  refine z_callS1 (pc := 52) (As := [.ref (g.2.2.1 (b + 5)), .ref (g.2.2.1 (a + 5))]) (rest := []) kX4_52 (m_X4_copyRow g (sc (sc (sc (sc μ (b + 1) (a + 1) 0 0 12) (b + 2) (a + 2) 0 0 12) (b + 3) (a + 3) 0 0 12) (b + 4) (a + 4) 0 0 12) (sg_la5 hb) (sg_ka5 hb) (sg_la5 ha) (sg_ka5 ha) (by decide)) rfl ⟨rfl, rfl⟩ ⟨Nat.le_of_ble_eq_true rfl, Nat.le_of_ble_eq_true rfl⟩ (Nat.le_of_ble_eq_true rfl) rfl rfl dX4_copyFrom_52 ?_
  change Zw g ΛC enV RX4 cX4_copyFrom 2 none rX4_copyFrom 55 [(0, .ref (g.2.2.1 a)), (1, .ref (g.2.2.1 b))] [] (sc (sc (sc (sc (sc μ (b + 1) (a + 1) 0 0 12) (b + 2) (a + 2) 0 0 12) (b + 3) (a + 3) 0 0 12) (b + 4) (a + 4) 0 0 12) (b + 5) (a + 5) 0 0 36) _
  refine z_aload_n (pc := 55) 1 dX4_copyFrom_55 rfl rfl ?_
  refine z_get (pc := 56) (v := .ref (g.2.2.1 (b + 6))) flX4_27 jnX4 (sg_lt hb) (sg_kd hb) rfl (by decide) rfl (sg_fo5 hb) rfl dX4_copyFrom_56 ?_
  refine z_aload_n (pc := 59) 0 dX4_copyFrom_59 rfl rfl ?_
  refine z_get (pc := 60) (v := .ref (g.2.2.1 (a + 6))) flX4_27 jnX4 (sg_lt ha) (sg_kd ha) rfl (by decide) rfl (sg_fo5 ha) rfl dX4_copyFrom_60 ?_
  refine z_callS1 (pc := 63) (As := [.ref (g.2.2.1 (b + 6)), .ref (g.2.2.1 (a + 6))]) (rest := []) kX4_52 (m_X4_copyRow g (sc (sc (sc (sc (sc μ (b + 1) (a + 1) 0 0 12) (b + 2) (a + 2) 0 0 12) (b + 3) (a + 3) 0 0 12) (b + 4) (a + 4) 0 0 12) (b + 5) (a + 5) 0 0 36) (sg_la6 hb) (sg_ka6 hb) (sg_la6 ha) (sg_ka6 ha) (by decide)) rfl ⟨rfl, rfl⟩ ⟨Nat.le_of_ble_eq_true rfl, Nat.le_of_ble_eq_true rfl⟩ (Nat.le_of_ble_eq_true rfl) rfl rfl dX4_copyFrom_63 ?_
  change Zw g ΛC enV RX4 cX4_copyFrom 2 none rX4_copyFrom 66 [(0, .ref (g.2.2.1 a)), (1, .ref (g.2.2.1 b))] [] (sc (sc (sc (sc (sc (sc μ (b + 1) (a + 1) 0 0 12) (b + 2) (a + 2) 0 0 12) (b + 3) (a + 3) 0 0 12) (b + 4) (a + 4) 0 0 12) (b + 5) (a + 5) 0 0 36) (b + 6) (a + 6) 0 0 40) _
  refine z_aload_n (pc := 66) 1 dX4_copyFrom_66 rfl rfl ?_
  refine z_get (pc := 67) (v := .ref (g.2.2.1 (b + 7))) flX4_30 jnX4 (sg_lt hb) (sg_kd hb) rfl (by decide) rfl (sg_fo6 hb) rfl dX4_copyFrom_67 ?_
  refine z_aload_n (pc := 70) 0 dX4_copyFrom_70 rfl rfl ?_
  refine z_get (pc := 71) (v := .ref (g.2.2.1 (a + 7))) flX4_30 jnX4 (sg_lt ha) (sg_kd ha) rfl (by decide) rfl (sg_fo6 ha) rfl dX4_copyFrom_71 ?_
  refine z_callS1 (pc := 74) (As := [.ref (g.2.2.1 (b + 7)), .ref (g.2.2.1 (a + 7))]) (rest := []) kX4_52 (m_X4_copyRow g (sc (sc (sc (sc (sc (sc μ (b + 1) (a + 1) 0 0 12) (b + 2) (a + 2) 0 0 12) (b + 3) (a + 3) 0 0 12) (b + 4) (a + 4) 0 0 12) (b + 5) (a + 5) 0 0 36) (b + 6) (a + 6) 0 0 40) (sg_la7 hb) (sg_ka7 hb) (sg_la7 ha) (sg_ka7 ha) (by decide)) rfl ⟨rfl, rfl⟩ ⟨Nat.le_of_ble_eq_true rfl, Nat.le_of_ble_eq_true rfl⟩ (Nat.le_of_ble_eq_true rfl) rfl rfl dX4_copyFrom_74 ?_
  change Zw g ΛC enV RX4 cX4_copyFrom 2 none rX4_copyFrom 77 [(0, .ref (g.2.2.1 a)), (1, .ref (g.2.2.1 b))] [] (sc (sc (sc (sc (sc (sc (sc μ (b + 1) (a + 1) 0 0 12) (b + 2) (a + 2) 0 0 12) (b + 3) (a + 3) 0 0 12) (b + 4) (a + 4) 0 0 12) (b + 5) (a + 5) 0 0 36) (b + 6) (a + 6) 0 0 40) (b + 7) (a + 7) 0 0 40) _
  refine z_aload_n (pc := 77) 1 dX4_copyFrom_77 rfl rfl ?_
  refine z_get (pc := 78) (v := .ref (g.2.2.1 (b + 8))) flX4_33 jnX4 (sg_lt hb) (sg_kd hb) rfl (by decide) rfl (sg_fo7 hb) rfl dX4_copyFrom_78 ?_
  refine z_aload_n (pc := 81) 0 dX4_copyFrom_81 rfl rfl ?_
  refine z_get (pc := 82) (v := .ref (g.2.2.1 (a + 8))) flX4_33 jnX4 (sg_lt ha) (sg_kd ha) rfl (by decide) rfl (sg_fo7 ha) rfl dX4_copyFrom_82 ?_
  refine z_callS1 (pc := 85) (As := [.ref (g.2.2.1 (b + 8)), .ref (g.2.2.1 (a + 8))]) (rest := []) kX4_52 (m_X4_copyRow g (sc (sc (sc (sc (sc (sc (sc μ (b + 1) (a + 1) 0 0 12) (b + 2) (a + 2) 0 0 12) (b + 3) (a + 3) 0 0 12) (b + 4) (a + 4) 0 0 12) (b + 5) (a + 5) 0 0 36) (b + 6) (a + 6) 0 0 40) (b + 7) (a + 7) 0 0 40) (sg_la8 hb) (sg_ka8 hb) (sg_la8 ha) (sg_ka8 ha) (by decide)) rfl ⟨rfl, rfl⟩ ⟨Nat.le_of_ble_eq_true rfl, Nat.le_of_ble_eq_true rfl⟩ (Nat.le_of_ble_eq_true rfl) rfl rfl dX4_copyFrom_85 ?_
  change Zw g ΛC enV RX4 cX4_copyFrom 2 none rX4_copyFrom 88 [(0, .ref (g.2.2.1 a)), (1, .ref (g.2.2.1 b))] [] (sc (sc (sc (sc (sc (sc (sc (sc μ (b + 1) (a + 1) 0 0 12) (b + 2) (a + 2) 0 0 12) (b + 3) (a + 3) 0 0 12) (b + 4) (a + 4) 0 0 12) (b + 5) (a + 5) 0 0 36) (b + 6) (a + 6) 0 0 40) (b + 7) (a + 7) 0 0 40) (b + 8) (a + 8) 0 0 4) _
  refine z_aload_n (pc := 88) 0 dX4_copyFrom_88 rfl rfl ?_
  refine z_aload_n (pc := 89) 1 dX4_copyFrom_89 rfl rfl ?_
  refine z_get (pc := 90) flX4_56 jnX4 (sg_lt hb) (sg_kd hb) rfl (by decide) rfl (sg_fo8 hb) rfl dX4_copyFrom_90 ?_
  refine z_puti (x := (0, 0)) (pc := 93) flX4_56 jnX4 tyX4 tyX4_ok nmX4 (sg_lt ha) (sg_kd ha) rfl (by decide) rfl (sg_fo8 ha) rfl ⟨rfl, rfl⟩ dX4_copyFrom_93 ?_
  refine z_aload_n (pc := 96) 0 dX4_copyFrom_96 rfl rfl ?_
  refine z_aload_n (pc := 97) 1 dX4_copyFrom_97 rfl rfl ?_
  refine z_get (pc := 98) flX4_59 jnX4 (sg_lt hb) (sg_kd hb) rfl (by decide) rfl (sg_fo9 hb) rfl dX4_copyFrom_98 ?_
  refine z_puti (x := (0, 0)) (pc := 101) flX4_59 jnX4 tyX4 tyX4_ok nmX4 (sg_lt ha) (sg_kd ha) rfl (by decide) rfl (sg_fo9 ha) rfl ⟨rfl, rfl⟩ dX4_copyFrom_101 ?_
  refine z_aload_n (pc := 104) 0 dX4_copyFrom_104 rfl rfl ?_
  refine z_aload_n (pc := 105) 1 dX4_copyFrom_105 rfl rfl ?_
  refine z_get (pc := 106) flX4_36 jnX4 (sg_lt hb) (sg_kd hb) rfl (by decide) rfl (sg_fo10 hb) rfl dX4_copyFrom_106 ?_
  refine z_puti (x := (0, 0)) (pc := 109) flX4_36 jnX4 tyX4 tyX4_ok nmX4 (sg_lt ha) (sg_kd ha) rfl (by decide) rfl (sg_fo10 ha) rfl ⟨rfl, rfl⟩ dX4_copyFrom_109 ?_
  refine z_aload_n (pc := 112) 0 dX4_copyFrom_112 rfl rfl ?_
  refine z_aload_n (pc := 113) 1 dX4_copyFrom_113 rfl rfl ?_
  refine z_get (pc := 114) flX4_40 jnX4 (sg_lt hb) (sg_kd hb) rfl (by decide) rfl (sg_fo11 hb) rfl dX4_copyFrom_114 ?_
  refine z_puti (x := (0, 0)) (pc := 117) flX4_40 jnX4 tyX4 tyX4_ok nmX4 (sg_lt ha) (sg_kd ha) rfl (by decide) rfl (sg_fo11 ha) rfl ⟨rfl, rfl⟩ dX4_copyFrom_117 ?_
  refine z_aload_n (pc := 120) 0 dX4_copyFrom_120 rfl rfl ?_
  refine z_aload_n (pc := 121) 1 dX4_copyFrom_121 rfl rfl ?_
  refine z_get (pc := 122) flX4_43 jnX4 (sg_lt hb) (sg_kd hb) rfl (by decide) rfl (sg_fo12 hb) rfl dX4_copyFrom_122 ?_
  refine z_puti (x := (0, 0)) (pc := 125) flX4_43 jnX4 tyX4 tyX4_ok nmX4 (sg_lt ha) (sg_kd ha) rfl (by decide) rfl (sg_fo12 ha) rfl ⟨rfl, rfl⟩ dX4_copyFrom_125 ?_
  exact z_vret dX4_copyFrom_128
def f_X3_stage (μ : Mm) : Option (Unit × Mm) := if zin (μ.1 22 1) 6 then some ((), cpS μ (24 + 9 * (μ.1 22 1).toNatClampNeg) 1) else none
theorem m_X3_stage (g : Gx) (μ : Mm) : Zm g ΛC enV yX3_stage cX3_stage 2 none rX3_stage [.ref (g.2.2.1 22), .ref (g.2.2.1 1)] μ (f_X3_stage μ) := by
  refine z_met (by decide +kernel) (Nat.le_of_ble_eq_true rfl) ?_
  change Zw g ΛC enV RX3 cX3_stage 2 none rX3_stage 0 [(0, .ref (g.2.2.1 22)), (1, .ref (g.2.2.1 1))] [] μ (f_X3_stage μ)
  rw [f_X3_stage]
  refine z_aload_n (pc := 0) 0 dX3_stage_0 rfl rfl ?_
  refine z_get (pc := 1) (v := .ref (g.2.2.1 23)) flX3_11 jnX3 ltC_22 kdC_22 rfl (by decide) rfl foC_22_0 rfl dX3_stage_1 ?_
  refine z_aload_n (pc := 4) 0 dX3_stage_4 rfl rfl ?_
  refine z_get (pc := 5) (v := .int (μ.1 22 1)) flX3_18 jnX3 ltC_22 kdC_22 rfl (by decide) rfl foC_22_1 rfl dX3_stage_5 ?_
  refine z_zin_g (fun hz => ?_)
  refine z_aaload (pc := 8) ltC_23 kdC_23 hz dX3_stage_8 ?_
  change Zw g ΛC enV RX3 cX3_stage 2 none rX3_stage 9 [(0, .ref (g.2.2.1 22)), (1, .ref (g.2.2.1 1))] [.ref (g.2.2.1 (24 + 9 * (μ.1 22 1).toNatClampNeg))] μ _
  refine z_aload_n (pc := 9) 1 dX3_stage_9 rfl rfl ?_
  refine z_callV1 (pc := 10) (b := 24 + 9 * (μ.1 22 1).toNatClampNeg) (As := [.ref (g.2.2.1 1)]) (rest := []) kX3_22 (m_X4_copyFrom g μ (sg_ring hz) (Or.inl rfl)) rfl (sg_lt (sg_ring hz)) (sg_kd (sg_ring hz)) rfl rfl ⟨rfl, rfl⟩ ⟨Nat.le_of_ble_eq_true rfl, Nat.le_of_ble_eq_true rfl⟩ (Nat.le_of_ble_eq_true rfl) rfl rfl dX3_stage_10 ?_
  exact z_vret dX3_stage_13
def f_X3_restoreStaged (μ : Mm) : Option (Unit × Mm) := if zin (μ.1 22 1) 6 then some ((), cpS μ 1 (24 + 9 * (μ.1 22 1).toNatClampNeg)) else none
theorem m_X3_restoreStaged (g : Gx) (μ : Mm) : Zm g ΛC enV yX3_restoreStaged cX3_restoreStaged 2 none rX3_restoreStaged [.ref (g.2.2.1 22), .ref (g.2.2.1 1)] μ (f_X3_restoreStaged μ) := by
  refine z_met (by decide +kernel) (Nat.le_of_ble_eq_true rfl) ?_
  change Zw g ΛC enV RX3 cX3_restoreStaged 2 none rX3_restoreStaged 0 [(0, .ref (g.2.2.1 22)), (1, .ref (g.2.2.1 1))] [] μ (f_X3_restoreStaged μ)
  rw [f_X3_restoreStaged]
  refine z_aload_n (pc := 0) 1 dX3_restoreStaged_0 rfl rfl ?_
  refine z_aload_n (pc := 1) 0 dX3_restoreStaged_1 rfl rfl ?_
  refine z_get (pc := 2) (v := .ref (g.2.2.1 23)) flX3_11 jnX3 ltC_22 kdC_22 rfl (by decide) rfl foC_22_0 rfl dX3_restoreStaged_2 ?_
  refine z_aload_n (pc := 5) 0 dX3_restoreStaged_5 rfl rfl ?_
  refine z_get (pc := 6) (v := .int (μ.1 22 1)) flX3_18 jnX3 ltC_22 kdC_22 rfl (by decide) rfl foC_22_1 rfl dX3_restoreStaged_6 ?_
  refine z_zin_g (fun hz => ?_)
  refine z_aaload (pc := 9) ltC_23 kdC_23 hz dX3_restoreStaged_9 ?_
  change Zw g ΛC enV RX3 cX3_restoreStaged 2 none rX3_restoreStaged 10 [(0, .ref (g.2.2.1 22)), (1, .ref (g.2.2.1 1))] [.ref (g.2.2.1 (24 + 9 * (μ.1 22 1).toNatClampNeg)), .ref (g.2.2.1 1)] μ _
  refine z_callV1 (pc := 10) (b := 1) (As := [.ref (g.2.2.1 (24 + 9 * (μ.1 22 1).toNatClampNeg))]) (rest := []) kX3_22 (m_X4_copyFrom g μ (Or.inl rfl) (sg_ring hz)) rfl ltC_1 kdC_1 rfl rfl ⟨rfl, rfl⟩ ⟨Nat.le_of_ble_eq_true rfl, Nat.le_of_ble_eq_true rfl⟩ (Nat.le_of_ble_eq_true rfl) rfl rfl dX3_restoreStaged_10 ?_
  exact z_vret dX3_restoreStaged_13
