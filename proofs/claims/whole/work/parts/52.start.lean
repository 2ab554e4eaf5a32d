def adw (h0 : Nat) (u : Nat → Nat) : Nat → Nat := fun k => if k = 0 then h0 else u k
def mC0 : Mm := (fun a => if a = 1 ∨ a = 24 ∨ a = 33 ∨ a = 42 ∨ a = 51 ∨ a = 60 ∨ a = 69 then (fun i => if i = 10 then 12 else if i = 11 then 15 else if i = 12 then 15 else 0) else if a = 9 ∨ a = 32 ∨ a = 41 ∨ a = 50 ∨ a = 59 ∨ a = 68 ∨ a = 77 then (fun i => if i < 4 then 15 else (fun _ => 0) i) else fun _ => 0, fun _ => fun _ => 0)
def mM0 : Mm := (fun a => if a = 1 then upd (upd (upd (upd (upd (upd (upd (fun _ => 0) 2 12) 3 15) 4 15) 5 15) 6 15) 7 15) 8 15 else fun _ => 0, fun _ => fun _ => 0)
theorem arrV_congr {cA : ClassId} {N : Nat} {f f2 : Nat → Value} (h : ∀ j, j < N → f j = f2 j) : arrV cA N f = arrV cA N f2 := by
  unfold arrV
  congr 1
  apply Array.ext
  · simp
  · intro i h1 h2
    simp at h1 h2 ⊢
    exact h i h1
theorem vp_cell_cq {cA : ClassId} {n : Nat} {f f2 : Nat → Option Nat} (h : ∀ j, j < n → f j = f2 j) : vp_cell cA (n, .inr (.inr (.inr (.inr f)))) = vp_cell cA (n, .inr (.inr (.inr (.inr f2)))) := by
  simp only [vp_cell]
  exact arrV_congr (fun j hj => by rw [h j hj])
set_option maxHeartbeats 4000000 in
set_option maxRecDepth 100000 in
theorem bC_ok {g : Gx} {h0 : Nat} {ws : va_W} {H : Heap} {A : Nat → Prop} (hB : bX6_init g h0 ws) (hP : va_P g.2.1 vwCl ws H) (hD : va_D A ws) : ∃ ad : Nat → Nat, ad 0 = h0 ∧ va_P g.2.1 vwCl (zW (g.1, g.2.1, ad, g.2.2.2) ΛC mC0) H ∧ va_D A (zW (g.1, g.2.1, ad, g.2.2.2) ΛC mC0) := by
  obtain ⟨u, rfl⟩ := hB
  refine ⟨adw h0 u, rfl, ?_⟩
  have he : va_at g.2.1 vwCl (u 23, .inl (g.2.2.2 3, 6, .inr (.inr (.inr (.inr (fun i => some (adw h0 u (24 + 9 * i)))))))) H := by
    have h := hP 23 _ rfl
    show H[u 23]? = some _
    refine Eq.trans h (congrArg some ?_)
    refine vp_cell_cq (fun j hj => ?_)
    rcases (show j = 0 ∨ j = 1 ∨ j = 2 ∨ j = 3 ∨ j = 4 ∨ j = 5 by omega) with rfl | rfl | rfl | rfl | rfl | rfl <;> rfl
  have hP1 := hP.set hD (p := 23) rfl he (fun _ _ => rfl)
  have hD1 := hD.set (p := 23) (e := .inl (g.2.2.2 3, 6, .inr (.inr (.inr (.inr (fun i => some (adw h0 u (24 + 9 * i)))))))) rfl
  exact ⟨hP1, hD1⟩
set_option maxHeartbeats 4000000 in
set_option maxRecDepth 100000 in
theorem bM_ok {g : Gx} {h0 : Nat} {ws : va_W} (hB : bX7_init g h0 ws) : ∃ ad : Nat → Nat, ad 0 = h0 ∧ ws = zW (g.1, g.2.1, ad, g.2.2.2) ΛM mM0 := by
  obtain ⟨u, rfl⟩ := hB
  exact ⟨adw h0 u, rfl, rfl⟩
theorem range_app {wr x : va_W} : (List.range wr.length).map (fun i => (wr ++ x)[i]?) = wr.map some := by
  apply List.ext_getElem?
  intro k
  simp only [List.getElem?_map]
  by_cases hk : k < wr.length
  · rw [List.getElem?_range hk, Option.map_some, List.getElem?_append_left hk]
    rw [List.getElem?_eq_getElem hk]
    rfl
  · rw [List.getElem?_eq_none (by simpa using hk), List.getElem?_eq_none (by simpa using hk)]
    rfl
theorem zW_len {g : Gx} {Λ : Ly} {μ : Mm} : (zW g Λ μ).length = Λ.1 := by simp [zW]
theorem two_apart {g : Gx} {am : Nat → Nat} {μC μM : Mm} {s : State} (hD : va_D (fun q : Nat => s.heap.size ≤ q) (zW g ΛC μC ++ zW (gMo g am) ΛM μM)) : zI g ΛC ∧ zI (gMo g am) ΛM ∧ (∀ i j, i < 83 → j < 13 → g.2.2.1 i ≠ am j) ∧ (∀ k, k < 83 → s.heap.size ≤ g.2.2.1 k) ∧ (∀ k, k < 13 → s.heap.size ≤ am k) := by
  have hl : (zW g ΛC μC).length = 83 := zW_len
  have a1 : ∀ i, i < 83 → (zW g ΛC μC ++ zW (gMo g am) ΛM μM)[i]? = some (g.2.2.1 i, zE g ΛC μC i) := fun i hi => by
    rw [List.getElem?_append_left (by omega)]
    exact zW_at hi
  have a2 : ∀ j, j < 13 → (zW g ΛC μC ++ zW (gMo g am) ΛM μM)[83 + j]? = some (am j, zE (gMo g am) ΛM μM j) := fun j hj => by
    rw [List.getElem?_append_right (by omega), hl, show 83 + j - 83 = j by omega]
    exact zW_at hj
  refine ⟨fun i j hi hj e => hD.1 i j _ _ (a1 i hi) (a1 j hj) e, fun i j hi hj e => ?_, fun i j hi hj e => ?_, fun k hk => hD.2 k _ (a1 k hk), fun k hk => hD.2 _ _ (a2 k hk)⟩
  · have := hD.1 (83 + i) (83 + j) _ _ (a2 i hi) (a2 j hj) e
    omega
  · have := hD.1 i (83 + j) _ _ (a1 i hi) (a2 j hj) e
    omega
set_option maxHeartbeats 4000000 in
set_option maxRecDepth 100000 in
theorem law_start {p : Program} {e : Env} {s : State} {m : MethodId} {below : List Frame} {meth : Method} {c : Code} (l : Launch) {b L : Nat} {xs : Nat → Int32} (hL : L ≤ 2048) (C0 : lw_At p s m meth c b L xs) (Inv : Nat → Mm → Mm → Prop) (h00 : Inv 0 mC0 mM0) (hid : ∀ n μC μM, Inv n μC μM → Inv (n + 1) μC μM) (hs0 : ∀ (n : Nat) (z0 : Int32) (z1 : Int32), n < 512 → Sp Inv n (f_X6_phrase z0 z1) (f_X7_phrase z0 z1)) (hs1 : ∀ (n : Nat) (z0 : Int32), n < 512 → Sp Inv n (f_X6_drops z0) (f_X7_drops z0)) (hs2 : ∀ (n : Nat) (z0 : Int32), n < 512 → Sp Inv n (f_X6_begins z0) (f_X7_begins z0)) (hs3 : ∀ (n : Nat) (z0 : Int32), n < 512 → Sp Inv n (f_X6_ends z0) (f_X7_ends z0)) (hs4 : ∀ (n : Nat) (z0 : Int32) (z1 : Int32), n < 512 → Sp Inv n (f_X6_follows z0 z1) (f_X7_follows z0 z1)) (hs5 : ∀ (n : Nat) (z0 : Int32) (z1 : Int32), n < 512 → Sp Inv n (f_X6_of z0 z1) (f_X7_of z0 z1)) (hs6 : ∀ (n : Nat) (z0 : Int32), n < 512 → Sp Inv n (f_X6_letter z0) (f_X7_letter z0)) (hs7 : ∀ (n : Nat), n < 512 → Sp Inv n (f_X6_wipes) (f_X7_wipes)) (hs8 : ∀ (n : Nat), n < 512 → Sp Inv n (f_X6_cuts) (f_X7_cuts)) (hs9 : ∀ (n : Nat) (z0 : Int32) (z1 : Int32), n < 512 → Sp Inv n (f_X6_best z0 z1) (f_X7_best z0 z1)) (hs10 : ∀ (n : Nat) (z0 : Int32), n < 512 → Sp Inv n (f_X6_sings z0) (f_X7_sings z0)) (hs11 : ∀ (n : Nat) (z0 : Int32) (z1 : Int32), n < 512 → Sp Inv n (f_X6_fixes z0 z1) (f_X7_fixes z0 z1)) (hs12 : ∀ (n : Nat) (z0 : Int32), n < 512 → Sp Inv n (f_X6_metre z0) (f_X7_metre z0)) (hs13 : ∀ (n : Nat) (z0 : Int32) (z1 : Int32), n < 512 → Sp Inv n (f_X6_marks z0 z1) (f_X7_marks z0 z1)) (hs14 : ∀ (n : Nat), n < 512 → Sp Inv n (f_X6_made) (f_X7_made)) (hs15 : ∀ (n : Nat) (z0 : Int64) (z1 : Int32), n < 512 → Sp Inv n (f_X6_row z0 z1) (f_X7_row z0 z1)) (hs16 : ∀ (n : Nat) (z0 : Int32) (z1 : Int32), n < 512 → Sp Inv n (f_X6_weight z0 z1) (f_X7_weight z0 z1)) (hs17 : ∀ (n : Nat) (z0 : Int32) (z1 : Int32) (z2 : Int32), n < 512 → Sp Inv n (f_X6_picks z0 z1 z2) (f_X7_picks z0 z1 z2)) (hs18 : ∀ (n : Nat) (z0 : Int32), n < 512 → Sp Inv n (f_X6_type z0) (f_X7_type z0)) (hs19 : ∀ (n : Nat), n < 512 → Sp Inv n (f_X6_clear) (f_X7_clear)) (hs20 : ∀ (n : Nat), n < 512 → Sp Inv n (f_X6_reads) (f_X7_reads)) (hs21 : ∀ (n : Nat), n < 512 → Sp Inv n (f_X6_back) (f_X7_back)) (hs22 : ∀ (n : Nat) (z0 : Int32), n < 512 → Sp Inv n (f_X6_told z0) (f_X7_told z0)) (hs23 : ∀ (n : Nat), n < 512 → Sp Inv n (f_X6_digest) (f_X7_digest)) : W p l e room_1 s m #[Value.ref b] below meth c s.heap [] 0 0 (lw_Z below #[Value.ref b] s) (entryFrame m ([Value.ref b] : List Value).toArray 4) := by
  obtain ⟨hx, hb, hr, hml, hown, hts, hX, hbl, hlocks, hgv⟩ := id C0
  have hz : ∀ w ∈ zt, w.before #[Value.ref b] s = true := lA_ts C0
  obtain ⟨c0, iS0, hKn0⟩ := u_known (C := RX0) (T := TX0) (N := 4) (n := 4) hz jnX0 (hz _ (zt_of 154 (by decide +kernel) rfl : Cond.instantiable RX0 4 ∈ zt))
  obtain ⟨c1, iS1, hKn1⟩ := u_known (C := RX1) (T := TX1) (N := 8) (n := 8) hz jnX1 (hz _ (zt_of 209 (by decide +kernel) rfl : Cond.instantiable RX1 8 ∈ zt))
  obtain ⟨c2, iS2, hKn2⟩ := u_known (C := RX2) (T := TX2) (N := 8) (n := 8) hz jnX2 (hz _ (zt_of 175 (by decide +kernel) rfl : Cond.instantiable RX2 8 ∈ zt))
  obtain ⟨c3, iS3, hKn3⟩ := u_known (C := RX3) (T := TX3) (N := 3) (n := 3) hz jnX3 (hz _ (zt_of 242 (by decide +kernel) rfl : Cond.instantiable RX3 3 ∈ zt))
  obtain ⟨c4, iS4, hKn4⟩ := u_known (C := RX4) (T := TX4) (N := 13) (n := 13) hz jnX4 (hz _ (zt_of 85 (by decide +kernel) rfl : Cond.instantiable RX4 13 ∈ zt))
  obtain ⟨c5, iS5, hKn5⟩ := u_known (C := RX5) (T := TX5) (N := 7) (n := 7) hz jnX5 (hz _ (zt_of 262 (by decide +kernel) rfl : Cond.instantiable RX5 7 ∈ zt))
  obtain ⟨c6, iS6, hKn6⟩ := u_known (C := RX6) (T := TX6) (N := 7) (n := 7) hz jnX6 (hz _ (zt_of 77 (by decide +kernel) rfl : Cond.instantiable RX6 7 ∈ zt))
  obtain ⟨c7, iS7, hKn7⟩ := u_known (C := RX7) (T := TX7) (N := 23) (n := 23) hz jnX7 (hz _ (zt_of 714 (by decide +kernel) rfl : Cond.instantiable RX7 23 ∈ zt))
  obtain ⟨dC, dI, hKc⟩ : ∃ (dC : Nat → ClassId) (dI : Nat → Nat → Nat), ∀ (k : Nat) (q : vw_C), vwCl[k]? = some q → u_Kn s q.1 q.2.1 q.2.2 (dC k) (dI k) := by
    refine ⟨fun k => if k = 0 then c0 else if k = 1 then c1 else if k = 2 then c2 else if k = 3 then c3 else if k = 4 then c4 else if k = 5 then c5 else if k = 6 then c6 else c7, fun k => if k = 0 then iS0 else if k = 1 then iS1 else if k = 2 then iS2 else if k = 3 then iS3 else if k = 4 then iS4 else if k = 5 then iS5 else if k = 6 then iS6 else iS7, ?_⟩
    intro k q hq
    match k, hq with
    | 0, hq => cases hq; exact hKn0
    | 1, hq => cases hq; exact hKn1
    | 2, hq => cases hq; exact hKn2
    | 3, hq => cases hq; exact hKn3
    | 4, hq => cases hq; exact hKn4
    | 5, hq => cases hq; exact hKn5
    | 6, hq => cases hq; exact hKn6
    | 7, hq => cases hq; exact hKn7
    | k + 8, hq => simp [vwCl] at hq
  obtain ⟨aB, kB, pB, fB1, fB2, fB3⟩ := Cond.arrayClass_spec (hz _ ac_byte)
  obtain ⟨aI, kI, pI, fI1, fI2, fI3⟩ := Cond.arrayClass_spec (hz _ ac_int)
  obtain ⟨aJ, kJ, pJ, fJ1, fJ2, fJ3⟩ := Cond.arrayClass_spec (hz _ ac_long)
  have hO : va_AO RX4 s := va_AO.of (hts (Cond.arrayOver (.object RX4)) (List.mem_of_getElem? (i := 248) (by decide +kernel)))
  obtain ⟨pS, aS, kS, fS1, fS2, fS3, fS4, fS5⟩ := Cond.arrayOver_spec hO
  obtain ⟨cs, rfl, rfl, rfl, rfl⟩ : ∃ cs : Nat → ClassId, cs 0 = aB ∧ cs 1 = aI ∧ cs 2 = aJ ∧ cs 3 = aS := ⟨fun k => if k = 0 then aB else if k = 1 then aI else if k = 2 then aJ else aS, rfl, rfl, rfl, rfl⟩
  have hK : va_K (dC, dI) vwCl (zT ((l, (dC, dI), (fun _ => 0), cs) : Gx)) s := by
    refine ⟨hKc, fun k q hk => ?_⟩
    have hk4 : k < 4 := (List.getElem?_eq_some_iff.mp hk).1
    rcases (show k = 0 ∨ k = 1 ∨ k = 2 ∨ k = 3 by omega) with rfl | rfl | rfl | rfl
    · cases hk; exact ⟨fun n z => ⟨(fun k h => by cases h), kB, fB2, pB, fB3⟩, fB1⟩
    · cases hk; exact ⟨fun n z => ⟨(fun k h => by cases h), kI, fI2, pI, fI3⟩, fI1⟩
    · cases hk; exact ⟨fun n z => ⟨(fun k h => by cases h), kJ, fJ2, pJ, fJ3⟩, fJ1⟩
    · cases hk; exact ⟨fun n z => ⟨(fun k h => by cases h), kS, fS3, pS, fS4⟩, kS, pS, fS3, fS4, fS1, fS5⟩
  have hN : zNs s := by
    intro w hw hn
    have h1 := hts w hw
    cases w <;> first | exact va_Nw.of rfl h1 | (simp [isNest] at hn; done)
  have hA : ∀ q : Nat, s.heap.size ≤ q → (fun q : Nat => s.heap.size ≤ q) q := fun _ h => h
  have hS : va_S (fun q : Nat => s.heap.size ≤ q) s.heap s.heap [] := va_S.rf
  have hP : va_P (dC, dI) vwCl [] s.heap := fun k q h => by simp at h
  have hD : va_D (fun q : Nat => s.heap.size ≤ q) [] := ⟨fun i j p q h => by simp at h, fun k q h => by simp at h⟩
  have hl := lv_entry ([.ref b]) (n := 4) (Nat.le_of_ble_eq_true rfl)
  rw [lg_entry_eq]
  generalize (lg_sl ([.ref b]) ++ List.replicate (4 - (lg_sl ([.ref b])).length) Slot.unset).toArray = ls at hl ⊢
  have hl : lv_has ls 4 [(0, .ref b)] := hl
  refine va_new (D := (dC, dI)) (ci := 6) (fs := [.null, .null, .null, .null, .null, .null, .null]) (C := RX6) (T := TX6) (N := 7) hx hb hz jnX6 tyX6 tyX6_ok hown (hz _ (zt_of 76 (by decide +kernel) rfl : Cond.classLink R_law 7 RX6 ∈ zt)) (hz _ (zt_of 77 (by decide +kernel) rfl : Cond.instantiable RX6 7 ∈ zt)) (hz _ iniX6) hK hP hD hS hA rfl (fun j hj => by rcases (show j = 0 ∨ j = 1 ∨ j = 2 ∨ j = 3 ∨ j = 4 ∨ j = 5 ∨ j = 6 by omega) with rfl | rfl | rfl | rfl | rfl | rfl | rfl <;> rfl) (Nat.le_of_ble_eq_true rfl) (Nat.le_of_ble_eq_true rfl) dL_law_0 (fun q0 H hP hD hS => ?_)
  refine lv_dup hx hb dL_law_3 rfl ?_
  refine n_run (g := ((l, (dC, dI), (fun _ => 0), cs) : Gx)) (R := room_1) (pc := 4) (Bc := bX6_init ((l, (dC, dI), (fun _ => 0), cs) : Gx) q0) (q := q0) (mcc := 82) (msc := 2738) (rest := [.ref q0]) (wr := []) (va_runI (As := []) (rest := [.ref q0]) (b := q0) (own := R_law) ⟨hx, hb, hml, hown, hz⟩ (ctX6_init ((l, (dC, dI), (fun _ => 0), cs) : Gx) q0 H.size) ⟨callB_of 0 hz (zG coX6_init) rfl rfl rfl (hz _ iniX6) (hz _ (zt_of 78 (by decide +kernel) rfl : Cond.methodLink R_law 9 yX6_init ∈ zt)) ⟨by decide +kernel, by decide +kernel, by decide +kernel⟩ ⟨(Nat.le_of_ble_eq_true rfl), (Nat.le_of_ble_eq_true rfl)⟩, rfl, hz _ imX6_init⟩ ⟨nB.blind, fun U hU hW => ⟨rfl, by rw [hU], by rw [hU]; exact hP.sub [0] rfl, (hD.sub [0] rfl rfl).weaken (fun _ _ _ _ => trivial), va_K.moved hW.alike hK, zNs.warm hW hN, va_AO.moved hW.alike hO⟩⟩ rfl rfl hl.1 rfl (lv_room (Nat.le_of_ble_eq_true rfl)) dL_law_4 ⟨(Nat.le_of_ble_eq_true rfl), (Nat.le_of_ble_eq_true rfl)⟩) hP hD hA hS 0 [] rfl rfl (by decide) (by decide) (fun w1 H locs hB hP hD hS => ?_)
  obtain ⟨ad, had, hP, hD⟩ := bC_ok hB hP hD
  refine lv_astore_n (lv' := [(1, .ref q0), (0, .ref b)]) hx hb dL_law_7 rfl hl (by decide) rfl (fun ls hl => ?_)
  have hP : va_P (dC, dI) vwCl (zW ((l, (dC, dI), ad, cs) : Gx) ΛC mC0) H := hP
  have hD : va_D (fun q : Nat => s.heap.size ≤ q) (zW ((l, (dC, dI), ad, cs) : Gx) ΛC mC0) := hD
  refine va_new (D := (dC, dI)) (ci := 7) (fs := [.null, .null, .null, .int 0, .null, .null, .int 0, .int 0, .null, .int 0, .null, .int 0, .null, .null, .null, .int 0, .int 0, .int 0, .int 0, .int 0, .null, .null, .long 0]) (C := RX7) (T := TX7) (N := 23) hx hb hz jnX7 tyX7 tyX7_ok hown (hz _ (zt_of 713 (by decide +kernel) rfl : Cond.classLink R_law 10 RX7 ∈ zt)) (hz _ (zt_of 714 (by decide +kernel) rfl : Cond.instantiable RX7 23 ∈ zt)) (hz _ iniX7) hK hP hD hS hA rfl (fun j hj => by rcases (show j = 0 ∨ j = 1 ∨ j = 2 ∨ j = 3 ∨ j = 4 ∨ j = 5 ∨ j = 6 ∨ j = 7 ∨ j = 8 ∨ j = 9 ∨ j = 10 ∨ j = 11 ∨ j = 12 ∨ j = 13 ∨ j = 14 ∨ j = 15 ∨ j = 16 ∨ j = 17 ∨ j = 18 ∨ j = 19 ∨ j = 20 ∨ j = 21 ∨ j = 22 by omega) with rfl | rfl | rfl | rfl | rfl | rfl | rfl | rfl | rfl | rfl | rfl | rfl | rfl | rfl | rfl | rfl | rfl | rfl | rfl | rfl | rfl | rfl | rfl <;> rfl) (Nat.le_of_ble_eq_true rfl) (Nat.le_of_ble_eq_true rfl) dL_law_8 (fun q1 H hP hD hS => ?_)
  have hlen : (zW ((l, (dC, dI), ad, cs) : Gx) ΛC mC0).length = 83 := zW_len
  have hk83 : (zW ((l, (dC, dI), ad, cs) : Gx) ΛC mC0 ++ [(q1, (.inr (7, [.null, .null, .null, .int 0, .null, .null, .int 0, .int 0, .null, .int 0, .null, .int 0, .null, .null, .null, .int 0, .int 0, .int 0, .int 0, .int 0, .null, .null, .long 0]) : va_E))])[83]? = some (q1, .inr (7, [.null, .null, .null, .int 0, .null, .null, .int 0, .int 0, .null, .int 0, .null, .int 0, .null, .null, .null, .int 0, .int 0, .int 0, .int 0, .int 0, .null, .null, .long 0])) := by
    rw [List.getElem?_append_right (by omega), hlen]
    rfl
  have hR83 : (List.range 83).map (fun i => (zW ((l, (dC, dI), ad, cs) : Gx) ΛC mC0 ++ [(q1, (.inr (7, [.null, .null, .null, .int 0, .null, .null, .int 0, .int 0, .null, .int 0, .null, .int 0, .null, .null, .null, .int 0, .int 0, .int 0, .int 0, .int 0, .null, .null, .long 0]) : va_E))])[i]?) = (zW ((l, (dC, dI), ad, cs) : Gx) ΛC mC0).map some := by
    have := range_app (wr := zW ((l, (dC, dI), ad, cs) : Gx) ΛC mC0) (x := [(q1, (.inr (7, [.null, .null, .null, .int 0, .null, .null, .int 0, .int 0, .null, .int 0, .null, .int 0, .null, .null, .null, .int 0, .int 0, .int 0, .int 0, .int 0, .null, .null, .long 0]) : va_E))])
    rw [hlen] at this
    exact this
  refine lv_dup hx hb dL_law_11 rfl ?_
  refine n_run (g := ((l, (dC, dI), (fun _ => 0), cs) : Gx)) (R := room_1) (pc := 12) (Bc := bX7_init ((l, (dC, dI), (fun _ => 0), cs) : Gx) q1) (q := q1) (mcc := 12) (msc := 2114) (rest := [.ref q1]) (wr := (zW ((l, (dC, dI), ad, cs) : Gx) ΛC mC0)) (va_runI (As := []) (rest := [.ref q1]) (b := q1) (own := R_law) ⟨hx, hb, hml, hown, hz⟩ (ctX7_init ((l, (dC, dI), (fun _ => 0), cs) : Gx) q1 H.size) ⟨callB_of 0 hz (zG coX7_init) rfl rfl rfl (hz _ iniX7) (hz _ (zt_of 715 (by decide +kernel) rfl : Cond.methodLink R_law 12 yX7_init ∈ zt)) ⟨by decide +kernel, by decide +kernel, by decide +kernel⟩ ⟨(Nat.le_of_ble_eq_true rfl), (Nat.le_of_ble_eq_true rfl)⟩, rfl, hz _ imX7_init⟩ ⟨nB.blind, fun U hU hW => ⟨rfl, by rw [hU], by rw [hU]; exact hP.sub [83] (by simp [hk83]), (hD.sub [83] rfl (by simp [hk83])).weaken (fun _ _ _ _ => trivial), va_K.moved hW.alike hK, zNs.warm hW hN, va_AO.moved hW.alike hO⟩⟩ rfl rfl hl.1 rfl (lv_room (Nat.le_of_ble_eq_true rfl)) dL_law_12 ⟨(Nat.le_of_ble_eq_true rfl), (Nat.le_of_ble_eq_true rfl)⟩) hP hD hA hS 83 (List.range 83) hk83 hR83 (by decide +kernel) (by simp) (fun w1 H locs hB hP hD hS => ?_)
  obtain ⟨am, ham, rfl⟩ := bM_ok hB
  have hP : va_P (dC, dI) vwCl (zW ((l, (dC, dI), ad, cs) : Gx) ΛC mC0 ++ zW (gMo ((l, (dC, dI), ad, cs) : Gx) am) ΛM mM0) H := hP
  have hD : va_D (fun q : Nat => s.heap.size ≤ q) (zW ((l, (dC, dI), ad, cs) : Gx) ΛC mC0 ++ zW (gMo ((l, (dC, dI), ad, cs) : Gx) am) ΛM mM0) := hD
  refine lv_astore_n (lv' := [(2, .ref q1), (1, .ref q0), (0, .ref b)]) hx hb dL_law_15 rfl hl (by decide) rfl (fun ls hl => ?_)
  refine lv_iconst (v := 0) hx hb dL_law_16 (by decide) ?_
  refine lv_istore_n (lv' := [(3, .int 0), (2, .ref q1), (1, .ref q0), (0, .ref b)]) hx hb dL_law_17 rfl hl (by decide) rfl (fun ls hl => ?_)
  refine W.widen (k := 600000) (n := 7302250) (Nat.le_of_ble_eq_true rfl) (Nat.le_of_ble_eq_true rfl) ?_
  have ap := two_apart hD
  have hPC : va_P (dC, dI) vwCl (zW ((l, (dC, dI), ad, cs) : Gx) ΛC mC0) H := fun k q hk => hP k q (by rw [List.getElem?_append_left (List.getElem?_eq_some_iff.mp hk).1]; exact hk)
  have hPM : va_P (dC, dI) vwCl (zW (gMo ((l, (dC, dI), ad, cs) : Gx) am) ΛM mM0) H := fun k q hk => hP (83 + k) q (by rw [List.getElem?_append_right (by omega), hlen, show 83 + k - 83 = k by omega]; exact hk)
  have hl := lv_sub (l' := [(0, .ref b), (1, .ref q0), (2, .ref q1), (3, .int 0)]) hl [3, 2, 1, 0] rfl
  subst had
  subst ham
  exact law_loop (g := ((l, (dC, dI), ad, cs) : Gx)) (am := am) hL Inv hid hs0 hs1 hs2 hs3 hs4 hs5 hs6 hs7 hs8 hs9 hs10 hs11 hs12 hs13 hs14 hs15 hs16 hs17 hs18 hs19 hs20 hs21 hs22 hs23 513 0 0 mC0 mM0 rfl (by decide +kernel) h00 p e s m below meth c H locs ls C0 ⟨ap.1, ap.2.1, ap.2.2.1, ap.2.2.2.1, ap.2.2.2.2, hK, hN⟩ hPC hPM hS hl
