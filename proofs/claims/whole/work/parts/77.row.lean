/-! row and picks -/
def pkF (h : Nat → Nat) : Nat → Nat → Nat → Nat × Nat
  | 0, i, l => (i, l)
  | t + 1, i, l => if l < h i then (i, l) else pkF h t (i + 1) (l - h i)
theorem pk_prop (h : Nat → Nat) (k : Nat) : ∀ t i l, i + t = k → l + sumN h i < sumN h k → (pkF h t i l).1 < k ∧ (pkF h t i l).2 < h (pkF h t i l).1 ∧ (pkF h t i l).2 ≤ l := by
  intro t
  induction t with
  | zero =>
    intro i l h1 h2
    rw [show i = k by omega] at h2
    omega
  | succ t ih =>
    intro i l h1 h2
    rw [pkF]
    by_cases c : l < h i
    · rw [if_pos c]
      exact ⟨by omega, c, Nat.le_refl _⟩
    · rw [if_neg c]
      have := ih (i + 1) (l - h i) (by omega) (by rw [sumN_succ]; omega)
      exact ⟨this.1, this.2.1, by omega⟩
theorem lpNext {B : Nat} {N : Nat → Nat} (hO : Ok B N) (hB : B < 2 ^ 30) {cut : Bool} {m : Option Nat} (hm : okm m) (K : Mm → Option (Int32 × Mm)) {p s : Nat} (hp : p < lastN N cut) (h4 : s < 4) (hle : OV N cut m p s ≤ MX) : ∀ (t f i l : Nat) (μ : Mm), i + t = N 0 → t < f → SR μ 1 N → LD μ N cut → μ.1 13 6 = mk m → Tab (μ.2 14) N cut m (p + 1) → μ.2 13 7 = lN l → l + sumN (trm N cut m p (setP N p s)) i < OV N cut m p s → ∃ μ2, lp_X2_nextPhrase_2 (nI p) (nI s) f (nI i) μ K = some (nI (pkF (trm N cut m p (setP N p s)) t i l).1, μ2) ∧ μ2.1 = μ.1 ∧ μ2.2 13 7 = lN ((pkF (trm N cut m p (setP N p s)) t i l).2 / wN N m (pkF (trm N cut m p (setP N p s)) t i l).1) ∧ ∀ a, a ≠ 13 → μ2.2 a = μ.2 a := by
  have h12 := hO.1.1
  have eO := OV_trm hO cut m (s := s) hp
  intro t
  induction t with
  | zero =>
    intro f i l μ h1 h2 hs hd hk hT hl h3
    rw [eO, show i = N 0 by omega] at h3
    omega
  | succ t ih =>
    intro f i l μ h1 h2 hs hd hk hT hl h3
    obtain ⟨f, rfl⟩ : ∃ q, f = q + 1 := ⟨f - 1, by omega⟩
    have hi : i < N 0 := by omega
    have ht : trm N cut m p (setP N p s) i ≤ MX := by
      have := sumN_ge (h := trm N cut m p (setP N p s)) hi
      rw [← eO] at this
      omega
    have hw := wN_b hO hB hm (show i < 12 by omega)
    have hlM : l ≤ MX := by omega
    rw [lp_X2_nextPhrase_2, hs.cnt, if_neg (by rw [nI_leI (by omega) (by omega)]; omega), shareC hO hB hm hs hd hk hT hp h4 hi ht, bd_some, pkF, hl]
    by_cases c : l < trm N cut m p (setP N p s) i
    · have e1 : ¬ lN (wN N m i) < (1 : Int64) := by rw [l1, pk_lLT (by omega) (by omega)]; omega
      rw [if_neg (by rw [pk_lLE (by unfold MX at *; omega) (by unfold MX at *; omega)]; omega), if_pos c, hk, factC hO hB hs hm (by omega), bd_some, if_neg e1, if_pos (by rw [l0, pk_lEQ (by omega) (by omega)]; omega), pk_lDiv (by unfold MX at *; omega) (by omega) (by omega)]
      exact ⟨_, rfl, rfl, by rw [sj_rd, if_pos ⟨rfl, rfl⟩], fun a ha => (sj_ne a ha).2⟩
    · rw [if_pos ((pk_lLE (by unfold MX at *; omega) (by unfold MX at *; omega)).mpr (by omega)), if_neg c, lN_sub (by omega), nI_1]
      obtain ⟨μ2, g1, g2, g3, g4⟩ := ih f (i + 1) (l - trm N cut m p (setP N p s) i) (sj μ 13 7 (lN (l - trm N cut m p (setP N p s) i))) (by omega) (by omega) hs hd hk (by rw [(sj_ne 14 (by omega)).2]; exact hT) (by rw [sj_rd, if_pos ⟨rfl, rfl⟩]) (by rw [sumN_succ]; omega)
      exact ⟨μ2, g1, g2, g3, fun a ha => by rw [g4 a ha, (sj_ne a ha).2]⟩
theorem shareM {B : Nat} {N : Nat → Nat} (hO : Ok B N) {cut : Bool} {m : Option Nat} {p v i : Nat} (hi : i < N 0) (h : trm N cut m p v i ≠ 0) : tgN N cut p i ≠ 0 ∧ brN N cut (tgN N cut p i) = false ∧ leadI N cut p i = nI (tgN N cut p i) ∧ LNn N cut p i = tgN N cut p i ∧ bitN v (N (9 + i)) = true ∧ p < tgN N cut p i ∧ tgN N cut p i ≤ lastN N cut ∧ trm N cut m p v i = wN N m i * OV N cut m (tgN N cut p i) (N (9 + i)) := by
  rcases lead_range hO (cut := cut) (p := p) hi with q | ⟨q1, q2, q3, q4⟩
  · exact absurd (trm_lead hO hi q) h
  · have h2 := h
    unfold trm at h2
    by_cases d : bitN v (N (9 + i)) = true ∧ LNn N cut p i ≠ 0
    · have hg := LN_gt hO hi d.2
      refine ⟨q1, q2, q3, hg.1, d.1, by rw [← hg.1]; exact hg.2.1, by rw [← hg.1]; exact hg.2.2.1, ?_⟩
      unfold trm
      rw [if_pos d, hg.1]
    · rw [if_neg d] at h2
      exact absurd rfl h2
theorem lpGo {B : Nat} {N : Nat → Nat} (hO : Ok B N) (hB : B < 2 ^ 30) {cut : Bool} {m : Option Nat} (hm : okm m) (K : Int64 → Int32 → Mm → Option (Unit × Mm)) {p v : Nat} (hp : p < lastN N cut) (hv : v ≤ 15) (hbr : brN N cut p = false) {μ : Mm} (hs : MR μ N) (hc : CF μ cut) (hT : Tab (μ.2 6) N cut m (p + 1)) (hle : sumN (trm N cut m p v) (N 0) ≤ MX) : ∀ (t f i l : Nat), i + t = N 0 → t + 1 < f → l + sumN (trm N cut m p v) i < sumN (trm N cut m p v) (N 0) → lp_X7_goes_36 (mk m) (nI p) (nI v) f (lN l) (nI i) 1 μ K = K (lN (pkF (trm N cut m p v) t i l).2) (nI (pkF (trm N cut m p v) t i l).1) μ := by
  have h12 := hO.1.1
  have hl := last_le hO cut
  intro t
  induction t with
  | zero =>
    intro f i l h1 h2 h3
    rw [show i = N 0 by omega] at h3
    omega
  | succ t ih =>
    intro f i l h1 h2 h3
    obtain ⟨f, rfl⟩ : ∃ q, f = q + 1 := ⟨f - 1, by omega⟩
    have hi : i < N 0 := by omega
    have hsl := hO.2.2.1 i (by omega)
    have ht : trm N cut m p v i ≤ MX := by
      have := sumN_ge (h := trm N cut m p v) hi
      omega
    have hw := wN_b hO hB hm (show i < 12 by omega)
    have hlM : l < 2 ^ 63 := by unfold MX at *; omega
    have hneg : ¬ lN l < (0 : Int64) := by rw [l0, pk_lLT hlM (by omega)]; omega
    have skip : trm N cut m p v i = 0 → lp_X7_goes_36 (mk m) (nI p) (nI v) f (lN l) (nI (i + 1)) 1 μ K = K (lN (pkF (trm N cut m p v) (t + 1) i l).2) (nI (pkF (trm N cut m p v) (t + 1) i l).1) μ := by
      intro h0
      rw [pkF, if_neg (by omega), h0, Nat.sub_zero]
      exact ih f (i + 1) l (by omega) (by omega) (by rw [sumN_succ, h0]; omega)
    rw [lp_X7_goes_36, if_neg (by decide), i9, nI_add, if_pos (zin_nI (by omega) (by omega)), nI_clamp (by omega), hs (9 + i) (by omega), hasM hv (by omega), bd_some, leadsM hO hs hc (by omega) hi, bd_some, weightM hO hB hs hm (by omega), bd_some, if_pos (zin_nI (show 9 + i < 148 by omega) (by omega)), hs (9 + i) (by omega), if_neg hneg, Int64.sub_zero, Int32.add_zero, nI_1]
    by_cases hb : bitN v (N (9 + i)) = true
    · rw [if_neg (by rw [hb]; decide)]
      rcases lead_range hO (cut := cut) (p := p) hi with q | ⟨q1, q2, q3, q4⟩
      · rw [if_pos q]
        exact skip (trm_lead hO hi q)
      · have h4 := tg_gt hO hi q1
        have hLN : LNn N cut p i = tgN N cut p i := by unfold LNn; rw [if_neg (by rw [hbr]; decide)]
        have hx := hT (tgN N cut p i) (by omega) h4.2 (N (9 + i)) (by omega)
        have et : trm N cut m p v i = wN N m i * OV N cut m (tgN N cut p i) (N (9 + i)) := by
          unfold trm
          rw [if_pos ⟨hb, by rw [hLN]; exact q1⟩, hLN]
        rw [if_neg q4, q3, i4, pk_mul, nI_add, if_pos (zin_nI (by omega) (by omega)), nI_clamp (by omega), hx.2, nI_l (by omega), lN_mul, ← et, pkF]
        by_cases c : l < trm N cut m p v i
        · obtain ⟨f, rfl⟩ : ∃ q, f = q + 1 := ⟨f - 1, by omega⟩
          rw [if_pos ((pk_lLT hlM (by unfold MX at *; omega)).mpr c), if_pos c, lp_X7_goes_36, if_pos rfl]
        · rw [if_neg (by rw [pk_lLT hlM (by unfold MX at *; omega)]; exact c), if_neg c, lN_sub (by omega)]
          exact ih f (i + 1) (l - trm N cut m p v i) (by omega) (by omega) (by rw [sumN_succ]; omega)
    · rw [if_pos ((bI_ne _).mpr (by simpa using hb))]
      exact skip (by unfold trm; rw [if_neg (fun q => hb q.1)])
theorem lpRows {B : Nat} {N : Nat → Nat} (hO : Ok B N) (hB : B < 2 ^ 30) {m : Option Nat} (hm : okm m) (hA : AllLe N false m) : ∀ (t fC fM p s l c : Nat) (μC μM : Mm), p + t = N 2 → t < fC → t < fM → s < 4 → c ≤ p → l < OV N false m p s →
    SR μC 1 N → LD μC N false → μC.1 13 6 = mk m → Tab (μC.2 14) N false m 0 → μC.1 13 5 = nI c → μC.2 13 7 = lN l → MR μM N → CF μM false → Tab (μM.2 6) N false m 1 → μM.1 0 11 = nI c → (∀ j, j < c → μC.1 16 j = μM.1 7 j) →
    ∃ μC2 μM2 c2, lp_X2_findRow_15 fC (nI p) (nI s) μC (fun μ8 => some ((), μ8)) = some ((), μC2) ∧ lp_X7_goes_19 (mk m) fM (nI p) (nI (setP N p s)) (lN l) μM (fun μ21 => some ((), μ21)) = some ((), μM2) ∧ c2 ≤ 40 ∧ μC2.1 13 5 = nI c2 ∧ μM2.1 0 11 = nI c2 ∧ (∀ j, j < c2 → μC2.1 16 j = μM2.1 7 j) ∧ (∀ a, a ≠ 13 → a ≠ 16 → μC2.1 a = μC.1 a) ∧ (∀ a, a ≠ 0 → a ≠ 7 → μM2.1 a = μM.1 a) ∧ (∀ k, k ≠ 11 → μM2.1 0 k = μM.1 0 k) := by
  have hT40 := hO.1.2.2.2
  have h12 := hO.1.1
  have hlast : lastN N false = N 2 := rfl
  intro t
  induction t using Nat.strongRecOn with
  | _ t ih =>
  intro fC fM p s l c μC μM h1 h2 h3 h4 h5 h6 hs hd hk hT e5 e7 hsM hc hTM e11 heq
  obtain ⟨fC, rfl⟩ : ∃ q, fC = q + 1 := ⟨fC - 1, by omega⟩
  obtain ⟨fM, rfl⟩ : ∃ q, fM = q + 1 := ⟨fM - 1, by omega⟩
  by_cases hend : t = 0
  · subst hend
    rw [lp_X2_findRow_15, hd.1, hlast, if_pos ((nI_leI (by omega) (by omega)).mpr (by omega)), lp_X7_goes_19, hsM 2 (by omega), if_pos ((nI_leI (by omega) (by omega)).mpr (by omega))]
    exact ⟨μC, μM, c, rfl, rfl, by omega, e5, e11, heq, fun _ _ _ => rfl, fun _ _ _ => rfl, fun _ _ => rfl⟩
  · have hp : p < lastN N false := by omega
    have hOV : OV N false m p s ≤ MX := hA p hp s h4
    have eO := OV_trm hO false m (s := s) hp
    have hbr : brN N false p = false := by
      cases hx : brN N false p with
      | false => rfl
      | true => rw [OV_br hO false m hp hx] at h6; omega
    obtain ⟨μa, a1, a2, a3, a4⟩ := lpNext hO hB hm (fun μ7 => some ((-1 : Int32), μ7)) hp h4 hOV (N 0) FU 0 l μC (by omega) (by unfold FU; omega) hs hd hk (fun q x y => hT q (by omega) y) e7 (by unfold sumN; omega)
    rw [← iz0] at a1
    have a1 : f_X2_nextPhrase (nI p) (nI s) μC = _ := a1
    have hpk := pk_prop (trm N false m p (setP N p s)) (N 0) (N 0) 0 l (by omega) (by rw [← eO]; exact h6)
    have hgo := lpGo hO hB hm (fun x14 x15 μ16 => if zin (μ16.1 0 11) 40 then (bd (f_X7_weightOf (mk m) x15 (si (si μ16 7 ((μ16.1 0 11).toNatClampNeg) x15) 0 11 ((μ16.1 0 11) + (1 : Int32)))) fun r17 μ18 => if ¬ r17.toInt64 = 0 then (bd (f_X7_leads x15 (nI p) μ18) fun r19 μ20 => if zin ((9 : Int32) + x15) 148 then (if zin ((5 : Int32) + (μ20.1 1 (((9 : Int32) + x15).toNatClampNeg))) 148 then (lp_X7_goes_19 (mk m) fM r19 (μ20.1 1 (((5 : Int32) + (μ20.1 1 (((9 : Int32) + x15).toNatClampNeg))).toNatClampNeg)) (x14 / r17.toInt64) μ20 (fun μ21 => some ((), μ21))) else none) else none) else none) else none) hp (setP_le hO (p := p) h4) hbr hsM hc (fun q x y => hTM q (by omega) y) (by rw [← eO]; exact hOV) (N 0) FU 0 l (by omega) (by unfold FU; omega) (by rw [← eO]; exact h6)
    rw [← iz0] at hgo
    generalize hj : (pkF (trm N false m p (setP N p s)) (N 0) 0 l).1 = j at *
    generalize hl' : (pkF (trm N false m p (setP N p s)) (N 0) 0 l).2 = l' at *
    obtain ⟨p1, p2, p3⟩ := hpk
    have hsl := hO.2.2.1 j (by omega)
    have hw := wN_b hO hB hm (show j < 12 by omega)
    obtain ⟨q1, q2, q3, q4, q5, q6, q7, q8⟩ := shareM hO p1 (show trm N false m p (setP N p s) j ≠ 0 by omega)
    generalize hg : tgN N false p j = g at *
    have hnext : l' / wN N m j < OV N false m g (N (9 + j)) := by
      rw [Nat.div_lt_iff_lt_mul (by omega), Nat.mul_comm, ← q8]
      exact p2
    have eC : ∃ μb, lp_X2_findRow_15 (fC + 1) (nI p) (nI s) μC (fun μ8 => some ((), μ8)) = lp_X2_findRow_15 fC (nI g) (nI (N (9 + j))) μb (fun μ8 => some ((), μ8)) ∧ μb = si (si μa 13 5 (nI (c + 1))) 16 c (nI j) := by
      have e5a : μa.1 13 5 = nI c := by rw [a2]; exact e5
      have hd2 : LD (si (si μa 13 5 (nI (c + 1))) 16 c (nI j)) N false := by
        unfold LD at *
        rw [si_ne1 (by omega), si_ne1 (by omega), si_ne1 (by omega), si_ne1 (by omega), a2]
        exact hd
      have e2 : (si (si μa 13 5 (nI (c + 1))) 16 c (nI j)).1 2 j = nI (N (9 + j)) := by
        rw [si_ne1 (by omega), si_ne1 (by omega), a2]
        exact hs.slo (by omega)
      rw [lp_X2_findRow_15, hd.1, if_neg (by rw [nI_leI (by omega) (by omega)]; omega), e5, if_neg (by rw [i40, nI_leI (by omega) (by omega)]; omega), a1, bd_some, if_neg (nI_m1 (by omega)), e5a, if_pos (zin_nI (by omega) (by omega)), nI_1, nI_clamp (by omega), landC hO hd2 hp p1, bd_some, if_pos (zin_nI (by omega) (by omega)), nI_clamp (by omega), e2, q4]
      exact ⟨_, rfl, rfl⟩
    have eM : ∃ μb, lp_X7_goes_19 (mk m) (fM + 1) (nI p) (nI (setP N p s)) (lN l) μM (fun μ21 => some ((), μ21)) = lp_X7_goes_19 (mk m) fM (nI g) (nI (setP N g (N (9 + j)))) (lN (l' / wN N m j)) μb (fun μ21 => some ((), μ21)) ∧ μb = si (si μM 7 c (nI j)) 0 11 (nI (c + 1)) := by
      have hsb : MR (si (si μM 7 c (nI j)) 0 11 (nI (c + 1))) N := fun k hk => by rw [si_ne1 (by omega), si_ne1 (by omega)]; exact hsM k hk
      have hcb : CF (si (si μM 7 c (nI j)) 0 11 (nI (c + 1))) false := by unfold CF at *; rw [si_rd, if_neg (by omega), si_ne1 (by omega)]; exact hc
      rw [lp_X7_goes_19, hsM 2 (by omega), if_neg (by rw [nI_leI (by omega) (by omega)]; omega), hgo, e11, if_pos (zin_nI (by omega) (by omega)), nI_1, nI_clamp (by omega), weightM hO hB hsb hm (by omega), bd_some, nI_l (by omega), if_pos (by rw [l0, pk_lEQ (by omega) (by omega)]; omega), leadsM hO hsb hcb (by omega) p1, bd_some, i9, nI_add, if_pos (zin_nI (by omega) (by omega)), nI_clamp (by omega), hsb (9 + j) (by omega), i5, nI_add, if_pos (zin_nI (by omega) (by omega)), nI_clamp (by omega), hsb _ (by omega), pk_lDiv (by unfold MX at *; omega) (by omega) (by omega), q3, show setP N g (N (9 + j)) = N (5 + N (9 + j)) by unfold setP; rw [if_neg (by omega)]]
      exact ⟨_, rfl, rfl⟩
    obtain ⟨μb, eb, rfl⟩ := eC
    obtain ⟨μd, ed, rfl⟩ := eM
    have frb : ∀ a, a ≠ 13 → a ≠ 16 → (si (si μa 13 5 (nI (c + 1))) 16 c (nI j)).1 a = μC.1 a := fun a x y => by rw [si_ne1 y, si_ne1 x, a2]
    have frd : ∀ a, a ≠ 0 → a ≠ 7 → (si (si μM 7 c (nI j)) 0 11 (nI (c + 1))).1 a = μM.1 a := fun a x y => by rw [si_ne1 x, si_ne1 y]
    have frk : ∀ k, k ≠ 11 → (si (si μM 7 c (nI j)) 0 11 (nI (c + 1))).1 0 k = μM.1 0 k := fun k x => by rw [si_rd, if_neg (fun q => x q.2), si_ne1 (by omega)]
    obtain ⟨μC2, μM2, c2, r1, r2, r3, r4, r5, r6, r7, r8, r9⟩ := ih (N 2 - g) (by omega) fC fM g (N (9 + j)) (l' / wN N m j) (c + 1) (si (si μa 13 5 (nI (c + 1))) 16 c (nI j)) (si (si μM 7 c (nI j)) 0 11 (nI (c + 1))) (by omega) (by omega) (by omega) (by omega) (by omega) hnext
      (hs.frame (fun a _ ha => frb a (by omega) (by omega))) (by unfold LD at *; rw [frb 10 (by omega) (by omega), frb 11 (by omega) (by omega)]; exact hd) (by rw [si_ne1 (by omega), si_rd, if_neg (by omega), a2]; exact hk) (by rw [si_2, si_2, a4 14 (by omega)]; exact hT) (by rw [si_ne1 (by omega), si_rd, if_pos ⟨rfl, rfl⟩]) (by rw [si_2, si_2]; exact a3)
      (fun k hk => by rw [frd 1 (by omega) (by omega)]; exact hsM k hk) (by unfold CF at *; rw [frk 7 (by omega)]; exact hc) (by rw [si_2, si_2]; exact hTM) (by rw [si_rd, if_pos ⟨rfl, rfl⟩])
      (fun z hz => by
        by_cases d : z = c
        · rw [si_rd, if_pos ⟨rfl, d⟩, si_ne1 (show (7 : Nat) ≠ 0 by omega), si_rd, if_pos ⟨rfl, d⟩]
        · rw [si_rd, if_neg (fun q => d q.2), si_ne1 (show (16 : Nat) ≠ 13 by omega), a2, si_ne1 (show (7 : Nat) ≠ 0 by omega), si_rd, if_neg (fun q => d q.2)]
          exact heq z (by omega))
    exact ⟨μC2, μM2, c2, eb.trans r1, ed.trans r2, r3, r4, r5, r6, fun a x y => by rw [r7 a x y, frb a x y], fun a x y => by rw [r8 a x y, frd a x y], fun k x => by rw [r9 k x, frk k x]⟩
theorem rowBoth {B : Nat} {N : Nat → Nat} (hO : Ok B N) (hB : B < 2 ^ 30) {m : Option Nat} (hm : okm m) (hA : AllLe N false m) {μC μM : Mm} {l : Nat} (hl : l < cnt0 N false m) (hs : SR μC 1 N) (hd : LD μC N false) (hk : μC.1 13 6 = mk m) (hT : Tab (μC.2 14) N false m 0) (hsM : MR μM N) (hc : CF μM false) (hTM : Tab (μM.2 6) N false m 1) :
    ∃ μC2 μM2 c2, f_X2_findRow (lN l) μC = some ((), μC2) ∧ f_X7_goes (lN l) (mk m) μM = some ((), μM2) ∧ c2 ≤ 40 ∧ μC2.1 13 5 = nI c2 ∧ μM2.1 0 11 = nI c2 ∧ (∀ j, j < c2 → μC2.1 16 j = μM2.1 7 j) ∧ FrC μC μC2 ∧ FrR μM μM2 := by
  have h1 := hO.1.2.2.1
  have hT40 := hO.1.2.2.2
  have hlast : lastN N false = N 2 := rfl
  have hl2 : l < OV N false m 0 0 := by unfold cnt0 at hl; rw [if_neg (by omega)] at hl; exact hl
  have frb : ∀ a, a ≠ 13 → (si (sj μC 13 7 (lN l)) 13 5 (0 : Int32)).1 a = μC.1 a := fun a ha => by rw [si_ne1 ha, sj_1]
  obtain ⟨μC2, μM2, c2, r1, r2, r3, r4, r5, r6, r7, r8, r9⟩ := lpRows hO hB hm hA (N 2) FU FU 0 0 l 0 (si (sj μC 13 7 (lN l)) 13 5 (0 : Int32)) (si μM 0 11 (0 : Int32)) (by omega) (by unfold FU; omega) (by unfold FU; omega) (by omega) (by omega) hl2
    (hs.frame (fun a _ ha => frb a (by omega))) (by unfold LD at *; rw [frb 10 (by omega), frb 11 (by omega)]; exact hd) (by rw [si_rd, if_neg (by omega), sj_1]; exact hk) (by rw [si_2, (sj_ne 14 (by omega)).2]; exact hT) (by rw [si_rd, if_pos ⟨rfl, rfl⟩]; exact iz0) (by rw [si_2, sj_rd, if_pos ⟨rfl, rfl⟩])
    (fun k hk => by rw [si_ne1 (by omega)]; exact hsM k hk) (by unfold CF at *; rw [si_rd, if_neg (by omega)]; exact hc) (by rw [si_2]; exact hTM) (by rw [si_rd, if_pos ⟨rfl, rfl⟩]; exact iz0) (fun j hj => by omega)
  rw [← iz0] at r1 r2
  refine ⟨μC2, μM2, c2, r1, ?_, r3, r4, r5, r6, fun a ha => by rw [r7 a (by omega) (by omega), frb a (by omega)], fun a x y => by rw [r8 a (by omega) (by omega), si_ne1 (by omega)], by rw [r9 3 (by omega), si_rd, if_neg (by omega)], by rw [r9 6 (by omega), si_rd, if_neg (by omega)]⟩
  rw [f_X7_goes, hsM 3 (by omega)]
  exact r2
theorem partBoth {μC μM : Mm} {c : Nat} (hc : c ≤ 40) (e1 : μC.1 13 5 = nI c) (e2 : μM.1 0 11 = nI c) (e3 : ∀ j, j < c → μC.1 16 j = μM.1 7 j) (a : Int32) (ha : (-1 : Int32) ≤ a) : ∃ r, f_X6_partOf_16 (μC.1 13 5) a μC = some (r, μC) ∧ f_X7_tellRow a μM = some (r, μM) := by
  rw [f_X6_partOf_16, f_X7_tellRow, e1, e2]
  by_cases h : a = -1
  · rw [if_pos h, if_pos h]
    exact ⟨_, rfl, rfl⟩
  · rw [if_neg h, if_neg h]
    have w := wCc a c (by omega) _ rfl μC
    have h0 : ¬ a < 0 := by
      rw [Int32.lt_iff_toInt_lt, Int32.toInt_zero]
      rw [Int32.le_iff_toInt_le] at ha
      have e : (-1 : Int32).toInt = -1 := by decide +kernel
      rw [e] at ha
      have : a.toInt ≠ -1 := fun q => h (Int32.toInt_inj.mp (by rw [q, e]))
      omega
    obtain ⟨k, hk, rfl⟩ := nI_of h0
    by_cases d : k < c
    · rw [w.1 ⟨k, d, rfl⟩, bd_some, if_neg (by decide), if_pos (zin_nI (by omega) (by omega)), if_neg (by rw [nI_leI (by omega) (by omega)]; omega), if_pos (zin_nI (by omega) (by omega)), nI_clamp (by omega), e3 k d]
      exact ⟨_, rfl, rfl⟩
    · rw [w.2 (by rintro ⟨z, hz, ez⟩; rw [nI_eq hk (by omega)] at ez; omega), bd_some, if_pos rfl, if_pos ((nI_leI (by omega) (by omega)).mpr (by omega))]
      exact ⟨_, rfl, rfl⟩
