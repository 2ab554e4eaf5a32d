theorem stageC {N : Nat → Nat} {hist : Nat → Nat → Nat} {st : Nat} {tx : Nat → Nat} {len : Nat} {rf : Nat → Int32} {μ : Mm} (h : RC N hist st tx len rf μ) : ∃ g μ2, f_X3_stage μ = some ((), μ2) ∧ g < 6 ∧ st ≤ 5 ∧ SR μ2 1 N ∧ SR μ2 (24 + 9 * g) N ∧ μ2.1 22 1 = nI g ∧ μ2.1 22 2 = nI st ∧ (∀ j, j < st → SR μ2 (24 + 9 * ((g + 6 - st + j) % 6)) (hist j)) ∧ μ2.1 78 1 = nI len ∧ (∀ i, i < len → μ2.1 79 i = nI (tx i)) ∧ (∀ k, k < 4 → μ2.1 82 k = rf k) := by
  obtain ⟨g, h1, h2, h3, h4, h5, h6, h7, h8, h9⟩ := h
  refine ⟨g, cpS μ (24 + 9 * g) 1, ?_, h1, h2, h3.frame (fun a _ ha => cpS_frame (by omega)), cpS_SR h3 (by omega), by rw [cpS_frame (by omega)]; exact h4, by rw [cpS_frame (by omega)]; exact h5, fun j hj => (h6 j hj).frame (fun a ha1 ha2 => cpS_frame ?_), by rw [cpS_frame (by omega)]; exact h7, fun i hi => by rw [cpS_frame (by omega)]; exact h8 i hi, fun k hk => by rw [cpS_frame (by omega)]; exact h9 k hk⟩
  · rw [f_X3_stage, h4, if_pos (zin_nI h1 (by omega)), nI_clamp (by omega)]
  · have : (g + 6 - st + j) % 6 ≠ g := by omega
    omega
theorem keepC {N N0 : Nat → Nat} {hist : Nat → Nat → Nat} {st : Nat} {tx : Nat → Nat} {len : Nat} {rf : Nat → Int32} {μ : Mm} {g : Nat} (h1 : g < 6) (h2 : st ≤ 5) (h3 : SR μ 1 N) (h0 : SR μ (24 + 9 * g) N0) (h4 : μ.1 22 1 = nI g) (h5 : μ.1 22 2 = nI st) (h6 : ∀ j, j < st → SR μ (24 + 9 * ((g + 6 - st + j) % 6)) (hist j)) (h7 : μ.1 78 1 = nI len) (h8 : ∀ i, i < len → μ.1 79 i = nI (tx i)) (h9 : ∀ k, k < 4 → μ.1 82 k = rf k) :
    ∃ μ2, f_X3_keepStaged μ = some ((), μ2) ∧ RC N (pushH hist st N0) (pushS st) tx len rf μ2 ∧ ∀ a, a ≠ 22 → μ2.1 a = μ.1 a := by
  have key : ∀ (g2 : Nat), g2 < 6 → g2 % 6 = (g + 1) % 6 → RC N (pushH hist st N0) (pushS st) tx len rf (si (si μ 22 1 (nI g2)) 22 2 (nI (pushS st))) ∧ ∀ a, a ≠ 22 → (si (si μ 22 1 (nI g2)) 22 2 (nI (pushS st))).1 a = μ.1 a := by
    intro g2 hg2 hm
    have fr : ∀ a, a ≠ 22 → (si (si μ 22 1 (nI g2)) 22 2 (nI (pushS st))).1 a = μ.1 a := fun a ha => (si_ne1 ha).trans (si_ne1 ha)
    refine ⟨⟨g2, hg2, by unfold pushS; split <;> omega, h3.frame (fun a _ ha => fr a (by omega)), by rw [si_rd, if_neg (by omega), si_rd, if_pos ⟨rfl, rfl⟩], by rw [si_rd, if_pos ⟨rfl, rfl⟩], fun j hj => ?_, by rw [fr 78 (by omega)]; exact h7, fun i hi => by rw [fr 79 (by omega)]; exact h8 i hi, fun k hk => by rw [fr 82 (by omega)]; exact h9 k hk⟩, fr⟩
    refine SR.frame (μ := μ) ?_ (fun a ha1 ha2 => fr a (by omega))
    unfold pushS at hj ⊢
    unfold pushH
    by_cases hs : st < 5
    · rw [if_pos hs] at hj ⊢
      rw [if_pos hs]
      by_cases hjs : j = st
      · rw [if_pos hjs, show (g2 + 6 - (st + 1) + j) % 6 = g by omega]
        exact h0
      · rw [if_neg hjs, show (g2 + 6 - (st + 1) + j) % 6 = (g + 6 - st + j) % 6 by omega]
        exact h6 j (by omega)
    · rw [if_neg hs] at hj ⊢
      rw [if_neg hs]
      by_cases hjs : j = 4
      · rw [if_pos hjs, show (g2 + 6 - 5 + j) % 6 = g by omega]
        exact h0
      · rw [if_neg hjs, show (g2 + 6 - 5 + j) % 6 = (g + 6 - st + (j + 1)) % 6 by omega]
        exact h6 (j + 1) (by omega)
  have es : (if (5 : Int32) < nI st + 1 then (5 : Int32) else nI st + 1) = nI (pushS st) := by
    rw [nI_1, i5]
    unfold pushS
    by_cases hs : st < 5
    · rw [if_pos hs, if_neg (fun q => by rw [nI_ltI (by omega) (by omega)] at q; omega)]
    · rw [if_neg hs, if_pos ((nI_ltI (by omega) (by omega)).mpr (by omega))]
  rw [f_X3_keepStaged, h4, h5, es]
  by_cases hg : 6 ≤ g + 1
  · rw [if_pos (by rw [nI_1, i6]; exact (nI_leI (by omega) (by omega)).mpr hg), iz0]
    exact ⟨_, rfl, key 0 (by omega) (by omega)⟩
  · rw [if_neg (by rw [nI_1, i6, nI_leI (by omega) (by omega)]; exact hg), nI_1]
    exact ⟨_, rfl, key (g + 1) (by omega) (by omega)⟩
theorem scC {F : Mm → Option (Int32 × Mm)} {N N2 : Nat → Nat} {r : Int32} {hist : Nat → Nat → Nat} {st : Nat} {tx : Nat → Nat} {len : Nat} {rf : Nat → Int32} {μ : Mm} (hop : OpC F N r N2) (h : RC N hist st tx len rf μ) :
    ((∃ v, v < 2 ^ 31 ∧ r = nI v) → ∃ μ2, (bd (f_X3_stage μ) fun _ μ2 => bd (F μ2) fun r3 μ4 => bd (f_X6_settled r3 μ4) fun r5 μ6 => some (r5, μ6)) = some (r, μ2) ∧ RC N2 (pushH hist st N) (pushS st) tx len rf μ2) ∧
    ((r = -2 ∨ r = -3 ∨ r = -4) → N2 = N → ∃ μ2, (bd (f_X3_stage μ) fun _ μ2 => bd (F μ2) fun r3 μ4 => bd (f_X6_settled r3 μ4) fun r5 μ6 => some (r5, μ6)) = some (r, μ2) ∧ RC N hist st tx len (incR rf (kindR r)) μ2) := by
  obtain ⟨g, μs, e1, g1, g2, g3, g4, g5, g6, g7, g8, g9, g10⟩ := stageC h
  obtain ⟨μ4, e2, f1, f2⟩ := hop μs g3
  have k1 : SR μ4 (24 + 9 * g) N := g4.frame (fun a ha _ => f2 a (by omega))
  have k2 : ∀ j, j < st → SR μ4 (24 + 9 * ((g + 6 - st + j) % 6)) (hist j) := fun j hj => (g7 j hj).frame (fun a ha _ => f2 a (by omega))
  rw [e1, bd_some, e2, bd_some]
  constructor
  · rintro ⟨v, hv, rfl⟩
    obtain ⟨μ5, e3, q1, -⟩ := keepC (rf := rf) g1 g2 f1 k1 (by rw [f2 22 (by omega)]; exact g5) (by rw [f2 22 (by omega)]; exact g6) k2 (by rw [f2 78 (by omega)]; exact g8) (fun i hi => by rw [f2 79 (by omega)]; exact g9 i hi) (fun k hk => by rw [f2 82 (by omega)]; exact g10 k hk)
    rw [f_X6_settled, if_pos (nI_pos' hv), e3, bd_some, bd_some]
    exact ⟨_, rfl, q1⟩
  · intro hr hN
    subst hN
    have hRC : RC N2 hist st tx len rf μ4 := ⟨g, g1, g2, f1, by rw [f2 22 (by omega)]; exact g5, by rw [f2 22 (by omega)]; exact g6, k2, by rw [f2 78 (by omega)]; exact g8, fun i hi => by rw [f2 79 (by omega)]; exact g9 i hi, fun k hk => by rw [f2 82 (by omega)]; exact g10 k hk⟩
    obtain ⟨μ5, e3, q1⟩ := refC hRC r
    have hneg : ¬ (0 : Int32) ≤ r := by rcases hr with rfl | rfl | rfl <;> decide +kernel
    rw [f_X6_settled, if_neg hneg, e3, bd_some, bd_some]
    exact ⟨_, rfl, q1⟩
/-! the same for the reference -/
theorem lpM_shift : ∀ (f i : Nat) (μ : Mm) (k : Mm → Option (Unit × Mm)), i ≤ 592 → 593 ≤ f + i → ∃ μ2 : Mm, lp_X7_leaves_10 f (nI i) μ k = k μ2 ∧ (∀ a, a ≠ 3 → μ2.1 a = μ.1 a) ∧ (∀ j, j < i → μ2.1 3 j = μ.1 3 j) ∧ (∀ j, i ≤ j → j < 592 → μ2.1 3 j = μ.1 3 (j + 148)) := by
  intro f
  induction f with
  | zero => intro i μ k h1 h2; omega
  | succ f ih =>
    intro i μ k h1 h2
    rw [lp_X7_leaves_10]
    by_cases hi : 592 ≤ i
    · rw [i592, if_pos ((nI_leI (by omega) (by omega)).mpr hi)]
      exact ⟨μ, rfl, fun _ _ => rfl, fun _ _ => rfl, fun j a b => by omega⟩
    · rw [i592, if_neg (fun q => hi ((nI_leI (by omega) (by omega)).mp q)), i148, nI_add, if_pos (zin_nI (by omega) (by omega)), if_pos (zin_nI (by omega) (by omega)), nI_clamp (by omega), nI_clamp (by omega), nI_1]
      obtain ⟨μ2, e1, e3, e4, e5⟩ := ih (i + 1) (si μ 3 i (μ.1 3 (i + 148))) k (by omega) (by omega)
      refine ⟨μ2, e1, fun a ha => ?_, fun j hj => ?_, fun j hj hj2 => ?_⟩
      · rw [e3 a ha]
        exact si_ne1 ha
      · rw [e4 j (by omega), si_rd, if_neg (by omega)]
      · by_cases hji : j = i
        · subst hji
          rw [e4 j (by omega), si_rd, if_pos ⟨rfl, rfl⟩]
        · rw [e5 j (by omega) hj2]
          rw [si_rd, if_neg (by omega)]
theorem lpM_last : ∀ (f i s : Nat) (μ : Mm) (k : Mm → Option (Unit × Mm)), i ≤ 148 → 149 ≤ f + i → s ≤ 4 → μ.1 0 3 = nI s → ∃ μ2 : Mm, lp_X7_leaves_51 f (nI i) μ k = k μ2 ∧ (∀ a, a ≠ 3 → μ2.1 a = μ.1 a) ∧ (∀ j, (j < 148 * s + i ∨ 148 * s + 148 ≤ j) → μ2.1 3 j = μ.1 3 j) ∧ (∀ j, i ≤ j → j < 148 → μ2.1 3 (148 * s + j) = μ.1 2 j) := by
  intro f
  induction f with
  | zero => intro i s μ k h1 h2; omega
  | succ f ih =>
    intro i s μ k h1 h2 hs hm
    rw [lp_X7_leaves_51]
    by_cases hi : 148 ≤ i
    · rw [i148, if_pos ((nI_leI (by omega) (by omega)).mpr hi)]
      exact ⟨μ, rfl, fun _ _ => rfl, fun _ _ => rfl, fun j a b => by omega⟩
    · rw [i148, if_neg (fun q => hi ((nI_leI (by omega) (by omega)).mp q)), if_pos (zin_nI (by omega) (by omega)), hm, pk_mul, nI_add, if_pos (zin_nI (by omega) (by omega)), nI_clamp (by omega), nI_clamp (by omega), nI_1]
      obtain ⟨μ2, e1, e3, e4, e5⟩ := ih (i + 1) s (si μ 3 (148 * s + i) (μ.1 2 i)) k (by omega) (by omega) hs (by rw [si_ne1 (by omega)]; exact hm)
      refine ⟨μ2, e1, fun a ha => ?_, fun j hj => ?_, fun j hj hj2 => ?_⟩
      · rw [e3 a ha]
        exact si_ne1 ha
      · rw [e4 j (by omega), si_rd, if_neg (by omega)]
      · by_cases hji : j = i
        · subst hji
          rw [e4 _ (by omega), si_rd, if_pos ⟨rfl, rfl⟩]
        · rw [e5 j (by omega) hj2]
          rw [si_rd, if_neg (by omega)]
theorem leavesM {N N0 : Nat → Nat} {hist : Nat → Nat → Nat} {st : Nat} {tx : Nat → Nat} {len : Nat} {rf : Nat → Int32} {μ : Mm} (h : RM N hist st tx len rf μ) (h0 : ∀ k, k < 148 → μ.1 2 k = nI (N0 k)) : ∃ μ2, f_X7_leaves μ = some ((), μ2) ∧ RM N (pushH hist st N0) (pushS st) tx len rf μ2 := by
  obtain ⟨h1, h2, h3, h4, h5, h6, h7⟩ := h
  rw [f_X7_leaves]
  by_cases hs : st = 5
  · subst hs
    rw [if_pos (by rw [h3]; decide +kernel), iz0]
    obtain ⟨μa, ea, a1, a2, a3⟩ := lpM_shift FU 0 μ (fun μ5 => lp_X7_leaves_51 FU (nI 0) (si μ5 0 3 ((μ5.1 0 3) - (1 : Int32))) (fun μ6 => some ((), (si μ6 0 3 ((μ6.1 0 3) + (1 : Int32)))))) (by omega) (by decide)
    rw [ea]
    have e4 : (μa.1 0 3) - (1 : Int32) = nI 4 := by rw [a1 0 (by omega), h3]; decide +kernel
    rw [e4]
    obtain ⟨μb, eb, b1, b2, b3⟩ := lpM_last FU 0 4 (si μa 0 3 (nI 4)) (fun μ6 => some ((), (si μ6 0 3 ((μ6.1 0 3) + (1 : Int32))))) (by omega) (by decide) (by omega) (by rw [si_rd, if_pos ⟨rfl, rfl⟩])
    rw [eb]
    have e5 : (μb.1 0 3) + (1 : Int32) = nI 5 := by rw [b1 0 (by omega), si_rd, if_pos ⟨rfl, rfl⟩]; decide +kernel
    rw [e5]
    have fr : ∀ a, a ≠ 0 → a ≠ 3 → (si μb 0 3 (nI 5)).1 a = μ.1 a := fun a ha hb => by rw [si_ne1 ha, b1 a hb, si_ne1 ha, a1 a hb]
    refine ⟨_, rfl, fun k hk => by rw [fr 1 (by omega) (by omega)]; exact h1 k hk, by decide, by rw [si_rd, if_pos ⟨rfl, rfl⟩]; rfl, fun j hj k hk => ?_, ?_, fun i hi => by rw [fr 5 (by omega) (by omega)]; exact h6 i hi, fun k hk => by rw [fr 4 (by omega) (by omega)]; exact h7 k hk⟩
    · rw [si_ne1 (by omega)]
      have hj : j < 5 := hj
      unfold pushH
      rw [if_neg (by omega)]
      by_cases hj4 : j = 4
      · subst hj4
        rw [if_pos rfl, b3 k (by omega) hk, si_ne1 (by omega), a1 2 (by omega), h0 k hk]
      · rw [if_neg hj4, b2 _ (by omega), si_ne1 (by omega), a3 _ (by omega) (by omega), show 148 * j + k + 148 = 148 * (j + 1) + k by omega]
        exact h4 (j + 1) (by omega) k hk
    · rw [si_rd, if_neg (by omega), b1 0 (by omega), si_rd, if_neg (by omega), a1 0 (by omega)]
      exact h5
  · rw [if_neg (by rw [h3, i5, nI_eq (by omega) (by omega)]; exact hs), iz0]
    obtain ⟨μb, eb, b1, b2, b3⟩ := lpM_last FU 0 st μ (fun μ3 => some ((), (si μ3 0 3 ((μ3.1 0 3) + (1 : Int32))))) (by omega) (by decide) (by omega) h3
    rw [eb]
    have e5 : (μb.1 0 3) + (1 : Int32) = nI (st + 1) := by rw [b1 0 (by omega), h3, nI_1]
    rw [e5]
    have fr : ∀ a, a ≠ 0 → a ≠ 3 → (si μb 0 3 (nI (st + 1))).1 a = μ.1 a := fun a ha hb => by rw [si_ne1 ha, b1 a hb]
    have ep : pushS st = st + 1 := by unfold pushS; rw [if_pos (by omega)]
    refine ⟨_, rfl, fun k hk => by rw [fr 1 (by omega) (by omega)]; exact h1 k hk, by omega, by rw [si_rd, if_pos ⟨rfl, rfl⟩, ep], fun j hj k hk => ?_, ?_, fun i hi => by rw [fr 5 (by omega) (by omega)]; exact h6 i hi, fun k hk => by rw [fr 4 (by omega) (by omega)]; exact h7 k hk⟩
    · rw [si_ne1 (by omega)]
      unfold pushH
      rw [if_pos (by omega)]
      by_cases hjs : j = st
      · subst hjs
        rw [if_pos rfl, b3 k (by omega) hk, h0 k hk]
      · rw [if_neg hjs, b2 _ (by omega)]
        exact h4 j (by omega) k hk
    · rw [si_rd, if_neg (by omega), b1 0 (by omega)]
      exact h5
theorem asideM {N : Nat → Nat} {hist : Nat → Nat → Nat} {st : Nat} {tx : Nat → Nat} {len : Nat} {rf : Nat → Int32} {μ : Mm} (h : RM N hist st tx len rf μ) : ∃ μ2, f_X7_laysAside μ = some ((), μ2) ∧ RM N hist st tx len rf μ2 ∧ (∀ k, k < 148 → μ2.1 2 k = nI (N k)) ∧ ∀ a, a ≠ 2 → μ2.1 a = μ.1 a := by
  obtain ⟨h1, h2, h3, h4, h5, h6, h7⟩ := h
  obtain ⟨μ2, e1, -, e3, -, e5⟩ := lpM_aside FU 0 μ (fun μ2 => some ((), μ2)) (by omega) (by decide)
  refine ⟨μ2, by rw [f_X7_laysAside, iz0, e1], ⟨fun k hk => by rw [e3 1 (by omega)]; exact h1 k hk, h2, by rw [e3 0 (by omega)]; exact h3, fun j hj k hk => by rw [e3 3 (by omega)]; exact h4 j hj k hk, by rw [e3 0 (by omega)]; exact h5, fun i hi => by rw [e3 5 (by omega)]; exact h6 i hi, fun k hk => by rw [e3 4 (by omega)]; exact h7 k hk⟩, fun k hk => by rw [e5 k (by omega) hk]; exact h1 k hk, e3⟩
theorem scM {F : Mm → Option (Int32 × Mm)} {N N2 : Nat → Nat} {r : Int32} {hist : Nat → Nat → Nat} {st : Nat} {tx : Nat → Nat} {len : Nat} {rf : Nat → Int32} {μ : Mm} (hop : OpM F N r N2) (h : RM N hist st tx len rf μ) :
    ((∃ v, v < 2 ^ 31 ∧ r = nI v) → ∃ μ2, (bd (f_X7_laysAside μ) fun _ μ2 => bd (F μ2) fun r3 μ4 => bd (f_X7_answers r3 μ4) fun r5 μ6 => some (r5, μ6)) = some (r, μ2) ∧ RM N2 (pushH hist st N) (pushS st) tx len rf μ2) ∧
    ((r = -2 ∨ r = -3 ∨ r = -4) → N2 = N → ∃ μ2, (bd (f_X7_laysAside μ) fun _ μ2 => bd (F μ2) fun r3 μ4 => bd (f_X7_answers r3 μ4) fun r5 μ6 => some (r5, μ6)) = some (r, μ2) ∧ RM N hist st tx len (incR rf (kindR r)) μ2) := by
  obtain ⟨μa, e1, ⟨h1, h2, h3, h4, h5, h6, h7⟩, h8, h9⟩ := asideM h
  obtain ⟨μ4, e2, f1, f2, f3⟩ := hop μa h1
  have hR : RM N2 hist st tx len rf μ4 := ⟨f1, h2, by rw [f3 3 (by omega)]; exact h3, fun j hj k hk => by rw [f2 3 (by omega)]; exact h4 j hj k hk, by rw [f3 6 (by omega)]; exact h5, fun i hi => by rw [f2 5 (by omega)]; exact h6 i hi, fun k hk => by rw [f2 4 (by omega)]; exact h7 k hk⟩
  rw [e1, bd_some, e2, bd_some]
  constructor
  · rintro ⟨v, hv, rfl⟩
    obtain ⟨μ5, e3, q1⟩ := leavesM hR (N0 := N) (fun k hk => by rw [f2 2 (by omega)]; exact h8 k hk)
    rw [f_X7_answers, if_neg (nI_pos hv), e3, bd_some, bd_some]
    exact ⟨_, rfl, q1⟩
  · intro hr hN
    subst hN
    rw [f_X7_answers]
    rcases hr with rfl | rfl | rfl
    · rw [if_pos (by decide +kernel), if_neg (by decide +kernel), if_neg (by decide +kernel)]
      obtain ⟨μ5, e3, q1⟩ := badM hR
      rw [e3, bd_some, bd_some]
      exact ⟨_, rfl, q1⟩
    · rw [if_pos (by decide +kernel), if_pos rfl]
      obtain ⟨μ5, e3, q1⟩ := noM hR
      rw [e3, bd_some, bd_some]
      exact ⟨_, rfl, q1⟩
    · rw [if_pos (by decide +kernel), if_neg (by decide +kernel), if_pos rfl]
      obtain ⟨μ5, e3, q1⟩ := fullM hR
      rw [e3, bd_some, bd_some]
      exact ⟨_, rfl, q1⟩
