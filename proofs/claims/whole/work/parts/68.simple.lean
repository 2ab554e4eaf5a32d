/-! calls that are no setters: letter, wipes, back, of, told, type, clear -/
theorem Inv.up {n : Nat} {μC μM : Mm} (h : Inv n μC μM) : Inv (n + 1) μC μM := by
  obtain ⟨N, hist, st, tx, len, rf, hC, hM, hO, hH, hl, ht⟩ := h
  exact ⟨N, hist, st, tx, len, rf, hC, hM, hO.mono (by omega), fun j hj => (hH j hj).mono (by omega), hl, ht⟩
theorem RC.sr {N : Nat → Nat} {hist : Nat → Nat → Nat} {st : Nat} {tx : Nat → Nat} {len : Nat} {rf : Nat → Int32} {μ : Mm} (h : RC N hist st tx len rf μ) : SR μ 1 N := by
  obtain ⟨g, h1, h2, h3, h4⟩ := h
  exact h3
/-- both sides refuse alike -/
theorem both_ref {n : Nat} {N : Nat → Nat} {hist : Nat → Nat → Nat} {st : Nat} {tx : Nat → Nat} {len : Nat} {rf : Nat → Int32} {μC μM : Mm} {FC FM : Option (Int32 × Mm)} (hC : RC N hist st tx len rf μC) (hM : RM N hist st tx len rf μM) (hO : Ok (6000 * n) N) (hH : ∀ j, j < st → Ok (6000 * n) (hist j)) (hl : len ≤ 150) (ht : ∀ i, i < len → tx i ≤ 127) (r : Int32) (k : Nat) (hk : kindR r = k) (eC : FC = f_X6_refusal r μC) (eM : ∃ μ2, FM = some (r, μ2) ∧ RM N hist st tx len (incR rf k) μ2) : ∃ r μC2 μM2, FC = some (r, μC2) ∧ FM = some (r, μM2) ∧ Inv (n + 1) μC2 μM2 := by
  obtain ⟨μC2, e1, q1⟩ := refC hC r
  obtain ⟨μM2, e2, q2⟩ := eM
  rw [hk] at q1
  exact ⟨r, μC2, μM2, eC.trans e1, e2, N, hist, st, tx, len, _, q1, q2, hO.mono (by omega), fun j hj => (hH j hj).mono (by omega), hl, ht⟩
theorem bd_id {α : Type} (o : Option (α × Mm)) : (bd o fun r μ => some (r, μ)) = o := by
  cases o with
  | none => rfl
  | some q => rfl
theorem st_letter (n : Nat) (a : Int32) : Sp Inv n (f_X6_letter a) (f_X7_letter a) := by
  intro μC μM hI
  obtain ⟨N, hist, st, tx, len, rf, hC, hM, hO, hH, hl, ht⟩ := hI
  have hwM : ∀ μ, _ := fun μ => wM a 1 8 (by omega) (by omega) 1 8 (by decide +kernel) (by decide +kernel) μ
  have hwC : ∀ μ, _ := fun μ => wC a 1 8 (by omega) (by omega) 1 8 (by decide +kernel) (by decide +kernel) μ
  have hs : st ≤ 5 := hM.2.1
  have h40 : N 1 ≤ 40 := hO.1.2.1
  have up : ∀ r, ∀ k, kindR r = k → (∃ μC2, f_X6_letter a μC = some (r, μC2) ∧ RC N hist st tx len (incR rf k) μC2) → (∃ μM2, f_X7_letter a μM = some (r, μM2) ∧ RM N hist st tx len (incR rf k) μM2) → ∃ r μC2 μM2, f_X6_letter a μC = some (r, μC2) ∧ f_X7_letter a μM = some (r, μM2) ∧ Inv (n + 1) μC2 μM2 := by
    rintro r k hk ⟨μC2, e1, q1⟩ ⟨μM2, e2, q2⟩
    exact ⟨r, μC2, μM2, e1, e2, N, hist, st, tx, len, _, q1, q2, hO.mono (by omega), fun j hj => (hH j hj).mono (by omega), hl, ht⟩
  by_cases q : rng a 1 8
  · obtain ⟨k, k1, k2, rfl⟩ := q
    by_cases hf : N 1 = 40
    · refine up (-4) 2 (by decide) ?_ ?_
      · have hop : OpC (f_X4_addLetter (nI k)) N (-4) N := fun μ hs => ⟨μ, by rw [f_X4_addLetter, (hwC μ).1 ⟨k, k1, k2, rfl⟩, bd_some, if_neg (by decide), hs.lnz, if_neg (by rw [hf, i40, nI_ltI (by omega) (by omega)]; omega)], hs, fun _ _ => rfl⟩
        exact (scC hop hC).2 (Or.inr (Or.inr rfl)) rfl
      · rw [f_X7_letter, (hwM μM).1 ⟨k, k1, k2, rfl⟩, bd_some, if_neg (by decide), hM.1 1 (by omega), if_pos (by rw [hf]; decide +kernel), bd_id]
        exact fullM hM
    · have hop : OpC (f_X4_addLetter (nI k)) N (nI (N 1 + 1)) (setN (setN N 1 (N 1 + 1)) (69 + N 1) k) := fun μ hs => ⟨si (si μ 1 9 (nI (N 1 + 1))) 7 (N 1) (nI k), by rw [f_X4_addLetter, (hwC μ).1 ⟨k, k1, k2, rfl⟩, bd_some, if_neg (by decide), hs.lnz, if_pos (by rw [i40]; exact (nI_ltI (by omega) (by omega)).mpr (by omega)), if_pos (zin_nI (by omega) (by omega)), nI_1, nI_clamp (by omega)], SRs_lin (SRs_lnz hs (N 1 + 1)) (by omega) k, fun b hb => by rw [si_ne1 (by omega), si_ne1 (by omega)]⟩
      obtain ⟨μC2, e1, q1⟩ := (scC hop hC).1 ⟨N 1 + 1, by omega, rfl⟩
      obtain ⟨μa, e2, hMa, ha, -⟩ := asideM hM
      have hMb : RM (setN (setN N 1 (N 1 + 1)) (69 + N 1) k) hist st tx len rf (si (si μa 1 (69 + N 1) (nI k)) 1 1 (nI (N 1 + 1))) := by
        obtain ⟨h1, h2, h3, h4, h5, h6, h7⟩ := hMa
        refine ⟨?_, h2, by rw [si_ne1 (by omega), si_ne1 (by omega)]; exact h3, fun j hj k hk => by rw [si_ne1 (by omega), si_ne1 (by omega)]; exact h4 j hj k hk, by rw [si_ne1 (by omega), si_ne1 (by omega)]; exact h5, fun i hi => by rw [si_ne1 (by omega), si_ne1 (by omega)]; exact h6 i hi, fun k hk => by rw [si_ne1 (by omega), si_ne1 (by omega)]; exact h7 k hk⟩
        rw [setN_comm _ (show 1 ≠ 69 + N 1 by omega)]
        exact MR_set (MR_set h1 (69 + N 1) k) 1 (N 1 + 1)
      obtain ⟨μM2, e3, q2⟩ := leavesM hMb (N0 := N) (fun k hk => by rw [si_ne1 (by omega), si_ne1 (by omega)]; exact ha k hk)
      refine ⟨nI (N 1 + 1), μC2, μM2, e1, ?_, _, _, _, tx, len, rf, q1, q2, ?_, pushOk (fun j hj => (hH j hj).mono (by omega)) hs (hO.mono (by omega)), hl, ht⟩
      · rw [f_X7_letter, (hwM μM).1 ⟨k, k1, k2, rfl⟩, bd_some, if_neg (by decide), hM.1 1 (by omega), if_neg (by rw [i40, nI_eq (by omega) (by omega)]; exact hf), e2, bd_some, hMa.1 1 (by omega), i69, nI_add, if_pos (zin_nI (by omega) (by omega)), nI_clamp (by omega), show (si μa 1 (69 + N 1) (nI k)).1 1 1 = nI (N 1) by rw [si_rd, if_neg (by omega)]; exact hMa.1 1 (by omega), nI_1, e3, bd_some, q2.1 1 (by omega), setN_ne _ (by omega), setN_eq]
      · obtain ⟨⟨h1, h2, h3, h4⟩, h5, h6, h7, h8, h9, h10, h11, h12⟩ := hO
        have e : ∀ j, j ≠ 1 → j ≠ 69 + N 1 → setN (setN N 1 (N 1 + 1)) (69 + N 1) k j = N j := fun j a b => by rw [setN_ne _ b, setN_ne _ a]
        refine ⟨⟨by rw [e 0 (by omega) (by omega)]; exact h1, by rw [setN_ne _ (by omega), setN_eq]; omega, by rw [e 2 (by omega) (by omega)]; exact h3, by rw [e 2 (by omega) (by omega)]; exact h4⟩, fun j a b => by rw [e _ (by omega) (by omega)]; exact h5 j a b, fun i hi => by rw [e _ (by omega) (by omega)]; exact h6 i hi, fun i hi => by rw [e _ (by omega) (by omega)]; exact h7 i hi, fun i hi => by rw [e 0 (by omega) (by omega)] at hi; rw [e _ (by omega) (by omega)]; exact h8 i hi, fun i hi => by rw [e _ (by omega) (by omega)]; have := h9 i hi; omega, fun i hi => ?_, fun i hi => ?_, fun p a b => by rw [e _ (by omega) (by omega)]; exact h12 p a b⟩
        · by_cases c : 69 + i = 69 + N 1
          · rw [c, setN_eq]; exact k2
          · rw [e _ (by omega) c]; exact h10 i hi
        · rw [setN_ne _ (by omega), setN_eq] at hi
          by_cases c : 69 + i = 69 + N 1
          · rw [c, setN_eq]; exact k1
          · rw [e _ (by omega) c]; exact h11 i (by omega)
  · refine up (-2) 0 (by decide) ?_ ?_
    · have hop : OpC (f_X4_addLetter a) N (-2) N := fun μ hs => ⟨μ, by rw [f_X4_addLetter, (hwC μ).2 q, bd_some, if_pos rfl], hs, fun _ _ => rfl⟩
      exact (scC hop hC).2 (Or.inl rfl) rfl
    · rw [f_X7_letter, (hwM μM).2 q, bd_some, if_pos rfl, bd_id]
      exact badM hM
theorem Ok_line0 {B : Nat} {N : Nat → Nat} (h : Ok B N) : Ok B (setN N 1 0) := by
  obtain ⟨⟨h1, h2, h3, h4⟩, h5, h6, h7, h8, h9, h10, h11, h12⟩ := h
  refine ⟨⟨by rw [setN_ne _ (by omega)]; exact h1, by rw [setN_eq]; omega, by rw [setN_ne _ (by omega)]; exact h3, by rw [setN_ne _ (by omega)]; exact h4⟩, fun j a b => by rw [setN_ne _ (by omega)]; exact h5 j a b, fun i hi => by rw [setN_ne _ (by omega)]; exact h6 i hi, fun i hi => by rw [setN_ne _ (by omega)]; exact h7 i hi, fun i hi => by rw [setN_ne _ (by omega)] at hi; rw [setN_ne _ (by omega)]; exact h8 i hi, fun i hi => by rw [setN_ne _ (by omega)]; exact h9 i hi, fun i hi => by rw [setN_ne _ (by omega)]; exact h10 i hi, fun i hi => by rw [setN_eq] at hi; omega, fun p a b => by rw [setN_ne _ (by omega)]; exact h12 p a b⟩
theorem st_wipes (n : Nat) : Sp Inv n f_X6_wipes f_X7_wipes := by
  intro μC μM hI
  obtain ⟨N, hist, st, tx, len, rf, hC, hM, hO, hH, hl, ht⟩ := hI
  have hs : st ≤ 5 := hM.2.1
  have h40 : N 1 ≤ 40 := hO.1.2.1
  have hop : OpC f_X4_wipeLine N (nI (N 1)) (setN N 1 0) := fun μ hs => ⟨si μ 1 9 (nI 0), by rw [f_X4_wipeLine, hs.lnz, iz0], SRs_lnz hs 0, fun b hb => si_ne1 (by omega)⟩
  obtain ⟨μC2, e1, q1⟩ := (scC hop hC).1 ⟨N 1, by omega, rfl⟩
  obtain ⟨μa, e2, hMa, ha, -⟩ := asideM hM
  have hMb : RM (setN N 1 0) hist st tx len rf (si μa 1 1 (nI 0)) := by
    obtain ⟨h1, h2, h3, h4, h5, h6, h7⟩ := hMa
    exact ⟨MR_set h1 1 0, h2, by rw [si_ne1 (by omega)]; exact h3, fun j hj k hk => by rw [si_ne1 (by omega)]; exact h4 j hj k hk, by rw [si_ne1 (by omega)]; exact h5, fun i hi => by rw [si_ne1 (by omega)]; exact h6 i hi, fun k hk => by rw [si_ne1 (by omega)]; exact h7 k hk⟩
  obtain ⟨μM2, e3, q2⟩ := leavesM hMb (N0 := N) (fun k hk => by rw [si_ne1 (by omega)]; exact ha k hk)
  refine ⟨nI (N 1), μC2, μM2, e1, ?_, _, _, _, tx, len, rf, q1, q2, (Ok_line0 hO).mono (by omega), pushOk (fun j hj => (hH j hj).mono (by omega)) hs (hO.mono (by omega)), hl, ht⟩
  rw [f_X7_wipes, e2, bd_some, iz0, e3, bd_some, hMa.1 1 (by omega)]
theorem lpM_back : ∀ (f i s : Nat) (μ : Mm) (k : Mm → Option (Int32 × Mm)), i ≤ 148 → 149 ≤ f + i → s ≤ 4 → μ.1 0 3 = nI s → ∃ μ2 : Mm, lp_X7_back_24 f (nI i) μ k = k μ2 ∧ (∀ a, a ≠ 1 → μ2.1 a = μ.1 a) ∧ (∀ j, j < i → μ2.1 1 j = μ.1 1 j) ∧ (∀ j, i ≤ j → j < 148 → μ2.1 1 j = μ.1 3 (148 * s + j)) := by
  intro f
  induction f with
  | zero => intro i s μ k h1 h2; omega
  | succ f ih =>
    intro i s μ k h1 h2 hs hm
    rw [lp_X7_back_24]
    by_cases hi : 148 ≤ i
    · rw [i148, if_pos ((nI_leI (by omega) (by omega)).mpr hi)]
      exact ⟨μ, rfl, fun _ _ => rfl, fun _ _ => rfl, fun j a b => by omega⟩
    · rw [i148, if_neg (fun q => hi ((nI_leI (by omega) (by omega)).mp q)), hm, pk_mul, nI_add, if_pos (zin_nI (by omega) (by omega)), if_pos (zin_nI (by omega) (by omega)), nI_clamp (by omega), nI_clamp (by omega), nI_1]
      obtain ⟨μ2, e1, e3, e4, e5⟩ := ih (i + 1) s (si μ 1 i (μ.1 3 (148 * s + i))) k (by omega) (by omega) hs (by rw [si_ne1 (by omega)]; exact hm)
      refine ⟨μ2, e1, fun a ha => ?_, fun j hj => ?_, fun j hj hj2 => ?_⟩
      · rw [e3 a ha]
        exact si_ne1 ha
      · rw [e4 j (by omega), si_rd, if_neg (by omega)]
      · by_cases hji : j = i
        · subst hji
          rw [e4 _ (by omega), si_rd, if_pos ⟨rfl, rfl⟩]
        · rw [e5 j (by omega) hj2]
          rw [si_rd, if_neg (by omega)]
theorem st_back (n : Nat) : Sp Inv n f_X6_back f_X7_back := by
  intro μC μM hI
  obtain ⟨N, hist, st, tx, len, rf, hC, hM, hO, hH, hl, ht⟩ := hI
  have hM0 := hM
  have hC0 := hC
  obtain ⟨g, g1, g2, g3, g4, g5, g6, g7, g8, g9⟩ := hC
  obtain ⟨h1, h2, h3, h4, h5, h6, h7⟩ := hM
  by_cases h0 : st = 0
  · subst h0
    refine both_ref hC0 hM0 hO hH hl ht (-3) 1 (by decide) ?_ ?_
    · rw [f_X6_back, g5, if_pos (by decide +kernel), bd_id]
    · rw [f_X7_back, h3, if_pos (by decide +kernel), bd_id]
      exact noM hM0
  · have es : nI st - 1 = nI (st - 1) := by rw [i1]; exact pk_sub (by omega)
    have eC : ∃ μC2, f_X6_back μC = some (nI (st - 1), μC2) ∧ RC (hist (st - 1)) hist (st - 1) tx len rf μC2 := by
      have key : ∀ g2 : Nat, g2 < 6 → g2 = (g + 5) % 6 → ∃ μC2, (bd (f_X3_restoreStaged (si (si μC 22 2 (nI (st - 1))) 22 1 (nI g2))) fun _ μ4 => some ((), μ4)) = some ((), μC2) ∧ μC2.1 22 2 = nI (st - 1) ∧ RC (hist (st - 1)) hist (st - 1) tx len rf μC2 := by
        intro g2 hg2 hm
        have fr : ∀ a, a ≠ 22 → (si (si μC 22 2 (nI (st - 1))) 22 1 (nI g2)).1 a = μC.1 a := fun a ha => by rw [si_ne1 ha, si_ne1 ha]
        have r1 : (si (si μC 22 2 (nI (st - 1))) 22 1 (nI g2)).1 22 1 = nI g2 := by rw [si_rd, if_pos ⟨rfl, rfl⟩]
        have r2 : (si (si μC 22 2 (nI (st - 1))) 22 1 (nI g2)).1 22 2 = nI (st - 1) := by rw [si_rd, if_neg (by omega), si_rd, if_pos ⟨rfl, rfl⟩]
        have hh := (g6 (st - 1) (by omega)).frame (μ2 := si (si μC 22 2 (nI (st - 1))) 22 1 (nI g2)) (fun a ha _ => fr a (by omega))
        rw [show (g + 6 - st + (st - 1)) % 6 = g2 by omega] at hh
        generalize si (si μC 22 2 (nI (st - 1))) 22 1 (nI g2) = μa at fr r1 r2 hh
        have f2 : ∀ c, 9 < c → (cpS μa 1 (24 + 9 * g2)).1 c = μa.1 c := fun c hc => cpS_frame (by omega)
        refine ⟨cpS μa 1 (24 + 9 * g2), ?_, by rw [f2 22 (by omega)]; exact r2, g2, hg2, by omega, cpS_SR hh (by omega), by rw [f2 22 (by omega)]; exact r1, by rw [f2 22 (by omega)]; exact r2, fun j hj => ?_, by rw [f2 78 (by omega), fr 78 (by omega)]; exact g7, fun i hi => by rw [f2 79 (by omega), fr 79 (by omega)]; exact g8 i hi, fun k hk => by rw [f2 82 (by omega), fr 82 (by omega)]; exact g9 k hk⟩
        · rw [f_X3_restoreStaged, r1, if_pos (zin_nI hg2 (by omega)), nI_clamp (by omega), bd_some]
        · rw [show (g2 + 6 - (st - 1) + j) % 6 = (g + 6 - st + j) % 6 by omega]
          exact (g6 j (by omega)).frame (fun a ha _ => by rw [f2 a (by omega), fr a (by omega)])
      rw [f_X6_back, g5, if_neg (by rw [iz0, nI_eq (by omega) (by omega)]; exact h0), f_X3_restoreLast, g4, g5, if_neg (by rw [le0_iff (by omega)]; exact h0), es]
      by_cases hg : g = 0
      · rw [if_pos ((le0_iff (by omega)).mpr hg), show (6 : Int32) - 1 = nI 5 by decide +kernel]
        obtain ⟨μ2, e, a, b⟩ := key 5 (by omega) (by omega)
        rw [e, bd_some, a]
        exact ⟨_, rfl, b⟩
      · rw [if_neg (by rw [le0_iff (by omega)]; exact hg), show nI g - 1 = nI (g - 1) by rw [i1]; exact pk_sub (by omega)]
        obtain ⟨μ2, e, a, b⟩ := key (g - 1) (by omega) (by omega)
        rw [e, bd_some, a]
        exact ⟨_, rfl, b⟩
    have eM : ∃ μM2, f_X7_back μM = some (nI (st - 1), μM2) ∧ RM (hist (st - 1)) hist (st - 1) tx len rf μM2 := by
      rw [f_X7_back, h3, if_neg (by rw [iz0, nI_eq (by omega) (by omega)]; exact h0), es]
      obtain ⟨μ2, e, a1, a2, a3⟩ := lpM_back FU 0 (st - 1) (si μM 0 3 (nI (st - 1))) (fun μ3 => some (μ3.1 0 3, μ3)) (by omega) (by decide) (by omega) (by rw [si_rd, if_pos ⟨rfl, rfl⟩])
      rw [← iz0] at e
      rw [e, a1 0 (by omega), si_rd, if_pos ⟨rfl, rfl⟩]
      have fr : ∀ a, a ≠ 0 → a ≠ 1 → μ2.1 a = μM.1 a := fun a x y => by rw [a1 a y, si_ne1 x]
      exact ⟨_, rfl, fun k hk => by rw [a3 k (by omega) hk, si_ne1 (by omega)]; exact h4 (st - 1) (by omega) k hk, by omega, by rw [a1 0 (by omega), si_rd, if_pos ⟨rfl, rfl⟩], fun j hj k hk => by rw [fr 3 (by omega) (by omega)]; exact h4 j (by omega) k hk, by rw [a1 0 (by omega), si_rd, if_neg (by omega)]; exact h5, fun i hi => by rw [fr 5 (by omega) (by omega)]; exact h6 i hi, fun k hk => by rw [fr 4 (by omega) (by omega)]; exact h7 k hk⟩
    obtain ⟨μC2, e1, q1⟩ := eC
    obtain ⟨μM2, e2, q2⟩ := eM
    exact ⟨_, μC2, μM2, e1, e2, _, _, _, _, _, _, q1, q2, (hH (st - 1) (by omega)).mono (by omega), fun j hj => (hH j (by omega)).mono (by omega), hl, ht⟩
