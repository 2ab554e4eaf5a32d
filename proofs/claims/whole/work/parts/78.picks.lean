theorem st_row (n : Nat) (hn : n < 512) (a : Int64) (w : Int32) : Sp Inv n (f_X6_row a w) (f_X7_row a w) := by
  intro μC μM hI
  obtain ⟨N, hist, st, tx, len, rf, hC, hM, hO, hH, hl, ht⟩ := hI
  have bad : (f_X6_row a w μC = bd (f_X6_refusal (-2) μC) fun r4 μ5 => some (r4, μ5)) → (f_X7_row a w μM = bd (f_X7_bad μM) fun r4 μ5 => some (r4, μ5)) → ∃ r μC2 μM2, f_X6_row a w μC = some (r, μC2) ∧ f_X7_row a w μM = some (r, μM2) ∧ Inv (n + 1) μC2 μM2 := by
    intro h1 h2
    obtain ⟨μC3, μM3, e1, e2, e3⟩ := refBoth hC hM hO hH hl ht (-2) (bad_k hM)
    exact ⟨-2, μC3, μM3, by rw [h1, e1, bd_some], by rw [h2, e2, bd_some], e3⟩
  by_cases q0 : a < 0
  · exact bad (by rw [f_X6_row, if_pos q0]) (by rw [f_X7_row, if_pos q0])
  · by_cases q1 : (-1 : Int32) ≤ w
    · obtain ⟨l, hl63, rfl⟩ := pk_lOf q0
      have hok : okm none := fun z h => by cases h
      have c := countMadeC hO (by omega) hok hC.sr
      have wy := waysM hO (by omega) (cut := false) hok hM.1
      by_cases qa : AllLe N false none
      · obtain ⟨μC2, c1, c2, c3, c4, c5, c6⟩ := c.1 qa
        obtain ⟨w0, μM2, w1, w2, w3, w4, -⟩ := wy.1 qa
        have w1 : f_X7_waysOr 0 (-1) μM = some (lN (cnt0 N false none), μM2) := w1
        have c1 : f_X6_countMade (-1) μC = some (lN (cnt0 N false none), μC2) := c1
        have hlt : lN l < lN (cnt0 N false none) ↔ l < cnt0 N false none := pk_lLT hl63 (by unfold MX at w0; omega)
        by_cases ql : l < cnt0 N false none
        · obtain ⟨μC3, μM3, k, r1, r2, r3, r4, r5, r6, r7, r8⟩ := rowBoth hO (by omega) hok qa ql c3 c4 c5 c6 (fun k hk => by rw [w3.1 1 (by omega)]; exact hM.1 k hk) w2 w4
          have r2 : f_X7_goes (lN l) (-1) μM2 = some ((), μM3) := r2
          obtain ⟨r, s1, s2⟩ := partBoth r3 r4 r5 r6 w q1
          refine ⟨r, μC3, μM3, ?_, ?_, N, hist, st, tx, len, rf, hC.fr (c2.trans r7), hM.fr (w3.r.trans r8), hO.mono (by omega), fun j hj => (hH j hj).mono (by omega), hl, ht⟩
          · rw [f_X6_row, if_neg q0, if_pos q1, c1, bd_some, if_pos (lN_nn w0), if_pos (hlt.mpr ql), r1, bd_some, s1, bd_some]
          · rw [f_X7_row, if_neg q0, if_pos q1, w1, bd_some, if_neg (lN_n5 w0), if_pos (hlt.mpr ql), r2, bd_some, s2, bd_some]
        · obtain ⟨μC3, μM3, g1, g2, g3⟩ := refBoth (hC.fr c2) (hM.fr w3.r) hO hH hl ht (-3) (no_k (hM.fr w3.r))
          refine ⟨-3, μC3, μM3, ?_, ?_, g3⟩
          · rw [f_X6_row, if_neg q0, if_pos q1, c1, bd_some, if_pos (lN_nn w0), if_neg (fun z => ql (hlt.mp z)), g1, bd_some]
          · rw [f_X7_row, if_neg q0, if_pos q1, w1, bd_some, if_neg (lN_n5 w0), if_neg (fun z => ql (hlt.mp z)), g2, bd_some]
      · obtain ⟨μC2, c1, c2⟩ := c.2 qa
        obtain ⟨μM2, w1, w3⟩ := wy.2 qa
        have w1 : f_X7_waysOr 0 (-1) μM = some (-5, μM2) := w1
        have c1 : f_X6_countMade (-1) μC = some (-5, μC2) := c1
        obtain ⟨μC3, μM3, g1, g2, g3⟩ := refBoth (hC.fr c2) (hM.fr w3.r) hO hH hl ht (-5) (much_k (hM.fr w3.r))
        refine ⟨-5, μC3, μM3, ?_, ?_, g3⟩
        · rw [f_X6_row, if_neg q0, if_pos q1, c1, bd_some, if_neg (by decide), g1, bd_some]
        · rw [f_X7_row, if_neg q0, if_pos q1, w1, bd_some, if_pos rfl, g2, bd_some]
    · exact bad (by rw [f_X6_row, if_neg q0, if_neg q1]) (by rw [f_X7_row, if_neg q0, if_neg q1])
theorem seedE {k c : Nat} (hk : k ≤ 999999) (h0 : 0 < c) (hc : c ≤ MX) : (((((nI k).toInt64 * (1103515245 : Int64)) + (12345 : Int64)) - (((nI k).toInt64 * (1103515245 : Int64)) + (12345 : Int64)) / (2147483648 : Int64) * (2147483648 : Int64)) - ((((nI k).toInt64 * (1103515245 : Int64)) + (12345 : Int64)) - (((nI k).toInt64 * (1103515245 : Int64)) + (12345 : Int64)) / (2147483648 : Int64) * (2147483648 : Int64)) / lN c * lN c) = lN ((k * 1103515245 + 12345) % 2147483648 % c) := by
  rw [nI_l (by omega), show (1103515245 : Int64) = lN 1103515245 by decide +kernel, show (12345 : Int64) = lN 12345 by decide +kernel, show (2147483648 : Int64) = lN 2147483648 by decide +kernel, lN_mul, lN_add, pk_lRem (by omega) (by omega) (by omega), pk_lRem (by omega) h0 (by unfold MX at hc; omega)]
theorem st_picks (n : Nat) (hn : n < 512) (a b w : Int32) : Sp Inv n (f_X6_picks a b w) (f_X7_picks a b w) := by
  intro μC μM hI
  obtain ⟨N, hist, st, tx, len, rf, hC, hM, hO, hH, hl, ht⟩ := hI
  have bad : (f_X6_picks a b w μC = bd (f_X6_refusal (-2) μC) fun r4 μ5 => some (r4, μ5)) → (f_X7_picks a b w μM = bd (f_X7_bad μM) fun r4 μ5 => some (r4, μ5)) → ∃ r μC2 μM2, f_X6_picks a b w μC = some (r, μC2) ∧ f_X7_picks a b w μM = some (r, μM2) ∧ Inv (n + 1) μC2 μM2 := by
    intro h1 h2
    obtain ⟨μC3, μM3, e1, e2, e3⟩ := refBoth hC hM hO hH hl ht (-2) (bad_k hM)
    exact ⟨-2, μC3, μM3, by rw [h1, e1, bd_some], by rw [h2, e2, bd_some], e3⟩
  have wm := wM b 0 999999 (by omega) (by omega) 0 999999 (by decide +kernel) (by decide +kernel) μM
  have wc := wC b 0 999999 (by omega) (by omega) 0 999999 (by decide +kernel) (by decide +kernel) μC
  by_cases q : rng a 0 2
  · have e1 := (i_maker μC).1 q
    have e2 := (j_maker μM).1 q
    obtain ⟨m, -, hm, rfl⟩ := q
    by_cases qb : rng b 0 999999
    · have e3 := wc.1 qb
      have e4 := wm.1 qb
      obtain ⟨k, -, hk, rfl⟩ := qb
      by_cases q1 : (-1 : Int32) ≤ w
      · have hok : okm (some m) := okm_some (by omega)
        have c := countMadeC hO (by omega) hok hC.sr
        have wy := waysM hO (by omega) (cut := false) hok hM.1
        by_cases qa : AllLe N false (some m)
        · obtain ⟨μC2, c1, c2, c3, c4, c5, c6⟩ := c.1 qa
          obtain ⟨w0, μM2, w1, w2, w3, w4, -⟩ := wy.1 qa
          have w1 : f_X7_waysOr 0 (nI m) μM = some (lN (cnt0 N false (some m)), μM2) := w1
          have c1 : f_X6_countMade (nI m) μC = some (lN (cnt0 N false (some m)), μC2) := c1
          have h0 : lN (cnt0 N false (some m)) = 0 ↔ cnt0 N false (some m) = 0 := by
            rw [l0]; exact pk_lEQ (by unfold MX at w0; omega) (by omega)
          by_cases qz : cnt0 N false (some m) = 0
          · obtain ⟨μC3, μM3, g1, g2, g3⟩ := refBoth (hC.fr c2) (hM.fr w3.r) hO hH hl ht (-3) (no_k (hM.fr w3.r))
            refine ⟨-3, μC3, μM3, ?_, ?_, g3⟩
            · rw [f_X6_picks, e1, bd_some, if_neg (by decide), e3, bd_some, if_neg (by decide), if_pos q1, c1, bd_some, if_pos (lN_nn w0), if_pos (h0.mpr qz), g1, bd_some]
            · rw [f_X7_picks, e2, bd_some, if_neg (by decide), e4, bd_some, if_neg (by decide), if_pos q1, w1, bd_some, if_neg (lN_n5 w0), if_pos (h0.mpr qz), g2, bd_some]
          · have hlt : (k * 1103515245 + 12345) % 2147483648 % cnt0 N false (some m) < cnt0 N false (some m) := Nat.mod_lt _ (by omega)
            obtain ⟨μC3, μM3, z, r1, r2, r3, r4, r5, r6, r7, r8⟩ := rowBoth hO (by omega) hok qa hlt c3 c4 c5 c6 (fun k hk => by rw [w3.1 1 (by omega)]; exact hM.1 k hk) w2 w4
            have r2 : f_X7_goes (lN ((k * 1103515245 + 12345) % 2147483648 % cnt0 N false (some m))) (nI m) μM2 = some ((), μM3) := r2
            rw [← seedE hk (by omega) w0] at r1 r2
            obtain ⟨r, s1, s2⟩ := partBoth r3 r4 r5 r6 w q1
            refine ⟨r, μC3, μM3, ?_, ?_, N, hist, st, tx, len, rf, hC.fr (c2.trans r7), hM.fr (w3.r.trans r8), hO.mono (by omega), fun j hj => (hH j hj).mono (by omega), hl, ht⟩
            · rw [f_X6_picks, e1, bd_some, if_neg (by decide), e3, bd_some, if_neg (by decide), if_pos q1, c1, bd_some, if_pos (lN_nn w0), if_neg (fun z => qz (h0.mp z)), if_pos (fun z => qz (h0.mp z)), r1, bd_some, s1, bd_some]
            · rw [f_X7_picks, e2, bd_some, if_neg (by decide), e4, bd_some, if_neg (by decide), if_pos q1, w1, bd_some, if_neg (lN_n5 w0), if_neg (fun z => qz (h0.mp z)), if_pos (fun z => qz (h0.mp z)), r2, bd_some, s2, bd_some]
        · obtain ⟨μC2, c1, c2⟩ := c.2 qa
          obtain ⟨μM2, w1, w3⟩ := wy.2 qa
          have w1 : f_X7_waysOr 0 (nI m) μM = some (-5, μM2) := w1
          have c1 : f_X6_countMade (nI m) μC = some (-5, μC2) := c1
          obtain ⟨μC3, μM3, g1, g2, g3⟩ := refBoth (hC.fr c2) (hM.fr w3.r) hO hH hl ht (-5) (much_k (hM.fr w3.r))
          refine ⟨-5, μC3, μM3, ?_, ?_, g3⟩
          · rw [f_X6_picks, e1, bd_some, if_neg (by decide), e3, bd_some, if_neg (by decide), if_pos q1, c1, bd_some, if_neg (by decide), g1, bd_some]
          · rw [f_X7_picks, e2, bd_some, if_neg (by decide), e4, bd_some, if_neg (by decide), if_pos q1, w1, bd_some, if_pos rfl, g2, bd_some]
      · exact bad (by rw [f_X6_picks, e1, bd_some, if_neg (by decide), e3, bd_some, if_neg (by decide), if_neg q1]) (by rw [f_X7_picks, e2, bd_some, if_neg (by decide), e4, bd_some, if_neg (by decide), if_neg q1])
    · exact bad (by rw [f_X6_picks, e1, bd_some, if_neg (by decide), wc.2 qb, bd_some, if_pos rfl]) (by rw [f_X7_picks, e2, bd_some, if_neg (by decide), wm.2 qb, bd_some, if_pos rfl])
  · exact bad (by rw [f_X6_picks, (i_maker μC).2 q, bd_some, if_pos rfl]) (by rw [f_X7_picks, (j_maker μM).2 q, bd_some, if_pos rfl])
