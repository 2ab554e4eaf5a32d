theorem habC {N : Nat → Nat} {μ : Mm} (hs : SR μ 1 N) {m i : Nat} (hm : m < 3) (hi : i < 12) : f_X4_habitOf (nI m) (nI i) μ = some (nI (N (33 + 12 * m + i)), μ) := by
  rw [f_X4_habitOf, i12, pk_mul, nI_add, if_neg (nI_pos (by omega)), i36, if_neg (by rw [nI_leI (by omega) (by omega)]; omega), if_pos (zin_nI (by omega) (by omega)), nI_clamp (by omega), hs.hab (by omega), show 33 + (m * 12 + i) = 33 + 12 * m + i by omega]
theorem habM {N : Nat → Nat} {μ : Mm} (hs : MR μ N) {m i : Nat} (hm : m < 3) (hi : i < 12) : f_X7_habitOf (nI m) (nI i) μ = some (nI (N (33 + 12 * m + i)), μ) := by
  rw [f_X7_habitOf, i33, i12, pk_mul, nI_add, nI_add, if_pos (zin_nI (by omega) (by omega)), nI_clamp (by omega), hs _ (by omega)]
/-- what of() tells -/
def ofN (N : Nat → Nat) (i w : Nat) : Nat := if w = 0 then N (9 + i) else if w = 1 then szD (N (21 + i)) else if w = 2 then moD (N (21 + i)) else if w = 3 then N (21 + i) else N (33 + 12 * (w - 4) + i)
theorem ofC {N : Nat → Nat} {μ : Mm} (hs : SR μ 1 N) {i w : Nat} (hi : i < 12) (hw : w ≤ 6) : f_X4_factOf (nI i) (nI w) μ = some (nI (ofN N i w), μ) := by
  have z : zin (nI i) 12 = true := zin_nI hi (by omega)
  rw [f_X4_factOf, if_pos z, if_pos z, if_pos z, if_pos z, nI_clamp (by omega)]
  have a1 : μ.1 2 i = nI (N (9 + i)) := hs.slo hi
  have a2 : μ.1 3 i = nI (N (21 + i)) := hs.cod hi
  have a3 : μ.1 4 i = nI (szD (N (21 + i))) := hs.siz hi
  have a4 : μ.1 5 i = nI (moD (N (21 + i))) := hs.mor hi
  rw [a1, a2, a3, a4]
  unfold ofN
  rcases (show w = 0 ∨ w = 1 ∨ w = 2 ∨ w = 3 ∨ 4 ≤ w by omega) with rfl | rfl | rfl | rfl | h4
  · rw [if_pos (by decide +kernel), if_pos rfl]
  · rw [if_neg (by decide +kernel), if_pos (by decide +kernel), if_neg (by omega), if_pos rfl]
  · rw [if_neg (by decide +kernel), if_neg (by decide +kernel), if_pos (by decide +kernel), if_neg (by omega), if_neg (by omega), if_pos rfl]
  · rw [if_neg (by decide +kernel), if_neg (by decide +kernel), if_neg (by decide +kernel), if_pos (by decide +kernel), if_neg (by omega), if_neg (by omega), if_neg (by omega), if_pos rfl]
  · rw [if_neg (by rw [iz0, nI_eq (by omega) (by omega)]; omega), if_neg (by rw [i1, nI_eq (by omega) (by omega)]; omega), if_neg (by rw [i2, nI_eq (by omega) (by omega)]; omega), if_neg (by rw [i3, nI_eq (by omega) (by omega)]; omega), if_neg (by omega), if_neg (by omega), if_neg (by omega), if_neg (by omega), i4, pk_sub h4, habC hs (by omega) hi, bd_some]
theorem ofM {B : Nat} {N : Nat → Nat} (hO : Ok B N) (hB : B < 2 ^ 31) {μ : Mm} (hs : MR μ N) {i w : Nat} (hi : i < 12) (hw : w ≤ 6) : f_X7_tellPhrase (nI i) (nI w) μ = some (nI (ofN N i w), μ) := by
  have hN := nlt hO hB (21 + i) (by omega)
  rw [f_X7_tellPhrase, i9, i21, nI_add, nI_add, if_pos (zin_nI (by omega) (by omega)), if_pos (zin_nI (by omega) (by omega)), if_pos (zin_nI (by omega) (by omega)), if_pos (zin_nI (by omega) (by omega)), nI_clamp (by omega), nI_clamp (by omega), hs _ (by omega), hs _ (by omega), sizeM hN, moraeM hN, bd_some, bd_some]
  unfold ofN
  rcases (show w = 0 ∨ w = 1 ∨ w = 2 ∨ w = 3 ∨ 4 ≤ w by omega) with rfl | rfl | rfl | rfl | h4
  · rw [if_pos (by decide +kernel), if_pos rfl]
  · rw [if_neg (by decide +kernel), if_pos (by decide +kernel), if_neg (by omega), if_pos rfl]
  · rw [if_neg (by decide +kernel), if_neg (by decide +kernel), if_pos (by decide +kernel), if_neg (by omega), if_neg (by omega), if_pos rfl]
  · rw [if_neg (by decide +kernel), if_neg (by decide +kernel), if_neg (by decide +kernel), if_pos (by decide +kernel), if_neg (by omega), if_neg (by omega), if_neg (by omega), if_pos rfl]
  · rw [if_neg (by rw [iz0, nI_eq (by omega) (by omega)]; omega), if_neg (by rw [i1, nI_eq (by omega) (by omega)]; omega), if_neg (by rw [i2, nI_eq (by omega) (by omega)]; omega), if_neg (by rw [i3, nI_eq (by omega) (by omega)]; omega), if_neg (by omega), if_neg (by omega), if_neg (by omega), if_neg (by omega), i4, pk_sub h4, habM hs (by omega) hi, bd_some]
theorem st_of (n : Nat) (hn : n < 512) (a w : Int32) : Sp Inv n (f_X6_of a w) (f_X7_of a w) := by
  intro μC μM hI
  have hI2 := hI.up
  obtain ⟨N, hist, st, tx, len, rf, hC, hM, hO, hH, hl, ht⟩ := hI
  have h12 : N 0 ≤ 12 := hO.1.1
  by_cases q : ∃ k, k < N 0 ∧ a = nI k
  · have hp := (isPh h12 a).1 q
    have wM' := wM w 0 6 (by omega) (by omega) 0 6 (by decide +kernel) (by decide +kernel) μM
    have wC' := wC w 0 6 (by omega) (by omega) 0 6 (by decide +kernel) (by decide +kernel) μC
    obtain ⟨i, hi, rfl⟩ := q
    by_cases qw : rng w 0 6
    · have e1 := wM'.1 qw
      have e2 := wC'.1 qw
      obtain ⟨v, -, hv, rfl⟩ := qw
      refine ⟨nI (ofN N i v), μC, μM, ?_, ?_, hI2⟩
      · rw [f_X6_of, hp.1 μC hC.sr, bd_some, if_neg (by decide), e2, bd_some, if_neg (by decide), ofC hC.sr (by omega) hv, bd_some]
      · rw [f_X7_of, hp.2 μM hM.1, bd_some, if_neg (by decide), e1, bd_some, if_neg (by decide), ofM hO (by omega) hM.1 (by omega) hv, bd_some]
    · refine both_ref hC hM hO hH hl ht (-2) 0 (by decide) ?_ ?_
      · rw [f_X6_of, hp.1 μC hC.sr, bd_some, if_neg (by decide), wC'.2 qw, bd_some, if_pos rfl, bd_id]
      · rw [f_X7_of, hp.2 μM hM.1, bd_some, if_neg (by decide), wM'.2 qw, bd_some, if_pos rfl, bd_id]
        exact badM hM
  · have hp := (isPh h12 a).2 q
    refine both_ref hC hM hO hH hl ht (-2) 0 (by decide) ?_ ?_
    · rw [f_X6_of, hp.1 μC hC.sr, bd_some, if_pos rfl, bd_id]
    · rw [f_X7_of, hp.2 μM hM.1, bd_some, if_pos rfl, bd_id]
      exact badM hM
/-- what told() tells -/
def toldN (N : Nat → Nat) (st len : Nat) (rf : Nat → Int32) (w : Nat) : Int32 := if w < 4 then rf w else if w = 4 then nI len else if w < 8 then nI (N (w - 5)) else if w = 14 then nI st else nI (N (w - 5))
theorem toldC {N : Nat → Nat} {hist : Nat → Nat → Nat} {st : Nat} {tx : Nat → Nat} {len : Nat} {rf : Nat → Int32} {μ : Mm} (h : RC N hist st tx len rf μ) {w : Nat} (hw : w ≤ 14) : f_X6_factTold (nI w) μ = some (toldN N st len rf w, μ) := by
  obtain ⟨g, g1, g2, g3, g4, g5, g6, g7, g8, g9⟩ := h
  have hc := wC (nI w) 0 3 (by omega) (by omega) 0 ((4 : Int32) - (1 : Int32)) (by decide +kernel) (by decide +kernel) μ
  unfold toldN
  by_cases h4 : w < 4
  · rw [if_pos h4, f_X6_factTold, hc.1 ⟨w, by omega, by omega, rfl⟩, bd_some, if_neg (by decide), if_pos (zin_nI h4 (by omega)), nI_clamp (by omega), g9 w h4]
  · rw [if_neg h4, f_X6_factTold, hc.2 (by rintro ⟨k, k1, k2, k3⟩; rw [nI_eq (by omega) (by omega)] at k3; omega), bd_some, if_pos rfl, g7, g3.cnt, g3.lnz, g3.met, g3.beg, g3.ens, g5]
    rcases (show w = 4 ∨ w = 5 ∨ w = 6 ∨ w = 7 ∨ w = 8 ∨ w = 9 ∨ w = 10 ∨ w = 11 ∨ w = 12 ∨ w = 13 ∨ w = 14 by omega) with rfl | rfl | rfl | rfl | rfl | rfl | rfl | rfl | rfl | rfl | rfl
    · rfl
    · rfl
    · rfl
    · rfl
    · rfl
    · rfl
    · have e : μ.1 9 0 = nI (N 5) := g3.fol (i := 0) (by omega)
      rw [if_neg (by decide +kernel), if_neg (by decide +kernel), if_neg (by decide +kernel), if_neg (by decide +kernel), if_neg (by decide +kernel), if_neg (by decide +kernel), if_neg (by decide +kernel), f_X4_setAfter, if_neg (by decide +kernel), if_neg (by decide +kernel), if_neg (by decide +kernel), if_pos (by decide +kernel), show (nI 10 - (10 : Int32)).toNatClampNeg = 0 by decide +kernel, e]
      rfl
    · have e : μ.1 9 1 = nI (N 6) := g3.fol (i := 1) (by omega)
      rw [if_neg (by decide +kernel), if_neg (by decide +kernel), if_neg (by decide +kernel), if_neg (by decide +kernel), if_neg (by decide +kernel), if_neg (by decide +kernel), if_neg (by decide +kernel), f_X4_setAfter, if_neg (by decide +kernel), if_neg (by decide +kernel), if_neg (by decide +kernel), if_pos (by decide +kernel), show (nI 11 - (10 : Int32)).toNatClampNeg = 1 by decide +kernel, e]
      rfl
    · have e : μ.1 9 2 = nI (N 7) := g3.fol (i := 2) (by omega)
      rw [if_neg (by decide +kernel), if_neg (by decide +kernel), if_neg (by decide +kernel), if_neg (by decide +kernel), if_neg (by decide +kernel), if_neg (by decide +kernel), if_neg (by decide +kernel), f_X4_setAfter, if_neg (by decide +kernel), if_neg (by decide +kernel), if_neg (by decide +kernel), if_pos (by decide +kernel), show (nI 12 - (10 : Int32)).toNatClampNeg = 2 by decide +kernel, e]
      rfl
    · have e : μ.1 9 3 = nI (N 8) := g3.fol (i := 3) (by omega)
      rw [if_neg (by decide +kernel), if_neg (by decide +kernel), if_neg (by decide +kernel), if_neg (by decide +kernel), if_neg (by decide +kernel), if_neg (by decide +kernel), if_neg (by decide +kernel), f_X4_setAfter, if_neg (by decide +kernel), if_neg (by decide +kernel), if_neg (by decide +kernel), if_pos (by decide +kernel), show (nI 13 - (10 : Int32)).toNatClampNeg = 3 by decide +kernel, e]
      rfl
    · rfl
theorem toldM {N : Nat → Nat} {hist : Nat → Nat → Nat} {st : Nat} {tx : Nat → Nat} {len : Nat} {rf : Nat → Int32} {μ : Mm} (h : RM N hist st tx len rf μ) {w : Nat} (hw : w ≤ 14) : f_X7_toldOf (nI w) μ = some (toldN N st len rf w, μ) := by
  obtain ⟨h1, h2, h3, h4, h5, h6, h7⟩ := h
  unfold toldN
  by_cases q4 : w < 4
  · rw [if_pos q4, f_X7_toldOf, if_neg (by rw [i4, nI_leI (by omega) (by omega)]; omega), if_pos (zin_nI q4 (by omega)), nI_clamp (by omega), h7 w q4]
  · rw [if_neg q4, f_X7_toldOf, if_pos (by rw [i4]; exact (nI_leI (by omega) (by omega)).mpr (by omega)), h3, h5, h1 0 (by omega), h1 1 (by omega), h1 2 (by omega)]
    by_cases c : 8 ≤ w ∧ w < 14
    · have e : ((3 : Int32) + nI w) - (8 : Int32) = nI (w - 5) := by rw [i3, i8, nI_add, pk_sub (by omega), show 3 + w - 8 = w - 5 by omega]
      rw [if_neg (by rw [i4, nI_eq (by omega) (by omega)]; omega), if_neg (by rw [i5, nI_eq (by omega) (by omega)]; omega), if_neg (by rw [i6, nI_eq (by omega) (by omega)]; omega), if_neg (by rw [i7, nI_eq (by omega) (by omega)]; omega), if_neg (by rw [i14, nI_eq (by omega) (by omega)]; omega), e, if_pos (zin_nI (by omega) (by omega)), nI_clamp (by omega), h1 _ (by omega), if_neg (by omega), if_neg (by omega), if_neg (by omega)]
    · rcases (show w = 4 ∨ w = 5 ∨ w = 6 ∨ w = 7 ∨ w = 14 by omega) with rfl | rfl | rfl | rfl | rfl <;> rfl
theorem st_told (n : Nat) (w : Int32) : Sp Inv n (f_X6_told w) (f_X7_told w) := by
  intro μC μM hI
  have hI2 := hI.up
  obtain ⟨N, hist, st, tx, len, rf, hC, hM, hO, hH, hl, ht⟩ := hI
  have wM' := wM w 0 14 (by omega) (by omega) 0 14 (by decide +kernel) (by decide +kernel) μM
  have wC' := wC w 0 14 (by omega) (by omega) 0 14 (by decide +kernel) (by decide +kernel) μC
  by_cases qw : rng w 0 14
  · have e1 := wM'.1 qw
    have e2 := wC'.1 qw
    obtain ⟨v, -, hv, rfl⟩ := qw
    refine ⟨toldN N st len rf v, μC, μM, ?_, ?_, hI2⟩
    · rw [f_X6_told, e2, bd_some, if_neg (by decide), toldC hC hv, bd_some]
    · rw [f_X7_told, e1, bd_some, if_neg (by decide), toldM hM hv, bd_some]
  · refine both_ref hC hM hO hH hl ht (-2) 0 (by decide) ?_ ?_
    · rw [f_X6_told, wC'.2 qw, bd_some, if_pos rfl, bd_id]
    · rw [f_X7_told, wM'.2 qw, bd_some, if_pos rfl, bd_id]
      exact badM hM
theorem byte_ok : ∀ k, k < 128 → vp_nar .byte (nI k).toInt8.toInt32 = nI k := by
  have h : (List.range 128).all (fun k => decide (vp_nar .byte (nI k).toInt8.toInt32 = nI k)) = true := by decide +kernel
  intro k hk
  exact of_decide_eq_true (List.all_eq_true.mp h k (List.mem_range.mpr hk))
theorem RC_text {N : Nat → Nat} {hist : Nat → Nat → Nat} {st : Nat} {tx : Nat → Nat} {len : Nat} {rf : Nat → Int32} {μ μ2 : Mm} (h : RC N hist st tx len rf μ) {tx2 : Nat → Nat} {len2 : Nat} (hf : ∀ a, a ≠ 78 → a ≠ 79 → μ2.1 a = μ.1 a) (h1 : μ2.1 78 1 = nI len2) (h2 : ∀ i, i < len2 → μ2.1 79 i = nI (tx2 i)) : RC N hist st tx2 len2 rf μ2 := by
  obtain ⟨g, g1, g2, g3, g4, g5, g6, g7, g8, g9⟩ := h
  exact ⟨g, g1, g2, g3.frame (fun a _ ha => hf a (by omega) (by omega)), by rw [hf 22 (by omega) (by omega)]; exact g4, by rw [hf 22 (by omega) (by omega)]; exact g5, fun j hj => (g6 j hj).frame (fun a _ ha => hf a (by omega) (by omega)), h1, h2, fun k hk => by rw [hf 82 (by omega) (by omega)]; exact g9 k hk⟩
theorem RM_text {N : Nat → Nat} {hist : Nat → Nat → Nat} {st : Nat} {tx : Nat → Nat} {len : Nat} {rf : Nat → Int32} {μ μ2 : Mm} (h : RM N hist st tx len rf μ) {tx2 : Nat → Nat} {len2 : Nat} (hf : ∀ a, a ≠ 0 → a ≠ 5 → μ2.1 a = μ.1 a) (h0 : μ2.1 0 3 = μ.1 0 3) (h1 : μ2.1 0 6 = nI len2) (h2 : ∀ i, i < len2 → μ2.1 5 i = nI (tx2 i)) : RM N hist st tx2 len2 rf μ2 := by
  obtain ⟨q1, q2, q3, q4, q5, q6, q7⟩ := h
  exact ⟨fun k hk => by rw [hf 1 (by omega) (by omega)]; exact q1 k hk, q2, by rw [h0]; exact q3, fun j hj k hk => by rw [hf 3 (by omega) (by omega)]; exact q4 j hj k hk, h1, h2, fun k hk => by rw [hf 4 (by omega) (by omega)]; exact q7 k hk⟩
theorem st_type (n : Nat) (a : Int32) : Sp Inv n (f_X6_type a) (f_X7_type a) := by
  intro μC μM hI
  obtain ⟨N, hist, st, tx, len, rf, hC, hM, hO, hH, hl, ht⟩ := hI
  have wM' := wM a 0 127 (by omega) (by omega) 0 127 (by decide +kernel) (by decide +kernel) μM
  have wC' := wC a 0 127 (by omega) (by omega) 0 127 (by decide +kernel) (by decide +kernel) μC
  have eC : μC.1 78 1 = nI len := by obtain ⟨g, g1, g2, g3, g4, g5, g6, g7, g8, g9⟩ := hC; exact g7
  have eB : ∀ i, i < len → μC.1 79 i = nI (tx i) := by obtain ⟨g, g1, g2, g3, g4, g5, g6, g7, g8, g9⟩ := hC; exact g8
  have eM : μM.1 0 6 = nI len := hM.2.2.2.2.1
  by_cases q : rng a 0 127
  · have e1 := wM'.1 q
    have e2 := wC'.1 q
    obtain ⟨k, -, hk, rfl⟩ := q
    by_cases hf : len = 150
    · refine both_ref hC hM hO hH hl ht (-4) 2 (by decide) ?_ ?_
      · rw [f_X6_type, f_X5_addByte, e2, bd_some, if_neg (by decide), eC, if_neg (by rw [hf]; decide +kernel), bd_some, if_neg (by decide +kernel), bd_id]
      · rw [f_X7_type, e1, bd_some, if_neg (by decide), eM, if_pos (by rw [hf]; decide +kernel), bd_id]
        exact fullM hM
    · have z : zin (nI len) 150 = true := zin_nI (by omega) (by omega)
      refine ⟨nI (len + 1), si (si μC 78 1 (nI (len + 1))) 79 len (nI k), si (si μM 5 len (nI k)) 0 6 (nI (len + 1)), ?_, ?_, N, hist, st, setN tx len k, len + 1, rf, RC_text hC (fun b x y => by rw [si_ne1 y, si_ne1 x]) (by rw [si_ne1 (by omega), si_rd, if_pos ⟨rfl, rfl⟩]) (fun i hi => ?_), RM_text hM (fun b x y => by rw [si_ne1 x, si_ne1 y]) (by rw [si_rd, if_neg (by omega), si_ne1 (by omega)]) (by rw [si_rd, if_pos ⟨rfl, rfl⟩]) (fun i hi => ?_), hO.mono (by omega), fun j hj => (hH j hj).mono (by omega), by omega, fun i hi => ?_⟩
      · rw [f_X6_type, f_X5_addByte, e2, bd_some, if_neg (by decide), eC, if_pos (by rw [i150]; exact (nI_ltI (by omega) (by omega)).mpr (by omega)), if_pos z, bd_some, nI_1, if_pos (nI_pos' (by omega)), nI_clamp (by omega), byte_ok k (by omega)]
      · rw [f_X7_type, e1, bd_some, if_neg (by decide), eM, if_neg (by rw [i150, nI_eq (by omega) (by omega)]; exact hf), if_pos z, nI_1, nI_clamp (by omega)]
      · rw [si_rd]
        unfold setN
        split <;> split <;> first | rfl | (exfalso; omega) | skip
        rw [si_ne1 (by omega)]
        exact eB i (by omega)
      · rw [si_ne1 (by omega), si_rd]
        unfold setN
        split <;> split <;> first | rfl | (exfalso; omega) | skip
        exact hM.2.2.2.2.2.1 i (by omega)
      · unfold setN
        split
        · exact hk
        · exact ht i (by omega)
  · refine both_ref hC hM hO hH hl ht (-2) 0 (by decide) ?_ ?_
    · rw [f_X6_type, f_X5_addByte, wC'.2 q, bd_some, if_pos rfl, bd_some, if_neg (by decide +kernel), bd_id]
    · rw [f_X7_type, wM'.2 q, bd_some, if_pos rfl, bd_id]
      exact badM hM
theorem st_clear (n : Nat) : Sp Inv n f_X6_clear f_X7_clear := by
  intro μC μM hI
  obtain ⟨N, hist, st, tx, len, rf, hC, hM, hO, hH, hl, ht⟩ := hI
  have eC : μC.1 78 1 = nI len := by obtain ⟨g, g1, g2, g3, g4, g5, g6, g7, g8, g9⟩ := hC; exact g7
  have eM : μM.1 0 6 = nI len := hM.2.2.2.2.1
  refine ⟨nI len, si μC 78 1 (nI 0), si μM 0 6 (nI 0), ?_, ?_, N, hist, st, tx, 0, rf, RC_text hC (fun b x y => si_ne1 x) (by rw [si_rd, if_pos ⟨rfl, rfl⟩]) (fun i hi => by omega), RM_text hM (fun b x y => si_ne1 x) (by rw [si_rd, if_neg (by omega)]) (by rw [si_rd, if_pos ⟨rfl, rfl⟩]) (fun i hi => by omega), hO.mono (by omega), fun j hj => (hH j hj).mono (by omega), by omega, fun i hi => by omega⟩
  · rw [f_X6_clear, f_X5_wipeBytes, bd_some, eC, iz0]
  · rw [f_X7_clear, eM, iz0]
/-! a slot that a maker fixes -/
def Pfx (N : Nat → Nat) (m s i : Nat) : Prop := N (9 + i) = s ∧ 0 < N (33 + 12 * m + i)
def encO (o : Option Nat) : Int32 := match o with
  | none => -1
  | some j => nI j
def fxC (N : Nat → Nat) (m s : Nat) : Nat → Nat → Option Nat → Option Nat
  | 0, _, o => o
  | t + 1, i, o => if N (9 + i) = s ∧ 0 < N (33 + 12 * m + i) then (if o.isNone = true then fxC N m s t (i + 1) (some i) else none) else fxC N m s t (i + 1) o
def fxM (N : Nat → Nat) (m s : Nat) : Nat → Nat → Option Nat → Nat → Option Nat
  | 0, _, o, c => if c = 1 then o else none
  | t + 1, i, o, c => if N (9 + i) = s ∧ 0 < N (33 + 12 * m + i) then fxM N m s t (i + 1) (some i) (c + 1) else fxM N m s t (i + 1) o c
theorem fx_2 (N : Nat → Nat) (m s : Nat) : ∀ t i o c, 2 ≤ c → fxM N m s t i o c = none := by
  intro t
  induction t with
  | zero => intro i o c h; rw [fxM, if_neg (by omega)]
  | succ t ih =>
    intro i o c h
    rw [fxM]
    split
    · exact ih _ _ _ (by omega)
    · exact ih _ _ _ h
theorem fx_1 (N : Nat → Nat) (m s : Nat) : ∀ t i j, fxM N m s t i (some j) 1 = fxC N m s t i (some j) := by
  intro t
  induction t with
  | zero => intro i j; rfl
  | succ t ih =>
    intro i j
    rw [fxM, fxC]
    split
    · rw [if_neg (by simp)]
      exact fx_2 N m s _ _ _ _ (by omega)
    · exact ih _ _
theorem fx_0 (N : Nat → Nat) (m s : Nat) : ∀ t i, fxM N m s t i none 0 = fxC N m s t i none := by
  intro t
  induction t with
  | zero => intro i; rfl
  | succ t ih =>
    intro i
    rw [fxM, fxC]
    split
    · rw [if_pos (show (none : Option Nat).isNone = true from rfl)]
      exact fx_1 N m s _ _ _
    · exact ih _
theorem encO_ne {o : Option Nat} (h : ∀ j, o = some j → j < 12) : encO o = -1 ↔ o = none := by
  cases o with
  | none => exact ⟨fun _ => rfl, fun _ => rfl⟩
  | some j =>
    constructor
    · intro q
      have hj := h j rfl
      have : nI j < 0 := by
        have q : nI j = -1 := q
        rw [q]; decide +kernel
      exact absurd this (nI_pos (by omega))
    · intro q; cases q
theorem lpFixC {B : Nat} {N : Nat → Nat} (hO : Ok B N) (hB : B < 2 ^ 31) {μ : Mm} (hs : SR μ 1 N) {m s : Nat} (hm : m < 3) (hsl : s < 4) : ∀ (t f i : Nat) (o : Option Nat), i + t = N 0 → t < f → (∀ j, o = some j → j < 12) → lp_X4_fixedPhrase_5 (nI m) (nI s) f (encO o) (nI i) μ (fun x7 μ8 => some (x7, μ8)) = some (encO (fxC N m s t i o), μ) := by
  have h12 : N 0 ≤ 12 := hO.1.1
  intro t
  induction t with
  | zero =>
    intro f i o h1 h2 h3
    obtain ⟨f, rfl⟩ : ∃ q, f = q + 1 := ⟨f - 1, by omega⟩
    rw [lp_X4_fixedPhrase_5, hs.cnt, if_pos ((nI_leI (by omega) (by omega)).mpr (by omega))]
    rfl
  | succ t ih =>
    intro f i o h1 h2 h3
    obtain ⟨f, rfl⟩ : ∃ q, f = q + 1 := ⟨f - 1, by omega⟩
    have a1 : μ.1 2 i = nI (N (9 + i)) := hs.slo (by omega)
    have b1 := hO.2.2.1 i (by omega)
    have b2 := nlt hO hB (33 + 12 * m + i) (by omega)
    rw [lp_X4_fixedPhrase_5, fxC, hs.cnt, if_neg (by rw [nI_leI (by omega) (by omega)]; omega), if_pos (zin_nI (by omega) (by omega)), nI_clamp (by omega), a1, habC hs hm (by omega), bd_some, nI_1]
    by_cases c1 : N (9 + i) = s
    · rw [if_pos (by rw [c1])]
      by_cases c2 : 0 < N (33 + 12 * m + i)
      · rw [if_neg (show ¬ nI (N (33 + 12 * m + i)) ≤ 0 by rw [le0_iff b2]; omega), if_pos (show N (9 + i) = s ∧ 0 < N (33 + 12 * m + i) from ⟨c1, c2⟩)]
        cases o with
        | none =>
          rw [if_pos (show encO none = -1 from rfl), if_pos (show (none : Option Nat).isNone = true from rfl)]
          exact ih f (i + 1) (some i) (by omega) (by omega) (fun j hj => by cases hj; omega)
        | some j =>
          rw [if_neg (show ¬ encO (some j) = -1 by rw [encO_ne h3]; intro q; cases q), if_neg (show ¬ (some j).isNone = true by simp)]
          rfl
      · rw [if_pos (by rw [le0_iff b2]; omega), if_neg (fun q => c2 q.2)]
        exact ih f (i + 1) o (by omega) (by omega) h3
    · rw [if_neg (by rw [nI_eq (by omega) (by omega)]; exact c1), if_neg (fun q => c1 q.1)]
      exact ih f (i + 1) o (by omega) (by omega) h3
theorem lpFixM {B : Nat} {N : Nat → Nat} (hO : Ok B N) (hB : B < 2 ^ 31) {μ : Mm} (hs : MR μ N) {m s : Nat} (hm : m < 3) (hsl : s < 4) : ∀ (t f i : Nat) (o : Option Nat) (c : Nat), i + t = N 0 → t < f → c ≤ i → lp_X7_fixesTo_8 (nI m) (nI s) f (encO o) (nI c) (nI i) μ (fun x6 x7 μ8 => if x7 = (1 : Int32) then (some (x6, μ8)) else (some ((-1 : Int32), μ8))) = some (encO (fxM N m s t i o c), μ) := by
  have h12 : N 0 ≤ 12 := hO.1.1
  intro t
  induction t with
  | zero =>
    intro f i o c h1 h2 h3
    obtain ⟨f, rfl⟩ : ∃ q, f = q + 1 := ⟨f - 1, by omega⟩
    rw [lp_X7_fixesTo_8, fxM, hs 0 (by omega), if_pos ((nI_leI (by omega) (by omega)).mpr (by omega))]
    by_cases c1 : c = 1
    · rw [if_pos c1, if_pos (by rw [c1]; decide +kernel)]
    · rw [if_neg c1, if_neg (by rw [i1, nI_eq (by omega) (by omega)]; exact c1)]
      rfl
  | succ t ih =>
    intro f i o c h1 h2 h3
    obtain ⟨f, rfl⟩ : ∃ q, f = q + 1 := ⟨f - 1, by omega⟩
    have b1 := hO.2.2.1 i (by omega)
    have b2 := nlt hO hB (33 + 12 * m + i) (by omega)
    rw [lp_X7_fixesTo_8, fxM, hs 0 (by omega), if_neg (by rw [nI_leI (by omega) (by omega)]; omega), i9, nI_add, if_pos (zin_nI (by omega) (by omega)), nI_clamp (by omega), hs _ (by omega), habM hs hm (by omega), bd_some, nI_1, Int32.add_zero, nI_1]
    by_cases c1 : N (9 + i) = s
    · rw [if_pos (by rw [c1])]
      by_cases c2 : 0 < N (33 + 12 * m + i)
      · rw [if_neg (by rw [le0_iff b2]; omega), if_pos ⟨c1, c2⟩]
        exact ih f (i + 1) (some i) (c + 1) (by omega) (by omega) (by omega)
      · rw [if_pos (by rw [le0_iff b2]; omega), if_neg (fun q => c2 q.2)]
        exact ih f (i + 1) o c (by omega) (by omega) (by omega)
    · rw [if_neg (by rw [nI_eq (by omega) (by omega)]; exact c1), if_neg (fun q => c1 q.1)]
      exact ih f (i + 1) o c (by omega) (by omega) (by omega)
theorem fixC {B : Nat} {N : Nat → Nat} (hO : Ok B N) (hB : B < 2 ^ 31) {μ : Mm} (hs : SR μ 1 N) {m s : Nat} (hm : m < 3) (hsl : s < 4) : f_X4_fixedPhrase (nI m) (nI s) μ = some (encO (fxC N m s (N 0) 0 none), μ) := by
  have h12 : N 0 ≤ 12 := hO.1.1
  have h := lpFixC hO hB hs hm hsl (N 0) FU 0 none (by omega) (by unfold FU; omega) (fun j hj => by cases hj)
  rw [← iz0] at h
  exact h
theorem fixM {B : Nat} {N : Nat → Nat} (hO : Ok B N) (hB : B < 2 ^ 31) {μ : Mm} (hs : MR μ N) {m s : Nat} (hm : m < 3) (hsl : s < 4) : f_X7_fixesTo (nI m) (nI s) μ = some (encO (fxC N m s (N 0) 0 none), μ) := by
  have h12 : N 0 ≤ 12 := hO.1.1
  have h := lpFixM hO hB hs hm hsl (N 0) FU 0 none 0 (by omega) (by unfold FU; omega) (by omega)
  rw [← iz0, fx_0] at h
  exact h
theorem st_fixes (n : Nat) (hn : n < 512) (a w : Int32) : Sp Inv n (f_X6_fixes a w) (f_X7_fixes a w) := by
  intro μC μM hI
  have hI2 := hI.up
  obtain ⟨N, hist, st, tx, len, rf, hC, hM, hO, hH, hl, ht⟩ := hI
  have wM' := wM w 0 3 (by omega) (by omega) 0 3 (by decide +kernel) (by decide +kernel) μM
  by_cases q : rng a 0 2
  · have e1 := (i_maker μC).1 q
    have e2 := (j_maker μM).1 q
    obtain ⟨m, -, hm, rfl⟩ := q
    by_cases qw : rng w 0 3
    · have e3 := (i_slot μC).1 qw
      have e4 := wM'.1 qw
      obtain ⟨s, -, hs, rfl⟩ := qw
      refine ⟨encO (fxC N m s (N 0) 0 none), μC, μM, ?_, ?_, hI2⟩
      · rw [f_X6_fixes, e1, bd_some, if_neg (by decide), e3, bd_some, if_neg (by decide), fixC hO (by omega) hC.sr (by omega) (by omega), bd_some]
      · rw [f_X7_fixes, e2, bd_some, if_neg (by decide), e4, bd_some, if_neg (by decide), fixM hO (by omega) hM.1 (by omega) (by omega), bd_some]
    · refine both_ref hC hM hO hH hl ht (-2) 0 (by decide) ?_ ?_
      · rw [f_X6_fixes, e1, bd_some, if_neg (by decide), (i_slot μC).2 qw, bd_some, if_pos rfl, bd_id]
      · rw [f_X7_fixes, e2, bd_some, if_neg (by decide), wM'.2 qw, bd_some, if_pos rfl, bd_id]
        exact badM hM
  · refine both_ref hC hM hO hH hl ht (-2) 0 (by decide) ?_ ?_
    · rw [f_X6_fixes, (i_maker μC).2 q, bd_some, if_pos rfl, bd_id]
    · rw [f_X7_fixes, (j_maker μM).2 q, bd_some, if_pos rfl, bd_id]
      exact badM hM
