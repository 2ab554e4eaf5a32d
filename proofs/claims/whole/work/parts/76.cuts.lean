/-! cuts, made, weight -/
def FrC (μ μ2 : Mm) : Prop := ∀ a, (a ≤ 9 ∨ 22 ≤ a) → μ2.1 a = μ.1 a
def FrR (μ μ2 : Mm) : Prop := (∀ a, 1 ≤ a → a ≤ 5 → μ2.1 a = μ.1 a) ∧ μ2.1 0 3 = μ.1 0 3 ∧ μ2.1 0 6 = μ.1 0 6
theorem FrC.trans {μ μ2 μ3 : Mm} (h : FrC μ μ2) (g : FrC μ2 μ3) : FrC μ μ3 := fun a ha => (g a ha).trans (h a ha)
theorem FrR.trans {μ μ2 μ3 : Mm} (h : FrR μ μ2) (g : FrR μ2 μ3) : FrR μ μ3 := ⟨fun a h1 h2 => (g.1 a h1 h2).trans (h.1 a h1 h2), g.2.1.trans h.2.1, g.2.2.trans h.2.2⟩
theorem FrW.r {μ μ2 : Mm} (h : FrW μ μ2) : FrR μ μ2 := ⟨fun a h1 _ => h.1 a (by omega), h.2.1 3 (by omega) (by omega), h.2.1 6 (by omega) (by omega)⟩
theorem RC.fr {N : Nat → Nat} {hist : Nat → Nat → Nat} {st : Nat} {tx : Nat → Nat} {len : Nat} {rf : Nat → Int32} {μ μ2 : Mm} (h : RC N hist st tx len rf μ) (hf : FrC μ μ2) : RC N hist st tx len rf μ2 := by
  obtain ⟨g, g1, g2, g3, g4, g5, g6, g7, g8, g9⟩ := h
  exact ⟨g, g1, g2, g3.frame (fun a _ ha => hf a (by omega)), by rw [hf 22 (by omega)]; exact g4, by rw [hf 22 (by omega)]; exact g5, fun j hj => (g6 j hj).frame (fun a _ ha => hf a (by omega)), by rw [hf 78 (by omega)]; exact g7, fun i hi => by rw [hf 79 (by omega)]; exact g8 i hi, fun k hk => by rw [hf 82 (by omega)]; exact g9 k hk⟩
theorem RM.fr {N : Nat → Nat} {hist : Nat → Nat → Nat} {st : Nat} {tx : Nat → Nat} {len : Nat} {rf : Nat → Int32} {μ μ2 : Mm} (h : RM N hist st tx len rf μ) (hf : FrR μ μ2) : RM N hist st tx len rf μ2 := by
  obtain ⟨q1, q2, q3, q4, q5, q6, q7⟩ := h
  exact ⟨fun k hk => by rw [hf.1 1 (by omega) (by omega)]; exact q1 k hk, q2, by rw [hf.2.1]; exact q3, fun j hj k hk => by rw [hf.1 3 (by omega) (by omega)]; exact q4 j hj k hk, by rw [hf.2.2]; exact q5, fun i hi => by rw [hf.1 5 (by omega) (by omega)]; exact q6 i hi, fun k hk => by rw [hf.1 4 (by omega) (by omega)]; exact q7 k hk⟩
theorem countCutsC {B : Nat} {N : Nat → Nat} (hO : Ok B N) (hB : B < 2 ^ 30) {m : Option Nat} (hm : okm m) {μ : Mm} (hs : SR μ 1 N) : (AllLe N true none → ∃ μ2, f_X6_countCuts μ = some (lN (cnt0 N true none), μ2) ∧ FrC μ μ2) ∧ (¬ AllLe N true none → ∃ μ2, f_X6_countCuts μ = some (-5, μ2) ∧ FrC μ μ2) := by
  obtain ⟨μa, a1, a2, a3, a4, a5⟩ := layLineC hO hs
  have fa : FrC μ μa := fun a ha => by
    rcases ha with h | h
    · exact a5 a h
    · exact a4 a (by omega)
  have main := countC hO hB (m := none) (fun z h => by cases h) a2 a3
  rw [f_X6_countCuts, a1, bd_some]
  constructor
  · intro q
    obtain ⟨μ2, e1, e2, -⟩ := main.1 q
    have e1 : f_X2_countAll (-1) μa = some (lN (cnt0 N true none), μ2) := e1
    exact ⟨μ2, by rw [e1, bd_some], fa.trans (fun a ha => e2 a (by omega))⟩
  · intro q
    obtain ⟨μ2, e1, e2⟩ := main.2 q
    have e1 : f_X2_countAll (-1) μa = some (-5, μ2) := e1
    exact ⟨μ2, by rw [e1, bd_some], fa.trans (fun a ha => e2 a (by omega))⟩
theorem countMadeC {B : Nat} {N : Nat → Nat} (hO : Ok B N) (hB : B < 2 ^ 30) {m : Option Nat} (hm : okm m) {μ : Mm} (hs : SR μ 1 N) : (AllLe N false m → ∃ μ2, f_X6_countMade (mk m) μ = some (lN (cnt0 N false m), μ2) ∧ FrC μ μ2 ∧ SR μ2 1 N ∧ LD μ2 N false ∧ μ2.1 13 6 = mk m ∧ Tab (μ2.2 14) N false m 0) ∧ (¬ AllLe N false m → ∃ μ2, f_X6_countMade (mk m) μ = some (-5, μ2) ∧ FrC μ μ2) := by
  obtain ⟨μa, a1, a2, a3, a4, a5⟩ := layMetreC hO hs
  have fa : FrC μ μa := fun a ha => by
    rcases ha with h | h
    · exact a5 a h
    · exact a4 a (by omega)
  have main := countC hO hB hm a2 a3
  rw [f_X6_countMade, a1, bd_some]
  have h1 := hO.1.2.2.1
  constructor
  · intro q
    obtain ⟨μ2, e1, e2, e3, e4⟩ := main.1 q
    refine ⟨μ2, by rw [e1, bd_some], fa.trans (fun a ha => e2 a (by omega)), a2.frame (fun a _ ha => e2 a (by omega)), ?_, e3, e4 (show N 2 ≠ 0 by omega)⟩
    unfold LD at *
    rw [e2 10 (by omega), e2 11 (by omega)]
    exact a3
  · intro q
    obtain ⟨μ2, e1, e2⟩ := main.2 q
    exact ⟨μ2, by rw [e1, bd_some], fa.trans (fun a ha => e2 a (by omega))⟩
theorem lN_nn {x : Nat} (h : x ≤ MX) : (0 : Int64) ≤ lN x := by
  rw [l0, pk_lLE (by omega) (by unfold MX at h; omega)]
  omega
theorem lN_n5 {x : Nat} (h : x ≤ MX) : lN x ≠ (-5 : Int64) := by
  intro q
  have := lN_nn h
  rw [q] at this
  exact absurd this (by decide)
/-- both sides refuse, after what leaves no trace -/
theorem refBoth {n : Nat} {N : Nat → Nat} {hist : Nat → Nat → Nat} {st : Nat} {tx : Nat → Nat} {len : Nat} {rf : Nat → Int32} {μC μM : Mm} (hC : RC N hist st tx len rf μC) (hM : RM N hist st tx len rf μM) (hO : Ok (6000 * n) N) (hH : ∀ j, j < st → Ok (6000 * n) (hist j)) (hl : len ≤ 150) (ht : ∀ i, i < len → tx i ≤ 127) (r : Int32) {FM : Option (Int32 × Mm)} (eM : ∃ μ2, FM = some (r, μ2) ∧ RM N hist st tx len (incR rf (kindR r)) μ2) : ∃ μC2 μM2, f_X6_refusal r μC = some (r, μC2) ∧ FM = some (r, μM2) ∧ Inv (n + 1) μC2 μM2 := by
  obtain ⟨μC2, e1, q1⟩ := refC hC r
  obtain ⟨μM2, e2, q2⟩ := eM
  exact ⟨μC2, μM2, e1, e2, N, hist, st, tx, len, _, q1, q2, hO.mono (by omega), fun j hj => (hH j hj).mono (by omega), hl, ht⟩
theorem bad_k {N : Nat → Nat} {hist : Nat → Nat → Nat} {st : Nat} {tx : Nat → Nat} {len : Nat} {rf : Nat → Int32} {μ : Mm} (h : RM N hist st tx len rf μ) : ∃ μ2, f_X7_bad μ = some (-2, μ2) ∧ RM N hist st tx len (incR rf (kindR (-2))) μ2 := badM h
theorem no_k {N : Nat → Nat} {hist : Nat → Nat → Nat} {st : Nat} {tx : Nat → Nat} {len : Nat} {rf : Nat → Int32} {μ : Mm} (h : RM N hist st tx len rf μ) : ∃ μ2, f_X7_no μ = some (-3, μ2) ∧ RM N hist st tx len (incR rf (kindR (-3))) μ2 := noM h
theorem much_k {N : Nat → Nat} {hist : Nat → Nat → Nat} {st : Nat} {tx : Nat → Nat} {len : Nat} {rf : Nat → Int32} {μ : Mm} (h : RM N hist st tx len rf μ) : ∃ μ2, f_X7_much μ = some (-5, μ2) ∧ RM N hist st tx len (incR rf (kindR (-5))) μ2 := muchM h
theorem st_cuts (n : Nat) (hn : n < 512) : Sp Inv n f_X6_cuts f_X7_cuts := by
  intro μC μM hI
  obtain ⟨N, hist, st, tx, len, rf, hC, hM, hO, hH, hl, ht⟩ := hI
  have c := countCutsC hO (by omega) (m := none) (fun z h => by cases h) hC.sr
  have w := waysM hO (by omega) (cut := true) (m := none) (fun z h => by cases h) hM.1
  by_cases q : AllLe N true none
  · obtain ⟨μC2, c1, c2⟩ := c.1 q
    obtain ⟨w0, μM2, w1, -, w3, -⟩ := w.1 q
    have w1 : f_X7_waysOr 1 (-1) μM = some (lN (cnt0 N true none), μM2) := w1
    refine ⟨lN (cnt0 N true none), μC2, μM2, ?_, ?_, N, hist, st, tx, len, rf, hC.fr c2, hM.fr w3.r, hO.mono (by omega), fun j hj => (hH j hj).mono (by omega), hl, ht⟩
    · rw [f_X6_cuts, c1, bd_some, if_pos (lN_nn w0)]
    · rw [f_X7_cuts, w1, bd_some, if_neg (lN_n5 w0)]
  · obtain ⟨μC2, c1, c2⟩ := c.2 q
    obtain ⟨μM2, w1, w3⟩ := w.2 q
    have w1 : f_X7_waysOr 1 (-1) μM = some (-5, μM2) := w1
    obtain ⟨μC3, μM3, e1, e2, e3⟩ := refBoth (hC.fr c2) (hM.fr w3.r) hO hH hl ht (-5) (much_k (hM.fr w3.r))
    refine ⟨(-5 : Int32).toInt64, μC3, μM3, ?_, ?_, e3⟩
    · rw [f_X6_cuts, c1, bd_some, if_neg (by decide), e1, bd_some]
    · rw [f_X7_cuts, w1, bd_some, if_pos rfl, e2, bd_some]
theorem st_made (n : Nat) (hn : n < 512) : Sp Inv n f_X6_made f_X7_made := by
  intro μC μM hI
  obtain ⟨N, hist, st, tx, len, rf, hC, hM, hO, hH, hl, ht⟩ := hI
  have c := countMadeC hO (by omega) (m := none) (fun z h => by cases h) hC.sr
  have w := waysM hO (by omega) (cut := false) (m := none) (fun z h => by cases h) hM.1
  by_cases q : AllLe N false none
  · obtain ⟨μC2, c1, c2, -⟩ := c.1 q
    obtain ⟨w0, μM2, w1, -, w3, -⟩ := w.1 q
    have w1 : f_X7_waysOr 0 (-1) μM = some (lN (cnt0 N false none), μM2) := w1
    have c1 : f_X6_countMade (-1) μC = some (lN (cnt0 N false none), μC2) := c1
    refine ⟨lN (cnt0 N false none), μC2, μM2, ?_, ?_, N, hist, st, tx, len, rf, hC.fr c2, hM.fr w3.r, hO.mono (by omega), fun j hj => (hH j hj).mono (by omega), hl, ht⟩
    · rw [f_X6_made, c1, bd_some, if_pos (lN_nn w0)]
    · rw [f_X7_made, w1, bd_some, if_neg (lN_n5 w0)]
  · obtain ⟨μC2, c1, c2⟩ := c.2 q
    obtain ⟨μM2, w1, w3⟩ := w.2 q
    have w1 : f_X7_waysOr 0 (-1) μM = some (-5, μM2) := w1
    have c1 : f_X6_countMade (-1) μC = some (-5, μC2) := c1
    obtain ⟨μC3, μM3, e1, e2, e3⟩ := refBoth (hC.fr c2) (hM.fr w3.r) hO hH hl ht (-5) (much_k (hM.fr w3.r))
    refine ⟨(-5 : Int32).toInt64, μC3, μM3, ?_, ?_, e3⟩
    · rw [f_X6_made, c1, bd_some, if_neg (by decide), e1, bd_some]
    · rw [f_X7_made, w1, bd_some, if_pos rfl, e2, bd_some]
theorem sumN_ge {h : Nat → Nat} {i k : Nat} (hi : i < k) : h i ≤ sumN h k := by
  have := sumN_mono (h := h) (show i + 1 ≤ k by omega)
  rw [sumN_succ] at this
  omega
/-- the share of a phrase at a place -/
theorem shareC {B : Nat} {N : Nat → Nat} (hO : Ok B N) (hB : B < 2 ^ 30) {cut : Bool} {m : Option Nat} (hm : okm m) {μ : Mm} (hs : SR μ 1 N) (hd : LD μ N cut) (hk : μ.1 13 6 = mk m) {p s i : Nat} (hT : Tab (μ.2 14) N cut m (p + 1)) (hp : p < lastN N cut) (h4 : s < 4) (hi : i < N 0) (hle : trm N cut m p (setP N p s) i ≤ MX) : f_X2_shareOf (nI p) (nI s) (nI i) μ = some (lN (trm N cut m p (setP N p s) i), μ) := by
  have hl := last_le hO cut
  have h12 := hO.1.1
  have hsl := hO.2.2.1 i (by omega)
  have e2 : μ.1 2 i = nI (N (9 + i)) := hs.slo (by omega)
  have hL := LN_le hO (cut := cut) (p := p) hi
  have hw := wN_b hO hB hm (show i < 12 by omega)
  rw [f_X2_shareOf, landC hO hd hp hi, bd_some]
  unfold trm at hle ⊢
  by_cases c : LNn N cut p i = 0
  · rw [if_pos (by rw [i1]; exact (nI_ltI (by omega) (by omega)).mpr (by omega)), if_neg (fun q => q.2 c)]
    rfl
  · have hg := LN_gt hO hi c
    have ht := hT (LNn N cut p i) (by omega) hg.2.2.1 (N (9 + i)) (by omega)
    rw [if_neg (by rw [i1, nI_ltI (by omega) (by omega)]; omega), setAfterC hs (by omega) h4, bd_some, if_pos (zin_nI (by omega) (by omega)), nI_clamp (by omega), e2, holdsC (setP_le hO h4) (by omega), bd_some]
    by_cases b : bitN (setP N p s) (N (9 + i)) = true
    · have d : bitN (setP N p s) (N (9 + i)) = true ∧ LNn N cut p i ≠ 0 := ⟨b, c⟩
      rw [if_pos d] at hle
      rw [if_pos d, if_neg (show ¬ bI (bitN (setP N p s) (N (9 + i))) = 0 by rw [b]; decide), hk, factC hO hB hs hm (by omega), bd_some, if_pos (zin_nI (by omega) (by omega)), e2, i4, pk_mul, nI_add, if_pos (zin_nI (by omega) (by omega)), nI_clamp (by omega), show LNn N cut p i * 4 + N (9 + i) = 4 * LNn N cut p i + N (9 + i) by omega, ht.2, timesC hw.1 hw.2 ht.1, bd_some, encL_le hle]
    · rw [if_pos ((bI_ne _).mpr (by simpa using b)), if_neg (fun q => b q.1)]
      rfl
/-- what leads to a bridge counts nothing -/
theorem trm_lead {B : Nat} {N : Nat → Nat} (hO : Ok B N) {cut : Bool} {m : Option Nat} {p v i : Nat} (hi : i < N 0) (q : leadI N cut p i = -1) : trm N cut m p v i = 0 := by
  have hl := last_le hO cut
  unfold trm
  by_cases d : bitN v (N (9 + i)) = true ∧ LNn N cut p i ≠ 0
  · rw [if_pos d]
    have hg := LN_gt hO hi d.2
    have hbt : brN N cut (LNn N cut p i) = true := by
      cases hx : brN N cut (LNn N cut p i) with
      | true => rfl
      | false =>
        rw [hg.1] at hx
        have := lead_some (p := p) (i := i) rfl (by rw [← hg.1]; exact d.2) hx
        rw [this] at q
        have : nI (tgN N cut p i) < 0 := by rw [q]; decide +kernel
        exact absurd this (nI_pos (by rw [← hg.1]; omega))
    have hlt : LNn N cut p i < lastN N cut := by
      have hbt2 := hbt
      unfold brN at hbt2
      cases cut with
      | true => simp at hbt2
      | false => simp at hbt2; have : lastN N false = N 2 := rfl; omega
    rw [OV_br hO cut m hlt hbt, Nat.mul_zero]
  · rw [if_neg d]
theorem weightFromM {B : Nat} {N : Nat → Nat} (hO : Ok B N) (hB : B < 2 ^ 30) {cut : Bool} {m : Option Nat} (hm : okm m) {μ : Mm} (hs : MR μ N) (hc : CF μ cut) {i : Nat} (hT : Tab (μ.2 6) N cut m 1) (hi : i < N 0) : f_X7_weightFrom (mk m) (nI i) μ = some (lN (trm N cut m 0 (N 3) i), μ) := by
  have hl := last_le hO cut
  have h12 := hO.1.1
  have h3 := hO.2.1 3 (by omega) (by omega)
  have hsl := hO.2.2.1 i (by omega)
  have hw := wN_b hO hB hm (show i < 12 by omega)
  have eL := leadsM hO hs hc (show 0 ≤ 40 by omega) hi
  rw [← iz0] at eL
  rw [f_X7_weightFrom, i9, nI_add, if_pos (zin_nI (by omega) (by omega)), nI_clamp (by omega), hs 3 (by omega), hs (9 + i) (by omega), hasM h3 (by omega), bd_some, eL, bd_some, weightM hO hB hs hm (by omega), bd_some, if_pos (zin_nI (show 9 + i < 148 by omega) (by omega)), hs _ (by omega)]
  by_cases b : bitN (N 3) (N (9 + i)) = true
  · rw [if_neg (by rw [b]; decide)]
    rcases lead_range hO (cut := cut) (p := 0) hi with q | ⟨q1, q2, q3, q4⟩
    · rw [if_pos q, trm_lead hO hi q]
      rfl
    · have h4 := tg_gt hO hi q1
      have hLN : LNn N cut 0 i = tgN N cut 0 i := by unfold LNn; rw [if_neg (by rw [br0]; decide)]
      have ht := hT (tgN N cut 0 i) (by omega) h4.2 (N (9 + i)) (by omega)
      have et : trm N cut m 0 (N 3) i = wN N m i * OV N cut m (tgN N cut 0 i) (N (9 + i)) := by
        unfold trm
        rw [if_pos ⟨b, by rw [hLN]; exact q1⟩, hLN]
      rw [if_neg q4, q3, i4, pk_mul, nI_add, if_pos (zin_nI (by omega) (by omega)), nI_clamp (by omega), ht.2, nI_l (by omega), lN_mul, et]
  · rw [if_pos ((bI_ne _).mpr (by simpa using b))]
    unfold trm
    rw [if_neg (fun q => b q.1)]
    rfl
theorem wMm (a : Int32) (c : Nat) (hc : c < 2 ^ 31) (h : Int64) (eh : h = (nI c - 1).toInt64) (μ : Mm) : ((a = -1 ∨ ∃ k, k < c ∧ a = nI k) → f_X7_within a.toInt64 (-1) h μ = some (1, μ)) ∧ ((¬ (a = -1 ∨ ∃ k, k < c ∧ a = nI k)) → f_X7_within a.toInt64 (-1) h μ = some (0, μ)) := by
  have e2 : h.toInt = (c : Int) - 1 := by
    rw [eh, tI64]
    cases c with
    | zero => decide +kernel
    | succ c => rw [nI_pred, nI_toInt (by omega)]; omega
  have hr : (a = -1 ∨ ∃ k, k < c ∧ a = nI k) ↔ (-1 : Int) ≤ a.toInt ∧ a.toInt ≤ (c : Int) - 1 := by
    constructor
    · rintro (h | ⟨k, h1, rfl⟩)
      · rw [h]
        have : (-1 : Int32).toInt = -1 := by decide +kernel
        omega
      · rw [nI_toInt (by omega)]
        omega
    · rintro ⟨h1, h2⟩
      by_cases h3 : a.toInt = -1
      · left
        have : (-1 : Int32).toInt = -1 := by decide +kernel
        exact Int32.toInt_inj.mp (by rw [h3, this])
      · right
        have h0 : ¬ a < 0 := by
          rw [Int32.lt_iff_toInt_lt, Int32.toInt_zero]
          omega
        obtain ⟨k, hk, rfl⟩ := nI_of h0
        rw [nI_toInt hk] at h1 h2
        exact ⟨k, by omega, rfl⟩
  unfold f_X7_within
  rw [hr]
  have e0 : (-1 : Int64).toInt = -1 := by decide +kernel
  constructor
  · intro q
    rw [if_neg (by rw [lt64, tI64, e0]; omega), if_neg (by rw [lt64, tI64, e2]; omega)]
  · intro q
    by_cases h1 : a.toInt64 < -1
    · rw [if_pos h1]
    · rw [if_neg h1, if_pos]
      rw [lt64, tI64, e0] at h1
      rw [lt64, tI64, e2]
      omega
theorem nI_m1 {k : Nat} (h : k < 2 ^ 31) : nI k ≠ -1 := by
  intro q
  have : nI k < 0 := by rw [q]; decide +kernel
  exact nI_pos h this
theorem okm_some {m : Nat} (h : m < 3) : okm (some m) := fun z q => by cases q; exact h
theorem st_weight (n : Nat) (hn : n < 512) (a w : Int32) : Sp Inv n (f_X6_weight a w) (f_X7_weight a w) := by
  intro μC μM hI
  obtain ⟨N, hist, st, tx, len, rf, hC, hM, hO, hH, hl, ht⟩ := hI
  have h12 := hO.1.1
  have bad : (f_X6_weight a w μC = bd (f_X6_refusal (-2) μC) fun r4 μ5 => some (r4.toInt64, μ5)) → (f_X7_weight a w μM = bd (f_X7_bad μM) fun r4 μ5 => some (r4.toInt64, μ5)) → ∃ r μC2 μM2, f_X6_weight a w μC = some (r, μC2) ∧ f_X7_weight a w μM = some (r, μM2) ∧ Inv (n + 1) μC2 μM2 := by
    intro h1 h2
    obtain ⟨μC3, μM3, e1, e2, e3⟩ := refBoth hC hM hO hH hl ht (-2) (bad_k hM)
    exact ⟨(-2 : Int32).toInt64, μC3, μM3, by rw [h1, e1, bd_some], by rw [h2, e2, bd_some], e3⟩
  have wm := wMm w (N 0) (by omega) _ rfl μM
  have wc := wCc w (N 0) (by omega) _ rfl μC
  by_cases q : rng a 0 2
  · have e1 := (i_maker μC).1 q
    have e2 := (j_maker μM).1 q
    obtain ⟨m, -, hm, rfl⟩ := q
    have hok : okm (some m) := okm_some (by omega)
    by_cases qw : w = -1 ∨ ∃ k, k < N 0 ∧ w = nI k
    · have e3 := wm.1 qw
      have c := countMadeC hO (by omega) hok hC.sr
      have wy := waysM hO (by omega) (cut := false) hok hM.1
      have eM : f_X7_weight (nI m) w μM = bd (f_X7_waysOr (0 : Int32) (nI m) μM) fun r9 μ10 => if r9 = (-5 : Int64) then (bd (f_X7_much μ10) fun r15 μ16 => some (r15.toInt64, μ16)) else (if w = (-1 : Int32) then (some (r9, μ10)) else (bd (f_X7_weightFrom (nI m) w μ10) fun r13 μ14 => some (r13, μ14))) := by
        rw [f_X7_weight, e2, bd_some, if_neg (by decide), hM.1 0 (by omega), e3, bd_some, if_neg (by decide)]
      have eC : f_X6_weight (nI m) w μC = bd (f_X6_countMade (nI m) μC) fun r7 μ8 => if (0 : Int64) ≤ r7 then (if w = (-1 : Int32) then (some (r7, μ8)) else (bd (f_X2_shareOf (0 : Int32) (0 : Int32) w μ8) fun r11 μ12 => some (r11, μ12))) else (bd (f_X6_refusal (-5 : Int32) μ8) fun r13 μ14 => some (r13.toInt64, μ14)) := by
        rw [f_X6_weight, e1, bd_some, if_neg (by decide)]
        rcases qw with h | h
        · rw [if_pos h]
        · have hne : w ≠ -1 := by
            obtain ⟨k, hk, rfl⟩ := h
            exact nI_m1 (by omega)
          rw [if_neg hne, f_X4_hasPhrase, hC.sr.cnt, wc.1 h, bd_some, if_pos (by decide), bd_some, if_neg (by decide)]
      by_cases qa : AllLe N false (some m)
      · obtain ⟨μC2, c1, c2, c3, c4, c5, c6⟩ := c.1 qa
        obtain ⟨w0, μM2, w1, w2, w3, w4, -⟩ := wy.1 qa
        have w1 : f_X7_waysOr 0 (nI m) μM = some (lN (cnt0 N false (some m)), μM2) := w1
        have c1 : f_X6_countMade (nI m) μC = some (lN (cnt0 N false (some m)), μC2) := c1
        have hI2 : Inv (n + 1) μC2 μM2 := ⟨N, hist, st, tx, len, rf, hC.fr c2, hM.fr w3.r, hO.mono (by omega), fun j hj => (hH j hj).mono (by omega), hl, ht⟩
        rcases qw with h | ⟨k, hk, rfl⟩
        · exact ⟨_, μC2, μM2, by rw [eC, c1, bd_some, if_pos (lN_nn w0), if_pos h], by rw [eM, w1, bd_some, if_neg (lN_n5 w0), if_pos h], hI2⟩
        · have h1 := hO.1.2.2.1
          have hlast : lastN N false = N 2 := rfl
          have hle : trm N false (some m) 0 (setP N 0 0) k ≤ MX := by
            have h2 := sumN_ge (h := trm N false (some m) 0 (setP N 0 0)) hk
            rw [← OV_trm hO false (some m) (by omega)] at h2
            have h3 := qa 0 (by omega) 0 (by omega)
            omega
          have sc := shareC hO (by omega) hok c3 c4 c5 (p := 0) (s := 0) (fun q a b => c6 q (by omega) b) (by omega) (by omega) hk hle
          rw [← iz0] at sc
          have wf := weightFromM hO (by omega) hok (fun k hk => by rw [w3.1 1 (by omega)]; exact hM.1 k hk) w2 w4 hk
          have wf : f_X7_weightFrom (nI m) (nI k) μM2 = some (lN (trm N false (some m) 0 (N 3) k), μM2) := wf
          have hne : nI k ≠ -1 := nI_m1 (by omega)
          exact ⟨_, μC2, μM2, by rw [eC, c1, bd_some, if_pos (lN_nn w0), if_neg hne, sc, bd_some], by rw [eM, w1, bd_some, if_neg (lN_n5 w0), if_neg hne, wf, bd_some]; rfl, hI2⟩
      · obtain ⟨μC2, c1, c2⟩ := c.2 qa
        obtain ⟨μM2, w1, w3⟩ := wy.2 qa
        have w1 : f_X7_waysOr 0 (nI m) μM = some (-5, μM2) := w1
        have c1 : f_X6_countMade (nI m) μC = some (-5, μC2) := c1
        obtain ⟨μC3, μM3, g1, g2, g3⟩ := refBoth (hC.fr c2) (hM.fr w3.r) hO hH hl ht (-5) (much_k (hM.fr w3.r))
        exact ⟨(-5 : Int32).toInt64, μC3, μM3, by rw [eC, c1, bd_some, if_neg (by decide), g1, bd_some], by rw [eM, w1, bd_some, if_pos rfl, g2, bd_some], g3⟩
    · refine bad ?_ ?_
      · rw [f_X6_weight, e1, bd_some, if_neg (by decide), if_neg (fun z => qw (Or.inl z)), f_X4_hasPhrase, hC.sr.cnt, wc.2 (fun z => qw (Or.inr z)), bd_some, if_pos (by decide), bd_some, if_pos rfl]
      · rw [f_X7_weight, e2, bd_some, if_neg (by decide), hM.1 0 (by omega), wm.2 qw, bd_some, if_pos rfl]
  · refine bad ?_ ?_
    · rw [f_X6_weight, (i_maker μC).2 q, bd_some, if_pos rfl]
    · rw [f_X7_weight, (j_maker μM).2 q, bd_some, if_pos rfl]
