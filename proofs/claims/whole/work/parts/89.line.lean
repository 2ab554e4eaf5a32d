/-! orders with letters: f and l -/
def setL (tx : Nat → Nat) (len q : Nat) (N : Nat → Nat) (c : Nat) : Nat → Nat := fun k => if k = 1 then c else if 69 ≤ k ∧ k < 69 + c then bt tx len (q + (k - 69)) - 96 else N k
theorem setL_1 {tx : Nat → Nat} {len q : Nat} {N : Nat → Nat} {c : Nat} : setL tx len q N c 1 = c := if_pos rfl
theorem setL_in {tx : Nat → Nat} {len q : Nat} {N : Nat → Nat} {c i : Nat} (h : i < c) : setL tx len q N c (69 + i) = bt tx len (q + i) - 96 := by
  unfold setL
  rw [if_neg (by omega), if_pos (by omega), show 69 + i - 69 = i by omega]
theorem setL_out {tx : Nat → Nat} {len q : Nat} {N : Nat → Nat} {c k : Nat} (h1 : k ≠ 1) (h2 : k < 69 ∨ 69 + c ≤ k) : setL tx len q N c k = N k := by
  unfold setL
  rw [if_neg h1, if_neg (by omega)]
theorem setL_ok {tx : Nat → Nat} {len q c B : Nat} {N : Nat → Nat} (hc : c ≤ 40) (hL : LET tx len q c) (h : Ok B N) : Ok B (setL tx len q N c) := by
  obtain ⟨⟨h1, h2, h3, h4⟩, h5, h6, h7, h8, h9, h10, h11, h12⟩ := h
  have e : ∀ k, k ≠ 1 → (k < 69 ∨ 69 + c ≤ k) → setL tx len q N c k = N k := fun k a b => setL_out a b
  refine ⟨⟨by rw [e 0 (by omega) (by omega)]; exact h1, by rw [setL_1]; exact hc, by rw [e 2 (by omega) (by omega)]; exact h3, by rw [e 2 (by omega) (by omega)]; exact h4⟩, fun j a b => by rw [e _ (by omega) (by omega)]; exact h5 j a b, fun i hi => by rw [e _ (by omega) (by omega)]; exact h6 i hi, fun i hi => by rw [e _ (by omega) (by omega)]; exact h7 i hi, fun i hi => by rw [e 0 (by omega) (by omega)] at hi; rw [e _ (by omega) (by omega)]; exact h8 i hi, fun i hi => by rw [e _ (by omega) (by omega)]; exact h9 i hi, fun i hi => ?_, fun i hi => ?_, fun p a b => by rw [e _ (by omega) (by omega)]; exact h12 p a b⟩
  · by_cases d : i < c
    · rw [setL_in d]
      have := (ltr_lt (hL.2.1 i d))
      omega
    · rw [e _ (by omega) (by omega)]; exact h10 i hi
  · rw [setL_1] at hi
    rw [setL_in hi]
    have := (ltr_lt (hL.2.1 i hi))
    omega
theorem lineC {tx : Nat → Nat} {len q c : Nat} {N : Nat → Nat} (hc : c ≤ 40) {μ : Mm} (hs : SR μ 1 N) (h81 : ∀ j, j < c → μ.1 81 j = nI (bt tx len (q + j) - 96)) : ∃ μ2, f_X4_setLine (nI c) μ = some (nI c, μ2) ∧ SR μ2 1 (setL tx len q N c) ∧ ∀ a, 22 ≤ a → μ2.1 a = μ.1 a := by
  have ec : (if (40 : Int32) < nI c then (40 : Int32) else nI c) = nI c := by rw [i40, if_neg (by rw [nI_ltI (by omega) (by omega)]; omega)]
  have e0 : (0 : Int32).toNatClampNeg = 0 := by decide
  have ef : ∀ a j, (sc (si μ 1 9 (nI c)) 81 7 0 0 c).1 a j = if a = 7 ∧ j < c then nI (bt tx len (q + j) - 96) else if a = 1 ∧ j = 9 then nI c else μ.1 a j := by
    intro a j
    rw [sc_rd]
    by_cases d : a = 7 ∧ j < c
    · rw [if_pos d, if_pos d, si_ne1 (by omega), h81 j d.2]
    · rw [if_neg d, if_neg d, si_rd]
  refine ⟨sc (si μ 1 9 (nI c)) 81 7 0 0 c, ?_, ?_, fun a ha => ?_⟩
  · rw [f_X4_setLine, ec, e0, nI_clamp (by omega), if_pos ⟨by decide, by decide, nI_pos (by omega), by omega, by omega⟩, ef, if_neg (by omega), if_pos ⟨rfl, rfl⟩]
  · obtain ⟨⟨h1, h2, h3, h4, h5⟩, h6, h7, h8, h9, h10, h11, h12, h13, h14⟩ := hs
    have e : ∀ k, k ≠ 1 → (k < 69 ∨ 69 + c ≤ k) → setL tx len q N c k = N k := fun k a b => setL_out a b
    refine ⟨⟨?_, ?_, ?_, ?_, ?_⟩, fun i hi => ?_, fun i hi => ?_, fun i hi => ?_, fun i hi => ?_, fun i hi => ?_, fun i hi1 hi => ?_, ?_, fun i hi => ?_, fun i hi => ?_⟩
    · rw [ef, if_neg (by omega), if_neg (by omega), e 0 (by omega) (by omega)]; exact h1
    · rw [ef, if_neg (by omega), if_pos ⟨rfl, rfl⟩, setL_1]
    · rw [ef, if_neg (by omega), if_neg (by omega), e 2 (by omega) (by omega)]; exact h3
    · rw [ef, if_neg (by omega), if_neg (by omega), e 3 (by omega) (by omega)]; exact h4
    · rw [ef, if_neg (by omega), if_neg (by omega), e 4 (by omega) (by omega)]; exact h5
    · rw [ef, if_neg (by omega), if_neg (by omega), e _ (by omega) (by omega)]; exact h6 i hi
    · rw [ef, if_neg (by omega), if_neg (by omega), e _ (by omega) (by omega)]; exact h7 i hi
    · rw [ef, if_neg (by omega), if_neg (by omega), e _ (by omega) (by omega)]; exact h8 i hi
    · rw [ef, if_neg (by omega), if_neg (by omega), e _ (by omega) (by omega)]; exact h9 i hi
    · by_cases d : i < c
      · rw [ef, if_pos ⟨rfl, d⟩, setL_in d]
      · rw [ef, if_neg (by omega), if_neg (by omega), e _ (by omega) (by omega)]; exact h10 i hi
    · rw [ef, if_neg (by omega), if_neg (by omega), e _ (by omega) (by omega)]; exact h11 i hi1 hi
    · rw [ef, if_neg (by omega), if_neg (by omega)]; exact h12
    · rw [ef, if_neg (by omega), if_neg (by omega), e _ (by omega) (by omega)]; exact h13 i hi
    · rw [ef, if_neg (by omega), if_neg (by omega), e _ (by omega) (by omega)]; exact h14 i hi
  · funext j
    rw [ef, if_neg (by omega), if_neg (by omega)]
theorem isLetM {tx : Nat → Nat} {len : Nat} (hX : TX tx len) {μ : Mm} (h : TM tx len μ) {p : Nat} (hp : p < 2 ^ 30) : f_X7_isLetter (nI p) μ = some (bI (ltr (bt tx len p)), μ) := by
  have hl := hX.1
  rw [f_X7_isLetter, h.1]
  by_cases c : p < len
  · have hb : bt tx len p = tx p := by unfold bt; rw [if_pos c]
    have := hX.2 p c
    rw [if_neg (by rw [nI_leI (by omega) (by omega)]; omega), if_pos (zin_nI (by omega) (by omega)), nI_clamp (by omega), h.2 p c, hb]
    have w := wM (nI (tx p)) 97 104 (by omega) (by omega) 97 104 (by decide +kernel) (by decide +kernel) μ
    unfold ltr
    by_cases d : 97 ≤ tx p ∧ tx p ≤ 104
    · rw [w.1 ⟨tx p, d.1, d.2, rfl⟩, bd_some, if_neg (by decide), decide_eq_true d.1, decide_eq_true d.2]; rfl
    · rw [w.2 (by rintro ⟨k, h1, h2, h3⟩; rw [nI_eq (by omega) (by omega)] at h3; omega), bd_some, if_pos rfl]
      have : (decide (97 ≤ tx p) && decide (tx p ≤ 104)) = false := by
        rw [← Bool.not_eq_true, Bool.and_eq_true, decide_eq_true_eq, decide_eq_true_eq]
        exact d
      rw [this]; rfl
  · have hb : bt tx len p = 999 := by unfold bt; rw [if_neg c]
    rw [if_pos ((nI_leI (by omega) (by omega)).mpr (by omega)), hb]
    rfl
theorem lpLineM {tx : Nat → Nat} {len : Nat} (hX : TX tx len) (K : Mm → Option (Int32 × Mm)) {q c : Nat} {N : Nat → Nat} (hc : c ≤ 40) (hL : LET tx len q c) : ∀ (t f i : Nat) (μ : Mm), i + t = c → t < f → TM tx len μ → MR μ (setL tx len q N i) → ∃ μ2, lp_X7_setsLine_9 f (nI (q + i)) μ K = K μ2 ∧ MR μ2 (setL tx len q N c) ∧ ∀ a, a ≠ 1 → μ2.1 a = μ.1 a := by
  have hl := hX.1
  have hqc := hL.1
  intro t
  induction t with
  | zero =>
    intro f i μ h1 h2 h hs
    obtain ⟨f, rfl⟩ : ∃ q, f = q + 1 := ⟨f - 1, by omega⟩
    have e : i = c := by omega
    subst e
    rw [lp_X7_setsLine_9, isLetM hX h (by omega), bd_some, hL.2.2, if_pos (show bI false = 0 from rfl)]
    exact ⟨μ, rfl, hs, fun _ _ => rfl⟩
  | succ t ih =>
    intro f i μ h1 h2 h hs
    obtain ⟨f, rfl⟩ : ∃ q, f = q + 1 := ⟨f - 1, by omega⟩
    have hli := hL.2.1 i (by omega)
    obtain ⟨d1, d2, d3, d4⟩ := ltr_lt hli
    have hb : bt tx len (q + i) = tx (q + i) := by unfold bt; rw [if_pos d1]
    have e1 : μ.1 1 1 = nI i := by rw [hs 1 (by omega), setL_1]
    have e5 : μ.1 5 (q + i) = nI (bt tx len (q + i)) := by rw [hb]; exact h.2 _ d1
    have e2 : ∀ v, (si μ 1 (69 + i) v).1 1 1 = nI i := fun v => by rw [si_rd, if_neg (by omega)]; exact e1
    rw [lp_X7_setsLine_9, isLetM hX h (by omega), bd_some, hli, if_neg (show ¬ bI true = 0 by decide), if_pos (zin_nI (by omega) (by omega)), e1, i69, nI_add, if_pos (zin_nI (by omega) (by omega)), nI_clamp (by omega), nI_clamp (by omega), e5, show nI (bt tx len (q + i)) - (97 : Int32) = nI (bt tx len (q + i) - 97) by rw [show (97 : Int32) = nI 97 by decide +kernel]; exact pk_sub d2, nI_1, nI_1, show bt tx len (q + i) - 97 + 1 = bt tx len (q + i) - 96 by omega, e2, nI_1]
    have es : setN (setN (setL tx len q N i) (69 + i) (bt tx len (q + i) - 96)) 1 (i + 1) = setL tx len q N (i + 1) := by
      funext k
      unfold setN
      by_cases a1 : k = 1
      · rw [if_pos a1, a1, setL_1]
      · rw [if_neg a1]
        by_cases a2 : k = 69 + i
        · rw [if_pos a2, a2, setL_in (by omega)]
        · rw [if_neg a2]
          by_cases a3 : 69 ≤ k ∧ k < 69 + i
          · obtain ⟨z, rfl⟩ : ∃ z, k = 69 + z := ⟨k - 69, by omega⟩
            rw [setL_in (by omega), setL_in (by omega)]
          · rw [setL_out a1 (by omega), setL_out a1 (by omega)]
    have hs2 := MR_set (MR_set hs (69 + i) (bt tx len (q + i) - 96)) 1 (i + 1)
    rw [es] at hs2
    obtain ⟨μ2, g1, g2, g3⟩ := ih f (i + 1) (si (si μ 1 (69 + i) (nI (bt tx len (q + i) - 96))) 1 1 (nI (i + 1))) (by omega) (by omega) ⟨by rw [si_ne1 (by omega), si_ne1 (by omega)]; exact h.1, fun j hj => by rw [si_ne1 (by omega), si_ne1 (by omega)]; exact h.2 j hj⟩ hs2
    rw [show q + (i + 1) = q + i + 1 by omega] at g1
    exact ⟨μ2, g1, g2, fun a ha => by rw [g3 a ha, si_ne1 ha, si_ne1 ha]⟩
theorem lineM {tx : Nat → Nat} {len : Nat} (hX : TX tx len) {q c : Nat} {N : Nat → Nat} (hc : c ≤ 40) (hL : LET tx len q c) {μ : Mm} (h : TM tx len μ) (hs : MR μ N) : ∃ μ2, f_X7_setsLine (nI q) μ = some (nI c, μ2) ∧ MR μ2 (setL tx len q N c) ∧ ∀ a, a ≠ 1 → μ2.1 a = μ.1 a := by
  have es : setN N 1 0 = setL tx len q N 0 := by
    funext k
    unfold setN setL
    by_cases a1 : k = 1
    · rw [if_pos a1, if_pos a1]
    · rw [if_neg a1, if_neg a1, if_neg (by omega)]
  have hs2 := MR_set hs 1 0
  rw [es] at hs2
  obtain ⟨μ2, g1, g2, g3⟩ := lpLineM hX (fun μ4 => some (μ4.1 1 1, μ4)) hc hL c FU 0 (si μ 1 1 (nI 0)) (by omega) (by unfold FU; omega) ⟨by rw [si_ne1 (by omega)]; exact h.1, fun j hj => by rw [si_ne1 (by omega)]; exact h.2 j hj⟩ hs2
  refine ⟨μ2, ?_, g2, fun a ha => by rw [g3 a ha, si_ne1 ha]⟩
  rw [f_X7_setsLine, iz0]
  rw [Nat.add_zero] at g1
  rw [g1, g2 1 (by omega), setL_1]
def cdN (tx : Nat → Nat) (len q : Nat) : Nat → Nat
  | 0 => 0
  | i + 1 => cdN tx len q i * 10 + (bt tx len (q + i) - 96)
theorem lpCodeC {tx : Nat → Nat} {len : Nat} (K : Int32 → Mm → Option (Int32 × Mm)) {q c : Nat} (hc : c ≤ 6) {μ : Mm} (h6 : μ.1 78 6 = nI c) (h81 : ∀ j, j < c → μ.1 81 j = nI (bt tx len (q + j) - 96)) : ∀ (t f i : Nat), i + t = c → t < f → lp_X5_lettersAsCode_4 f (nI (cdN tx len q i)) (nI i) μ K = K (nI (cdN tx len q c)) μ := by
  intro t
  induction t with
  | zero =>
    intro f i h1 h2
    obtain ⟨f, rfl⟩ : ∃ q, f = q + 1 := ⟨f - 1, by omega⟩
    rw [lp_X5_lettersAsCode_4, h6, if_pos ((nI_leI (by omega) (by omega)).mpr (by omega)), show i = c by omega]
  | succ t ih =>
    intro f i h1 h2
    obtain ⟨f, rfl⟩ : ∃ q, f = q + 1 := ⟨f - 1, by omega⟩
    rw [lp_X5_lettersAsCode_4, h6, if_neg (by rw [nI_leI (by omega) (by omega)]; omega), i6, if_neg (by rw [nI_leI (by omega) (by omega)]; omega), if_pos (zin_nI (by omega) (by omega)), nI_clamp (by omega), h81 i (by omega), i10, pk_mul, nI_add, nI_1]
    exact ih f (i + 1) (by omega) (by omega)
theorem lpCodeM {tx : Nat → Nat} {len : Nat} (hX : TX tx len) (K : Int32 → Mm → Option (Int32 × Mm)) {q c : Nat} (hL : LET tx len q c) {μ : Mm} (h : TM tx len μ) : ∀ (t f i : Nat), i + t = c → t < f → lp_X7_codeFrom_4 f (nI (cdN tx len q i)) (nI (q + i)) μ K = K (nI (cdN tx len q c)) μ := by
  have hl := hX.1
  have hqc := hL.1
  intro t
  induction t with
  | zero =>
    intro f i h1 h2
    obtain ⟨f, rfl⟩ : ∃ q, f = q + 1 := ⟨f - 1, by omega⟩
    have e : i = c := by omega
    subst e
    rw [lp_X7_codeFrom_4, isLetM hX h (by omega), bd_some, hL.2.2, if_pos (show bI false = 0 from rfl)]
  | succ t ih =>
    intro f i h1 h2
    obtain ⟨f, rfl⟩ : ∃ q, f = q + 1 := ⟨f - 1, by omega⟩
    have hli := hL.2.1 i (by omega)
    obtain ⟨d1, d2, d3, d4⟩ := ltr_lt hli
    have hb : bt tx len (q + i) = tx (q + i) := by unfold bt; rw [if_pos d1]
    have e5 : μ.1 5 (q + i) = nI (bt tx len (q + i)) := by rw [hb]; exact h.2 _ d1
    rw [lp_X7_codeFrom_4, isLetM hX h (by omega), bd_some, hli, if_neg (show ¬ bI true = 0 by decide), if_pos (zin_nI (by omega) (by omega)), nI_clamp (by omega), e5, i10, pk_mul, nI_add, show nI (10 * cdN tx len q i + bt tx len (q + i)) - (97 : Int32) = nI (10 * cdN tx len q i + bt tx len (q + i) - 97) by rw [show (97 : Int32) = nI 97 by decide +kernel]; exact pk_sub (by omega), nI_1, nI_1, show 10 * cdN tx len q i + bt tx len (q + i) - 97 + 1 = cdN tx len q i * 10 + (bt tx len (q + i) - 96) by omega]
    exact ih f (i + 1) (by omega) (by omega)
theorem codeC {tx : Nat → Nat} {len : Nat} {q c : Nat} (hc : c ≤ 6) {μ : Mm} (h6 : μ.1 78 6 = nI c) (h81 : ∀ j, j < c → μ.1 81 j = nI (bt tx len (q + j) - 96)) : f_X5_lettersAsCode μ = some (nI (cdN tx len q c), μ) := by
  have := lpCodeC (fun x3 μ4 => some (x3, μ4)) hc h6 h81 c FU 0 (by omega) (by unfold FU; omega)
  rw [show nI (cdN tx len q 0) = (0 : Int32) from iz0.symm, ← iz0] at this
  exact this
theorem codeM {tx : Nat → Nat} {len : Nat} (hX : TX tx len) {q c : Nat} (hL : LET tx len q c) {μ : Mm} (h : TM tx len μ) : f_X7_codeFrom (nI q) μ = some (nI (cdN tx len q c), μ) := by
  have hl := hX.1
  have := hL.1
  have := lpCodeM hX (fun x4 μ5 => some (x4, μ5)) hL h c FU 0 (by omega) (by unfold FU; omega)
  rw [show nI (cdN tx len q 0) = (0 : Int32) from iz0.symm, Nat.add_zero] at this
  exact this
