/-! an order is done by both -/
def FrOm (μ μ2 : Mm) : Prop := (∀ a, (a = 2 ∨ a = 3 ∨ a = 4 ∨ a = 5 ∨ a = 11 ∨ a = 12) → μ2.1 a = μ.1 a) ∧ ∀ k, (k = 3 ∨ k = 6 ∨ k = 19) → μ2.1 0 k = μ.1 0 k
theorem FrOm.trans {μ μ2 μ3 : Mm} (h : FrOm μ μ2) (g : FrOm μ2 μ3) : FrOm μ μ3 := ⟨fun a x => (g.1 a x).trans (h.1 a x), fun k x => (g.2 k x).trans (h.2 k x)⟩
theorem FrOm.rfl' (μ : Mm) : FrOm μ μ := ⟨fun _ _ => rfl, fun _ _ => rfl⟩
theorem FrOm.tm {tx : Nat → Nat} {len : Nat} {μ μ2 : Mm} (h : FrOm μ μ2) (hT : TM tx len μ) : TM tx len μ2 := ⟨by rw [h.2 6 (by omega)]; exact hT.1, fun i hi => by rw [h.1 5 (by omega)]; exact hT.2 i hi⟩
/-- what both do at an order -/
def DB (FC FM : Option (Int32 × Mm)) (B2 : Nat) (μC μM : Mm) : Prop := ∃ r N2 μC2 μM2, FC = some (r, μC2) ∧ FM = some (r, μM2) ∧ SR μC2 1 N2 ∧ (∀ a, 22 ≤ a → μC2.1 a = μC.1 a) ∧ MR μM2 N2 ∧ FrOm μM μM2 ∧ Ok B2 N2
theorem ofOP {FC FM : Mm → Option (Int32 × Mm)} {B B2 B3 : Nat} {N : Nat → Nat} (h : OP FC FM B B2 N) (hB : B2 ≤ B3) {μC μM : Mm} (hs : SR μC 1 N) (hsM : MR μM N) : DB (FC μC) (FM μM) B3 μC μM := by
  obtain ⟨r, N2, a, b, c, d⟩ := h
  obtain ⟨μC2, a1, a2, a3⟩ := a μC hs
  obtain ⟨μM2, b1, b2, b3, b4⟩ := b μM hsM
  exact ⟨r, N2, μC2, μM2, a1, b1, a2, a3, b2, ⟨b3, b4⟩, d.mono hB⟩
theorem DB.eq {FC FM GC GM : Option (Int32 × Mm)} {B2 : Nat} {μC μM : Mm} (h : DB FC FM B2 μC μM) (e1 : GC = FC) (e2 : GM = FM) : DB GC GM B2 μC μM := by
  rw [e1, e2]; exact h
theorem kinds {k : Nat} (h : nmk k ≠ 3) : k = 98 ∨ k = 101 ∨ k = 102 ∨ k = 107 ∨ k = 108 ∨ k = 115 ∨ k = 116 ∨ k = 119 ∨ k = 120 := by
  unfold nmk at h
  by_cases h98 : k = 98
  · omega
  by_cases h101 : k = 101
  · omega
  by_cases h102 : k = 102
  · omega
  by_cases h107 : k = 107
  · omega
  by_cases h108 : k = 108
  · omega
  by_cases h115 : k = 115
  · omega
  by_cases h116 : k = 116
  · omega
  by_cases h119 : k = 119
  · omega
  by_cases h120 : k = 120
  · omega
  rw [if_neg h98, if_neg h101, if_neg h102, if_neg h107, if_neg h108, if_neg h115, if_neg h116, if_neg h119, if_neg h120] at h
  exact absurd rfl h
theorem ordBoth {tx : Nat → Nat} {len : Nat} (hX : TX tx len) {B j : Nat} {N : Nat → Nat} {x : Nat × Nat × Nat × Nat × Nat} (hx : OK1 tx len x) (hB : B < 2 ^ 24) (hO : Ok B N) (hj : j ≤ 75) {μC μM : Mm} (hC : CO tx len μC x.1 x.2) (hs : SR μC 1 N) (hM : MO μM j x.1 x.2) (hT : TM tx len μM) (hsM : MR μM N) : DB (f_X6_doOrder μC) (f_X7_doesOrder (nI j) μM) (B + 40) μC μM := by
  obtain ⟨k, a, b, q, c⟩ := x
  obtain ⟨x1, x2, x3⟩ := hx
  obtain ⟨c1, c2, c3, c4, c5⟩ := hC
  obtain ⟨m1, m2, m3, m4, m5⟩ := hM
  simp only at x1 x2 x3 c1 c2 c3 c4 c5 m1 m2 m3 m4 m5
  have j2 : (2 : Int32) * nI j = nI (2 * j) := by rw [i2, pk_mul]
  have ed : f_X7_doesOrder (nI j) μM = if (μM.1 11 j) = 98 then (bd (f_X7_sets (3 : Int32) (μM.1 12 (2 * j)) (0 : Int32) (15 : Int32) μM) fun r2 μ3 => some (r2, μ3)) else (if (μM.1 11 j) = 101 then (bd (f_X7_sets (4 : Int32) (μM.1 12 (2 * j)) (0 : Int32) (15 : Int32) μM) fun r5 μ6 => some (r5, μ6)) else (if (μM.1 11 j) = 102 then (bd (f_X7_codeFrom (μM.1 12 (2 * j + 1)) μM) fun r8 μ9 => bd (f_X7_addsPhrase (μM.1 12 (2 * j)) r8 μ9) fun r10 μ11 => some (r10, μ11)) else (if (μM.1 11 j) = 107 then (bd (f_X7_setsMark (μM.1 12 (2 * j)) (μM.1 12 (2 * j + 1)) μM) fun r13 μ14 => some (r13, μ14)) else (if (μM.1 11 j) = 108 then (bd (f_X7_setsLine (μM.1 12 (2 * j)) μM) fun r16 μ17 => some (r16, μ17)) else (if (μM.1 11 j) = 115 then (bd (f_X7_singsOne (μM.1 12 (2 * j)) μM) fun r19 μ20 => some (r19, μ20)) else (if (μM.1 11 j) = 116 then (bd (f_X7_sets (2 : Int32) (μM.1 12 (2 * j)) (1 : Int32) (40 : Int32) μM) fun r22 μ23 => some (r22, μ23)) else (if (μM.1 11 j) = 119 then (bd (f_X7_setsFollows (μM.1 12 (2 * j)) (μM.1 12 (2 * j + 1)) μM) fun r25 μ26 => some (r25, μ26)) else (bd (f_X7_dropsPhrase (μM.1 12 (2 * j)) μM) fun r27 μ28 => some (r27, μ28))))))))) := by
    rw [f_X7_doesOrder, j2, nI_1, if_pos (zin_nI (by omega) (by omega)), if_pos (zin_nI (by omega) (by omega)), if_pos (zin_nI (by omega) (by omega)), nI_clamp (by omega), nI_clamp (by omega), nI_clamp (by omega)]
  rcases kinds x1 with rfl | rfl | rfl | rfl | rfl | rfl | rfl | rfl | rfl
  · refine (ofOP (op_begins (nI a) hO) (B3 := B + 40) (by omega) hs hsM).eq ?_ ?_
    · rw [f_X6_doOrder, c1, if_pos (by decide +kernel), c2 (by decide), bd_id]
    · rw [ed, m1, if_pos (by decide +kernel), m2 (by decide), bd_id]
  · refine (ofOP (op_ends (nI a) hO) (B3 := B + 40) (by omega) hs hsM).eq ?_ ?_
    · rw [f_X6_doOrder, c1, if_neg (by decide +kernel), if_pos (by decide +kernel), c2 (by decide), bd_id]
    · rw [ed, m1, if_neg (by decide +kernel), if_pos (by decide +kernel), m2 (by decide), bd_id]
  · obtain ⟨y1, y2⟩ := x2 rfl
    refine (ofOP (op_phrase (nI a) (nI (cdN tx len q c)) hO (by omega)) (B3 := B + 40) (by omega) hs hsM).eq ?_ ?_
    · rw [f_X6_doOrder, c1, if_neg (by decide +kernel), if_neg (by decide +kernel), if_pos (by decide +kernel), codeC y1 c4 c5, bd_some, c2 (by decide), bd_id]
    · rw [ed, m1, if_neg (by decide +kernel), if_neg (by decide +kernel), if_pos (by decide +kernel), m4 rfl, m2 (by decide), codeM hX y2 hT, bd_some, bd_id]
  · refine (ofOP (op_marks (nI a) (nI b) hO) (B3 := B + 40) (by omega) hs hsM).eq ?_ ?_
    · rw [f_X6_doOrder, c1, if_neg (by decide +kernel), if_neg (by decide +kernel), if_neg (by decide +kernel), if_pos (by decide +kernel), c2 (by decide), c3 (by decide), bd_id]
    · rw [ed, m1, if_neg (by decide +kernel), if_neg (by decide +kernel), if_neg (by decide +kernel), if_pos (by decide +kernel), m2 (by decide), m3 (by decide), bd_id]
  · obtain ⟨y1, y2⟩ := x3 rfl
    obtain ⟨μC2, a1, a2, a3⟩ := lineC y1 hs c5
    obtain ⟨μM2, b1, b2, b3⟩ := lineM hX y1 y2 hT hsM
    refine ⟨nI c, _, μC2, μM2, ?_, ?_, a2, a3, b2, ⟨fun a ha => b3 a (by omega), fun k hk => by rw [b3 0 (by omega)]⟩, (setL_ok y1 y2 hO).mono (by omega)⟩
    · rw [f_X6_doOrder, c1, if_neg (by decide +kernel), if_neg (by decide +kernel), if_neg (by decide +kernel), if_neg (by decide +kernel), if_pos (by decide +kernel), c4, a1, bd_some]
    · rw [ed, m1, if_neg (by decide +kernel), if_neg (by decide +kernel), if_neg (by decide +kernel), if_neg (by decide +kernel), if_pos (by decide +kernel), m5 rfl, b1, bd_some]
  · refine (ofOP (op_sings (nI a) hB hO) (B3 := B + 40) (Nat.le_refl _) hs hsM).eq ?_ ?_
    · rw [f_X6_doOrder, c1, if_neg (by decide +kernel), if_neg (by decide +kernel), if_neg (by decide +kernel), if_neg (by decide +kernel), if_neg (by decide +kernel), if_pos (by decide +kernel), c2 (by decide), bd_id]
    · rw [ed, m1, if_neg (by decide +kernel), if_neg (by decide +kernel), if_neg (by decide +kernel), if_neg (by decide +kernel), if_neg (by decide +kernel), if_pos (by decide +kernel), m2 (by decide), bd_id]
  · refine (ofOP (op_metre (nI a) hO) (B3 := B + 40) (by omega) hs hsM).eq ?_ ?_
    · rw [f_X6_doOrder, c1, if_neg (by decide +kernel), if_neg (by decide +kernel), if_neg (by decide +kernel), if_neg (by decide +kernel), if_neg (by decide +kernel), if_neg (by decide +kernel), if_pos (by decide +kernel), c2 (by decide), bd_id]
    · rw [ed, m1, if_neg (by decide +kernel), if_neg (by decide +kernel), if_neg (by decide +kernel), if_neg (by decide +kernel), if_neg (by decide +kernel), if_neg (by decide +kernel), if_pos (by decide +kernel), m2 (by decide), bd_id]
  · refine (ofOP (op_follows (nI a) (nI b) hO) (B3 := B + 40) (by omega) hs hsM).eq ?_ ?_
    · rw [f_X6_doOrder, c1, if_neg (by decide +kernel), if_neg (by decide +kernel), if_neg (by decide +kernel), if_neg (by decide +kernel), if_neg (by decide +kernel), if_neg (by decide +kernel), if_neg (by decide +kernel), if_pos (by decide +kernel), c2 (by decide), c3 (by decide), bd_id]
    · rw [ed, m1, if_neg (by decide +kernel), if_neg (by decide +kernel), if_neg (by decide +kernel), if_neg (by decide +kernel), if_neg (by decide +kernel), if_neg (by decide +kernel), if_neg (by decide +kernel), if_pos (by decide +kernel), m2 (by decide), m3 (by decide), bd_id]
  · refine (ofOP (op_drops (nI a) hO) (B3 := B + 40) (by omega) hs hsM).eq ?_ ?_
    · rw [f_X6_doOrder, c1, if_neg (by decide +kernel), if_neg (by decide +kernel), if_neg (by decide +kernel), if_neg (by decide +kernel), if_neg (by decide +kernel), if_neg (by decide +kernel), if_neg (by decide +kernel), if_neg (by decide +kernel), if_pos (by decide +kernel), c2 (by decide), bd_id]
    · rw [ed, m1, if_neg (by decide +kernel), if_neg (by decide +kernel), if_neg (by decide +kernel), if_neg (by decide +kernel), if_neg (by decide +kernel), if_neg (by decide +kernel), if_neg (by decide +kernel), if_neg (by decide +kernel), m2 (by decide), bd_id]
theorem prs_len {tx : Nat → Nat} {len : Nat} : ∀ t p, p ≤ len → p + 2 * (prs tx len t p).2.length ≤ len := by
  intro t
  induction t with
  | zero => intro p h; exact h
  | succ t ih =>
    intro p h
    by_cases c : len ≤ p
    · rw [prs_end c]; exact h
    · cases d : (ordP tx len p).1 with
      | true =>
        have hle := ordP_le (tx := tx) h
        obtain ⟨e1, e2, -⟩ := hle.2 d
        have := ih (ordP tx len p).2.1 hle.1
        rw [prs_ok (by omega) d, List.length_cons]
        omega
      | false => rw [prs_no (by omega) d]; exact h
/-- the class, while it does the orders -/
def FrS (μ μ2 : Mm) : Prop := (∀ a, 22 ≤ a → a ≠ 78 → a ≠ 80 → a ≠ 81 → μ2.1 a = μ.1 a) ∧ μ2.1 78 1 = μ.1 78 1
theorem FrS.trans {μ μ2 μ3 : Mm} (h : FrS μ μ2) (g : FrS μ2 μ3) : FrS μ μ3 := ⟨fun a x y z w => (g.1 a x y z w).trans (h.1 a x y z w), g.2.trans h.2⟩
theorem FrT.s {μ μ2 : Mm} (h : FrT μ μ2) : FrS μ μ2 := ⟨fun a _ x y z => h.1 a x y z, h.2⟩
theorem FrS.tc {tx : Nat → Nat} {len : Nat} {μ μ2 : Mm} (h : FrS μ μ2) (hT : TC tx len μ) : TC tx len μ2 := hT.fr h.2 (h.1 79 (by omega) (by omega) (by omega) (by omega))
theorem lpDo {tx : Nat → Nat} {len : Nat} (hX : TX tx len) (KC : Int32 → Mm → Option (Int32 × Mm)) (KM : Mm → Option (Int32 × Mm)) : ∀ (t p j fC fM B : Nat) (N : Nat → Nat) (μC μM : Mm), (prs tx len t p).1 = none → len - p < t → p ≤ len → 2 * j ≤ p → t < fC → t < fM → B + 40 * (prs tx len t p).2.length < 2 ^ 24 → Ok B N → SR μC 1 N → TC tx len μC → μC.1 78 2 = nI p → MR μM N → TM tx len μM → MOs μM j (prs tx len t p).2 → μM.1 0 19 = nI (j + (prs tx len t p).2.length) →
    ∃ μC2 μM2, FrS μC μC2 ∧ FrOm μM μM2 ∧
    ((∃ N2, lp_X6_reads_38 fC (nI j) μC KC = KC (nI (j + (prs tx len t p).2.length)) μC2 ∧ lp_X7_reads_21 fM (nI j) μM KM = KM μM2 ∧ SR μC2 1 N2 ∧ MR μM2 N2 ∧ Ok (B + 40 * (prs tx len t p).2.length) N2) ∨
    (∃ i, lp_X6_reads_38 fC (nI j) μC KC = (bd (f_X3_restoreStaged μC2) fun r15 μ16 => some ((-1000 : Int32) - nI i, μ16)) ∧ lp_X7_reads_21 fM (nI j) μM KM = lp_X7_reads_39 (nI i) FU (0 : Int32) μM2 (fun μ11 => some ((-1000 : Int32) - nI i, μ11)))) := by
  have hl := hX.1
  intro t
  induction t with
  | zero => intro p j fC fM B N μC μM _ h1; omega
  | succ t ih =>
    intro p j fC fM B N μC μM h0 h1 h2 h3 h4 h5 hB hO hs hTC hat hsM hTM hMO h19
    obtain ⟨fC, rfl⟩ : ∃ q, fC = q + 1 := ⟨fC - 1, by omega⟩
    obtain ⟨fM, rfl⟩ : ∃ q, fM = q + 1 := ⟨fM - 1, by omega⟩
    obtain ⟨μa, a1, a2, a3, a4⟩ := orderC hX hTC h2 hat
    have hplen := prs_len (tx := tx) (t + 1) p h2
    rw [lp_X6_reads_38, i150, if_neg (by rw [nI_leI (by omega) (by omega)]; omega), a1, bd_some, lp_X7_reads_21, h19]
    by_cases c : len ≤ p
    · have hb : bt tx len p = 999 := by unfold bt; rw [if_neg (by omega)]
      have ho : (ordP tx len p).1 = false := by
        unfold ordP
        rw [hb, if_pos (show nmk 999 = 3 from rfl)]
      rw [prs_end c] at hB ⊢
      rw [ho, if_pos (show bI false = 0 from rfl), if_pos (show nI (j + ([] : List (Nat × Nat × Nat × Nat × Nat)).length) ≤ nI j from (nI_leI (by simp; omega) (by omega)).mpr (by simp))]
      exact ⟨μa, μM, a3.s, FrOm.rfl' μM, Or.inl ⟨N, rfl, rfl, hs.frame (fun a _ ha => a3.1 a (by omega) (by omega) (by omega)), hsM, hO⟩⟩
    · have hle := ordP_le (tx := tx) h2
      cases d : (ordP tx len p).1 with
      | false => rw [prs_no (by omega) d] at h0; cases h0
      | true =>
        obtain ⟨e1, e2, -⟩ := hle.2 d
        have hf := ord_facts h2 d
        rw [prs_ok (by omega) d] at h0 hB hMO h19 hplen ⊢
        rw [List.length_cons] at hB h19 hplen ⊢
        obtain ⟨hM1, hM2⟩ := hMO
        have hsa : SR μa 1 N := hs.frame (fun a _ ha => a3.1 a (by omega) (by omega) (by omega))
        obtain ⟨r, N2, μb, μm, b1, b2, b3, b4, b5, b6, b7⟩ := ordBoth hX hf (show B < 2 ^ 24 by omega) hO (show j ≤ 75 by omega) (a4 d) hsa hM1 hTM hsM
        rw [if_neg (show ¬ bI true = 0 by decide), b1, bd_some, if_neg (show ¬ nI (j + ((prs tx len t (ordP tx len p).2.1).2.length + 1)) ≤ nI j by rw [nI_leI (by omega) (by omega)]; omega), b2, bd_some, nI_1]
        have fs : FrS μC μb := a3.s.trans ⟨fun a x _ _ _ => b4 a x, by rw [b4 78 (by omega)]⟩
        by_cases hr : 0 ≤ r
        · rw [if_pos hr, if_pos hr]
          obtain ⟨μC2, μM2, g1, g2, g3⟩ := ih (ordP tx len p).2.1 (j + 1) fC fM (B + 40) N2 μb μm h0 (by omega) hle.1 (by omega) (by omega) (by omega) (by omega) b7 b3 (fs.tc hTC) (by rw [b4 78 (by omega)]; exact a2) b5 (b6.tm hTM) (MOs.fr (b6.1 11 (by omega)) (b6.1 12 (by omega)) _ _ hM2) (by rw [b6.2 19 (by omega), h19]; congr 1; omega)
          refine ⟨μC2, μM2, fs.trans g1, b6.trans g2, ?_⟩
          rcases g3 with ⟨N3, q1, q2, q3, q4, q5⟩ | ⟨i, q1, q2⟩
          · refine Or.inl ⟨N3, ?_, q2, q3, q4, q5.mono (by omega)⟩
            rw [q1]
            congr 2
            omega
          · exact Or.inr ⟨i, q1, q2⟩
        · rw [if_neg hr, if_neg hr]
          exact ⟨μb, μm, fs, b6, Or.inr ⟨j, rfl, rfl⟩⟩
theorem lpM_rest (cc : Int32) : ∀ (f i : Nat) (μ : Mm) (k : Mm → Option (Int32 × Mm)), i ≤ 148 → 149 ≤ f + i → ∃ μ2 : Mm, lp_X7_reads_39 cc f (nI i) μ k = k μ2 ∧ (∀ a, a ≠ 1 → μ2.1 a = μ.1 a) ∧ (∀ j, j < i → μ2.1 1 j = μ.1 1 j) ∧ (∀ j, i ≤ j → j < 148 → μ2.1 1 j = μ.1 2 j) := by
  intro f
  induction f with
  | zero => intro i μ k h1 h2; omega
  | succ f ih =>
    intro i μ k h1 h2
    rw [lp_X7_reads_39]
    by_cases hi : 148 ≤ i
    · rw [i148, if_pos ((nI_leI (by omega) (by omega)).mpr hi)]
      exact ⟨μ, rfl, fun _ _ => rfl, fun _ _ => rfl, fun j a b => by omega⟩
    · rw [i148, if_neg (fun q => hi ((nI_leI (by omega) (by omega)).mp q)), if_pos (zin_nI (by omega) (by omega)), if_pos (zin_nI (by omega) (by omega)), nI_clamp (by omega), nI_1]
      obtain ⟨μ2, e1, e3, e4, e5⟩ := ih (i + 1) (si μ 1 i (μ.1 2 i)) k (by omega) (by omega)
      refine ⟨μ2, e1, fun a ha => ?_, fun j hj => ?_, fun j hj hj2 => ?_⟩
      · rw [e3 a ha]
        exact si_ne1 ha
      · rw [e4 j (by omega), si_rd, if_neg (by omega)]
      · by_cases hji : j = i
        · subst hji
          rw [e4 _ (by omega), si_rd, if_pos ⟨rfl, rfl⟩]
        · rw [e5 j (by omega) hj2]
          rw [si_rd, if_neg (by omega)]
theorem leaves19 {N : Nat → Nat} {hist : Nat → Nat → Nat} {st : Nat} {tx : Nat → Nat} {len : Nat} {rf : Nat → Int32} {μ : Mm} (h : RM N hist st tx len rf μ) : ∃ μ2, f_X7_leaves μ = some ((), μ2) ∧ μ2.1 0 19 = μ.1 0 19 := by
  obtain ⟨h1, h2, h3, h4, h5, h6, h7⟩ := h
  rw [f_X7_leaves]
  by_cases hs : st = 5
  · subst hs
    rw [if_pos (by rw [h3]; decide +kernel), iz0]
    obtain ⟨μa, ea, a1, a2, a3⟩ := lpM_shift FU 0 μ (fun μ5 => lp_X7_leaves_51 FU (nI 0) (si μ5 0 3 ((μ5.1 0 3) - (1 : Int32))) (fun μ6 => some ((), (si μ6 0 3 ((μ6.1 0 3) + (1 : Int32)))))) (by omega) (by decide)
    rw [ea]
    have e4 : (μa.1 0 3) - (1 : Int32) = nI 4 := by rw [a1 0 (by omega), h3]; decide +kernel
    rw [e4]
    obtain ⟨μb, eb, b1, b2, b3⟩ := lpM_last FU 0 4 (si μa 0 3 (nI 4)) (fun μ6 => some ((), (si μ6 0 3 ((μ6.1 0 3) + (1 : Int32))))) (by omega) (by decide) (by omega) (by rw [si_rd, if_pos ⟨rfl, rfl⟩])
    rw [eb]
    exact ⟨_, rfl, by rw [si_rd, if_neg (by omega), b1 0 (by omega), si_rd, if_neg (by omega), a1 0 (by omega)]⟩
  · rw [if_neg (by rw [h3, i5, nI_eq (by omega) (by omega)]; exact hs), iz0]
    obtain ⟨μb, eb, b1, b2, b3⟩ := lpM_last FU 0 st μ (fun μ3 => some ((), (si μ3 0 3 ((μ3.1 0 3) + (1 : Int32))))) (by omega) (by decide) (by omega) h3
    rw [eb]
    exact ⟨_, rfl, by rw [si_rd, if_neg (by omega), b1 0 (by omega)]⟩
theorem st_reads (n : Nat) (hn : n < 512) : Sp Inv n f_X6_reads f_X7_reads := by
  intro μC μM hI
  obtain ⟨N, hist, st, tx, len, rf, hC, hM, hO, hH, hl, ht⟩ := hI
  have hX : TX tx len := ⟨hl, ht⟩
  have hst : st ≤ 5 := hM.2.1
  have hTC : TC tx len μC := by obtain ⟨g, g1, g2, g3, g4, g5, g6, g7, g8, g9⟩ := hC; exact ⟨g7, g8⟩
  have hTM : TM tx len μM := ⟨hM.2.2.2.2.1, hM.2.2.2.2.2.1⟩
  obtain ⟨μ1, a1, a2⟩ := faultC hX hTC
  have hR := readM hX hTM
  have hC1 : RC N hist st tx len rf μ1 := by
    obtain ⟨g, g1, g2, g3, g4, g5, g6, g7, g8, g9⟩ := hC
    have fr : ∀ a, a ≠ 78 → a ≠ 80 → a ≠ 81 → μ1.1 a = μC.1 a := a2.1
    exact ⟨g, g1, g2, g3.frame (fun a _ ha => fr a (by omega) (by omega) (by omega)), by rw [fr 22 (by omega) (by omega) (by omega)]; exact g4, by rw [fr 22 (by omega) (by omega) (by omega)]; exact g5, fun j hj => (g6 j hj).frame (fun a _ ha => fr a (by omega) (by omega) (by omega)), by rw [a2.2]; exact g7, fun i hi => by rw [fr 79 (by omega) (by omega) (by omega)]; exact g8 i hi, fun k hk => by rw [fr 82 (by omega) (by omega) (by omega)]; exact g9 k hk⟩
  cases hF : flt tx len with
  | some e =>
    obtain ⟨μm, b1, b2, b3⟩ := hR.1 e hF
    have he : e < 2 ^ 31 := by
      have h0 := skN_le (tx := tx) (show 0 ≤ len by omega)
      have key : ∀ t p e, p ≤ len → (prs tx len t p).1 = some e → e ≤ len := by
        intro t
        induction t with
        | zero => intro p e _ q; cases q
        | succ t ih =>
          intro p e hp q
          by_cases c : len ≤ p
          · rw [prs_end c] at q; cases q
          · have hle := ordP_le (tx := tx) hp
            cases d : (ordP tx len p).1 with
            | true => rw [prs_ok (by omega) d] at q; exact ih _ e hle.1 q
            | false => rw [prs_no (by omega) d] at q; cases q; exact hle.1
      unfold flt at hF
      split at hF
      · cases hF; omega
      · have := key _ _ _ h0.2 hF; omega
    rw [hF] at a1
    have a1 : f_X5_findFault μC = some (nI e, μ1) := a1
    refine ⟨(-10 : Int32) - nI e, μ1, μm, ?_, ?_, N, hist, st, tx, len, rf, hC1, hM.fr ⟨fun a x y => b3.1 a (by omega) (by omega) (by omega), b3.2.1 3 (by omega) (by omega) (by omega), b3.2.1 6 (by omega) (by omega) (by omega)⟩, hO.mono (by omega), fun j hj => (hH j hj).mono (by omega), hl, ht⟩
    · rw [f_X6_reads, a1, bd_some, if_neg (nI_m1 he)]
    · rw [f_X7_reads, b1, bd_some, if_pos rfl, b2]
  | none =>
    obtain ⟨μm, b1, b2, b3, b4⟩ := hR.2 hF
    have h0 := skN_le (tx := tx) (show 0 ≤ len by omega)
    have hpn : (prs tx len 151 (skN tx len 0)).1 = none := by
      unfold flt at hF
      split at hF
      · cases hF
      · exact hF
    have hM1 : RM N hist st tx len rf μm := hM.fr ⟨fun a x y => b4.1 a (by omega) (by omega) (by omega), b4.2.1 3 (by omega) (by omega) (by omega), b4.2.1 6 (by omega) (by omega) (by omega)⟩
    rw [hF] at a1
    have a1 : f_X5_findFault μC = some (-1, μ1) := a1
    obtain ⟨g, μs, e1, g1, g2, g3, g4, g5, g6, g7, g8, g9, g10⟩ := stageC hC1
    obtain ⟨μp, p1, p2, p3, p4⟩ := asideM hM1
    have hlen := prs_len (tx := tx) 151 (skN tx len 0) h0.2
    have hTs : TC tx len μs := ⟨g8, g9⟩
    have fr0 : FrT μs (si μs 78 2 (nI (skN tx len 0))) := FrT.si μs _ (Or.inl rfl) (by omega)
    obtain ⟨μC2, μM2, q1, q2, q3⟩ := lpDo hX (fun x17 μ18 => bd (f_X3_keepStaged μ18) fun r19 μ20 => some (x17, μ20)) (fun μ12 => bd (f_X7_leaves μ12) fun r13 μ14 => some (μ14.1 0 19, μ14)) 151 (skN tx len 0) 0 FU FU (6000 * n) N (si μs 78 2 (nI (skN tx len 0))) μp hpn (by omega) h0.2 (by omega) (by decide) (by decide) (by omega) hO (g3.frame (fun a _ ha => fr0.1 a (by omega) (by omega) (by omega))) (fr0.tc hTs) (by rw [si_rd, if_pos ⟨rfl, rfl⟩]) p2.1 ⟨p2.2.2.2.2.1, p2.2.2.2.2.2.1⟩ (MOs.fr (p4 11 (by omega)) (p4 12 (by omega)) _ _ b3) (by rw [p4 0 (by omega), Nat.zero_add]; exact b2)
    rw [← iz0] at q3
    have fs : FrS μs μC2 := fr0.s.trans q1
    have s1 : SR μC2 (24 + 9 * g) N := g4.frame (fun a x y => fs.1 a (by omega) (by omega) (by omega) (by omega))
    have s2 : μC2.1 22 1 = nI g := by rw [fs.1 22 (by omega) (by omega) (by omega) (by omega)]; exact g5
    have s3 : μC2.1 22 2 = nI st := by rw [fs.1 22 (by omega) (by omega) (by omega) (by omega)]; exact g6
    have s4 : ∀ j, j < st → SR μC2 (24 + 9 * ((g + 6 - st + j) % 6)) (hist j) := fun j hj => (g7 j hj).frame (fun a x y => fs.1 a (by omega) (by omega) (by omega) (by omega))
    have s5 : μC2.1 78 1 = nI len := by rw [fs.2]; exact g8
    have s6 : ∀ i, i < len → μC2.1 79 i = nI (tx i) := fun i hi => by rw [fs.1 79 (by omega) (by omega) (by omega) (by omega)]; exact g9 i hi
    have s7 : ∀ k, k < 4 → μC2.1 82 k = rf k := fun k hk => by rw [fs.1 82 (by omega) (by omega) (by omega) (by omega)]; exact g10 k hk
    obtain ⟨z1, z2, z3, z4, z5, z6, z7⟩ := p2
    have eC : ∀ r μ9, lp_X6_reads_38 FU 0 (si μs 78 2 (nI (skN tx len 0))) (fun x17 μ18 => bd (f_X3_keepStaged μ18) fun r19 μ20 => some (x17, μ20)) = some (r, μ9) → f_X6_reads μC = some (r, μ9) := fun r μ9 q => by
      rw [f_X6_reads, a1, bd_some, if_pos rfl, e1, bd_some, rewC hX hTs, bd_some, q]
    have eM : ∀ r μ9, lp_X7_reads_21 FU 0 μp (fun μ12 => bd (f_X7_leaves μ12) fun r13 μ14 => some (μ14.1 0 19, μ14)) = some (r, μ9) → f_X7_reads μM = some (r, μ9) := fun r μ9 q => by
      rw [f_X7_reads, b1, bd_some, if_neg (by decide), p1, bd_some, q]
    rcases q3 with ⟨N2, k1, k2, k3, k4, k5⟩ | ⟨i, k1, k2⟩
    · obtain ⟨μC3, y1, y2, -⟩ := keepC (rf := rf) g1 g2 k3 s1 s2 s3 s4 s5 s6 s7
      have hR2 : RM N2 hist st tx len rf μM2 := ⟨k4, z2, by rw [q2.2 3 (by omega)]; exact z3, fun j hj k hk => by rw [q2.1 3 (by omega)]; exact z4 j hj k hk, by rw [q2.2 6 (by omega)]; exact z5, fun i hi => by rw [q2.1 5 (by omega)]; exact z6 i hi, fun k hk => by rw [q2.1 4 (by omega)]; exact z7 k hk⟩
      obtain ⟨μM3, w1, w2⟩ := leavesM hR2 (N0 := N) (fun k hk => by rw [q2.1 2 (by omega)]; exact p3 k hk)
      obtain ⟨μM4, w3, w4⟩ := leaves19 hR2
      have : μM4 = μM3 := by rw [w1] at w3; cases w3; rfl
      subst this
      refine ⟨nI (0 + (prs tx len 151 (skN tx len 0)).2.length), μC3, μM4, eC _ _ ?_, eM _ _ ?_, N2, _, _, tx, len, rf, y2, w2, k5.mono (by omega), pushOk (fun j hj => (hH j hj).mono (by omega)) hst (hO.mono (by omega)), hl, ht⟩
      · rw [k1, y1, bd_some]
      · rw [k2, w1, bd_some, w4, q2.2 19 (by omega), p4 0 (by omega), b2, Nat.zero_add]
    · have f2 : ∀ c, 9 < c → (cpS μC2 1 (24 + 9 * g)).1 c = μC2.1 c := fun c hc => cpS_frame (by omega)
      obtain ⟨μM3, w1, w2, -, w4⟩ := lpM_rest (nI i) FU 0 μM2 (fun μ11 => some ((-1000 : Int32) - nI i, μ11)) (by omega) (by decide)
      rw [← iz0] at w1
      refine ⟨(-1000 : Int32) - nI i, cpS μC2 1 (24 + 9 * g), μM3, eC _ _ ?_, eM _ _ ?_, N, hist, st, tx, len, rf, ?_, ?_, hO.mono (by omega), fun j hj => (hH j hj).mono (by omega), hl, ht⟩
      · rw [k1, f_X3_restoreStaged, s2, if_pos (zin_nI g1 (by omega)), nI_clamp (by omega), bd_some]
      · rw [k2, w1]
      · exact ⟨g, g1, g2, cpS_SR s1 (by omega), by rw [f2 22 (by omega)]; exact s2, by rw [f2 22 (by omega)]; exact s3, fun j hj => (s4 j hj).frame (fun a ha _ => f2 a (by omega)), by rw [f2 78 (by omega)]; exact s5, fun i hi => by rw [f2 79 (by omega)]; exact s6 i hi, fun k hk => by rw [f2 82 (by omega)]; exact s7 k hk⟩
      · exact ⟨fun k hk => by rw [w4 k (by omega) hk, q2.1 2 (by omega)]; exact p3 k hk, z2, by rw [w2 0 (by omega), q2.2 3 (by omega)]; exact z3, fun j hj k hk => by rw [w2 3 (by omega), q2.1 3 (by omega)]; exact z4 j hj k hk, by rw [w2 0 (by omega), q2.2 6 (by omega)]; exact z5, fun i hi => by rw [w2 5 (by omega), q2.1 5 (by omega)]; exact z6 i hi, fun k hk => by rw [w2 4 (by omega), q2.1 4 (by omega)]; exact z7 k hk⟩
