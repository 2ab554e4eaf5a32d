theorem i_set {a : Int32} (μ : Mm) : (rng a 0 15 → f_X6_isSet a μ = some (1, μ)) ∧ (¬ rng a 0 15 → f_X6_isSet a μ = some (0, μ)) := by
  have h := wC a 0 15 (by omega) (by omega) 0 15 (by decide +kernel) (by decide +kernel) μ
  exact ⟨fun q => by rw [f_X6_isSet, h.1 q, bd_some, if_pos (by decide)], fun q => by rw [f_X6_isSet, h.2 q, bd_some, if_pos (by decide)]⟩
theorem i_slot {a : Int32} (μ : Mm) : (rng a 0 3 → f_X6_isSlot a μ = some (1, μ)) ∧ (¬ rng a 0 3 → f_X6_isSlot a μ = some (0, μ)) := by
  have h := wC a 0 3 (by omega) (by omega) 0 3 (by decide +kernel) (by decide +kernel) μ
  exact ⟨fun q => by rw [f_X6_isSlot, h.1 q, bd_some, if_pos (by decide)], fun q => by rw [f_X6_isSlot, h.2 q, bd_some, if_pos (by decide)]⟩
theorem i_maker {a : Int32} (μ : Mm) : (rng a 0 2 → f_X6_isMaker a μ = some (1, μ)) ∧ (¬ rng a 0 2 → f_X6_isMaker a μ = some (0, μ)) := by
  have h := wC a 0 2 (by omega) (by omega) 0 2 (by decide +kernel) (by decide +kernel) μ
  exact ⟨fun q => by rw [f_X6_isMaker, h.1 q, bd_some, if_pos (by decide)], fun q => by rw [f_X6_isMaker, h.2 q, bd_some, if_pos (by decide)]⟩
theorem j_maker {a : Int32} (μ : Mm) : (rng a 0 2 → f_X7_isMaker a μ = some (1, μ)) ∧ (¬ rng a 0 2 → f_X7_isMaker a μ = some (0, μ)) := by
  have h := wM a 0 2 (by omega) (by omega) 0 2 (by decide +kernel) (by decide +kernel) μ
  exact ⟨fun q => by rw [f_X7_isMaker, h.1 q, bd_some, if_pos (by decide)], fun q => by rw [f_X7_isMaker, h.2 q, bd_some, if_pos (by decide)]⟩
/-- the reference's setter at a place of its numbers -/
theorem setsM {N : Nat → Nat} (p : Nat) (hp : p < 148) (P a : Int32) (eP : P = nI p) (lo hi : Nat) (hl : lo < 2 ^ 31) (hh : hi < 2 ^ 31) (l h : Int32) (el : l = nI lo) (eh : h = nI hi) :
    (∀ k, lo ≤ k → k ≤ hi → a = nI k → OpM (f_X7_sets P a l h) N (nI (N p)) (setN N p k)) ∧ (¬ rng a lo hi → OpM (f_X7_sets P a l h) N (-2) N) := by
  have hw : ∀ μ, (rng a lo hi → f_X7_within a.toInt64 l.toInt64 h.toInt64 μ = some (1, μ)) ∧ (¬ rng a lo hi → f_X7_within a.toInt64 l.toInt64 h.toInt64 μ = some (0, μ)) := fun μ => wM a lo hi hl hh l.toInt64 h.toInt64 (by rw [el, nI_l hl]) (by rw [eh, nI_l hh]) μ
  constructor
  · intro k h1 h2 ek μ hm
    refine ⟨si μ 1 p a, ?_, by rw [ek]; exact MR_set hm p k, fun b hb => si_ne1 (by omega), fun b hb => by rw [si_ne1 (by omega)]⟩
    show f_X7_sets P a l h μ = _
    rw [f_X7_sets, (hw μ).1 ⟨k, h1, h2, ek⟩, bd_some, if_neg (by decide), eP, if_pos (zin_nI hp (by omega)), if_pos (zin_nI hp (by omega)), nI_clamp (by omega), hm p hp]
  · intro q μ hm
    refine ⟨μ, ?_, hm, fun _ _ => rfl, fun _ _ => rfl⟩
    show f_X7_sets P a l h μ = _
    rw [f_X7_sets, (hw μ).2 q, bd_some, if_pos rfl]
theorem Ok_set {B : Nat} {N : Nat → Nat} (h : Ok B N) {p k : Nat} (hp : (p = 2 ∧ 1 ≤ k ∧ k ≤ 40) ∨ (3 ≤ p ∧ p < 9 ∧ k ≤ 15) ∨ (109 ≤ p ∧ p < 148 ∧ k ≤ 2)) : Ok B (setN N p k) := by
  obtain ⟨⟨h1, h2, h3, h4⟩, h5, h6, h7, h8, h9, h10, h11, h12⟩ := h
  have e : ∀ j, j ≠ p → setN N p k j = N j := fun j hj => by unfold setN; rw [if_neg hj]
  have e2 : setN N p k p = k := by unfold setN; rw [if_pos rfl]
  refine ⟨⟨by rw [e 0 (by omega)]; exact h1, by rw [e 1 (by omega)]; exact h2, ?_, ?_⟩, fun j a b => ?_, fun i hi => by rw [e _ (by omega)]; exact h6 i hi, fun i hi => by rw [e _ (by omega)]; exact h7 i hi, fun i hi => by rw [e 0 (by omega)] at hi; rw [e _ (by omega)]; exact h8 i hi, fun j hj => by rw [e _ (by omega)]; exact h9 j hj, fun j hj => by rw [e _ (by omega)]; exact h10 j hj, fun j hj => by rw [e 1 (by omega)] at hj; rw [e _ (by omega)]; exact h11 j hj, fun q a b => ?_⟩
  · by_cases q : p = 2
    · subst q; rw [e2]; omega
    · rw [e 2 (by omega)]; exact h3
  · by_cases q : p = 2
    · subst q; rw [e2]; omega
    · rw [e 2 (by omega)]; exact h4
  · by_cases q : p = j
    · subst q; rw [e2]; omega
    · rw [e j (by omega)]; exact h5 j a b
  · by_cases q2 : p = 108 + q
    · subst q2; rw [e2]; omega
    · rw [e _ (by omega)]; exact h12 q a b
theorem nlt {B : Nat} {N : Nat → Nat} (h : Ok B N) (hB : B < 2 ^ 31) : ∀ k, k < 148 → N k < 2 ^ 31 := by
  obtain ⟨⟨h1, h2, h3, h4⟩, h5, h6, h7, h8, h9, h10, h11, h12⟩ := h
  intro k hk
  by_cases a0 : k < 3
  · have : k = 0 ∨ k = 1 ∨ k = 2 := by omega
    rcases this with rfl | rfl | rfl <;> omega
  by_cases a1 : k < 9
  · have := h5 k (by omega) a1; omega
  by_cases a2 : k < 21
  · have := h6 (k - 9) (by omega); rw [show 9 + (k - 9) = k by omega] at this; omega
  by_cases a3 : k < 33
  · have := h7 (k - 21) (by omega); rw [show 21 + (k - 21) = k by omega] at this
    rcases this with h | h
    · omega
    · have := h.2.1; omega
  by_cases a4 : k < 69
  · have := h9 (k - 33) (by omega); rw [show 33 + (k - 33) = k by omega] at this; omega
  by_cases a5 : k < 109
  · have := h10 (k - 69) (by omega); rw [show 69 + (k - 69) = k by omega] at this; omega
  · have := h12 (k - 108) (by omega) (by omega); rw [show 108 + (k - 108) = k by omega] at this; omega
theorem op_begins (a : Int32) {B : Nat} {N : Nat → Nat} (h : Ok B N) : OP (f_X4_setBegins a) (f_X7_sets 3 a 0 15) B B N := by
  have hM := setsM (N := N) 3 (by omega) 3 a (by decide +kernel) 0 15 (by omega) (by omega) 0 15 (by decide +kernel) (by decide +kernel)
  by_cases q : rng a 0 15
  · obtain ⟨k, k1, k2, rfl⟩ := q
    refine ⟨nI (N 3), setN N 3 k, fun μ hs => ⟨si μ 1 11 (nI k), ?_, SRs_beg hs k, fun b hb => si_ne1 (by omega)⟩, hM.1 k k1 k2 rfl, Or.inl ⟨N 3, by have := h.2.1 3 (by omega) (by omega); omega, rfl⟩, Ok_set h (by omega)⟩
    rw [f_X4_setBegins, (i_set μ).1 ⟨k, k1, k2, rfl⟩, bd_some, if_neg (by decide), hs.beg]
  · refine ⟨-2, N, fun μ hs => ⟨μ, ?_, hs, fun _ _ => rfl⟩, hM.2 q, Or.inr ⟨Or.inl rfl, rfl⟩, h⟩
    rw [f_X4_setBegins, (i_set μ).2 q, bd_some, if_pos rfl]
theorem op_ends (a : Int32) {B : Nat} {N : Nat → Nat} (h : Ok B N) : OP (f_X4_setEnds a) (f_X7_sets 4 a 0 15) B B N := by
  have hM := setsM (N := N) 4 (by omega) 4 a (by decide +kernel) 0 15 (by omega) (by omega) 0 15 (by decide +kernel) (by decide +kernel)
  by_cases q : rng a 0 15
  · obtain ⟨k, k1, k2, rfl⟩ := q
    refine ⟨nI (N 4), setN N 4 k, fun μ hs => ⟨si μ 1 12 (nI k), ?_, SRs_ens hs k, fun b hb => si_ne1 (by omega)⟩, hM.1 k k1 k2 rfl, Or.inl ⟨N 4, by have := h.2.1 4 (by omega) (by omega); omega, rfl⟩, Ok_set h (by omega)⟩
    rw [f_X4_setEnds, (i_set μ).1 ⟨k, k1, k2, rfl⟩, bd_some, if_neg (by decide), hs.ens]
  · refine ⟨-2, N, fun μ hs => ⟨μ, ?_, hs, fun _ _ => rfl⟩, hM.2 q, Or.inr ⟨Or.inl rfl, rfl⟩, h⟩
    rw [f_X4_setEnds, (i_set μ).2 q, bd_some, if_pos rfl]
theorem op_metre (a : Int32) {B : Nat} {N : Nat → Nat} (h : Ok B N) : OP (f_X4_setMetre a) (f_X7_sets 2 a 1 40) B B N := by
  have hM := setsM (N := N) 2 (by omega) 2 a (by decide +kernel) 1 40 (by omega) (by omega) 1 40 (by decide +kernel) (by decide +kernel)
  have hw : ∀ μ, _ := fun μ => wC a 1 40 (by omega) (by omega) 1 40 (by decide +kernel) (by decide +kernel) μ
  by_cases q : rng a 1 40
  · obtain ⟨k, k1, k2, rfl⟩ := q
    refine ⟨nI (N 2), setN N 2 k, fun μ hs => ⟨si μ 1 10 (nI k), ?_, SRs_met hs k, fun b hb => si_ne1 (by omega)⟩, hM.1 k k1 k2 rfl, Or.inl ⟨N 2, by have := h.1.2.2.2; omega, rfl⟩, Ok_set h (by omega)⟩
    rw [f_X4_setMetre, (hw μ).1 ⟨k, k1, k2, rfl⟩, bd_some, if_neg (by decide), hs.met]
  · refine ⟨-2, N, fun μ hs => ⟨μ, ?_, hs, fun _ _ => rfl⟩, hM.2 q, Or.inr ⟨Or.inl rfl, rfl⟩, h⟩
    rw [f_X4_setMetre, (hw μ).2 q, bd_some, if_pos rfl]
theorem op_follows (s a : Int32) {B : Nat} {N : Nat → Nat} (h : Ok B N) : OP (f_X4_setFollows s a) (f_X7_setsFollows s a) B B N := by
  have hw : ∀ μ, _ := fun μ => wM s 0 3 (by omega) (by omega) 0 3 (by decide +kernel) (by decide +kernel) μ
  by_cases q1 : rng s 0 3
  · obtain ⟨j, j1, j2, rfl⟩ := q1
    have hM := setsM (N := N) (5 + j) (by omega) (5 + nI j) a (by rw [i5, nI_add]) 0 15 (by omega) (by omega) 0 15 (by decide +kernel) (by decide +kernel)
    by_cases q : rng a 0 15
    · obtain ⟨k, k1, k2, rfl⟩ := q
      refine ⟨nI (N (5 + j)), setN N (5 + j) k, fun μ hs => ⟨si μ 9 j (nI k), ?_, SRs_fol hs (by omega) k, fun b hb => si_ne1 (by omega)⟩, fun μ hm => ?_, Or.inl ⟨N (5 + j), by have := h.2.1 (5 + j) (by omega) (by omega); omega, rfl⟩, Ok_set h (by omega)⟩
      · rw [f_X4_setFollows, (i_slot μ).1 ⟨j, j1, j2, rfl⟩, bd_some, if_neg (by decide), (i_set μ).1 ⟨k, k1, k2, rfl⟩, bd_some, if_neg (by decide), if_pos (zin_nI (by omega) (by omega)), if_pos (zin_nI (by omega) (by omega)), nI_clamp (by omega), hs.fol (by omega)]
      · obtain ⟨μ2, e, r1, r2, r3⟩ := hM.1 k k1 k2 rfl μ hm
        exact ⟨μ2, by rw [f_X7_setsFollows, (hw μ).1 ⟨j, j1, j2, rfl⟩, bd_some, if_neg (by decide), e, bd_some], r1, r2, r3⟩
    · refine ⟨-2, N, fun μ hs => ⟨μ, ?_, hs, fun _ _ => rfl⟩, fun μ hm => ?_, Or.inr ⟨Or.inl rfl, rfl⟩, h⟩
      · rw [f_X4_setFollows, (i_slot μ).1 ⟨j, j1, j2, rfl⟩, bd_some, if_neg (by decide), (i_set μ).2 q, bd_some, if_pos rfl]
      · obtain ⟨μ2, e, r1, r2, r3⟩ := hM.2 q μ hm
        exact ⟨μ2, by rw [f_X7_setsFollows, (hw μ).1 ⟨j, j1, j2, rfl⟩, bd_some, if_neg (by decide), e, bd_some], r1, r2, r3⟩
  · refine ⟨-2, N, fun μ hs => ⟨μ, ?_, hs, fun _ _ => rfl⟩, fun μ hm => ⟨μ, ?_, hm, fun _ _ => rfl, fun _ _ => rfl⟩, Or.inr ⟨Or.inl rfl, rfl⟩, h⟩
    · rw [f_X4_setFollows, (i_slot μ).2 q1, bd_some, if_pos rfl]
    · rw [f_X7_setsFollows, (hw μ).2 q1, bd_some, if_pos rfl]
theorem op_marks (s a : Int32) {B : Nat} {N : Nat → Nat} (h : Ok B N) : OP (f_X4_setMark s a) (f_X7_setsMark s a) B B N := by
  have hw : ∀ μ, _ := fun μ => wM s 1 39 (by omega) (by omega) 1 39 (by decide +kernel) (by decide +kernel) μ
  have hv : ∀ μ, _ := fun μ => wC s 1 39 (by omega) (by omega) 1 39 (by decide +kernel) (by decide +kernel) μ
  have hu : ∀ μ, _ := fun μ => wC a 0 2 (by omega) (by omega) 0 2 (by decide +kernel) (by decide +kernel) μ
  by_cases q1 : rng s 1 39
  · obtain ⟨j, j1, j2, rfl⟩ := q1
    have hM := setsM (N := N) (108 + j) (by omega) (108 + nI j) a (by rw [i108, nI_add]) 0 2 (by omega) (by omega) 0 2 (by decide +kernel) (by decide +kernel)
    by_cases q : rng a 0 2
    · obtain ⟨k, k1, k2, rfl⟩ := q
      refine ⟨nI (N (108 + j)), setN N (108 + j) k, fun μ hs => ⟨si μ 8 j (nI k), ?_, SRs_mar hs (by omega) (by omega) k, fun b hb => si_ne1 (by omega)⟩, fun μ hm => ?_, Or.inl ⟨N (108 + j), by have := h.2.2.2.2.2.2.2.2 j (by omega) (by omega); omega, rfl⟩, Ok_set h (by omega)⟩
      · rw [f_X4_setMark, (hv μ).1 ⟨j, j1, j2, rfl⟩, bd_some, if_neg (by decide), (hu μ).1 ⟨k, k1, k2, rfl⟩, bd_some, if_neg (by decide), if_pos (zin_nI (by omega) (by omega)), if_pos (zin_nI (by omega) (by omega)), nI_clamp (by omega), hs.mar (by omega) (by omega)]
      · obtain ⟨μ2, e, r1, r2, r3⟩ := hM.1 k k1 k2 rfl μ hm
        exact ⟨μ2, by rw [f_X7_setsMark, (hw μ).1 ⟨j, j1, j2, rfl⟩, bd_some, if_neg (by decide), e, bd_some], r1, r2, r3⟩
    · refine ⟨-2, N, fun μ hs => ⟨μ, ?_, hs, fun _ _ => rfl⟩, fun μ hm => ?_, Or.inr ⟨Or.inl rfl, rfl⟩, h⟩
      · rw [f_X4_setMark, (hv μ).1 ⟨j, j1, j2, rfl⟩, bd_some, if_neg (by decide), (hu μ).2 q, bd_some, if_pos rfl]
      · obtain ⟨μ2, e, r1, r2, r3⟩ := hM.2 q μ hm
        exact ⟨μ2, by rw [f_X7_setsMark, (hw μ).1 ⟨j, j1, j2, rfl⟩, bd_some, if_neg (by decide), e, bd_some], r1, r2, r3⟩
  · refine ⟨-2, N, fun μ hs => ⟨μ, ?_, hs, fun _ _ => rfl⟩, fun μ hm => ⟨μ, ?_, hm, fun _ _ => rfl, fun _ _ => rfl⟩, Or.inr ⟨Or.inl rfl, rfl⟩, h⟩
    · rw [f_X4_setMark, (hv μ).2 q1, bd_some, if_pos rfl]
    · rw [f_X7_setsMark, (hw μ).2 q1, bd_some, if_pos rfl]
theorem OP.mono {FC FM : Mm → Option (Int32 × Mm)} {B B2 B3 : Nat} {N : Nat → Nat} (h : OP FC FM B B2 N) (hB : B2 ≤ B3) : OP FC FM B B3 N := by
  obtain ⟨r, N2, a, b, c, d⟩ := h
  exact ⟨r, N2, a, b, c, d.mono hB⟩
theorem st_begins (n : Nat) (a : Int32) : Sp Inv n (f_X6_begins a) (f_X7_begins a) := step_S (FC := f_X4_setBegins a) (FM := fun μ => f_X7_sets 3 a 0 15 μ) n (fun N h => (op_begins a h).mono (by omega))
theorem st_ends (n : Nat) (a : Int32) : Sp Inv n (f_X6_ends a) (f_X7_ends a) := step_S (FC := f_X4_setEnds a) (FM := fun μ => f_X7_sets 4 a 0 15 μ) n (fun N h => (op_ends a h).mono (by omega))
theorem st_metre (n : Nat) (a : Int32) : Sp Inv n (f_X6_metre a) (f_X7_metre a) := step_S (FC := f_X4_setMetre a) (FM := fun μ => f_X7_sets 2 a 1 40 μ) n (fun N h => (op_metre a h).mono (by omega))
theorem st_follows (n : Nat) (s a : Int32) : Sp Inv n (f_X6_follows s a) (f_X7_follows s a) := step_S (FC := f_X4_setFollows s a) (FM := f_X7_setsFollows s a) n (fun N h => (op_follows s a h).mono (by omega))
theorem st_marks (n : Nat) (s a : Int32) : Sp Inv n (f_X6_marks s a) (f_X7_marks s a) := step_S (FC := f_X4_setMark s a) (FM := f_X7_setsMark s a) n (fun N h => (op_marks s a h).mono (by omega))
