/-! a line is sung -/
def rais (m : Nat) : List Nat → (Nat → Nat) → (Nat → Nat)
  | [], N => N
  | i :: L, N => rais m L (setN N (33 + 12 * m + i) (N (33 + 12 * m + i) + 1))
theorem lpSingC {m : Nat} (hm : m < 3) (K : Mm → Option (Int32 × Mm)) : ∀ (L : List Nat) (N : Nat → Nat) (j f : Nat) (μ : Mm), L.length < f → j + L.length ≤ 40 → (∀ i, i ∈ L → i < 12) → SR μ 1 N → μ.1 17 6 = nI (j + L.length) → (∀ k, k < L.length → μ.1 21 (j + k) = nI (L.getD k 0)) →
    ∃ μ2, lp_X6_singBest_26 (nI m) f (nI j) μ K = K μ2 ∧ SR μ2 1 (rais m L N) ∧ ∀ a, a ≠ 6 → μ2.1 a = μ.1 a := by
  intro L
  induction L with
  | nil =>
    intro N j f μ h1 h2 h3 hs h4 h5
    obtain ⟨f, rfl⟩ : ∃ q, f = q + 1 := ⟨f - 1, by omega⟩
    have h2 : j ≤ 40 := h2
    rw [lp_X6_singBest_26, h4, if_pos (by exact (nI_leI (by simp; omega) (by omega)).mpr (by simp))]
    exact ⟨μ, rfl, hs, fun _ _ => rfl⟩
  | cons i L ih =>
    intro N j f μ h1 h2 h3 hs h4 h5
    obtain ⟨f, rfl⟩ : ∃ q, f = q + 1 := ⟨f - 1, by omega⟩
    rw [List.length_cons] at h1 h2 h4 h5
    have hi : i < 12 := h3 i (List.mem_cons_self)
    have e21 : μ.1 21 j = nI i := by
      have := h5 0 (by omega)
      rw [Nat.add_zero] at this
      exact this
    have e6 : μ.1 6 (12 * m + i) = nI (N (33 + 12 * m + i)) := by
      have := hs.hab (i := 12 * m + i) (by omega)
      rw [show 33 + (12 * m + i) = 33 + 12 * m + i by omega] at this
      exact this
    have er : f_X4_raiseHabit (nI m) (nI i) μ = some ((), si μ 6 (12 * m + i) (nI (N (33 + 12 * m + i) + 1))) := by
      rw [f_X4_raiseHabit, i12, pk_mul, nI_add, show m * 12 + i = 12 * m + i by omega, if_neg (nI_pos (by omega)), i36, if_neg (by rw [nI_leI (by omega) (by omega)]; omega), if_pos (zin_nI (by omega) (by omega)), if_pos (zin_nI (by omega) (by omega)), nI_clamp (by omega), e6, nI_1]
    rw [lp_X6_singBest_26, h4, if_neg (by rw [nI_leI (by omega) (by omega)]; omega), if_pos (zin_nI (by omega) (by omega)), nI_clamp (by omega), e21, er, bd_some, nI_1]
    have hs2 := SRs_hab hs (s := 12 * m + i) (by omega) (N (33 + 12 * m + i) + 1)
    rw [show 33 + (12 * m + i) = 33 + 12 * m + i by omega] at hs2
    obtain ⟨μ2, g1, g2, g3⟩ := ih _ (j + 1) f _ (by omega) (by omega) (fun z hz => h3 z (List.mem_cons_of_mem _ hz)) hs2 (by rw [si_ne1 (by omega), h4, show j + (L.length + 1) = j + 1 + L.length by omega]) (fun k hk => by
      rw [si_ne1 (by omega), show j + 1 + k = j + (k + 1) by omega, h5 (k + 1) (by omega)]
      rfl)
    exact ⟨μ2, g1, g2, fun a ha => by rw [g3 a ha, si_ne1 ha]⟩
theorem lpSingM {m : Nat} (hm : m < 3) (K : Mm → Option (Int32 × Mm)) : ∀ (L : List Nat) (N : Nat → Nat) (j f : Nat) (μ : Mm), L.length < f → j + L.length ≤ 40 → (∀ i, i ∈ L → i < 12) → MR μ N → μ.1 0 11 = nI (j + L.length) → (∀ k, k < L.length → μ.1 7 (j + k) = nI (L.getD k 0)) →
    ∃ μ2, lp_X7_singsOne_23 (nI m) f (nI j) μ K = K μ2 ∧ MR μ2 (rais m L N) ∧ ∀ a, a ≠ 1 → μ2.1 a = μ.1 a := by
  intro L
  induction L with
  | nil =>
    intro N j f μ h1 h2 h3 hs h4 h5
    obtain ⟨f, rfl⟩ : ∃ q, f = q + 1 := ⟨f - 1, by omega⟩
    have h2 : j ≤ 40 := h2
    rw [lp_X7_singsOne_23, h4, if_pos (by exact (nI_leI (by simp; omega) (by omega)).mpr (by simp))]
    exact ⟨μ, rfl, hs, fun _ _ => rfl⟩
  | cons i L ih =>
    intro N j f μ h1 h2 h3 hs h4 h5
    obtain ⟨f, rfl⟩ : ∃ q, f = q + 1 := ⟨f - 1, by omega⟩
    rw [List.length_cons] at h1 h2 h4 h5
    have hi : i < 12 := h3 i (List.mem_cons_self)
    have e7 : μ.1 7 j = nI i := by
      have := h5 0 (by omega)
      rw [Nat.add_zero] at this
      exact this
    rw [lp_X7_singsOne_23, h4, if_neg (by rw [nI_leI (by omega) (by omega)]; omega), if_pos (zin_nI (by omega) (by omega)), nI_clamp (by omega), e7, i33, i12, pk_mul, nI_add, nI_add, if_pos (zin_nI (by omega) (by omega)), if_pos (zin_nI (by omega) (by omega)), nI_clamp (by omega), hs (33 + 12 * m + i) (by omega), nI_1, nI_1]
    obtain ⟨μ2, g1, g2, g3⟩ := ih _ (j + 1) f _ (by omega) (by omega) (fun z hz => h3 z (List.mem_cons_of_mem _ hz)) (MR_set hs (33 + 12 * m + i) (N (33 + 12 * m + i) + 1)) (by rw [si_ne1 (by omega), h4, show j + (L.length + 1) = j + 1 + L.length by omega]) (fun k hk => by
      rw [si_ne1 (by omega), show j + 1 + k = j + (k + 1) by omega, h5 (k + 1) (by omega)]
      rfl)
    exact ⟨μ2, g1, g2, fun a ha => by rw [g3 a ha, si_ne1 ha]⟩
theorem rais_ok {m : Nat} (hm : m < 3) : ∀ (L : List Nat) (B : Nat) (N : Nat → Nat), (∀ i, i ∈ L → i < 12) → Ok B N → Ok (B + L.length) (rais m L N) := by
  intro L
  induction L with
  | nil => intro B N _ h; exact h
  | cons i L ih =>
    intro B N h3 h
    have hi : i < 12 := h3 i (List.mem_cons_self)
    rw [List.length_cons, show B + (L.length + 1) = B + 1 + L.length by omega]
    refine ih (B + 1) _ (fun z hz => h3 z (List.mem_cons_of_mem _ hz)) ?_
    obtain ⟨⟨h1, h2, h3, h4⟩, h5, h6, h7, h8, h9, h10, h11, h12⟩ := h
    have e : ∀ j, j ≠ 33 + 12 * m + i → setN N (33 + 12 * m + i) (N (33 + 12 * m + i) + 1) j = N j := fun j hj => setN_ne _ hj
    refine ⟨⟨by rw [e 0 (by omega)]; exact h1, by rw [e 1 (by omega)]; exact h2, by rw [e 2 (by omega)]; exact h3, by rw [e 2 (by omega)]; exact h4⟩, fun j a b => by rw [e _ (by omega)]; exact h5 j a b, fun j hj => by rw [e _ (by omega)]; exact h6 j hj, fun j hj => by rw [e _ (by omega)]; exact h7 j hj, fun j hj => by rw [e 0 (by omega)] at hj; rw [e _ (by omega)]; exact h8 j hj, fun j hj => ?_, fun j hj => by rw [e _ (by omega)]; exact h10 j hj, fun j hj => by rw [e 1 (by omega)] at hj; rw [e _ (by omega)]; exact h11 j hj, fun p a b => by rw [e _ (by omega)]; exact h12 p a b⟩
    by_cases c : 33 + j = 33 + 12 * m + i
    · rw [c, setN_eq]
      have := h9 (12 * m + i) (by omega)
      rw [show 33 + (12 * m + i) = 33 + 12 * m + i by omega] at this
      omega
    · rw [e _ c]
      have := h9 j hj
      omega
theorem op_sings (a : Int32) {B : Nat} (hB : B < 2 ^ 24) {N : Nat → Nat} (h : Ok B N) : OP (f_X6_singBest a) (f_X7_singsOne a) B (B + 40) N := by
  have h12 := h.1.1
  by_cases q : rng a 0 2
  · have e1 := fun μ => (i_maker (a := a) μ).1 q
    have e2 := fun μ => (j_maker (a := a) μ).1 q
    obtain ⟨m, -, hm, rfl⟩ := q
    cases hE : EB0 N m with
    | none =>
      refine ⟨-3, N, fun μ hs => ?_, fun μ hs => ?_, Or.inr ⟨Or.inr (Or.inl rfl), rfl⟩, h.mono (by omega)⟩
      · obtain ⟨μ2, c1, c2⟩ := (findC h hB (show m < 3 by omega) hs).1 hE
        refine ⟨μ2, ?_, hs.frame (fun a _ ha => c2 a (by omega)), fun a ha => c2 a (by omega)⟩
        rw [f_X6_singBest, e1, bd_some, if_neg (by decide), c1, bd_some, if_pos rfl]
      · obtain ⟨μ2, c1, c2⟩ := (findM h hB (show m < 3 by omega) hs).1 hE
        refine ⟨μ2, ?_, c2.mr hs, fun a ha => c2.1 a (by omega), fun k hk => c2.2 k (by omega) (by omega) (by omega) (by omega)⟩
        rw [f_X7_singsOne, e2, bd_some, if_neg (by decide), c1, bd_some, if_neg (by decide)]
    | some y =>
      have hp : (pth N m).length ≤ 40 ∧ (∀ i, i ∈ pth N m → i < N 0) := by
        have := (findM h hB (show m < 3 by omega) (μ := (fun _ k => nI (N k), fun _ _ => 0)) (fun k _ => rfl)).2 y hE
        exact ⟨this.2.1, this.2.2.1⟩
      refine ⟨nI (pth N m).length, rais m (pth N m) N, fun μ hs => ?_, fun μ hs => ?_, Or.inl ⟨_, by omega, rfl⟩, (rais_ok (by omega) _ B N (fun i hi => by have := hp.2 i hi; omega) h).mono (by omega)⟩
      · obtain ⟨μ2, c1, c2, c3, c4, -⟩ := (findC h hB (show m < 3 by omega) hs).2 y hE
        obtain ⟨μ3, g1, g2, g3⟩ := lpSingC (show m < 3 by omega) (fun μ10 => some (μ10.1 17 6, μ10)) (pth N m) N 0 FU μ2 (by unfold FU; omega) (by omega) (fun i hi => by have := hp.2 i hi; omega) (hs.frame (fun a _ ha => c2 a (by omega))) (by rw [Nat.zero_add]; exact c3) (fun k hk => by rw [Nat.zero_add]; exact c4 k hk)
        rw [← iz0] at g1
        refine ⟨μ3, ?_, g2, fun a ha => by rw [g3 a (by omega), c2 a (by omega)]⟩
        rw [f_X6_singBest, e1, bd_some, if_neg (by decide), c1, bd_some, if_neg (by decide), g1, g3 17 (by omega), c3]
      · obtain ⟨y1, -, -, μ2, c1, c2, c3, c4⟩ := (findM h hB (show m < 3 by omega) hs).2 y hE
        obtain ⟨μ3, g1, g2, g3⟩ := lpSingM (show m < 3 by omega) (fun μ8 => some (μ8.1 0 11, μ8)) (pth N m) N 0 FU μ2 (by unfold FU; omega) (by omega) (fun i hi => by have := hp.2 i hi; omega) (c2.mr hs) (by rw [Nat.zero_add]; exact c3) (fun k hk => by rw [Nat.zero_add]; exact c4 k hk)
        rw [← iz0] at g1
        refine ⟨μ3, ?_, g2, fun a ha => by rw [g3 a (by omega), c2.1 a (by omega)], fun k hk => by rw [g3 0 (by omega), c2.2 k (by omega) (by omega) (by omega) (by omega)]⟩
        rw [f_X7_singsOne, e2, bd_some, if_neg (by decide), c1, bd_some, if_pos (nI_pos' y1), g1, g3 0 (by omega), c3]
  · refine ⟨-2, N, fun μ hs => ⟨μ, ?_, hs, fun _ _ => rfl⟩, fun μ hs => ⟨μ, ?_, hs, fun _ _ => rfl, fun _ _ => rfl⟩, Or.inr ⟨Or.inl rfl, rfl⟩, h.mono (by omega)⟩
    · rw [f_X6_singBest, (i_maker μ).2 q, bd_some, if_pos rfl]
    · rw [f_X7_singsOne, (j_maker μ).2 q, bd_some, if_pos rfl]
theorem st_sings (n : Nat) (hn : n < 512) (a : Int32) : Sp Inv n (f_X6_sings a) (f_X7_sings a) := step_S (FC := f_X6_singBest a) (FM := f_X7_singsOne a) n (fun N h => (op_sings a (by omega) h).mono (by omega))
