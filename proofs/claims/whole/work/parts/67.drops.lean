def mv (N : Nat → Nat) (k : Nat) : Nat → Nat := setN (setN (setN (setN (setN N (9 + k) (N (9 + (k + 1)))) (21 + k) (N (21 + (k + 1)))) (33 + k) (N (33 + (k + 1)))) (33 + (12 + k)) (N (33 + (12 + (k + 1))))) (33 + (24 + k)) (N (33 + (24 + (k + 1))))
def mh (μ : Mm) (d s : Nat) : Mm := si μ 6 d (μ.1 6 s)
def mm (μ : Mm) (d s : Nat) : Mm := si μ 1 d (μ.1 1 s)
theorem lpMv {k : Nat} (hk : k + 1 < 12) (μ : Mm) (K : Mm → Option (Unit × Mm)) : lp_X4_movePhrase_50 (nI (k + 1)) (nI k) FU 0 μ K = K (mh (mh (mh μ k (k + 1)) (12 + k) (12 + (k + 1))) (24 + k) (24 + (k + 1))) := by
  have eF : FU = 996 + 1 + 1 + 1 + 1 := rfl
  rw [eF, iz0]
  rw [lp_X4_movePhrase_50, if_neg (by decide +kernel), i12, pk_mul, nI_add, nI_add, if_pos (zin_nI (by omega) (by omega)), if_pos (zin_nI (by omega) (by omega)), nI_clamp (by omega), nI_clamp (by omega), nI_1, lp_X4_movePhrase_50, if_neg (by decide +kernel), i12, pk_mul, nI_add, nI_add, if_pos (zin_nI (by omega) (by omega)), if_pos (zin_nI (by omega) (by omega)), nI_clamp (by omega), nI_clamp (by omega), nI_1, lp_X4_movePhrase_50, if_neg (by decide +kernel), i12, pk_mul, nI_add, nI_add, if_pos (zin_nI (by omega) (by omega)), if_pos (zin_nI (by omega) (by omega)), nI_clamp (by omega), nI_clamp (by omega), nI_1, lp_X4_movePhrase_50, if_pos (by decide +kernel)]
  simp only [Nat.zero_mul, Nat.zero_add, Nat.one_mul]
  rfl
theorem lpDv {k : Nat} (hk : k + 1 < 12) (μ : Mm) (K : Mm → Option (Int32 × Mm)) : lp_X7_dropsPhrase_75 (nI k) FU 0 μ K = K (mm (mm (mm μ (33 + k) (33 + k + 1)) (45 + k) (45 + k + 1)) (57 + k) (57 + k + 1)) := by
  have eF : FU = 996 + 1 + 1 + 1 + 1 := rfl
  rw [eF, iz0]
  rw [lp_X7_dropsPhrase_75, if_neg (by decide +kernel), i33, i12, pk_mul, nI_add, nI_add, nI_1, if_pos (zin_nI (by omega) (by omega)), if_pos (zin_nI (by omega) (by omega)), nI_clamp (by omega), nI_clamp (by omega), nI_1, lp_X7_dropsPhrase_75, if_neg (by decide +kernel), i33, i12, pk_mul, nI_add, nI_add, nI_1, if_pos (zin_nI (by omega) (by omega)), if_pos (zin_nI (by omega) (by omega)), nI_clamp (by omega), nI_clamp (by omega), nI_1, lp_X7_dropsPhrase_75, if_neg (by decide +kernel), i33, i12, pk_mul, nI_add, nI_add, nI_1, if_pos (zin_nI (by omega) (by omega)), if_pos (zin_nI (by omega) (by omega)), nI_clamp (by omega), nI_clamp (by omega), nI_1, lp_X7_dropsPhrase_75, if_pos (by decide +kernel)]
  rfl
theorem moveC {N : Nat → Nat} {μ : Mm} (hs : SR μ 1 N) {k : Nat} (hk : k + 1 < 12) : ∃ μ2, f_X4_movePhrase (nI (k + 1)) (nI k) μ = some ((), μ2) ∧ SR μ2 1 (mv N k) ∧ ∀ a, 10 ≤ a → μ2.1 a = μ.1 a := by
  have e1 : μ.1 2 (k + 1) = nI (N (9 + (k + 1))) := hs.slo (by omega)
  have e2 : μ.1 3 (k + 1) = nI (N (21 + (k + 1))) := hs.cod (by omega)
  have e3 : μ.1 4 (k + 1) = nI (szD (N (21 + (k + 1)))) := hs.siz (by omega)
  have e4 : μ.1 5 (k + 1) = nI (moD (N (21 + (k + 1)))) := hs.mor (by omega)
  rw [f_X4_movePhrase, if_pos (zin_nI (by omega) (by omega)), if_pos (zin_nI (by omega) (by omega)), if_pos (zin_nI (by omega) (by omega)), if_pos (zin_nI (by omega) (by omega)), if_pos (zin_nI (by omega) (by omega)), if_pos (zin_nI (by omega) (by omega)), if_pos (zin_nI (by omega) (by omega)), if_pos (zin_nI (by omega) (by omega)), nI_clamp (by omega), nI_clamp (by omega), e1, e2, e3, e4, lpMv hk]
  have s1 := SRs_cod (SRs_slo hs (s := k) (by omega) (N (9 + (k + 1)))) (s := k) (by omega) (N (21 + (k + 1)))
  generalize hA : si (si (si (si μ 2 k (nI (N (9 + (k + 1))))) 3 k (nI (N (21 + (k + 1))))) 4 k (nI (szD (N (21 + (k + 1)))))) 5 k (nI (moD (N (21 + (k + 1))))) = μa at s1
  have fa : ∀ a, 10 ≤ a → μa.1 a = μ.1 a := fun a ha => by rw [← hA, si_ne1 (by omega), si_ne1 (by omega), si_ne1 (by omega), si_ne1 (by omega)]
  have a1 : μa.1 6 (k + 1) = nI (N (33 + (k + 1))) := by
    have := s1.hab (i := k + 1) (by omega)
    rw [setN_ne _ (by omega), setN_ne _ (by omega)] at this
    exact this
  have s2 := SRs_hab s1 (s := k) (by omega) (N (33 + (k + 1)))
  have a2 : (mh μa k (k + 1)).1 6 (12 + (k + 1)) = nI (N (33 + (12 + (k + 1)))) := by
    rw [mh, a1]
    have := s2.hab (i := 12 + (k + 1)) (by omega)
    rw [setN_ne _ (by omega), setN_ne _ (by omega), setN_ne _ (by omega)] at this
    exact this
  have s3 := SRs_hab s2 (s := 12 + k) (by omega) (N (33 + (12 + (k + 1))))
  have a3 : (mh (mh μa k (k + 1)) (12 + k) (12 + (k + 1))).1 6 (24 + (k + 1)) = nI (N (33 + (24 + (k + 1)))) := by
    rw [mh, a2, mh, a1]
    have := s3.hab (i := 24 + (k + 1)) (by omega)
    rw [setN_ne _ (by omega), setN_ne _ (by omega), setN_ne _ (by omega), setN_ne _ (by omega)] at this
    exact this
  have s4 := SRs_hab s3 (s := 24 + k) (by omega) (N (33 + (24 + (k + 1))))
  refine ⟨_, rfl, ?_, fun a ha => ?_⟩
  · rw [mh, a3, mh, a2, mh, a1]
    exact s4
  · rw [mh, mh, mh, si_ne1 (by omega), si_ne1 (by omega), si_ne1 (by omega), fa a ha]
def dropN : Nat → Nat → (Nat → Nat) → Nat → Nat
  | 0, _, N => N
  | t + 1, k, N => dropN t (k + 1) (mv N k)
theorem mv_0 (N : Nat → Nat) (k : Nat) : mv N k 0 = N 0 := by
  unfold mv
  rw [setN_ne _ (by omega), setN_ne _ (by omega), setN_ne _ (by omega), setN_ne _ (by omega), setN_ne _ (by omega)]
theorem dropN_0 : ∀ t k N, dropN t k N 0 = N 0 := by
  intro t
  induction t with
  | zero => intro k N; rfl
  | succ t ih => intro k N; rw [dropN, ih, mv_0]
theorem lpDropC (K : Mm → Option (Int32 × Mm)) : ∀ (t f k : Nat) (N : Nat → Nat) (μ : Mm), SR μ 1 N → N 0 ≤ 11 → k + t = N 0 → t < f → ∃ μ2, lp_X4_dropPhrase_23 f (nI k) μ K = K μ2 ∧ SR μ2 1 (dropN t k N) ∧ ∀ a, 10 ≤ a → μ2.1 a = μ.1 a := by
  intro t
  induction t with
  | zero =>
    intro f k N μ hs h11 hk hf
    obtain ⟨f, rfl⟩ : ∃ q, f = q + 1 := ⟨f - 1, by omega⟩
    rw [lp_X4_dropPhrase_23, hs.cnt, if_pos ((nI_leI (by omega) (by omega)).mpr (by omega))]
    exact ⟨μ, rfl, hs, fun _ _ => rfl⟩
  | succ t ih =>
    intro f k N μ hs h11 hk hf
    obtain ⟨f, rfl⟩ : ∃ q, f = q + 1 := ⟨f - 1, by omega⟩
    obtain ⟨μa, e1, s1, f1⟩ := moveC hs (k := k) (by omega)
    rw [lp_X4_dropPhrase_23, hs.cnt, if_neg (by rw [nI_leI (by omega) (by omega)]; omega), nI_1, e1, bd_some]
    obtain ⟨μb, e2, s2, f2⟩ := ih f (k + 1) (mv N k) μa s1 (by rw [mv_0]; exact h11) (by rw [mv_0]; omega) (by omega)
    exact ⟨μb, e2, s2, fun a ha => (f2 a ha).trans (f1 a ha)⟩
theorem lpDropM (K : Mm → Option (Int32 × Mm)) : ∀ (t f k : Nat) (N : Nat → Nat) (μ : Mm), MR μ N → N 0 ≤ 11 → k + t = N 0 → t < f → ∃ μ2, lp_X7_dropsPhrase_23 f (nI k) μ K = K μ2 ∧ MR μ2 (dropN t k N) ∧ ∀ a, a ≠ 1 → μ2.1 a = μ.1 a := by
  intro t
  induction t with
  | zero =>
    intro f k N μ hs h11 hk hf
    obtain ⟨f, rfl⟩ : ∃ q, f = q + 1 := ⟨f - 1, by omega⟩
    rw [lp_X7_dropsPhrase_23, hs 0 (by omega), if_pos ((nI_leI (by omega) (by omega)).mpr (by omega))]
    exact ⟨μ, rfl, hs, fun _ _ => rfl⟩
  | succ t ih =>
    intro f k N μ hs h11 hk hf
    obtain ⟨f, rfl⟩ : ∃ q, f = q + 1 := ⟨f - 1, by omega⟩
    rw [lp_X7_dropsPhrase_23, hs 0 (by omega), if_neg (by rw [nI_leI (by omega) (by omega)]; omega), i9, i21, nI_add, nI_add, nI_1, nI_1, nI_1, if_pos (zin_nI (by omega) (by omega)), if_pos (zin_nI (by omega) (by omega)), if_pos (zin_nI (by omega) (by omega)), if_pos (zin_nI (by omega) (by omega)), nI_clamp (by omega), nI_clamp (by omega), nI_clamp (by omega), nI_clamp (by omega), lpDv (by omega)]
    have b1 : μ.1 1 (9 + k + 1) = nI (N (9 + (k + 1))) := hs _ (by omega)
    have s1 := MR_set hs (9 + k) (N (9 + (k + 1)))
    have b2 : (si μ 1 (9 + k) (μ.1 1 (9 + k + 1))).1 1 (21 + k + 1) = nI (N (21 + (k + 1))) := by
      rw [b1, s1 _ (by omega), setN_ne _ (by omega)]; rfl
    have s2 := MR_set s1 (21 + k) (N (21 + (k + 1)))
    rw [b2, b1]
    generalize hA : si (si μ 1 (9 + k) (nI (N (9 + (k + 1))))) 1 (21 + k) (nI (N (21 + (k + 1)))) = μa at s2
    have fa : ∀ a, a ≠ 1 → μa.1 a = μ.1 a := fun a ha => by rw [← hA, si_ne1 ha, si_ne1 ha]
    have a1 : μa.1 1 (33 + k + 1) = nI (N (33 + (k + 1))) := by
      rw [s2 _ (by omega), setN_ne _ (by omega), setN_ne _ (by omega)]; rfl
    have s3 := MR_set s2 (33 + k) (N (33 + (k + 1)))
    have a2 : (mm μa (33 + k) (33 + k + 1)).1 1 (45 + k + 1) = nI (N (33 + (12 + (k + 1)))) := by
      rw [mm, a1, s3 _ (by omega), setN_ne _ (by omega), setN_ne _ (by omega), setN_ne _ (by omega), show 45 + k + 1 = 33 + (12 + (k + 1)) by omega]
    have s4 := MR_set s3 (45 + k) (N (33 + (12 + (k + 1))))
    have a3 : (mm (mm μa (33 + k) (33 + k + 1)) (45 + k) (45 + k + 1)).1 1 (57 + k + 1) = nI (N (33 + (24 + (k + 1)))) := by
      rw [mm, a2, mm, a1, s4 _ (by omega), setN_ne _ (by omega), setN_ne _ (by omega), setN_ne _ (by omega), setN_ne _ (by omega), show 57 + k + 1 = 33 + (24 + (k + 1)) by omega]
    have s5 := MR_set s4 (57 + k) (N (33 + (24 + (k + 1))))
    have e5 : mm (mm (mm μa (33 + k) (33 + k + 1)) (45 + k) (45 + k + 1)) (57 + k) (57 + k + 1) = si (si (si μa 1 (33 + k) (nI (N (33 + (k + 1))))) 1 (45 + k) (nI (N (33 + (12 + (k + 1)))))) 1 (57 + k) (nI (N (33 + (24 + (k + 1))))) := by
      rw [mm, a3, mm, a2, mm, a1]
    rw [e5]
    have s6 : MR (si (si (si μa 1 (33 + k) (nI (N (33 + (k + 1))))) 1 (45 + k) (nI (N (33 + (12 + (k + 1)))))) 1 (57 + k) (nI (N (33 + (24 + (k + 1)))))) (mv N k) := by
      unfold mv
      rw [show 33 + (12 + k) = 45 + k by omega, show 33 + (24 + k) = 57 + k by omega]
      exact s5
    obtain ⟨μb, e2, t2, f2⟩ := ih f (k + 1) (mv N k) _ s6 (by rw [mv_0]; exact h11) (by rw [mv_0]; omega) (by omega)
    exact ⟨μb, e2, t2, fun a ha => by rw [f2 a ha, si_ne1 ha, si_ne1 ha, si_ne1 ha, fa a ha]⟩
theorem mv_at (N : Nat → Nat) (k j : Nat) (hk : k + 1 < 12) : mv N k j = if j = 9 + k ∨ j = 21 + k ∨ j = 33 + k ∨ j = 45 + k ∨ j = 57 + k then N (j + 1) else N j := by
  unfold mv setN
  by_cases a1 : j = 33 + (24 + k)
  · rw [if_pos a1, if_pos (by omega), a1]; rfl
  rw [if_neg a1]
  by_cases a2 : j = 33 + (12 + k)
  · rw [if_pos a2, if_pos (by omega), a2]; rfl
  rw [if_neg a2]
  by_cases a3 : j = 33 + k
  · rw [if_pos a3, if_pos (by omega), a3]; rfl
  rw [if_neg a3]
  by_cases a4 : j = 21 + k
  · rw [if_pos a4, if_pos (by omega), a4]; rfl
  rw [if_neg a4]
  by_cases a5 : j = 9 + k
  · rw [if_pos a5, if_pos (by omega), a5]; rfl
  rw [if_neg a5, if_neg (by omega)]
theorem mv_Ok {B c : Nat} {N : Nat → Nat} (h : Ok B N) (hv : ∀ j, j < c → vc (N (21 + j))) (hc : N 0 ≤ c) {k : Nat} (hk : k + 1 < c) (hc12 : c ≤ 12) : Ok B (mv N k) ∧ ∀ j, j < c → vc (mv N k (21 + j)) := by
  have e := fun j => mv_at N k j (by omega)
  have hv2 : ∀ j, j < c → vc (mv N k (21 + j)) := fun j hj => by
    rw [e]
    split
    · rw [show 21 + j + 1 = 21 + (j + 1) by omega]; exact hv (j + 1) (by omega)
    · exact hv j hj
  obtain ⟨⟨h1, h2, h3, h4⟩, h5, h6, h7, h8, h9, h10, h11, h12⟩ := h
  refine ⟨⟨⟨by rw [e, if_neg (by omega)]; exact h1, by rw [e, if_neg (by omega)]; exact h2, by rw [e, if_neg (by omega)]; exact h3, by rw [e, if_neg (by omega)]; exact h4⟩, fun j a b => by rw [e, if_neg (by omega)]; exact h5 j a b, fun i hi => ?_, fun i hi => ?_, fun i hi => hv2 i (by rw [e, if_neg (by omega)] at hi; omega), fun i hi => ?_, fun i hi => by rw [e, if_neg (by omega)]; exact h10 i hi, fun i hi => by rw [e 1, if_neg (by omega)] at hi; rw [e, if_neg (by omega)]; exact h11 i hi, fun p a b => by rw [e, if_neg (by omega)]; exact h12 p a b⟩, hv2⟩
  · rw [e]
    split
    · rw [show 9 + i + 1 = 9 + (i + 1) by omega]; exact h6 (i + 1) (by omega)
    · exact h6 i hi
  · rw [e]
    split
    · rw [show 21 + i + 1 = 21 + (i + 1) by omega]; exact h7 (i + 1) (by omega)
    · exact h7 i hi
  · rw [e]
    split
    · rw [show 33 + i + 1 = 33 + (i + 1) by omega]; exact h9 (i + 1) (by omega)
    · exact h9 i hi
theorem dropN_Ok {B c : Nat} (hc12 : c ≤ 12) : ∀ (t k : Nat) (N : Nat → Nat), Ok B N → (∀ j, j < c → vc (N (21 + j))) → N 0 ≤ c → k + t < c → Ok B (dropN t k N) := by
  intro t
  induction t with
  | zero => intro k N h _ _ _; exact h
  | succ t ih =>
    intro k N h hv hc hk
    obtain ⟨a, b⟩ := mv_Ok h hv hc (k := k) (by omega) hc12
    exact ih (k + 1) (mv N k) a b (by rw [mv_0]; exact hc) (by omega)
theorem Ok_cnt {B : Nat} {N : Nat → Nat} (h : Ok B N) {c : Nat} (hc : c ≤ N 0) : Ok B (setN N 0 c) := by
  obtain ⟨⟨h1, h2, h3, h4⟩, h5, h6, h7, h8, h9, h10, h11, h12⟩ := h
  refine ⟨⟨by rw [setN_eq]; omega, by rw [setN_ne _ (by omega)]; exact h2, by rw [setN_ne _ (by omega)]; exact h3, by rw [setN_ne _ (by omega)]; exact h4⟩, fun j a b => by rw [setN_ne _ (by omega)]; exact h5 j a b, fun i hi => by rw [setN_ne _ (by omega)]; exact h6 i hi, fun i hi => by rw [setN_ne _ (by omega)]; exact h7 i hi, fun i hi => by rw [setN_eq] at hi; rw [setN_ne _ (by omega)]; exact h8 i (by omega), fun i hi => by rw [setN_ne _ (by omega)]; exact h9 i hi, fun i hi => by rw [setN_ne _ (by omega)]; exact h10 i hi, fun i hi => by rw [setN_ne _ (by omega)] at hi; rw [setN_ne _ (by omega)]; exact h11 i hi, fun p a b => by rw [setN_ne _ (by omega)]; exact h12 p a b⟩
theorem isPh {N : Nat → Nat} (h12 : N 0 ≤ 12) (a : Int32) : ((∃ k, k < N 0 ∧ a = nI k) → (∀ μ, SR μ 1 N → f_X4_hasPhrase a μ = some (1, μ)) ∧ ∀ μ, MR μ N → f_X7_isPhrase a μ = some (1, μ)) ∧ ((¬ ∃ k, k < N 0 ∧ a = nI k) → (∀ μ, SR μ 1 N → f_X4_hasPhrase a μ = some (0, μ)) ∧ ∀ μ, MR μ N → f_X7_isPhrase a μ = some (0, μ)) := by
  have hC : ∀ μ, SR μ 1 N → _ := fun μ hs => wCc a (N 0) (by omega) ((μ.1 1 8) - (1 : Int32)) (by rw [hs.cnt]) μ
  have hM : ∀ μ, MR μ N → _ := fun μ hs => wMc a (N 0) (by omega) (((μ.1 1 0) - (1 : Int32)).toInt64) (by rw [hs 0 (by omega)]) μ
  refine ⟨fun q => ⟨fun μ hs => ?_, fun μ hs => ?_⟩, fun q => ⟨fun μ hs => ?_, fun μ hs => ?_⟩⟩
  · rw [f_X4_hasPhrase, (hC μ hs).1 q, bd_some, if_pos (by decide)]
  · rw [f_X7_isPhrase, (hM μ hs).1 q, bd_some, if_pos (by decide)]
  · rw [f_X4_hasPhrase, (hC μ hs).2 q, bd_some, if_pos (by decide)]
  · rw [f_X7_isPhrase, (hM μ hs).2 q, bd_some, if_pos (by decide)]
theorem op_drops (a : Int32) {B : Nat} {N : Nat → Nat} (h : Ok B N) : OP (f_X4_dropPhrase a) (f_X7_dropsPhrase a) B B N := by
  have h12 : N 0 ≤ 12 := h.1.1
  by_cases q : ∃ k, k < N 0 ∧ a = nI k
  · have hp := (isPh h12 a).1 q
    obtain ⟨i, hi, rfl⟩ := q
    have hz : ∀ t k, dropN t k (setN N 0 (N 0 - 1)) 0 = N 0 - 1 := fun t k => by rw [dropN_0, setN_eq]
    refine ⟨nI (N 0 - 1), dropN (N 0 - 1 - i) i (setN N 0 (N 0 - 1)), fun μ hs => ?_, fun μ hm => ?_, Or.inl ⟨N 0 - 1, by omega, rfl⟩, ?_⟩
    · have s1 := SRs_cnt hs (N 0 - 1)
      obtain ⟨μ2, e, s2, f2⟩ := lpDropC (fun μ7 => some (μ7.1 1 8, μ7)) (N 0 - 1 - i) FU i (setN N 0 (N 0 - 1)) _ s1 (by rw [setN_eq]; omega) (by rw [setN_eq]; omega) (by unfold FU; omega)
      refine ⟨μ2, ?_, s2, fun a ha => by rw [f2 a (by omega), si_ne1 (by omega)]⟩
      rw [f_X4_dropPhrase, hp.1 μ hs, bd_some, if_neg (by decide), hs.cnt, show nI (N 0) - 1 = nI (N 0 - 1) by rw [i1]; exact pk_sub (by omega), e, s2.cnt, hz]
    · have s1 := MR_set hm 0 (N 0 - 1)
      obtain ⟨μ2, e, s2, f2⟩ := lpDropM (fun μ7 => some (μ7.1 1 0, μ7)) (N 0 - 1 - i) FU i (setN N 0 (N 0 - 1)) _ s1 (by rw [setN_eq]; omega) (by rw [setN_eq]; omega) (by unfold FU; omega)
      refine ⟨μ2, ?_, s2, fun a ha => by rw [f2 a (by omega), si_ne1 (by omega)], fun k hk => by rw [f2 0 (by omega), si_ne1 (by omega)]⟩
      rw [f_X7_dropsPhrase, hp.2 μ hm, bd_some, if_neg (by decide), hm 0 (by omega), show nI (N 0) - 1 = nI (N 0 - 1) by rw [i1]; exact pk_sub (by omega), e, s2 0 (by omega), hz]
    · exact dropN_Ok h12 _ i _ (Ok_cnt h (by omega)) (fun j hj => by rw [setN_ne _ (by omega)]; exact h.2.2.2.2.1 j hj) (by rw [setN_eq]; omega) (by omega)
  · have hp := (isPh h12 a).2 q
    refine ⟨-2, N, fun μ hs => ⟨μ, ?_, hs, fun _ _ => rfl⟩, fun μ hm => ⟨μ, ?_, hm, fun _ _ => rfl, fun _ _ => rfl⟩, Or.inr ⟨Or.inl rfl, rfl⟩, h⟩
    · rw [f_X4_dropPhrase, hp.1 μ hs, bd_some, if_pos rfl]
    · rw [f_X7_dropsPhrase, hp.2 μ hm, bd_some, if_pos rfl]
theorem st_drops (n : Nat) (a : Int32) : Sp Inv n (f_X6_drops a) (f_X7_drops a) := step_S (FC := f_X4_dropPhrase a) (FM := f_X7_dropsPhrase a) n (fun N h => (op_drops a h).mono (by omega))
