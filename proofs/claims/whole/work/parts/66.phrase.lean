theorem setN_eq (N : Nat → Nat) (k v : Nat) : setN N k v k = v := by unfold setN; rw [if_pos rfl]
theorem setN_ne (N : Nat → Nat) {k v j : Nat} (h : j ≠ k) : setN N k v j = N j := by unfold setN; rw [if_neg h]
theorem setN_comm (N : Nat → Nat) {a b x y : Nat} (h : a ≠ b) : setN (setN N a x) b y = setN (setN N b y) a x := by
  funext j
  unfold setN
  by_cases h1 : j = b
  · subst h1
    rw [if_pos rfl, if_neg (fun q => h q.symm), if_pos rfl]
  · rw [if_neg h1]
    by_cases h2 : j = a
    · rw [if_pos h2, if_pos h2]
    · rw [if_neg h2, if_neg h2, if_neg h1]
/-! a phrase that is there already -/
theorem dupC {N : Nat → Nat} {μ : Mm} (hs : SR μ 1 N) (hN : ∀ k, k < 148 → N k < 2 ^ 31) (h12 : N 0 ≤ 12) (sv c : Nat) (hsv : sv < 2 ^ 31) (hc : c < 2 ^ 31) (c3 : Int32) (k : Mm → Option (Int32 × Mm)) : ∀ f i, i ≤ N 0 → N 0 < f + i → ((∃ j, i ≤ j ∧ j < N 0 ∧ N (9 + j) = sv ∧ N (21 + j) = c) → lp_X4_addPhrase_22 (nI sv) (nI c) c3 f (nI i) μ k = some (-3, μ)) ∧ ((¬ ∃ j, i ≤ j ∧ j < N 0 ∧ N (9 + j) = sv ∧ N (21 + j) = c) → lp_X4_addPhrase_22 (nI sv) (nI c) c3 f (nI i) μ k = k μ) := by
  intro f
  induction f with
  | zero => intro i h1 h2; omega
  | succ f ih =>
    intro i h1 h2
    rw [lp_X4_addPhrase_22, hs.cnt]
    by_cases hi : N 0 ≤ i
    · rw [if_pos ((nI_leI (by omega) (by omega)).mpr hi)]
      exact ⟨fun ⟨j, q1, q2, _⟩ => by omega, fun _ => rfl⟩
    · have e1 := hs.slo (i := i) (by omega)
      have e2 := hs.cod (i := i) (by omega)
      have e1 : μ.1 2 i = nI (N (9 + i)) := e1
      have e2 : μ.1 3 i = nI (N (21 + i)) := e2
      have := hN (9 + i) (by omega)
      have := hN (21 + i) (by omega)
      have ih := ih (i + 1) (by omega) (by omega)
      rw [if_neg (fun q => hi ((nI_leI (by omega) (by omega)).mp q)), if_pos (zin_nI (by omega) (by omega))]
      simp only [nI_clamp (show i < 2 ^ 31 by omega), e1, e2, nI_1, nI_eq (show N (9 + i) < 2 ^ 31 by omega) hsv, nI_eq (show N (21 + i) < 2 ^ 31 by omega) hc]
      by_cases a1 : N (9 + i) = sv
      · rw [if_pos a1, if_pos (zin_nI (by omega) (by omega))]
        by_cases a2 : N (21 + i) = c
        · rw [if_pos a2]
          exact ⟨fun _ => rfl, fun q => absurd ⟨i, by omega, by omega, a1, a2⟩ q⟩
        · rw [if_neg a2]
          exact ⟨fun ⟨j, q1, q2, q3, q4⟩ => ih.1 ⟨j, by by_cases h : j = i; (subst h; exact absurd q4 a2); omega, q2, q3, q4⟩, fun q => ih.2 (fun ⟨j, q1, q2, q3, q4⟩ => q ⟨j, by omega, q2, q3, q4⟩)⟩
      · rw [if_neg a1]
        exact ⟨fun ⟨j, q1, q2, q3, q4⟩ => ih.1 ⟨j, by by_cases h : j = i; (subst h; exact absurd q3 a1); omega, q2, q3, q4⟩, fun q => ih.2 (fun ⟨j, q1, q2, q3, q4⟩ => q ⟨j, by omega, q2, q3, q4⟩)⟩
theorem dupM {N : Nat → Nat} {μ : Mm} (hs : MR μ N) (hN : ∀ k, k < 148 → N k < 2 ^ 31) (h12 : N 0 ≤ 12) (sv c : Nat) (hsv : sv < 2 ^ 31) (hc : c < 2 ^ 31) (k : Mm → Option (Int32 × Mm)) : ∀ f i, i ≤ N 0 → N 0 < f + i → ((∃ j, i ≤ j ∧ j < N 0 ∧ N (9 + j) = sv ∧ N (21 + j) = c) → lp_X7_addsPhrase_32 (nI sv) (nI c) (nI (N 0)) f (nI i) μ k = some (-3, μ)) ∧ ((¬ ∃ j, i ≤ j ∧ j < N 0 ∧ N (9 + j) = sv ∧ N (21 + j) = c) → lp_X7_addsPhrase_32 (nI sv) (nI c) (nI (N 0)) f (nI i) μ k = k μ) := by
  intro f
  induction f with
  | zero => intro i h1 h2; omega
  | succ f ih =>
    intro i h1 h2
    rw [lp_X7_addsPhrase_32]
    by_cases hi : N 0 ≤ i
    · rw [if_pos ((nI_leI (by omega) (by omega)).mpr hi)]
      exact ⟨fun ⟨j, q1, q2, _⟩ => by omega, fun _ => rfl⟩
    · have e1 := hs (9 + i) (by omega)
      have e2 := hs (21 + i) (by omega)
      have := hN (9 + i) (by omega)
      have := hN (21 + i) (by omega)
      have ih := ih (i + 1) (by omega) (by omega)
      rw [if_neg (fun q => hi ((nI_leI (by omega) (by omega)).mp q)), i9, i21, nI_add, nI_add, if_pos (zin_nI (by omega) (by omega))]
      simp only [nI_clamp (show 9 + i < 2 ^ 31 by omega), nI_clamp (show 21 + i < 2 ^ 31 by omega), e1, e2, nI_1, nI_eq (show N (9 + i) < 2 ^ 31 by omega) hsv, nI_eq (show N (21 + i) < 2 ^ 31 by omega) hc]
      by_cases a1 : N (9 + i) = sv
      · rw [if_pos a1, if_pos (zin_nI (by omega) (by omega))]
        by_cases a2 : N (21 + i) = c
        · rw [if_pos a2]
          exact ⟨fun _ => rfl, fun q => absurd ⟨i, by omega, by omega, a1, a2⟩ q⟩
        · rw [if_neg a2]
          exact ⟨fun ⟨j, q1, q2, q3, q4⟩ => ih.1 ⟨j, by by_cases h : j = i; (subst h; exact absurd q4 a2); omega, q2, q3, q4⟩, fun q => ih.2 (fun ⟨j, q1, q2, q3, q4⟩ => q ⟨j, by omega, q2, q3, q4⟩)⟩
      · rw [if_neg a1]
        exact ⟨fun ⟨j, q1, q2, q3, q4⟩ => ih.1 ⟨j, by by_cases h : j = i; (subst h; exact absurd q3 a1); omega, q2, q3, q4⟩, fun q => ih.2 (fun ⟨j, q1, q2, q3, q4⟩ => q ⟨j, by omega, q2, q3, q4⟩)⟩
theorem hab0C {c : Nat} (hc : c < 12) (μ : Mm) (k : Mm → Option (Int32 × Mm)) : lp_X4_addPhrase_126 (nI c) FU 0 μ k = k (si (si (si μ 6 c (nI 0)) 6 (12 + c) (nI 0)) 6 (24 + c) (nI 0)) := by
  have eF : FU = 996 + 1 + 1 + 1 + 1 := rfl
  rw [eF, iz0]
  rw [lp_X4_addPhrase_126, if_neg (by decide +kernel), i12, pk_mul, nI_add, if_pos (zin_nI (by omega) (by omega)), nI_clamp (by omega), nI_1, lp_X4_addPhrase_126, if_neg (by decide +kernel), i12, pk_mul, nI_add, if_pos (zin_nI (by omega) (by omega)), nI_clamp (by omega), nI_1, lp_X4_addPhrase_126, if_neg (by decide +kernel), i12, pk_mul, nI_add, if_pos (zin_nI (by omega) (by omega)), nI_clamp (by omega), nI_1, lp_X4_addPhrase_126, if_pos (by decide +kernel), iz0]
  simp only [Nat.zero_mul, Nat.zero_add, Nat.one_mul]
theorem hab0M {c : Nat} (hc : c < 12) (μ : Mm) (k : Mm → Option (Int32 × Mm)) : lp_X7_addsPhrase_107 (nI c) FU 0 μ k = k (si (si (si μ 1 (33 + c) (nI 0)) 1 (45 + c) (nI 0)) 1 (57 + c) (nI 0)) := by
  have eF : FU = 996 + 1 + 1 + 1 + 1 := rfl
  rw [eF, iz0]
  rw [lp_X7_addsPhrase_107, if_neg (by decide +kernel), i12, i33, pk_mul, nI_add, nI_add, if_pos (zin_nI (by omega) (by omega)), nI_clamp (by omega), nI_1, lp_X7_addsPhrase_107, if_neg (by decide +kernel), i12, i33, pk_mul, nI_add, nI_add, if_pos (zin_nI (by omega) (by omega)), nI_clamp (by omega), nI_1, lp_X7_addsPhrase_107, if_neg (by decide +kernel), i12, i33, pk_mul, nI_add, nI_add, if_pos (zin_nI (by omega) (by omega)), nI_clamp (by omega), nI_1, lp_X7_addsPhrase_107, if_pos (by decide +kernel), iz0]
/-- the numbers behind a phrase that came -/
def addN (N : Nat → Nat) (sv c : Nat) : Nat → Nat := setN (setN (setN (setN (setN (setN N 0 (N 0 + 1)) (9 + N 0) sv) (21 + N 0) c) (33 + N 0) 0) (33 + (12 + N 0)) 0) (33 + (24 + N 0)) 0
theorem addN_at (N : Nat → Nat) (sv c j : Nat) (h : N 0 < 12) : addN N sv c j = if j = 0 then N 0 + 1 else if j = 9 + N 0 then sv else if j = 21 + N 0 then c else if j = 33 + N 0 ∨ j = 45 + N 0 ∨ j = 57 + N 0 then 0 else N j := by
  unfold addN setN
  by_cases a1 : j = 33 + (24 + N 0)
  · rw [if_pos a1, if_neg (by omega), if_neg (by omega), if_neg (by omega), if_pos (by omega)]
  rw [if_neg a1]
  by_cases a2 : j = 33 + (12 + N 0)
  · rw [if_pos a2, if_neg (by omega), if_neg (by omega), if_neg (by omega), if_pos (by omega)]
  rw [if_neg a2]
  by_cases a3 : j = 33 + N 0
  · rw [if_pos a3, if_neg (by omega), if_neg (by omega), if_neg (by omega), if_pos (by omega)]
  rw [if_neg a3]
  by_cases a4 : j = 21 + N 0
  · rw [if_pos a4, if_neg (by omega), if_neg (by omega), if_pos a4]
  rw [if_neg a4]
  by_cases a5 : j = 9 + N 0
  · rw [if_pos a5, if_neg (by omega), if_pos a5]
  rw [if_neg a5]
  by_cases a6 : j = 0
  · rw [if_pos a6, if_pos a6]
  · rw [if_neg a6, if_neg a6, if_neg a5, if_neg a4, if_neg (by omega)]
theorem addN_Ok {B : Nat} {N : Nat → Nat} (h : Ok B N) {sv c : Nat} (hs : sv ≤ 3) (hc : vc c) (h12 : N 0 < 12) : Ok B (addN N sv c) := by
  obtain ⟨⟨h1, h2, h3, h4⟩, h5, h6, h7, h8, h9, h10, h11, h12'⟩ := h
  have e := fun j => addN_at N sv c j h12
  refine ⟨⟨by rw [e, if_pos rfl]; omega, by rw [e, if_neg (by omega), if_neg (by omega), if_neg (by omega), if_neg (by omega)]; exact h2, by rw [e, if_neg (by omega), if_neg (by omega), if_neg (by omega), if_neg (by omega)]; exact h3, by rw [e, if_neg (by omega), if_neg (by omega), if_neg (by omega), if_neg (by omega)]; exact h4⟩, fun j a b => by rw [e, if_neg (by omega), if_neg (by omega), if_neg (by omega), if_neg (by omega)]; exact h5 j a b, fun i hi => ?_, fun i hi => ?_, fun i hi => ?_, fun i hi => ?_, fun i hi => by rw [e, if_neg (by omega), if_neg (by omega), if_neg (by omega), if_neg (by omega)]; exact h10 i hi, fun i hi => ?_, fun p a b => by rw [e, if_neg (by omega), if_neg (by omega), if_neg (by omega), if_neg (by omega)]; exact h12' p a b⟩
  · rw [e, if_neg (by omega)]
    by_cases q : 9 + i = 9 + N 0
    · rw [if_pos q]; exact hs
    · rw [if_neg q, if_neg (by omega), if_neg (by omega)]; exact h6 i hi
  · rw [e, if_neg (by omega), if_neg (by omega)]
    by_cases q : 21 + i = 21 + N 0
    · rw [if_pos q]; exact Or.inr hc
    · rw [if_neg q, if_neg (by omega)]; exact h7 i hi
  · rw [e 0, if_pos rfl] at hi
    rw [e, if_neg (by omega), if_neg (by omega)]
    by_cases q : 21 + i = 21 + N 0
    · rw [if_pos q]; exact hc
    · rw [if_neg q, if_neg (by omega)]; exact h8 i (by omega)
  · rw [e, if_neg (by omega), if_neg (by omega), if_neg (by omega)]
    split
    · omega
    · exact h9 i hi
  · rw [e 1, if_neg (by omega), if_neg (by omega), if_neg (by omega), if_neg (by omega)] at hi
    rw [e, if_neg (by omega), if_neg (by omega), if_neg (by omega), if_neg (by omega)]
    exact h11 i hi
theorem addN_M (N : Nat → Nat) (sv c : Nat) (h : N 0 < 12) : setN (setN (setN (setN (setN (setN N (9 + N 0) sv) (21 + N 0) c) (33 + N 0) 0) (45 + N 0) 0) (57 + N 0) 0) 0 (N 0 + 1) = addN N sv c := by
  unfold addN
  rw [setN_comm _ (show 57 + N 0 ≠ 0 by omega), setN_comm _ (show 45 + N 0 ≠ 0 by omega), setN_comm _ (show 33 + N 0 ≠ 0 by omega), setN_comm _ (show 21 + N 0 ≠ 0 by omega), setN_comm _ (show 9 + N 0 ≠ 0 by omega), show 45 + N 0 = 33 + (12 + N 0) by omega, show 57 + N 0 = 33 + (24 + N 0) by omega]
theorem op_phrase (s a : Int32) {B : Nat} {N : Nat → Nat} (h : Ok B N) (hB : B < 2 ^ 31) : OP (f_X4_addPhrase s a) (f_X7_addsPhrase s a) B B N := by
  have hN := nlt h hB
  have h12 : N 0 ≤ 12 := h.1.1
  have hw : ∀ μ, _ := fun μ => wM s 0 3 (by omega) (by omega) 0 3 (by decide +kernel) (by decide +kernel) μ
  have bad : ((∀ μ, f_X4_addPhrase s a μ = some (-2, μ)) ∧ ∀ μ, f_X7_addsPhrase s a μ = some (-2, μ)) → OP (f_X4_addPhrase s a) (f_X7_addsPhrase s a) B B N := fun q => ⟨-2, N, fun μ hs => ⟨μ, q.1 μ, hs, fun _ _ => rfl⟩, fun μ hm => ⟨μ, q.2 μ, hm, fun _ _ => rfl, fun _ _ => rfl⟩, Or.inr ⟨Or.inl rfl, rfl⟩, h⟩
  by_cases q : rng s 0 3
  · obtain ⟨sv, -, sv3, rfl⟩ := q
    rcases codeOK a with ⟨c, hc, rfl, cM, cC⟩ | ⟨cM, cC⟩
    · have hsz := vc_sz hc
      have hc31 : c < 2 ^ 31 := by have := hc.2.1; omega
      have rC : ∀ μ, f_X4_addPhrase (nI sv) (nI c) μ = lp_X4_addPhrase_22 (nI sv) (nI c) (nI (szD c)) FU 0 μ (fun μ10 => if (μ10.1 1 8) < (12 : Int32) then (if zin (μ10.1 1 8) 12 then (if zin (μ10.1 1 8) 12 then (if zin (μ10.1 1 8) 12 then (bd (f_X6_moraeIn (nI c) (nI (szD c)) (si (si (si (si μ10 1 8 ((μ10.1 1 8) + (1 : Int32))) 2 ((μ10.1 1 8).toNatClampNeg) (nI sv)) 3 ((μ10.1 1 8).toNatClampNeg) (nI c)) 4 ((μ10.1 1 8).toNatClampNeg) (nI (szD c)))) fun r12 μ13 => if zin (μ10.1 1 8) 12 then (lp_X4_addPhrase_126 (μ10.1 1 8) FU (0 : Int32) (si μ13 5 ((μ10.1 1 8).toNatClampNeg) r12) (fun μ15 => some (μ10.1 1 8, μ15))) else none) else none) else none) else none) else (some ((-4 : Int32), μ10))) := fun μ => by
        rw [f_X4_addPhrase, cC μ, bd_some, (i_slot μ).1 ⟨sv, by omega, sv3, rfl⟩, bd_some, if_neg (by decide), if_neg (by rw [iz0, nI_eq (by omega) (by omega)]; omega)]
      have rM : ∀ μ, f_X7_addsPhrase (nI sv) (nI c) μ = lp_X7_addsPhrase_32 (nI sv) (nI c) (μ.1 1 0) FU 0 μ (fun μ10 => if (μ.1 1 0) = (12 : Int32) then (some ((-4 : Int32), μ10)) else (if zin ((9 : Int32) + (μ.1 1 0)) 148 then (if zin ((21 : Int32) + (μ.1 1 0)) 148 then (lp_X7_addsPhrase_107 (μ.1 1 0) FU (0 : Int32) (si (si μ10 1 (((9 : Int32) + (μ.1 1 0)).toNatClampNeg) (nI sv)) 1 (((21 : Int32) + (μ.1 1 0)).toNatClampNeg) (nI c)) (fun μ13 => some (μ.1 1 0, (si μ13 1 0 ((μ13.1 1 0) + (1 : Int32)))))) else none) else none)) := fun μ => by
        rw [f_X7_addsPhrase, (hw μ).1 ⟨sv, by omega, sv3, rfl⟩, bd_some, if_neg (by decide), cM μ, bd_some, if_neg (by decide)]
      by_cases hd : ∃ j, 0 ≤ j ∧ j < N 0 ∧ N (9 + j) = sv ∧ N (21 + j) = c
      · refine ⟨-3, N, fun μ hs => ⟨μ, ?_, hs, fun _ _ => rfl⟩, fun μ hm => ⟨μ, ?_, hm, fun _ _ => rfl, fun _ _ => rfl⟩, Or.inr ⟨Or.inr (Or.inl rfl), rfl⟩, h⟩
        · rw [rC μ, iz0]
          exact (dupC hs hN h12 sv c (by omega) hc31 _ _ FU 0 (by omega) (by unfold FU; omega)).1 hd
        · rw [rM μ, hm 0 (by omega), iz0]
          exact (dupM hm hN h12 sv c (by omega) hc31 _ FU 0 (by omega) (by unfold FU; omega)).1 hd
      · by_cases hf : N 0 < 12
        · refine ⟨nI (N 0), addN N sv c, fun μ hs => ⟨si (si (si (si (si (si (si (si μ 1 8 (nI (N 0 + 1))) 2 (N 0) (nI sv)) 3 (N 0) (nI c)) 4 (N 0) (nI (szD c))) 5 (N 0) (nI (moD c))) 6 (N 0) (nI 0)) 6 (12 + N 0) (nI 0)) 6 (24 + N 0) (nI 0), ?_, ?_, fun b hb => by rw [si_ne1 (by omega), si_ne1 (by omega), si_ne1 (by omega), si_ne1 (by omega), si_ne1 (by omega), si_ne1 (by omega), si_ne1 (by omega), si_ne1 (by omega)]⟩, fun μ hm => ⟨si (si (si (si (si (si μ 1 (9 + N 0) (nI sv)) 1 (21 + N 0) (nI c)) 1 (33 + N 0) (nI 0)) 1 (45 + N 0) (nI 0)) 1 (57 + N 0) (nI 0)) 1 0 (nI (N 0 + 1)), ?_, ?_, fun b hb => by rw [si_ne1 (by omega), si_ne1 (by omega), si_ne1 (by omega), si_ne1 (by omega), si_ne1 (by omega), si_ne1 (by omega)], fun b hb => by rw [si_ne1 (by omega), si_ne1 (by omega), si_ne1 (by omega), si_ne1 (by omega), si_ne1 (by omega), si_ne1 (by omega)]⟩, Or.inl ⟨N 0, by omega, rfl⟩, addN_Ok h sv3 hc hf⟩
          · rw [rC μ, iz0, (dupC hs hN h12 sv c (by omega) hc31 _ _ FU 0 (by omega) (by unfold FU; omega)).2 hd, hs.cnt, if_pos (by rw [i12]; exact (nI_ltI (by omega) (by omega)).mpr hf), if_pos (zin_nI hf (by omega)), if_pos (zin_nI hf (by omega)), if_pos (zin_nI hf (by omega)), moraeC hc31 (by omega), bd_some, if_pos (zin_nI hf (by omega)), ← iz0, hab0C hf, nI_clamp (by omega), nI_1, iz0]
          · exact SRs_hab (SRs_hab (SRs_hab (SRs_cod (SRs_slo (SRs_cnt hs (N 0 + 1)) hf sv) hf c) (by omega) 0) (by omega) 0) (by omega) 0
          · rw [rM μ, hm 0 (by omega), iz0, (dupM hm hN h12 sv c (by omega) hc31 _ FU 0 (by omega) (by unfold FU; omega)).2 hd, if_neg (by rw [i12, nI_eq (by omega) (by omega)]; omega), i9, i21, nI_add, nI_add, if_pos (zin_nI (by omega) (by omega)), if_pos (zin_nI (by omega) (by omega)), ← iz0, hab0M hf, nI_clamp (by omega), nI_clamp (by omega)]
            rw [show (si (si (si (si (si μ 1 (9 + N 0) (nI sv)) 1 (21 + N 0) (nI c)) 1 (33 + N 0) (nI 0)) 1 (45 + N 0) (nI 0)) 1 (57 + N 0) (nI 0)).1 1 0 = nI (N 0) by rw [si_rd, if_neg (by omega), si_rd, if_neg (by omega), si_rd, if_neg (by omega), si_rd, if_neg (by omega), si_rd, if_neg (by omega)]; exact hm 0 (by omega), nI_1, iz0]
          · rw [← addN_M N sv c hf]
            exact MR_set (MR_set (MR_set (MR_set (MR_set (MR_set hm (9 + N 0) sv) (21 + N 0) c) (33 + N 0) 0) (45 + N 0) 0) (57 + N 0) 0) 0 (N 0 + 1)
        · refine ⟨-4, N, fun μ hs => ⟨μ, ?_, hs, fun _ _ => rfl⟩, fun μ hm => ⟨μ, ?_, hm, fun _ _ => rfl, fun _ _ => rfl⟩, Or.inr ⟨Or.inr (Or.inr rfl), rfl⟩, h⟩
          · rw [rC μ, iz0, (dupC hs hN h12 sv c (by omega) hc31 _ _ FU 0 (by omega) (by unfold FU; omega)).2 hd, hs.cnt, if_neg (by rw [i12, nI_ltI (by omega) (by omega)]; exact hf)]
          · rw [rM μ, hm 0 (by omega), iz0, (dupM hm hN h12 sv c (by omega) hc31 _ FU 0 (by omega) (by unfold FU; omega)).2 hd, if_pos (by rw [i12, nI_eq (by omega) (by omega)]; omega)]
    · refine bad ⟨fun μ => ?_, fun μ => ?_⟩
      · rw [f_X4_addPhrase, cC μ, bd_some, (i_slot μ).1 ⟨sv, by omega, sv3, rfl⟩, bd_some, if_neg (by decide), if_pos rfl]
      · rw [f_X7_addsPhrase, (hw μ).1 ⟨sv, by omega, sv3, rfl⟩, bd_some, if_neg (by decide), cM μ, bd_some, if_pos rfl]
  · refine bad ⟨fun μ => ?_, fun μ => ?_⟩
    · have : ∃ z, ∀ μ, f_X6_lettersIn a μ = some (z, μ) := by
        rcases codeOK a with ⟨c, _, _, _, cC⟩ | ⟨_, cC⟩
        · exact ⟨_, cC⟩
        · exact ⟨_, cC⟩
      obtain ⟨z, hz⟩ := this
      rw [f_X4_addPhrase, hz μ, bd_some, (i_slot μ).2 q, bd_some, if_pos rfl]
    · rw [f_X7_addsPhrase, (hw μ).2 q, bd_some, if_pos rfl]
theorem st_phrase (n : Nat) (hn : n < 512) (s a : Int32) : Sp Inv n (f_X6_phrase s a) (f_X7_phrase s a) := step_S (FC := f_X4_addPhrase s a) (FM := f_X7_addsPhrase s a) n (fun N h => (op_phrase s a h (by omega)).mono (by omega))
