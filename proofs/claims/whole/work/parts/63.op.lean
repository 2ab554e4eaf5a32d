def setN (N : Nat → Nat) (k v : Nat) : Nat → Nat := fun j => if j = k then v else N j
def dgF : Nat → Nat → Bool
  | 0, _ => true
  | f + 1, c => if c = 0 then true else (decide (1 ≤ c % 10) && decide (c % 10 ≤ 8)) && dgF f (c / 10)
def vc (c : Nat) : Prop := 1 ≤ c ∧ c ≤ 888888 ∧ dgF 12 c = true
def Ok (B : Nat) (N : Nat → Nat) : Prop :=
  (N 0 ≤ 12 ∧ N 1 ≤ 40 ∧ 1 ≤ N 2 ∧ N 2 ≤ 40) ∧ (∀ k, 3 ≤ k → k < 9 → N k ≤ 15) ∧ (∀ i, i < 12 → N (9 + i) ≤ 3) ∧ (∀ i, i < 12 → N (21 + i) = 0 ∨ vc (N (21 + i))) ∧ (∀ i, i < N 0 → vc (N (21 + i))) ∧ (∀ j, j < 36 → N (33 + j) ≤ B) ∧ (∀ k, k < 40 → N (69 + k) ≤ 8) ∧ (∀ k, k < N 1 → 1 ≤ N (69 + k)) ∧ (∀ p, 1 ≤ p → p < 40 → N (108 + p) ≤ 2)
theorem Ok.mono {B B2 : Nat} {N : Nat → Nat} (h : Ok B N) (hB : B ≤ B2) : Ok B2 N := ⟨h.1, h.2.1, h.2.2.1, h.2.2.2.1, h.2.2.2.2.1, fun j hj => Nat.le_trans (h.2.2.2.2.2.1 j hj) hB, h.2.2.2.2.2.2.1, h.2.2.2.2.2.2.2.1, h.2.2.2.2.2.2.2.2⟩
theorem MR_set {μ : Mm} {N : Nat → Nat} (h : MR μ N) (k v : Nat) : MR (si μ 1 k (nI v)) (setN N k v) := by
  intro j hj
  rw [si_rd, setN]
  split <;> split <;> first | rfl | (exfalso; omega) | exact h j hj
theorem SRs_cnt {μ : Mm} {N : Nat → Nat} (h : SR μ 1 N) (v : Nat) : SR (si μ 1 8 (nI v)) 1 (setN N 0 v) := by
  obtain ⟨⟨h1, h2, h3, h4, h5⟩, h6, h7, h8, h9, h10, h11, h12, h13, h14⟩ := h
  refine ⟨⟨?_, ?_, ?_, ?_, ?_⟩, fun i hi => ?_, fun i hi => ?_, fun i hi => ?_, fun i hi => ?_, fun i hi => ?_, fun i hi1 hi => ?_, ?_, fun i hi => ?_, fun i hi => ?_⟩
  · rw [si_rd]; unfold setN; split <;> split <;> first | rfl | (exfalso; omega) | exact h1
  · rw [si_rd]; unfold setN; split <;> split <;> first | rfl | (exfalso; omega) | exact h2
  · rw [si_rd]; unfold setN; split <;> split <;> first | rfl | (exfalso; omega) | exact h3
  · rw [si_rd]; unfold setN; split <;> split <;> first | rfl | (exfalso; omega) | exact h4
  · rw [si_rd]; unfold setN; split <;> split <;> first | rfl | (exfalso; omega) | exact h5
  · rw [si_rd]; unfold setN; split <;> split <;> first | rfl | (exfalso; omega) | exact h6 i hi
  · rw [si_rd]; unfold setN; split <;> split <;> first | rfl | (exfalso; omega) | exact h7 i hi
  · rw [si_rd]; unfold setN; split <;> split <;> first | rfl | (exfalso; omega) | exact h8 i hi
  · rw [si_rd]; unfold setN; split <;> split <;> first | rfl | (exfalso; omega) | exact h9 i hi
  · rw [si_rd]; unfold setN; split <;> split <;> first | rfl | (exfalso; omega) | exact h10 i hi
  · rw [si_rd]; unfold setN; split <;> split <;> first | rfl | (exfalso; omega) | exact h11 i hi1 hi
  · rw [si_rd, if_neg (by omega)]; exact h12
  · rw [si_rd]; unfold setN; split <;> split <;> first | rfl | (exfalso; omega) | exact h13 i hi
  · rw [si_rd]; unfold setN; split <;> split <;> first | rfl | (exfalso; omega) | exact h14 i hi
theorem SRs_lnz {μ : Mm} {N : Nat → Nat} (h : SR μ 1 N) (v : Nat) : SR (si μ 1 9 (nI v)) 1 (setN N 1 v) := by
  obtain ⟨⟨h1, h2, h3, h4, h5⟩, h6, h7, h8, h9, h10, h11, h12, h13, h14⟩ := h
  refine ⟨⟨?_, ?_, ?_, ?_, ?_⟩, fun i hi => ?_, fun i hi => ?_, fun i hi => ?_, fun i hi => ?_, fun i hi => ?_, fun i hi1 hi => ?_, ?_, fun i hi => ?_, fun i hi => ?_⟩
  · rw [si_rd]; unfold setN; split <;> split <;> first | rfl | (exfalso; omega) | exact h1
  · rw [si_rd]; unfold setN; split <;> split <;> first | rfl | (exfalso; omega) | exact h2
  · rw [si_rd]; unfold setN; split <;> split <;> first | rfl | (exfalso; omega) | exact h3
  · rw [si_rd]; unfold setN; split <;> split <;> first | rfl | (exfalso; omega) | exact h4
  · rw [si_rd]; unfold setN; split <;> split <;> first | rfl | (exfalso; omega) | exact h5
  · rw [si_rd]; unfold setN; split <;> split <;> first | rfl | (exfalso; omega) | exact h6 i hi
  · rw [si_rd]; unfold setN; split <;> split <;> first | rfl | (exfalso; omega) | exact h7 i hi
  · rw [si_rd]; unfold setN; split <;> split <;> first | rfl | (exfalso; omega) | exact h8 i hi
  · rw [si_rd]; unfold setN; split <;> split <;> first | rfl | (exfalso; omega) | exact h9 i hi
  · rw [si_rd]; unfold setN; split <;> split <;> first | rfl | (exfalso; omega) | exact h10 i hi
  · rw [si_rd]; unfold setN; split <;> split <;> first | rfl | (exfalso; omega) | exact h11 i hi1 hi
  · rw [si_rd, if_neg (by omega)]; exact h12
  · rw [si_rd]; unfold setN; split <;> split <;> first | rfl | (exfalso; omega) | exact h13 i hi
  · rw [si_rd]; unfold setN; split <;> split <;> first | rfl | (exfalso; omega) | exact h14 i hi
theorem SRs_met {μ : Mm} {N : Nat → Nat} (h : SR μ 1 N) (v : Nat) : SR (si μ 1 10 (nI v)) 1 (setN N 2 v) := by
  obtain ⟨⟨h1, h2, h3, h4, h5⟩, h6, h7, h8, h9, h10, h11, h12, h13, h14⟩ := h
  refine ⟨⟨?_, ?_, ?_, ?_, ?_⟩, fun i hi => ?_, fun i hi => ?_, fun i hi => ?_, fun i hi => ?_, fun i hi => ?_, fun i hi1 hi => ?_, ?_, fun i hi => ?_, fun i hi => ?_⟩
  · rw [si_rd]; unfold setN; split <;> split <;> first | rfl | (exfalso; omega) | exact h1
  · rw [si_rd]; unfold setN; split <;> split <;> first | rfl | (exfalso; omega) | exact h2
  · rw [si_rd]; unfold setN; split <;> split <;> first | rfl | (exfalso; omega) | exact h3
  · rw [si_rd]; unfold setN; split <;> split <;> first | rfl | (exfalso; omega) | exact h4
  · rw [si_rd]; unfold setN; split <;> split <;> first | rfl | (exfalso; omega) | exact h5
  · rw [si_rd]; unfold setN; split <;> split <;> first | rfl | (exfalso; omega) | exact h6 i hi
  · rw [si_rd]; unfold setN; split <;> split <;> first | rfl | (exfalso; omega) | exact h7 i hi
  · rw [si_rd]; unfold setN; split <;> split <;> first | rfl | (exfalso; omega) | exact h8 i hi
  · rw [si_rd]; unfold setN; split <;> split <;> first | rfl | (exfalso; omega) | exact h9 i hi
  · rw [si_rd]; unfold setN; split <;> split <;> first | rfl | (exfalso; omega) | exact h10 i hi
  · rw [si_rd]; unfold setN; split <;> split <;> first | rfl | (exfalso; omega) | exact h11 i hi1 hi
  · rw [si_rd, if_neg (by omega)]; exact h12
  · rw [si_rd]; unfold setN; split <;> split <;> first | rfl | (exfalso; omega) | exact h13 i hi
  · rw [si_rd]; unfold setN; split <;> split <;> first | rfl | (exfalso; omega) | exact h14 i hi
theorem SRs_beg {μ : Mm} {N : Nat → Nat} (h : SR μ 1 N) (v : Nat) : SR (si μ 1 11 (nI v)) 1 (setN N 3 v) := by
  obtain ⟨⟨h1, h2, h3, h4, h5⟩, h6, h7, h8, h9, h10, h11, h12, h13, h14⟩ := h
  refine ⟨⟨?_, ?_, ?_, ?_, ?_⟩, fun i hi => ?_, fun i hi => ?_, fun i hi => ?_, fun i hi => ?_, fun i hi => ?_, fun i hi1 hi => ?_, ?_, fun i hi => ?_, fun i hi => ?_⟩
  · rw [si_rd]; unfold setN; split <;> split <;> first | rfl | (exfalso; omega) | exact h1
  · rw [si_rd]; unfold setN; split <;> split <;> first | rfl | (exfalso; omega) | exact h2
  · rw [si_rd]; unfold setN; split <;> split <;> first | rfl | (exfalso; omega) | exact h3
  · rw [si_rd]; unfold setN; split <;> split <;> first | rfl | (exfalso; omega) | exact h4
  · rw [si_rd]; unfold setN; split <;> split <;> first | rfl | (exfalso; omega) | exact h5
  · rw [si_rd]; unfold setN; split <;> split <;> first | rfl | (exfalso; omega) | exact h6 i hi
  · rw [si_rd]; unfold setN; split <;> split <;> first | rfl | (exfalso; omega) | exact h7 i hi
  · rw [si_rd]; unfold setN; split <;> split <;> first | rfl | (exfalso; omega) | exact h8 i hi
  · rw [si_rd]; unfold setN; split <;> split <;> first | rfl | (exfalso; omega) | exact h9 i hi
  · rw [si_rd]; unfold setN; split <;> split <;> first | rfl | (exfalso; omega) | exact h10 i hi
  · rw [si_rd]; unfold setN; split <;> split <;> first | rfl | (exfalso; omega) | exact h11 i hi1 hi
  · rw [si_rd, if_neg (by omega)]; exact h12
  · rw [si_rd]; unfold setN; split <;> split <;> first | rfl | (exfalso; omega) | exact h13 i hi
  · rw [si_rd]; unfold setN; split <;> split <;> first | rfl | (exfalso; omega) | exact h14 i hi
theorem SRs_ens {μ : Mm} {N : Nat → Nat} (h : SR μ 1 N) (v : Nat) : SR (si μ 1 12 (nI v)) 1 (setN N 4 v) := by
  obtain ⟨⟨h1, h2, h3, h4, h5⟩, h6, h7, h8, h9, h10, h11, h12, h13, h14⟩ := h
  refine ⟨⟨?_, ?_, ?_, ?_, ?_⟩, fun i hi => ?_, fun i hi => ?_, fun i hi => ?_, fun i hi => ?_, fun i hi => ?_, fun i hi1 hi => ?_, ?_, fun i hi => ?_, fun i hi => ?_⟩
  · rw [si_rd]; unfold setN; split <;> split <;> first | rfl | (exfalso; omega) | exact h1
  · rw [si_rd]; unfold setN; split <;> split <;> first | rfl | (exfalso; omega) | exact h2
  · rw [si_rd]; unfold setN; split <;> split <;> first | rfl | (exfalso; omega) | exact h3
  · rw [si_rd]; unfold setN; split <;> split <;> first | rfl | (exfalso; omega) | exact h4
  · rw [si_rd]; unfold setN; split <;> split <;> first | rfl | (exfalso; omega) | exact h5
  · rw [si_rd]; unfold setN; split <;> split <;> first | rfl | (exfalso; omega) | exact h6 i hi
  · rw [si_rd]; unfold setN; split <;> split <;> first | rfl | (exfalso; omega) | exact h7 i hi
  · rw [si_rd]; unfold setN; split <;> split <;> first | rfl | (exfalso; omega) | exact h8 i hi
  · rw [si_rd]; unfold setN; split <;> split <;> first | rfl | (exfalso; omega) | exact h9 i hi
  · rw [si_rd]; unfold setN; split <;> split <;> first | rfl | (exfalso; omega) | exact h10 i hi
  · rw [si_rd]; unfold setN; split <;> split <;> first | rfl | (exfalso; omega) | exact h11 i hi1 hi
  · rw [si_rd, if_neg (by omega)]; exact h12
  · rw [si_rd]; unfold setN; split <;> split <;> first | rfl | (exfalso; omega) | exact h13 i hi
  · rw [si_rd]; unfold setN; split <;> split <;> first | rfl | (exfalso; omega) | exact h14 i hi
theorem SRs_fol {μ : Mm} {N : Nat → Nat} (h : SR μ 1 N) {s : Nat} (hs : s < 4) (v : Nat) : SR (si μ 9 s (nI v)) 1 (setN N (5 + s) v) := by
  obtain ⟨⟨h1, h2, h3, h4, h5⟩, h6, h7, h8, h9, h10, h11, h12, h13, h14⟩ := h
  refine ⟨⟨?_, ?_, ?_, ?_, ?_⟩, fun i hi => ?_, fun i hi => ?_, fun i hi => ?_, fun i hi => ?_, fun i hi => ?_, fun i hi1 hi => ?_, ?_, fun i hi => ?_, fun i hi => ?_⟩
  · rw [si_rd]; unfold setN; split <;> split <;> first | rfl | (exfalso; omega) | exact h1
  · rw [si_rd]; unfold setN; split <;> split <;> first | rfl | (exfalso; omega) | exact h2
  · rw [si_rd]; unfold setN; split <;> split <;> first | rfl | (exfalso; omega) | exact h3
  · rw [si_rd]; unfold setN; split <;> split <;> first | rfl | (exfalso; omega) | exact h4
  · rw [si_rd]; unfold setN; split <;> split <;> first | rfl | (exfalso; omega) | exact h5
  · rw [si_rd]; unfold setN; split <;> split <;> first | rfl | (exfalso; omega) | exact h6 i hi
  · rw [si_rd]; unfold setN; split <;> split <;> first | rfl | (exfalso; omega) | exact h7 i hi
  · rw [si_rd]; unfold setN; split <;> split <;> first | rfl | (exfalso; omega) | exact h8 i hi
  · rw [si_rd]; unfold setN; split <;> split <;> first | rfl | (exfalso; omega) | exact h9 i hi
  · rw [si_rd]; unfold setN; split <;> split <;> first | rfl | (exfalso; omega) | exact h10 i hi
  · rw [si_rd]; unfold setN; split <;> split <;> first | rfl | (exfalso; omega) | exact h11 i hi1 hi
  · rw [si_rd, if_neg (by omega)]; exact h12
  · rw [si_rd]; unfold setN; split <;> split <;> first | rfl | (exfalso; omega) | exact h13 i hi
  · rw [si_rd]; unfold setN; split <;> split <;> first | rfl | (exfalso; omega) | exact h14 i hi
theorem SRs_slo {μ : Mm} {N : Nat → Nat} (h : SR μ 1 N) {s : Nat} (hs : s < 12) (v : Nat) : SR (si μ 2 s (nI v)) 1 (setN N (9 + s) v) := by
  obtain ⟨⟨h1, h2, h3, h4, h5⟩, h6, h7, h8, h9, h10, h11, h12, h13, h14⟩ := h
  refine ⟨⟨?_, ?_, ?_, ?_, ?_⟩, fun i hi => ?_, fun i hi => ?_, fun i hi => ?_, fun i hi => ?_, fun i hi => ?_, fun i hi1 hi => ?_, ?_, fun i hi => ?_, fun i hi => ?_⟩
  · rw [si_rd]; unfold setN; split <;> split <;> first | rfl | (exfalso; omega) | exact h1
  · rw [si_rd]; unfold setN; split <;> split <;> first | rfl | (exfalso; omega) | exact h2
  · rw [si_rd]; unfold setN; split <;> split <;> first | rfl | (exfalso; omega) | exact h3
  · rw [si_rd]; unfold setN; split <;> split <;> first | rfl | (exfalso; omega) | exact h4
  · rw [si_rd]; unfold setN; split <;> split <;> first | rfl | (exfalso; omega) | exact h5
  · rw [si_rd]; unfold setN; split <;> split <;> first | rfl | (exfalso; omega) | exact h6 i hi
  · rw [si_rd]; unfold setN; split <;> split <;> first | rfl | (exfalso; omega) | exact h7 i hi
  · rw [si_rd]; unfold setN; split <;> split <;> first | rfl | (exfalso; omega) | exact h8 i hi
  · rw [si_rd]; unfold setN; split <;> split <;> first | rfl | (exfalso; omega) | exact h9 i hi
  · rw [si_rd]; unfold setN; split <;> split <;> first | rfl | (exfalso; omega) | exact h10 i hi
  · rw [si_rd]; unfold setN; split <;> split <;> first | rfl | (exfalso; omega) | exact h11 i hi1 hi
  · rw [si_rd, if_neg (by omega)]; exact h12
  · rw [si_rd]; unfold setN; split <;> split <;> first | rfl | (exfalso; omega) | exact h13 i hi
  · rw [si_rd]; unfold setN; split <;> split <;> first | rfl | (exfalso; omega) | exact h14 i hi
theorem SRs_hab {μ : Mm} {N : Nat → Nat} (h : SR μ 1 N) {s : Nat} (hs : s < 36) (v : Nat) : SR (si μ 6 s (nI v)) 1 (setN N (33 + s) v) := by
  obtain ⟨⟨h1, h2, h3, h4, h5⟩, h6, h7, h8, h9, h10, h11, h12, h13, h14⟩ := h
  refine ⟨⟨?_, ?_, ?_, ?_, ?_⟩, fun i hi => ?_, fun i hi => ?_, fun i hi => ?_, fun i hi => ?_, fun i hi => ?_, fun i hi1 hi => ?_, ?_, fun i hi => ?_, fun i hi => ?_⟩
  · rw [si_rd]; unfold setN; split <;> split <;> first | rfl | (exfalso; omega) | exact h1
  · rw [si_rd]; unfold setN; split <;> split <;> first | rfl | (exfalso; omega) | exact h2
  · rw [si_rd]; unfold setN; split <;> split <;> first | rfl | (exfalso; omega) | exact h3
  · rw [si_rd]; unfold setN; split <;> split <;> first | rfl | (exfalso; omega) | exact h4
  · rw [si_rd]; unfold setN; split <;> split <;> first | rfl | (exfalso; omega) | exact h5
  · rw [si_rd]; unfold setN; split <;> split <;> first | rfl | (exfalso; omega) | exact h6 i hi
  · rw [si_rd]; unfold setN; split <;> split <;> first | rfl | (exfalso; omega) | exact h7 i hi
  · rw [si_rd]; unfold setN; split <;> split <;> first | rfl | (exfalso; omega) | exact h8 i hi
  · rw [si_rd]; unfold setN; split <;> split <;> first | rfl | (exfalso; omega) | exact h9 i hi
  · rw [si_rd]; unfold setN; split <;> split <;> first | rfl | (exfalso; omega) | exact h10 i hi
  · rw [si_rd]; unfold setN; split <;> split <;> first | rfl | (exfalso; omega) | exact h11 i hi1 hi
  · rw [si_rd, if_neg (by omega)]; exact h12
  · rw [si_rd]; unfold setN; split <;> split <;> first | rfl | (exfalso; omega) | exact h13 i hi
  · rw [si_rd]; unfold setN; split <;> split <;> first | rfl | (exfalso; omega) | exact h14 i hi
theorem SRs_lin {μ : Mm} {N : Nat → Nat} (h : SR μ 1 N) {s : Nat} (hs : s < 40) (v : Nat) : SR (si μ 7 s (nI v)) 1 (setN N (69 + s) v) := by
  obtain ⟨⟨h1, h2, h3, h4, h5⟩, h6, h7, h8, h9, h10, h11, h12, h13, h14⟩ := h
  refine ⟨⟨?_, ?_, ?_, ?_, ?_⟩, fun i hi => ?_, fun i hi => ?_, fun i hi => ?_, fun i hi => ?_, fun i hi => ?_, fun i hi1 hi => ?_, ?_, fun i hi => ?_, fun i hi => ?_⟩
  · rw [si_rd]; unfold setN; split <;> split <;> first | rfl | (exfalso; omega) | exact h1
  · rw [si_rd]; unfold setN; split <;> split <;> first | rfl | (exfalso; omega) | exact h2
  · rw [si_rd]; unfold setN; split <;> split <;> first | rfl | (exfalso; omega) | exact h3
  · rw [si_rd]; unfold setN; split <;> split <;> first | rfl | (exfalso; omega) | exact h4
  · rw [si_rd]; unfold setN; split <;> split <;> first | rfl | (exfalso; omega) | exact h5
  · rw [si_rd]; unfold setN; split <;> split <;> first | rfl | (exfalso; omega) | exact h6 i hi
  · rw [si_rd]; unfold setN; split <;> split <;> first | rfl | (exfalso; omega) | exact h7 i hi
  · rw [si_rd]; unfold setN; split <;> split <;> first | rfl | (exfalso; omega) | exact h8 i hi
  · rw [si_rd]; unfold setN; split <;> split <;> first | rfl | (exfalso; omega) | exact h9 i hi
  · rw [si_rd]; unfold setN; split <;> split <;> first | rfl | (exfalso; omega) | exact h10 i hi
  · rw [si_rd]; unfold setN; split <;> split <;> first | rfl | (exfalso; omega) | exact h11 i hi1 hi
  · rw [si_rd, if_neg (by omega)]; exact h12
  · rw [si_rd]; unfold setN; split <;> split <;> first | rfl | (exfalso; omega) | exact h13 i hi
  · rw [si_rd]; unfold setN; split <;> split <;> first | rfl | (exfalso; omega) | exact h14 i hi
theorem SRs_mar {μ : Mm} {N : Nat → Nat} (h : SR μ 1 N) {s : Nat} (hs1 : 1 ≤ s) (hs : s < 40) (v : Nat) : SR (si μ 8 s (nI v)) 1 (setN N (108 + s) v) := by
  obtain ⟨⟨h1, h2, h3, h4, h5⟩, h6, h7, h8, h9, h10, h11, h12, h13, h14⟩ := h
  refine ⟨⟨?_, ?_, ?_, ?_, ?_⟩, fun i hi => ?_, fun i hi => ?_, fun i hi => ?_, fun i hi => ?_, fun i hi => ?_, fun i hi1 hi => ?_, ?_, fun i hi => ?_, fun i hi => ?_⟩
  · rw [si_rd]; unfold setN; split <;> split <;> first | rfl | (exfalso; omega) | exact h1
  · rw [si_rd]; unfold setN; split <;> split <;> first | rfl | (exfalso; omega) | exact h2
  · rw [si_rd]; unfold setN; split <;> split <;> first | rfl | (exfalso; omega) | exact h3
  · rw [si_rd]; unfold setN; split <;> split <;> first | rfl | (exfalso; omega) | exact h4
  · rw [si_rd]; unfold setN; split <;> split <;> first | rfl | (exfalso; omega) | exact h5
  · rw [si_rd]; unfold setN; split <;> split <;> first | rfl | (exfalso; omega) | exact h6 i hi
  · rw [si_rd]; unfold setN; split <;> split <;> first | rfl | (exfalso; omega) | exact h7 i hi
  · rw [si_rd]; unfold setN; split <;> split <;> first | rfl | (exfalso; omega) | exact h8 i hi
  · rw [si_rd]; unfold setN; split <;> split <;> first | rfl | (exfalso; omega) | exact h9 i hi
  · rw [si_rd]; unfold setN; split <;> split <;> first | rfl | (exfalso; omega) | exact h10 i hi
  · rw [si_rd]; unfold setN; split <;> split <;> first | rfl | (exfalso; omega) | exact h11 i hi1 hi
  · rw [si_rd, if_neg (by omega)]; exact h12
  · rw [si_rd]; unfold setN; split <;> split <;> first | rfl | (exfalso; omega) | exact h13 i hi
  · rw [si_rd]; unfold setN; split <;> split <;> first | rfl | (exfalso; omega) | exact h14 i hi
theorem SRs_cod {μ : Mm} {N : Nat → Nat} (h : SR μ 1 N) {s : Nat} (hs : s < 12) (v : Nat) : SR (si (si (si μ 3 s (nI v)) 4 s (nI (szD v))) 5 s (nI (moD v))) 1 (setN N (21 + s) v) := by
  obtain ⟨⟨h1, h2, h3, h4, h5⟩, h6, h7, h8, h9, h10, h11, h12, h13, h14⟩ := h
  have fr : ∀ a, a ≠ 3 → a ≠ 4 → a ≠ 5 → (si (si (si μ 3 s (nI v)) 4 s (nI (szD v))) 5 s (nI (moD v))).1 a = μ.1 a := fun a p q r => by rw [si_ne1 r, si_ne1 q, si_ne1 p]
  refine ⟨⟨?_, ?_, ?_, ?_, ?_⟩, fun i hi => ?_, fun i hi => ?_, fun i hi => ?_, fun i hi => ?_, fun i hi => ?_, fun i hi1 hi => ?_, ?_, fun i hi => ?_, fun i hi => ?_⟩
  · rw [fr _ (by omega) (by omega) (by omega)]; unfold setN; rw [if_neg (by omega)]; exact h1
  · rw [fr _ (by omega) (by omega) (by omega)]; unfold setN; rw [if_neg (by omega)]; exact h2
  · rw [fr _ (by omega) (by omega) (by omega)]; unfold setN; rw [if_neg (by omega)]; exact h3
  · rw [fr _ (by omega) (by omega) (by omega)]; unfold setN; rw [if_neg (by omega)]; exact h4
  · rw [fr _ (by omega) (by omega) (by omega)]; unfold setN; rw [if_neg (by omega)]; exact h5
  · rw [fr _ (by omega) (by omega) (by omega)]; unfold setN; rw [if_neg (by omega)]; exact h6 i hi
  · rw [fr _ (by omega) (by omega) (by omega)]; unfold setN; rw [if_neg (by omega)]; exact h7 i hi
  · rw [si_ne1 (by omega), si_ne1 (by omega), si_rd]; unfold setN; split <;> split <;> first | rfl | (exfalso; omega) | exact h8 i hi
  · rw [fr _ (by omega) (by omega) (by omega)]; unfold setN; rw [if_neg (by omega)]; exact h9 i hi
  · rw [fr _ (by omega) (by omega) (by omega)]; unfold setN; rw [if_neg (by omega)]; exact h10 i hi
  · rw [fr _ (by omega) (by omega) (by omega)]; unfold setN; rw [if_neg (by omega)]; exact h11 i hi1 hi
  · rw [fr _ (by omega) (by omega) (by omega)]; exact h12
  · rw [si_ne1 (by omega), si_rd]; rw [si_ne1 (by omega)]; unfold setN; split <;> split <;> first | rfl | (exfalso; omega) | exact h13 i hi
  · rw [si_rd, si_ne1 (by omega), si_ne1 (by omega)]; unfold setN; split <;> split <;> first | rfl | (exfalso; omega) | exact h14 i hi
/-- an order of the text, or what a call told S does: both sides answer alike and change the numbers alike -/
def OP (FC FM : Mm → Option (Int32 × Mm)) (B B2 : Nat) (N : Nat → Nat) : Prop := ∃ r N2, OpC FC N r N2 ∧ OpM FM N r N2 ∧ okR r N N2 ∧ Ok B2 N2
def Inv (n : Nat) (μC μM : Mm) : Prop := ∃ N hist st tx len rf, RC N hist st tx len rf μC ∧ RM N hist st tx len rf μM ∧ Ok (6000 * n) N ∧ (∀ j, j < st → Ok (6000 * n) (hist j)) ∧ len ≤ 150 ∧ ∀ i, i < len → tx i ≤ 127
theorem pushOk {B : Nat} {hist : Nat → Nat → Nat} {st : Nat} {N : Nat → Nat} (h : ∀ j, j < st → Ok B (hist j)) (hs : st ≤ 5) (hN : Ok B N) : ∀ j, j < pushS st → Ok B (pushH hist st N j) := by
  intro j hj
  unfold pushS at hj
  unfold pushH
  by_cases h5 : st < 5
  · rw [if_pos h5] at hj ⊢
    by_cases hjs : j = st
    · rw [if_pos hjs]; exact hN
    · rw [if_neg hjs]; exact h j (by omega)
  · rw [if_neg h5] at hj ⊢
    by_cases hjs : j = 4
    · rw [if_pos hjs]; exact hN
    · rw [if_neg hjs]; exact h (j + 1) (by omega)
/-- a call told S -/
theorem step_S {FC FM : Mm → Option (Int32 × Mm)} (n : Nat) (hop : ∀ N, Ok (6000 * n) N → OP FC FM (6000 * n) (6000 * (n + 1)) N) : Sp Inv n (fun μ => bd (f_X3_stage μ) fun _ μ2 => bd (FC μ2) fun r3 μ4 => bd (f_X6_settled r3 μ4) fun r5 μ6 => some (r5, μ6)) (fun μ => bd (f_X7_laysAside μ) fun _ μ2 => bd (FM μ2) fun r3 μ4 => bd (f_X7_answers r3 μ4) fun r5 μ6 => some (r5, μ6)) := by
  intro μC μM hI
  obtain ⟨N, hist, st, tx, len, rf, hC, hM, hO, hH, hl, ht⟩ := hI
  obtain ⟨r, N2, oC, oM, hr, hO2⟩ := hop N hO
  have hs : st ≤ 5 := hM.2.1
  rcases hr with hr | ⟨hr, hN⟩
  · obtain ⟨μC2, e1, q1⟩ := (scC oC hC).1 hr
    obtain ⟨μM2, e2, q2⟩ := (scM oM hM).1 hr
    exact ⟨r, μC2, μM2, e1, e2, N2, _, _, tx, len, rf, q1, q2, hO2, pushOk (fun j hj => (hH j hj).mono (by omega)) hs (hO.mono (by omega)), hl, ht⟩
  · obtain ⟨μC2, e1, q1⟩ := (scC oC hC).2 hr hN
    obtain ⟨μM2, e2, q2⟩ := (scM oM hM).2 hr hN
    exact ⟨r, μC2, μM2, e1, e2, N, hist, st, tx, len, _, q1, q2, hO.mono (by omega), fun j hj => (hH j hj).mono (by omega), hl, ht⟩
