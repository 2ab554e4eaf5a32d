/-! what the memories hold: a song by its 148 numbers -/
def szF : Nat → Nat → Nat
  | 0, _ => 0
  | f + 1, c => if c = 0 then 0 else 1 + szF f (c / 10)
def szD (c : Nat) : Nat := szF 12 c
def moF : Nat → Nat → Nat
  | 0, _ => 0
  | f + 1, c => if c = 0 then 0 else (if 5 ≤ c % 10 then 2 else 1) + moF f (c / 10)
def moD (c : Nat) : Nat := moF 12 c
def MR (μ : Mm) (N : Nat → Nat) : Prop := ∀ k, k < 148 → μ.1 1 k = nI (N k)
def SR (μ : Mm) (b : Nat) (N : Nat → Nat) : Prop :=
  (μ.1 b 8 = nI (N 0) ∧ μ.1 b 9 = nI (N 1) ∧ μ.1 b 10 = nI (N 2) ∧ μ.1 b 11 = nI (N 3) ∧ μ.1 b 12 = nI (N 4)) ∧
  (∀ i, i < 4 → μ.1 (b + 8) i = nI (N (5 + i))) ∧ (∀ i, i < 12 → μ.1 (b + 1) i = nI (N (9 + i))) ∧ (∀ i, i < 12 → μ.1 (b + 2) i = nI (N (21 + i))) ∧
  (∀ i, i < 36 → μ.1 (b + 5) i = nI (N (33 + i))) ∧ (∀ i, i < 40 → μ.1 (b + 6) i = nI (N (69 + i))) ∧ (∀ i, 1 ≤ i → i < 40 → μ.1 (b + 7) i = nI (N (108 + i))) ∧ μ.1 (b + 7) 0 = 0 ∧
  (∀ i, i < 12 → μ.1 (b + 3) i = nI (szD (N (21 + i)))) ∧ (∀ i, i < 12 → μ.1 (b + 4) i = nI (moD (N (21 + i))))
theorem SR.frame {μ μ2 : Mm} {b : Nat} {N : Nat → Nat} (h : SR μ b N) (hf : ∀ a, b ≤ a → a ≤ b + 8 → μ2.1 a = μ.1 a) : SR μ2 b N := by
  unfold SR at h ⊢
  rw [hf b (by omega) (by omega), hf (b + 1) (by omega) (by omega), hf (b + 2) (by omega) (by omega), hf (b + 3) (by omega) (by omega), hf (b + 4) (by omega) (by omega), hf (b + 5) (by omega) (by omega), hf (b + 6) (by omega) (by omega), hf (b + 7) (by omega) (by omega), hf (b + 8) (by omega) (by omega)]
  exact h
theorem SR.cnt {μ : Mm} {b : Nat} {N : Nat → Nat} (h : SR μ b N) : μ.1 b 8 = nI (N 0) := h.1.1
theorem SR.lnz {μ : Mm} {b : Nat} {N : Nat → Nat} (h : SR μ b N) : μ.1 b 9 = nI (N 1) := h.1.2.1
theorem SR.met {μ : Mm} {b : Nat} {N : Nat → Nat} (h : SR μ b N) : μ.1 b 10 = nI (N 2) := h.1.2.2.1
theorem SR.beg {μ : Mm} {b : Nat} {N : Nat → Nat} (h : SR μ b N) : μ.1 b 11 = nI (N 3) := h.1.2.2.2.1
theorem SR.ens {μ : Mm} {b : Nat} {N : Nat → Nat} (h : SR μ b N) : μ.1 b 12 = nI (N 4) := h.1.2.2.2.2
theorem SR.fol {μ : Mm} {b : Nat} {N : Nat → Nat} (h : SR μ b N) {i : Nat} (hi : i < 4) : μ.1 (b + 8) i = nI (N (5 + i)) := h.2.1 i hi
theorem SR.slo {μ : Mm} {b : Nat} {N : Nat → Nat} (h : SR μ b N) {i : Nat} (hi : i < 12) : μ.1 (b + 1) i = nI (N (9 + i)) := h.2.2.1 i hi
theorem SR.cod {μ : Mm} {b : Nat} {N : Nat → Nat} (h : SR μ b N) {i : Nat} (hi : i < 12) : μ.1 (b + 2) i = nI (N (21 + i)) := h.2.2.2.1 i hi
theorem SR.hab {μ : Mm} {b : Nat} {N : Nat → Nat} (h : SR μ b N) {i : Nat} (hi : i < 36) : μ.1 (b + 5) i = nI (N (33 + i)) := h.2.2.2.2.1 i hi
theorem SR.lin {μ : Mm} {b : Nat} {N : Nat → Nat} (h : SR μ b N) {i : Nat} (hi : i < 40) : μ.1 (b + 6) i = nI (N (69 + i)) := h.2.2.2.2.2.1 i hi
theorem SR.mar {μ : Mm} {b : Nat} {N : Nat → Nat} (h : SR μ b N) {i : Nat} (h1 : 1 ≤ i) (hi : i < 40) : μ.1 (b + 7) i = nI (N (108 + i)) := h.2.2.2.2.2.2.1 i h1 hi
theorem SR.ma0 {μ : Mm} {b : Nat} {N : Nat → Nat} (h : SR μ b N) : μ.1 (b + 7) 0 = 0 := h.2.2.2.2.2.2.2.1
theorem SR.siz {μ : Mm} {b : Nat} {N : Nat → Nat} (h : SR μ b N) {i : Nat} (hi : i < 12) : μ.1 (b + 3) i = nI (szD (N (21 + i))) := h.2.2.2.2.2.2.2.2.1 i hi
theorem SR.mor {μ : Mm} {b : Nat} {N : Nat → Nat} (h : SR μ b N) {i : Nat} (hi : i < 12) : μ.1 (b + 4) i = nI (moD (N (21 + i))) := h.2.2.2.2.2.2.2.2.2 i hi
theorem cf_rd (μ : Mm) (a b k c j : Nat) : (cf μ a b k).1 c j = if c = a ∧ j = k then μ.1 b k else μ.1 c j := by rw [cf, si_rd]
theorem cpS_frame {μ : Mm} {a b c : Nat} (hc : c < a ∨ a + 8 < c) : (cpS μ a b).1 c = μ.1 c := by
  funext j
  rw [cpS]; repeat rw [cf_rd, if_neg (by omega)]
  rw [cpA]; repeat rw [sc_rd, if_neg (by omega)]
theorem cpS_2 {μ : Mm} {a b : Nat} : (cpS μ a b).2 = μ.2 := rfl
theorem cpS_SR {μ : Mm} {a b : Nat} {N : Nat → Nat} (h : SR μ b N) (hd : b + 9 ≤ a ∨ a + 9 ≤ b) : SR (cpS μ a b) a N := by
  obtain ⟨⟨h1, h2, h3, h4, h5⟩, h6, h7, h8, h9, h10, h11, h12, h13, h14⟩ := h
  refine ⟨⟨?_, ?_, ?_, ?_, ?_⟩, fun i hi => ?_, fun i hi => ?_, fun i hi => ?_, fun i hi => ?_, fun i hi => ?_, fun i hi1 hi => ?_, ?_, fun i hi => ?_, fun i hi => ?_⟩
  · rw [← h1]; rw [cpS]; repeat (first | rw [cf_rd, if_neg (by omega)] | rw [cf_rd, if_pos (by omega)])
    rw [cpA]; repeat (first | rw [sc_rd, if_neg (by omega)] | rw [sc_rd, if_pos (by omega)])
  · rw [← h2]; rw [cpS]; repeat (first | rw [cf_rd, if_neg (by omega)] | rw [cf_rd, if_pos (by omega)])
    rw [cpA]; repeat (first | rw [sc_rd, if_neg (by omega)] | rw [sc_rd, if_pos (by omega)])
  · rw [← h3]; rw [cpS]; repeat (first | rw [cf_rd, if_neg (by omega)] | rw [cf_rd, if_pos (by omega)])
    rw [cpA]; repeat (first | rw [sc_rd, if_neg (by omega)] | rw [sc_rd, if_pos (by omega)])
  · rw [← h4]; rw [cpS]; repeat (first | rw [cf_rd, if_neg (by omega)] | rw [cf_rd, if_pos (by omega)])
    rw [cpA]; repeat (first | rw [sc_rd, if_neg (by omega)] | rw [sc_rd, if_pos (by omega)])
  · rw [← h5]; rw [cpS]; repeat (first | rw [cf_rd, if_neg (by omega)] | rw [cf_rd, if_pos (by omega)])
    rw [cpA]; repeat (first | rw [sc_rd, if_neg (by omega)] | rw [sc_rd, if_pos (by omega)])
  · rw [← h6 i hi]; rw [cpS]; repeat (first | rw [cf_rd, if_neg (by omega)] | rw [cf_rd, if_pos (by omega)])
    rw [cpA]; repeat (first | rw [sc_rd, if_neg (by omega)] | rw [sc_rd, if_pos (by omega)])
  · rw [← h7 i hi]; rw [cpS]; repeat (first | rw [cf_rd, if_neg (by omega)] | rw [cf_rd, if_pos (by omega)])
    rw [cpA]; repeat (first | rw [sc_rd, if_neg (by omega)] | rw [sc_rd, if_pos (by omega)])
  · rw [← h8 i hi]; rw [cpS]; repeat (first | rw [cf_rd, if_neg (by omega)] | rw [cf_rd, if_pos (by omega)])
    rw [cpA]; repeat (first | rw [sc_rd, if_neg (by omega)] | rw [sc_rd, if_pos (by omega)])
  · rw [← h9 i hi]; rw [cpS]; repeat (first | rw [cf_rd, if_neg (by omega)] | rw [cf_rd, if_pos (by omega)])
    rw [cpA]; repeat (first | rw [sc_rd, if_neg (by omega)] | rw [sc_rd, if_pos (by omega)])
  · rw [← h10 i hi]; rw [cpS]; repeat (first | rw [cf_rd, if_neg (by omega)] | rw [cf_rd, if_pos (by omega)])
    rw [cpA]; repeat (first | rw [sc_rd, if_neg (by omega)] | rw [sc_rd, if_pos (by omega)])
  · rw [← h11 i hi1 hi]; rw [cpS]; repeat (first | rw [cf_rd, if_neg (by omega)] | rw [cf_rd, if_pos (by omega)])
    rw [cpA]; repeat (first | rw [sc_rd, if_neg (by omega)] | rw [sc_rd, if_pos (by omega)])
  · rw [← h12]; rw [cpS]; repeat (first | rw [cf_rd, if_neg (by omega)] | rw [cf_rd, if_pos (by omega)])
    rw [cpA]; repeat (first | rw [sc_rd, if_neg (by omega)] | rw [sc_rd, if_pos (by omega)])
  · rw [← h13 i hi]; rw [cpS]; repeat (first | rw [cf_rd, if_neg (by omega)] | rw [cf_rd, if_pos (by omega)])
    rw [cpA]; repeat (first | rw [sc_rd, if_neg (by omega)] | rw [sc_rd, if_pos (by omega)])
  · rw [← h14 i hi]; rw [cpS]; repeat (first | rw [cf_rd, if_neg (by omega)] | rw [cf_rd, if_pos (by omega)])
    rw [cpA]; repeat (first | rw [sc_rd, if_neg (by omega)] | rw [sc_rd, if_pos (by omega)])
/-! the two states and what they share: numbers N now, earlier ones, THE TEXT, how often refused -/
def RC (N : Nat → Nat) (hist : Nat → Nat → Nat) (st : Nat) (tx : Nat → Nat) (len : Nat) (rf : Nat → Int32) (μ : Mm) : Prop :=
  ∃ g, g < 6 ∧ st ≤ 5 ∧ SR μ 1 N ∧ μ.1 22 1 = nI g ∧ μ.1 22 2 = nI st ∧ (∀ j, j < st → SR μ (24 + 9 * ((g + 6 - st + j) % 6)) (hist j)) ∧ μ.1 78 1 = nI len ∧ (∀ i, i < len → μ.1 79 i = nI (tx i)) ∧ ∀ k, k < 4 → μ.1 82 k = rf k
def RM (N : Nat → Nat) (hist : Nat → Nat → Nat) (st : Nat) (tx : Nat → Nat) (len : Nat) (rf : Nat → Int32) (μ : Mm) : Prop :=
  MR μ N ∧ st ≤ 5 ∧ μ.1 0 3 = nI st ∧ (∀ j, j < st → ∀ k, k < 148 → μ.1 3 (148 * j + k) = nI (hist j k)) ∧ μ.1 0 6 = nI len ∧ (∀ i, i < len → μ.1 5 i = nI (tx i)) ∧ ∀ k, k < 4 → μ.1 4 k = rf k
def pushH (hist : Nat → Nat → Nat) (st : Nat) (N : Nat → Nat) : Nat → Nat → Nat := fun j => if st < 5 then (if j = st then N else hist j) else (if j = 4 then N else hist (j + 1))
def pushS (st : Nat) : Nat := if st < 5 then st + 1 else 5
def incR (rf : Nat → Int32) (k : Nat) : Nat → Int32 := fun j => if j = k then rf j + 1 else rf j
def kindR (r : Int32) : Nat := if r = -2 then 0 else if r = -3 then 1 else if r = -4 then 2 else 3
def OpC (F : Mm → Option (Int32 × Mm)) (N : Nat → Nat) (r : Int32) (N2 : Nat → Nat) : Prop := ∀ μ, SR μ 1 N → ∃ μ2, F μ = some (r, μ2) ∧ SR μ2 1 N2 ∧ ∀ a, 22 ≤ a → μ2.1 a = μ.1 a
def OpM (F : Mm → Option (Int32 × Mm)) (N : Nat → Nat) (r : Int32) (N2 : Nat → Nat) : Prop := ∀ μ, MR μ N → ∃ μ2, F μ = some (r, μ2) ∧ MR μ2 N2 ∧ (∀ a, (a = 2 ∨ a = 3 ∨ a = 4 ∨ a = 5 ∨ a = 11 ∨ a = 12) → μ2.1 a = μ.1 a) ∧ ∀ k, (k = 3 ∨ k = 6 ∨ k = 19) → μ2.1 0 k = μ.1 0 k
def okR (r : Int32) (N N2 : Nat → Nat) : Prop := (∃ v, v < 2 ^ 31 ∧ r = nI v) ∨ ((r = -2 ∨ r = -3 ∨ r = -4) ∧ N2 = N)
theorem refC {N : Nat → Nat} {hist : Nat → Nat → Nat} {st : Nat} {tx : Nat → Nat} {len : Nat} {rf : Nat → Int32} {μ : Mm} (h : RC N hist st tx len rf μ) (r : Int32) : ∃ μ2, f_X6_refusal r μ = some (r, μ2) ∧ RC N hist st tx len (incR rf (kindR r)) μ2 := by
  have key : ∀ k, k < 4 → RC N hist st tx len (incR rf k) (si μ 82 k ((μ.1 82 k) + (1 : Int32))) := by
    intro k hk
    obtain ⟨g, h1, h2, h3, h4, h5, h6, h7, h8, h9⟩ := h
    refine ⟨g, h1, h2, h3.frame (fun a _ ha => si_ne1 (by omega)), by rw [si_ne1 (by omega)]; exact h4, by rw [si_ne1 (by omega)]; exact h5, fun j hj => (h6 j hj).frame (fun a ha1 ha2 => si_ne1 (by omega)), by rw [si_ne1 (by omega)]; exact h7, fun i hi => by rw [si_ne1 (by omega)]; exact h8 i hi, fun j hj => ?_⟩
    rw [si_rd]
    unfold incR
    by_cases hjk : j = k
    · subst hjk
      rw [if_pos ⟨rfl, rfl⟩, if_pos rfl, h9 j hj]
    · rw [if_neg (by omega), if_neg hjk]
      exact h9 j hj
  unfold f_X6_refusal kindR
  by_cases a1 : r = -2
  · rw [if_pos a1, if_pos a1]
    exact ⟨_, rfl, key 0 (by omega)⟩
  · rw [if_neg a1, if_neg a1]
    by_cases a2 : r = -3
    · rw [if_pos a2, if_pos a2]
      exact ⟨_, rfl, key 1 (by omega)⟩
    · rw [if_neg a2, if_neg a2]
      by_cases a3 : r = -4
      · rw [if_pos a3, if_pos a3]
        exact ⟨_, rfl, key 2 (by omega)⟩
      · rw [if_neg a3, if_neg a3]
        exact ⟨_, rfl, key 3 (by omega)⟩
theorem incM {N : Nat → Nat} {hist : Nat → Nat → Nat} {st : Nat} {tx : Nat → Nat} {len : Nat} {rf : Nat → Int32} {μ : Mm} (h : RM N hist st tx len rf μ) (k : Nat) (hk : k < 4) : RM N hist st tx len (incR rf k) (si μ 4 k ((μ.1 4 k) + (1 : Int32))) := by
  obtain ⟨h1, h2, h3, h4, h5, h6, h7⟩ := h
  refine ⟨fun k hk => by rw [si_ne1 (by omega)]; exact h1 k hk, h2, by rw [si_ne1 (by omega)]; exact h3, fun j hj k hk => by rw [si_ne1 (by omega)]; exact h4 j hj k hk, by rw [si_ne1 (by omega)]; exact h5, fun i hi => by rw [si_ne1 (by omega)]; exact h6 i hi, fun j hj => ?_⟩
  rw [si_rd]
  unfold incR
  by_cases hjk : j = k
  · subst hjk
    rw [if_pos ⟨rfl, rfl⟩, if_pos rfl, h7 j hj]
  · rw [if_neg (by omega), if_neg hjk]
    exact h7 j hj
theorem badM {N : Nat → Nat} {hist : Nat → Nat → Nat} {st : Nat} {tx : Nat → Nat} {len : Nat} {rf : Nat → Int32} {μ : Mm} (h : RM N hist st tx len rf μ) : ∃ μ2, f_X7_bad μ = some (-2, μ2) ∧ RM N hist st tx len (incR rf 0) μ2 := ⟨_, rfl, incM h 0 (by omega)⟩
theorem noM {N : Nat → Nat} {hist : Nat → Nat → Nat} {st : Nat} {tx : Nat → Nat} {len : Nat} {rf : Nat → Int32} {μ : Mm} (h : RM N hist st tx len rf μ) : ∃ μ2, f_X7_no μ = some (-3, μ2) ∧ RM N hist st tx len (incR rf 1) μ2 := ⟨_, rfl, incM h 1 (by omega)⟩
theorem fullM {N : Nat → Nat} {hist : Nat → Nat → Nat} {st : Nat} {tx : Nat → Nat} {len : Nat} {rf : Nat → Int32} {μ : Mm} (h : RM N hist st tx len rf μ) : ∃ μ2, f_X7_full μ = some (-4, μ2) ∧ RM N hist st tx len (incR rf 2) μ2 := ⟨_, rfl, incM h 2 (by omega)⟩
theorem muchM {N : Nat → Nat} {hist : Nat → Nat → Nat} {st : Nat} {tx : Nat → Nat} {len : Nat} {rf : Nat → Int32} {μ : Mm} (h : RM N hist st tx len rf μ) : ∃ μ2, f_X7_much μ = some (-5, μ2) ∧ RM N hist st tx len (incR rf 3) μ2 := ⟨_, rfl, incM h 3 (by omega)⟩
