/-! PURE PART: words of numbers and of the memory -/
theorem si_rd (μ : Mm) (a i : Nat) (v : Int32) (b j : Nat) : (si μ a i v).1 b j = if b = a ∧ j = i then v else μ.1 b j := by
  unfold si va_up upd
  by_cases h : b = a
  · subst h
    by_cases h2 : j = i
    · simp [h2]
    · simp [h2]
  · simp [h]
theorem si_2 (μ : Mm) (a i : Nat) (v : Int32) : (si μ a i v).2 = μ.2 := rfl
theorem sj_1 (μ : Mm) (a i : Nat) (v : Int64) : (sj μ a i v).1 = μ.1 := rfl
theorem sj_rd (μ : Mm) (a i : Nat) (v : Int64) (b j : Nat) : (sj μ a i v).2 b j = if b = a ∧ j = i then v else μ.2 b j := by
  unfold sj va_up vp_updL
  by_cases h : b = a
  · subst h
    by_cases h2 : j = i
    · simp [h2]
    · simp [h2]
  · simp [h]
theorem sc_2 (μ : Mm) (a b sp dp n : Nat) : (sc μ a b sp dp n).2 = μ.2 := rfl
theorem sc_rd (μ : Mm) (a b n : Nat) (c j : Nat) : (sc μ a b 0 0 n).1 c j = if c = b ∧ j < n then μ.1 a j else μ.1 c j := by
  unfold sc va_up va_cpy
  by_cases h : c = b
  · subst h
    by_cases h2 : j < n
    · simp [h2]
    · simp [h2]
  · simp [h]
theorem bd_some {α β : Type} (r : α) (μ : Mm) (k : α → Mm → Option (β × Mm)) : bd (some (r, μ)) k = k r μ := rfl
theorem zin_nI {k n : Nat} (h : k < n) (hn : n < 2 ^ 31) : zin (nI k) n = true := vp_zin (vp_in_nI h hn)
theorem iz0 : (0 : Int32) = nI 0 := by decide +kernel
theorem i1 : (1 : Int32) = nI 1 := by decide +kernel
theorem i2 : (2 : Int32) = nI 2 := by decide +kernel
theorem i3 : (3 : Int32) = nI 3 := by decide +kernel
theorem i4 : (4 : Int32) = nI 4 := by decide +kernel
theorem i5 : (5 : Int32) = nI 5 := by decide +kernel
theorem i6 : (6 : Int32) = nI 6 := by decide +kernel
theorem i7 : (7 : Int32) = nI 7 := by decide +kernel
theorem i8 : (8 : Int32) = nI 8 := by decide +kernel
theorem i9 : (9 : Int32) = nI 9 := by decide +kernel
theorem i10 : (10 : Int32) = nI 10 := by decide +kernel
theorem i12 : (12 : Int32) = nI 12 := by decide +kernel
theorem i14 : (14 : Int32) = nI 14 := by decide +kernel
theorem i15 : (15 : Int32) = nI 15 := by decide +kernel
theorem i21 : (21 : Int32) = nI 21 := by decide +kernel
theorem i31 : (31 : Int32) = nI 31 := by decide +kernel
theorem i33 : (33 : Int32) = nI 33 := by decide +kernel
theorem i36 : (36 : Int32) = nI 36 := by decide +kernel
theorem i39 : (39 : Int32) = nI 39 := by decide +kernel
theorem i40 : (40 : Int32) = nI 40 := by decide +kernel
theorem i69 : (69 : Int32) = nI 69 := by decide +kernel
theorem i108 : (108 : Int32) = nI 108 := by decide +kernel
theorem i127 : (127 : Int32) = nI 127 := by decide +kernel
theorem i148 : (148 : Int32) = nI 148 := by decide +kernel
theorem i150 : (150 : Int32) = nI 150 := by decide +kernel
theorem i592 : (592 : Int32) = nI 592 := by decide +kernel
/-- a number of a script lies between two bounds -/
def rng (a : Int32) (lo hi : Nat) : Prop := ∃ k : Nat, lo ≤ k ∧ k ≤ hi ∧ a = nI k
theorem rng_iff {a : Int32} {lo hi : Nat} (hh : hi < 2 ^ 31) : rng a lo hi ↔ (lo : Int) ≤ a.toInt ∧ a.toInt ≤ hi := by
  constructor
  · rintro ⟨k, h1, h2, rfl⟩
    rw [nI_toInt (by omega)]
    omega
  · rintro ⟨h1, h2⟩
    have h0 : ¬ a < 0 := by
      rw [Int32.lt_iff_toInt_lt, Int32.toInt_zero]
      omega
    obtain ⟨k, hk, rfl⟩ := nI_of h0
    rw [nI_toInt hk] at h1 h2
    exact ⟨k, by omega, by omega, rfl⟩
theorem tI64 (a : Int32) : a.toInt64.toInt = a.toInt := Int32.toInt_toInt64 a
theorem lt64 (a b : Int64) : a < b ↔ a.toInt < b.toInt := Int64.lt_iff_toInt_lt
theorem wM (a : Int32) (lo hi : Nat) (hl : lo < 2 ^ 31) (hh : hi < 2 ^ 31) (l h : Int64) (el : l = lN lo) (eh : h = lN hi) (μ : Mm) : (rng a lo hi → f_X7_within a.toInt64 l h μ = some (1, μ)) ∧ (¬ rng a lo hi → f_X7_within a.toInt64 l h μ = some (0, μ)) := by
  have e1 : l.toInt = (lo : Int) := by rw [el]; exact lN_toInt hl
  have e2 : h.toInt = (hi : Int) := by rw [eh]; exact lN_toInt hh
  unfold f_X7_within
  rw [rng_iff hh]
  constructor
  · intro q
    rw [if_neg (by rw [lt64, tI64, e1]; omega), if_neg (by rw [lt64, tI64, e2]; omega)]
  · intro q
    by_cases h1 : a.toInt64 < l
    · rw [if_pos h1]
    · rw [if_neg h1, if_pos]
      rw [lt64, tI64, e1] at h1
      rw [lt64, tI64, e2]
      omega
theorem wC (a : Int32) (lo hi : Nat) (hl : lo < 2 ^ 31) (hh : hi < 2 ^ 31) (l h : Int32) (el : l = nI lo) (eh : h = nI hi) (μ : Mm) : (rng a lo hi → f_X6_within a l h μ = some (1, μ)) ∧ (¬ rng a lo hi → f_X6_within a l h μ = some (0, μ)) := by
  have e1 : l.toInt = (lo : Int) := by rw [el]; exact nI_toInt hl
  have e2 : h.toInt = (hi : Int) := by rw [eh]; exact nI_toInt hh
  unfold f_X6_within
  rw [rng_iff hh]
  constructor
  · intro q
    rw [if_neg (by rw [Int32.lt_iff_toInt_lt, e1]; omega), if_neg (by rw [Int32.lt_iff_toInt_lt, e2]; omega)]
  · intro q
    by_cases h1 : a < l
    · rw [if_pos h1]
    · rw [if_neg h1, if_pos]
      rw [Int32.lt_iff_toInt_lt, e1] at h1
      rw [Int32.lt_iff_toInt_lt, e2]
      omega
/-- the bound that is one less than a number -/
theorem wMc (a : Int32) (c : Nat) (hc : c < 2 ^ 31) (h : Int64) (eh : h = (nI c - 1).toInt64) (μ : Mm) : ((∃ k, k < c ∧ a = nI k) → f_X7_within a.toInt64 0 h μ = some (1, μ)) ∧ ((¬ ∃ k, k < c ∧ a = nI k) → f_X7_within a.toInt64 0 h μ = some (0, μ)) := by
  have e2 : h.toInt = (c : Int) - 1 := by
    rw [eh, tI64]
    cases c with
    | zero => decide +kernel
    | succ c => rw [nI_pred, nI_toInt (by omega)]; omega
  have hr : (∃ k, k < c ∧ a = nI k) ↔ (0 : Int) ≤ a.toInt ∧ a.toInt ≤ (c : Int) - 1 := by
    constructor
    · rintro ⟨k, h1, rfl⟩
      rw [nI_toInt (by omega)]
      omega
    · rintro ⟨h1, h2⟩
      have h0 : ¬ a < 0 := by
        rw [Int32.lt_iff_toInt_lt, Int32.toInt_zero]
        omega
      obtain ⟨k, hk, rfl⟩ := nI_of h0
      rw [nI_toInt hk] at h1 h2
      exact ⟨k, by omega, rfl⟩
  unfold f_X7_within
  rw [hr]
  have e0 : (0 : Int64).toInt = 0 := by decide +kernel
  constructor
  · intro q
    rw [if_neg (by rw [lt64, tI64, e0]; omega), if_neg (by rw [lt64, tI64, e2]; omega)]
  · intro q
    by_cases h1 : a.toInt64 < 0
    · rw [if_pos h1]
    · rw [if_neg h1, if_pos]
      rw [lt64, tI64, e0] at h1
      rw [lt64, tI64, e2]
      omega
theorem wCc (a : Int32) (c : Nat) (hc : c < 2 ^ 31) (h : Int32) (eh : h = nI c - 1) (μ : Mm) : ((∃ k, k < c ∧ a = nI k) → f_X6_within a 0 h μ = some (1, μ)) ∧ ((¬ ∃ k, k < c ∧ a = nI k) → f_X6_within a 0 h μ = some (0, μ)) := by
  have e2 : h.toInt = (c : Int) - 1 := by
    rw [eh]
    cases c with
    | zero => decide +kernel
    | succ c => rw [nI_pred, nI_toInt (by omega)]; omega
  have hr : (∃ k, k < c ∧ a = nI k) ↔ (0 : Int) ≤ a.toInt ∧ a.toInt ≤ (c : Int) - 1 := by
    constructor
    · rintro ⟨k, h1, rfl⟩
      rw [nI_toInt (by omega)]
      omega
    · rintro ⟨h1, h2⟩
      have h0 : ¬ a < 0 := by
        rw [Int32.lt_iff_toInt_lt, Int32.toInt_zero]
        omega
      obtain ⟨k, hk, rfl⟩ := nI_of h0
      rw [nI_toInt hk] at h1 h2
      exact ⟨k, by omega, rfl⟩
  unfold f_X6_within
  rw [hr]
  constructor
  · intro q
    rw [if_neg (by rw [Int32.lt_iff_toInt_lt, Int32.toInt_zero]; omega), if_neg (by rw [Int32.lt_iff_toInt_lt, e2]; omega)]
  · intro q
    by_cases h1 : a < 0
    · rw [if_pos h1]
    · rw [if_neg h1, if_pos]
      rw [Int32.lt_iff_toInt_lt, Int32.toInt_zero] at h1
      rw [Int32.lt_iff_toInt_lt, e2]
      omega
theorem l0 : (0 : Int64) = lN 0 := by decide +kernel
theorem l1 : (1 : Int64) = lN 1 := by decide +kernel
theorem l2 : (2 : Int64) = lN 2 := by decide +kernel
theorem l3 : (3 : Int64) = lN 3 := by decide +kernel
/-! a loop of the reference that copies -/
theorem lpM_aside : ∀ (f i : Nat) (μ : Mm) (k : Mm → Option (Unit × Mm)), i ≤ 148 → 149 ≤ f + i → ∃ μ2 : Mm, lp_X7_laysAside_2 f (nI i) μ k = k μ2 ∧ μ2.2 = μ.2 ∧ (∀ a, a ≠ 2 → μ2.1 a = μ.1 a) ∧ (∀ j, j < i → μ2.1 2 j = μ.1 2 j) ∧ ∀ j, i ≤ j → j < 148 → μ2.1 2 j = μ.1 1 j := by
  intro f
  induction f with
  | zero => intro i μ k h1 h2; omega
  | succ f ih =>
    intro i μ k h1 h2
    rw [lp_X7_laysAside_2]
    by_cases hi : 148 ≤ i
    · rw [i148, if_pos ((nI_leI (by omega) (by omega)).mpr hi)]
      exact ⟨μ, rfl, rfl, fun _ _ => rfl, fun _ _ => rfl, fun j a b => by omega⟩
    · rw [i148, if_neg (fun q => hi ((nI_leI (by omega) (by omega)).mp q)), if_pos (zin_nI (by omega) (by omega)), if_pos (zin_nI (by omega) (by omega)), nI_clamp (by omega), nI_1]
      obtain ⟨μ2, e1, e2, e3, e4, e5⟩ := ih (i + 1) (si μ 2 i (μ.1 1 i)) k (by omega) (by omega)
      refine ⟨μ2, e1, e2, fun a ha => ?_, fun j hj => ?_, fun j hj hj2 => ?_⟩
      · rw [e3 a ha]
        exact si_ne1 ha
      · rw [e4 j (by omega), si_rd, if_neg (by omega)]
      · by_cases hji : j = i
        · subst hji
          rw [e4 j (by omega), si_rd, if_pos ⟨rfl, rfl⟩]
        · rw [e5 j (by omega) hj2]
          rw [si_rd, if_neg (by omega)]
