/-! the figures of a code -/
theorem le0_iff {c : Nat} (h : c < 2 ^ 31) : nI c ≤ 0 ↔ c = 0 := by
  rw [iz0, nI_leI h (by omega)]
  omega
theorem div10 {c : Nat} (h : c < 2 ^ 31) : nI c / (10 : Int32) = nI (c / 10) := by
  rw [i10]
  exact pk_div h (by omega) (by omega)
theorem rem10 {c : Nat} (h : c < 2 ^ 31) : nI c - nI c / (10 : Int32) * (10 : Int32) = nI (c % 10) := by
  rw [i10]
  exact pk_rem h (by omega) (by omega)
theorem p10 (g : Nat) {c : Nat} (h : c < 10 ^ (g + 1)) : c / 10 < 10 ^ g := by
  rw [Nat.pow_succ] at h
  omega
theorem szL (μ : Mm) (k : Int32 → Mm → Option (Int32 × Mm)) : ∀ g f c y, c < 10 ^ g → c < 2 ^ 31 → g < f → lp_X7_sizeOf_4 f (nI y) (nI c) μ k = k (nI (y + szF g c)) μ := by
  intro g
  induction g with
  | zero =>
    intro f c y h1 h2 h3
    obtain ⟨f, rfl⟩ : ∃ q, f = q + 1 := ⟨f - 1, by omega⟩
    have hc : c = 0 := by simpa using h1
    subst hc
    rw [lp_X7_sizeOf_4, if_pos ((le0_iff (by omega)).mpr rfl)]
    rfl
  | succ g ih =>
    intro f c y h1 h2 h3
    obtain ⟨f, rfl⟩ : ∃ q, f = q + 1 := ⟨f - 1, by omega⟩
    rw [lp_X7_sizeOf_4, szF]
    by_cases hc : c = 0
    · rw [if_pos ((le0_iff h2).mpr hc), if_pos hc]
      rfl
    · rw [if_neg (fun q => hc ((le0_iff h2).mp q)), if_neg hc, div10 h2, nI_1, ih f (c / 10) (y + 1) (p10 g h1) (by omega) (by omega), show y + 1 + szF g (c / 10) = y + (1 + szF g (c / 10)) by omega]
theorem moL (μ : Mm) (k : Int32 → Mm → Option (Int32 × Mm)) : ∀ g f c y, c < 10 ^ g → c < 2 ^ 31 → g < f → lp_X7_moraeOf_4 f (nI y) (nI c) μ k = k (nI (y + moF g c)) μ := by
  intro g
  induction g with
  | zero =>
    intro f c y h1 h2 h3
    obtain ⟨f, rfl⟩ : ∃ q, f = q + 1 := ⟨f - 1, by omega⟩
    have hc : c = 0 := by simpa using h1
    subst hc
    rw [lp_X7_moraeOf_4, if_pos ((le0_iff (by omega)).mpr rfl)]
    rfl
  | succ g ih =>
    intro f c y h1 h2 h3
    obtain ⟨f, rfl⟩ : ∃ q, f = q + 1 := ⟨f - 1, by omega⟩
    rw [lp_X7_moraeOf_4, moF]
    by_cases hc : c = 0
    · rw [if_pos ((le0_iff h2).mpr hc), if_pos hc]
      rfl
    · rw [if_neg (fun q => hc ((le0_iff h2).mp q)), if_neg hc, rem10 h2, div10 h2, i4, i1, i2, nI_add, nI_add]
      by_cases h5 : 5 ≤ c % 10
      · rw [if_neg (by rw [nI_leI (by omega) (by omega)]; omega), if_pos h5, ih f (c / 10) (y + 2) (p10 g h1) (by omega) (by omega), Nat.add_assoc]
      · rw [if_pos ((nI_leI (by omega) (by omega)).mpr (by omega)), if_neg h5, ih f (c / 10) (y + 1) (p10 g h1) (by omega) (by omega), Nat.add_assoc]
theorem moC (μ : Mm) (k : Int32 → Mm → Option (Int32 × Mm)) : ∀ g f c y i L, c < 10 ^ g → c < 2 ^ 31 → g < f → i + szF g c = L → L < 2 ^ 31 → lp_X6_moraeIn_7 (nI L) f (nI y) (nI c) (nI i) μ k = k (nI (y + moF g c)) μ := by
  intro g
  induction g with
  | zero =>
    intro f c y i L h1 h2 h3 h4 h5
    obtain ⟨f, rfl⟩ : ∃ q, f = q + 1 := ⟨f - 1, by omega⟩
    have h4 : i + 0 = L := h4
    rw [lp_X6_moraeIn_7, if_pos ((nI_leI (by omega) (by omega)).mpr (by omega))]
    rfl
  | succ g ih =>
    intro f c y i L h1 h2 h3 h4 h5
    obtain ⟨f, rfl⟩ : ∃ q, f = q + 1 := ⟨f - 1, by omega⟩
    rw [szF] at h4
    rw [lp_X6_moraeIn_7, moF]
    by_cases hc : c = 0
    · rw [if_pos hc] at h4
      rw [if_pos ((nI_leI (by omega) (by omega)).mpr (by omega)), if_pos hc]
      rfl
    · rw [if_neg hc] at h4
      rw [if_neg (by rw [nI_leI (by omega) (by omega)]; omega), if_neg hc, rem10 h2, div10 h2, i5, i2, nI_1, nI_1, nI_add]
      by_cases h5 : 5 ≤ c % 10
      · rw [if_neg (by rw [nI_ltI (by omega) (by omega)]; omega), if_pos h5, ih f (c / 10) (y + 2) (i + 1) L (p10 g h1) (by omega) (by omega) (by omega) (by omega), Nat.add_assoc]
      · rw [if_pos ((nI_ltI (by omega) (by omega)).mpr (by omega)), if_neg h5, ih f (c / 10) (y + 1) (i + 1) L (p10 g h1) (by omega) (by omega) (by omega) (by omega), Nat.add_assoc]
theorem dgL (μ : Mm) (k : Int32 → Mm → Option (Int32 × Mm)) : ∀ g f c, c < 10 ^ g → c < 2 ^ 31 → g + 1 < f → lp_X7_isCode_12 f 1 (nI c) μ k = k (if dgF g c = true then 1 else 0) μ := by
  intro g
  induction g with
  | zero =>
    intro f c h1 h2 h3
    obtain ⟨f, rfl⟩ : ∃ q, f = q + 1 := ⟨f - 1, by omega⟩
    have hc : c = 0 := by simpa using h1
    subst hc
    rw [lp_X7_isCode_12, if_pos ((le0_iff (by omega)).mpr rfl)]
    rfl
  | succ g ih =>
    intro f c h1 h2 h3
    obtain ⟨f, rfl⟩ : ∃ q, f = q + 1 := ⟨f - 1, by omega⟩
    rw [lp_X7_isCode_12, dgF]
    by_cases hc : c = 0
    · rw [if_pos ((le0_iff h2).mpr hc), if_pos hc]
      rfl
    · rw [if_neg (fun q => hc ((le0_iff h2).mp q)), if_neg hc, if_neg (by decide), rem10 h2, div10 h2]
      have hw := wM (nI (c % 10)) 1 8 (by omega) (by omega) 1 8 (by decide +kernel) (by decide +kernel) μ
      by_cases hd : 1 ≤ c % 10 ∧ c % 10 ≤ 8
      · rw [hw.1 ⟨c % 10, hd.1, hd.2, rfl⟩, bd_some, ih f (c / 10) (p10 g h1) (by omega) (by omega)]
        simp [hd.1, hd.2]
      · rw [hw.2 (by rintro ⟨q, q1, q2, q3⟩; rw [nI_eq (by omega) (by omega)] at q3; omega), bd_some]
        obtain ⟨f, rfl⟩ : ∃ q, f = q + 1 := ⟨f - 1, by omega⟩
        rw [lp_X7_isCode_12]
        have hb : ((decide (1 ≤ c % 10) && decide (c % 10 ≤ 8)) && dgF g (c / 10)) = false := by
          by_cases h8 : 1 ≤ c % 10
          · have h9 : ¬ c % 10 ≤ 8 := fun q => hd ⟨h8, q⟩
            simp [h9]
          · simp [h8]
        rw [hb]
        split
        · rfl
        · rfl
theorem dg0 (μ : Mm) (k : Int32 → Mm → Option (Int32 × Mm)) (f : Nat) (y : Int32) : lp_X7_isCode_12 (f + 1) 0 y μ k = k 0 μ := by
  rw [lp_X7_isCode_12]
  split
  · rfl
  · rfl
theorem leL (μ : Mm) : ∀ g f c y, c < 10 ^ g → c < 2 ^ 31 → g < f → y ≤ 7 → lp_X6_lettersIn_4 f (nI y) (nI c) μ (fun x6 μ7 => if (6 : Int32) < x6 then (some ((0 : Int32), μ7)) else (some (x6, μ7))) = some (nI (if dgF g c = true ∧ y + szF g c ≤ 6 then y + szF g c else 0), μ) := by
  intro g
  have e0 : ∀ y : Nat, y ≤ 7 → (if (6 : Int32) < nI y then (some ((0 : Int32), μ)) else (some (nI y, μ))) = some (nI (if y ≤ 6 then y else 0), μ) := by
    intro y hy
    rw [i6]
    by_cases h : y ≤ 6
    · rw [if_neg (by rw [nI_ltI (by omega) (by omega)]; omega), if_pos h]
    · rw [if_pos ((nI_ltI (by omega) (by omega)).mpr (by omega)), if_neg h, iz0]
  induction g with
  | zero =>
    intro f c y h1 h2 h3 h4
    obtain ⟨f, rfl⟩ : ∃ q, f = q + 1 := ⟨f - 1, by omega⟩
    have hc : c = 0 := by simpa using h1
    subst hc
    rw [lp_X6_lettersIn_4, if_pos ((le0_iff (by omega)).mpr rfl), e0 y h4]
    simp [dgF, szF]
  | succ g ih =>
    intro f c y h1 h2 h3 h4
    obtain ⟨f, rfl⟩ : ∃ q, f = q + 1 := ⟨f - 1, by omega⟩
    rw [lp_X6_lettersIn_4, dgF, szF]
    by_cases hc : c = 0
    · rw [if_pos ((le0_iff h2).mpr hc), if_pos hc, if_pos hc, e0 y h4]
      simp
    · rw [if_neg (fun q => hc ((le0_iff h2).mp q)), if_neg hc, if_neg hc]
      by_cases h7 : y = 7
      · subst h7
        rw [if_pos (by decide +kernel), e0 7 (by omega), if_neg (by omega), if_neg (by omega)]
      · rw [if_neg (by rw [i6, nI_ltI (by omega) (by omega)]; omega), rem10 h2, div10 h2]
        have hw := wC (nI (c % 10)) 1 8 (by omega) (by omega) 1 8 (by decide +kernel) (by decide +kernel) μ
        by_cases hd : 1 ≤ c % 10 ∧ c % 10 ≤ 8
        · rw [hw.1 ⟨c % 10, hd.1, hd.2, rfl⟩, bd_some, if_neg (by decide), nI_1, ih f (c / 10) (y + 1) (p10 g h1) (by omega) (by omega) (by omega)]
          simp [hd.1, hd.2, show y + 1 + szF g (c / 10) = y + (1 + szF g (c / 10)) by omega]
        · rw [hw.2 (by rintro ⟨q, q1, q2, q3⟩; rw [nI_eq (by omega) (by omega)] at q3; omega), bd_some, if_pos rfl]
          have hb : ((decide (1 ≤ c % 10) && decide (c % 10 ≤ 8)) && dgF g (c / 10)) = false := by
            by_cases h8 : 1 ≤ c % 10
            · have h9 : ¬ c % 10 ≤ 8 := fun q => hd ⟨h8, q⟩
              simp [h9]
            · simp [h8]
          rw [hb]
          simp [iz0]
def bb : Nat → Nat
  | 0 => 0
  | d + 1 => 10 * bb d + 8
theorem bb_le : ∀ g c d, c < 10 ^ g → dgF g c = true → szF g c ≤ d → c ≤ bb d := by
  intro g
  induction g with
  | zero =>
    intro c d h1 h2 h3
    have hc : c = 0 := by simpa using h1
    omega
  | succ g ih =>
    intro c d h1 h2 h3
    rw [dgF] at h2
    rw [szF] at h3
    by_cases hc : c = 0
    · omega
    · rw [if_neg hc] at h2 h3
      obtain ⟨d, rfl⟩ : ∃ q, d = q + 1 := ⟨d - 1, by omega⟩
      simp only [Bool.and_eq_true, decide_eq_true_eq] at h2
      have := ih (c / 10) d (p10 g h1) h2.2 (by omega)
      rw [bb]
      omega
theorem sz_le : ∀ g c d, c < 10 ^ d → szF g c ≤ d := by
  intro g
  induction g with
  | zero => intro c d _; exact Nat.zero_le _
  | succ g ih =>
    intro c d h
    rw [szF]
    by_cases hc : c = 0
    · rw [if_pos hc]; omega
    · rw [if_neg hc]
      cases d with
      | zero => have : c = 0 := by simpa using h
                exact absurd this hc
      | succ d =>
        have := ih (c / 10) d (p10 d h)
        omega
theorem sz_pos {c : Nat} (h : 1 ≤ c) : 1 ≤ szD c := by
  unfold szD
  rw [szF, if_neg (by omega)]
  omega
theorem vc_sz {c : Nat} (h : vc c) : 1 ≤ szD c ∧ szD c ≤ 6 := ⟨sz_pos h.1, sz_le 12 c 6 (by have := h.2.1; omega)⟩
theorem mo_ge : ∀ g c, szF g c ≤ moF g c ∧ moF g c ≤ 2 * szF g c := by
  intro g
  induction g with
  | zero => intro c; exact ⟨Nat.le_refl _, Nat.zero_le _⟩
  | succ g ih =>
    intro c
    rw [szF, moF]
    by_cases hc : c = 0
    · rw [if_pos hc, if_pos hc]; omega
    · rw [if_neg hc, if_neg hc]
      have := ih (c / 10)
      split <;> omega
theorem vc_mo {c : Nat} (h : vc c) : 1 ≤ moD c ∧ moD c ≤ 12 := by
  have h1 := mo_ge 12 c
  have h2 := vc_sz h
  unfold szD at h2
  unfold moD
  omega
theorem sizeM {c : Nat} (h : c < 2 ^ 31) (μ : Mm) : f_X7_sizeOf (nI c) μ = some (nI (szD c), μ) := by
  rw [f_X7_sizeOf, iz0, szL μ _ 12 FU c 0 (by omega) h (by decide), Nat.zero_add]
  rfl
theorem moraeM {c : Nat} (h : c < 2 ^ 31) (μ : Mm) : f_X7_moraeOf (nI c) μ = some (nI (moD c), μ) := by
  rw [f_X7_moraeOf, iz0, moL μ _ 12 FU c 0 (by omega) h (by decide), Nat.zero_add]
  rfl
theorem moraeC {c : Nat} (h : c < 2 ^ 31) (hs : szD c < 2 ^ 31) (μ : Mm) : f_X6_moraeIn (nI c) (nI (szD c)) μ = some (nI (moD c), μ) := by
  rw [f_X6_moraeIn, iz0, moC μ _ 12 FU c 0 0 (szD c) (by omega) h (by decide) (Nat.zero_add _) hs, Nat.zero_add]
  rfl
theorem codeOK (a : Int32) : (∃ c, vc c ∧ a = nI c ∧ (∀ μ, f_X7_isCode a μ = some (1, μ)) ∧ ∀ μ, f_X6_lettersIn a μ = some (nI (szD c), μ)) ∨ ((∀ μ, f_X7_isCode a μ = some (0, μ)) ∧ ∀ μ, f_X6_lettersIn a μ = some (0, μ)) := by
  have eF : FU = 999 + 1 := rfl
  by_cases hn : a ≤ 0
  · refine Or.inr ⟨fun μ => ?_, fun μ => ?_⟩
    · have hw := wM a 1 888888 (by omega) (by omega) 1 888888 (by decide +kernel) (by decide +kernel) μ
      rw [f_X7_isCode, hw.2 (by rintro ⟨k, k1, k2, rfl⟩; rw [le0_iff (by omega)] at hn; omega), bd_some, eF, dg0, if_pos (by decide)]
    · rw [f_X6_lettersIn, eF, lp_X6_lettersIn_4, if_pos hn, if_neg (by decide +kernel)]
  · obtain ⟨c, hc, rfl⟩ := nI_of (x := a) (fun q => hn (Int32.le_of_lt q))
    have hc0 : c ≠ 0 := fun q => hn ((le0_iff hc).mpr q)
    have hw : ∀ μ, _ := fun μ => wM (nI c) 1 888888 (by omega) (by omega) 1 888888 (by decide +kernel) (by decide +kernel) μ
    have hL : ∀ μ, f_X6_lettersIn (nI c) μ = some (nI (if dgF 12 c = true ∧ szF 12 c ≤ 6 then szF 12 c else 0), μ) := fun μ => by
      have h := leL μ 12 FU c 0 (by omega) hc (by decide) (by omega)
      rw [← iz0] at h
      rw [f_X6_lettersIn, h]
      simp only [Nat.zero_add]
    by_cases hv : vc c
    · refine Or.inl ⟨c, hv, rfl, fun μ => ?_, fun μ => ?_⟩
      · rw [f_X7_isCode, (hw μ).1 ⟨c, hv.1, hv.2.1, rfl⟩, bd_some, dgL μ _ 12 FU c (by omega) hc (by decide), if_pos hv.2.2, if_pos (by decide)]
      · rw [hL μ, if_pos ⟨hv.2.2, (vc_sz hv).2⟩]
        rfl
    · refine Or.inr ⟨fun μ => ?_, fun μ => ?_⟩
      · by_cases hr : c ≤ 888888
        · have hd : ¬ dgF 12 c = true := fun q => hv ⟨by omega, hr, q⟩
          rw [f_X7_isCode, (hw μ).1 ⟨c, by omega, hr, rfl⟩, bd_some, dgL μ _ 12 FU c (by omega) hc (by decide), if_neg hd, if_pos (by decide)]
        · rw [f_X7_isCode, (hw μ).2 (by rintro ⟨k, k1, k2, k3⟩; rw [nI_eq hc (by omega)] at k3; omega), bd_some, eF, dg0, if_pos (by decide)]
      · have hd : ¬ (dgF 12 c = true ∧ szF 12 c ≤ 6) := fun q => hv ⟨by omega, by have := bb_le 12 c 6 (by omega) q.1 q.2; have e : bb 6 = 888888 := by decide
                                                                                  omega, q.1⟩
        rw [hL μ, if_neg hd, iz0]
