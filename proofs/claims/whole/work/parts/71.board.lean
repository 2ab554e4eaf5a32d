/-! the board of the class -/
def pcN (N : Nat → Nat) (p : Nat) : Nat → Nat
  | 0 => 0
  | k + 1 => pcN N p k * 10 + N (69 + (p + k))
theorem pc_le {B : Nat} {N : Nat → Nat} (hO : Ok B N) (p : Nat) : ∀ k, p + k ≤ 40 → pcN N p k ≤ bb k := by
  intro k
  induction k with
  | zero => intro _; exact Nat.le_refl _
  | succ k ih =>
    intro h
    have h1 := ih (by omega)
    have h2 := hO.2.2.2.2.2.2.1 (p + k) (by omega)
    rw [pcN, bb]
    omega
theorem pc_mtc {B : Nat} {N : Nat → Nat} (hO : Ok B N) (p : Nat) : ∀ g c, p + szF g c ≤ 40 → c < 10 ^ g → (pcN N p (szF g c) = c ↔ mtc N g (p + szF g c) c = true) := by
  intro g
  induction g with
  | zero =>
    intro c h1 h2
    have hc : c = 0 := by simpa using h2
    subst hc
    exact ⟨fun _ => rfl, fun _ => rfl⟩
  | succ g ih =>
    intro c h1 h2
    rw [mtc]
    rw [szF] at h1 ⊢
    by_cases hc : c = 0
    · rw [if_pos hc, if_pos hc, hc]
      exact ⟨fun _ => rfl, fun _ => rfl⟩
    · rw [if_neg hc] at h1
      rw [if_neg hc, if_neg hc]
      have h3 := ih (c / 10) (by omega) (p10 g h2)
      have h4 := hO.2.2.2.2.2.2.1 (p + szF g (c / 10)) (by omega)
      rw [show 1 + szF g (c / 10) = szF g (c / 10) + 1 by omega, pcN, show p + (szF g (c / 10) + 1) - 1 = p + szF g (c / 10) by omega, Bool.and_eq_true, decide_eq_true_eq, ← h3]
      constructor
      · intro q
        omega
      · rintro ⟨q1, q2⟩
        omega
def cd (N : Nat → Nat) (p k : Nat) : Nat := if p + k ≤ N 1 then pcN N p k else 0
theorem lpCut {B : Nat} {N : Nat → Nat} (hO : Ok B N) (K : Mm → Option (Unit × Mm)) (p : Nat) (hp : p < 40) : ∀ (t f k : Nat) (μ : Mm), k + t = 6 → t < f → SR μ 1 N → μ.1 10 3 = nI (N 1) → ∃ μ2, lp_X0_cutPieces_4 (nI p) f (nI (cd N p k)) (nI (k + 1)) μ K = K μ2 ∧ (∀ a, a ≠ 12 → μ2.1 a = μ.1 a) ∧ (∀ j, j ≤ k → μ2.1 12 j = μ.1 12 j) ∧ (∀ j, k < j → j ≤ 6 → μ2.1 12 j = nI (cd N p j)) := by
  have h40 := hO.1.2.1
  intro t
  induction t with
  | zero =>
    intro f k μ h1 h2 hs he
    obtain ⟨f, rfl⟩ : ∃ q, f = q + 1 := ⟨f - 1, by omega⟩
    rw [lp_X0_cutPieces_4, i6, if_pos ((nI_ltI (by omega) (by omega)).mpr (by omega))]
    exact ⟨μ, rfl, fun _ _ => rfl, fun _ _ => rfl, fun j a b => by omega⟩
  | succ t ih =>
    intro f k μ h1 h2 hs he
    obtain ⟨f, rfl⟩ : ∃ q, f = q + 1 := ⟨f - 1, by omega⟩
    have key : ∃ μ2, lp_X0_cutPieces_4 (nI p) (f + 1) (nI (cd N p k)) (nI (k + 1)) μ K = lp_X0_cutPieces_4 (nI p) f (nI (cd N p (k + 1))) (nI (k + 1 + 1)) μ2 K ∧ μ2 = si μ 12 (k + 1) (nI (cd N p (k + 1))) := by
      rw [lp_X0_cutPieces_4, i6, if_neg (by rw [nI_ltI (by omega) (by omega)]; omega), he, nI_add, i1, show nI (p + (k + 1)) - nI 1 = nI (p + k) by rw [pk_sub (by omega), show p + (k + 1) - 1 = p + k by omega], ← i1, nI_1, nI_clamp (by omega)]
      by_cases a : N 1 ≤ p + k
      · rw [if_pos ((nI_leI (by omega) (by omega)).mpr a), if_pos (zin_nI (by omega) (by omega))]
        have e : cd N p (k + 1) = 0 := by unfold cd; rw [if_neg (by omega)]
        rw [e, iz0]
        exact ⟨_, rfl, rfl⟩
      · have e : cd N p (k + 1) = cd N p k * 10 + N (69 + (p + k)) := by unfold cd; rw [if_pos (by omega), if_pos (by omega), pcN]
        have el : μ.1 7 (p + k) = nI (N (69 + (p + k))) := hs.lin (by omega)
        rw [if_neg (by rw [nI_leI (by omega) (by omega)]; exact a), if_pos (zin_nI (by omega) (by omega)), if_pos (zin_nI (by omega) (by omega)), nI_clamp (by omega), el, i10, pk_mul, nI_add, ← e]
        exact ⟨_, rfl, rfl⟩
    obtain ⟨μa, ea, rfl⟩ := key
    rw [ea]
    obtain ⟨μ2, e1, f1, f2, f3⟩ := ih f (k + 1) (si μ 12 (k + 1) (nI (cd N p (k + 1)))) (by omega) (by omega) (hs.frame (fun a _ ha => si_ne1 (by omega))) (by rw [si_ne1 (by omega)]; exact he)
    refine ⟨μ2, e1, fun a ha => by rw [f1 a ha, si_ne1 ha], fun j hj => by rw [f2 j (by omega), si_rd, if_neg (by omega)], fun j hj hj2 => ?_⟩
    by_cases c : j = k + 1
    · subst c
      rw [f2 _ (by omega), si_rd, if_pos ⟨rfl, rfl⟩]
    · exact f3 j (by omega) hj2
def LNn (N : Nat → Nat) (cut : Bool) (p i : Nat) : Nat := if brN N cut p = true then 0 else tgN N cut p i
theorem lpLine {B : Nat} {N : Nat → Nat} (hO : Ok B N) (K : Mm → Option (Unit × Mm)) (p : Nat) (hp : p < N 1) : ∀ (t f i : Nat) (μ : Mm), i + t = N 0 → t < f → SR μ 1 N → (∀ j, 1 ≤ j → j ≤ 6 → μ.1 12 j = nI (cd N p j)) → ∃ μ2, lp_X0_layLine_28 (nI p) f (nI i) μ K = K μ2 ∧ (∀ a, a ≠ 11 → μ2.1 a = μ.1 a) ∧ (∀ j, (j < 12 * p + i ∨ 12 * p + 12 ≤ j) → μ2.1 11 j = μ.1 11 j) ∧ (∀ j, i ≤ j → j < N 0 → μ2.1 11 (12 * p + j) = nI (tgN N true p j)) := by
  have h40 := hO.1.2.1
  have h12 := hO.1.1
  intro t
  induction t with
  | zero =>
    intro f i μ h1 h2 hs hc
    obtain ⟨f, rfl⟩ : ∃ q, f = q + 1 := ⟨f - 1, by omega⟩
    rw [lp_X0_layLine_28, hs.cnt, if_pos ((nI_leI (by omega) (by omega)).mpr (by omega))]
    exact ⟨μ, rfl, fun _ _ => rfl, fun _ _ => rfl, fun j a b => by omega⟩
  | succ t ih =>
    intro f i μ h1 h2 hs hc
    obtain ⟨f, rfl⟩ : ∃ q, f = q + 1 := ⟨f - 1, by omega⟩
    have hv := hO.2.2.2.2.1 i (by omega)
    have hsz := vc_sz hv
    have hcc : N (21 + i) < 2 ^ 31 := by have := hv.2.1; omega
    have e4 : μ.1 4 i = nI (szD (N (21 + i))) := hs.siz (by omega)
    have e3 : μ.1 3 i = nI (N (21 + i)) := hs.cod (by omega)
    have key : lp_X0_layLine_28 (nI p) (f + 1) (nI i) μ K = lp_X0_layLine_28 (nI p) f (nI (i + 1)) (si μ 11 (12 * p + i) (nI (tgN N true p i))) K := by
      rw [lp_X0_layLine_28, hs.cnt, if_neg (by rw [nI_leI (by omega) (by omega)]; omega), if_pos (zin_nI (by omega) (by omega)), nI_clamp (by omega), e4, if_pos (zin_nI (by omega) (by omega)), if_pos (zin_nI (by omega) (by omega)), nI_clamp (by omega), hc _ hsz.1 hsz.2, e3, i12, pk_mul, nI_add, nI_add, if_pos (zin_nI (by omega) (by omega)), if_pos (zin_nI (by omega) (by omega)), nI_clamp (by omega), nI_1, tg_t, show p * 12 + i = 12 * p + i by omega]
      have hcd : cd N p (szD (N (21 + i))) = N (21 + i) ↔ p + szD (N (21 + i)) ≤ N 1 ∧ mtc N 12 (p + szD (N (21 + i))) (N (21 + i)) = true := by
        unfold cd
        by_cases a : p + szD (N (21 + i)) ≤ N 1
        · rw [if_pos a]
          have := pc_mtc hO p 12 (N (21 + i)) (by unfold szD at a; omega) (by omega)
          exact ⟨fun q => ⟨a, this.mp q⟩, fun q => this.mpr q.2⟩
        · rw [if_neg a]
          exact ⟨fun q => by have := hv.1; omega, fun q => absurd q.1 a⟩
      have hcb : cd N p (szD (N (21 + i))) < 2 ^ 31 := by
        unfold cd
        split
        · have h1 := pc_le hO p (szD (N (21 + i))) (by omega)
          have h2 : bb (szD (N (21 + i))) ≤ 888888 := by
            rcases (show szD (N (21 + i)) = 1 ∨ szD (N (21 + i)) = 2 ∨ szD (N (21 + i)) = 3 ∨ szD (N (21 + i)) = 4 ∨ szD (N (21 + i)) = 5 ∨ szD (N (21 + i)) = 6 by omega) with h | h | h | h | h | h <;> rw [h] <;> decide
          omega
        · omega
      by_cases a : cd N p (szD (N (21 + i))) = N (21 + i)
      · rw [if_pos (by rw [a]), if_pos (hcd.mp a)]
      · rw [if_neg (by rw [nI_eq hcb hcc]; exact a), if_neg (fun q => a (hcd.mpr q)), iz0]
    rw [key]
    obtain ⟨μ2, e1, f1, f2, f3⟩ := ih f (i + 1) (si μ 11 (12 * p + i) (nI (tgN N true p i))) (by omega) (by omega) (hs.frame (fun a _ ha => si_ne1 (by omega))) (fun j a b => by rw [si_ne1 (by omega)]; exact hc j a b)
    refine ⟨μ2, e1, fun a ha => by rw [f1 a ha, si_ne1 ha], fun j hj => by rw [f2 j (by omega), si_rd, if_neg (by omega)], fun j hj hj2 => ?_⟩
    by_cases c : j = i
    · subst c
      rw [f2 _ (by omega), si_rd, if_pos ⟨rfl, rfl⟩]
    · exact f3 j (by omega) hj2
def LD (μ : Mm) (N : Nat → Nat) (cut : Bool) : Prop := μ.1 10 3 = nI (lastN N cut) ∧ ∀ p, p < lastN N cut → ∀ i, i < N 0 → μ.1 11 (12 * p + i) = nI (LNn N cut p i)
theorem lpLines {B : Nat} {N : Nat → Nat} (hO : Ok B N) (K : Mm → Option (Unit × Mm)) : ∀ (t f p : Nat) (μ : Mm), p + t = N 1 → t < f → SR μ 1 N → μ.1 10 3 = nI (N 1) → ∃ μ2, lp_X0_layLine_13 f (nI p) μ K = K μ2 ∧ (∀ a, a ≠ 11 → a ≠ 12 → μ2.1 a = μ.1 a) ∧ (∀ j, j < 12 * p → μ2.1 11 j = μ.1 11 j) ∧ (∀ q, p ≤ q → q < N 1 → ∀ j, j < N 0 → μ2.1 11 (12 * q + j) = nI (tgN N true q j)) := by
  have h40 := hO.1.2.1
  have h12 := hO.1.1
  intro t
  induction t with
  | zero =>
    intro f p μ h1 h2 hs he
    obtain ⟨f, rfl⟩ : ∃ q, f = q + 1 := ⟨f - 1, by omega⟩
    rw [lp_X0_layLine_13, he, if_pos ((nI_leI (by omega) (by omega)).mpr (by omega))]
    exact ⟨μ, rfl, fun _ _ _ => rfl, fun _ _ => rfl, fun q a b => by omega⟩
  | succ t ih =>
    intro f p μ h1 h2 hs he
    obtain ⟨f, rfl⟩ : ∃ q, f = q + 1 := ⟨f - 1, by omega⟩
    obtain ⟨μa, ea, a1, -, a3⟩ := lpCut hO (fun μ3 => some ((), μ3)) p (by omega) 6 FU 0 μ (by omega) (by decide) hs he
    have ec : f_X0_cutPieces (nI p) μ = some ((), μa) := by
      have e0 : cd N p 0 = 0 := by unfold cd; split <;> rfl
      rw [e0, Nat.zero_add, ← iz0, ← i1] at ea
      exact ea
    obtain ⟨μb, eb, b1, b2, b3⟩ := lpLine hO (fun μ6 => lp_X0_layLine_13 f (nI (p + 1)) μ6 K) p (by omega) (N 0) FU 0 μa (by omega) (by unfold FU; omega) (hs.frame (fun a _ ha => a1 a (by omega))) (fun j x y => a3 j (by omega) y)
    have sb : SR μb 1 N := (hs.frame (fun a _ ha => a1 a (by omega))).frame (fun a _ ha => b1 a (by omega))
    obtain ⟨μ2, e1, f1, f2, f3⟩ := ih f (p + 1) μb (by omega) (by omega) sb (by rw [b1 10 (by omega), a1 10 (by omega)]; exact he)
    rw [lp_X0_layLine_13, he, if_neg (by rw [nI_leI (by omega) (by omega)]; omega), ec, bd_some, iz0, nI_1, eb, e1]
    refine ⟨μ2, rfl, fun a x y => by rw [f1 a x y, b1 a x, a1 a y], fun j hj => by rw [f2 j (by omega), b2 j (by omega), a1 11 (by omega)], fun q hq hq2 j hj => ?_⟩
    by_cases c : q = p
    · subst c
      rw [f2 _ (by omega), b3 j (by omega) hj]
    · exact f3 q (by omega) hq2 j hj
theorem layLineC {B : Nat} {N : Nat → Nat} (hO : Ok B N) {μ : Mm} (hs : SR μ 1 N) : ∃ μ2, f_X0_layLine μ = some ((), μ2) ∧ SR μ2 1 N ∧ LD μ2 N true ∧ (∀ a, 13 ≤ a → μ2.1 a = μ.1 a) ∧ ∀ a, a ≤ 9 → μ2.1 a = μ.1 a := by
  have h40 := hO.1.2.1
  obtain ⟨μ2, e1, f1, -, f3⟩ := lpLines hO (fun μ7 => some ((), μ7)) (N 1) FU 0 (si μ 10 3 (nI (N 1))) (by omega) (by unfold FU; omega) (hs.frame (fun a _ ha => si_ne1 (by omega))) (by rw [si_rd, if_pos ⟨rfl, rfl⟩])
  rw [← iz0] at e1
  have fr : ∀ a, a ≠ 10 → a ≠ 11 → a ≠ 12 → μ2.1 a = μ.1 a := fun a x y z => by rw [f1 a y z, si_ne1 x]
  refine ⟨μ2, by rw [f_X0_layLine, hs.lnz, e1], hs.frame (fun a _ ha => fr a (by omega) (by omega) (by omega)), ⟨by rw [f1 10 (by omega) (by omega), si_rd, if_pos ⟨rfl, rfl⟩]; rfl, fun p hp i hi => ?_⟩, fun a ha => fr a (by omega) (by omega) (by omega), fun a ha => fr a (by omega) (by omega) (by omega)⟩
  rw [f3 p (by omega) hp i hi]
  rfl
/-! the metre -/
theorem allNB_iff (N : Nat → Nat) : ∀ t q, allNB N q t = true ↔ ∀ j, q ≤ j → j < q + t → N (108 + j) ≠ 1 := by
  intro t
  induction t with
  | zero => intro q; exact ⟨fun _ j a b => by omega, fun _ => rfl⟩
  | succ t ih =>
    intro q
    rw [allNB, Bool.and_eq_true, decide_eq_true_eq, ih]
    constructor
    · rintro ⟨a, b⟩ j h1 h2
      by_cases c : j = q
      · rw [c]; exact a
      · exact b j (by omega) (by omega)
    · intro h
      exact ⟨h q (by omega) (by omega), fun j a b => h j (by omega) (by omega)⟩
def Lim (N : Nat → Nat) (p lim : Nat) : Prop := lim ≤ N 2 ∧ p < lim ∧ (∀ q, p < q → q < lim → N (108 + q) ≠ 1) ∧ (lim = N 2 ∨ N (108 + lim) = 1)
theorem lim_tg {B : Nat} {N : Nat → Nat} (hO : Ok B N) {p lim i : Nat} (hL : Lim N p lim) (hi : i < N 0) : tgN N false p i = if p + moD (N (21 + i)) ≤ lim then p + moD (N (21 + i)) else 0 := by
  have hmo := vc_mo (hO.2.2.2.2.1 i hi)
  obtain ⟨l1, l2, l3, l4⟩ := hL
  rw [tg_f]
  by_cases a : p + moD (N (21 + i)) ≤ lim
  · rw [if_pos a, if_pos ⟨by omega, (allNB_iff N _ _).mpr (fun j h1 h2 => l3 j (by omega) (by omega))⟩]
  · rw [if_neg a, if_neg]
    rintro ⟨h1, h2⟩
    have h2 := (allNB_iff N _ _).mp h2
    rcases l4 with h | h
    · omega
    · exact h2 lim (by omega) (by omega) h
theorem lpMet1 {B : Nat} {N : Nat → Nat} (hO : Ok B N) (K : Mm → Option (Unit × Mm)) (p lim : Nat) (hp : p < N 2) (hL : Lim N p lim) (b : Bool) (hb : brN N false p = b) : ∀ (t f i : Nat) (μ : Mm), i + t = N 0 → t < f → SR μ 1 N → ∃ μ2, lp_X0_layMetre_78 (nI lim) (nI p) (bI b) f (nI i) μ K = K μ2 ∧ (∀ a, a ≠ 11 → μ2.1 a = μ.1 a) ∧ (∀ j, (j < 12 * p + i ∨ 12 * p + 12 ≤ j) → μ2.1 11 j = μ.1 11 j) ∧ (∀ j, i ≤ j → j < N 0 → μ2.1 11 (12 * p + j) = nI (LNn N false p j)) := by
  have h40 := hO.1.2.2.2
  have h12 := hO.1.1
  have hl1 := hL.1
  intro t
  induction t with
  | zero =>
    intro f i μ h1 h2 hs
    obtain ⟨f, rfl⟩ : ∃ q, f = q + 1 := ⟨f - 1, by omega⟩
    rw [lp_X0_layMetre_78, hs.cnt, if_pos ((nI_leI (by omega) (by omega)).mpr (by omega))]
    exact ⟨μ, rfl, fun _ _ => rfl, fun _ _ => rfl, fun j a b => by omega⟩
  | succ t ih =>
    intro f i μ h1 h2 hs
    obtain ⟨f, rfl⟩ : ∃ q, f = q + 1 := ⟨f - 1, by omega⟩
    have hmo := vc_mo (hO.2.2.2.2.1 i (by omega))
    have e5 : μ.1 5 i = nI (moD (N (21 + i))) := hs.mor (by omega)
    have key : lp_X0_layMetre_78 (nI lim) (nI p) (bI b) (f + 1) (nI i) μ K = lp_X0_layMetre_78 (nI lim) (nI p) (bI b) f (nI (i + 1)) (si μ 11 (12 * p + i) (nI (LNn N false p i))) K := by
      rw [lp_X0_layMetre_78, hs.cnt, if_neg (by rw [nI_leI (by omega) (by omega)]; omega), if_pos (zin_nI (by omega) (by omega)), nI_clamp (by omega), e5, i12, pk_mul, nI_add, nI_add, if_pos (zin_nI (by omega) (by omega)), if_pos (zin_nI (by omega) (by omega)), nI_clamp (by omega), nI_1, show p * 12 + i = 12 * p + i by omega]
      unfold LNn
      rw [hb]
      cases b with
      | true => rw [if_neg (show ¬ bI true = 0 by decide), if_pos rfl, iz0]
      | false =>
        rw [if_pos (show bI false = 0 from rfl), if_neg (show ¬ false = true by decide), lim_tg hO hL (by omega)]
        by_cases a : p + moD (N (21 + i)) ≤ lim
        · rw [if_pos ((nI_leI (by omega) (by omega)).mpr a), if_pos a]
        · rw [if_neg (by rw [nI_leI (by omega) (by omega)]; exact a), if_neg a, iz0]
    rw [key]
    obtain ⟨μ2, e1, f1, f2, f3⟩ := ih f (i + 1) (si μ 11 (12 * p + i) (nI (LNn N false p i))) (by omega) (by omega) (hs.frame (fun a _ ha => si_ne1 (by omega)))
    refine ⟨μ2, e1, fun a ha => by rw [f1 a ha, si_ne1 ha], fun j hj => by rw [f2 j (by omega), si_rd, if_neg (by omega)], fun j hj hj2 => ?_⟩
    by_cases c : j = i
    · subst c
      rw [f2 _ (by omega), si_rd, if_pos ⟨rfl, rfl⟩]
    · exact f3 j (by omega) hj2
theorem lpMets {B : Nat} {N : Nat → Nat} (hO : Ok B N) (K : Mm → Option (Unit × Mm)) : ∀ (t f lim : Nat) (μ : Mm), t ≤ N 2 → t < f → SR μ 1 N → μ.1 10 3 = nI (N 2) → ((t = N 2 ∧ lim = N 2) ∨ Lim N t lim) → ∃ μ2, lp_X0_layMetre_23 f (nI lim) (nI t + -1) μ K = K μ2 ∧ (∀ a, a ≠ 11 → μ2.1 a = μ.1 a) ∧ (∀ j, 12 * t ≤ j → μ2.1 11 j = μ.1 11 j) ∧ (∀ q, q < t → ∀ j, j < N 0 → μ2.1 11 (12 * q + j) = nI (LNn N false q j)) := by
  have h40 := hO.1.2.2.2
  have h12 := hO.1.1
  intro t
  induction t with
  | zero =>
    intro f lim μ h1 h2 hs he hL
    obtain ⟨f, rfl⟩ : ∃ q, f = q + 1 := ⟨f - 1, by omega⟩
    rw [lp_X0_layMetre_23, if_pos (by decide +kernel)]
    exact ⟨μ, rfl, fun _ _ => rfl, fun _ _ => rfl, fun q a => by omega⟩
  | succ t ih =>
    intro f lim μ h1 h2 hs he hL
    obtain ⟨f, rfl⟩ : ∃ q, f = q + 1 := ⟨f - 1, by omega⟩
    have em : μ.1 8 t = if t = 0 then 0 else nI (N (108 + t)) := by
      by_cases c : t = 0
      · rw [if_pos c, c]; exact hs.ma0
      · rw [if_neg c]; exact hs.mar (by omega) (by omega)
    have hbr : brN N false t = decide (μ.1 8 t = (2 : Int32)) := by
      rw [em]
      unfold brN
      by_cases c : t = 0
      · rw [if_pos c, c]; rfl
      · have hm := hO.2.2.2.2.2.2.2.2 t (by omega) (by omega)
        rw [if_neg c, decide_eq_true (show 1 ≤ t by omega), decide_eq_true (show t < N 2 by omega)]
        by_cases d : N (108 + t) = 2
        · rw [decide_eq_true d, decide_eq_true (show nI (N (108 + t)) = (2 : Int32) by rw [d]; decide +kernel)]; rfl
        · rw [decide_eq_false d, decide_eq_false (show ¬ nI (N (108 + t)) = (2 : Int32) by rw [i2, nI_eq (by omega) (by omega)]; exact d)]; rfl
    have key : ∀ lim2, Lim N t lim2 → ∃ μ2, (if (μ.1 8 t) = (2 : Int32) then (lp_X0_layMetre_78 (nI lim2) (nI t) (1 : Int32) FU (0 : Int32) μ (fun μ8 => lp_X0_layMetre_23 f (nI lim2) (nI t + -1) μ8 K)) else (lp_X0_layMetre_78 (nI lim2) (nI t) (0 : Int32) FU (0 : Int32) μ (fun μ7 => lp_X0_layMetre_23 f (nI lim2) (nI t + -1) μ7 K))) = K μ2 ∧ (∀ a, a ≠ 11 → μ2.1 a = μ.1 a) ∧ (∀ j, 12 * (t + 1) ≤ j → μ2.1 11 j = μ.1 11 j) ∧ (∀ q, q < t + 1 → ∀ j, j < N 0 → μ2.1 11 (12 * q + j) = nI (LNn N false q j)) := by
      intro lim2 hL2
      obtain ⟨μb, eb, b1, b2, b3⟩ := lpMet1 hO (fun μ8 => lp_X0_layMetre_23 f (nI lim2) (nI t + -1) μ8 K) t lim2 (by omega) hL2 (decide (μ.1 8 t = (2 : Int32))) hbr (N 0) FU 0 μ (by omega) (by unfold FU; omega) hs
      obtain ⟨μ2, e1, f1, f2, f3⟩ := ih f lim2 μb (by omega) (by omega) (hs.frame (fun a _ ha => b1 a (by omega))) (by rw [b1 10 (by omega)]; exact he) (Or.inr hL2)
      refine ⟨μ2, ?_, fun a x => by rw [f1 a x, b1 a x], fun j hj => by rw [f2 j (by omega), b2 j (by omega)], fun q hq j hj => ?_⟩
      · rw [← iz0] at eb
        rw [← e1, ← eb]
        by_cases c : μ.1 8 t = (2 : Int32)
        · rw [if_pos c, decide_eq_true c]; rfl
        · rw [if_neg c, decide_eq_false c]; rfl
      · by_cases c : q = t
        · subst c
          rw [f2 _ (by omega), b3 j (by omega) hj]
        · exact f3 q (by omega) j hj
    rw [lp_X0_layMetre_23, pk_m1, if_neg (nI_pos (by omega)), he, nI_1, nI_clamp (by omega), nI_clamp (by omega), if_pos (zin_nI (show t < 40 by omega) (by omega)), if_pos (zin_nI (show t < 40 by omega) (by omega))]
    by_cases c : N 2 ≤ t + 1
    · rw [if_pos ((nI_leI (by omega) (by omega)).mpr c)]
      refine key lim ?_
      rcases hL with h | h
      · exact ⟨by omega, by omega, fun q a b => by omega, Or.inl h.2⟩
      · have := h.1; have := h.2.1; omega
    · have hL : Lim N (t + 1) lim := by
        rcases hL with h | h
        · omega
        · exact h
      have em1 : μ.1 8 (t + 1) = nI (N (108 + (t + 1))) := hs.mar (by omega) (by omega)
      have hm := hO.2.2.2.2.2.2.2.2 (t + 1) (by omega) (by omega)
      rw [if_neg (by rw [nI_leI (by omega) (by omega)]; exact c), if_pos (zin_nI (by omega) (by omega)), em1]
      by_cases d : N (108 + (t + 1)) = 1
      · rw [if_pos (by rw [d]; decide +kernel)]
        refine key (t + 1) ⟨by omega, by omega, fun q a b => by omega, Or.inr d⟩
      · rw [if_neg (by rw [i1, nI_eq (by omega) (by omega)]; exact d)]
        obtain ⟨l1, l2, l3, l4⟩ := hL
        refine key lim ⟨l1, by omega, fun q a b => ?_, l4⟩
        by_cases x : q = t + 1
        · rw [x]; exact d
        · exact l3 q (by omega) b
theorem layMetreC {B : Nat} {N : Nat → Nat} (hO : Ok B N) {μ : Mm} (hs : SR μ 1 N) : ∃ μ2, f_X0_layMetre μ = some ((), μ2) ∧ SR μ2 1 N ∧ LD μ2 N false ∧ (∀ a, 13 ≤ a → μ2.1 a = μ.1 a) ∧ ∀ a, a ≤ 9 → μ2.1 a = μ.1 a := by
  have h40 := hO.1.2.2.2
  have h1 := hO.1.2.2.1
  obtain ⟨μ2, e1, f1, -, f3⟩ := lpMets hO (fun μ16 => some ((), μ16)) (N 2) FU (N 2) (si μ 10 3 (nI (N 2))) (by omega) (by unfold FU; omega) (hs.frame (fun a _ ha => si_ne1 (by omega))) (by rw [si_rd, if_pos ⟨rfl, rfl⟩]) (Or.inl ⟨rfl, rfl⟩)
  have em : nI (N 2) + -1 = nI (N 2) - 1 := by
    obtain ⟨z, hz⟩ : ∃ z, N 2 = z + 1 := ⟨N 2 - 1, by omega⟩
    rw [hz, pk_m1, nI_pred]
  rw [em] at e1
  have fr : ∀ a, a ≠ 10 → a ≠ 11 → μ2.1 a = μ.1 a := fun a x y => by rw [f1 a y, si_ne1 x]
  refine ⟨μ2, by rw [f_X0_layMetre, hs.met, e1], hs.frame (fun a _ ha => fr a (by omega) (by omega)), ⟨by rw [f1 10 (by omega), si_rd, if_pos ⟨rfl, rfl⟩]; rfl, fun p hp i hi => f3 p hp i hi⟩, fun a ha => fr a (by omega) (by omega), fun a ha => fr a (by omega) (by omega)⟩
