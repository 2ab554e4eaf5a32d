/-! the class lays its table of the best -/
def BT (A B C : Nat) (N : Nat → Nat) (m : Nat) (μ : Mm) (p : Nat) : Prop := ∀ q, p ≤ q → q ≤ N 1 → ∀ s, s < 4 → μ.1 A (4 * q + s) = eS (EB N m q s) ∧ μ.1 B (4 * q + s) = eK (EB N m q s) ∧ (q < N 1 → μ.1 C (4 * q + s) = eF (EB N m q s))
theorem lpF2 {N : Nat → Nat} (K : Mm → Option (Unit × Mm)) {p : Nat} (hp : p ≤ 40) : ∀ (t f s : Nat) (μ : Mm), s + t = 4 → t < f → ∃ μ2, lp_X1_fillPlace_2 (nI p) f (nI s) μ K = K μ2 ∧ (∀ a, a ≠ 18 → a ≠ 19 → a ≠ 20 → μ2.1 a = μ.1 a) ∧ (∀ a j, (j < 4 * p + s ∨ 4 * p + 4 ≤ j) → μ2.1 a j = μ.1 a j) ∧ (∀ s2, s ≤ s2 → s2 < 4 → EC μ2 (4 * p + s2) none) := by
  intro t
  induction t with
  | zero =>
    intro f s μ h1 h2
    obtain ⟨f, rfl⟩ : ∃ q, f = q + 1 := ⟨f - 1, by omega⟩
    rw [lp_X1_fillPlace_2, i4, if_pos ((nI_leI (by omega) (by omega)).mpr (by omega))]
    exact ⟨μ, rfl, fun _ _ _ _ => rfl, fun _ _ _ => rfl, fun s2 a b => by omega⟩
  | succ t ih =>
    intro f s μ h1 h2
    obtain ⟨f, rfl⟩ : ∃ q, f = q + 1 := ⟨f - 1, by omega⟩
    have z4 := i164c p s (by omega) (by omega)
    have e4 : ¬ (4 : Int32) ≤ nI s := by rw [i4, nI_leI (by omega) (by omega)]; omega
    rw [lp_X1_fillPlace_2, if_neg e4, if_pos z4.1, if_pos z4.1, if_pos z4.1, z4.2, nI_1]
    obtain ⟨μ2, g1, g2, g3, g4⟩ := ih f (s + 1) (si (si (si μ 18 (4 * p + s) 0) 19 (4 * p + s) (-1)) 20 (4 * p + s) (-1)) (by omega) (by omega)
    refine ⟨μ2, g1, fun a x y w => by rw [g2 a x y w, si_ne1 w, si_ne1 y, si_ne1 x], fun a j hj => ?_, fun s2 a b => ?_⟩
    · rw [g3 a j (by omega), si_rd, if_neg (by omega), si_rd, if_neg (by omega), si_rd, if_neg (by omega)]
    · by_cases d : s2 = s
      · subst d
        refine ⟨?_, ?_, ?_⟩
        · rw [g3 18 _ (by omega), si_ne1 (by omega), si_ne1 (by omega), si_rd, if_pos ⟨rfl, rfl⟩]; rfl
        · rw [g3 19 _ (by omega), si_ne1 (by omega), si_rd, if_pos ⟨rfl, rfl⟩]; rfl
        · rw [g3 20 _ (by omega), si_rd, if_pos ⟨rfl, rfl⟩]; rfl
      · exact g4 s2 (by omega) b
theorem lpF48 {B : Nat} {N : Nat → Nat} (hO : Ok B N) (hB : B < 2 ^ 24) {m : Nat} (hm : m < 3) (K : Mm → Option (Unit × Mm)) {p : Nat} (hp : p < N 1) : ∀ (t f i : Nat) (μ : Mm), i + t = N 0 → t < f → SR μ 1 N → LD μ N true → μ.1 17 7 = nI m → BT 18 19 20 N m μ (p + 1) → (∀ s, s < 4 → EC μ (4 * p + s) (bfo (cnd N m (EB N m) p (setP N p s)) i)) →
    ∃ μ2, lp_X1_fillPlace_48 (nI p) f (nI i) μ K = K μ2 ∧ (∀ a, a ≠ 18 → a ≠ 19 → a ≠ 20 → μ2.1 a = μ.1 a) ∧ (∀ a j, (j < 4 * p ∨ 4 * p + 4 ≤ j) → μ2.1 a j = μ.1 a j) ∧ (∀ s, s < 4 → EC μ2 (4 * p + s) (EB N m p s)) := by
  have h40 := hO.1.2.1
  have h12 := hO.1.1
  have hl : lastN N true = N 1 := rfl
  intro t
  induction t with
  | zero =>
    intro f i μ h1 h2 hs hd hk hb he
    obtain ⟨f, rfl⟩ : ∃ q, f = q + 1 := ⟨f - 1, by omega⟩
    rw [lp_X1_fillPlace_48, hs.cnt, if_pos ((nI_leI (by omega) (by omega)).mpr (by omega))]
    exact ⟨μ, rfl, fun _ _ _ _ => rfl, fun _ _ _ => rfl, fun s h4 => by rw [EB_step hO m hp, ← show i = N 0 by omega]; exact he s h4⟩
  | succ t ih =>
    intro f i μ h1 h2 hs hd hk hb he
    obtain ⟨f, rfl⟩ : ∃ q, f = q + 1 := ⟨f - 1, by omega⟩
    have hi : i < N 0 := by omega
    have hsl := hO.2.2.1 i (by omega)
    have e2 : μ.1 2 i = nI (N (9 + i)) := hs.slo (by omega)
    have hLe := LN_le hO (cut := true) (p := p) hi
    have skip : (∀ s, s < 4 → cnd N m (EB N m) p (setP N p s) i = none) → ∃ μ2, lp_X1_fillPlace_48 (nI p) f (nI (i + 1)) μ K = K μ2 ∧ (∀ a, a ≠ 18 → a ≠ 19 → a ≠ 20 → μ2.1 a = μ.1 a) ∧ (∀ a j, (j < 4 * p ∨ 4 * p + 4 ≤ j) → μ2.1 a j = μ.1 a j) ∧ (∀ s, s < 4 → EC μ2 (4 * p + s) (EB N m p s)) := by
      intro h0
      exact ih f (i + 1) μ (by omega) (by omega) hs hd hk hb (fun s h4 => by
        rw [bfo_succ, h0 s h4]
        exact he s h4)
    rw [lp_X1_fillPlace_48, hs.cnt, if_neg (by rw [nI_leI (by omega) (by omega)]; omega), landC hO hd (by omega) hi, bd_some, nI_1]
    by_cases c : LNn N true p i = 0
    · rw [if_pos ((le0_iff (by omega)).mpr c)]
      exact skip (fun s h4 => by unfold cnd; rw [if_neg (fun q => q.2 c)])
    · have hg := LN_gt hO hi c
      have z4 := i164c (LNn N true p i) (N (9 + i)) (by omega) (by omega)
      obtain ⟨b1, b2, -⟩ := hb (LNn N true p i) (by omega) (by omega) (N (9 + i)) (by omega)
      rw [if_neg (by rw [le0_iff (by omega)]; exact c), if_pos (zin_nI (by omega) (by omega)), nI_clamp (by omega), e2, if_pos z4.1, if_pos (zin_nI (show i < 12 by omega) (by omega)), z4.2, b2]
      cases hE : EB N m (LNn N true p i) (N (9 + i)) with
      | none =>
        rw [if_pos (show eK none = -1 from rfl)]
        exact skip (fun s h4 => by
          unfold cnd
          by_cases d : bitN (setP N p s) (N (9 + i)) = true ∧ LNn N true p i ≠ 0
          · rw [if_pos d, hE]; rfl
          · rw [if_neg d])
      | some z =>
        rw [hE] at b1 b2
        have hzb := EB_b2 hO hB hm (by omega) hE
        have b1 : μ.1 18 (4 * LNn N true p i + N (9 + i)) = nI z.1 := b1
        have b2 : μ.1 19 (4 * LNn N true p i + N (9 + i)) = nI z.2.1 := b2
        obtain ⟨μa, a1, a2, a3, a4⟩ := lpOffer hO hB hm (fun μ23 => some ((), μ23)) hp hi c hE 4 FU 0 μ (by omega) (by decide) hs (fun s2 _ h4 => he s2 h4)
        have eo : f_X1_offerPhrase (nI p) (nI i) ((nI (LNn N true p i) * (4 : Int32)) + nI (N (9 + i))) μ = some ((), μa) := by
          rw [f_X1_offerPhrase, hk, habC hs hm (by omega), bd_some, if_pos z4.1, if_pos z4.1, z4.2, b1, b2, nI_add, i1, nI_add, show N (33 + 12 * m + i) + z.1 = z.1 + N (33 + 12 * m + i) by omega, show 1 + z.2.1 = z.2.1 + 1 by omega, iz0, a1]
        rw [if_neg (show ¬ eK (some z) = -1 from nI_m1 (by omega)), eo, bd_some]
        have fa : ∀ a, a ≠ 18 → a ≠ 19 → a ≠ 20 → μa.1 a = μ.1 a := a2
        obtain ⟨μ2, g1, g2, g3, g4⟩ := ih f (i + 1) μa (by omega) (by omega) (hs.frame (fun a _ ha => fa a (by omega) (by omega) (by omega))) (by unfold LD at *; rw [fa 10 (by omega) (by omega) (by omega), fa 11 (by omega) (by omega) (by omega)]; exact hd) (by rw [fa 17 (by omega) (by omega) (by omega)]; exact hk) (fun q x y s h4 => by
          rw [a3 18 _ (by omega), a3 19 _ (by omega), a3 20 _ (by omega)]
          exact hb q x y s h4) (fun s h4 => a4 s (by omega) h4)
        exact ⟨μ2, g1, fun a x y w => by rw [g2 a x y w, fa a x y w], fun a j hj => by rw [g3 a j hj, a3 a j (by omega)], g4⟩
theorem fillB {B : Nat} {N : Nat → Nat} (hO : Ok B N) (hB : B < 2 ^ 24) {m : Nat} (hm : m < 3) {p : Nat} (hp : p < N 1) {μ : Mm} (hs : SR μ 1 N) (hd : LD μ N true) (hk : μ.1 17 7 = nI m) (hb : BT 18 19 20 N m μ (p + 1)) : ∃ μ2, f_X1_fillPlace (nI p) μ = some ((), μ2) ∧ (∀ a, a ≠ 18 → a ≠ 19 → a ≠ 20 → μ2.1 a = μ.1 a) ∧ BT 18 19 20 N m μ2 p := by
  have h40 := hO.1.2.1
  have h12 := hO.1.1
  obtain ⟨μa, a1, a2, a3, a4⟩ := lpF2 (N := N) (fun μ2 => lp_X1_fillPlace_48 (nI p) FU (0 : Int32) μ2 (fun μ10 => some ((), μ10))) (show p ≤ 40 by omega) 4 FU 0 μ (by omega) (by decide)
  rw [← iz0] at a1
  obtain ⟨μ2, g1, g2, g3, g4⟩ := lpF48 hO hB hm (fun μ10 => some ((), μ10)) hp (N 0) FU 0 μa (by omega) (by unfold FU; omega) (hs.frame (fun a _ ha => a2 a (by omega) (by omega) (by omega))) (by unfold LD at *; rw [a2 10 (by omega) (by omega) (by omega), a2 11 (by omega) (by omega) (by omega)]; exact hd) (by rw [a2 17 (by omega) (by omega) (by omega)]; exact hk) (fun q x y s h4 => by
          rw [a3 18 _ (by omega), a3 19 _ (by omega), a3 20 _ (by omega)]
          exact hb q x y s h4) (fun s h4 => a4 s (by omega) h4)
  rw [← iz0] at g1
  refine ⟨μ2, by rw [f_X1_fillPlace, a1, g1], fun a x y w => by rw [g2 a x y w, a2 a x y w], fun q x y s h4 => ?_⟩
  by_cases c : q = p
  · subst c
    obtain ⟨x1, x2, x3⟩ := g4 s h4
    exact ⟨x1, x2, fun _ => x3⟩
  · rw [g3 18 _ (by omega), g3 19 _ (by omega), g3 20 _ (by omega), a3 18 _ (by omega), a3 19 _ (by omega), a3 20 _ (by omega)]
    exact hb q (by omega) y s h4
theorem EB_lastS (N : Nat → Nat) (m s : Nat) : eS (EB N m (N 1) s) = 0 := by
  rw [EB_last]
  by_cases c : endB N s = 1
  · rw [if_pos c]; rfl
  · rw [if_neg c]; rfl
theorem EB_lastK (N : Nat → Nat) (m s : Nat) : eK (EB N m (N 1) s) = if bitN (N 4) s = true then 0 else -1 := by
  rw [EB_last]
  unfold bitN endB
  by_cases c : N 4 / 2 ^ s % 2 = 1
  · rw [if_pos c, decide_eq_true c, if_pos rfl]; rfl
  · rw [if_neg c, decide_eq_false c, if_neg (by decide)]; rfl
theorem lpB32 {B : Nat} {N : Nat → Nat} (hO : Ok B N) {m : Nat} (K : Mm → Option (Int32 × Mm)) : ∀ (t f s : Nat) (μ : Mm), s + t = 4 → t < f → SR μ 1 N → μ.1 10 3 = nI (N 1) → (∀ s2, s2 < s → μ.1 18 (4 * N 1 + s2) = eS (EB N m (N 1) s2) ∧ μ.1 19 (4 * N 1 + s2) = eK (EB N m (N 1) s2)) →
    ∃ μ2, lp_X1_findBest_32 f (nI s) μ K = K μ2 ∧ (∀ a, a ≠ 18 → a ≠ 19 → μ2.1 a = μ.1 a) ∧ (∀ s2, s2 < 4 → μ2.1 18 (4 * N 1 + s2) = eS (EB N m (N 1) s2) ∧ μ2.1 19 (4 * N 1 + s2) = eK (EB N m (N 1) s2)) := by
  have h40 := hO.1.2.1
  have h4 := hO.2.1 4 (by omega) (by omega)
  intro t
  induction t with
  | zero =>
    intro f s μ h1 h2 hs hd he
    obtain ⟨f, rfl⟩ : ∃ q, f = q + 1 := ⟨f - 1, by omega⟩
    rw [lp_X1_findBest_32, i4, if_pos ((nI_leI (by omega) (by omega)).mpr (by omega))]
    exact ⟨μ, rfl, fun _ _ _ => rfl, fun s2 h => he s2 (by omega)⟩
  | succ t ih =>
    intro f s μ h1 h2 hs hd he
    obtain ⟨f, rfl⟩ : ∃ q, f = q + 1 := ⟨f - 1, by omega⟩
    have z4 := i164c (N 1) s (by omega) (by omega)
    have e4 : ¬ (4 : Int32) ≤ nI s := by rw [i4, nI_leI (by omega) (by omega)]; omega
    have key : lp_X1_findBest_32 (f + 1) (nI s) μ K = lp_X1_findBest_32 f (nI (s + 1)) (si (si μ 18 (4 * N 1 + s) (eS (EB N m (N 1) s))) 19 (4 * N 1 + s) (eK (EB N m (N 1) s))) K := by
      rw [lp_X1_findBest_32, if_neg e4, hd, if_pos z4.1, hs.ens, holdsC h4 (by omega), bd_some, if_pos z4.1, if_pos z4.1, z4.2, nI_1, EB_lastS, EB_lastK]
      cases bitN (N 4) s <;> rfl
    rw [key]
    obtain ⟨μ2, g1, g2, g3⟩ := ih f (s + 1) (si (si μ 18 (4 * N 1 + s) (eS (EB N m (N 1) s))) 19 (4 * N 1 + s) (eK (EB N m (N 1) s))) (by omega) (by omega) (hs.frame (fun a _ ha => by rw [si_ne1 (by omega), si_ne1 (by omega)])) (by rw [si_ne1 (by omega), si_ne1 (by omega)]; exact hd) (fun s2 hs2 => by
      rw [si_ne1 (show (18 : Nat) ≠ 19 by omega), si_rd, si_rd]
      by_cases c : s2 = s
      · rw [c, if_pos ⟨rfl, rfl⟩, if_pos ⟨rfl, rfl⟩]; exact ⟨rfl, rfl⟩
      · rw [if_neg (by omega), if_neg (by omega), si_ne1 (by omega)]; exact he s2 (by omega))
    exact ⟨μ2, g1, fun a x y => by rw [g2 a x y, si_ne1 y, si_ne1 x], g3⟩
theorem lpB105 {B : Nat} {N : Nat → Nat} (hO : Ok B N) (hB : B < 2 ^ 24) {m : Nat} (hm : m < 3) (K : Mm → Option (Int32 × Mm)) : ∀ (t f : Nat) (μ : Mm), t ≤ N 1 → t < f → SR μ 1 N → LD μ N true → μ.1 17 7 = nI m → BT 18 19 20 N m μ t → ∃ μ2, lp_X1_findBest_105 f (nI t + -1) μ K = K μ2 ∧ (∀ a, a ≠ 18 → a ≠ 19 → a ≠ 20 → μ2.1 a = μ.1 a) ∧ BT 18 19 20 N m μ2 0 := by
  have h40 := hO.1.2.1
  intro t
  induction t with
  | zero =>
    intro f μ h1 h2 hs hd hk hb
    obtain ⟨f, rfl⟩ : ∃ q, f = q + 1 := ⟨f - 1, by omega⟩
    rw [lp_X1_findBest_105, if_pos (by decide +kernel)]
    exact ⟨μ, rfl, fun _ _ _ _ => rfl, hb⟩
  | succ t ih =>
    intro f μ h1 h2 hs hd hk hb
    obtain ⟨f, rfl⟩ : ∃ q, f = q + 1 := ⟨f - 1, by omega⟩
    obtain ⟨μa, a1, a2, a3⟩ := fillB hO hB hm (show t < N 1 by omega) hs hd hk hb
    obtain ⟨μ2, g1, g2, g3⟩ := ih f μa (by omega) (by omega) (hs.frame (fun a _ ha => a2 a (by omega) (by omega) (by omega))) (by unfold LD at *; rw [a2 10 (by omega) (by omega) (by omega), a2 11 (by omega) (by omega) (by omega)]; exact hd) (by rw [a2 17 (by omega) (by omega) (by omega)]; exact hk) a3
    rw [lp_X1_findBest_105, pk_m1, if_neg (nI_pos (by omega)), a1, bd_some]
    exact ⟨μ2, g1, fun a x y w => by rw [g2 a x y w, a2 a x y w], g3⟩
/-- the class's table, ahead of the trace -/
theorem bestC {B : Nat} {N : Nat → Nat} (hO : Ok B N) (hB : B < 2 ^ 24) {m : Nat} (hm : m < 3) {μ : Mm} (hs : SR μ 1 N) :
    (N 1 = 0 → ∃ μ2, f_X1_findBest (nI m) μ = some (0, μ2) ∧ FrC μ μ2) ∧
    (N 1 ≠ 0 → ∃ μ2, f_X1_findBest (nI m) μ = (bd (f_X1_traceChosen μ2) fun r13 μ14 => if (μ14.1 17 6) ≤ 0 then (some ((0 : Int32), μ14)) else (some ((1 : Int32), μ14))) ∧ FrC μ μ2 ∧ SR μ2 1 N ∧ LD μ2 N true ∧ BT 18 19 20 N m μ2 0 ∧ μ2.1 17 6 = 0) := by
  have h40 := hO.1.2.1
  have fr0 : ∀ a, a ≠ 17 → (si (si μ 17 7 (nI m)) 17 6 (0 : Int32)).1 a = μ.1 a := fun a ha => by rw [si_ne1 ha, si_ne1 ha]
  obtain ⟨μa, a1, a2, a3, a4, a5⟩ := layLineC hO (hs.frame (μ2 := si (si μ 17 7 (nI m)) 17 6 (0 : Int32)) (fun a _ ha => fr0 a (by omega)))
  have fa : FrC μ μa := fun a ha => by
    rcases ha with h | h
    · rw [a5 a h, fr0 a (by omega)]
    · rw [a4 a (by omega), fr0 a (by omega)]
  have k7 : μa.1 17 7 = nI m := by rw [a4 17 (by omega), si_rd, if_neg (by omega), si_rd, if_pos ⟨rfl, rfl⟩]
  have k6 : μa.1 17 6 = 0 := by rw [a4 17 (by omega), si_rd, if_pos ⟨rfl, rfl⟩]
  have e10 : μa.1 10 3 = nI (N 1) := a3.1
  rw [f_X1_findBest, a1, bd_some, e10]
  constructor
  · intro h
    rw [h, if_neg (by decide +kernel)]
    exact ⟨μa, rfl, fa⟩
  · intro h
    rw [if_pos (by rw [i1]; exact (nI_leI (by omega) (by omega)).mpr (by omega))]
    obtain ⟨μb, b1, b2, b3⟩ := lpB32 hO (m := m) (fun μ8 => lp_X1_findBest_105 FU ((μ8.1 10 3) - (1 : Int32)) μ8 (fun μ12 => bd (f_X1_traceChosen μ12) fun r13 μ14 => if (μ14.1 17 6) ≤ 0 then (some ((0 : Int32), μ14)) else (some ((1 : Int32), μ14)))) 4 FU 0 μa (by omega) (by decide) a2 e10 (fun s2 h => by omega)
    rw [← iz0] at b1
    have em : nI (N 1) - 1 = nI (N 1) + -1 := by
      obtain ⟨z, hz⟩ : ∃ z, N 1 = z + 1 := ⟨N 1 - 1, by omega⟩
      rw [hz, pk_m1, nI_pred]
    rw [b1, b2 10 (by omega) (by omega), e10, em]
    obtain ⟨μ2, g1, g2, g3⟩ := lpB105 hO hB hm (fun μ12 => bd (f_X1_traceChosen μ12) fun r13 μ14 => if (μ14.1 17 6) ≤ 0 then (some ((0 : Int32), μ14)) else (some ((1 : Int32), μ14))) (N 1) FU μb (Nat.le_refl _) (by unfold FU; omega) (a2.frame (fun a _ ha => b2 a (by omega) (by omega))) (by unfold LD at *; rw [b2 10 (by omega) (by omega), b2 11 (by omega) (by omega)]; exact a3) (by rw [b2 17 (by omega) (by omega)]; exact k7) (fun q x y s h4 => by
      have : q = N 1 := by omega
      subst this
      exact ⟨(b3 s h4).1, (b3 s h4).2, fun z => by omega⟩)
    have fr : ∀ a, a ≠ 18 → a ≠ 19 → a ≠ 20 → μ2.1 a = μa.1 a := fun a x y w => by rw [g2 a x y w, b2 a x y]
    refine ⟨μ2, g1, fa.trans (fun a ha => fr a (by omega) (by omega) (by omega)), a2.frame (fun a _ ha => fr a (by omega) (by omega) (by omega)), ?_, g3, by rw [fr 17 (by omega) (by omega) (by omega)]; exact k6⟩
    unfold LD at *
    rw [fr 10 (by omega) (by omega) (by omega), fr 11 (by omega) (by omega) (by omega)]
    exact a3
