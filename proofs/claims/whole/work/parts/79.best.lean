/-! the cut most like what a maker is used to -/
def bet (c : Option (Nat × Nat × Nat)) (x : Nat × Nat × Nat) : Option (Nat × Nat × Nat) := match c with
  | none => some x
  | some y => if y.1 < x.1 ∨ (x.1 = y.1 ∧ x.2.1 < y.2.1) then some x else some y
def nxt (c o : Option (Nat × Nat × Nat)) : Option (Nat × Nat × Nat) := match o with
  | none => c
  | some x => bet c x
def bfo (g : Nat → Option (Nat × Nat × Nat)) : Nat → Option (Nat × Nat × Nat)
  | 0 => none
  | k + 1 => nxt (bfo g k) (g k)
theorem bfo_succ (g : Nat → Option (Nat × Nat × Nat)) (k : Nat) : bfo g (k + 1) = nxt (bfo g k) (g k) := rfl
theorem bfo_congr {g h : Nat → Option (Nat × Nat × Nat)} : ∀ k, (∀ i, i < k → g i = h i) → bfo g k = bfo h k := by
  intro k
  induction k with
  | zero => intro _; rfl
  | succ k ih =>
    intro e
    rw [bfo, bfo, ih (fun i hi => e i (by omega)), e k (by omega)]
theorem nxt_mem {c o : Option (Nat × Nat × Nat)} {y : Nat × Nat × Nat} (h : nxt c o = some y) : c = some y ∨ o = some y := by
  cases o with
  | none => exact Or.inl h
  | some x =>
    have h : bet c x = some y := h
    cases c with
    | none => exact Or.inr h
    | some z =>
      unfold bet at h
      simp only at h
      split at h
      · exact Or.inr h
      · exact Or.inl h
theorem bfo_mem {g : Nat → Option (Nat × Nat × Nat)} {y : Nat × Nat × Nat} : ∀ k, bfo g k = some y → ∃ i, i < k ∧ g i = some y := by
  intro k
  induction k with
  | zero => intro h; cases h
  | succ k ih =>
    intro h
    rw [bfo_succ] at h
    rcases nxt_mem h with q | q
    · obtain ⟨i, h1, h2⟩ := ih q
      exact ⟨i, by omega, h2⟩
    · exact ⟨k, by omega, q⟩
def up3 (o : Option (Nat × Nat × Nat)) (h i : Nat) : Option (Nat × Nat × Nat) := match o with
  | none => none
  | some y => some (y.1 + h, y.2.1 + 1, i)
def cnd (N : Nat → Nat) (m : Nat) (T : Nat → Nat → Option (Nat × Nat × Nat)) (p v i : Nat) : Option (Nat × Nat × Nat) := if bitN v (N (9 + i)) = true ∧ LNn N true p i ≠ 0 then up3 (T (LNn N true p i) (N (9 + i))) (N (33 + 12 * m + i)) i else none
def EF (N : Nat → Nat) (m : Nat) : Nat → Nat → Nat → Option (Nat × Nat × Nat)
  | 0, _, _ => none
  | f + 1, p, s => if p = N 1 then (if endB N s = 1 then some (0, 0, 12) else none) else bfo (fun i => cnd N m (EF N m f) p (setP N p s) i) (N 0)
def EB (N : Nat → Nat) (m p s : Nat) : Option (Nat × Nat × Nat) := EF N m 41 p s
theorem EF_stable {B : Nat} {N : Nat → Nat} (hO : Ok B N) (m : Nat) : ∀ f f2 p s, N 1 - p < f → N 1 - p < f2 → EF N m f p s = EF N m f2 p s := by
  intro f
  induction f with
  | zero => intro f2 p s h; omega
  | succ f ih =>
    intro f2 p s h1 h2
    obtain ⟨f2, rfl⟩ : ∃ q, f2 = q + 1 := ⟨f2 - 1, by omega⟩
    rw [EF, EF]
    by_cases c : p = N 1
    · rw [if_pos c, if_pos c]
    · rw [if_neg c, if_neg c]
      refine bfo_congr _ (fun i hi => ?_)
      unfold cnd
      by_cases d : bitN (setP N p s) (N (9 + i)) = true ∧ LNn N true p i ≠ 0
      · rw [if_pos d, if_pos d]
        have := LN_gt hO hi d.2
        have hl : lastN N true = N 1 := rfl
        rw [ih f2 (LNn N true p i) (N (9 + i)) (by omega) (by omega)]
      · rw [if_neg d, if_neg d]
theorem EB_last (N : Nat → Nat) (m s : Nat) : EB N m (N 1) s = if endB N s = 1 then some (0, 0, 12) else none := by
  unfold EB
  rw [EF, if_pos rfl]
theorem EB_step {B : Nat} {N : Nat → Nat} (hO : Ok B N) (m : Nat) {p s : Nat} (hp : p < N 1) : EB N m p s = bfo (cnd N m (EB N m) p (setP N p s)) (N 0) := by
  have hl := hO.1.2.1
  unfold EB
  rw [EF, if_neg (by omega)]
  refine bfo_congr _ (fun i hi => ?_)
  unfold cnd
  by_cases d : bitN (setP N p s) (N (9 + i)) = true ∧ LNn N true p i ≠ 0
  · rw [if_pos d, if_pos d]
    have := LN_gt hO hi d.2
    have hl : lastN N true = N 1 := rfl
    rw [EF_stable hO m 40 41 (LNn N true p i) (N (9 + i)) (by omega) (by omega)]
  · rw [if_neg d, if_neg d]
theorem cnd_inv {N : Nat → Nat} {m : Nat} {T : Nat → Nat → Option (Nat × Nat × Nat)} {p v i : Nat} {y : Nat × Nat × Nat} (h : cnd N m T p v i = some y) : bitN v (N (9 + i)) = true ∧ LNn N true p i ≠ 0 ∧ ∃ z, T (LNn N true p i) (N (9 + i)) = some z ∧ y = (z.1 + N (33 + 12 * m + i), z.2.1 + 1, i) := by
  unfold cnd at h
  by_cases d : bitN v (N (9 + i)) = true ∧ LNn N true p i ≠ 0
  · rw [if_pos d] at h
    cases hT : T (LNn N true p i) (N (9 + i)) with
    | none => rw [hT] at h; cases h
    | some z =>
      rw [hT] at h
      cases h
      exact ⟨d.1, d.2, z, rfl, rfl⟩
  · rw [if_neg d] at h
    cases h
theorem EB_b {B : Nat} {N : Nat → Nat} (hO : Ok B N) {m : Nat} (hm : m < 3) : ∀ d p s y, N 1 - p ≤ d → p ≤ N 1 → EB N m p s = some y → y.1 ≤ B * y.2.1 ∧ y.2.1 ≤ N 1 - p := by
  have h12 := hO.1.1
  have hl : lastN N true = N 1 := rfl
  intro d
  induction d with
  | zero =>
    intro p s y h1 h2 h3
    rw [show p = N 1 by omega, EB_last] at h3
    split at h3
    · cases h3; exact ⟨Nat.zero_le _, Nat.zero_le _⟩
    · cases h3
  | succ d ih =>
    intro p s y h1 h2 h3
    by_cases c : p = N 1
    · rw [c, EB_last] at h3
      split at h3
      · cases h3; exact ⟨Nat.zero_le _, Nat.zero_le _⟩
      · cases h3
    · rw [EB_step hO m (by omega)] at h3
      obtain ⟨i, i1, i2⟩ := bfo_mem _ h3
      obtain ⟨-, e2, z, e3, rfl⟩ := cnd_inv i2
      have hg := LN_gt hO i1 e2
      have := ih (LNn N true p i) (N (9 + i)) z (by omega) (by omega) e3
      have hh := hO.2.2.2.2.2.1 (12 * m + i) (by omega)
      rw [show 33 + (12 * m + i) = 33 + 12 * m + i by omega] at hh
      refine ⟨?_, by simp only; omega⟩
      show z.1 + N (33 + 12 * m + i) ≤ B * (z.2.1 + 1)
      rw [Nat.mul_succ]
      omega
theorem EB_b2 {B : Nat} {N : Nat → Nat} (hO : Ok B N) (hB : B < 2 ^ 24) {m : Nat} (hm : m < 3) {p s : Nat} {y : Nat × Nat × Nat} (hp : p ≤ N 1) (h : EB N m p s = some y) : y.1 < 2 ^ 30 ∧ y.2.1 ≤ 40 := by
  have h40 := hO.1.2.1
  have := EB_b hO hm (N 1 - p) p s y (by omega) hp h
  have h2 : B * y.2.1 ≤ B * 40 := Nat.mul_le_mul_left B (by omega)
  omega
theorem cnd_b {B : Nat} {N : Nat → Nat} (hO : Ok B N) (hB : B < 2 ^ 24) {m : Nat} (hm : m < 3) {p v i : Nat} {y : Nat × Nat × Nat} (hi : i < N 0) (h : cnd N m (EB N m) p v i = some y) : y.1 < 2 ^ 31 ∧ y.2.1 ≤ 41 ∧ y.2.2 < N 0 := by
  have h12 := hO.1.1
  have hl : lastN N true = N 1 := rfl
  obtain ⟨-, e2, z, e3, rfl⟩ := cnd_inv h
  have hg := LN_gt hO hi e2
  have h1 := EB_b2 hO hB hm (by omega) e3
  have hh := hO.2.2.2.2.2.1 (12 * m + i) (by omega)
  rw [show 33 + (12 * m + i) = 33 + 12 * m + i by omega] at hh
  exact ⟨by simp only; omega, by simp only; omega, hi⟩
def eS (o : Option (Nat × Nat × Nat)) : Int32 := match o with
  | none => 0
  | some y => nI y.1
def eK (o : Option (Nat × Nat × Nat)) : Int32 := match o with
  | none => -1
  | some y => nI y.2.1
def eF (o : Option (Nat × Nat × Nat)) : Int32 := match o with
  | none => -1
  | some y => nI y.2.2
def EC (μ : Mm) (j : Nat) (o : Option (Nat × Nat × Nat)) : Prop := μ.1 18 j = eS o ∧ μ.1 19 j = eK o ∧ μ.1 20 j = eF o
theorem i164c (p s : Nat) (hp : p ≤ 40) (hs : s < 4) : zin ((nI p * (4 : Int32)) + nI s) 164 = true ∧ (((nI p * (4 : Int32)) + nI s).toNatClampNeg) = 4 * p + s := by
  rw [i4, pk_mul, nI_add, show p * 4 + s = 4 * p + s by omega]
  exact ⟨zin_nI (by omega) (by omega), nI_clamp (by omega)⟩
theorem lpOffer {B : Nat} {N : Nat → Nat} (hO : Ok B N) (hB : B < 2 ^ 24) {m : Nat} (hm : m < 3) (K : Mm → Option (Unit × Mm)) {p i : Nat} (hp : p < N 1) (hi : i < N 0) {z : Nat × Nat × Nat} (hL : LNn N true p i ≠ 0) (hz : EB N m (LNn N true p i) (N (9 + i)) = some z) : ∀ (t f s : Nat) (μ : Mm), s + t = 4 → t < f → SR μ 1 N → (∀ s2, s ≤ s2 → s2 < 4 → EC μ (4 * p + s2) (bfo (cnd N m (EB N m) p (setP N p s2)) i)) →
    ∃ μ2, lp_X1_offerPhrase_34 (nI p) (nI i) (nI (z.1 + N (33 + 12 * m + i))) (nI (z.2.1 + 1)) f (nI s) μ K = K μ2 ∧ (∀ a, a ≠ 18 → a ≠ 19 → a ≠ 20 → μ2.1 a = μ.1 a) ∧ (∀ a j, (j < 4 * p + s ∨ 4 * p + 4 ≤ j) → μ2.1 a j = μ.1 a j) ∧ (∀ s2, s ≤ s2 → s2 < 4 → EC μ2 (4 * p + s2) (bfo (cnd N m (EB N m) p (setP N p s2)) (i + 1))) := by
  have h40 := hO.1.2.1
  have h12 := hO.1.1
  have hl : lastN N true = N 1 := rfl
  have hg := LN_gt hO hi hL
  have hzb := EB_b2 hO hB hm (by omega) hz
  have hsl := hO.2.2.1 i (by omega)
  have hh := hO.2.2.2.2.2.1 (12 * m + i) (by omega)
  rw [show 33 + (12 * m + i) = 33 + 12 * m + i by omega] at hh
  intro t
  induction t with
  | zero =>
    intro f s μ h1 h2 hs he
    obtain ⟨f, rfl⟩ : ∃ q, f = q + 1 := ⟨f - 1, by omega⟩
    rw [lp_X1_offerPhrase_34, i4, if_pos ((nI_leI (by omega) (by omega)).mpr (by omega))]
    exact ⟨μ, rfl, fun _ _ _ _ => rfl, fun _ _ _ => rfl, fun s2 a b => by omega⟩
  | succ t ih =>
    intro f s μ h1 h2 hs he
    obtain ⟨f, rfl⟩ : ∃ q, f = q + 1 := ⟨f - 1, by omega⟩
    have z4 := i164c p s (by omega) (by omega)
    have e2 : μ.1 2 i = nI (N (9 + i)) := hs.slo (by omega)
    obtain ⟨c1, c2, c3⟩ := he s (Nat.le_refl _) (by omega)
    have key : ∃ μ', lp_X1_offerPhrase_34 (nI p) (nI i) (nI (z.1 + N (33 + 12 * m + i))) (nI (z.2.1 + 1)) (f + 1) (nI s) μ K = lp_X1_offerPhrase_34 (nI p) (nI i) (nI (z.1 + N (33 + 12 * m + i))) (nI (z.2.1 + 1)) f (nI (s + 1)) μ' K ∧ (∀ a, a ≠ 18 → a ≠ 19 → a ≠ 20 → μ'.1 a = μ.1 a) ∧ (∀ a j, j ≠ 4 * p + s → μ'.1 a j = μ.1 a j) ∧ EC μ' (4 * p + s) (bfo (cnd N m (EB N m) p (setP N p s)) (i + 1)) := by
      rw [bfo_succ]
      have hput : EC (si (si (si μ 18 (4 * p + s) (nI (z.1 + N (33 + 12 * m + i)))) 19 (4 * p + s) (nI (z.2.1 + 1))) 20 (4 * p + s) (nI i)) (4 * p + s) (some (z.1 + N (33 + 12 * m + i), z.2.1 + 1, i)) := by
        refine ⟨?_, ?_, ?_⟩
        · rw [si_ne1 (by omega), si_ne1 (by omega), si_rd, if_pos ⟨rfl, rfl⟩]; rfl
        · rw [si_ne1 (by omega), si_rd, if_pos ⟨rfl, rfl⟩]; rfl
        · rw [si_rd, if_pos ⟨rfl, rfl⟩]; rfl
      have fput : (∀ a, a ≠ 18 → a ≠ 19 → a ≠ 20 → (si (si (si μ 18 (4 * p + s) (nI (z.1 + N (33 + 12 * m + i)))) 19 (4 * p + s) (nI (z.2.1 + 1))) 20 (4 * p + s) (nI i)).1 a = μ.1 a) ∧ (∀ a j, j ≠ 4 * p + s → (si (si (si μ 18 (4 * p + s) (nI (z.1 + N (33 + 12 * m + i)))) 19 (4 * p + s) (nI (z.2.1 + 1))) 20 (4 * p + s) (nI i)).1 a j = μ.1 a j) := by
        refine ⟨fun a x y w => by rw [si_ne1 w, si_ne1 y, si_ne1 x], fun a j hj => ?_⟩
        rw [si_rd, if_neg (fun q => hj q.2), si_rd, if_neg (fun q => hj q.2), si_rd, if_neg (fun q => hj q.2)]
      have hc : cnd N m (EB N m) p (setP N p s) i = if bitN (setP N p s) (N (9 + i)) = true then some (z.1 + N (33 + 12 * m + i), z.2.1 + 1, i) else none := by
        unfold cnd
        by_cases b : bitN (setP N p s) (N (9 + i)) = true
        · rw [if_pos ⟨b, hL⟩, if_pos b, hz]; rfl
        · rw [if_neg (fun q => b q.1), if_neg b]
      rw [hc]
      have e4 : ¬ (4 : Int32) ≤ nI s := by rw [i4, nI_leI (by omega) (by omega)]; omega
      have zi : zin (nI i) 12 = true := zin_nI (by omega) (by omega)
      have ci : (nI i).toNatClampNeg = i := nI_clamp (by omega)
      have sa := setAfterC hs (show p < 2 ^ 31 by omega) (show s < 4 by omega)
      have ho := fun μ => holdsC (setP_le hO (p := p) (show s < 4 by omega)) (show N (9 + i) < 4 by omega) μ
      -- what is done where the phrase is better
      have better : ∀ o : Option (Nat × Nat × Nat), bet o (z.1 + N (33 + 12 * m + i), z.2.1 + 1, i) = some (z.1 + N (33 + 12 * m + i), z.2.1 + 1, i) → EC μ (4 * p + s) o → ∃ μ', (bd (f_X4_setAfter (nI p) (nI s) μ) fun r5 μ6 => if zin (nI i) 12 then (bd (f_X6_holds r5 (μ6.1 2 (nI i).toNatClampNeg) μ6) fun r7 μ8 => if r7 = 0 then (lp_X1_offerPhrase_34 (nI p) (nI i) (nI (z.1 + N (33 + 12 * m + i))) (nI (z.2.1 + 1)) f (nI (s + 1)) μ8 K) else (if zin ((nI p * (4 : Int32)) + nI s) 164 then (if zin ((nI p * (4 : Int32)) + nI s) 164 then (if zin ((nI p * (4 : Int32)) + nI s) 164 then (lp_X1_offerPhrase_34 (nI p) (nI i) (nI (z.1 + N (33 + 12 * m + i))) (nI (z.2.1 + 1)) f (nI (s + 1)) (si (si (si μ8 18 (((nI p * (4 : Int32)) + nI s).toNatClampNeg) (nI (z.1 + N (33 + 12 * m + i)))) 19 (((nI p * (4 : Int32)) + nI s).toNatClampNeg) (nI (z.2.1 + 1))) 20 (((nI p * (4 : Int32)) + nI s).toNatClampNeg) (nI i)) K) else none) else none) else none)) else none) = lp_X1_offerPhrase_34 (nI p) (nI i) (nI (z.1 + N (33 + 12 * m + i))) (nI (z.2.1 + 1)) f (nI (s + 1)) μ' K ∧ (∀ a, a ≠ 18 → a ≠ 19 → a ≠ 20 → μ'.1 a = μ.1 a) ∧ (∀ a j, j ≠ 4 * p + s → μ'.1 a j = μ.1 a j) ∧ EC μ' (4 * p + s) (nxt o (if bitN (setP N p s) (N (9 + i)) = true then some (z.1 + N (33 + 12 * m + i), z.2.1 + 1, i) else none)) := by
        intro o hb hec
        rw [sa, bd_some, if_pos zi, ci, e2, ho, bd_some]
        by_cases b : bitN (setP N p s) (N (9 + i)) = true
        · rw [if_neg (show ¬ bI (bitN (setP N p s) (N (9 + i))) = 0 by rw [b]; decide), if_pos z4.1, if_pos z4.1, if_pos z4.1, z4.2, if_pos b]
          refine ⟨_, rfl, fput.1, fput.2, ?_⟩
          show EC _ _ (bet o _)
          rw [hb]
          exact hput
        · rw [if_pos ((bI_ne _).mpr (by simpa using b)), if_neg b]
          exact ⟨μ, rfl, fun _ _ _ _ => rfl, fun _ _ _ => rfl, hec⟩
      have worse : ∀ o : Option (Nat × Nat × Nat), bet o (z.1 + N (33 + 12 * m + i), z.2.1 + 1, i) = o → EC μ (4 * p + s) o → EC μ (4 * p + s) (nxt o (if bitN (setP N p s) (N (9 + i)) = true then some (z.1 + N (33 + 12 * m + i), z.2.1 + 1, i) else none)) := by
        intro o hb hec
        by_cases b : bitN (setP N p s) (N (9 + i)) = true
        · rw [if_pos b]
          show EC _ _ (bet o _)
          rw [hb]
          exact hec
        · rw [if_neg b]
          exact hec
      rw [lp_X1_offerPhrase_34, if_neg e4, if_pos z4.1, z4.2, c2, nI_1, c1]
      cases ho2 : bfo (cnd N m (EB N m) p (setP N p s)) i with
      | none =>
        rw [ho2] at c1 c2 c3
        rw [if_pos (show eK none = -1 from rfl), ← z4.2]
        rw [← z4.2] at better
        exact better none rfl (by rw [z4.2]; exact ⟨c1, c2, c3⟩)
      | some y =>
        rw [ho2] at c1 c2 c3
        obtain ⟨i', hi', hy⟩ := bfo_mem _ ho2
        have hyb := cnd_b hO hB hm (show i' < N 0 by omega) hy
        have k1 : eK (some y) = nI y.2.1 := rfl
        have s1 : eS (some y) = nI y.1 := rfl
        rw [k1, s1, if_neg (nI_m1 (by omega)), if_pos z4.1]
        by_cases d1 : y.1 < z.1 + N (33 + 12 * m + i)
        · rw [if_pos ((nI_ltI (by omega) (by omega)).mpr d1), ← z4.2]
          rw [← z4.2] at better
          exact better (some y) (by unfold bet; simp only; rw [if_pos (Or.inl d1)]) (by rw [z4.2]; exact ⟨c1, c2, c3⟩)
        · rw [if_neg (by rw [nI_ltI (by omega) (by omega)]; exact d1), if_pos z4.1]
          by_cases d2 : z.1 + N (33 + 12 * m + i) = y.1
          · rw [if_pos (by rw [d2]), if_pos z4.1]
            by_cases d3 : y.2.1 ≤ z.2.1 + 1
            · rw [if_pos ((nI_leI (by omega) (by omega)).mpr d3)]
              exact ⟨μ, rfl, fun _ _ _ _ => rfl, fun _ _ _ => rfl, worse (some y) (by unfold bet; simp only; rw [if_neg (by omega)]) ⟨c1, c2, c3⟩⟩
            · rw [if_neg (by rw [nI_leI (by omega) (by omega)]; exact d3), ← z4.2]
              rw [← z4.2] at better
              exact better (some y) (by unfold bet; simp only; rw [if_pos (Or.inr ⟨d2, by omega⟩)]) (by rw [z4.2]; exact ⟨c1, c2, c3⟩)
          · rw [if_neg (by rw [nI_eq (by omega) (by omega)]; exact d2)]
            exact ⟨μ, rfl, fun _ _ _ _ => rfl, fun _ _ _ => rfl, worse (some y) (by unfold bet; simp only; rw [if_neg (by omega)]) ⟨c1, c2, c3⟩⟩
    obtain ⟨μ', k1, k2, k3, k4⟩ := key
    obtain ⟨μ2, g1, g2, g3, g4⟩ := ih f (s + 1) μ' (by omega) (by omega) (hs.frame (fun a _ ha => k2 a (by omega) (by omega) (by omega))) (fun s2 a b => by
      obtain ⟨x1, x2, x3⟩ := he s2 (by omega) b
      exact ⟨by rw [k3 18 _ (by omega)]; exact x1, by rw [k3 19 _ (by omega)]; exact x2, by rw [k3 20 _ (by omega)]; exact x3⟩)
    refine ⟨μ2, k1.trans g1, fun a x y w => by rw [g2 a x y w, k2 a x y w], fun a j hj => by rw [g3 a j (by omega), k3 a j (by omega)], fun s2 a b => ?_⟩
    by_cases d : s2 = s
    · subst d
      obtain ⟨x1, x2, x3⟩ := k4
      exact ⟨by rw [g3 18 _ (by omega)]; exact x1, by rw [g3 19 _ (by omega)]; exact x2, by rw [g3 20 _ (by omega)]; exact x3⟩
    · exact g4 s2 (by omega) b
