theorem sumN_succ (h : Nat → Nat) (k : Nat) : sumN h (k + 1) = sumN h k + h k := rfl
theorem sum_add (b : Nat → Bool) (f g : Nat → Nat) : ∀ k, sumN (fun x => if b x = true then f x + g x else 0) k = sumN (fun x => if b x = true then f x else 0) k + sumN (fun x => if b x = true then g x else 0) k := by
  intro k
  induction k with
  | zero => rfl
  | succ k ih =>
    rw [sumN, sumN, sumN, ih]
    split <;> omega
theorem sum_delta (b : Nat → Bool) (c : Prop) (t : Nat) (hc : c ∨ ¬ c) (h : Nat → Nat) {j : Nat} (hj : ∀ x, h x = if b x = true ∧ x = j then t else 0) : ∀ k, sumN h k = if j < k ∧ b j = true then t else 0 := by
  intro k
  induction k with
  | zero => rw [sumN, if_neg (by omega)]
  | succ k ih =>
    rw [sumN, ih, hj k]
    by_cases d : k = j
    · subst d
      by_cases e : b k = true
      · rw [if_neg (by omega), if_pos ⟨e, rfl⟩, if_pos ⟨by omega, e⟩]; omega
      · rw [if_neg (by omega), if_neg (fun q => e q.1), if_neg (fun q => e q.2)]
    · rw [if_neg (show ¬ (b k = true ∧ k = j) from fun q => d q.2), Nat.add_zero]
      by_cases e : j < k ∧ b j = true
      · rw [if_pos e, if_pos ⟨by omega, e.2⟩]
      · rw [if_neg e, if_neg (fun q => e ⟨by omega, q.2⟩)]
theorem swap4 (N : Nat → Nat) (cut : Bool) (m : Option Nat) (p v : Nat) : ∀ k, (∀ i, i < k → N (9 + i) < 4) → sumN (fun x => if bitN v x = true then sumN (bsF N cut m p x) k else 0) 4 = sumN (fun i => if bitN v (N (9 + i)) = true ∧ LNn N cut p i ≠ 0 then wN N m i * OV N cut m (LNn N cut p i) (N (9 + i)) else 0) k := by
  intro k
  induction k with
  | zero => intro _; exact sumN_0 4 (fun i hi => by split <;> rfl)
  | succ k ih =>
    intro h
    have e1 : (fun x => if bitN v x = true then sumN (bsF N cut m p x) (k + 1) else 0) = (fun x => if bitN v x = true then sumN (bsF N cut m p x) k + bsF N cut m p x k else 0) := rfl
    rw [e1, sum_add, ih (fun i hi => h i (by omega)), sumN_succ _ k]
    congr 1
    by_cases c : LNn N cut p k = 0
    · rw [if_neg (fun q => q.2 c)]
      exact sumN_0 4 (fun x hx => by
        split
        · unfold bsF; rw [if_neg (fun q => q.2 c)]
        · rfl)
    · have := sum_delta (bitN v) True (wN N m k * OV N cut m (LNn N cut p k) (N (9 + k))) (Or.inl trivial) (fun x => if bitN v x = true then bsF N cut m p x k else 0) (j := N (9 + k)) (fun x => by
        by_cases d : bitN v x = true
        · rw [if_pos d]
          unfold bsF
          by_cases e : N (9 + k) = x
          · rw [if_pos ⟨e, c⟩, if_pos ⟨d, e.symm⟩]
          · rw [if_neg (fun q => e q.1), if_neg (fun q => e q.2.symm)]
        · rw [if_neg d, if_neg (fun q => d q.1)]) 4
      rw [this]
      have h4 := h k (by omega)
      by_cases d : bitN v (N (9 + k)) = true
      · rw [if_pos ⟨h4, d⟩, if_pos ⟨d, c⟩]
      · rw [if_neg (fun q => d q.2), if_neg (fun q => d q.1)]
theorem lpFillX {N : Nat → Nat} (c1 c2 : Int32) {v : Nat} (hv : v ≤ 15) (bs : Nat → Nat) (μ : Mm) (hb : ∀ x, x < 4 → μ.2 15 x = encL (bs x)) (K : Int64 → Mm → Option (Int32 × Mm)) : ∀ (t f x : Nat), x + t = 4 → t < f → lp_X2_fillPlace_28 c1 c2 (nI v) f (encL (sumN (fun x => if bitN v x = true then bs x else 0) x)) (nI x) μ K = K (encL (sumN (fun x => if bitN v x = true then bs x else 0) 4)) μ := by
  intro t
  induction t with
  | zero =>
    intro f x h1 h2
    obtain ⟨f, rfl⟩ : ∃ q, f = q + 1 := ⟨f - 1, by omega⟩
    rw [lp_X2_fillPlace_28, i4, if_pos ((nI_leI (by omega) (by omega)).mpr (by omega)), show x = 4 by omega]
  | succ t ih =>
    intro f x h1 h2
    obtain ⟨f, rfl⟩ : ∃ q, f = q + 1 := ⟨f - 1, by omega⟩
    rw [lp_X2_fillPlace_28, i4, if_neg (by rw [nI_leI (by omega) (by omega)]; omega), holdsC hv (by omega), bd_some, nI_1]
    have ih := ih f (x + 1) (by omega) (by omega)
    cases hbx : bitN v x with
    | false =>
      have es : sumN (fun x => if bitN v x = true then bs x else 0) (x + 1) = sumN (fun x => if bitN v x = true then bs x else 0) x := by
        rw [sumN_succ _ x, if_neg (by rw [hbx]; decide), Nat.add_zero]
      rw [if_pos (show bI false = 0 from rfl), ← ih, es]
    | true =>
      rw [if_neg (show ¬ bI true = 0 by decide), if_pos (zin_nI (by omega) (by omega)), nI_clamp (by omega), hb x (by omega), plusC, bd_some, ← ih, sumN_succ _ x, if_pos hbx]
theorem setAfterC {N : Nat → Nat} {μ : Mm} (hs : SR μ 1 N) {p s : Nat} (hp : p < 2 ^ 31) (h4 : s < 4) : f_X4_setAfter (nI p) (nI s) μ = some (nI (setP N p s), μ) := by
  have e : μ.1 9 s = nI (N (5 + s)) := hs.fol h4
  rw [f_X4_setAfter]
  unfold setP
  by_cases c : p = 0
  · rw [if_pos (by rw [c]; rfl), if_pos c, hs.beg]
  · rw [if_neg (by rw [iz0, nI_eq (by omega) (by omega)]; exact c), if_neg c, if_neg (nI_pos (by omega)), if_neg (by rw [i4, nI_leI (by omega) (by omega)]; omega), if_pos (zin_nI h4 (by omega)), nI_clamp (by omega), e]
theorem setP_le {B : Nat} {N : Nat → Nat} (hO : Ok B N) {p s : Nat} (h4 : s < 4) : setP N p s ≤ 15 := by
  unfold setP
  split
  · exact hO.2.1 3 (by omega) (by omega)
  · exact hO.2.1 (5 + s) (by omega) (by omega)
theorem lpFillS {B : Nat} {N : Nat → Nat} (hO : Ok B N) {cut : Bool} {m : Option Nat} (K : Mm → Option (Int32 × Mm)) {p : Nat} (hp : p < lastN N cut) : ∀ (t f s : Nat) (μ : Mm), s + t = 4 → t < f → SR μ 1 N → (∀ x, x < 4 → μ.2 15 x = encL (sumN (bsF N cut m p x) (N 0))) →
    ((∀ s2, s ≤ s2 → s2 < 4 → OV N cut m p s2 ≤ MX) ∧ ∃ μ2, lp_X2_fillPlace_7 (nI p) f (nI s) μ K = K μ2 ∧ μ2.1 = μ.1 ∧ (∀ a, a ≠ 14 → μ2.2 a = μ.2 a) ∧ (∀ j, (j < 4 * p + s ∨ 4 * p + 4 ≤ j) → μ2.2 14 j = μ.2 14 j) ∧ (∀ s2, s ≤ s2 → s2 < 4 → μ2.2 14 (4 * p + s2) = lN (OV N cut m p s2))) ∨
    ((∃ s2, s2 < 4 ∧ MX < OV N cut m p s2) ∧ ∃ μ2, lp_X2_fillPlace_7 (nI p) f (nI s) μ K = some (0, μ2) ∧ μ2.1 = μ.1) := by
  have hl := last_le hO cut
  have h12 := hO.1.1
  intro t
  induction t with
  | zero =>
    intro f s μ h1 h2 hs hb
    obtain ⟨f, rfl⟩ : ∃ q, f = q + 1 := ⟨f - 1, by omega⟩
    rw [lp_X2_fillPlace_7, i4, if_pos ((nI_leI (by omega) (by omega)).mpr (by omega))]
    exact Or.inl ⟨fun s2 a b => by omega, μ, rfl, rfl, fun _ _ => rfl, fun _ _ => rfl, fun s2 a b => by omega⟩
  | succ t ih =>
    intro f s μ h1 h2 hs hb
    obtain ⟨f, rfl⟩ : ∃ q, f = q + 1 := ⟨f - 1, by omega⟩
    have hv := setP_le hO (p := p) (show s < 4 by omega)
    have eo : sumN (fun x => if bitN (setP N p s) x = true then sumN (bsF N cut m p x) (N 0) else 0) 4 = OV N cut m p s := by
      rw [OV_step hO cut m hp, swap4 N cut m p (setP N p s) (N 0) (fun i hi => by have := hO.2.2.1 i (by omega); omega)]
    have e28 := lpFillX (N := N) (nI p) (nI s) hv (fun x => sumN (bsF N cut m p x) (N 0)) μ hb (fun x12 μ13 => if (0 : Int64) ≤ x12 then (if zin (((nI p) * (4 : Int32)) + nI s) 164 then (lp_X2_fillPlace_7 (nI p) f (nI (s + 1)) (sj μ13 14 ((((nI p) * (4 : Int32)) + nI s).toNatClampNeg) x12) K) else none) else (some ((0 : Int32), μ13))) 4 FU 0 (by omega) (by decide)
    rw [eo] at e28
    have e00 : encL (sumN (fun x => if bitN (setP N p s) x = true then sumN (bsF N cut m p x) (N 0) else 0) 0) = 0 := (show encL 0 = 0 by decide +kernel)
    rw [e00, ← iz0] at e28
    rw [lp_X2_fillPlace_7, i4, if_neg (by rw [nI_leI (by omega) (by omega)]; omega), setAfterC hs (by omega) (by omega), bd_some, nI_1, ← i4, e28]
    by_cases c : OV N cut m p s ≤ MX
    · rw [if_pos (encL_nn.mpr c), i4, pk_mul, nI_add, if_pos (zin_nI (by omega) (by omega)), nI_clamp (by omega), encL_le c, show p * 4 + s = 4 * p + s by omega]
      rcases ih f (s + 1) (sj μ 14 (4 * p + s) (lN (OV N cut m p s))) (by omega) (by omega) hs (fun x hx => by rw [(sj_ne 15 (by omega)).2]; exact hb x hx) with ⟨q1, μ2, q2, q3, q4, q5, q6⟩ | ⟨q1, μ2, q2, q3⟩
      · refine Or.inl ⟨fun s2 a b => ?_, μ2, q2, q3, fun a ha => by rw [q4 a ha, (sj_ne a ha).2], fun j hj => by rw [q5 j (by omega), sj_rd, if_neg (by omega)], fun s2 a b => ?_⟩
        · by_cases d : s2 = s
          · rw [d]; exact c
          · exact q1 s2 (by omega) b
        · by_cases d : s2 = s
          · rw [d, q5 _ (by omega), sj_rd, if_pos ⟨rfl, rfl⟩]
          · exact q6 s2 (by omega) b
      · exact Or.inr ⟨q1, μ2, q2, q3⟩
    · rw [if_neg (by rw [encL_nn]; exact c)]
      exact Or.inr ⟨⟨s, by omega, by omega⟩, μ, rfl, rfl⟩
theorem fill0 (μ : Mm) : ∃ μ2, f_J7_fill_d0a16 0 μ = some ((), μ2) ∧ μ2.1 = μ.1 ∧ (∀ a, a ≠ 15 → μ2.2 a = μ.2 a) ∧ ∀ x, x < 4 → μ2.2 15 x = 0 := by
  refine ⟨sj (sj (sj (sj μ 15 0 0) 15 1 0) 15 2 0) 15 3 0, ?_, rfl, fun a ha => ?_, fun x hx => ?_⟩
  · have eF : FU = 995 + 1 + 1 + 1 + 1 + 1 := rfl
    rw [f_J7_fill_d0a16, eF, lp_J7_fill_d0a16_6, if_neg (by decide +kernel), if_pos (by decide +kernel), lp_J7_fill_d0a16_6, if_neg (by decide +kernel), if_pos (by decide +kernel), lp_J7_fill_d0a16_6, if_neg (by decide +kernel), if_pos (by decide +kernel), lp_J7_fill_d0a16_6, if_neg (by decide +kernel), if_pos (by decide +kernel), lp_J7_fill_d0a16_6, if_pos (by decide +kernel)]
    rfl
  · rw [(sj_ne a ha).2, (sj_ne a ha).2, (sj_ne a ha).2, (sj_ne a ha).2]
  · rcases (show x = 0 ∨ x = 1 ∨ x = 2 ∨ x = 3 by omega) with rfl | rfl | rfl | rfl <;> simp [sj_rd]
theorem fillC {B : Nat} {N : Nat → Nat} (hO : Ok B N) (hB : B < 2 ^ 30) {cut : Bool} {m : Option Nat} (hm : okm m) {p : Nat} (hp : p < lastN N cut) {μ : Mm} (hs : SR μ 1 N) (hd : LD μ N cut) (hk : μ.1 13 6 = mk m) (hc : COn μ N cut m p) :
    ((∀ s, s < 4 → OV N cut m p s ≤ MX) ∧ ∃ μ2, f_X2_fillPlace (nI p) μ = some (1, μ2) ∧ μ2.1 = μ.1 ∧ (∀ q, p ≤ q → q ≤ lastN N cut → ∀ s, s < 4 → OV N cut m q s ≤ MX ∧ μ2.2 14 (4 * q + s) = lN (OV N cut m q s)) ∧ ∀ a, a ≠ 14 → a ≠ 15 → μ2.2 a = μ.2 a) ∨
    ((∃ s, s < 4 ∧ MX < OV N cut m p s) ∧ ∃ μ2, f_X2_fillPlace (nI p) μ = some (0, μ2) ∧ μ2.1 = μ.1) := by
  have h12 := hO.1.1
  obtain ⟨μa, ea, a1, a2, a3⟩ := fill0 μ
  have sa : SR μa 1 N := hs.frame (fun a _ _ => by rw [a1])
  have da : LD μa N cut := by unfold LD at *; rw [a1]; exact hd
  obtain ⟨μb, eb, b1, b2, b3⟩ := lpGather hO hB hm (fun μ13 => some ((), μ13)) hp (N 0) FU 0 μa (by omega) (by unfold FU; omega) sa da (by rw [a1]; exact hk) (fun q x y s hs => by rw [a2 14 (by omega)]; exact hc q x y s hs) (fun x hx => by rw [a3 x hx]; rfl)
  rw [← iz0] at eb
  have eg : f_X2_gatherBySlot (nI p) μ = some ((), μb) := by rw [f_X2_gatherBySlot, ea, bd_some, eb]
  have sb : SR μb 1 N := sa.frame (fun a _ _ => by rw [b1])
  rcases lpFillS hO (cut := cut) (m := m) (fun μ15 => some ((1 : Int32), μ15)) hp 4 FU 0 μb (by omega) (by decide) sb b3 with ⟨q1, μ2, q2, q3, q4, q5, q6⟩ | ⟨q1, μ2, q2, q3⟩
  · rw [← iz0] at q2
    refine Or.inl ⟨fun s hs => q1 s (by omega) hs, μ2, by rw [f_X2_fillPlace, eg, bd_some, q2], by rw [q3, b1, a1], fun q x y s hs => ?_, fun a x y => by rw [q4 a x, b2 a y, a2 a y]⟩
    by_cases c : q = p
    · subst c
      exact ⟨q1 s (by omega) hs, q6 s (by omega) hs⟩
    · have := hc q (by omega) y s hs
      refine ⟨this.1, ?_⟩
      rw [q5 _ (by omega), b2 14 (by omega), a2 14 (by omega)]
      exact this.2
  · rw [← iz0] at q2
    exact Or.inr ⟨q1, μ2, by rw [f_X2_fillPlace, eg, bd_some, q2], by rw [q3, b1, a1]⟩
