/-! counting: the numbers ON of places and slots -/
def sumN (h : Nat → Nat) : Nat → Nat
  | 0 => 0
  | k + 1 => sumN h k + h k
theorem sumN_congr {h g : Nat → Nat} : ∀ k, (∀ i, i < k → h i = g i) → sumN h k = sumN g k := by
  intro k
  induction k with
  | zero => intro _; rfl
  | succ k ih =>
    intro e
    rw [sumN, sumN, ih (fun i hi => e i (by omega)), e k (by omega)]
theorem sumN_0 {h : Nat → Nat} : ∀ k, (∀ i, i < k → h i = 0) → sumN h k = 0 := by
  intro k
  induction k with
  | zero => intro _; rfl
  | succ k ih =>
    intro e
    rw [sumN, ih (fun i hi => e i (by omega)), e k (by omega)]
theorem sumN_mono {h : Nat → Nat} {j k : Nat} (hjk : j ≤ k) : sumN h j ≤ sumN h k := by
  induction k with
  | zero => rw [show j = 0 by omega]; exact Nat.le_refl _
  | succ k ih =>
    by_cases c : j = k + 1
    · rw [c]; exact Nat.le_refl _
    · rw [sumN]
      have := ih (by omega)
      omega
def MX : Nat := 9223372036854775807
def wN (N : Nat → Nat) (m : Option Nat) (i : Nat) : Nat := match m with
  | none => 1
  | some m => N (33 + 12 * m + i) + 1
def mk (m : Option Nat) : Int32 := match m with
  | none => -1
  | some m => nI m
def okm (m : Option Nat) : Prop := ∀ z, m = some z → z < 3
def setP (N : Nat → Nat) (p s : Nat) : Nat := if p = 0 then N 3 else N (5 + s)
def bitN (v s : Nat) : Bool := decide (v / 2 ^ s % 2 = 1)
def endB (N : Nat → Nat) (s : Nat) : Nat := N 4 / 2 ^ s % 2
def ovF (N : Nat → Nat) (cut : Bool) (m : Option Nat) : Nat → Nat → Nat → Nat
  | 0, _, _ => 0
  | f + 1, p, s => if p = lastN N cut then endB N s else sumN (fun i => if bitN (setP N p s) (N (9 + i)) = true ∧ LNn N cut p i ≠ 0 then wN N m i * ovF N cut m f (LNn N cut p i) (N (9 + i)) else 0) (N 0)
def OV (N : Nat → Nat) (cut : Bool) (m : Option Nat) (p s : Nat) : Nat := ovF N cut m 41 p s
theorem LN_gt {B : Nat} {N : Nat → Nat} (hO : Ok B N) {cut : Bool} {p i : Nat} (hi : i < N 0) (h : LNn N cut p i ≠ 0) : LNn N cut p i = tgN N cut p i ∧ p < LNn N cut p i ∧ LNn N cut p i ≤ lastN N cut ∧ brN N cut p = false := by
  unfold LNn at *
  by_cases c : brN N cut p = true
  · rw [if_pos c] at h; exact absurd rfl h
  · rw [if_neg c] at h ⊢
    have := tg_gt hO hi h
    exact ⟨rfl, this.1, this.2, by simpa using c⟩
theorem ovF_stable {B : Nat} {N : Nat → Nat} (hO : Ok B N) (cut : Bool) (m : Option Nat) : ∀ f f2 p s, lastN N cut - p < f → lastN N cut - p < f2 → ovF N cut m f p s = ovF N cut m f2 p s := by
  intro f
  induction f with
  | zero => intro f2 p s h; omega
  | succ f ih =>
    intro f2 p s h1 h2
    obtain ⟨f2, rfl⟩ : ∃ q, f2 = q + 1 := ⟨f2 - 1, by omega⟩
    rw [ovF, ovF]
    by_cases c : p = lastN N cut
    · rw [if_pos c, if_pos c]
    · rw [if_neg c, if_neg c]
      refine sumN_congr _ (fun i hi => ?_)
      by_cases d : bitN (setP N p s) (N (9 + i)) = true ∧ LNn N cut p i ≠ 0
      · rw [if_pos d, if_pos d]
        have := LN_gt hO hi d.2
        rw [ih f2 (LNn N cut p i) (N (9 + i)) (by omega) (by omega)]
      · rw [if_neg d, if_neg d]
theorem last_le {B : Nat} {N : Nat → Nat} (hO : Ok B N) (cut : Bool) : lastN N cut ≤ 40 := by
  unfold lastN
  have := hO.1.2.1
  have := hO.1.2.2.2
  split <;> omega
theorem OV_last (N : Nat → Nat) (cut : Bool) (m : Option Nat) (s : Nat) : OV N cut m (lastN N cut) s = endB N s := by
  unfold OV
  rw [ovF, if_pos rfl]
theorem OV_step {B : Nat} {N : Nat → Nat} (hO : Ok B N) (cut : Bool) (m : Option Nat) {p s : Nat} (hp : p < lastN N cut) : OV N cut m p s = sumN (fun i => if bitN (setP N p s) (N (9 + i)) = true ∧ LNn N cut p i ≠ 0 then wN N m i * OV N cut m (LNn N cut p i) (N (9 + i)) else 0) (N 0) := by
  have hl := last_le hO cut
  unfold OV
  rw [ovF, if_neg (by omega)]
  refine sumN_congr _ (fun i hi => ?_)
  by_cases d : bitN (setP N p s) (N (9 + i)) = true ∧ LNn N cut p i ≠ 0
  · rw [if_pos d, if_pos d]
    have := LN_gt hO hi d.2
    rw [ovF_stable hO cut m 40 41 (LNn N cut p i) (N (9 + i)) (by omega) (by omega)]
  · rw [if_neg d, if_neg d]
theorem OV_br {B : Nat} {N : Nat → Nat} (hO : Ok B N) (cut : Bool) (m : Option Nat) {p s : Nat} (hp : p < lastN N cut) (hb : brN N cut p = true) : OV N cut m p s = 0 := by
  rw [OV_step hO cut m hp]
  refine sumN_0 _ (fun i hi => ?_)
  rw [if_neg]
  rintro ⟨-, q⟩
  exact q (by unfold LNn; rw [if_pos hb])
def encL (x : Nat) : Int64 := if x ≤ MX then lN x else -5
theorem encL_le {x : Nat} (h : x ≤ MX) : encL x = lN x := if_pos h
theorem mx64 : (9223372036854775807 : Int64) = lN MX := by decide +kernel
theorem encL_neg {x : Nat} : encL x < 0 ↔ MX < x := by
  unfold encL
  by_cases h : x ≤ MX
  · rw [if_pos h, l0, pk_lLT (by unfold MX at h; omega) (by omega)]
    omega
  · rw [if_neg h]
    exact ⟨fun _ => by omega, fun _ => by decide +kernel⟩
theorem encL_nn {x : Nat} : 0 ≤ encL x ↔ x ≤ MX := by
  unfold encL
  by_cases h : x ≤ MX
  · rw [if_pos h, l0, pk_lLE (by omega) (by unfold MX at h; omega)]
    omega
  · rw [if_neg h]
    exact ⟨fun q => absurd q (by decide +kernel), fun q => absurd q h⟩
theorem plusC (a b : Nat) (μ : Mm) : f_X2_plus (encL a) (encL b) μ = some (encL (a + b), μ) := by
  unfold f_X2_plus
  by_cases h : a ≤ MX
  · rw [if_neg (by rw [encL_neg]; omega)]
    by_cases h2 : b ≤ MX
    · rw [if_pos (encL_nn.mpr h2), encL_le h, encL_le h2, mx64, lN_sub h2, lN_add]
      by_cases c : a + b ≤ MX
      · rw [if_pos ((pk_lLE (by unfold MX at *; omega) (by unfold MX at *; omega)).mpr (by omega)), encL_le c]
      · rw [if_neg (by rw [pk_lLE (by unfold MX at *; omega) (by unfold MX at *; omega)]; omega)]
        unfold encL
        rw [if_neg c]
    · rw [if_neg (by rw [encL_nn]; exact h2)]
      have c : ¬ a + b ≤ MX := by omega
      unfold encL
      rw [if_neg c]
  · rw [if_pos (encL_neg.mpr (by omega))]
    have c : ¬ a + b ≤ MX := by omega
    unfold encL
    rw [if_neg c]
theorem timesC {f a : Nat} (hf : 1 ≤ f) (hf2 : f < 2 ^ 31) (ha : a ≤ MX) (μ : Mm) : f_X2_times (lN f) (lN a) μ = some (encL (f * a), μ) := by
  unfold f_X2_times
  rw [if_neg (by rw [l1, pk_lLT (by omega) (by omega)]; omega)]
  by_cases h0 : 1 ≤ a
  · rw [if_pos (by rw [l1]; exact (pk_lLE (by omega) (by unfold MX at ha; omega)).mpr h0), if_pos (by rw [l0, pk_lEQ (by omega) (by omega)]; omega), mx64, pk_lDiv (by unfold MX; omega) (by omega) (by omega), lN_mul]
    have hd : MX / f ≤ MX := Nat.div_le_self _ _
    have hi : a ≤ MX / f ↔ f * a ≤ MX := by rw [Nat.le_div_iff_mul_le (by omega), Nat.mul_comm]
    by_cases c : f * a ≤ MX
    · rw [if_pos ((pk_lLE (by unfold MX at *; omega) (by unfold MX at *; omega)).mpr (hi.mpr c)), encL_le c]
    · rw [if_neg (by rw [pk_lLE (by unfold MX at *; omega) (by unfold MX at *; omega), hi]; exact c)]
      unfold encL
      rw [if_neg c]
  · rw [if_neg (by rw [l1, pk_lLE (by omega) (by unfold MX at ha; omega)]; exact h0), show a = 0 by omega, Nat.mul_zero]
    rfl
theorem bit_dec : ∀ v, v < 16 → ∀ s, s < 4 → ((((nI v) >>> ((nI s) &&& 31)) &&& (1 : Int32)) = nI (v / 2 ^ s % 2)) := by
  have h : (List.range 16).all (fun v => (List.range 4).all (fun s => decide ((((nI v) >>> ((nI s) &&& 31)) &&& (1 : Int32)) = nI (v / 2 ^ s % 2)))) = true := by decide +kernel
  intro v hv s hs
  exact of_decide_eq_true (List.all_eq_true.mp (List.all_eq_true.mp h v (List.mem_range.mpr hv)) s (List.mem_range.mpr hs))
theorem holdsC {v s : Nat} (hv : v ≤ 15) (hs : s < 4) (μ : Mm) : f_X6_holds (nI v) (nI s) μ = some (bI (bitN v s), μ) := by
  rw [f_X6_holds, bit_dec v (by omega) s hs]
  unfold bitN
  by_cases c : v / 2 ^ s % 2 = 1
  · rw [if_pos (by rw [c]; decide +kernel), decide_eq_true c]; rfl
  · rw [if_neg (by rw [i1, nI_eq (by omega) (by omega)]; exact c), decide_eq_false c]; rfl
theorem hasM {v s : Nat} (hv : v ≤ 15) (hs : s < 4) (μ : Mm) : f_X7_has (nI v) (nI s) μ = some (bI (bitN v s), μ) := by
  rw [f_X7_has, bit_dec v (by omega) s hs]
  unfold bitN
  by_cases c : v / 2 ^ s % 2 = 1
  · rw [if_pos (by rw [c]; decide +kernel), decide_eq_true c]; rfl
  · rw [if_neg (by rw [i1, nI_eq (by omega) (by omega)]; exact c), decide_eq_false c]; rfl
theorem wN_b {B : Nat} {N : Nat → Nat} (hO : Ok B N) (hB : B < 2 ^ 30) {m : Option Nat} (hm : okm m) {i : Nat} (hi : i < 12) : 1 ≤ wN N m i ∧ wN N m i < 2 ^ 31 := by
  cases m with
  | none => exact ⟨Nat.le_refl 1, show (1 : Nat) < 2 ^ 31 by decide⟩
  | some m =>
    have := hm m rfl
    have := hO.2.2.2.2.2.1 (12 * m + i) (by omega)
    rw [show 33 + (12 * m + i) = 33 + 12 * m + i by omega] at this
    unfold wN
    simp only
    omega
theorem factC {B : Nat} {N : Nat → Nat} (hO : Ok B N) (hB : B < 2 ^ 30) {μ : Mm} (hs : SR μ 1 N) {m : Option Nat} (hm : okm m) {i : Nat} (hi : i < 12) : f_X4_factorOf (mk m) (nI i) μ = some (lN (wN N m i), μ) := by
  cases m with
  | none => rw [f_X4_factorOf, if_pos (show mk none = -1 from rfl)]; rfl
  | some m =>
    have hm3 := hm m rfl
    have hb := (wN_b hO hB hm hi).2
    have hb : N (33 + 12 * m + i) + 1 < 2 ^ 31 := hb
    rw [f_X4_factorOf, if_neg (by intro q; have q : nI m = -1 := q; have : nI m < 0 := by rw [q]; decide +kernel
                                  exact nI_pos (by omega) this), show mk (some m) = nI m from rfl, habC hs hm3 hi, bd_some, nI_l (by omega), lN_1]
    rfl
theorem weightM {B : Nat} {N : Nat → Nat} (hO : Ok B N) (hB : B < 2 ^ 30) {μ : Mm} (hs : MR μ N) {m : Option Nat} (hm : okm m) {i : Nat} (hi : i < 12) : f_X7_weightOf (mk m) (nI i) μ = some (nI (wN N m i), μ) := by
  cases m with
  | none => rw [f_X7_weightOf, if_neg (by decide +kernel)]; rfl
  | some m =>
    have hm3 := hm m rfl
    rw [f_X7_weightOf, show mk (some m) = nI m from rfl, if_pos (nI_pos' (by omega)), habM hs hm3 hi, bd_some, nI_1]
    rfl
theorem landC {B : Nat} {N : Nat → Nat} (hO : Ok B N) {cut : Bool} {μ : Mm} (hd : LD μ N cut) {p i : Nat} (hp : p < lastN N cut) (hi : i < N 0) : f_X0_landingOf (nI p) (nI i) μ = some (nI (LNn N cut p i), μ) := by
  have hl := last_le hO cut
  have h12 := hO.1.1
  rw [f_X0_landingOf, i12, pk_mul, nI_add, if_neg (nI_pos (by omega)), if_neg (by rw [show (492 : Int32) = nI 492 by decide +kernel, nI_leI (by omega) (by omega)]; omega), if_pos (zin_nI (by omega) (by omega)), nI_clamp (by omega), show p * 12 + i = 12 * p + i by omega, hd.2 p hp i hi]
theorem LN_le {B : Nat} {N : Nat → Nat} (hO : Ok B N) {cut : Bool} {p i : Nat} (hi : i < N 0) : LNn N cut p i ≤ 40 := by
  have hl := last_le hO cut
  by_cases c : LNn N cut p i = 0
  · omega
  · have := LN_gt hO hi c
    omega
/-- what a place gives to a slot -/
def bsF (N : Nat → Nat) (cut : Bool) (m : Option Nat) (p x : Nat) (i : Nat) : Nat := if N (9 + i) = x ∧ LNn N cut p i ≠ 0 then wN N m i * OV N cut m (LNn N cut p i) (N (9 + i)) else 0
def COn (μ : Mm) (N : Nat → Nat) (cut : Bool) (m : Option Nat) (p : Nat) : Prop := ∀ q, p < q → q ≤ lastN N cut → ∀ s, s < 4 → OV N cut m q s ≤ MX ∧ μ.2 14 (4 * q + s) = lN (OV N cut m q s)
theorem lpGather {B : Nat} {N : Nat → Nat} (hO : Ok B N) (hB : B < 2 ^ 30) {cut : Bool} {m : Option Nat} (hm : okm m) (K : Mm → Option (Unit × Mm)) {p : Nat} (hp : p < lastN N cut) : ∀ (t f i : Nat) (μ : Mm), i + t = N 0 → t < f → SR μ 1 N → LD μ N cut → μ.1 13 6 = mk m → COn μ N cut m p → (∀ x, x < 4 → μ.2 15 x = encL (sumN (bsF N cut m p x) i)) → ∃ μ2, lp_X2_gatherBySlot_10 (nI p) f (nI i) μ K = K μ2 ∧ μ2.1 = μ.1 ∧ (∀ a, a ≠ 15 → μ2.2 a = μ.2 a) ∧ (∀ x, x < 4 → μ2.2 15 x = encL (sumN (bsF N cut m p x) (N 0))) := by
  have hl := last_le hO cut
  have h12 := hO.1.1
  intro t
  induction t with
  | zero =>
    intro f i μ h1 h2 hs hd hk hc hb
    obtain ⟨f, rfl⟩ : ∃ q, f = q + 1 := ⟨f - 1, by omega⟩
    rw [lp_X2_gatherBySlot_10, hs.cnt, if_pos ((nI_leI (by omega) (by omega)).mpr (by omega))]
    exact ⟨μ, rfl, rfl, fun _ _ => rfl, fun x hx => by rw [hb x hx, show i = N 0 by omega]⟩
  | succ t ih =>
    intro f i μ h1 h2 hs hd hk hc hb
    obtain ⟨f, rfl⟩ : ∃ q, f = q + 1 := ⟨f - 1, by omega⟩
    have hsl := hO.2.2.1 i (by omega)
    have e2 : μ.1 2 i = nI (N (9 + i)) := hs.slo (by omega)
    have hLe := LN_le hO (cut := cut) (p := p) (show i < N 0 by omega)
    rw [lp_X2_gatherBySlot_10, hs.cnt, if_neg (by rw [nI_leI (by omega) (by omega)]; omega), landC hO hd hp (by omega), bd_some, nI_1]
    by_cases c : LNn N cut p i = 0
    · rw [if_pos ((le0_iff (by omega)).mpr c)]
      exact ih f (i + 1) μ (by omega) (by omega) hs hd hk hc (fun x hx => by
        rw [hb x hx, sumN, show bsF N cut m p x i = 0 by unfold bsF; rw [if_neg (fun q => q.2 c)], Nat.add_zero])
    · have hg := LN_gt hO (show i < N 0 by omega) c
      obtain ⟨o1, o2⟩ := hc (LNn N cut p i) hg.2.1 hg.2.2.1 (N (9 + i)) (by omega)
      have hw := wN_b hO hB hm (show i < 12 by omega)
      rw [if_neg (by rw [le0_iff (by omega)]; exact c), if_pos (zin_nI (by omega) (by omega)), nI_clamp (by omega), e2, if_pos (zin_nI (by omega) (by omega)), hk, factC hO hB hs hm (by omega), bd_some, i4, pk_mul, nI_add, if_pos (zin_nI (by omega) (by omega)), nI_clamp (by omega), nI_clamp (by omega), show LNn N cut p i * 4 + N (9 + i) = 4 * LNn N cut p i + N (9 + i) by omega, o2, timesC hw.1 hw.2 o1, bd_some, hb _ (by omega), plusC, bd_some, if_pos (zin_nI (by omega) (by omega))]
      obtain ⟨μ2, r1, r2, r3, r4⟩ := ih f (i + 1) (sj μ 15 (N (9 + i)) (encL (sumN (bsF N cut m p (N (9 + i))) i + wN N m i * OV N cut m (LNn N cut p i) (N (9 + i))))) (by omega) (by omega) hs hd hk (fun q a b s hs => by rw [(sj_ne 14 (by omega)).2]; exact hc q a b s hs) (fun x hx => by
        rw [sj_rd, sumN]
        by_cases d : x = N (9 + i)
        · rw [if_pos ⟨rfl, d⟩, d, show bsF N cut m p (N (9 + i)) i = wN N m i * OV N cut m (LNn N cut p i) (N (9 + i)) by unfold bsF; rw [if_pos ⟨rfl, c⟩]]
        · rw [if_neg (fun q => d q.2), hb x hx, show bsF N cut m p x i = 0 by unfold bsF; rw [if_neg (fun q => d q.1.symm)], Nat.add_zero])
      exact ⟨μ2, r1, r2, fun a ha => by rw [r3 a ha, (sj_ne a ha).2], r4⟩
