def AllLe (N : Nat → Nat) (cut : Bool) (m : Option Nat) : Prop := ∀ p, p < lastN N cut → ∀ s, s < 4 → OV N cut m p s ≤ MX
def cnt0 (N : Nat → Nat) (cut : Bool) (m : Option Nat) : Nat := if lastN N cut = 0 then 0 else OV N cut m 0 0
def Tab (on : Nat → Int64) (N : Nat → Nat) (cut : Bool) (m : Option Nat) (p : Nat) : Prop := ∀ q, p ≤ q → q ≤ lastN N cut → ∀ s, s < 4 → OV N cut m q s ≤ MX ∧ on (4 * q + s) = lN (OV N cut m q s)
theorem endB_le (N : Nat → Nat) (s : Nat) : endB N s ≤ 1 := by unfold endB; omega
theorem lpEnd {B : Nat} {N : Nat → Nat} (hO : Ok B N) {cut : Bool} (K : Mm → Option (Int64 × Mm)) : ∀ (t f s : Nat) (μ : Mm), s + t = 4 → t < f → SR μ 1 N → LD μ N cut → ∃ μ2, lp_X2_countAll_20 f (nI s) μ K = K μ2 ∧ μ2.1 = μ.1 ∧ (∀ a, a ≠ 14 → μ2.2 a = μ.2 a) ∧ (∀ j, j < 4 * lastN N cut + s → μ2.2 14 j = μ.2 14 j) ∧ (∀ s2, s ≤ s2 → s2 < 4 → μ2.2 14 (4 * lastN N cut + s2) = lN (endB N s2)) := by
  have hl := last_le hO cut
  have h4 := hO.2.1 4 (by omega) (by omega)
  intro t
  induction t with
  | zero =>
    intro f s μ h1 h2 hs hd
    obtain ⟨f, rfl⟩ : ∃ q, f = q + 1 := ⟨f - 1, by omega⟩
    rw [lp_X2_countAll_20, i4, if_pos ((nI_leI (by omega) (by omega)).mpr (by omega))]
    exact ⟨μ, rfl, rfl, fun _ _ => rfl, fun _ _ => rfl, fun s2 a b => by omega⟩
  | succ t ih =>
    intro f s μ h1 h2 hs hd
    obtain ⟨f, rfl⟩ : ∃ q, f = q + 1 := ⟨f - 1, by omega⟩
    have key : lp_X2_countAll_20 (f + 1) (nI s) μ K = lp_X2_countAll_20 f (nI (s + 1)) (sj μ 14 (4 * lastN N cut + s) (lN (endB N s))) K := by
      rw [lp_X2_countAll_20, i4, if_neg (by rw [nI_leI (by omega) (by omega)]; omega), hs.ens, holdsC h4 (by omega), bd_some, hd.1, pk_mul, nI_add, if_pos (zin_nI (by omega) (by omega)), if_pos (zin_nI (by omega) (by omega)), nI_clamp (by omega), nI_1, show lastN N cut * 4 + s = 4 * lastN N cut + s by omega]
      unfold bitN endB
      by_cases c : N 4 / 2 ^ s % 2 = 1
      · rw [decide_eq_true c, if_neg (show ¬ bI true = 0 by decide), c]; rfl
      · rw [decide_eq_false c, if_pos (show bI false = 0 from rfl), show N 4 / 2 ^ s % 2 = 0 by omega]; rfl
    rw [key]
    obtain ⟨μ2, q1, q2, q3, q4, q5⟩ := ih f (s + 1) (sj μ 14 (4 * lastN N cut + s) (lN (endB N s))) (by omega) (by omega) hs hd
    refine ⟨μ2, q1, q2, fun a ha => by rw [q3 a ha, (sj_ne a ha).2], fun j hj => by rw [q4 j (by omega), sj_rd, if_neg (by omega)], fun s2 a b => ?_⟩
    by_cases c : s2 = s
    · rw [c, q4 _ (by omega), sj_rd, if_pos ⟨rfl, rfl⟩]
    · exact q5 s2 (by omega) b
theorem lpCnt {B : Nat} {N : Nat → Nat} (hO : Ok B N) (hB : B < 2 ^ 30) {cut : Bool} {m : Option Nat} (hm : okm m) (K : Mm → Option (Int64 × Mm)) : ∀ (t f : Nat) (μ : Mm), t ≤ lastN N cut → t < f → SR μ 1 N → LD μ N cut → μ.1 13 6 = mk m → Tab (μ.2 14) N cut m t →
    ((∀ p, p < t → ∀ s, s < 4 → OV N cut m p s ≤ MX) → ∃ μ2, lp_X2_countAll_76 f (nI t + -1) μ K = K μ2 ∧ μ2.1 = μ.1 ∧ Tab (μ2.2 14) N cut m 0) ∧
    ((¬ ∀ p, p < t → ∀ s, s < 4 → OV N cut m p s ≤ MX) → ∃ μ2, lp_X2_countAll_76 f (nI t + -1) μ K = some (-5, μ2) ∧ μ2.1 = μ.1) := by
  have hl := last_le hO cut
  intro t
  induction t with
  | zero =>
    intro f μ h1 h2 hs hd hk hT
    obtain ⟨f, rfl⟩ : ∃ q, f = q + 1 := ⟨f - 1, by omega⟩
    rw [lp_X2_countAll_76, if_pos (by decide +kernel)]
    exact ⟨fun _ => ⟨μ, rfl, rfl, hT⟩, fun q => absurd (fun p hp => absurd hp (Nat.not_lt_zero p)) q⟩
  | succ t ih =>
    intro f μ h1 h2 hs hd hk hT
    obtain ⟨f, rfl⟩ : ∃ q, f = q + 1 := ⟨f - 1, by omega⟩
    rw [lp_X2_countAll_76, pk_m1, if_neg (nI_pos (by omega))]
    rcases fillC hO hB hm (show t < lastN N cut by omega) hs hd hk (fun q a b => hT q (by omega) b) with ⟨a1, μa, a2, a3, a4, a5⟩ | ⟨⟨s, s1, s2⟩, μa, a2, a3⟩
    · rw [a2, bd_some, if_neg (by decide)]
      have := ih f μa (by omega) (by omega) (hs.frame (fun a _ _ => by rw [a3])) (by unfold LD at *; rw [a3]; exact hd) (by rw [a3]; exact hk) a4
      constructor
      · intro q
        obtain ⟨μ2, q1, q2, q3⟩ := this.1 (fun p hp => q p (by omega))
        exact ⟨μ2, q1, by rw [q2, a3], q3⟩
      · intro q
        obtain ⟨μ2, q1, q2⟩ := this.2 (fun r => q (fun p hp => by
          by_cases c : p = t
          · rw [c]; exact a1
          · exact r p (by omega)))
        exact ⟨μ2, q1, by rw [q2, a3]⟩
    · rw [a2, bd_some, if_pos rfl]
      constructor
      · intro q
        have := q t (by omega) s s1
        omega
      · intro _
        exact ⟨μa, rfl, a3⟩
theorem countC {B : Nat} {N : Nat → Nat} (hO : Ok B N) (hB : B < 2 ^ 30) {cut : Bool} {m : Option Nat} (hm : okm m) {μ : Mm} (hs : SR μ 1 N) (hd : LD μ N cut) :
    (AllLe N cut m → ∃ μ2, f_X2_countAll (mk m) μ = some (lN (cnt0 N cut m), μ2) ∧ (∀ a, a ≠ 13 → μ2.1 a = μ.1 a) ∧ μ2.1 13 6 = mk m ∧ (lastN N cut ≠ 0 → Tab (μ2.2 14) N cut m 0)) ∧
    (¬ AllLe N cut m → ∃ μ2, f_X2_countAll (mk m) μ = some (-5, μ2) ∧ ∀ a, a ≠ 13 → μ2.1 a = μ.1 a) := by
  have hl := last_le hO cut
  rw [f_X2_countAll, hd.1]
  by_cases c : lastN N cut = 0
  · rw [if_neg (by rw [c]; decide +kernel)]
    constructor
    · intro _
      refine ⟨_, ?_, fun a ha => si_ne1 ha, by rw [si_rd, if_pos ⟨rfl, rfl⟩], fun q => absurd c q⟩
      unfold cnt0
      rw [if_pos c]
      rfl
    · intro q
      exact absurd (fun p hp => by omega) q
  · rw [if_pos (by rw [i1]; exact (nI_leI (by omega) (by omega)).mpr (by omega))]
    obtain ⟨μa, a1, a2, a3, a4, a5⟩ := lpEnd hO (cut := cut) (fun μ6 => lp_X2_countAll_76 FU ((μ6.1 10 3) - (1 : Int32)) μ6 (fun μ11 => some (μ11.2 14 0, μ11))) 4 FU 0 (si μ 13 6 (mk m)) (by omega) (by decide) (hs.frame (fun a _ ha => si_ne1 (by omega))) (by unfold LD at *; rw [si_ne1 (by omega), si_ne1 (by omega)]; exact hd)
    rw [← iz0] at a1
    have e10 : μa.1 10 3 = nI (lastN N cut) := by rw [a2, si_ne1 (by omega)]; exact hd.1
    have em : nI (lastN N cut) - 1 = nI (lastN N cut) + -1 := by
      obtain ⟨z, hz⟩ : ∃ z, lastN N cut = z + 1 := ⟨lastN N cut - 1, by omega⟩
      rw [hz, pk_m1, nI_pred]
    rw [a1, e10, em]
    have hT : Tab (μa.2 14) N cut m (lastN N cut) := fun q x y s hs => by
      have : q = lastN N cut := by omega
      subst this
      have h1 := endB_le N s
      rw [OV_last]
      exact ⟨by unfold MX; omega, a5 s (by omega) hs⟩
    have main := lpCnt hO hB hm (fun μ11 => some (μ11.2 14 0, μ11)) (lastN N cut) FU μa (Nat.le_refl _) (by unfold FU; omega) (hs.frame (fun a _ ha => by rw [a2, si_ne1 (by omega)])) (by unfold LD at *; rw [a2, si_ne1 (by omega), si_ne1 (by omega)]; exact hd) (by rw [a2, si_rd, if_pos ⟨rfl, rfl⟩]) hT
    constructor
    · intro q
      obtain ⟨μ2, q1, q2, q3⟩ := main.1 q
      have h0 := (q3 0 (by omega) (by omega) 0 (by omega)).2
      refine ⟨μ2, ?_, fun a ha => by rw [q2, a2, si_ne1 ha], by rw [q2, a2, si_rd, if_pos ⟨rfl, rfl⟩], fun _ => q3⟩
      rw [q1]
      unfold cnt0
      rw [if_neg c]
      exact congrArg (fun z => some (z, μ2)) h0
    · intro q
      obtain ⟨μ2, q1, q2⟩ := main.2 q
      exact ⟨μ2, q1, fun a ha => by rw [q2, a2, si_ne1 ha]⟩
/-! the same of the reference -/
theorem moreM {S w O : Nat} (hS : S ≤ MX) (hw : w < 2 ^ 31) (hO : O ≤ MX) (μ : Mm) : f_X7_more (lN S) (lN w) (lN O) μ = if S + w * O ≤ MX then some (lN (S + w * O), μ) else some (lN S, si μ 0 9 1) := by
  unfold f_X7_more
  by_cases h0 : O = 0
  · subst h0
    rw [if_pos (by decide +kernel), if_pos (by omega), lN_mul, lN_add]
  · have hS' : S < 2 ^ 63 := by unfold MX at hS; omega
    have hO' : O < 2 ^ 63 := by unfold MX at hO; omega
    have hdle : MX / O ≤ MX := Nat.div_le_self _ _
    rw [if_neg (by rw [l0, pk_lLE hO' (by omega)]; omega), if_pos (by rw [l0, pk_lEQ hO' (by omega)]; exact h0), mx64, pk_lDiv (by unfold MX; omega) (by omega) hO', lN_mul, lN_add, lN_sub hS]
    have hi : MX / O < w ↔ MX < w * O := by rw [Nat.div_lt_iff_lt_mul (by omega)]
    by_cases c : MX < w * O
    · rw [if_pos ((pk_lLT (by unfold MX at *; omega) (by omega)).mpr (hi.mpr c)), if_neg (by omega)]
    · rw [if_neg (by rw [pk_lLT (by unfold MX at *; omega) (by omega), hi]; exact c)]
      by_cases d : S + w * O ≤ MX
      · rw [if_pos ((pk_lLE (by unfold MX at *; omega) (by unfold MX at *; omega)).mpr (by omega)), if_pos d]
      · rw [if_neg (by rw [pk_lLE (by unfold MX at *; omega) (by unfold MX at *; omega)]; omega), if_neg d]
theorem more_any (a b c : Int64) (μ : Mm) : ∃ r μ2, f_X7_more a b c μ = some (r, μ2) ∧ (μ2 = μ ∨ μ2 = si μ 0 9 1) := by
  unfold f_X7_more
  by_cases h0 : c ≤ 0
  · rw [if_pos h0]; exact ⟨_, _, rfl, Or.inl rfl⟩
  · rw [if_neg h0, if_pos (fun q => h0 (by rw [q]; decide))]
    split
    · exact ⟨_, _, rfl, Or.inr rfl⟩
    · split
      · exact ⟨_, _, rfl, Or.inl rfl⟩
      · exact ⟨_, _, rfl, Or.inr rfl⟩
/-- nothing but the flag of too much may change -/
def FrF (μ μ2 : Mm) : Prop := μ2.2 = μ.2 ∧ (∀ a, a ≠ 0 → μ2.1 a = μ.1 a) ∧ (∀ k, k ≠ 9 → μ2.1 0 k = μ.1 0 k) ∧ (μ2.1 0 9 = μ.1 0 9 ∨ μ2.1 0 9 = 1)
theorem FrF.rfl' (μ : Mm) : FrF μ μ := ⟨rfl, fun _ _ => rfl, fun _ _ => rfl, Or.inl rfl⟩
theorem FrF.trans {μ μ2 μ3 : Mm} (h : FrF μ μ2) (g : FrF μ2 μ3) : FrF μ μ3 := ⟨g.1.trans h.1, fun a ha => (g.2.1 a ha).trans (h.2.1 a ha), fun k hk => (g.2.2.1 k hk).trans (h.2.2.1 k hk), by
  rcases g.2.2.2 with q | q
  · rw [q]; exact h.2.2.2
  · exact Or.inr q⟩
theorem FrF.set (μ : Mm) : FrF μ (si μ 0 9 1) := ⟨rfl, fun a ha => si_ne1 ha, fun k hk => by rw [si_rd, if_neg (fun q => hk q.2)], Or.inr (by rw [si_rd, if_pos ⟨rfl, rfl⟩])⟩
theorem FrF.mr {μ μ2 : Mm} {N : Nat → Nat} (h : FrF μ μ2) (hs : MR μ N) : MR μ2 N := fun k hk => by rw [h.2.1 1 (by omega)]; exact hs k hk
theorem FrF.cf {μ μ2 : Mm} {cut : Bool} (h : FrF μ μ2) (hs : CF μ cut) : CF μ2 cut := by unfold CF at *; rw [h.2.2.1 7 (by omega)]; exact hs
theorem FrF.one {μ μ2 : Mm} (h : FrF μ μ2) (h1 : μ.1 0 9 = 1) : μ2.1 0 9 = 1 := by
  rcases h.2.2.2 with q | q
  · rw [q]; exact h1
  · exact q
theorem lead_range {B : Nat} {N : Nat → Nat} (hO : Ok B N) {cut : Bool} {p i : Nat} (hi : i < N 0) : (leadI N cut p i = -1) ∨ (tgN N cut p i ≠ 0 ∧ brN N cut (tgN N cut p i) = false ∧ leadI N cut p i = nI (tgN N cut p i) ∧ leadI N cut p i ≠ -1) := by
  by_cases c : tgN N cut p i = 0 ∨ brN N cut (tgN N cut p i) = true
  · exact Or.inl (lead_none c)
  · have h1 : tgN N cut p i ≠ 0 := fun q => c (Or.inl q)
    have h2 : brN N cut (tgN N cut p i) = false := by
      cases h : brN N cut (tgN N cut p i) with
      | false => rfl
      | true => exact absurd (Or.inr h) c
    have h3 := lead_some (t := tgN N cut p i) rfl h1 h2
    have h4 := (tg_gt hO hi h1).2
    have h5 := last_le hO cut
    refine Or.inr ⟨h1, h2, h3, ?_⟩
    rw [h3]
    intro q
    have : nI (tgN N cut p i) < 0 := by rw [q]; decide +kernel
    exact nI_pos (by omega) this
theorem sumAny {B : Nat} {N : Nat → Nat} (hO : Ok B N) (hB : B < 2 ^ 30) {cut : Bool} {m : Option Nat} (hm : okm m) (K : Int64 → Mm → Option (Int64 × Mm)) {p v : Nat} (hp : p ≤ 40) (hv : v ≤ 15) : ∀ (t f i : Nat) (sum : Int64) (μ : Mm), i + t = N 0 → t < f → MR μ N → CF μ cut → ∃ r μ2, lp_X7_sumFrom_6 (nI p) (nI v) (mk m) f sum (nI i) μ K = K r μ2 ∧ FrF μ μ2 := by
  have h12 := hO.1.1
  have hl := last_le hO cut
  intro t
  induction t with
  | zero =>
    intro f i sum μ h1 h2 hs hc
    obtain ⟨f, rfl⟩ : ∃ q, f = q + 1 := ⟨f - 1, by omega⟩
    rw [lp_X7_sumFrom_6, hs 0 (by omega), if_pos ((nI_leI (by omega) (by omega)).mpr (by omega))]
    exact ⟨_, _, rfl, FrF.rfl' μ⟩
  | succ t ih =>
    intro f i sum μ h1 h2 hs hc
    obtain ⟨f, rfl⟩ : ∃ q, f = q + 1 := ⟨f - 1, by omega⟩
    have hsl := hO.2.2.1 i (by omega)
    rw [lp_X7_sumFrom_6, hs 0 (by omega), if_neg (by rw [nI_leI (by omega) (by omega)]; omega), i9, nI_add, if_pos (zin_nI (by omega) (by omega)), nI_clamp (by omega), hs _ (by omega), hasM hv (by omega), bd_some, nI_1, leadsM hO hs hc hp (by omega), bd_some, weightM hO hB hs hm (by omega), bd_some, hs _ (by omega)]
    cases bitN v (N (9 + i)) with
    | false => rw [if_pos (show bI false = 0 from rfl)]; exact ih f (i + 1) sum μ (by omega) (by omega) hs hc
    | true =>
      rw [if_neg (show ¬ bI true = 0 by decide)]
      rcases lead_range hO (cut := cut) (p := p) (show i < N 0 by omega) with q | ⟨q1, q2, q3, q4⟩
      · rw [if_pos q]; exact ih f (i + 1) sum μ (by omega) (by omega) hs hc
      · have h4 := (tg_gt hO (show i < N 0 by omega) q1).2
        rw [if_neg q4, q3, i4, pk_mul, nI_add, if_pos (zin_nI (by omega) (by omega)), if_pos (zin_nI (by omega) (by omega))]
        obtain ⟨r, μa, e1, e2⟩ := more_any sum (nI (wN N m i)).toInt64 (μ.2 6 (nI (4 * tgN N cut p i + N (9 + i))).toNatClampNeg) μ
        rw [e1, bd_some]
        have hf : FrF μ μa := by
          rcases e2 with h | h
          · rw [h]; exact FrF.rfl' μ
          · rw [h]; exact FrF.set μ
        obtain ⟨r2, μ2, g1, g2⟩ := ih f (i + 1) r μa (by omega) (by omega) (hf.mr hs) (hf.cf hc)
        exact ⟨r2, μ2, g1, hf.trans g2⟩
