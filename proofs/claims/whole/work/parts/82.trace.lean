/-! the best cut, traced -/
def trc (N : Nat → Nat) (m : Nat) : Nat → Nat → Nat → List Nat
  | 0, _, _ => []
  | t + 1, p, s => if p = N 1 then [] else match EB N m p s with
    | none => []
    | some y => y.2.2 :: trc N m t (LNn N true p y.2.2) (N (9 + y.2.2))
theorem EB_next {B : Nat} {N : Nat → Nat} (hO : Ok B N) {m p s : Nat} (hp : p < N 1) {y : Nat × Nat × Nat} (h : EB N m p s = some y) : y.2.2 < N 0 ∧ p < LNn N true p y.2.2 ∧ LNn N true p y.2.2 ≤ N 1 ∧ EB N m (LNn N true p y.2.2) (N (9 + y.2.2)) ≠ none ∧ leadI N true p y.2.2 = nI (LNn N true p y.2.2) := by
  have hl : lastN N true = N 1 := rfl
  rw [EB_step hO m hp] at h
  obtain ⟨i, i1, i2⟩ := bfo_mem _ h
  obtain ⟨-, e2, z, e3, rfl⟩ := cnd_inv i2
  have hg := LN_gt hO i1 e2
  refine ⟨i1, hg.2.1, by rw [← hl]; exact hg.2.2.1, (by simp only; rw [e3]; intro q; cases q), ?_⟩
  exact (lead_some (N := N) (cut := true) (p := p) (i := i) (t := tgN N true p i) rfl (by rw [← hg.1]; exact e2) rfl).trans (by rw [← hg.1])
theorem trc_end (N : Nat → Nat) (m t s : Nat) : trc N m t (N 1) s = [] := by
  cases t with
  | zero => rfl
  | succ t => rw [trc, if_pos rfl]
theorem trc_step {N : Nat → Nat} {m t p s : Nat} {y : Nat × Nat × Nat} (hp : p ≠ N 1) (h : EB N m p s = some y) : trc N m (t + 1) p s = y.2.2 :: trc N m t (LNn N true p y.2.2) (N (9 + y.2.2)) := by
  rw [trc, if_neg hp, h]
theorem trc_ok {B : Nat} {N : Nat → Nat} (hO : Ok B N) (m : Nat) : ∀ t p s, p ≤ N 1 → EB N m p s ≠ none → p + (trc N m t p s).length ≤ N 1 ∧ ∀ i, i ∈ trc N m t p s → i < N 0 := by
  intro t
  induction t with
  | zero => intro p s h1 h2; exact ⟨h1, fun i hi => by cases hi⟩
  | succ t ih =>
    intro p s h1 h2
    by_cases c : p = N 1
    · rw [c, trc_end]
      exact ⟨Nat.le_refl _, fun i hi => by cases hi⟩
    · cases h : EB N m p s with
      | none => exact absurd h h2
      | some y =>
        obtain ⟨a1, a2, a3, a4, -⟩ := EB_next hO (by omega) h
        have := ih (LNn N true p y.2.2) (N (9 + y.2.2)) a3 a4
        rw [trc_step c h]
        refine ⟨by rw [List.length_cons]; omega, fun i hi => ?_⟩
        rcases List.mem_cons.mp hi with q | q
        · rw [q]; exact a1
        · exact this.2 i q
theorem lpTrC {B : Nat} {N : Nat → Nat} (hO : Ok B N) {m : Nat} (K : Mm → Option (Unit × Mm)) : ∀ (t f p s c : Nat) (μ : Mm), N 1 - p < t → t ≤ f → p ≤ N 1 → s < 4 → c ≤ p → EB N m p s ≠ none → SR μ 1 N → LD μ N true → BT 18 19 20 N m μ 0 → μ.1 17 6 = nI c →
    ∃ μ2, lp_X1_traceChosen_4 f (nI p) (nI s) μ K = K μ2 ∧ μ2.1 17 6 = nI (c + (trc N m t p s).length) ∧ (∀ j, j < c → μ2.1 21 j = μ.1 21 j) ∧ (∀ j, j < (trc N m t p s).length → μ2.1 21 (c + j) = nI ((trc N m t p s).getD j 0)) ∧ (∀ a, a ≠ 17 → a ≠ 21 → μ2.1 a = μ.1 a) := by
  have h40 := hO.1.2.1
  have h12 := hO.1.1
  have hl : lastN N true = N 1 := rfl
  intro t
  induction t with
  | zero => intro f p s c μ h1; omega
  | succ t ih =>
    intro f p s c μ h1 h2 h3 h4 h5 h6 hs hd hb h7
    obtain ⟨f, rfl⟩ : ∃ q, f = q + 1 := ⟨f - 1, by omega⟩
    by_cases e : p = N 1
    · rw [lp_X1_traceChosen_4, hd.1, hl, if_pos ((nI_leI (by omega) (by omega)).mpr (by omega)), e, trc_end]
      exact ⟨μ, rfl, h7, fun _ _ => rfl, fun j hj => absurd hj (Nat.not_lt_zero _), fun _ _ _ => rfl⟩
    · cases h : EB N m p s with
      | none => exact absurd h h6
      | some y =>
        obtain ⟨a1, a2, a3, a4, -⟩ := EB_next hO (by omega) h
        have z4 := i164c p s (by omega) h4
        have b := (hb p (by omega) h3 s h4).2.2 (by omega)
        rw [h] at b
        have b : μ.1 20 (4 * p + s) = nI y.2.2 := b
        have hsl := hO.2.2.1 y.2.2 (by omega)
        have fr : ∀ a, a ≠ 17 → a ≠ 21 → (si (si μ 17 6 (nI (c + 1))) 21 c (nI y.2.2)).1 a = μ.1 a := fun a x y => by rw [si_ne1 y, si_ne1 x]
        have hd2 : LD (si (si μ 17 6 (nI (c + 1))) 21 c (nI y.2.2)) N true := by
          unfold LD at *
          rw [fr 10 (by omega) (by omega), fr 11 (by omega) (by omega)]
          exact hd
        have e2 : (si (si μ 17 6 (nI (c + 1))) 21 c (nI y.2.2)).1 2 y.2.2 = nI (N (9 + y.2.2)) := by
          rw [fr 2 (by omega) (by omega)]
          exact hs.slo (by omega)
        rw [lp_X1_traceChosen_4, hd.1, hl, if_neg (by rw [nI_leI (by omega) (by omega)]; omega), h7, if_neg (by rw [i40, nI_leI (by omega) (by omega)]; omega), if_pos z4.1, z4.2, b, if_neg (nI_m1 (by omega)), if_pos (zin_nI (by omega) (by omega)), nI_1, nI_clamp (by omega), landC hO hd2 (by omega) a1, bd_some, if_pos (zin_nI (by omega) (by omega)), nI_clamp (by omega), e2, trc_step e h]
        obtain ⟨μ2, g1, g2, g3, g4, g5⟩ := ih f (LNn N true p y.2.2) (N (9 + y.2.2)) (c + 1) (si (si μ 17 6 (nI (c + 1))) 21 c (nI y.2.2)) (by omega) (by omega) a3 (by omega) (by omega) a4 (hs.frame (fun a _ ha => fr a (by omega) (by omega))) hd2 (fun q x y s h4 => by rw [fr 18 (by omega) (by omega), fr 19 (by omega) (by omega), fr 20 (by omega) (by omega)]; exact hb q x y s h4) (by rw [si_ne1 (by omega), si_rd, if_pos ⟨rfl, rfl⟩])
        refine ⟨μ2, g1, by rw [g2, List.length_cons, show c + 1 + (trc N m t (LNn N true p y.2.2) (N (9 + y.2.2))).length = c + ((trc N m t (LNn N true p y.2.2) (N (9 + y.2.2))).length + 1) by omega], fun j hj => by rw [g3 j (by omega), si_rd, if_neg (by omega), si_ne1 (by omega)], fun j hj => ?_, fun a x y => by rw [g5 a x y, fr a x y]⟩
        cases j with
        | zero => rw [Nat.add_zero, g3 c (by omega), si_rd, if_pos ⟨rfl, rfl⟩]; rfl
        | succ j =>
          rw [List.length_cons] at hj
          rw [show c + (j + 1) = c + 1 + j by omega, g4 j (by omega)]
          rfl
theorem lpTrM {B : Nat} {N : Nat → Nat} (hO : Ok B N) {m : Nat} (cc : Int32) (K : Mm → Option (Int32 × Mm)) : ∀ (t f p s c : Nat) (μ : Mm), N 1 - p < t → t ≤ f → p ≤ N 1 → s < 4 → c ≤ p → EB N m p s ≠ none → MR μ N → CF μ true → BM N m μ 1 → μ.1 0 11 = nI c →
    ∃ μ2, lp_X7_findsBest_38 cc f (eG N m p s) (nI p) μ K = K μ2 ∧ μ2.1 0 11 = nI (c + (trc N m t p s).length) ∧ (∀ j, j < c → μ2.1 7 j = μ.1 7 j) ∧ (∀ j, j < (trc N m t p s).length → μ2.1 7 (c + j) = nI ((trc N m t p s).getD j 0)) ∧ (∀ a, a ≠ 0 → a ≠ 7 → μ2.1 a = μ.1 a) ∧ (∀ k, k ≠ 11 → μ2.1 0 k = μ.1 0 k) := by
  have h40 := hO.1.2.1
  have h12 := hO.1.1
  have hl : lastN N true = N 1 := rfl
  intro t
  induction t with
  | zero => intro f p s c μ h1; omega
  | succ t ih =>
    intro f p s c μ h1 h2 h3 h4 h5 h6 hs hc hb h7
    obtain ⟨f, rfl⟩ : ∃ q, f = q + 1 := ⟨f - 1, by omega⟩
    by_cases e : p = N 1
    · have eg : eG N m p s = -1 := by unfold eG; rw [if_pos e]
      rw [lp_X7_findsBest_38, eg, if_pos rfl, e, trc_end]
      exact ⟨μ, rfl, h7, fun _ _ => rfl, fun j hj => absurd hj (Nat.not_lt_zero _), fun _ _ _ => rfl, fun _ _ => rfl⟩
    · cases h : EB N m p s with
      | none => exact absurd h h6
      | some y =>
        obtain ⟨a1, a2, a3, a4, a5⟩ := EB_next hO (by omega) h
        have eg : eG N m p s = nI y.2.2 := by unfold eG; rw [if_neg e, h]; rfl
        have hsl := hO.2.2.1 y.2.2 (by omega)
        have z4 := i164 (LNn N true p y.2.2) (N (9 + y.2.2)) (by omega) (by omega)
        have b := (hb (LNn N true p y.2.2) (by omega) a3 (N (9 + y.2.2)) (by omega)).2.2
        have fr : ∀ a, a ≠ 0 → a ≠ 7 → (si (si μ 7 c (nI y.2.2)) 0 11 (nI (c + 1))).1 a = μ.1 a := fun a x y => by rw [si_ne1 x, si_ne1 y]
        have fk : ∀ k, k ≠ 11 → (si (si μ 7 c (nI y.2.2)) 0 11 (nI (c + 1))).1 0 k = μ.1 0 k := fun k x => by rw [si_rd, if_neg (fun q => x q.2), si_ne1 (by omega)]
        have sb : MR (si (si μ 7 c (nI y.2.2)) 0 11 (nI (c + 1))) N := fun k hk => by rw [fr 1 (by omega) (by omega)]; exact hs k hk
        have cb : CF (si (si μ 7 c (nI y.2.2)) 0 11 (nI (c + 1))) true := by unfold CF at *; rw [fk 7 (by omega)]; exact hc
        rw [lp_X7_findsBest_38, eg, if_neg (nI_m1 (by omega)), h7, if_pos (zin_nI (by omega) (by omega)), nI_1, nI_clamp (by omega), leadsM hO sb cb (by omega) a1, bd_some, i9, nI_add, if_pos (zin_nI (by omega) (by omega)), nI_clamp (by omega), sb (9 + y.2.2) (by omega), a5, if_pos z4.1, z4.2, fr 10 (by omega) (by omega), b, trc_step e h]
        obtain ⟨μ2, g1, g2, g3, g4, g5, g6⟩ := ih f (LNn N true p y.2.2) (N (9 + y.2.2)) (c + 1) (si (si μ 7 c (nI y.2.2)) 0 11 (nI (c + 1))) (by omega) (by omega) a3 (by omega) (by omega) a4 sb cb (fun q x y s h4 => by rw [fr 8 (by omega) (by omega), fr 9 (by omega) (by omega), fr 10 (by omega) (by omega)]; exact hb q x y s h4) (by rw [si_rd, if_pos ⟨rfl, rfl⟩])
        refine ⟨μ2, g1, by rw [g2, List.length_cons, show c + 1 + (trc N m t (LNn N true p y.2.2) (N (9 + y.2.2))).length = c + ((trc N m t (LNn N true p y.2.2) (N (9 + y.2.2))).length + 1) by omega], fun j hj => by rw [g3 j (by omega), si_ne1 (by omega), si_rd, if_neg (by omega)], fun j hj => ?_, fun a x y => by rw [g5 a x y, fr a x y], fun k x => by rw [g6 k x, fk k x]⟩
        cases j with
        | zero => rw [Nat.add_zero, g3 c (by omega), si_ne1 (by omega), si_rd, if_pos ⟨rfl, rfl⟩]; rfl
        | succ j =>
          rw [List.length_cons] at hj
          rw [show c + (j + 1) = c + 1 + j by omega, g4 j (by omega)]
          rfl
def pth (N : Nat → Nat) (m : Nat) : List Nat := trc N m 41 0 0
theorem findC {B : Nat} {N : Nat → Nat} (hO : Ok B N) (hB : B < 2 ^ 24) {m : Nat} (hm : m < 3) {μ : Mm} (hs : SR μ 1 N) :
    (EB0 N m = none → ∃ μ2, f_X1_findBest (nI m) μ = some (0, μ2) ∧ FrC μ μ2) ∧
    (∀ y, EB0 N m = some y → ∃ μ2, f_X1_findBest (nI m) μ = some (1, μ2) ∧ FrC μ μ2 ∧ μ2.1 17 6 = nI (pth N m).length ∧ (∀ j, j < (pth N m).length → μ2.1 21 j = nI ((pth N m).getD j 0)) ∧ μ2.1 18 0 = nI y.1) := by
  have h40 := hO.1.2.1
  have main := bestC hO hB hm hs
  by_cases h0 : N 1 = 0
  · have e : EB0 N m = none := by unfold EB0; rw [if_pos h0]
    rw [e]
    exact ⟨fun _ => main.1 h0, fun y q => by cases q⟩
  · have e : EB0 N m = EB N m 0 0 := by unfold EB0; rw [if_neg h0]
    rw [e]
    obtain ⟨μa, a1, a2, a3, a4, a5, a6⟩ := main.2 h0
    have b := a5 0 (by omega) (by omega) 0 (by omega)
    constructor
    · intro q
      have b3 := b.2.2 (by omega)
      rw [q] at b3
      have b3 : μa.1 20 (4 * 0 + 0) = -1 := b3
      have et : f_X1_traceChosen μa = some ((), μa) := by
        have z4 := i164c 0 0 (by omega) (by omega)
        rw [← iz0] at z4
        have hl : lastN N true = N 1 := rfl
        have h1 : ¬ μa.1 10 3 ≤ (0 : Int32) := by rw [a4.1, hl, le0_iff (by omega)]; exact h0
        have h2 : ¬ (40 : Int32) ≤ μa.1 17 6 := by rw [a6]; decide
        show lp_X1_traceChosen_4 (999 + 1) (0 : Int32) (0 : Int32) μa (fun μ6 => some ((), μ6)) = _
        rw [lp_X1_traceChosen_4, if_neg h1, if_neg h2, if_pos z4.1, z4.2, b3, if_pos rfl]
      refine ⟨μa, ?_, a2⟩
      rw [a1, et, bd_some, a6, if_pos (by decide)]
    · intro y q
      obtain ⟨μ2, g1, g2, -, g4, g5⟩ := lpTrC hO (m := m) (fun μ6 => some ((), μ6)) 41 FU 0 0 0 μa (by omega) (by decide) (by omega) (by omega) (by omega) (by rw [q]; intro z; cases z) a3 a4 a5 (by rw [a6]; exact iz0)
      rw [← iz0] at g1
      have g1 : f_X1_traceChosen μa = some ((), μ2) := g1
      rw [Nat.zero_add] at g2
      have hlen : 0 < (trc N m 41 0 0).length := by
        rw [trc_step (by omega) q, List.length_cons]
        omega
      have hle := (trc_ok hO m 41 0 0 (by omega) (by rw [q]; intro z; cases z)).1
      refine ⟨μ2, ?_, a2.trans (fun a ha => g5 a (by omega) (by omega)), g2, fun j hj => by have := g4 j hj; rw [Nat.zero_add] at this; exact this, ?_⟩
      · rw [a1, g1, bd_some, g2, if_neg (by rw [le0_iff (by omega)]; omega)]
      · rw [g5 18 (by omega) (by omega)]
        have := b.1
        rw [q] at this
        exact this
theorem findM {B : Nat} {N : Nat → Nat} (hO : Ok B N) (hB : B < 2 ^ 24) {m : Nat} (hm : m < 3) {μ : Mm} (hs : MR μ N) :
    (EB0 N m = none → ∃ μ2, f_X7_findsBest (nI m) μ = some (-1, μ2) ∧ FrB μ μ2) ∧
    (∀ y, EB0 N m = some y → y.1 < 2 ^ 31 ∧ (pth N m).length ≤ 40 ∧ (∀ i, i ∈ pth N m → i < N 0) ∧ ∃ μ2, f_X7_findsBest (nI m) μ = some (nI y.1, μ2) ∧ FrB μ μ2 ∧ μ2.1 0 11 = nI (pth N m).length ∧ (∀ j, j < (pth N m).length → μ2.1 7 j = nI ((pth N m).getD j 0))) := by
  have h40 := hO.1.2.1
  obtain ⟨μa, a1, a2, a3, a4, a5⟩ := bestM hO hB hm hs
  rw [a1]
  constructor
  · intro q
    rw [q, if_pos (show eF none = -1 from rfl)]
    exact ⟨μa, rfl, a2⟩
  · intro y q
    have h0 : N 1 ≠ 0 := by
      intro h
      unfold EB0 at q
      rw [if_pos h] at q
      cases q
    have q2 : EB N m 0 0 = some y := by unfold EB0 at q; rw [if_neg h0] at q; exact q
    have hn := EB_next hO (by omega) q2
    have hb := EB_b2 hO hB hm (by omega) q2
    have h12 := hO.1.1
    have hok := trc_ok hO m 41 0 0 (by omega) (by rw [q2]; intro z; cases z)
    obtain ⟨μ2, g1, g2, -, g4, g5, g6⟩ := lpTrM hO (m := m) (nI y.1) (fun μ9 => some (nI y.1, μ9)) 41 FU 0 0 0 μa (by omega) (by decide) (by omega) (by omega) (by omega) (by rw [q2]; intro z; cases z) (a2.mr hs) a3 a4 a5
    have eg : eG N m 0 0 = nI y.2.2 := by unfold eG; rw [if_neg (by omega), q2]; rfl
    rw [eg, ← iz0] at g1
    rw [q, if_neg (show ¬ eF (some y) = -1 from nI_m1 (by omega))]
    rw [Nat.zero_add] at g2
    refine ⟨by omega, by have := hok.1; show (trc N m 41 0 0).length ≤ 40; omega, hok.2, μ2, g1, a2.trans ⟨fun a ha => g5 a (by omega) (by omega), fun k a b c d => g6 k b⟩, g2, fun j hj => by have := g4 j hj; rw [Nat.zero_add] at this; exact this⟩
theorem partBoth21 {μC μM : Mm} {c : Nat} (hc : c ≤ 40) (e1 : μC.1 17 6 = nI c) (e2 : μM.1 0 11 = nI c) (e3 : ∀ j, j < c → μC.1 21 j = μM.1 7 j) (a : Int32) (ha : (-1 : Int32) ≤ a) : ∃ r, f_X6_partOf_21 (μC.1 17 6) a μC = some (r, μC) ∧ f_X7_tellRow a μM = some (r, μM) := by
  rw [f_X6_partOf_21, f_X7_tellRow, e1, e2]
  by_cases h : a = -1
  · rw [if_pos h, if_pos h]
    exact ⟨_, rfl, rfl⟩
  · rw [if_neg h, if_neg h]
    have w := wCc a c (by omega) _ rfl μC
    have h0 : ¬ a < 0 := by
      rw [Int32.lt_iff_toInt_lt, Int32.toInt_zero]
      rw [Int32.le_iff_toInt_le] at ha
      have e : (-1 : Int32).toInt = -1 := by decide +kernel
      rw [e] at ha
      have : a.toInt ≠ -1 := fun q => h (Int32.toInt_inj.mp (by rw [q, e]))
      omega
    obtain ⟨k, hk, rfl⟩ := nI_of h0
    by_cases d : k < c
    · rw [w.1 ⟨k, d, rfl⟩, bd_some, if_neg (by decide), if_pos (zin_nI (by omega) (by omega)), if_neg (by rw [nI_leI (by omega) (by omega)]; omega), if_pos (zin_nI (by omega) (by omega)), nI_clamp (by omega), e3 k d]
      exact ⟨_, rfl, rfl⟩
    · rw [w.2 (by rintro ⟨z, hz, ez⟩; rw [nI_eq hk (by omega)] at ez; omega), bd_some, if_pos rfl, if_pos ((nI_leI (by omega) (by omega)).mpr (by omega))]
      exact ⟨_, rfl, rfl⟩
theorem st_best (n : Nat) (hn : n < 512) (a w : Int32) : Sp Inv n (f_X6_best a w) (f_X7_best a w) := by
  intro μC μM hI
  obtain ⟨N, hist, st, tx, len, rf, hC, hM, hO, hH, hl, ht⟩ := hI
  have bad : (f_X6_best a w μC = bd (f_X6_refusal (-2) μC) fun r4 μ5 => some (r4, μ5)) → (f_X7_best a w μM = bd (f_X7_bad μM) fun r4 μ5 => some (r4, μ5)) → ∃ r μC2 μM2, f_X6_best a w μC = some (r, μC2) ∧ f_X7_best a w μM = some (r, μM2) ∧ Inv (n + 1) μC2 μM2 := by
    intro h1 h2
    obtain ⟨μC3, μM3, e1, e2, e3⟩ := refBoth hC hM hO hH hl ht (-2) (bad_k hM)
    exact ⟨-2, μC3, μM3, by rw [h1, e1, bd_some], by rw [h2, e2, bd_some], e3⟩
  by_cases q : rng a 0 2
  · have e1 := (i_maker μC).1 q
    have e2 := (j_maker μM).1 q
    obtain ⟨m, -, hm, rfl⟩ := q
    by_cases q1 : (-2 : Int32) ≤ w
    · have fc := findC hO (by omega) (show m < 3 by omega) hC.sr
      have fm := findM hO (by omega) (show m < 3 by omega) hM.1
      cases hE : EB0 N m with
      | none =>
        obtain ⟨μC2, c1, c2⟩ := fc.1 hE
        obtain ⟨μM2, m1, m2⟩ := fm.1 hE
        obtain ⟨μC3, μM3, g1, g2, g3⟩ := refBoth (hC.fr c2) (hM.fr m2.r) hO hH hl ht (-3) (no_k (hM.fr m2.r))
        refine ⟨-3, μC3, μM3, ?_, ?_, g3⟩
        · rw [f_X6_best, e1, bd_some, if_neg (by decide), if_pos q1, c1, bd_some, if_pos rfl, g1, bd_some]
        · rw [f_X7_best, e2, bd_some, if_neg (by decide), if_pos q1, m1, bd_some, if_neg (by decide), g2, bd_some]
      | some y =>
        obtain ⟨μC2, c1, c2, c3, c4, c5⟩ := fc.2 y hE
        obtain ⟨y1, y2, y3, μM2, m1, m2, m3, m4⟩ := fm.2 y hE
        have hI2 : Inv (n + 1) μC2 μM2 := ⟨N, hist, st, tx, len, rf, hC.fr c2, hM.fr m2.r, hO.mono (by omega), fun j hj => (hH j hj).mono (by omega), hl, ht⟩
        by_cases q2 : w = -2
        · refine ⟨nI y.1, μC2, μM2, ?_, ?_, hI2⟩
          · rw [f_X6_best, e1, bd_some, if_neg (by decide), if_pos q1, c1, bd_some, if_neg (by decide), if_pos q2, f_X1_bestSum, bd_some, c5]
          · rw [f_X7_best, e2, bd_some, if_neg (by decide), if_pos q1, m1, bd_some, if_pos (nI_pos' y1), if_pos q2]
        · have hw : (-1 : Int32) ≤ w := by
            rw [Int32.le_iff_toInt_le] at q1 ⊢
            have z1 : (-1 : Int32).toInt = -1 := by decide +kernel
            have z2 : (-2 : Int32).toInt = -2 := by decide +kernel
            rw [z2] at q1
            rw [z1]
            have : w.toInt ≠ -2 := fun q => q2 (Int32.toInt_inj.mp (by rw [q, z2]))
            omega
          obtain ⟨r, s1, s2⟩ := partBoth21 y2 c3 m3 (fun j hj => by rw [c4 j hj, m4 j hj]) w hw
          refine ⟨r, μC2, μM2, ?_, ?_, hI2⟩
          · rw [f_X6_best, e1, bd_some, if_neg (by decide), if_pos q1, c1, bd_some, if_neg (by decide), if_neg q2, s1, bd_some]
          · rw [f_X7_best, e2, bd_some, if_neg (by decide), if_pos q1, m1, bd_some, if_pos (nI_pos' y1), if_neg q2, s2, bd_some]
    · exact bad (by rw [f_X6_best, e1, bd_some, if_neg (by decide), if_neg q1]) (by rw [f_X7_best, e2, bd_some, if_neg (by decide), if_neg q1])
  · exact bad (by rw [f_X6_best, (i_maker μC).2 q, bd_some, if_pos rfl]) (by rw [f_X7_best, (j_maker μM).2 q, bd_some, if_pos rfl])
