/-! the reference lays its table of the best -/
def eK0 (o : Option (Nat × Nat × Nat)) : Int32 := match o with
  | none => 0
  | some y => nI y.2.1
def eG (N : Nat → Nat) (m q s : Nat) : Int32 := if q = N 1 then -1 else eF (EB N m q s)
def BM (N : Nat → Nat) (m : Nat) (μ : Mm) (p : Nat) : Prop := ∀ q, p ≤ q → q ≤ N 1 → ∀ s, s < 4 → μ.1 8 (4 * q + s) = eS (EB N m q s) ∧ μ.1 9 (4 * q + s) = eK (EB N m q s) ∧ μ.1 10 (4 * q + s) = eG N m q s
def FrB (μ μ2 : Mm) : Prop := (∀ a, (1 ≤ a ∧ a ≤ 6) ∨ 11 ≤ a → μ2.1 a = μ.1 a) ∧ ∀ k, k ≠ 7 → k ≠ 11 → k ≠ 15 → k ≠ 16 → μ2.1 0 k = μ.1 0 k
theorem FrB.trans {μ μ2 μ3 : Mm} (h : FrB μ μ2) (g : FrB μ2 μ3) : FrB μ μ3 := ⟨fun a ha => (g.1 a ha).trans (h.1 a ha), fun k a b c d => (g.2 k a b c d).trans (h.2 k a b c d)⟩
theorem FrB.rfl' (μ : Mm) : FrB μ μ := ⟨fun _ _ => rfl, fun _ _ _ _ _ => rfl⟩
theorem FrB.mr {μ μ2 : Mm} {N : Nat → Nat} (h : FrB μ μ2) (hs : MR μ N) : MR μ2 N := fun k hk => by rw [h.1 1 (by omega)]; exact hs k hk
theorem FrB.r {μ μ2 : Mm} (h : FrB μ μ2) : FrR μ μ2 := ⟨fun a x y => h.1 a (by omega), h.2 3 (by omega) (by omega) (by omega) (by omega), h.2 6 (by omega) (by omega) (by omega) (by omega)⟩
theorem lpDear {B : Nat} {N : Nat → Nat} (hO : Ok B N) (hB : B < 2 ^ 24) {m : Nat} (hm : m < 3) (K : Int32 → Mm → Option (Int32 × Mm)) {p v : Nat} (hp : p ≤ 40) (hv : v ≤ 15) : ∀ (t f i : Nat) (μ : Mm), i + t = N 0 → t < f → MR μ N → CF μ true → BM N m μ (p + 1) → μ.1 0 15 = eS (bfo (cnd N m (EB N m) p v) i) → μ.1 0 16 = eK0 (bfo (cnd N m (EB N m) p v) i) →
    ∃ μ2, lp_X7_dearest_16 (nI p) (nI v) (nI m) f (eF (bfo (cnd N m (EB N m) p v) i)) (nI i) μ K = K (eF (bfo (cnd N m (EB N m) p v) (N 0))) μ2 ∧ (∀ a, a ≠ 0 → μ2.1 a = μ.1 a) ∧ (∀ k, k ≠ 15 → k ≠ 16 → μ2.1 0 k = μ.1 0 k) ∧ μ2.1 0 15 = eS (bfo (cnd N m (EB N m) p v) (N 0)) ∧ μ2.1 0 16 = eK0 (bfo (cnd N m (EB N m) p v) (N 0)) := by
  have h40 := hO.1.2.1
  have h12 := hO.1.1
  have hl : lastN N true = N 1 := rfl
  intro t
  induction t with
  | zero =>
    intro f i μ h1 h2 hs hc hb d1 d2
    obtain ⟨f, rfl⟩ : ∃ q, f = q + 1 := ⟨f - 1, by omega⟩
    rw [show i = N 0 by omega] at d1 d2 ⊢
    rw [lp_X7_dearest_16, hs 0 (by omega), if_pos ((nI_leI (by omega) (by omega)).mpr (Nat.le_refl _))]
    exact ⟨μ, rfl, fun _ _ => rfl, fun _ _ _ => rfl, d1, d2⟩
  | succ t ih =>
    intro f i μ h1 h2 hs hc hb d1 d2
    obtain ⟨f, rfl⟩ : ∃ q, f = q + 1 := ⟨f - 1, by omega⟩
    have hi : i < N 0 := by omega
    have hsl := hO.2.2.1 i (by omega)
    have key : ∃ μ', lp_X7_dearest_16 (nI p) (nI v) (nI m) (f + 1) (eF (bfo (cnd N m (EB N m) p v) i)) (nI i) μ K = lp_X7_dearest_16 (nI p) (nI v) (nI m) f (eF (bfo (cnd N m (EB N m) p v) (i + 1))) (nI (i + 1)) μ' K ∧ (∀ a, a ≠ 0 → μ'.1 a = μ.1 a) ∧ (∀ k, k ≠ 15 → k ≠ 16 → μ'.1 0 k = μ.1 0 k) ∧ μ'.1 0 15 = eS (bfo (cnd N m (EB N m) p v) (i + 1)) ∧ μ'.1 0 16 = eK0 (bfo (cnd N m (EB N m) p v) (i + 1)) := by
      have skip : cnd N m (EB N m) p v i = none → ∃ μ', lp_X7_dearest_16 (nI p) (nI v) (nI m) f (eF (bfo (cnd N m (EB N m) p v) i)) (nI (i + 1)) μ K = lp_X7_dearest_16 (nI p) (nI v) (nI m) f (eF (bfo (cnd N m (EB N m) p v) (i + 1))) (nI (i + 1)) μ' K ∧ (∀ a, a ≠ 0 → μ'.1 a = μ.1 a) ∧ (∀ k, k ≠ 15 → k ≠ 16 → μ'.1 0 k = μ.1 0 k) ∧ μ'.1 0 15 = eS (bfo (cnd N m (EB N m) p v) (i + 1)) ∧ μ'.1 0 16 = eK0 (bfo (cnd N m (EB N m) p v) (i + 1)) := by
        intro h0
        rw [bfo_succ, h0]
        exact ⟨μ, rfl, fun _ _ => rfl, fun _ _ _ => rfl, d1, d2⟩
      rw [lp_X7_dearest_16, hs 0 (by omega), if_neg (by rw [nI_leI (by omega) (by omega)]; omega), i9, nI_add, if_pos (zin_nI (by omega) (by omega)), nI_clamp (by omega), hs (9 + i) (by omega), hasM hv (by omega), bd_some, if_pos (zin_nI (show 9 + i < 148 by omega) (by omega)), leadsM hO hs hc hp hi, bd_some, if_pos (zin_nI (show 9 + i < 148 by omega) (by omega)), hs (9 + i) (by omega), nI_1]
      by_cases hb0 : bitN v (N (9 + i)) = true
      · rw [if_neg (show ¬ bI (bitN v (N (9 + i))) = 0 by rw [hb0]; decide)]
        rcases lead_range hO (cut := true) (p := p) hi with q | ⟨q1, q2, q3, q4⟩
        · rw [if_pos q]
          refine skip ?_
          unfold cnd
          rw [if_neg]
          rintro ⟨-, x⟩
          have hg := LN_gt hO hi x
          have := lead_some (N := N) (cut := true) (p := p) (i := i) (t := tgN N true p i) rfl (by rw [← hg.1]; exact x) rfl
          rw [this] at q
          exact nI_m1 (by rw [← hg.1]; omega) q
        · have h4 := tg_gt hO hi q1
          have hLN : LNn N true p i = tgN N true p i := by
            unfold LNn
            rw [if_neg (show ¬ brN N true p = true by unfold brN; simp)]
          have z4 := i164 (tgN N true p i) (N (9 + i)) (by omega) (by omega)
          obtain ⟨b1, b2, -⟩ := hb (tgN N true p i) (by omega) (by omega) (N (9 + i)) (by omega)
          rw [if_neg q4, q3, if_pos z4.1, z4.2, b2, b1]
          have hcn : cnd N m (EB N m) p v i = up3 (EB N m (tgN N true p i) (N (9 + i))) (N (33 + 12 * m + i)) i := by
            unfold cnd
            rw [if_pos ⟨hb0, by rw [hLN]; exact q1⟩, hLN]
          cases hE : EB N m (tgN N true p i) (N (9 + i)) with
          | none =>
            rw [if_pos (show eK none < 0 by decide +kernel)]
            exact skip (by rw [hcn, hE]; rfl)
          | some z =>
            have hzb := EB_b2 hO hB hm (by omega) hE
            have hh := hO.2.2.2.2.2.1 (12 * m + i) (by omega)
            rw [show 33 + (12 * m + i) = 33 + 12 * m + i by omega] at hh
            have hcn : cnd N m (EB N m) p v i = some (z.1 + N (33 + 12 * m + i), z.2.1 + 1, i) := by rw [hcn, hE]; rfl
            rw [if_neg (show ¬ eK (some z) < 0 from nI_pos (by omega)), if_pos z4.1, habM hs hm (by omega), bd_some, if_pos z4.1, show eS (some z) = nI z.1 from rfl, nI_add, b2, hE, show eK (some z) = nI z.2.1 from rfl, nI_1, d1, d2]
            have take : ∀ o : Option (Nat × Nat × Nat), bet o (z.1 + N (33 + 12 * m + i), z.2.1 + 1, i) = some (z.1 + N (33 + 12 * m + i), z.2.1 + 1, i) → ∃ μ', lp_X7_dearest_16 (nI p) (nI v) (nI m) f (nI i) (nI (i + 1)) (si (si μ 0 15 (nI (z.1 + N (33 + 12 * m + i)))) 0 16 (nI (z.2.1 + 1))) K = lp_X7_dearest_16 (nI p) (nI v) (nI m) f (eF (nxt o (cnd N m (EB N m) p v i))) (nI (i + 1)) μ' K ∧ (∀ a, a ≠ 0 → μ'.1 a = μ.1 a) ∧ (∀ k, k ≠ 15 → k ≠ 16 → μ'.1 0 k = μ.1 0 k) ∧ μ'.1 0 15 = eS (nxt o (cnd N m (EB N m) p v i)) ∧ μ'.1 0 16 = eK0 (nxt o (cnd N m (EB N m) p v i)) := by
              intro o ho
              have e : nxt o (cnd N m (EB N m) p v i) = some (z.1 + N (33 + 12 * m + i), z.2.1 + 1, i) := by rw [hcn]; exact ho
              rw [e]
              exact ⟨_, rfl, fun a ha => by rw [si_ne1 ha, si_ne1 ha], fun k x y => by rw [si_rd, if_neg (fun q => y q.2), si_rd, if_neg (fun q => x q.2)], by rw [si_rd, if_neg (by omega), si_rd, if_pos ⟨rfl, rfl⟩]; rfl, by rw [si_rd, if_pos ⟨rfl, rfl⟩]; rfl⟩
            rw [bfo_succ]
            cases ho : bfo (cnd N m (EB N m) p v) i with
            | none =>
              rw [if_pos (show eF none = -1 from rfl)]
              exact take none rfl
            | some y =>
              obtain ⟨i', hi', hy⟩ := bfo_mem _ ho
              have hyb := cnd_b hO hB hm (show i' < N 0 by omega) hy
              have keep : bet (some y) (z.1 + N (33 + 12 * m + i), z.2.1 + 1, i) = some y → ∃ μ', lp_X7_dearest_16 (nI p) (nI v) (nI m) f (eF (some y)) (nI (i + 1)) (si (si μ 0 15 (eS (some y))) 0 16 (eK0 (some y))) K = lp_X7_dearest_16 (nI p) (nI v) (nI m) f (eF (nxt (some y) (cnd N m (EB N m) p v i))) (nI (i + 1)) μ' K ∧ (∀ a, a ≠ 0 → μ'.1 a = μ.1 a) ∧ (∀ k, k ≠ 15 → k ≠ 16 → μ'.1 0 k = μ.1 0 k) ∧ μ'.1 0 15 = eS (nxt (some y) (cnd N m (EB N m) p v i)) ∧ μ'.1 0 16 = eK0 (nxt (some y) (cnd N m (EB N m) p v i)) := by
                intro hk
                have e : nxt (some y) (cnd N m (EB N m) p v i) = some y := by rw [hcn]; exact hk
                rw [e]
                exact ⟨_, rfl, fun a ha => by rw [si_ne1 ha, si_ne1 ha], fun k x y => by rw [si_rd, if_neg (fun q => y q.2), si_rd, if_neg (fun q => x q.2)], by rw [si_rd, if_neg (by omega), si_rd, if_pos ⟨rfl, rfl⟩], by rw [si_rd, if_pos ⟨rfl, rfl⟩]⟩
              have s1 : eS (some y) = nI y.1 := rfl
              have k1 : eK0 (some y) = nI y.2.1 := rfl
              rw [if_neg (show ¬ eF (some y) = -1 from nI_m1 (by omega))]
              by_cases c1 : y.1 < z.1 + N (33 + 12 * m + i)
              · rw [if_pos (by rw [s1]; exact (nI_ltI (by omega) (by omega)).mpr c1)]
                exact take (some y) (by unfold bet; simp only; rw [if_pos (Or.inl c1)])
              · rw [if_neg (show ¬ eS (some y) < nI (z.1 + N (33 + 12 * m + i)) by rw [s1, nI_ltI (by omega) (by omega)]; exact c1)]
                by_cases c2 : z.1 + N (33 + 12 * m + i) = y.1
                · rw [if_pos (show nI (z.1 + N (33 + 12 * m + i)) = eS (some y) by rw [s1, c2])]
                  by_cases c3 : y.2.1 ≤ z.2.1 + 1
                  · rw [if_pos (show eK0 (some y) ≤ nI (z.2.1 + 1) by rw [k1]; exact (nI_leI (by omega) (by omega)).mpr c3)]
                    exact keep (by unfold bet; simp only; rw [if_neg (by omega)])
                  · rw [if_neg (show ¬ eK0 (some y) ≤ nI (z.2.1 + 1) by rw [k1, nI_leI (by omega) (by omega)]; exact c3)]
                    exact take (some y) (by unfold bet; simp only; rw [if_pos (Or.inr ⟨c2, by omega⟩)])
                · rw [if_neg (show ¬ nI (z.1 + N (33 + 12 * m + i)) = eS (some y) by rw [s1, nI_eq (by omega) (by omega)]; exact c2)]
                  exact keep (by unfold bet; simp only; rw [if_neg (by omega)])
      · rw [if_pos ((bI_ne _).mpr (by simpa using hb0))]
        exact skip (by unfold cnd; rw [if_neg (fun q => hb0 q.1)])
    obtain ⟨μ', k1, k2, k3, k4, k5⟩ := key
    obtain ⟨μ2, g1, g2, g3, g4, g5⟩ := ih f (i + 1) μ' (by omega) (by omega) (fun k hk => by rw [k2 1 (by omega)]; exact hs k hk) (by unfold CF at *; rw [k3 7 (by omega) (by omega)]; exact hc) (fun q x y s h4 => by rw [k2 8 (by omega), k2 9 (by omega), k2 10 (by omega)]; exact hb q x y s h4) k4 k5
    exact ⟨μ2, k1.trans g1, fun a ha => by rw [g2 a ha, k2 a ha], fun k x y => by rw [g3 k x y, k3 k x y], g4, g5⟩
theorem dearM {B : Nat} {N : Nat → Nat} (hO : Ok B N) (hB : B < 2 ^ 24) {m : Nat} (hm : m < 3) {p v : Nat} (hp : p ≤ 40) (hv : v ≤ 15) {μ : Mm} (hs : MR μ N) (hc : CF μ true) (hb : BM N m μ (p + 1)) :
    ∃ μ2, f_X7_dearest (nI p) (nI v) (nI m) μ = some (eF (bfo (cnd N m (EB N m) p v) (N 0)), μ2) ∧ (∀ a, a ≠ 0 → μ2.1 a = μ.1 a) ∧ (∀ k, k ≠ 15 → k ≠ 16 → μ2.1 0 k = μ.1 0 k) ∧ μ2.1 0 15 = eS (bfo (cnd N m (EB N m) p v) (N 0)) ∧ μ2.1 0 16 = eK0 (bfo (cnd N m (EB N m) p v) (N 0)) := by
  have h12 := hO.1.1
  have fr : ∀ a, a ≠ 0 → (si (si μ 0 15 (0 : Int32)) 0 16 (0 : Int32)).1 a = μ.1 a := fun a ha => by rw [si_ne1 ha, si_ne1 ha]
  have fk : ∀ k, k ≠ 15 → k ≠ 16 → (si (si μ 0 15 (0 : Int32)) 0 16 (0 : Int32)).1 0 k = μ.1 0 k := fun k x y => by rw [si_rd, if_neg (fun q => y q.2), si_rd, if_neg (fun q => x q.2)]
  obtain ⟨μ2, g1, g2, g3, g4, g5⟩ := lpDear hO hB hm (fun x15 μ16 => some (x15, μ16)) hp hv (N 0) FU 0 (si (si μ 0 15 (0 : Int32)) 0 16 (0 : Int32)) (by omega) (by unfold FU; omega) (fun k hk => by rw [fr 1 (by omega)]; exact hs k hk) (by unfold CF at *; rw [fk 7 (by omega) (by omega)]; exact hc) (fun q x y s h4 => by rw [fr 8 (by omega), fr 9 (by omega), fr 10 (by omega)]; exact hb q x y s h4) (by rw [si_rd, if_neg (by omega), si_rd, if_pos ⟨rfl, rfl⟩]; rfl) (by rw [si_rd, if_pos ⟨rfl, rfl⟩]; rfl)
  rw [← iz0] at g1
  exact ⟨μ2, g1, fun a ha => by rw [g2 a ha, fr a ha], fun k x y => by rw [g3 k x y, fk k x y], g4, g5⟩
theorem lpL19 {B : Nat} {N : Nat → Nat} (hO : Ok B N) (hB : B < 2 ^ 24) {m : Nat} (hm : m < 3) (K : Mm → Option (Unit × Mm)) {p : Nat} (hp1 : 1 ≤ p) (hp : p ≤ N 1) : ∀ (t f s : Nat) (μ : Mm), s + t = 4 → t < f → MR μ N → CF μ true → BM N m μ (p + 1) → (∀ s2, s2 < s → μ.1 8 (4 * p + s2) = eS (EB N m p s2) ∧ μ.1 9 (4 * p + s2) = eK (EB N m p s2) ∧ μ.1 10 (4 * p + s2) = eG N m p s2) →
    ∃ μ2, lp_X7_laysBest_19 (nI m) (nI (N 1)) (nI p) f (nI s) μ K = K μ2 ∧ FrB μ μ2 ∧ CF μ2 true ∧ BM N m μ2 p := by
  have h40 := hO.1.2.1
  intro t
  induction t with
  | zero =>
    intro f s μ h1 h2 hs hc hb he
    obtain ⟨f, rfl⟩ : ∃ q, f = q + 1 := ⟨f - 1, by omega⟩
    rw [lp_X7_laysBest_19, i4, if_pos ((nI_leI (by omega) (by omega)).mpr (by omega))]
    refine ⟨μ, rfl, FrB.rfl' μ, hc, fun q x y s2 h4 => ?_⟩
    by_cases c : q = p
    · rw [c]; exact he s2 (by omega)
    · exact hb q (by omega) y s2 h4
  | succ t ih =>
    intro f s μ h1 h2 hs hc hb he
    obtain ⟨f, rfl⟩ : ∃ q, f = q + 1 := ⟨f - 1, by omega⟩
    have z4 := i164 p s (by omega) (by omega)
    have e4 : ¬ (4 : Int32) ≤ nI s := by rw [i4, nI_leI (by omega) (by omega)]; omega
    have key : ∃ μa, lp_X7_laysBest_19 (nI m) (nI (N 1)) (nI p) (f + 1) (nI s) μ K = lp_X7_laysBest_19 (nI m) (nI (N 1)) (nI p) f (nI (s + 1)) (si (si (si μa 10 (4 * p + s) (eG N m p s)) 8 (4 * p + s) (eS (EB N m p s))) 9 (4 * p + s) (eK (EB N m p s))) K ∧ (∀ a, a ≠ 0 → μa.1 a = μ.1 a) ∧ (∀ k, k ≠ 15 → k ≠ 16 → μa.1 0 k = μ.1 0 k) := by
      by_cases c : p = N 1
      · have hc2 : nI p = nI (N 1) := by rw [c]
        have h4 := hO.2.1 4 (by omega) (by omega)
        refine ⟨μ, ?_, fun _ _ => rfl, fun _ _ _ => rfl⟩
        have eg : eG N m p s = -1 := by unfold eG; rw [if_pos c]
        rw [lp_X7_laysBest_19, if_neg e4, hs 4 (by omega), hasM h4 (by omega), bd_some, z4.2, eg, nI_1, c, EB_lastS, EB_lastK, ← c]
        simp only [if_pos hc2, if_pos z4.1]
        cases bitN (N 4) s <;> rfl
      · have hc2 : ¬ nI p = nI (N 1) := by rw [nI_eq (by omega) (by omega)]; exact c
        have hv := hO.2.1 (5 + s) (by omega) (by omega)
        obtain ⟨μa, a1, a2, a3, a4, a5⟩ := dearM hO hB hm (show p ≤ 40 by omega) hv hs hc hb
        have eb : bfo (cnd N m (EB N m) p (N (5 + s))) (N 0) = EB N m p s := by
          rw [EB_step hO m (by omega)]
          unfold setP
          rw [if_neg (by omega)]
        rw [eb] at a1 a4 a5
        refine ⟨μa, ?_, a2, a3⟩
        have eg : eG N m p s = eF (EB N m p s) := by unfold eG; rw [if_neg c]
        have er : (si μa 10 (4 * p + s) (eF (EB N m p s))).1 10 (4 * p + s) = eF (EB N m p s) := by rw [si_rd, if_pos ⟨rfl, rfl⟩]
        rw [lp_X7_laysBest_19, if_neg e4, if_neg hc2, i5, nI_add, if_pos (zin_nI (by omega) (by omega)), nI_clamp (by omega), hs (5 + s) (by omega), a1, bd_some, z4.2, eg, nI_1]
        simp only [if_neg hc2, if_pos z4.1]
        rw [er, a4, a5]
        cases hE : EB N m p s with
        | none => rw [if_pos (show eF none = -1 from rfl)]; rfl
        | some y =>
          have : eF (some y) ≠ -1 := by
            rw [EB_step hO m (by omega)] at hE
            obtain ⟨i', hi', hy⟩ := bfo_mem _ hE
            have hyb := cnd_b hO hB hm hi' hy
            have := hO.1.1
            exact nI_m1 (by omega)
          rw [if_neg this]
          rfl
    obtain ⟨μa, k1, k2, k3⟩ := key
    have fr : ∀ a, a ≠ 0 → a ≠ 8 → a ≠ 9 → a ≠ 10 → (si (si (si μa 10 (4 * p + s) (eG N m p s)) 8 (4 * p + s) (eS (EB N m p s))) 9 (4 * p + s) (eK (EB N m p s))).1 a = μ.1 a := fun a x y w v => by rw [si_ne1 w, si_ne1 y, si_ne1 v, k2 a x]
    have fk : ∀ k, k ≠ 15 → k ≠ 16 → (si (si (si μa 10 (4 * p + s) (eG N m p s)) 8 (4 * p + s) (eS (EB N m p s))) 9 (4 * p + s) (eK (EB N m p s))).1 0 k = μ.1 0 k := fun k x y => by rw [si_ne1 (by omega), si_ne1 (by omega), si_ne1 (by omega), k3 k x y]
    have fj : ∀ a j, a ≠ 0 → j ≠ 4 * p + s → (si (si (si μa 10 (4 * p + s) (eG N m p s)) 8 (4 * p + s) (eS (EB N m p s))) 9 (4 * p + s) (eK (EB N m p s))).1 a j = μ.1 a j := fun a j x y => by rw [si_rd, if_neg (fun q => y q.2), si_rd, if_neg (fun q => y q.2), si_rd, if_neg (fun q => y q.2), k2 a x]
    obtain ⟨μ2, g1, g2, g3, g4⟩ := ih f (s + 1) (si (si (si μa 10 (4 * p + s) (eG N m p s)) 8 (4 * p + s) (eS (EB N m p s))) 9 (4 * p + s) (eK (EB N m p s))) (by omega) (by omega) (fun k hk => by rw [fr 1 (by omega) (by omega) (by omega) (by omega)]; exact hs k hk) (by unfold CF at *; rw [fk 7 (by omega) (by omega)]; exact hc) (fun q x y s2 h4 => by rw [fj 8 _ (by omega) (by omega), fj 9 _ (by omega) (by omega), fj 10 _ (by omega) (by omega)]; exact hb q x y s2 h4) (fun s2 hs2 => by
      by_cases c : s2 = s
      · rw [c]
        refine ⟨?_, ?_, ?_⟩
        · rw [si_ne1 (by omega), si_rd, if_pos ⟨rfl, rfl⟩]
        · rw [si_rd, if_pos ⟨rfl, rfl⟩]
        · rw [si_ne1 (by omega), si_ne1 (by omega), si_rd, if_pos ⟨rfl, rfl⟩]
      · rw [fj 8 _ (by omega) (by omega), fj 9 _ (by omega) (by omega), fj 10 _ (by omega) (by omega)]
        exact he s2 (by omega))
    exact ⟨μ2, k1.trans g1, FrB.trans ⟨fun a ha => fr a (by omega) (by omega) (by omega) (by omega), fun k a b c d => fk k c d⟩ g2, g3, g4⟩
theorem lpL12 {B : Nat} {N : Nat → Nat} (hO : Ok B N) (hB : B < 2 ^ 24) {m : Nat} (hm : m < 3) (K : Mm → Option (Unit × Mm)) : ∀ (p f : Nat) (μ : Mm), p ≤ N 1 → p < f → MR μ N → CF μ true → BM N m μ (p + 1) → ∃ μ2, lp_X7_laysBest_12 (nI m) (nI (N 1)) f (nI p) μ K = K μ2 ∧ FrB μ μ2 ∧ CF μ2 true ∧ BM N m μ2 1 := by
  have h40 := hO.1.2.1
  intro p
  induction p with
  | zero =>
    intro f μ h1 h2 hs hc hb
    obtain ⟨f, rfl⟩ : ∃ q, f = q + 1 := ⟨f - 1, by omega⟩
    rw [lp_X7_laysBest_12, if_pos ((le0_iff (by omega)).mpr rfl)]
    exact ⟨μ, rfl, FrB.rfl' μ, hc, hb⟩
  | succ p ih =>
    intro f μ h1 h2 hs hc hb
    obtain ⟨f, rfl⟩ : ∃ q, f = q + 1 := ⟨f - 1, by omega⟩
    rw [lp_X7_laysBest_12, if_neg (by rw [le0_iff (by omega)]; omega), pk_m1]
    obtain ⟨μa, a1, a2, a3, a4⟩ := lpL19 hO hB hm (fun μ40 => lp_X7_laysBest_12 (nI m) (nI (N 1)) f (nI p) μ40 K) (show 1 ≤ p + 1 by omega) h1 4 FU 0 μ (by omega) (by decide) hs hc hb (fun s2 h => by omega)
    rw [← iz0] at a1
    obtain ⟨μ2, g1, g2, g3, g4⟩ := ih f μa (by omega) (by omega) (a2.mr hs) a3 a4
    exact ⟨μ2, a1.trans g1, a2.trans g2, g3, g4⟩
def EB0 (N : Nat → Nat) (m : Nat) : Option (Nat × Nat × Nat) := if N 1 = 0 then none else EB N m 0 0
theorem bfo_none {g : Nat → Option (Nat × Nat × Nat)} : ∀ k, (∀ i, i < k → g i = none) → bfo g k = none := by
  intro k
  induction k with
  | zero => intro _; rfl
  | succ k ih =>
    intro h
    rw [bfo_succ, h k (by omega), ih (fun i hi => h i (by omega))]
    rfl
theorem bestM {B : Nat} {N : Nat → Nat} (hO : Ok B N) (hB : B < 2 ^ 24) {m : Nat} (hm : m < 3) {μ : Mm} (hs : MR μ N) :
    ∃ μ2, f_X7_findsBest (nI m) μ = (if eF (EB0 N m) = (-1 : Int32) then (some ((-1 : Int32), μ2)) else (lp_X7_findsBest_38 (eS (EB0 N m)) FU (eF (EB0 N m)) (0 : Int32) μ2 (fun μ9 => some (eS (EB0 N m), μ9)))) ∧ FrB μ μ2 ∧ CF μ2 true ∧ BM N m μ2 1 ∧ μ2.1 0 11 = nI 0 := by
  have h40 := hO.1.2.1
  have h3 := hO.2.1 3 (by omega) (by omega)
  have hl : lastN N true = N 1 := rfl
  have f0 : FrB μ (si μ 0 7 1) := ⟨fun a ha => si_ne1 (by omega), fun k a b c d => by rw [si_rd, if_neg (fun q => a q.2)]⟩
  have c0 : CF (si μ 0 7 1) true := by unfold CF; rw [si_rd, if_pos ⟨rfl, rfl⟩]; rfl
  have elp : f_X7_lastPlace (si μ 0 7 1) = some (nI (N 1), si μ 0 7 1) := by
    have c1 : (si μ 0 7 1).1 0 7 = 1 := c0
    rw [f_X7_lastPlace, c1, if_neg (by decide), (f0.mr hs) 1 (by omega)]
  obtain ⟨μa, a1, a2, a3, a4⟩ := lpL12 hO hB hm (fun μ41 => some ((), μ41)) (N 1) FU (si μ 0 7 1) (Nat.le_refl _) (by unfold FU; omega) (f0.mr hs) c0 (fun q x y => by omega)
  have sa := a2.mr (f0.mr hs)
  have f1 : FrB μa (si μa 0 11 (0 : Int32)) := ⟨fun a ha => si_ne1 (by omega), fun k a b c d => by rw [si_rd, if_neg (fun q => b q.2)]⟩
  obtain ⟨μb, b1, b2, b3, b4, b5⟩ := dearM hO hB hm (show 0 ≤ 40 by omega) h3 (f1.mr sa) (by unfold CF at *; rw [si_rd, if_neg (by omega)]; exact a3) (fun q x y s h4 => by rw [si_ne1 (by omega), si_ne1 (by omega), si_ne1 (by omega)]; exact a4 q x y s h4)
  rw [← iz0] at b1
  have eb : bfo (cnd N m (EB N m) 0 (N 3)) (N 0) = EB0 N m := by
    unfold EB0
    by_cases c : N 1 = 0
    · rw [if_pos c]
      refine bfo_none _ (fun i hi => ?_)
      unfold cnd
      rw [if_neg]
      rintro ⟨-, x⟩
      have := LN_gt hO hi x
      omega
    · rw [if_neg c, EB_step hO m (by omega)]
      rfl
  rw [eb] at b1 b4 b5
  refine ⟨μb, ?_, (f0.trans a2).trans (f1.trans ⟨fun a ha => b2 a (by omega), fun k a b c d => b3 k c d⟩), by unfold CF at *; rw [b3 7 (by omega) (by omega), si_rd, if_neg (by omega)]; exact a3, fun q x y s h4 => by rw [b2 8 (by omega), b2 9 (by omega), b2 10 (by omega), si_ne1 (by omega), si_ne1 (by omega), si_ne1 (by omega)]; exact a4 q x y s h4, by rw [b3 11 (by omega) (by omega), si_rd, if_pos ⟨rfl, rfl⟩]; exact iz0⟩
  rw [f_X7_findsBest, f_X7_laysBest, elp, bd_some, a1, bd_some, sa 3 (by omega), b1, bd_some, b4]
