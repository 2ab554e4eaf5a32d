/-! the ways that the reference counts -/
def trm (N : Nat → Nat) (cut : Bool) (m : Option Nat) (p v : Nat) (i : Nat) : Nat := if bitN v (N (9 + i)) = true ∧ LNn N cut p i ≠ 0 then wN N m i * OV N cut m (LNn N cut p i) (N (9 + i)) else 0
theorem OV_trm {B : Nat} {N : Nat → Nat} (hO : Ok B N) (cut : Bool) (m : Option Nat) {p s : Nat} (hp : p < lastN N cut) : OV N cut m p s = sumN (trm N cut m p (setP N p s)) (N 0) := OV_step hO cut m hp
theorem sumEx {B : Nat} {N : Nat → Nat} (hO : Ok B N) (hB : B < 2 ^ 30) {cut : Bool} {m : Option Nat} (hm : okm m) (K : Int64 → Mm → Option (Int64 × Mm)) {p v : Nat} (hp : p ≤ 40) (hv : v ≤ 15) (hbr : brN N cut p = false) : ∀ (t f i : Nat) (μ : Mm), i + t = N 0 → t < f → MR μ N → CF μ cut → Tab (μ.2 6) N cut m (p + 1) → sumN (trm N cut m p v) i ≤ MX →
    (sumN (trm N cut m p v) (N 0) ≤ MX → lp_X7_sumFrom_6 (nI p) (nI v) (mk m) f (lN (sumN (trm N cut m p v) i)) (nI i) μ K = K (lN (sumN (trm N cut m p v) (N 0))) μ) ∧
    (MX < sumN (trm N cut m p v) (N 0) → ∃ r μ2, lp_X7_sumFrom_6 (nI p) (nI v) (mk m) f (lN (sumN (trm N cut m p v) i)) (nI i) μ K = K r μ2 ∧ FrF μ μ2 ∧ μ2.1 0 9 = 1) := by
  have h12 := hO.1.1
  have hl := last_le hO cut
  intro t
  induction t with
  | zero =>
    intro f i μ h1 h2 hs hc hT hS
    obtain ⟨f, rfl⟩ : ∃ q, f = q + 1 := ⟨f - 1, by omega⟩
    rw [lp_X7_sumFrom_6, hs 0 (by omega), if_pos ((nI_leI (by omega) (by omega)).mpr (by omega)), show i = N 0 by omega]
    rw [show i = N 0 by omega] at hS
    exact ⟨fun _ => rfl, fun q => by omega⟩
  | succ t ih =>
    intro f i μ h1 h2 hs hc hT hS
    obtain ⟨f, rfl⟩ : ∃ q, f = q + 1 := ⟨f - 1, by omega⟩
    have hsl := hO.2.2.1 i (by omega)
    have hmono : sumN (trm N cut m p v) (i + 1) ≤ sumN (trm N cut m p v) (N 0) := sumN_mono (by omega)
    have skip : trm N cut m p v i = 0 → lp_X7_sumFrom_6 (nI p) (nI v) (mk m) (f + 1) (lN (sumN (trm N cut m p v) i)) (nI i) μ K = lp_X7_sumFrom_6 (nI p) (nI v) (mk m) f (lN (sumN (trm N cut m p v) i)) (nI (i + 1)) μ K → (sumN (trm N cut m p v) (N 0) ≤ MX → lp_X7_sumFrom_6 (nI p) (nI v) (mk m) (f + 1) (lN (sumN (trm N cut m p v) i)) (nI i) μ K = K (lN (sumN (trm N cut m p v) (N 0))) μ) ∧
    (MX < sumN (trm N cut m p v) (N 0) → ∃ r μ2, lp_X7_sumFrom_6 (nI p) (nI v) (mk m) (f + 1) (lN (sumN (trm N cut m p v) i)) (nI i) μ K = K r μ2 ∧ FrF μ μ2 ∧ μ2.1 0 9 = 1) := by
      intro h0 e
      have es : sumN (trm N cut m p v) (i + 1) = sumN (trm N cut m p v) i := by rw [sumN_succ, h0, Nat.add_zero]
      have := ih f (i + 1) μ (by omega) (by omega) hs hc hT (by rw [es]; exact hS)
      rw [es] at this
      rw [e]
      exact this
    have e0 : lp_X7_sumFrom_6 (nI p) (nI v) (mk m) (f + 1) (lN (sumN (trm N cut m p v) i)) (nI i) μ K = if bI (bitN v (N (9 + i))) = 0 then lp_X7_sumFrom_6 (nI p) (nI v) (mk m) f (lN (sumN (trm N cut m p v) i)) (nI (i + 1)) μ K else (if leadI N cut p i = (-1 : Int32) then lp_X7_sumFrom_6 (nI p) (nI v) (mk m) f (lN (sumN (trm N cut m p v) i)) (nI (i + 1)) μ K else (if zin (nI 4 * leadI N cut p i + nI (N (9 + i))) 164 then (bd (f_X7_more (lN (sumN (trm N cut m p v) i)) (nI (wN N m i)).toInt64 (μ.2 6 (nI 4 * leadI N cut p i + nI (N (9 + i))).toNatClampNeg) μ) fun r10 μ11 => lp_X7_sumFrom_6 (nI p) (nI v) (mk m) f r10 (nI (i + 1)) μ11 K) else none)) := by
      rw [lp_X7_sumFrom_6, hs 0 (by omega), if_neg (by rw [nI_leI (by omega) (by omega)]; omega), i9, nI_add, if_pos (zin_nI (by omega) (by omega)), nI_clamp (by omega), hs _ (by omega), hasM hv (by omega), bd_some, nI_1, leadsM hO hs hc hp (by omega), bd_some, weightM hO hB hs hm (by omega), bd_some, if_pos (zin_nI (show 9 + i < 148 by omega) (by omega)), hs _ (by omega), ← i4]
    by_cases hb : bitN v (N (9 + i)) = true
    · rw [if_neg (by rw [hb]; decide)] at e0
      rcases lead_range hO (cut := cut) (p := p) (show i < N 0 by omega) with q | ⟨q1, q2, q3, q4⟩
      · rw [if_pos q] at e0
        refine skip ?_ e0
        unfold trm
        by_cases d : bitN v (N (9 + i)) = true ∧ LNn N cut p i ≠ 0
        · rw [if_pos d]
          have hg := LN_gt hO (show i < N 0 by omega) d.2
          have hbt : brN N cut (LNn N cut p i) = true := by
            cases hx : brN N cut (LNn N cut p i) with
            | true => rfl
            | false =>
              rw [hg.1] at hx
              have := lead_some (p := p) (i := i) rfl (by rw [← hg.1]; exact d.2) hx
              rw [this] at q
              have : nI (tgN N cut p i) < 0 := by rw [q]; decide +kernel
              exact absurd this (nI_pos (by rw [← hg.1]; omega))
          have hlt : LNn N cut p i < lastN N cut := by
            have hbt2 := hbt
            unfold brN at hbt2
            cases cut with
            | true => simp at hbt2
            | false => simp at hbt2; have : lastN N false = N 2 := rfl; omega
          rw [OV_br hO cut m hlt hbt, Nat.mul_zero]
        · rw [if_neg d]
      · have h4 := tg_gt hO (show i < N 0 by omega) q1
        have hw := wN_b hO hB hm (show i < 12 by omega)
        have hLN : LNn N cut p i = tgN N cut p i := by unfold LNn; rw [if_neg (by rw [hbr]; decide)]
        have ht := hT (tgN N cut p i) (by omega) h4.2 (N (9 + i)) (by omega)
        have et : trm N cut m p v i = wN N m i * OV N cut m (tgN N cut p i) (N (9 + i)) := by
          unfold trm
          rw [if_pos ⟨hb, by rw [hLN]; exact q1⟩, hLN]
        rw [if_neg q4, q3, pk_mul, nI_add, if_pos (zin_nI (by omega) (by omega)), nI_clamp (by omega), ht.2, nI_l (by omega), moreM hS (by omega) ht.1, ← et, ← sumN_succ] at e0
        by_cases d : sumN (trm N cut m p v) (i + 1) ≤ MX
        · rw [if_pos d, bd_some] at e0
          rw [e0]
          exact ih f (i + 1) μ (by omega) (by omega) hs hc hT d
        · rw [if_neg d, bd_some] at e0
          rw [e0]
          refine ⟨fun q => by omega, fun _ => ?_⟩
          obtain ⟨r, μ2, g1, g2⟩ := sumAny hO hB hm K hp hv t f (i + 1) (lN (sumN (trm N cut m p v) i)) (si μ 0 9 1) (by omega) (by omega) ((FrF.set μ).mr hs) ((FrF.set μ).cf hc)
          exact ⟨r, μ2, g1, (FrF.set μ).trans g2, g2.one (by rw [si_rd, if_pos ⟨rfl, rfl⟩])⟩
    · rw [if_pos ((bI_ne _).mpr (by simpa using hb))] at e0
      exact skip (by unfold trm; rw [if_neg (fun q => hb q.1)]) e0
/-- nothing but the counting of the reference changes -/
def FrW (μ μ2 : Mm) : Prop := (∀ a, a ≠ 0 → μ2.1 a = μ.1 a) ∧ (∀ k, k ≠ 7 → k ≠ 9 → μ2.1 0 k = μ.1 0 k) ∧ ∀ a, a ≠ 6 → μ2.2 a = μ.2 a
theorem FrW.trans {μ μ2 μ3 : Mm} (h : FrW μ μ2) (g : FrW μ2 μ3) : FrW μ μ3 := ⟨fun a ha => (g.1 a ha).trans (h.1 a ha), fun k h1 h2 => (g.2.1 k h1 h2).trans (h.2.1 k h1 h2), fun a ha => (g.2.2 a ha).trans (h.2.2 a ha)⟩
theorem FrW.rfl' (μ : Mm) : FrW μ μ := ⟨fun _ _ => rfl, fun _ _ _ => rfl, fun _ _ => rfl⟩
theorem FrF.w {μ μ2 : Mm} (h : FrF μ μ2) : FrW μ μ2 := ⟨h.2.1, fun k _ h2 => h.2.2.1 k h2, fun a _ => by rw [h.1]⟩
def WS (N : Nat → Nat) (cut : Bool) (m : Option Nat) (μ : Mm) (p s : Nat) : Prop := MR μ N ∧ CF μ cut ∧ ((μ.1 0 9 = 0 ∧ Tab (μ.2 6) N cut m (p + 1) ∧ ∀ s2, s2 < s → OV N cut m p s2 ≤ MX ∧ μ.2 6 (4 * p + s2) = lN (OV N cut m p s2)) ∨ (μ.1 0 9 = 1 ∧ ¬ AllLe N cut m))
theorem WS_put {N : Nat → Nat} {cut : Bool} {m : Option Nat} {μ : Mm} {p s : Nat} (hs4 : s < 4) (h : WS N cut m μ p s) (v : Int64) (hv : μ.1 0 9 = 0 → OV N cut m p s ≤ MX ∧ v = lN (OV N cut m p s)) : WS N cut m (sj μ 6 (4 * p + s) v) p (s + 1) ∧ FrW μ (sj μ 6 (4 * p + s) v) := by
  obtain ⟨h1, h2, h3⟩ := h
  refine ⟨⟨h1, h2, ?_⟩, fun _ _ => rfl, fun _ _ _ => rfl, fun a ha => (sj_ne a ha).2⟩
  rcases h3 with ⟨a, b, c⟩ | ⟨a, b⟩
  · refine Or.inl ⟨a, fun q x y z hz => ?_, fun s2 hs2 => ?_⟩
    · rw [sj_rd, if_neg (by omega)]
      exact b q x y z hz
    · rw [sj_rd]
      by_cases d : s2 = s
      · rw [d, if_pos ⟨rfl, rfl⟩]
        exact hv a
      · rw [if_neg (by omega)]
        exact c s2 (by omega)
  · exact Or.inr ⟨a, b⟩
theorem sumStep {B : Nat} {N : Nat → Nat} (hO : Ok B N) (hB : B < 2 ^ 30) {cut : Bool} {m : Option Nat} (hm : okm m) {μ : Mm} {p s : Nat} (hs4 : s < 4) (hp1 : 1 ≤ p) (hp : p < lastN N cut) (hbr : brN N cut p = false) (h : WS N cut m μ p s) : ∃ r μ2, f_X7_sumFrom (nI p) (nI (N (5 + s))) (mk m) μ = some (r, μ2) ∧ WS N cut m μ2 p s ∧ FrF μ μ2 ∧ (μ2.1 0 9 = 0 → OV N cut m p s ≤ MX ∧ r = lN (OV N cut m p s)) := by
  have hl := last_le hO cut
  have h12 := hO.1.1
  obtain ⟨h1, h2, h3⟩ := h
  have hv := hO.2.1 (5 + s) (by omega) (by omega)
  rcases h3 with ⟨a, b, c⟩ | ⟨a, b⟩
  · have e := OV_trm hO cut m (s := s) hp
    rw [show setP N p s = N (5 + s) by unfold setP; rw [if_neg (by omega)]] at e
    have main := sumEx hO hB hm (fun x12 μ13 => some (x12, μ13)) (show p ≤ 40 by omega) hv hbr (N 0) FU 0 μ (by omega) (by unfold FU; omega) h1 h2 b (by unfold sumN MX; omega)
    rw [← iz0, show lN (sumN (trm N cut m p (N (5 + s))) 0) = 0 from l0.symm, ← e] at main
    by_cases d : OV N cut m p s ≤ MX
    · exact ⟨_, _, main.1 d, ⟨h1, h2, Or.inl ⟨a, b, c⟩⟩, FrF.rfl' μ, fun _ => ⟨d, rfl⟩⟩
    · obtain ⟨r, μ2, g1, g2, g3⟩ := main.2 (by omega)
      refine ⟨r, μ2, g1, ⟨g2.mr h1, g2.cf h2, Or.inr ⟨g3, fun q => d (q p hp s hs4)⟩⟩, g2, fun q => ?_⟩
      rw [g3] at q
      exact absurd q (by decide)
  · obtain ⟨r, μ2, g1, g2⟩ := sumAny hO hB hm (fun x12 μ13 => some (x12, μ13)) (show p ≤ 40 by omega) hv (N 0) FU 0 0 μ (by omega) (by unfold FU; omega) h1 h2
    rw [← iz0] at g1
    refine ⟨r, μ2, g1, ⟨g2.mr h1, g2.cf h2, Or.inr ⟨g2.one a, b⟩⟩, g2, fun q => ?_⟩
    rw [g2.one a] at q
    exact absurd q (by decide)
def cI (cut : Bool) : Int32 := if cut then 1 else 0
theorem i164 (p s : Nat) (hp : p ≤ 40) (hs : s < 4) : zin (((4 : Int32) * nI p) + nI s) 164 = true ∧ ((((4 : Int32) * nI p) + nI s).toNatClampNeg) = 4 * p + s := by
  rw [i4, pk_mul, nI_add]
  exact ⟨zin_nI (by omega) (by omega), nI_clamp (by omega)⟩
theorem endM {B : Nat} {N : Nat → Nat} (hO : Ok B N) {μ : Mm} (hs : MR μ N) {s : Nat} (hs4 : s < 4) : ((((μ.1 1 4) >>> ((nI s) &&& 31)) &&& (1 : Int32)).toInt64) = lN (endB N s) := by
  have h4 := hO.2.1 4 (by omega) (by omega)
  have he := endB_le N s
  rw [hs 4 (by omega), bit_dec _ (by omega) s hs4]
  exact nI_l (by unfold endB at he; omega)
theorem lpW26 {B : Nat} {N : Nat → Nat} (hO : Ok B N) (hB : B < 2 ^ 30) {cut : Bool} {m : Option Nat} (hm : okm m) (K : Mm → Option (Int64 × Mm)) {p : Nat} (hp1 : 1 ≤ p) (hp : p ≤ lastN N cut) : ∀ (t f s : Nat) (μ : Mm), s + t = 4 → t < f → WS N cut m μ p s → ∃ μ2, lp_X7_laysWays_26 (cI cut) (mk m) (nI (lastN N cut)) (nI p) f (nI s) μ K = K μ2 ∧ WS N cut m μ2 p 4 ∧ FrW μ μ2 := by
  have hl := last_le hO cut
  intro t
  induction t with
  | zero =>
    intro f s μ h1 h2 hw
    obtain ⟨f, rfl⟩ : ∃ q, f = q + 1 := ⟨f - 1, by omega⟩
    rw [lp_X7_laysWays_26, i4, if_pos ((nI_leI (by omega) (by omega)).mpr (by omega)), show s = 4 by omega] at *
    exact ⟨μ, rfl, hw, FrW.rfl' μ⟩
  | succ t ih =>
    intro f s μ h1 h2 hw
    obtain ⟨f, rfl⟩ : ∃ q, f = q + 1 := ⟨f - 1, by omega⟩
    have key : ∃ μ', lp_X7_laysWays_26 (cI cut) (mk m) (nI (lastN N cut)) (nI p) (f + 1) (nI s) μ K = lp_X7_laysWays_26 (cI cut) (mk m) (nI (lastN N cut)) (nI p) f (nI (s + 1)) μ' K ∧ WS N cut m μ' p (s + 1) ∧ FrW μ μ' := by
      have z := i164 p s (by omega) (by omega)
      have hs := hw.1
      have e4 : ¬ (4 : Int32) ≤ nI s := by rw [i4, nI_leI (by omega) (by omega)]; omega
      have hlast : p = lastN N cut → WS N cut m (sj μ 6 (4 * p + s) (lN (endB N s))) p (s + 1) ∧ FrW μ (sj μ 6 (4 * p + s) (lN (endB N s))) := fun c => WS_put (by omega) hw _ (fun _ => by
        have := endB_le N s
        rw [c, OV_last]
        exact ⟨by unfold MX; omega, rfl⟩)
      have hsum : p < lastN N cut → brN N cut p = false → ∃ μ', (bd (f_X7_sumFrom (nI p) (μ.1 1 (((5 : Int32) + nI s).toNatClampNeg)) (mk m) μ) fun r7 μ8 => if zin (((4 : Int32) * nI p) + nI s) 164 then (lp_X7_laysWays_26 (cI cut) (mk m) (nI (lastN N cut)) (nI p) f (nI (s + 1)) (sj μ8 6 ((((4 : Int32) * nI p) + nI s).toNatClampNeg) r7) K) else none) = lp_X7_laysWays_26 (cI cut) (mk m) (nI (lastN N cut)) (nI p) f (nI (s + 1)) μ' K ∧ WS N cut m μ' p (s + 1) ∧ FrW μ μ' := by
        intro c d
        obtain ⟨r, μa, a1, a2, a3, a4⟩ := sumStep hO hB hm (show s < 4 by omega) hp1 c d hw
        rw [i5, nI_add, nI_clamp (by omega), hs _ (by omega), a1, bd_some, if_pos z.1, z.2]
        have := WS_put (by omega) a2 r a4
        exact ⟨_, rfl, this.1, a3.w.trans this.2⟩
      have z5 : zin ((5 : Int32) + nI s) 148 = true := by rw [i5, nI_add]; exact zin_nI (by omega) (by omega)
      cases cut with
      | true =>
        by_cases c : p = lastN N true
        · refine ⟨_, ?_, hlast c⟩
          rw [lp_X7_laysWays_26, if_neg e4, if_neg (show ¬ cI true = 0 by decide), if_pos (by rw [c]), if_pos z.1, z.2, endM hO hs (by omega), nI_1]
        · rw [lp_X7_laysWays_26, if_neg e4, if_neg (show ¬ cI true = 0 by decide), if_neg (by rw [nI_eq (by omega) (by omega)]; exact c), if_pos z5, nI_1]
          exact hsum (by omega) rfl
      | false =>
        have hlF : lastN N false = N 2 := rfl
        have eb : (decide (p < N 2) && (decide (0 < p) && decide (N (108 + p) = 2))) = brN N false p := by
          unfold brN
          rw [decide_eq_true (show 1 ≤ p by omega), decide_eq_true (show 0 < p by omega)]
          simp
        rw [lp_X7_laysWays_26, if_neg e4, if_pos (show cI false = 0 from rfl), i2, isMarkM hO hs (by omega) (by omega), bd_some, eb, nI_1]
        by_cases c : p = lastN N false
        · have hb : brN N false p = false := by
            unfold brN
            rw [decide_eq_false (show ¬ p < N 2 by omega)]
            simp
          refine ⟨_, ?_, hlast c⟩
          rw [if_pos ((bI_ne _).mpr hb), if_pos (by rw [c]), if_pos z.1, z.2, endM hO hs (by omega)]
        · have c2 : ¬ nI p = nI (lastN N false) := by rw [nI_eq (by omega) (by omega)]; exact c
          cases hb : brN N false p with
          | false =>
            rw [if_pos (show bI false = 0 from rfl), if_neg c2, if_pos z5]
            exact hsum (by omega) hb
          | true =>
            rw [if_neg (show ¬ bI true = 0 by decide), if_neg c2, if_pos z.1, z.2]
            refine ⟨_, rfl, WS_put (by omega) hw _ (fun _ => ?_)⟩
            rw [OV_br hO false m (by omega) hb]
            exact ⟨by omega, l0⟩
    obtain ⟨μa, e1, e2, e3⟩ := key
    obtain ⟨μ2, g1, g2, g3⟩ := ih f (s + 1) μa (by omega) (by omega) e2
    exact ⟨μ2, e1.trans g1, g2, e3.trans g3⟩
def W0 (N : Nat → Nat) (cut : Bool) (m : Option Nat) (μ : Mm) (p : Nat) : Prop := MR μ N ∧ CF μ cut ∧ ((μ.1 0 9 = 0 ∧ Tab (μ.2 6) N cut m p) ∨ (μ.1 0 9 = 1 ∧ ¬ AllLe N cut m))
theorem lpW18 {B : Nat} {N : Nat → Nat} (hO : Ok B N) (hB : B < 2 ^ 30) {cut : Bool} {m : Option Nat} (hm : okm m) (K : Mm → Option (Int64 × Mm)) : ∀ (p f : Nat) (μ : Mm), p ≤ lastN N cut → p < f → W0 N cut m μ (p + 1) → ∃ μ2, lp_X7_laysWays_18 (cI cut) (mk m) (nI (lastN N cut)) f (nI p) μ K = K μ2 ∧ W0 N cut m μ2 1 ∧ FrW μ μ2 := by
  have hl := last_le hO cut
  intro p
  induction p with
  | zero =>
    intro f μ h1 h2 hw
    obtain ⟨f, rfl⟩ : ∃ q, f = q + 1 := ⟨f - 1, by omega⟩
    rw [lp_X7_laysWays_18, if_pos ((le0_iff (by omega)).mpr rfl)]
    exact ⟨μ, rfl, hw, FrW.rfl' μ⟩
  | succ p ih =>
    intro f μ h1 h2 hw
    obtain ⟨f, rfl⟩ : ∃ q, f = q + 1 := ⟨f - 1, by omega⟩
    rw [lp_X7_laysWays_18, if_neg (by rw [le0_iff (by omega)]; omega), pk_m1]
    obtain ⟨μa, a1, a2, a3⟩ := lpW26 hO hB hm (fun μ16 => lp_X7_laysWays_18 (cI cut) (mk m) (nI (lastN N cut)) f (nI p) μ16 K) (show 1 ≤ p + 1 by omega) h1 4 FU 0 μ (by omega) (by decide) ⟨hw.1, hw.2.1, by
      rcases hw.2.2 with ⟨a, b⟩ | h
      · exact Or.inl ⟨a, b, fun s2 hs2 => by omega⟩
      · exact Or.inr h⟩
    rw [← iz0] at a1
    obtain ⟨μ2, g1, g2, g3⟩ := ih f μa (by omega) (by omega) ⟨a2.1, a2.2.1, by
      rcases a2.2.2 with ⟨a, b, c⟩ | h
      · refine Or.inl ⟨a, fun q x y s hs => ?_⟩
        by_cases d : q = p + 1
        · rw [d]; exact c s hs
        · exact b q (by omega) y s hs
      · exact Or.inr h⟩
    exact ⟨μ2, a1.trans g1, g2, a3.trans g3⟩
theorem OV_00 {B : Nat} {N : Nat → Nat} (hO : Ok B N) (cut : Bool) (m : Option Nat) (s : Nat) (h : lastN N cut ≠ 0) : OV N cut m 0 s = OV N cut m 0 0 := by
  rw [OV_trm hO cut m (by omega), OV_trm hO cut m (by omega)]
  rfl
theorem br0 (N : Nat → Nat) (cut : Bool) : brN N cut 0 = false := by unfold brN; simp
theorem waysM {B : Nat} {N : Nat → Nat} (hO : Ok B N) (hB : B < 2 ^ 30) {cut : Bool} {m : Option Nat} (hm : okm m) {μ : Mm} (hs : MR μ N) :
    (AllLe N cut m → cnt0 N cut m ≤ MX ∧ ∃ μ2, f_X7_waysOr (cI cut) (mk m) μ = some (lN (cnt0 N cut m), μ2) ∧ CF μ2 cut ∧ FrW μ μ2 ∧ Tab (μ2.2 6) N cut m 1 ∧ μ2.1 0 9 = 0) ∧
    (¬ AllLe N cut m → ∃ μ2, f_X7_waysOr (cI cut) (mk m) μ = some (-5, μ2) ∧ FrW μ μ2) := by
  have hl := last_le hO cut
  have h12 := hO.1.1
  have h3 := hO.2.1 3 (by omega) (by omega)
  have f0 : FrW μ (si (si μ 0 7 (cI cut)) 0 9 0) := ⟨fun a ha => by rw [si_ne1 ha, si_ne1 ha], fun k h1 h2 => by rw [si_rd, if_neg (fun q => h2 q.2), si_rd, if_neg (fun q => h1 q.2)], fun _ _ => rfl⟩
  have c0 : CF (si (si μ 0 7 (cI cut)) 0 9 0) cut := by unfold CF; rw [si_rd, if_neg (by omega), si_rd, if_pos ⟨rfl, rfl⟩]; rfl
  have s0 : MR (si (si μ 0 7 (cI cut)) 0 9 0) N := fun k hk => by rw [f0.1 1 (by omega)]; exact hs k hk
  have elp : f_X7_lastPlace (si (si μ 0 7 (cI cut)) 0 9 0) = some (nI (lastN N cut), si (si μ 0 7 (cI cut)) 0 9 0) := by
    rw [f_X7_lastPlace]
    cases cut with
    | true =>
      have c1 : (si (si μ 0 7 (cI true)) 0 9 0).1 0 7 = 1 := c0
      rw [c1, if_neg (by decide), s0 1 (by omega)]; rfl
    | false =>
      have c1 : (si (si μ 0 7 (cI false)) 0 9 0).1 0 7 = 0 := c0
      rw [c1, if_pos rfl, s0 2 (by omega)]; rfl
  obtain ⟨μa, a1, a2, a3⟩ := lpW18 hO hB hm (fun μ17 => bd (f_X7_sumFrom (0 : Int32) (μ17.1 1 3) (mk m) μ17) fun r18 μ19 => some (r18, μ19)) (lastN N cut) FU (si (si μ 0 7 (cI cut)) 0 9 0) (Nat.le_refl _) (by unfold FU; omega) ⟨s0, c0, Or.inl ⟨by rw [si_rd, if_pos ⟨rfl, rfl⟩], fun q x y => by omega⟩⟩
  have hc : cI cut = 0 ∨ cI cut = 1 := by cases cut <;> decide
  have e0 : f_X7_laysWays (cI cut) (mk m) μ = bd (f_X7_sumFrom (0 : Int32) (μa.1 1 3) (mk m) μa) fun r18 μ19 => some (r18, μ19) := by
    rw [f_X7_laysWays, if_pos hc, elp, bd_some, a1]
  rw [f_X7_waysOr, e0, a2.1 3 (by omega), bd_id]
  rcases a2.2.2 with ⟨b1, b2⟩ | ⟨b1, b2⟩
  · have main := sumEx hO hB hm (fun x12 μ13 => some (x12, μ13)) (show 0 ≤ 40 by omega) h3 (br0 N cut) (N 0) FU 0 μa (by omega) (by unfold FU; omega) a2.1 a2.2.1 b2 (by unfold sumN MX; omega)
    rw [← iz0, show lN (sumN (trm N cut m 0 (N 3)) 0) = 0 from l0.symm] at main
    have ec : sumN (trm N cut m 0 (N 3)) (N 0) = cnt0 N cut m := by
      unfold cnt0
      by_cases c : lastN N cut = 0
      · rw [if_pos c]
        refine sumN_0 _ (fun i hi => ?_)
        unfold trm
        rw [if_neg]
        rintro ⟨-, q⟩
        have := LN_gt hO hi q
        omega
      · rw [if_neg c, OV_trm hO cut m (by omega)]
        rfl
    rw [ec] at main
    have hall : AllLe N cut m ↔ cnt0 N cut m ≤ MX := by
      unfold cnt0
      by_cases c : lastN N cut = 0
      · rw [if_pos c]
        exact ⟨fun _ => by omega, fun _ p hp => by omega⟩
      · rw [if_neg c]
        constructor
        · intro q; exact q 0 (by omega) 0 (by omega)
        · intro q p hp s hs
          by_cases d : p = 0
          · rw [d, OV_00 hO cut m s c]; exact q
          · exact (b2 p (by omega) (by omega) s hs).1
    constructor
    · intro q
      have q2 := hall.mp q
      have e1 : f_X7_sumFrom 0 (nI (N 3)) (mk m) μa = some (lN (cnt0 N cut m), μa) := main.1 q2
      refine ⟨q2, μa, ?_, a2.2.1, f0.trans a3, b2, b1⟩
      rw [e1, bd_some, if_pos b1]
    · intro q
      have q2 : MX < cnt0 N cut m := by
        have := mt hall.mpr q
        omega
      obtain ⟨r, μ2, g1, g2, g3⟩ := main.2 q2
      have e1 : f_X7_sumFrom 0 (nI (N 3)) (mk m) μa = some (r, μ2) := g1
      refine ⟨μ2, ?_, f0.trans (a3.trans g2.w)⟩
      rw [e1, bd_some, if_neg (by rw [g3]; decide)]
  · refine ⟨fun q => absurd q b2, fun _ => ?_⟩
    obtain ⟨r, μ2, g1, g2⟩ := sumAny hO hB hm (fun x12 μ13 => some (x12, μ13)) (show 0 ≤ 40 by omega) h3 (N 0) FU 0 0 μa (by omega) (by unfold FU; omega) a2.1 a2.2.1
    rw [← iz0] at g1
    have e1 : f_X7_sumFrom 0 (nI (N 3)) (mk m) μa = some (r, μ2) := g1
    refine ⟨μ2, ?_, f0.trans (a3.trans g2.w)⟩
    rw [e1, bd_some, if_neg (by rw [g2.one b1]; decide)]
