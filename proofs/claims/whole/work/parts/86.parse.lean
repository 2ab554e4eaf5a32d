/-! all orders of THE TEXT -/
def prs (tx : Nat → Nat) (len : Nat) : Nat → Nat → Option Nat × List (Nat × Nat × Nat × Nat × Nat)
  | 0, _ => (none, [])
  | t + 1, p => if len ≤ p then (none, []) else if (ordP tx len p).1 = true then ((prs tx len t (ordP tx len p).2.1).1, (bt tx len p, (ordP tx len p).2.2) :: (prs tx len t (ordP tx len p).2.1).2) else (some (ordP tx len p).2.1, [])
def flt (tx : Nat → Nat) (len : Nat) : Option Nat := if len ≤ skN tx len 0 then some (skN tx len 0) else (prs tx len 151 (skN tx len 0)).1
theorem prs_end {tx : Nat → Nat} {len t p : Nat} (h : len ≤ p) : prs tx len t p = (none, []) := by
  cases t with
  | zero => rfl
  | succ t => rw [prs, if_pos h]
theorem prs_ok {tx : Nat → Nat} {len t p : Nat} (h : p < len) (h2 : (ordP tx len p).1 = true) : prs tx len (t + 1) p = ((prs tx len t (ordP tx len p).2.1).1, (bt tx len p, (ordP tx len p).2.2) :: (prs tx len t (ordP tx len p).2.1).2) := by
  rw [prs, if_neg (by omega), if_pos h2]
theorem prs_no {tx : Nat → Nat} {len t p : Nat} (h : p < len) (h2 : (ordP tx len p).1 = false) : prs tx len (t + 1) p = (some (ordP tx len p).2.1, []) := by
  rw [prs, if_neg (by omega), if_neg (by rw [h2]; decide)]
def sF (o : Option Nat) : Int32 := match o with
  | none => 1
  | some _ => 0
theorem lpFault {tx : Nat → Nat} {len : Nat} (hX : TX tx len) (K : Int32 → Mm → Option (Int32 × Mm)) : ∀ (t f p y : Nat) (μ : Mm), len - p < t → t < f → p ≤ len → 2 * y ≤ p → TC tx len μ → μ.1 78 2 = nI p → ∃ μ2, lp_X5_findFault_23 f 1 (nI y) μ K = K (sF (prs tx len t p).1) μ2 ∧ FrT μ μ2 ∧ ∀ e, (prs tx len t p).1 = some e → μ2.1 78 2 = nI e := by
  have hl := hX.1
  intro t
  induction t with
  | zero => intro f p y μ h1; omega
  | succ t ih =>
    intro f p y μ h1 h2 h3 h4 h hat
    obtain ⟨f, rfl⟩ : ∃ q, f = q + 1 := ⟨f - 1, by omega⟩
    rw [lp_X5_findFault_23, if_neg (by decide), h.1, hat]
    by_cases c : len ≤ p
    · rw [if_pos ((nI_leI (by omega) (by omega)).mpr c), prs_end c]
      exact ⟨μ, rfl, FrT.rfl' μ, fun e q => by cases q⟩
    · obtain ⟨μa, a1, a2, a3, a4⟩ := orderC hX h h3 hat
      have hle := ordP_le (tx := tx) h3
      rw [if_neg (by rw [nI_leI (by omega) (by omega)]; exact c), if_neg (by rw [i150, nI_leI (by omega) (by omega)]; omega), a1, bd_some, nI_1]
      cases d : (ordP tx len p).1 with
      | true =>
        obtain ⟨e1, e2, -⟩ := hle.2 d
        rw [prs_ok (by omega) d]
        obtain ⟨μ2, g1, g2, g3⟩ := ih f (ordP tx len p).2.1 (y + 1) μa (by omega) (by omega) hle.1 (by omega) (a3.tc h) a2
        exact ⟨μ2, g1, a3.trans g2, g3⟩
      | false =>
        obtain ⟨f, rfl⟩ : ∃ q, f = q + 1 := ⟨f - 1, by omega⟩
        rw [prs_no (by omega) d, show bI false = 0 from rfl, lp_X5_findFault_23, if_pos rfl]
        exact ⟨μa, rfl, a3, fun e q => by cases q; exact a2⟩
theorem rewC {tx : Nat → Nat} {len : Nat} (hX : TX tx len) {μ : Mm} (h : TC tx len μ) : f_X5_rewind μ = some ((), si μ 78 2 (nI (skN tx len 0))) := by
  rw [f_X5_rewind, skC hX (h.si (0 : Int32) (by omega) (by omega)) (show 0 ≤ len by omega) (by rw [si_rd, if_pos ⟨rfl, rfl⟩]; exact iz0), bd_some, si_si]
theorem faultC {tx : Nat → Nat} {len : Nat} (hX : TX tx len) {μ : Mm} (h : TC tx len μ) : ∃ μ2, f_X5_findFault μ = some (encO (flt tx len), μ2) ∧ FrT μ μ2 := by
  have hl := hX.1
  have h0 := skN_le (tx := tx) (show 0 ≤ len by omega)
  have f0 : FrT μ (si μ 78 2 (nI (skN tx len 0))) := FrT.si μ _ (Or.inl rfl) (by omega)
  have at0 : (si μ 78 2 (nI (skN tx len 0))).1 78 2 = nI (skN tx len 0) := by rw [si_rd, if_pos ⟨rfl, rfl⟩]
  rw [f_X5_findFault, rewC hX h, bd_some, (f0.tc h).1, at0]
  unfold flt
  by_cases c : len ≤ skN tx len 0
  · rw [if_pos ((nI_leI (by omega) (by omega)).mpr c), if_pos c, show FU = 999 + 1 from rfl, lp_X5_findFault_23, if_pos rfl, if_pos rfl, at0]
    exact ⟨_, rfl, f0⟩
  · obtain ⟨μ2, g1, g2, g3⟩ := lpFault hX (fun x12 μ13 => if x12 = 0 then (some (μ13.1 78 2, μ13)) else (some ((-1 : Int32), μ13))) 151 FU (skN tx len 0) 0 (si μ 78 2 (nI (skN tx len 0))) (by omega) (by decide) h0.2 (by omega) (f0.tc h) at0
    rw [← iz0] at g1
    rw [if_neg (by rw [nI_leI (by omega) (by omega)]; exact c), if_neg c, g1]
    refine ⟨μ2, ?_, f0.trans g2⟩
    cases d : (prs tx len 151 (skN tx len 0)).1 with
    | none => rw [if_neg (show ¬ sF none = 0 by decide)]; rfl
    | some e => rw [if_pos (show sF (some e) = 0 from rfl), g3 e d]; rfl
/-! what an order's letters are -/
def LET (tx : Nat → Nat) (len q c : Nat) : Prop := q + c ≤ len ∧ (∀ i, i < c → ltr (bt tx len (q + i)) = true) ∧ ltr (bt tx len (q + c)) = false
def OK1 (tx : Nat → Nat) (len : Nat) (x : Nat × Nat × Nat × Nat × Nat) : Prop := nmk x.1 ≠ 3 ∧ (x.1 = 102 → x.2.2.2.2 ≤ 6 ∧ LET tx len x.2.2.2.1 x.2.2.2.2) ∧ (x.1 = 108 → x.2.2.2.2 ≤ 40 ∧ LET tx len x.2.2.2.1 x.2.2.2.2)
theorem lts_LET {tx : Nat → Nat} {len mn mx p : Nat} (hp : p ≤ len) (h : (lts tx len mn mx p).1 = true) : (lts tx len mn mx p).2.2 ≤ mx ∧ LET tx len (lts tx len mn mx p).2.1 (lts tx len mn mx p).2.2 := by
  have h1 := lts_le (tx := tx) (mn := mn) (mx := mx) hp
  refine ⟨h1.2.2.1, h1.2.1, h1.2.2.2, ?_⟩
  unfold lts at h ⊢
  simp only at h ⊢
  rw [Bool.and_eq_true, Bool.not_eq_true'] at h
  exact h.2
theorem ord_facts {tx : Nat → Nat} {len p : Nat} (hp : p ≤ len) (h : (ordP tx len p).1 = true) : OK1 tx len (bt tx len p, (ordP tx len p).2.2) := by
  have h0 := ((ordP_le (tx := tx) hp).2 h).2.2
  have h1 := ((ordP_le (tx := tx) hp).2 h).1
  unfold ordP at h ⊢
  rw [if_neg h0] at h ⊢
  have h2 := nums_le (tx := tx) (len := len) (n := nmk (bt tx len p)) (p := p + 1) (by omega)
  unfold ord1 at h ⊢
  by_cases c1 : (nums tx len (nmk (bt tx len p)) (p + 1)).1 = true
  · rw [if_pos c1] at h ⊢
    unfold ord2 at h ⊢
    by_cases c2 : (ltsK tx len (bt tx len p) (nums tx len (nmk (bt tx len p)) (p + 1)).2.1).1 = true
    · rw [if_pos c2] at h ⊢
      have h3 := ltsK_le (tx := tx) (k := bt tx len p) h2.2
      rw [((ord3_le (tx := tx) (a := (nums tx len (nmk (bt tx len p)) (p + 1)).2.2.1) (b := (nums tx len (nmk (bt tx len p)) (p + 1)).2.2.2) h3.2).2 h).2]
      refine ⟨h0, fun q => ?_, fun q => ?_⟩
      · have q : bt tx len p = 102 := q
        unfold ltsK at c2 ⊢
        simp only
        rw [if_pos q] at c2 ⊢
        exact lts_LET h2.2 c2
      · have q : bt tx len p = 108 := q
        unfold ltsK at c2 ⊢
        simp only
        rw [if_neg (by omega), if_pos q] at c2 ⊢
        exact lts_LET h2.2 c2
    · rw [if_neg c2] at h; cases h
  · rw [if_neg c1] at h; cases h
