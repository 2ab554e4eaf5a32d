/-! where a phrase leads to -/
def mtc (N : Nat → Nat) : Nat → Nat → Nat → Bool
  | 0, _, _ => true
  | g + 1, q, c => if c = 0 then true else decide (N (69 + (q - 1)) = c % 10) && mtc N g (q - 1) (c / 10)
def allNB (N : Nat → Nat) : Nat → Nat → Bool
  | _, 0 => true
  | q, t + 1 => decide (N (108 + q) ≠ 1) && allNB N (q + 1) t
def lastN (N : Nat → Nat) (cut : Bool) : Nat := if cut then N 1 else N 2
def tgN (N : Nat → Nat) (cut : Bool) (p i : Nat) : Nat :=
  if cut then (if p + szD (N (21 + i)) ≤ N 1 ∧ mtc N 12 (p + szD (N (21 + i))) (N (21 + i)) = true then p + szD (N (21 + i)) else 0)
  else (if p + moD (N (21 + i)) ≤ N 2 ∧ allNB N (p + 1) (moD (N (21 + i)) - 1) = true then p + moD (N (21 + i)) else 0)
def brN (N : Nat → Nat) (cut : Bool) (p : Nat) : Bool := !cut && (decide (1 ≤ p) && (decide (p < N 2) && decide (N (108 + p) = 2)))
/-- which way the reference counts: cuts of the line, or rows of the metre -/
def CF (μ : Mm) (cut : Bool) : Prop := μ.1 0 7 = if cut then 1 else 0
def bI (b : Bool) : Int32 := if b then 1 else 0
theorem bI_ne (b : Bool) : bI b = 0 ↔ b = false := by cases b <;> decide
theorem isMarkM {B : Nat} {N : Nat → Nat} (hO : Ok B N) {μ : Mm} (hs : MR μ N) {q v : Nat} (hq : q < 2 ^ 30) (hv : v ≤ 2) : f_X7_isMark (nI q) (nI v) μ = some (bI (decide (q < N 2) && (decide (0 < q) && decide (N (108 + q) = v))), μ) := by
  have h2 := hO.1.2.2.2
  rw [f_X7_isMark, hs 2 (by omega)]
  by_cases a1 : N 2 ≤ q
  · rw [if_pos ((nI_leI (by omega) (by omega)).mpr a1)]
    have : decide (q < N 2) = false := decide_eq_false (by omega)
    rw [this]
    rfl
  · rw [if_neg (by rw [nI_leI (by omega) (by omega)]; exact a1), decide_eq_true (show q < N 2 by omega)]
    by_cases a2 : q = 0
    · rw [if_pos ((le0_iff (by omega)).mpr a2), decide_eq_false (show ¬ 0 < q by omega)]
      rfl
    · have hm := hO.2.2.2.2.2.2.2.2 q (by omega) (by omega)
      rw [if_neg (by rw [le0_iff (by omega)]; exact a2), decide_eq_true (show 0 < q by omega), i108, nI_add, if_pos (zin_nI (by omega) (by omega)), nI_clamp (by omega), hs _ (by omega)]
      by_cases a3 : N (108 + q) = v
      · rw [if_pos (by rw [a3]), decide_eq_true a3]
        rfl
      · rw [if_neg (by rw [nI_eq (by omega) (by omega)]; exact a3), decide_eq_false a3]
        rfl
theorem lpLead {B : Nat} {N : Nat → Nat} (hO : Ok B N) {μ : Mm} (hs : MR μ N) (k : Int32 → Mm → Option (Int32 × Mm)) : ∀ (t f q to : Nat) (b : Bool), q + t = to → t < f → to ≤ N 2 → 1 ≤ q → lp_X7_leads_90 (nI to) f (bI b) (nI q) μ k = k (bI (b && allNB N q t)) μ := by
  have h2 := hO.1.2.2.2
  intro t
  induction t with
  | zero =>
    intro f q to b h1 h3 h4 h5
    obtain ⟨f, rfl⟩ : ∃ q, f = q + 1 := ⟨f - 1, by omega⟩
    rw [lp_X7_leads_90, if_pos ((nI_leI (by omega) (by omega)).mpr (by omega)), allNB, Bool.and_true]
  | succ t ih =>
    intro f q to b h1 h3 h4 h5
    obtain ⟨f, rfl⟩ : ∃ q, f = q + 1 := ⟨f - 1, by omega⟩
    rw [lp_X7_leads_90, if_neg (by rw [nI_leI (by omega) (by omega)]; omega), allNB, nI_1]
    cases b with
    | false =>
      rw [if_pos (show bI false = 0 from rfl)]
      have := ih f (q + 1) to false (by omega) (by omega) h4 (by omega)
      rw [show bI false = 0 from rfl] at this
      rw [this]
      rfl
    | true =>
      rw [if_neg (by decide), i1, isMarkM hO hs (by omega) (by omega), bd_some, decide_eq_true (show q < N 2 by omega), decide_eq_true (show 0 < q by omega)]
      by_cases a : N (108 + q) = 1
      · rw [decide_eq_true a, if_neg (by decide)]
        have := ih f (q + 1) to false (by omega) (by omega) h4 (by omega)
        rw [show bI false = 0 from rfl] at this
        rw [this, decide_eq_false (show ¬ N (108 + q) ≠ 1 from fun z => z a)]
        rfl
      · rw [decide_eq_false a, if_pos (by decide), ← i1]
        have := ih f (q + 1) to true (by omega) (by omega) h4 (by omega)
        rw [show bI true = 1 from rfl] at this
        rw [this, decide_eq_true (show N (108 + q) ≠ 1 from a)]
        rfl
theorem lpStand {B : Nat} {N : Nat → Nat} (hO : Ok B N) {μ : Mm} (hs : MR μ N) (k : Int32 → Mm → Option (Int32 × Mm)) : ∀ (g f q c : Nat) (b : Bool), c < 10 ^ g → c < 2 ^ 31 → g + 1 < f → szF g c ≤ q → q ≤ 40 → lp_X7_standsAhead_16 f (nI q) (bI b) (nI c) μ k = k (bI (b && mtc N g q c)) μ := by
  have h40 := hO.1.2.1
  intro g
  induction g with
  | zero =>
    intro f q c b h1 h2 h3 h4 h5
    obtain ⟨f, rfl⟩ : ∃ q, f = q + 1 := ⟨f - 1, by omega⟩
    have hc : c = 0 := by simpa using h1
    subst hc
    rw [lp_X7_standsAhead_16, if_pos ((le0_iff (by omega)).mpr rfl), mtc, Bool.and_true]
  | succ g ih =>
    intro f q c b h1 h2 h3 h4 h5
    obtain ⟨f, rfl⟩ : ∃ q, f = q + 1 := ⟨f - 1, by omega⟩
    rw [lp_X7_standsAhead_16, mtc]
    rw [szF] at h4
    by_cases hc : c = 0
    · rw [if_pos ((le0_iff h2).mpr hc), if_pos hc, Bool.and_true]
    · rw [if_neg hc] at h4
      rw [if_neg (fun z => hc ((le0_iff h2).mp z)), if_neg hc]
      cases b with
      | false => rw [if_pos (show bI false = 0 from rfl)]; rfl
      | true =>
        obtain ⟨q, rfl⟩ : ∃ z, q = z + 1 := ⟨q - 1, by omega⟩
        have hb := hO.2.2.2.2.2.2.1 q (by omega)
        rw [if_neg (by decide), pk_m1, i69, nI_add, if_pos (zin_nI (by omega) (by omega)), nI_clamp (by omega), hs _ (by omega), rem10 h2, div10 h2, show q + 1 - 1 = q by omega]
        by_cases a : N (69 + q) = c % 10
        · rw [if_pos (by rw [a]), decide_eq_true a]
          have := ih f q (c / 10) true (p10 g h1) (by omega) (by omega) (by omega) (by omega)
          rw [show bI true = 1 from rfl] at this
          rw [this]
          rfl
        · rw [if_neg (by rw [nI_eq (by omega) (by omega)]; exact a), decide_eq_false a]
          have := ih f q (c / 10) false (p10 g h1) (by omega) (by omega) (by omega) (by omega)
          rw [show bI false = 0 from rfl] at this
          rw [this]
          rfl
def leadI (N : Nat → Nat) (cut : Bool) (p i : Nat) : Int32 := if tgN N cut p i = 0 ∨ brN N cut (tgN N cut p i) = true then -1 else nI (tgN N cut p i)
theorem tg_t (N : Nat → Nat) (p i : Nat) : tgN N true p i = if p + szD (N (21 + i)) ≤ N 1 ∧ mtc N 12 (p + szD (N (21 + i))) (N (21 + i)) = true then p + szD (N (21 + i)) else 0 := rfl
theorem tg_f (N : Nat → Nat) (p i : Nat) : tgN N false p i = if p + moD (N (21 + i)) ≤ N 2 ∧ allNB N (p + 1) (moD (N (21 + i)) - 1) = true then p + moD (N (21 + i)) else 0 := rfl
theorem lead_none {N : Nat → Nat} {cut : Bool} {p i : Nat} (h : tgN N cut p i = 0 ∨ brN N cut (tgN N cut p i) = true) : leadI N cut p i = -1 := if_pos h
theorem lead_some {N : Nat → Nat} {cut : Bool} {p i t : Nat} (h : tgN N cut p i = t) (h0 : t ≠ 0) (hb : brN N cut t = false) : leadI N cut p i = nI t := by
  unfold leadI
  rw [h, if_neg]
  rintro (q | q)
  · exact h0 q
  · rw [hb] at q; cases q
theorem leadsM {B : Nat} {N : Nat → Nat} (hO : Ok B N) {μ : Mm} (hs : MR μ N) {cut : Bool} (hcf : CF μ cut) {p i : Nat} (hp : p ≤ 40) (hi : i < N 0) : f_X7_leads (nI i) (nI p) μ = some (leadI N cut p i, μ) := by
  have h12 := hO.1.1
  have h40 := hO.1.2.1
  have hT := hO.1.2.2.2
  have hv := hO.2.2.2.2.1 i hi
  have hsz := vc_sz hv
  have hmo := vc_mo hv
  have hc : N (21 + i) < 2 ^ 31 := by have := hv.2.1; omega
  rw [f_X7_leads, i21, nI_add, if_pos (zin_nI (by omega) (by omega)), if_pos (zin_nI (by omega) (by omega)), nI_clamp (by omega), hs _ (by omega), moraeM hc, sizeM hc, bd_some, bd_some]
  cases cut with
  | true =>
    have hcf : μ.1 0 7 = 1 := hcf
    rw [hcf, if_neg (by decide), f_X7_lastPlace, hcf, if_neg (by decide), bd_some, hs 1 (by omega), nI_add, hcf]
    by_cases a : p + szD (N (21 + i)) ≤ N 1
    · rw [if_pos ((nI_leI (by omega) (by omega)).mpr a), if_neg (by decide)]
      have hst : f_X7_standsAhead (nI i) (nI (p + szD (N (21 + i)))) μ = some (bI (mtc N 12 (p + szD (N (21 + i))) (N (21 + i))), μ) := by
        rw [f_X7_standsAhead, i21, nI_add, if_pos (zin_nI (by omega) (by omega)), nI_clamp (by omega), hs _ (by omega)]
        have := lpStand hO hs (fun x4 μ5 => if x4 = 0 ∨ x4 = 1 then some (x4, μ5) else none) 12 FU (p + szD (N (21 + i))) (N (21 + i)) true (by omega) hc (by decide) (by unfold szD; omega) (by omega)
        rw [show bI true = 1 from rfl] at this
        rw [this, Bool.true_and]
        cases mtc N 12 (p + szD (N (21 + i))) (N (21 + i)) <;> rfl
      rw [hst, bd_some]
      cases hm : mtc N 12 (p + szD (N (21 + i))) (N (21 + i)) with
      | false =>
        have ht : tgN N true p i = 0 := by rw [tg_t, if_neg (fun q => by rw [hm] at q; cases q.2)]
        rw [if_pos (show bI false = 0 from rfl), lead_none (Or.inl ht)]
      | true =>
        have ht : tgN N true p i = p + szD (N (21 + i)) := by rw [tg_t, if_pos ⟨a, hm⟩]
        rw [if_neg (show ¬ bI true = 0 by decide), lead_some ht (by omega) rfl]
    · have ht : tgN N true p i = 0 := by rw [tg_t, if_neg (fun q => a q.1)]
      rw [if_neg (by rw [nI_leI (by omega) (by omega)]; exact a), lead_none (Or.inl ht)]
  | false =>
    have hcf : μ.1 0 7 = 0 := hcf
    rw [hcf, if_pos rfl, f_X7_lastPlace, hcf, if_pos rfl, bd_some, hs 2 (by omega), nI_add, hcf]
    by_cases a : p + moD (N (21 + i)) ≤ N 2
    · have hlp : ∀ b : Bool, lp_X7_leads_90 (nI (p + moD (N (21 + i)))) FU (bI b) (nI (p + 1)) μ (fun x19 μ20 => if x19 = 0 then (some ((-1 : Int32), μ20)) else (some (nI (p + moD (N (21 + i))), μ20))) = some (if (b && allNB N (p + 1) (moD (N (21 + i)) - 1)) = true then nI (p + moD (N (21 + i))) else -1, μ) := by
        intro b
        rw [lpLead hO hs _ (moD (N (21 + i)) - 1) FU (p + 1) (p + moD (N (21 + i))) b (by omega) (by unfold FU; omega) a (by omega)]
        cases (b && allNB N (p + 1) (moD (N (21 + i)) - 1)) <;> rfl
      have eb : brN N false (p + moD (N (21 + i))) = (decide (p + moD (N (21 + i)) < N 2) && (decide (0 < p + moD (N (21 + i))) && decide (N (108 + (p + moD (N (21 + i)))) = 2))) := by
        unfold brN
        rw [decide_eq_true (show 1 ≤ p + moD (N (21 + i)) by omega), decide_eq_true (show 0 < p + moD (N (21 + i)) by omega)]
        simp
      have h1 := hlp true
      have h0 := hlp false
      rw [show bI true = 1 from rfl] at h1
      rw [show bI false = 0 from rfl] at h0
      rw [if_pos ((nI_leI (by omega) (by omega)).mpr a), if_pos (show (0 : Int32) = 0 from rfl), i2, isMarkM hO hs (by omega) (by omega), bd_some, nI_1, ← eb, h1, h0, Bool.true_and, Bool.false_and, if_neg (show ¬ false = true by decide)]
      cases hb : brN N false (p + moD (N (21 + i))) with
      | true =>
        rw [if_neg (show ¬ bI true = 0 by decide), lead_none]
        by_cases c : p + moD (N (21 + i)) ≤ N 2 ∧ allNB N (p + 1) (moD (N (21 + i)) - 1) = true
        · rw [tg_f, if_pos c]; exact Or.inr hb
        · rw [tg_f, if_neg c]; exact Or.inl rfl
      | false =>
        rw [if_pos (show bI false = 0 from rfl)]
        by_cases c : allNB N (p + 1) (moD (N (21 + i)) - 1) = true
        · have ht : tgN N false p i = p + moD (N (21 + i)) := by rw [tg_f, if_pos ⟨a, c⟩]
          rw [if_pos c, lead_some ht (by omega) hb]
        · have ht : tgN N false p i = 0 := by rw [tg_f, if_neg (fun q => c q.2)]
          rw [if_neg c, lead_none (Or.inl ht)]
    · have ht : tgN N false p i = 0 := by rw [tg_f, if_neg (fun q => a q.1)]
      rw [if_neg (by rw [nI_leI (by omega) (by omega)]; exact a), lead_none (Or.inl ht)]
theorem tg_gt {B : Nat} {N : Nat → Nat} (hO : Ok B N) {cut : Bool} {p i : Nat} (hi : i < N 0) (h : tgN N cut p i ≠ 0) : p < tgN N cut p i ∧ tgN N cut p i ≤ lastN N cut := by
  have hv := hO.2.2.2.2.1 i hi
  have hsz := vc_sz hv
  have hmo := vc_mo hv
  unfold tgN lastN at *
  cases cut with
  | true =>
    simp only [if_true] at *
    by_cases c : p + szD (N (21 + i)) ≤ N 1 ∧ mtc N 12 (p + szD (N (21 + i))) (N (21 + i)) = true
    · rw [if_pos c]; omega
    · rw [if_neg c] at h; exact absurd rfl h
  | false =>
    simp only [Bool.false_eq_true, if_false] at *
    by_cases c : p + moD (N (21 + i)) ≤ N 2 ∧ allNB N (p + 1) (moD (N (21 + i)) - 1) = true
    · rw [if_pos c]; omega
    · rw [if_neg c] at h; exact absurd rfl h
