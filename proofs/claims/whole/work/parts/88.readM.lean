/-! an order, and all orders, read by the reference -/
def MO0 (μ : Mm) (j k : Nat) (o : Nat × Nat × Nat × Nat) : Prop := (k ≠ 108 → μ.1 12 (2 * j) = nI o.1) ∧ (nmk k = 2 → μ.1 12 (2 * j + 1) = nI o.2.1) ∧ (k = 102 → μ.1 12 (2 * j + 1) = nI o.2.2.1) ∧ (k = 108 → μ.1 12 (2 * j) = nI o.2.2.1)
def MO (μ : Mm) (j k : Nat) (o : Nat × Nat × Nat × Nat) : Prop := μ.1 11 j = nI k ∧ MO0 μ j k o
theorem MO0.fr {μ μ2 : Mm} {j k : Nat} {o : Nat × Nat × Nat × Nat} (h : MO0 μ j k o) (h2 : μ2.1 12 (2 * j) = μ.1 12 (2 * j)) (h3 : μ2.1 12 (2 * j + 1) = μ.1 12 (2 * j + 1)) : MO0 μ2 j k o := by
  unfold MO0 at *
  rw [h2, h3]
  exact h
theorem nmk_0 {k : Nat} (h : nmk k = 0) : k = 108 := by
  by_cases c : k = 108
  · exact c
  · exfalso
    unfold nmk at h
    rw [if_neg c] at h
    repeat (first | omega | split at h)
theorem partsM {tx : Nat → Nat} {len : Nat} (hX : TX tx len) {k o : Nat} (hk : nmk k ≠ 3) (ho : o ≤ 74) {μ : Mm} (h : TM tx len μ) {p : Nat} (hp : p ≤ len) (hat : μ.1 0 17 = nI p) (h18 : μ.1 0 18 = 0) (h19 : μ.1 0 19 = nI o) :
    ∃ μ2, f_X7_readsParts (nI k) (nI (nmk k)) μ = some ((), μ2) ∧ ((nums tx len (nmk k) p).1 = false → μ2.1 0 17 = nI (nums tx len (nmk k) p).2.1 ∧ μ2.1 0 18 = 1) ∧ ((nums tx len (nmk k) p).1 = true → μ2.1 0 17 = nI ((ltsK tx len k (nums tx len (nmk k) p).2.1).2.1 + (ltsK tx len k (nums tx len (nmk k) p).2.1).2.2) ∧ μ2.1 0 18 = bI (!(ltsK tx len k (nums tx len (nmk k) p).2.1).1) ∧ MO0 μ2 o k ((nums tx len (nmk k) p).2.2.1, (nums tx len (nmk k) p).2.2.2, (ltsK tx len k (nums tx len (nmk k) p).2.1).2.1, (ltsK tx len k (nums tx len (nmk k) p).2.1).2.2)) ∧ μ2.1 0 19 = nI o ∧ FrP o μ μ2 := by
  have hk2 := nmk_lt hk
  have i1' : ((2 : Int32) * nI o) + (1 : Int32) = nI (2 * o + 1) := by rw [i2, pk_mul, nI_1]
  have i0' : ((2 : Int32) * nI o) = nI (2 * o) := by rw [i2, pk_mul]
  have h2 := nums_le (tx := tx) (len := len) (n := nmk k) hp
  obtain ⟨μa, a1, a2, a3, a4, a5, a6⟩ := numsM hX (fun μ5 => if (μ5.1 0 18) = 0 then (if nI k = (102 : Int32) then (bd (f_X7_passesLetters (1 : Int32) (6 : Int32) μ5) fun r16 μ17 => if zin (((2 : Int32) * (μ5.1 0 19)) + (1 : Int32)) 152 then (some ((), (si μ17 12 ((((2 : Int32) * (μ5.1 0 19)) + (1 : Int32)).toNatClampNeg) r16))) else none) else (if (μ5.1 0 18) = 0 then (if nI k = (108 : Int32) then (bd (f_X7_passesLetters (0 : Int32) (40 : Int32) μ5) fun r14 μ15 => if zin ((2 : Int32) * (μ5.1 0 19)) 152 then (some ((), (si μ15 12 (((2 : Int32) * (μ5.1 0 19)).toNatClampNeg) r14))) else none) else (some ((), μ5))) else (some ((), μ5)))) else (if (μ5.1 0 18) = 0 then (if nI k = (108 : Int32) then (bd (f_X7_passesLetters (0 : Int32) (40 : Int32) μ5) fun r9 μ10 => if zin ((2 : Int32) * (μ5.1 0 19)) 152 then (some ((), (si μ10 12 (((2 : Int32) * (μ5.1 0 19)).toNatClampNeg) r9))) else none) else (some ((), μ5))) else (some ((), μ5)))) (nI k) hk2.2 (show o ≤ 75 by omega) h hp hat h18 h19
  rw [f_X7_readsParts, a1, a3, a4]
  cases c1 : (nums tx len (nmk k) p).1 with
  | false =>
    rw [c1] at a3
    rw [if_neg (show ¬ bI (!false) = 0 by decide), if_neg (show ¬ bI (!false) = 0 by decide)]
    exact ⟨μa, rfl, fun _ => ⟨a2, a3⟩, fun q => (by cases q), a4, a6⟩
  | true =>
    rw [c1] at a3
    obtain ⟨n1, n2⟩ := a5 c1
    rw [if_pos (show bI (!true) = 0 from rfl), if_pos (show bI (!true) = 0 from rfl), show (102 : Int32) = nI 102 by decide +kernel, show (108 : Int32) = nI 108 by decide +kernel]
    unfold ltsK
    by_cases d1 : k = 102
    · obtain ⟨μb, b1, b2, b3, b4⟩ := passM hX (show 6 ≤ 40 by omega) (show 1 ≤ 40 by omega) (mnI := 1) (mxI := 6) (by decide +kernel) (by decide +kernel) (a6.tm h) h2.2 a2 a3
      rw [if_pos (by rw [d1]), b1, bd_some, i1', if_pos (zin_nI (by omega) (by omega)), nI_clamp (by omega), if_pos d1]
      refine ⟨_, rfl, fun q => (by cases q), fun _ => ⟨by rw [si_ne1 (by omega)]; exact b2, by rw [si_ne1 (by omega)]; exact b3, fun _ => ?_, fun q => ?_, fun _ => ?_, fun q => by omega⟩, by rw [si_ne1 (by omega), b4.2 19 (by omega) (by omega)]; exact a4, (a6.trans (b4.p o)).trans (FrP.s12 o μb (by omega) _)⟩
      · rw [si_rd, if_neg (by omega), b4.1 12 (by omega)]
        exact n1 (by rw [d1]; decide)
      · rw [d1] at q
        exact absurd q (by decide)
      · rw [si_rd, if_pos ⟨rfl, rfl⟩]
    · rw [if_neg (by rw [nI_eq (by omega) (by omega)]; exact d1), if_neg d1]
      by_cases d2 : k = 108
      · obtain ⟨μb, b1, b2, b3, b4⟩ := passM hX (show 40 ≤ 40 by omega) (show 0 ≤ 40 by omega) (mnI := 0) (mxI := 40) (by decide +kernel) (by decide +kernel) (a6.tm h) h2.2 a2 a3
        rw [if_pos (by rw [d2]), b1, bd_some, i0', if_pos (zin_nI (by omega) (by omega)), nI_clamp (by omega), if_pos d2]
        refine ⟨_, rfl, fun q => (by cases q), fun _ => ⟨by rw [si_ne1 (by omega)]; exact b2, by rw [si_ne1 (by omega)]; exact b3, fun q => absurd d2 q, fun q => ?_, fun q => by omega, fun _ => ?_⟩, by rw [si_ne1 (by omega), b4.2 19 (by omega) (by omega)]; exact a4, (a6.trans (b4.p o)).trans (FrP.s12 o μb (by omega) _)⟩
        · rw [d2] at q
          exact absurd q (by decide)
        · rw [si_rd, if_pos ⟨rfl, rfl⟩]
      · rw [if_neg (by rw [nI_eq (by omega) (by omega)]; exact d2), if_neg d2]
        refine ⟨μa, rfl, fun q => (by cases q), fun _ => ⟨a2, a3, fun _ => n1 ?_, fun q => n2 q, fun q => absurd q d1, fun q => absurd q d2⟩, a4, a6⟩
        cases e : nmk k with
        | zero => exact absurd (nmk_0 e) d2
        | succ n => omega
theorem stepM {tx : Nat → Nat} {len : Nat} (hX : TX tx len) (F : Mm → Option (Int32 × Mm)) {o : Nat} (ho : o ≤ 74) {μ : Mm} (h : TM tx len μ) {p : Nat} (hp : p < len) (hat : μ.1 0 17 = nI p) (h18 : μ.1 0 18 = 0) (h19 : μ.1 0 19 = nI o) :
    ∃ μ2, (bd (f_X7_readsOrder μ) fun _ μ7 => if (μ7.1 0 18) = 0 then (bd (f_X7_blanks μ7) fun _ μ10 => F μ10) else F μ7) = F μ2 ∧ μ2.1 0 17 = nI (ordP tx len p).2.1 ∧ μ2.1 0 18 = bI (!(ordP tx len p).1) ∧ ((ordP tx len p).1 = true → μ2.1 0 19 = nI (o + 1) ∧ MO μ2 o (bt tx len p) (ordP tx len p).2.2) ∧ FrP o μ μ2 := by
  have hl := hX.1
  have hb : bt tx len p = tx p := by unfold bt; rw [if_pos hp]
  have h127 := hX.2 p hp
  have e5 : μ.1 5 p = nI (bt tx len p) := by rw [hb]; exact h.2 p hp
  have em : f_X7_manyOf (nI (bt tx len p)) μ = some (encN (nmk (bt tx len p)), μ) := by
    have e : nI (bt tx len p) = eb tx len p := ((eb_eq hX (by omega)).mpr rfl).symm
    rw [e]
    exact (numsOf hX μ).trans (by rw [nm_enc])
  rw [f_X7_readsOrder, hat, if_pos (zin_nI (by omega) (by omega)), nI_clamp (by omega), e5, em, bd_some, hat, Int32.add_zero, nI_1]
  unfold ordP encN
  by_cases c0 : nmk (bt tx len p) = 3
  · have k1 : (si (si μ 0 18 (1 : Int32)) 0 17 (nI p)).1 0 18 = 1 := by rw [si_rd, if_neg (by omega), si_rd, if_pos ⟨rfl, rfl⟩]
    have f1 : Fr17 μ (si (si μ 0 18 (1 : Int32)) 0 17 (nI p)) := (Fr17.s18 _ _).trans (Fr17.s17 _ _)
    have ep : f_X7_readsParts (nI (bt tx len p)) (-1) (si (si μ 0 18 (1 : Int32)) 0 17 (nI p)) = some ((), si (si μ 0 18 (1 : Int32)) 0 17 (nI p)) := by
      rw [f_X7_readsParts, show FU = 999 + 1 from rfl, lp_X7_readsParts_2, if_pos (by decide), k1, if_neg (by decide), if_neg (by decide)]
    rw [if_pos c0, if_pos c0, if_neg (by decide), ep, bd_some, k1, if_neg (by decide), if_neg (by decide), bd_some, k1, if_neg (by decide)]
    exact ⟨_, rfl, by rw [si_rd, if_pos ⟨rfl, rfl⟩], k1, fun q => (by cases q), f1.p o⟩
  · have hk := nmk_lt c0
    rw [if_neg c0, if_neg c0, if_pos (nI_pos' (by omega)), si_same h18]
    generalize hk0 : bt tx len p = k at *
    have f1 : Fr17 μ (si μ 0 17 (nI (p + 1))) := Fr17.s17 μ _
    obtain ⟨μa, a1, a2, a3, a4, a5⟩ := partsM hX c0 ho (f1.tm h) (show p + 1 ≤ len by omega) (by rw [si_rd, if_pos ⟨rfl, rfl⟩]) (by rw [si_rd, if_neg (by omega)]; exact h18) (by rw [si_rd, if_neg (by omega)]; exact h19)
    have h2 := nums_le (tx := tx) (len := len) (n := nmk k) (p := p + 1) (by omega)
    have fa : FrP o μ μa := (f1.p o).trans a5
    rw [a1, bd_some]
    unfold ord1
    by_cases c1 : (nums tx len (nmk k) (p + 1)).1 = true
    · obtain ⟨b1, b2, b3⟩ := a3 c1
      have h3 := ltsK_le (tx := tx) (k := k) h2.2
      rw [if_pos c1]
      unfold ord2
      by_cases c2 : (ltsK tx len k (nums tx len (nmk k) (p + 1)).2.1).1 = true
      · rw [c2] at b2
        rw [if_pos c2, b2, if_pos (show bI (!true) = 0 from rfl)]
        generalize nums tx len (nmk k) (p + 1) = ns at *
        generalize ltsK tx len k ns.2.1 = l at *
        have h4 := skN_le (tx := tx) h3.2
        have f4 : FrP o μ (si μa 0 17 (nI (skN tx len (l.2.1 + l.2.2)))) := fa.trans ((Fr17.s17 _ _).p o)
        have at4 : (si μa 0 17 (nI (skN tx len (l.2.1 + l.2.2)))).1 0 17 = nI (skN tx len (l.2.1 + l.2.2)) := by rw [si_rd, if_pos ⟨rfl, rfl⟩]
        have k4 : (si μa 0 17 (nI (skN tx len (l.2.1 + l.2.2)))).1 0 18 = 0 := by rw [si_rd, if_neg (by omega)]; exact b2
        have o4 : (si μa 0 17 (nI (skN tx len (l.2.1 + l.2.2)))).1 0 19 = nI o := by rw [si_rd, if_neg (by omega)]; exact a4
        rw [blM hX (fa.tm h) h3.2 b1, bd_some, isAtM hX (f4.tm h) (show 59 ≤ 127 by omega) (show 59 ≤ 127 by omega) (by decide +kernel) (by decide +kernel) (by omega) at4, bd_some, at4, o4, Int32.add_zero, nI_1, nI_1, si_same k4, if_pos (zin_nI (by omega) (by omega)), nI_clamp (by omega)]
        unfold ord3
        by_cases c3 : bt tx len (skN tx len (l.2.1 + l.2.2)) = 59
        · have h5 := bt_lt (by omega) c3
          rw [c3, if_neg (by decide), if_pos rfl, bd_some, si_si]
          have f5 : FrP o μ (si (si (si μa 0 17 (nI (skN tx len (l.2.1 + l.2.2) + 1))) 11 o (nI k)) 0 19 (nI (o + 1))) := fa.trans ⟨fun a x y z => by rw [si_ne1 x, si_ne1 y, si_ne1 x], fun k x y z => by rw [si_rd, if_neg (fun q => z q.2), si_ne1 (by omega), si_rd, if_neg (fun q => x q.2)], fun j hj => by rw [si_ne1 (by omega), si_rd, if_neg (by omega), si_ne1 (by omega)], fun j hj => by rw [si_ne1 (by omega), si_ne1 (by omega), si_ne1 (by omega)]⟩
          have at5 : (si (si (si μa 0 17 (nI (skN tx len (l.2.1 + l.2.2) + 1))) 11 o (nI k)) 0 19 (nI (o + 1))).1 0 17 = nI (skN tx len (l.2.1 + l.2.2) + 1) := by rw [si_rd, if_neg (by omega), si_ne1 (by omega), si_rd, if_pos ⟨rfl, rfl⟩]
          have k5 : (si (si (si μa 0 17 (nI (skN tx len (l.2.1 + l.2.2) + 1))) 11 o (nI k)) 0 19 (nI (o + 1))).1 0 18 = 0 := by rw [si_rd, if_neg (by omega), si_ne1 (by omega), si_rd, if_neg (by omega)]; exact b2
          have o5 : (si (si (si μa 0 17 (nI (skN tx len (l.2.1 + l.2.2) + 1))) 11 o (nI k)) 0 19 (nI (o + 1))).1 0 19 = nI (o + 1) := by rw [si_rd, if_pos ⟨rfl, rfl⟩]
          have m5 : (si (si (si μa 0 17 (nI (skN tx len (l.2.1 + l.2.2) + 1))) 11 o (nI k)) 0 19 (nI (o + 1))).1 12 = μa.1 12 := by rw [si_ne1 (by omega), si_ne1 (by omega), si_ne1 (by omega)]
          have q5 : (si (si (si μa 0 17 (nI (skN tx len (l.2.1 + l.2.2) + 1))) 11 o (nI k)) 0 19 (nI (o + 1))).1 11 o = nI k := by rw [si_ne1 (by omega), si_rd, if_pos ⟨rfl, rfl⟩]
          rw [k5, if_pos rfl, blM hX (f5.tm h) (p := skN tx len (l.2.1 + l.2.2) + 1) (by omega) at5, bd_some]
          refine ⟨_, rfl, by rw [si_rd, if_pos ⟨rfl, rfl⟩], by rw [si_rd, if_neg (by omega)]; exact k5, fun _ => ⟨by rw [si_rd, if_neg (by omega)]; exact o5, by rw [si_ne1 (by omega)]; exact q5, b3.fr (by rw [si_ne1 (by omega), m5]) (by rw [si_ne1 (by omega), m5])⟩, f5.trans ((Fr17.s17 _ _).p o)⟩
        · have : (decide (59 ≤ bt tx len (skN tx len (l.2.1 + l.2.2))) && decide (bt tx len (skN tx len (l.2.1 + l.2.2)) ≤ 59)) = false := by
            rw [← Bool.not_eq_true, Bool.and_eq_true, decide_eq_true_eq, decide_eq_true_eq]
            omega
          have k5 : (si (si (si μa 0 17 (nI (skN tx len (l.2.1 + l.2.2)))) 0 18 (1 : Int32)) 0 17 (nI (skN tx len (l.2.1 + l.2.2)))).1 0 18 = 1 := by rw [si_rd, if_neg (by omega), si_rd, if_pos ⟨rfl, rfl⟩]
          rw [this, if_pos (show bI false = 0 from rfl), if_neg c3, bd_some, k5, if_neg (by decide)]
          exact ⟨_, rfl, by rw [si_rd, if_pos ⟨rfl, rfl⟩], k5, fun q => (by cases q), f4.trans (((Fr17.s18 _ _).trans (Fr17.s17 _ _)).p o)⟩
      · have c2' : (ltsK tx len k (nums tx len (nmk k) (p + 1)).2.1).1 = false := by simpa using c2
        rw [c2'] at b2
        rw [if_neg c2, b2, if_neg (show ¬ bI (!false) = 0 by decide), if_neg (show ¬ bI (!false) = 0 by decide), bd_some, b2, if_neg (show ¬ bI (!false) = 0 by decide)]
        exact ⟨_, rfl, b1, b2, fun q => (by cases q), fa⟩
    · obtain ⟨b1, b2⟩ := a2 (by simpa using c1)
      rw [if_neg c1, b2, if_neg (by decide), if_neg (by decide), bd_some, b2, if_neg (by decide)]
      exact ⟨_, rfl, b1, b2, fun q => (by cases q), fa⟩
def MOs (μ : Mm) : Nat → List (Nat × Nat × Nat × Nat × Nat) → Prop
  | _, [] => True
  | o, x :: L => MO μ o x.1 x.2 ∧ MOs μ (o + 1) L
theorem MO.fr {μ μ2 : Mm} {j k : Nat} {o : Nat × Nat × Nat × Nat} {z : Nat} (h : MO μ j k o) (hz : j < z) (h1 : ∀ i, i < z → μ2.1 11 i = μ.1 11 i) (h2 : ∀ i, i < 2 * z → μ2.1 12 i = μ.1 12 i) : MO μ2 j k o := ⟨by rw [h1 j hz]; exact h.1, h.2.fr (h2 _ (by omega)) (h2 _ (by omega))⟩
theorem MOs.fr {μ μ2 : Mm} (h1 : μ2.1 11 = μ.1 11) (h2 : μ2.1 12 = μ.1 12) : ∀ (L : List (Nat × Nat × Nat × Nat × Nat)) (o : Nat), MOs μ o L → MOs μ2 o L := by
  intro L
  induction L with
  | nil => intro o _; trivial
  | cons x L ih =>
    intro o h
    refine ⟨⟨by rw [h1]; exact h.1.1, h.1.2.fr (by rw [h2]) (by rw [h2])⟩, ih (o + 1) h.2⟩
theorem lpRead {tx : Nat → Nat} {len : Nat} (hX : TX tx len) (K : Mm → Option (Int32 × Mm)) : ∀ (t f p o : Nat) (μ : Mm), len - p < t → t < f → p ≤ len → 2 * o ≤ p → TM tx len μ → μ.1 0 17 = nI p → μ.1 0 18 = 0 → μ.1 0 19 = nI o →
    ∃ μ2, lp_X7_isRead_34 f μ K = K μ2 ∧ ((prs tx len t p).1 = none → μ2.1 0 18 = 0 ∧ μ2.1 0 19 = nI (o + (prs tx len t p).2.length) ∧ MOs μ2 o (prs tx len t p).2) ∧ (∀ e, (prs tx len t p).1 = some e → μ2.1 0 18 = 1 ∧ μ2.1 0 17 = nI e) ∧ FrP o μ μ2 := by
  have hl := hX.1
  intro t
  induction t with
  | zero => intro f p o μ h1; omega
  | succ t ih =>
    intro f p o μ h1 h2 h3 h4 h hat h18 h19
    obtain ⟨f, rfl⟩ : ∃ q, f = q + 1 := ⟨f - 1, by omega⟩
    rw [lp_X7_isRead_34, h18, if_pos rfl, h.1, hat]
    by_cases c : len ≤ p
    · rw [if_pos ((nI_leI (by omega) (by omega)).mpr c), prs_end c]
      exact ⟨μ, rfl, fun _ => ⟨h18, h19, trivial⟩, fun e q => (by cases q), FrP.rfl' o μ⟩
    · have hle := ordP_le (tx := tx) h3
      obtain ⟨μa, a1, a2, a3, a4, a5⟩ := stepM hX (fun μ => lp_X7_isRead_34 f μ K) (show o ≤ 74 by omega) h (show p < len by omega) hat h18 h19
      rw [if_neg (by rw [nI_leI (by omega) (by omega)]; exact c), a1]
      cases d : (ordP tx len p).1 with
      | true =>
        obtain ⟨e1, e2, -⟩ := hle.2 d
        obtain ⟨b1, b2⟩ := a4 d
        rw [d] at a3
        rw [prs_ok (by omega) d]
        obtain ⟨μ2, g1, g2, g3, g4⟩ := ih f (ordP tx len p).2.1 (o + 1) μa (by omega) (by omega) hle.1 (by omega) (a5.tm h) a2 a3 b1
        refine ⟨μ2, g1, fun q => ?_, g3, a5.trans ⟨g4.1, g4.2.1, fun j hj => g4.2.2.1 j (by omega), fun j hj => g4.2.2.2 j (by omega)⟩⟩
        obtain ⟨x1, x2, x3⟩ := g2 q
        refine ⟨x1, ?_, b2.fr (show o < o + 1 by omega) g4.2.2.1 g4.2.2.2, x3⟩
        rw [x2, List.length_cons]
        congr 1
        omega
      | false =>
        obtain ⟨f, rfl⟩ : ∃ q, f = q + 1 := ⟨f - 1, by omega⟩
        rw [d] at a3
        have a3 : μa.1 0 18 = 1 := a3
        rw [prs_no (by omega) d, lp_X7_isRead_34, a3, if_neg (by decide)]
        exact ⟨μa, rfl, fun q => (by cases q), fun e q => by cases q; exact ⟨a3, a2⟩, a5⟩
theorem readM {tx : Nat → Nat} {len : Nat} (hX : TX tx len) {μ : Mm} (h : TM tx len μ) : (∀ e, flt tx len = some e → ∃ μ2, f_X7_isRead μ = some (0, μ2) ∧ μ2.1 0 17 = nI e ∧ FrP 0 μ μ2) ∧ (flt tx len = none → ∃ μ2, f_X7_isRead μ = some (1, μ2) ∧ μ2.1 0 19 = nI (prs tx len 151 (skN tx len 0)).2.length ∧ MOs μ2 0 (prs tx len 151 (skN tx len 0)).2 ∧ FrP 0 μ μ2) := by
  have hl := hX.1
  have h0 := skN_le (tx := tx) (show 0 ≤ len by omega)
  have f0 : FrP 0 μ (si (si μ 0 17 (0 : Int32)) 0 19 (0 : Int32)) := ⟨fun a x _ _ => by rw [si_ne1 x, si_ne1 x], fun k x y z => by rw [si_rd, if_neg (fun q => z q.2), si_rd, if_neg (fun q => x q.2)], fun j hj => by omega, fun j hj => by omega⟩
  have at0 : (si (si μ 0 17 (0 : Int32)) 0 19 (0 : Int32)).1 0 17 = nI 0 := by rw [si_rd, if_neg (by omega), si_rd, if_pos ⟨rfl, rfl⟩]; exact iz0
  rw [f_X7_isRead, blM hX (f0.tm h) (by omega) at0, bd_some]
  have f1 : FrP 0 μ (si (si (si μ 0 17 (0 : Int32)) 0 19 (0 : Int32)) 0 17 (nI (skN tx len 0))) := f0.trans ((Fr17.s17 _ _).p 0)
  have at1 : (si (si (si μ 0 17 (0 : Int32)) 0 19 (0 : Int32)) 0 17 (nI (skN tx len 0))).1 0 17 = nI (skN tx len 0) := by rw [si_rd, if_pos ⟨rfl, rfl⟩]
  have o1 : (si (si (si μ 0 17 (0 : Int32)) 0 19 (0 : Int32)) 0 17 (nI (skN tx len 0))).1 0 19 = nI 0 := by rw [si_rd, if_neg (by omega), si_rd, if_pos ⟨rfl, rfl⟩]; exact iz0
  have hT1 := f1.tm h
  generalize si (si (si μ 0 17 (0 : Int32)) 0 19 (0 : Int32)) 0 17 (nI (skN tx len 0)) = μ1 at *
  rw [at1, hT1.1]
  unfold flt
  by_cases c : len ≤ skN tx len 0
  · have k2 : (si μ1 0 18 (1 : Int32)).1 0 18 = 1 := by rw [si_rd, if_pos ⟨rfl, rfl⟩]
    rw [if_pos c, if_pos (by rw [show skN tx len 0 = len by omega]), show FU = 999 + 1 from rfl, lp_X7_isRead_34, k2, if_neg (by decide), if_neg (by decide)]
    refine ⟨fun e q => ?_, fun q => by cases q⟩
    cases q
    exact ⟨_, rfl, by rw [si_rd, if_neg (by omega)]; exact at1, f1.trans ((Fr17.s18 _ _).p 0)⟩
  · rw [if_neg c, if_neg (by rw [nI_eq (by omega) (by omega)]; omega)]
    obtain ⟨μ2, g1, g2, g3, g4⟩ := lpRead hX (fun μ11 => if (μ11.1 0 18) = 0 then (some ((1 : Int32), μ11)) else (some ((0 : Int32), μ11))) 151 FU (skN tx len 0) 0 (si μ1 0 18 (0 : Int32)) (by omega) (by decide) h0.2 (by omega) (((Fr17.s18 μ1 _).p 0).tm hT1) (by rw [si_rd, if_neg (by omega)]; exact at1) (by rw [si_rd, if_pos ⟨rfl, rfl⟩]) (by rw [si_rd, if_neg (by omega)]; exact o1)
    rw [g1]
    have f2 := f1.trans (((Fr17.s18 μ1 _).p 0).trans g4)
    constructor
    · intro e q
      obtain ⟨x1, x2⟩ := g3 e q
      rw [x1, if_neg (by decide)]
      exact ⟨μ2, rfl, x2, f2⟩
    · intro q
      obtain ⟨x1, x2, x3⟩ := g2 q
      rw [Nat.zero_add] at x2
      rw [x1, if_pos rfl]
      exact ⟨μ2, rfl, x2, x3, f2⟩
