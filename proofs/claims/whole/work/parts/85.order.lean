/-! an order of THE TEXT, read by the class -/
def nmk (k : Nat) : Nat := if k = 98 then 1 else (if k = 101 then 1 else (if k = 102 then 1 else (if k = 107 then 2 else (if k = 108 then 0 else (if k = 115 then 1 else (if k = 116 then 1 else (if k = 119 then 2 else (if k = 120 then 1 else 3))))))))
def nmI (k : Nat) : Int32 := if k = 98 then (1 : Int32) else (if k = 101 then (1 : Int32) else (if k = 102 then (1 : Int32) else (if k = 107 then (2 : Int32) else (if k = 108 then (0 : Int32) else (if k = 115 then (1 : Int32) else (if k = 116 then (1 : Int32) else (if k = 119 then (2 : Int32) else (if k = 120 then (1 : Int32) else (-1 : Int32)))))))))
def encN (n : Nat) : Int32 := if n = 3 then -1 else nI n
theorem nm_enc (k : Nat) : nmI k = encN (nmk k) := by
  by_cases h98 : k = 98
  · subst h98; rfl
  by_cases h101 : k = 101
  · subst h101; rfl
  by_cases h102 : k = 102
  · subst h102; rfl
  by_cases h107 : k = 107
  · subst h107; rfl
  by_cases h108 : k = 108
  · subst h108; rfl
  by_cases h115 : k = 115
  · subst h115; rfl
  by_cases h116 : k = 116
  · subst h116; rfl
  by_cases h119 : k = 119
  · subst h119; rfl
  by_cases h120 : k = 120
  · subst h120; rfl
  unfold nmI nmk
  rw [if_neg h98, if_neg h101, if_neg h102, if_neg h107, if_neg h108, if_neg h115, if_neg h116, if_neg h119, if_neg h120, if_neg h98, if_neg h101, if_neg h102, if_neg h107, if_neg h108, if_neg h115, if_neg h116, if_neg h119, if_neg h120]
  rfl
theorem numsOf {tx : Nat → Nat} {len : Nat} (hX : TX tx len) {p : Nat} (μ : Mm) : f_X5_numbersOf (eb tx len p) μ = some (nmI (bt tx len p), μ) := by
  unfold f_X5_numbersOf nmI
  rw [show (98 : Int32) = nI 98 by decide +kernel]
  by_cases h98 : bt tx len p = 98
  · rw [if_pos ((eb_eq hX (by omega)).mpr h98), if_pos h98]
  rw [if_neg (fun q => h98 ((eb_eq hX (by omega)).mp q)), if_neg h98]
  rw [show (101 : Int32) = nI 101 by decide +kernel]
  by_cases h101 : bt tx len p = 101
  · rw [if_pos ((eb_eq hX (by omega)).mpr h101), if_pos h101]
  rw [if_neg (fun q => h101 ((eb_eq hX (by omega)).mp q)), if_neg h101]
  rw [show (102 : Int32) = nI 102 by decide +kernel]
  by_cases h102 : bt tx len p = 102
  · rw [if_pos ((eb_eq hX (by omega)).mpr h102), if_pos h102]
  rw [if_neg (fun q => h102 ((eb_eq hX (by omega)).mp q)), if_neg h102]
  rw [show (107 : Int32) = nI 107 by decide +kernel]
  by_cases h107 : bt tx len p = 107
  · rw [if_pos ((eb_eq hX (by omega)).mpr h107), if_pos h107]
  rw [if_neg (fun q => h107 ((eb_eq hX (by omega)).mp q)), if_neg h107]
  rw [show (108 : Int32) = nI 108 by decide +kernel]
  by_cases h108 : bt tx len p = 108
  · rw [if_pos ((eb_eq hX (by omega)).mpr h108), if_pos h108]
  rw [if_neg (fun q => h108 ((eb_eq hX (by omega)).mp q)), if_neg h108]
  rw [show (115 : Int32) = nI 115 by decide +kernel]
  by_cases h115 : bt tx len p = 115
  · rw [if_pos ((eb_eq hX (by omega)).mpr h115), if_pos h115]
  rw [if_neg (fun q => h115 ((eb_eq hX (by omega)).mp q)), if_neg h115]
  rw [show (116 : Int32) = nI 116 by decide +kernel]
  by_cases h116 : bt tx len p = 116
  · rw [if_pos ((eb_eq hX (by omega)).mpr h116), if_pos h116]
  rw [if_neg (fun q => h116 ((eb_eq hX (by omega)).mp q)), if_neg h116]
  rw [show (119 : Int32) = nI 119 by decide +kernel]
  by_cases h119 : bt tx len p = 119
  · rw [if_pos ((eb_eq hX (by omega)).mpr h119), if_pos h119]
  rw [if_neg (fun q => h119 ((eb_eq hX (by omega)).mp q)), if_neg h119]
  rw [show (120 : Int32) = nI 120 by decide +kernel]
  by_cases h120 : bt tx len p = 120
  · rw [if_pos ((eb_eq hX (by omega)).mpr h120), if_pos h120]
  rw [if_neg (fun q => h120 ((eb_eq hX (by omega)).mp q)), if_neg h120]
theorem nmk_lt {k : Nat} (h : nmk k ≠ 3) : k ≤ 120 ∧ nmk k ≤ 2 := by
  unfold nmk at h ⊢
  by_cases h98 : k = 98
  · rw [if_pos h98]; omega
  rw [if_neg h98] at h ⊢
  by_cases h101 : k = 101
  · rw [if_pos h101]; omega
  rw [if_neg h101] at h ⊢
  by_cases h102 : k = 102
  · rw [if_pos h102]; omega
  rw [if_neg h102] at h ⊢
  by_cases h107 : k = 107
  · rw [if_pos h107]; omega
  rw [if_neg h107] at h ⊢
  by_cases h108 : k = 108
  · rw [if_pos h108]; omega
  rw [if_neg h108] at h ⊢
  by_cases h115 : k = 115
  · rw [if_pos h115]; omega
  rw [if_neg h115] at h ⊢
  by_cases h116 : k = 116
  · rw [if_pos h116]; omega
  rw [if_neg h116] at h ⊢
  by_cases h119 : k = 119
  · rw [if_pos h119]; omega
  rw [if_neg h119] at h ⊢
  by_cases h120 : k = 120
  · rw [if_pos h120]; omega
  rw [if_neg h120] at h ⊢
  exact absurd rfl h
def FrT (μ μ2 : Mm) : Prop := (∀ a, a ≠ 78 → a ≠ 80 → a ≠ 81 → μ2.1 a = μ.1 a) ∧ μ2.1 78 1 = μ.1 78 1
theorem FrT.trans {μ μ2 μ3 : Mm} (h : FrT μ μ2) (g : FrT μ2 μ3) : FrT μ μ3 := ⟨fun a x y z => (g.1 a x y z).trans (h.1 a x y z), g.2.trans h.2⟩
theorem FrT.tc {tx : Nat → Nat} {len : Nat} {μ μ2 : Mm} (h : FrT μ μ2) (hT : TC tx len μ) : TC tx len μ2 := hT.fr h.2 (h.1 79 (by omega) (by omega) (by omega))
theorem FrT.rfl' (μ : Mm) : FrT μ μ := ⟨fun _ _ _ _ => rfl, rfl⟩
theorem FrT.si (μ : Mm) {a i : Nat} (v : Int32) (h : a = 78 ∨ a = 80 ∨ a = 81) (h2 : ¬ (a = 78 ∧ i = 1)) : FrT μ (si μ a i v) := ⟨fun b x y z => si_ne1 (by omega), by rw [si_rd, if_neg (fun q => h2 ⟨q.1.symm, q.2.symm⟩)]⟩
def nums (tx : Nat → Nat) (len n p : Nat) : Bool × Nat × Nat × Nat :=
  if n = 0 then (true, p, 0, 0)
  else if (num tx len p).1 = true then
    (if n = 1 then (true, (num tx len p).2.2, (num tx len p).2.1, 0)
    else if (num tx len (num tx len p).2.2).1 = true then (true, (num tx len (num tx len p).2.2).2.2, (num tx len p).2.1, (num tx len (num tx len p).2.2).2.1) else (false, (num tx len (num tx len p).2.2).2.2, 0, 0))
  else (false, (num tx len p).2.2, 0, 0)
theorem nums_le {tx : Nat → Nat} {len n p : Nat} (hp : p ≤ len) : p ≤ (nums tx len n p).2.1 ∧ (nums tx len n p).2.1 ≤ len := by
  have h1 := num_le (tx := tx) hp
  have h2 := num_le (tx := tx) (p := (num tx len p).2.2) h1.2.1
  unfold nums
  by_cases c0 : n = 0
  · rw [if_pos c0]; exact ⟨Nat.le_refl _, hp⟩
  · rw [if_neg c0]
    by_cases c1 : (num tx len p).1 = true
    · rw [if_pos c1]
      by_cases c2 : n = 1
      · rw [if_pos c2]; exact ⟨h1.1, h1.2.1⟩
      · rw [if_neg c2]
        by_cases c3 : (num tx len (num tx len p).2.2).1 = true
        · rw [if_pos c3]; exact ⟨by simp only; omega, h2.2.1⟩
        · rw [if_neg c3]; exact ⟨by simp only; omega, h2.2.1⟩
    · rw [if_neg c1]; exact ⟨h1.1, h1.2.1⟩
theorem numsC {tx : Nat → Nat} {len : Nat} (hX : TX tx len) (K : Mm → Option (Int32 × Mm)) {n : Nat} (hn : n ≤ 2) {μ : Mm} (h : TC tx len μ) {p : Nat} (hp : p ≤ len) (hat : μ.1 78 2 = nI p) :
    ∃ μ2, lp_X5_readOrder_35 (nI n) FU (0 : Int32) μ K = (if (nums tx len n p).1 = true then K μ2 else some (0, μ2)) ∧ μ2.1 78 2 = nI (nums tx len n p).2.1 ∧ ((nums tx len n p).1 = true → (1 ≤ n → μ2.1 80 0 = nI (nums tx len n p).2.2.1) ∧ (n = 2 → μ2.1 80 1 = nI (nums tx len n p).2.2.2)) ∧ (∀ a j, a ≠ 80 → ¬ (a = 78 ∧ j = 2) → μ2.1 a j = μ.1 a j) := by
  have eFU : FU = 997 + 1 + 1 + 1 := rfl
  rw [eFU, lp_X5_readOrder_35]
  by_cases c0 : n = 0
  · subst c0
    have en : nums tx len 0 p = (true, p, 0, 0) := by unfold nums; rw [if_pos rfl]
    rw [if_pos (by decide +kernel), en]
    exact ⟨μ, rfl, hat, fun _ => ⟨fun q => by omega, fun q => by omega⟩, fun _ _ _ _ => rfl⟩
  · obtain ⟨μa, a1, a2, a3, a4⟩ := numC hX h (show 0 < 2 by omega) hp hat
    have hp2 := num_le (tx := tx) hp
    rw [← iz0] at a1
    rw [if_neg (show ¬ nI n ≤ 0 by rw [le0_iff (by omega)]; exact c0), a1, bd_some]
    cases d1 : (num tx len p).1 with
    | false =>
      have en : nums tx len n p = (false, (num tx len p).2.2, 0, 0) := by unfold nums; rw [if_neg c0, d1, if_neg (by decide)]
      rw [if_pos (show bI false = 0 from rfl), en]
      exact ⟨μa, rfl, a2, fun q => (by cases q), fun a j x y => a4 a j y (fun z => x z.1)⟩
    | true =>
      rw [if_neg (show ¬ bI true = 0 by decide), show (0 : Int32) + 1 = nI 1 by decide +kernel, lp_X5_readOrder_35]
      by_cases c1 : n = 1
      · subst c1
        have en : nums tx len 1 p = (true, (num tx len p).2.2, (num tx len p).2.1, 0) := by unfold nums; rw [if_neg (by omega), d1, if_pos rfl, if_pos rfl]
        rw [if_pos (by decide +kernel), en]
        exact ⟨μa, rfl, a2, fun _ => ⟨fun _ => a3 d1, fun q => by omega⟩, fun a j x y => a4 a j y (fun z => x z.1)⟩
      · have hn2 : n = 2 := by omega
        subst hn2
        have hTa : TC tx len μa := ⟨by rw [a4 78 1 (by omega) (by omega)]; exact h.1, fun i hi => by rw [a4 79 i (by omega) (by omega)]; exact h.2 i hi⟩
        obtain ⟨μb, b1, b2, b3, b4⟩ := numC hX hTa (show 1 < 2 by omega) hp2.2.1 a2
        rw [if_neg (by decide +kernel), b1, bd_some]
        cases d2 : (num tx len (num tx len p).2.2).1 with
        | false =>
          have en : nums tx len 2 p = (false, (num tx len (num tx len p).2.2).2.2, 0, 0) := by unfold nums; rw [if_neg (by omega), d1, if_pos rfl, if_neg (by omega), d2, if_neg (by decide)]
          rw [if_pos (show bI false = 0 from rfl), en]
          exact ⟨μb, rfl, b2, fun q => (by cases q), fun a j x y => by rw [b4 a j y (fun z => x z.1), a4 a j y (fun z => x z.1)]⟩
        | true =>
          have en : nums tx len 2 p = (true, (num tx len (num tx len p).2.2).2.2, (num tx len p).2.1, (num tx len (num tx len p).2.2).2.1) := by unfold nums; rw [if_neg (by omega), d1, if_pos rfl, if_neg (by omega), d2, if_pos rfl]
          rw [if_neg (show ¬ bI true = 0 by decide), nI_1, lp_X5_readOrder_35, if_pos (by decide +kernel), en]
          exact ⟨μb, rfl, b2, fun _ => ⟨fun _ => by rw [b4 80 0 (by omega) (by omega)]; exact a3 d1, fun _ => b3 d2⟩, fun a j x y => by rw [b4 a j y (fun z => x z.1), a4 a j y (fun z => x z.1)]⟩
def ltsK (tx : Nat → Nat) (len k p : Nat) : Bool × Nat × Nat := if k = 102 then lts tx len 1 6 p else if k = 108 then lts tx len 0 40 p else (true, p, 0)
def ltK0 (tx : Nat → Nat) (len k p : Nat) : Bool := if k = 102 then lt0 tx len 1 6 p else if k = 108 then lt0 tx len 0 40 p else true
theorem lt0_of {tx : Nat → Nat} {len mn mx p : Nat} : ((lts tx len mn mx p).1 = true → lt0 tx len mn mx p = true) ∧ ((lts tx len mn mx p).1 = false → lt0 tx len mn mx p = false ∨ ltr (bt tx len ((lts tx len mn mx p).2.1 + (lts tx len mn mx p).2.2)) = true) := by
  unfold lts lt0
  simp only
  generalize decide (mn ≤ cl tx len mx (skN tx len p)) = u
  generalize ltr (bt tx len (skN tx len p + cl tx len mx (skN tx len p))) = v
  cases u <;> cases v <;> simp
theorem ltK0_of {tx : Nat → Nat} {len k p : Nat} : ((ltsK tx len k p).1 = true → ltK0 tx len k p = true) ∧ ((ltsK tx len k p).1 = false → ltK0 tx len k p = false ∨ ltr (bt tx len ((ltsK tx len k p).2.1 + (ltsK tx len k p).2.2)) = true) := by
  unfold ltsK ltK0
  by_cases c1 : k = 102
  · rw [if_pos c1, if_pos c1]; exact lt0_of
  · rw [if_neg c1, if_neg c1]
    by_cases c2 : k = 108
    · rw [if_pos c2, if_pos c2]; exact lt0_of
    · rw [if_neg c2, if_neg c2]
      exact ⟨fun _ => rfl, fun q => by cases q⟩
theorem skN_ltr {tx : Nat → Nat} {len p : Nat} (h : ltr (bt tx len p) = true) : skN tx len p = p := by
  have := (ltr_lt h).2.1
  unfold skN
  rw [sk, if_neg (by omega)]
theorem lts_le {tx : Nat → Nat} {len mn mx p : Nat} (hp : p ≤ len) : p ≤ (lts tx len mn mx p).2.1 ∧ (lts tx len mn mx p).2.1 + (lts tx len mn mx p).2.2 ≤ len ∧ (lts tx len mn mx p).2.2 ≤ mx ∧ (∀ i, i < (lts tx len mn mx p).2.2 → ltr (bt tx len ((lts tx len mn mx p).2.1 + i)) = true) := by
  have h1 := skN_le (tx := tx) hp
  have h2 := cl_le (tx := tx) mx (skN tx len p) h1.2
  exact ⟨h1.1, h2.2.1, h2.1, h2.2.2.1⟩
theorem ltsK_le {tx : Nat → Nat} {len k p : Nat} (hp : p ≤ len) : p ≤ (ltsK tx len k p).2.1 ∧ (ltsK tx len k p).2.1 + (ltsK tx len k p).2.2 ≤ len := by
  unfold ltsK
  by_cases c1 : k = 102
  · rw [if_pos c1]; exact ⟨(lts_le hp).1, (lts_le hp).2.1⟩
  · rw [if_neg c1]
    by_cases c2 : k = 108
    · rw [if_pos c2]; exact ⟨(lts_le hp).1, (lts_le hp).2.1⟩
    · rw [if_neg c2]; exact ⟨Nat.le_refl _, hp⟩
theorem ltsKC {tx : Nat → Nat} {len : Nat} (hX : TX tx len) {k : Nat} (hk : k ≤ 127) {μ : Mm} (h : TC tx len μ) {p : Nat} (hp : p ≤ len) (hat : μ.1 78 2 = nI p) (h3 : μ.1 78 3 = nI k) :
    ∃ μ2, f_X5_readLetters μ = some (bI (ltK0 tx len k p), μ2) ∧ μ2.1 78 2 = nI ((ltsK tx len k p).2.1 + (ltsK tx len k p).2.2) ∧ μ2.1 78 6 = nI (ltsK tx len k p).2.2 ∧ (∀ j, j < (ltsK tx len k p).2.2 → μ2.1 81 j = nI (bt tx len ((ltsK tx len k p).2.1 + j) - 96)) ∧ (∀ a j, a ≠ 81 → ¬ (a = 78 ∧ (j = 2 ∨ j = 6)) → μ2.1 a j = μ.1 a j) := by
  unfold ltsK ltK0
  rw [f_X5_readLetters, h3, show (102 : Int32) = nI 102 by decide +kernel, show (108 : Int32) = nI 108 by decide +kernel]
  by_cases c1 : k = 102
  · have e1 : nI k = nI 102 := by rw [c1]
    rw [if_pos c1, if_pos c1, if_pos e1, if_pos e1, if_pos e1]
    exact ltsC hX (by omega) (by omega) (by decide +kernel) (by decide +kernel) h hp hat
  · have e1 : ¬ nI k = nI 102 := by rw [nI_eq (by omega) (by omega)]; exact c1
    rw [if_neg c1, if_neg c1, if_neg e1]
    by_cases c2 : k = 108
    · have e2 : nI k = nI 108 := by rw [c2]
      rw [if_pos c2, if_pos c2, if_pos e2, if_neg e1, if_neg e1]
      exact ltsC hX (by omega) (by omega) (by decide +kernel) (by decide +kernel) h hp hat
    · have e2 : ¬ nI k = nI 108 := by rw [nI_eq (by omega) (by omega)]; exact c2
      rw [if_neg c2, if_neg c2, if_neg e2]
      refine ⟨_, rfl, by rw [si_rd, if_neg (by omega)]; exact hat, by rw [si_rd, if_pos ⟨rfl, rfl⟩]; exact iz0, fun j hj => absurd hj (Nat.not_lt_zero _), fun a j x y => by rw [si_rd, if_neg (fun z => y ⟨z.1, Or.inr z.2⟩)]⟩
def ord3 (tx : Nat → Nat) (len a b q c : Nat) : Bool × Nat × Nat × Nat × Nat × Nat := if bt tx len (skN tx len (q + c)) = 59 then (true, skN tx len (skN tx len (q + c) + 1), a, b, q, c) else (false, skN tx len (q + c), a, b, q, c)
def ord2 (tx : Nat → Nat) (len k p a b : Nat) : Bool × Nat × Nat × Nat × Nat × Nat := if (ltsK tx len k p).1 = true then ord3 tx len a b (ltsK tx len k p).2.1 (ltsK tx len k p).2.2 else (false, (ltsK tx len k p).2.1 + (ltsK tx len k p).2.2, a, b, 0, 0)
def ord1 (tx : Nat → Nat) (len k p : Nat) : Bool × Nat × Nat × Nat × Nat × Nat := if (nums tx len (nmk k) p).1 = true then ord2 tx len k (nums tx len (nmk k) p).2.1 (nums tx len (nmk k) p).2.2.1 (nums tx len (nmk k) p).2.2.2 else (false, (nums tx len (nmk k) p).2.1, 0, 0, 0, 0)
def ordP (tx : Nat → Nat) (len p : Nat) : Bool × Nat × Nat × Nat × Nat × Nat := if nmk (bt tx len p) = 3 then (false, p, 0, 0, 0, 0) else ord1 tx len (bt tx len p) (p + 1)
theorem ord3_le {tx : Nat → Nat} {len a b q c : Nat} (h : q + c ≤ len) : (ord3 tx len a b q c).2.1 ≤ len ∧ ((ord3 tx len a b q c).1 = true → q + c + 1 ≤ (ord3 tx len a b q c).2.1 ∧ (ord3 tx len a b q c).2.2 = (a, b, q, c)) := by
  have h1 := skN_le (tx := tx) h
  unfold ord3
  by_cases d : bt tx len (skN tx len (q + c)) = 59
  · have := bt_lt (by omega) d
    have h2 := skN_le (tx := tx) (len := len) (p := skN tx len (q + c) + 1) (by omega)
    rw [if_pos d]
    exact ⟨h2.2, fun _ => ⟨by simp only; omega, rfl⟩⟩
  · rw [if_neg d]
    exact ⟨h1.2, fun q => by cases q⟩
theorem ordP_le {tx : Nat → Nat} {len p : Nat} (hp : p ≤ len) : (ordP tx len p).2.1 ≤ len ∧ ((ordP tx len p).1 = true → p < len ∧ p + 2 ≤ (ordP tx len p).2.1 ∧ nmk (bt tx len p) ≠ 3) := by
  unfold ordP
  by_cases c0 : nmk (bt tx len p) = 3
  · rw [if_pos c0]; exact ⟨hp, fun q => by cases q⟩
  · have hk := nmk_lt c0
    have h1 := bt_lt (c := bt tx len p) (by omega) rfl
    have h2 := nums_le (tx := tx) (len := len) (n := nmk (bt tx len p)) (p := p + 1) (by omega)
    rw [if_neg c0]
    unfold ord1
    by_cases c1 : (nums tx len (nmk (bt tx len p)) (p + 1)).1 = true
    · have h3 := ltsK_le (tx := tx) (k := bt tx len p) h2.2
      rw [if_pos c1]
      unfold ord2
      by_cases c2 : (ltsK tx len (bt tx len p) (nums tx len (nmk (bt tx len p)) (p + 1)).2.1).1 = true
      · rw [if_pos c2]
        have h4 := ord3_le (tx := tx) (a := (nums tx len (nmk (bt tx len p)) (p + 1)).2.2.1) (b := (nums tx len (nmk (bt tx len p)) (p + 1)).2.2.2) h3.2
        refine ⟨h4.1, fun q => ⟨h1, ?_, c0⟩⟩
        have := (h4.2 q).1
        omega
      · rw [if_neg c2]; exact ⟨h3.2, fun q => by cases q⟩
    · rw [if_neg c1]; exact ⟨h2.2, fun q => by cases q⟩
def CO (tx : Nat → Nat) (len : Nat) (μ : Mm) (k : Nat) (o : Nat × Nat × Nat × Nat) : Prop := μ.1 78 3 = nI k ∧ (1 ≤ nmk k → μ.1 80 0 = nI o.1) ∧ (nmk k = 2 → μ.1 80 1 = nI o.2.1) ∧ μ.1 78 6 = nI o.2.2.2 ∧ ∀ j, j < o.2.2.2 → μ.1 81 j = nI (bt tx len (o.2.2.1 + j) - 96)
theorem orderC {tx : Nat → Nat} {len : Nat} (hX : TX tx len) {μ : Mm} (h : TC tx len μ) {p : Nat} (hp : p ≤ len) (hat : μ.1 78 2 = nI p) :
    ∃ μ2, f_X5_readOrder μ = some (bI (ordP tx len p).1, μ2) ∧ μ2.1 78 2 = nI (ordP tx len p).2.1 ∧ FrT μ μ2 ∧ ((ordP tx len p).1 = true → CO tx len μ2 (bt tx len p) (ordP tx len p).2.2) := by
  have hl := hX.1
  have f0 : FrT μ (si μ 78 3 (eb tx len p)) := FrT.si μ _ (Or.inl rfl) (by omega)
  have at0 : (si μ 78 3 (eb tx len p)).1 78 2 = nI p := by rw [si_rd, if_neg (by omega)]; exact hat
  rw [f_X5_readOrder, byteC hX h (by omega) hat, bd_some, numsOf hX, bd_some, nm_enc]
  unfold ordP encN
  by_cases c0 : nmk (bt tx len p) = 3
  · rw [if_pos c0, if_pos c0, if_pos rfl]
    exact ⟨_, rfl, at0, f0, fun q => by cases q⟩
  · have hk := nmk_lt c0
    have h1 := bt_lt (c := bt tx len p) (by omega) rfl
    have ek : eb tx len p = nI (bt tx len p) := (eb_eq hX (by omega)).mpr rfl
    rw [if_neg c0, if_neg c0, if_neg (nI_m1 (by omega)), at0, nI_1]
    rw [ek] at f0 at0 ⊢
    generalize hk0 : bt tx len p = k at *
    have f1 : FrT μ (si (si μ 78 3 (nI k)) 78 2 (nI (p + 1))) := f0.trans (FrT.si _ _ (Or.inl rfl) (by omega))
    obtain ⟨μa, a1, a2, a3, a4⟩ := numsC hX (fun μ10 => bd (f_X5_readLetters μ10) fun r11 μ12 => if r11 = 0 then (some ((0 : Int32), μ12)) else (bd (f_X5_skipBlanks μ12) fun r14 μ15 => bd (f_X5_byteHere μ15) fun r16 μ17 => if r16 = (59 : Int32) then (bd (f_X5_skipBlanks (si μ17 78 2 ((μ17.1 78 2) + (1 : Int32)))) fun r19 μ20 => some ((1 : Int32), μ20)) else (some ((0 : Int32), μ17)))) hk.2 (f1.tc h) (show p + 1 ≤ len by omega) (by rw [si_rd, if_pos ⟨rfl, rfl⟩])
    have h2 := nums_le (tx := tx) (len := len) (n := nmk k) (p := p + 1) (by omega)
    have f2 : FrT μ μa := f1.trans ⟨fun a x y z => by funext j; exact a4 a j y (fun q => x q.1), a4 78 1 (by omega) (by omega)⟩
    have k2 : μa.1 78 3 = nI k := by rw [a4 78 3 (by omega) (by omega), si_rd, if_neg (by omega), si_rd, if_pos ⟨rfl, rfl⟩]
    rw [a1]
    unfold ord1
    by_cases c1 : (nums tx len (nmk k) (p + 1)).1 = true
    · rw [if_pos c1, if_pos c1]
      generalize nums tx len (nmk k) (p + 1) = ns at *
      obtain ⟨μb, b1, b2, b3, b4, b5⟩ := ltsKC hX (show k ≤ 127 by omega) (f2.tc h) h2.2 a2 k2
      have h3 := ltsK_le (tx := tx) (k := k) h2.2
      have f3 : FrT μ μb := f2.trans ⟨fun a x y z => by funext j; exact b5 a j z (fun q => x q.1), b5 78 1 (by omega) (by omega)⟩
      rw [b1, bd_some]
      unfold ord2
      by_cases c2 : (ltsK tx len k ns.2.1).1 = true
      · rw [ltK0_of.1 c2, if_neg (show ¬ bI true = 0 by decide), if_pos c2]
        generalize ltsK tx len k ns.2.1 = l at *
        have h4 := skN_le (tx := tx) h3.2
        rw [skC hX (f3.tc h) h3.2 b2, bd_some]
        have f4 : FrT μ (si μb 78 2 (nI (skN tx len (l.2.1 + l.2.2)))) := f3.trans (FrT.si _ _ (Or.inl rfl) (by omega))
        have at4 : (si μb 78 2 (nI (skN tx len (l.2.1 + l.2.2)))).1 78 2 = nI (skN tx len (l.2.1 + l.2.2)) := by rw [si_rd, if_pos ⟨rfl, rfl⟩]
        rw [byteC hX (f4.tc h) (by omega) at4, bd_some, at4, nI_1, si_si]
        unfold ord3
        have e59 : (59 : Int32) = nI 59 := by decide +kernel
        by_cases c3 : bt tx len (skN tx len (l.2.1 + l.2.2)) = 59
        · have h5 := bt_lt (by omega) c3
          have f5 : FrT μ (si μb 78 2 (nI (skN tx len (l.2.1 + l.2.2) + 1))) := f3.trans (FrT.si _ _ (Or.inl rfl) (by omega))
          rw [if_pos c3, if_pos (by rw [e59]; exact (eb_eq hX (by omega)).mpr c3), skC hX (f5.tc h) (p := skN tx len (l.2.1 + l.2.2) + 1) (by omega) (by rw [si_rd, if_pos ⟨rfl, rfl⟩]), bd_some, si_si]
          refine ⟨_, rfl, by rw [si_rd, if_pos ⟨rfl, rfl⟩], f3.trans (FrT.si _ _ (Or.inl rfl) (by omega)), fun _ => ⟨?_, fun q => ?_, fun q => ?_, ?_, fun j hj => ?_⟩⟩
          · rw [si_rd, if_neg (by omega), b5 78 3 (by omega) (by omega)]; exact k2
          · rw [si_ne1 (by omega), b5 80 0 (by omega) (by omega)]; exact (a3 c1).1 q
          · rw [si_ne1 (by omega), b5 80 1 (by omega) (by omega)]; exact (a3 c1).2 q
          · rw [si_rd, if_neg (by omega)]; exact b3
          · rw [si_ne1 (by omega)]; exact b4 j hj
        · rw [if_neg c3, if_neg (by rw [e59]; exact fun q => c3 ((eb_eq hX (by omega)).mp q))]
          exact ⟨_, rfl, at4, f4, fun q => by cases q⟩
      · have c2' : (ltsK tx len k ns.2.1).1 = false := by simpa using c2
        rw [if_neg c2]
        rcases ltK0_of.2 c2' with d | d
        · rw [d, if_pos (show bI false = 0 from rfl)]
          exact ⟨_, rfl, b2, f3, fun q => by cases q⟩
        · cases d0 : ltK0 tx len k ns.2.1 with
          | false =>
            rw [if_pos (show bI false = 0 from rfl)]
            exact ⟨_, rfl, b2, f3, fun q => by cases q⟩
          | true =>
            rw [if_neg (show ¬ bI true = 0 by decide), skC hX (f3.tc h) h3.2 b2, bd_some, skN_ltr d]
            have dl := ltr_lt d
            have f4 : FrT μ (si μb 78 2 (nI ((ltsK tx len k ns.2.1).2.1 + (ltsK tx len k ns.2.1).2.2))) := f3.trans (FrT.si _ _ (Or.inl rfl) (by omega))
            have at4 : (si μb 78 2 (nI ((ltsK tx len k ns.2.1).2.1 + (ltsK tx len k ns.2.1).2.2))).1 78 2 = nI ((ltsK tx len k ns.2.1).2.1 + (ltsK tx len k ns.2.1).2.2) := by rw [si_rd, if_pos ⟨rfl, rfl⟩]
            rw [byteC hX (f4.tc h) (by omega) at4, bd_some, if_neg (by rw [show (59 : Int32) = nI 59 by decide +kernel, eb_eq hX (by omega)]; omega)]
            exact ⟨_, rfl, at4, f4, fun q => by cases q⟩
    · rw [if_neg c1, if_neg c1]
      exact ⟨_, rfl, a2, f2, fun q => by cases q⟩
