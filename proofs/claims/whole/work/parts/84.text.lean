/-! THE TEXT, read by the class -/
def bt (tx : Nat → Nat) (len p : Nat) : Nat := if p < len then tx p else 999
def dgt (x : Nat) : Bool := decide (48 ≤ x) && decide (x ≤ 57)
def ltr (x : Nat) : Bool := decide (97 ≤ x) && decide (x ≤ 104)
def sk (tx : Nat → Nat) (len : Nat) : Nat → Nat → Nat
  | 0, p => p
  | t + 1, p => if bt tx len p = 32 then sk tx len t (p + 1) else p
def skN (tx : Nat → Nat) (len p : Nat) : Nat := sk tx len 151 p
def TX (tx : Nat → Nat) (len : Nat) : Prop := len ≤ 150 ∧ ∀ i, i < len → tx i ≤ 127
def TC (tx : Nat → Nat) (len : Nat) (μ : Mm) : Prop := μ.1 78 1 = nI len ∧ ∀ i, i < len → μ.1 79 i = nI (tx i)
def eb (tx : Nat → Nat) (len p : Nat) : Int32 := if p < len then nI (tx p) else -1
theorem bt_lt {tx : Nat → Nat} {len p c : Nat} (hc : c ≤ 127) (h : bt tx len p = c) : p < len := by
  unfold bt at h
  split at h
  · assumption
  · omega
theorem sk_le {tx : Nat → Nat} {len : Nat} : ∀ t p, p ≤ len → p ≤ sk tx len t p ∧ sk tx len t p ≤ len := by
  intro t
  induction t with
  | zero => intro p h; exact ⟨Nat.le_refl _, h⟩
  | succ t ih =>
    intro p h
    rw [sk]
    by_cases c : bt tx len p = 32
    · rw [if_pos c]
      have := bt_lt (by omega) c
      have := ih (p + 1) (by omega)
      exact ⟨by omega, this.2⟩
    · rw [if_neg c]
      exact ⟨Nat.le_refl _, h⟩
theorem skN_le {tx : Nat → Nat} {len p : Nat} (h : p ≤ len) : p ≤ skN tx len p ∧ skN tx len p ≤ len := sk_le 151 p h
theorem si_same {μ : Mm} {a i : Nat} {v : Int32} (h : μ.1 a i = v) : si μ a i v = μ := by
  have e : (si μ a i v).1 = μ.1 := by
    funext b j
    rw [si_rd]
    by_cases c : b = a ∧ j = i
    · rw [if_pos c, c.1, c.2, h]
    · rw [if_neg c]
  exact Prod.ext e rfl
theorem si_si (μ : Mm) (a i : Nat) (v w : Int32) : si (si μ a i v) a i w = si μ a i w := by
  have e : (si (si μ a i v) a i w).1 = (si μ a i w).1 := by
    funext b j
    rw [si_rd, si_rd, si_rd]
    by_cases c : b = a ∧ j = i
    · rw [if_pos c, if_pos c]
    · rw [if_neg c, if_neg c, if_neg c]
  exact Prod.ext e rfl
theorem TC.si {tx : Nat → Nat} {len : Nat} {μ : Mm} (h : TC tx len μ) {a i : Nat} (v : Int32) (hn : a ≠ 79) (hn2 : ¬ (a = 78 ∧ i = 1)) : TC tx len (si μ a i v) := by
  refine ⟨?_, fun j hj => ?_⟩
  · rw [si_rd, if_neg (fun q => hn2 ⟨q.1.symm, q.2.symm⟩)]; exact h.1
  · rw [si_ne1 (fun q => hn q.symm)]; exact h.2 j hj
theorem TC.fr {tx : Nat → Nat} {len : Nat} {μ μ2 : Mm} (h : TC tx len μ) (h1 : μ2.1 78 1 = μ.1 78 1) (h2 : μ2.1 79 = μ.1 79) : TC tx len μ2 := ⟨by rw [h1]; exact h.1, fun i hi => by rw [h2]; exact h.2 i hi⟩
theorem byteC {tx : Nat → Nat} {len : Nat} (hX : TX tx len) {μ : Mm} (h : TC tx len μ) {p : Nat} (hp : p < 2 ^ 30) (hat : μ.1 78 2 = nI p) : f_X5_byteHere μ = some (eb tx len p, μ) := by
  have hl := hX.1
  rw [f_X5_byteHere, hat, h.1, if_neg (nI_pos (by omega))]
  unfold eb
  by_cases c : p < len
  · rw [if_neg (by rw [nI_leI (by omega) (by omega)]; omega), if_pos (zin_nI (by omega) (by omega)), if_pos c, nI_clamp (by omega), h.2 p c]
  · rw [if_pos ((nI_leI (by omega) (by omega)).mpr (by omega)), if_neg c]
theorem eb_eq {tx : Nat → Nat} {len : Nat} (hX : TX tx len) {p c : Nat} (hc : c ≤ 127) : eb tx len p = nI c ↔ bt tx len p = c := by
  unfold eb bt
  by_cases d : p < len
  · have := hX.2 p d
    rw [if_pos d, if_pos d, nI_eq (by omega) (by omega)]
  · rw [if_neg d, if_neg d]
    exact ⟨fun q => absurd q.symm (nI_m1 (by omega)), fun q => by omega⟩
theorem eb_rng {tx : Nat → Nat} {len : Nat} (hX : TX tx len) {p lo hi : Nat} (hh : hi ≤ 127) : rng (eb tx len p) lo hi ↔ (lo ≤ bt tx len p ∧ bt tx len p ≤ hi) := by
  unfold eb bt
  by_cases d : p < len
  · have := hX.2 p d
    rw [if_pos d, if_pos d]
    constructor
    · rintro ⟨k, h1, h2, h3⟩
      rw [nI_eq (by omega) (by omega)] at h3
      omega
    · intro q
      exact ⟨tx p, q.1, q.2, rfl⟩
  · rw [if_neg d, if_neg d]
    constructor
    · rintro ⟨k, h1, h2, h3⟩
      exact absurd h3.symm (nI_m1 (by omega))
    · intro q; omega
theorem inC {tx : Nat → Nat} {len : Nat} (hX : TX tx len) {p lo hi : Nat} (hl : lo ≤ 127) (hh : hi ≤ 127) {l h : Int32} (el : l = nI lo) (eh : h = nI hi) (μ : Mm) : f_X6_within (eb tx len p) l h μ = some (bI (decide (lo ≤ bt tx len p) && decide (bt tx len p ≤ hi)), μ) := by
  have w := wC (eb tx len p) lo hi (by omega) (by omega) l h el eh μ
  by_cases c : lo ≤ bt tx len p ∧ bt tx len p ≤ hi
  · rw [w.1 ((eb_rng hX hh).mpr c), decide_eq_true c.1, decide_eq_true c.2]; rfl
  · rw [w.2 (fun q => c ((eb_rng hX hh).mp q))]
    have : (decide (lo ≤ bt tx len p) && decide (bt tx len p ≤ hi)) = false := by
      rw [← Bool.not_eq_true, Bool.and_eq_true, decide_eq_true_eq, decide_eq_true_eq]
      exact c
    rw [this]; rfl
theorem figC {tx : Nat → Nat} {len : Nat} (hX : TX tx len) {p : Nat} (μ : Mm) : f_X5_isFigure (eb tx len p) μ = some (bI (dgt (bt tx len p)), μ) := by
  rw [f_X5_isFigure, inC hX (show 48 ≤ 127 by omega) (show 57 ≤ 127 by omega) (by decide +kernel) (by decide +kernel) μ, bd_some]
  show (if bI (dgt (bt tx len p)) = 0 ∨ bI (dgt (bt tx len p)) = 1 then some (bI (dgt (bt tx len p)), μ) else none) = some (bI (dgt (bt tx len p)), μ)
  cases dgt (bt tx len p) <;> rfl
theorem lpSkC {tx : Nat → Nat} {len : Nat} (hX : TX tx len) (K : Mm → Option (Unit × Mm)) : ∀ (t f p : Nat) (μ : Mm), t < f → p ≤ len → len ≤ p + t → TC tx len μ → μ.1 78 2 = nI p → lp_X5_skipBlanks_0 f μ K = K (si μ 78 2 (nI (sk tx len t p))) := by
  have hl := hX.1
  intro t
  induction t with
  | zero =>
    intro f p μ h1 h2 h3 h hat
    obtain ⟨f, rfl⟩ : ∃ q, f = q + 1 := ⟨f - 1, by omega⟩
    rw [lp_X5_skipBlanks_0, h.1, hat, if_pos ((nI_leI (by omega) (by omega)).mpr (by omega)), sk, si_same hat]
  | succ t ih =>
    intro f p μ h1 h2 h3 h hat
    obtain ⟨f, rfl⟩ : ∃ q, f = q + 1 := ⟨f - 1, by omega⟩
    rw [lp_X5_skipBlanks_0, h.1, hat, sk]
    by_cases c : p < len
    · have hb : bt tx len p = tx p := by unfold bt; rw [if_pos c]
      have := hX.2 p c
      rw [if_neg (by rw [nI_leI (by omega) (by omega)]; omega), if_pos (zin_nI (by omega) (by omega)), nI_clamp (by omega), h.2 p c, hb]
      by_cases d : tx p = 32
      · rw [if_pos (by rw [d]; decide +kernel), if_pos d, nI_1, ih f (p + 1) _ (by omega) (by omega) (by omega) (h.si _ (by omega) (by omega)) (by rw [si_rd, if_pos ⟨rfl, rfl⟩]), si_si]
      · rw [if_neg (by rw [show (32 : Int32) = nI 32 by decide +kernel, nI_eq (by omega) (by omega)]; exact d), if_neg d, si_same hat]
    · have hb : bt tx len p = 999 := by unfold bt; rw [if_neg c]
      rw [if_pos ((nI_leI (by omega) (by omega)).mpr (by omega)), hb, if_neg (by omega), si_same hat]
theorem skC {tx : Nat → Nat} {len : Nat} (hX : TX tx len) {μ : Mm} (h : TC tx len μ) {p : Nat} (hp : p ≤ len) (hat : μ.1 78 2 = nI p) : f_X5_skipBlanks μ = some ((), si μ 78 2 (nI (skN tx len p))) := by
  have hl := hX.1
  exact lpSkC hX (fun μ3 => some ((), μ3)) 151 FU p μ (by decide) hp (by omega) h hat
def num (tx : Nat → Nat) (len p : Nat) : Bool × Nat × Nat :=
  if dgt (bt tx len (skN tx len p)) = true then
    (if dgt (bt tx len (skN tx len p + 1)) = true then
      (if dgt (bt tx len (skN tx len p + 2)) = true then (false, 0, skN tx len p + 2) else (true, (bt tx len (skN tx len p) - 48) * 10 + bt tx len (skN tx len p + 1) - 48, skN tx len p + 2))
    else (true, bt tx len (skN tx len p) - 48, skN tx len p + 1))
  else (false, 0, skN tx len p)
theorem dgt_lt {tx : Nat → Nat} {len p : Nat} (h : dgt (bt tx len p) = true) : p < len ∧ 48 ≤ bt tx len p ∧ bt tx len p ≤ 57 ∧ eb tx len p = nI (bt tx len p) := by
  unfold dgt at h
  rw [Bool.and_eq_true, decide_eq_true_eq, decide_eq_true_eq] at h
  have h1 : p < len := bt_lt (c := bt tx len p) (by omega) rfl
  refine ⟨h1, h.1, h.2, ?_⟩
  unfold eb bt
  rw [if_pos h1, if_pos h1]
theorem num_le {tx : Nat → Nat} {len p : Nat} (hp : p ≤ len) : p ≤ (num tx len p).2.2 ∧ (num tx len p).2.2 ≤ len ∧ ((num tx len p).1 = true → p + 1 ≤ (num tx len p).2.2) := by
  have h := skN_le (tx := tx) hp
  unfold num
  by_cases c1 : dgt (bt tx len (skN tx len p)) = true
  · have := (dgt_lt c1).1
    rw [if_pos c1]
    by_cases c2 : dgt (bt tx len (skN tx len p + 1)) = true
    · have := (dgt_lt c2).1
      rw [if_pos c2]
      by_cases c3 : dgt (bt tx len (skN tx len p + 2)) = true
      · rw [if_pos c3]; exact ⟨by simp only; omega, by simp only; omega, fun q => by cases q⟩
      · rw [if_neg c3]; exact ⟨by simp only; omega, by simp only; omega, fun q => by simp only; omega⟩
    · rw [if_neg c2]; exact ⟨by simp only; omega, by simp only; omega, fun q => by simp only; omega⟩
  · rw [if_neg c1]; exact ⟨by simp only; omega, by simp only; omega, fun q => by cases q⟩
theorem numC {tx : Nat → Nat} {len : Nat} (hX : TX tx len) {μ : Mm} (h : TC tx len μ) {p y : Nat} (hy : y < 2) (hp : p ≤ len) (hat : μ.1 78 2 = nI p) : ∃ μ2, f_X5_readNumber (nI y) μ = some (bI (num tx len p).1, μ2) ∧ μ2.1 78 2 = nI (num tx len p).2.2 ∧ ((num tx len p).1 = true → μ2.1 80 y = nI (num tx len p).2.1) ∧ ∀ a j, ¬ (a = 78 ∧ j = 2) → ¬ (a = 80 ∧ j = y) → μ2.1 a j = μ.1 a j := by
  have hl := hX.1
  have hsk := skN_le (tx := tx) hp
  generalize hq : skN tx len p = q at *
  have hT1 : TC tx len (si μ 78 2 (nI q)) := h.si _ (by omega) (by omega)
  have hA1 : (si μ 78 2 (nI q)).1 78 2 = nI q := by rw [si_rd, if_pos ⟨rfl, rfl⟩]
  have w := (wC (nI y) 0 1 (by omega) (by omega) 0 ((2 : Int32) - 1) (by decide +kernel) (by decide +kernel) (si μ 78 2 (nI q))).1 ⟨y, by omega, by omega, rfl⟩
  rw [f_X5_readNumber, skC hX h hp hat, bd_some, hq, byteC hX hT1 (by omega) hA1, bd_some, figC hX, bd_some, w, bd_some]
  unfold num
  rw [hq]
  cases c1 : dgt (bt tx len q) with
  | false =>
    rw [if_pos (show bI false = 0 from rfl), if_neg (show ¬ false = true by decide)]
    exact ⟨_, rfl, hA1, fun q => (by cases q), fun a j x _ => by rw [si_rd, if_neg x]⟩
  | true =>
    obtain ⟨d1, d2, d3, d4⟩ := dgt_lt c1
    have hT2 : TC tx len (si μ 78 2 (nI (q + 1))) := h.si _ (by omega) (by omega)
    have hA2 : (si μ 78 2 (nI (q + 1))).1 78 2 = nI (q + 1) := by rw [si_rd, if_pos ⟨rfl, rfl⟩]
    rw [if_neg (show ¬ bI true = 0 by decide), if_pos (show true = true from rfl), if_neg (show ¬ (1 : Int32) = 0 by decide), byteC hX hT1 (by omega) hA1, bd_some, hA1, nI_1, si_si, byteC hX hT2 (by omega) hA2, bd_some, figC hX, bd_some, d4, show nI (bt tx len q) - (48 : Int32) = nI (bt tx len q - 48) by rw [show (48 : Int32) = nI 48 by decide +kernel]; exact pk_sub d2]
    cases c2 : dgt (bt tx len (q + 1)) with
    | false =>
      have hT3 : TC tx len (si (si μ 78 2 (nI (q + 1))) 80 y (nI (bt tx len q - 48))) := hT2.si _ (by omega) (by omega)
      have hA3 : (si (si μ 78 2 (nI (q + 1))) 80 y (nI (bt tx len q - 48))).1 78 2 = nI (q + 1) := by rw [si_ne1 (by omega)]; exact hA2
      rw [if_pos (show bI false = 0 from rfl), if_neg (show ¬ false = true by decide), if_pos (zin_nI hy (by omega)), nI_clamp (by omega), byteC hX hT3 (by omega) hA3, bd_some, figC hX, bd_some, c2, if_pos (show bI false = 0 from rfl)]
      exact ⟨_, rfl, hA3, fun _ => by rw [si_rd, if_pos ⟨rfl, rfl⟩], fun a j x y => by rw [si_rd, if_neg y, si_rd, if_neg x]⟩
    | true =>
      obtain ⟨g1, g2, g3, g4⟩ := dgt_lt c2
      have hT3 : TC tx len (si (si μ 78 2 (nI (q + 2))) 80 y (nI ((bt tx len q - 48) * 10 + bt tx len (q + 1) - 48))) := (h.si _ (by omega) (by omega)).si _ (by omega) (by omega)
      have hA3 : (si (si μ 78 2 (nI (q + 2))) 80 y (nI ((bt tx len q - 48) * 10 + bt tx len (q + 1) - 48))).1 78 2 = nI (q + 2) := by rw [si_ne1 (by omega), si_rd, if_pos ⟨rfl, rfl⟩]
      rw [if_neg (show ¬ bI true = 0 by decide), if_pos (show true = true from rfl), byteC hX hT2 (by omega) hA2, bd_some, if_pos (zin_nI hy (by omega)), nI_clamp (by omega), hA2, nI_1, si_si, g4, i10, pk_mul, nI_add, show nI ((bt tx len q - 48) * 10 + bt tx len (q + 1)) - (48 : Int32) = nI ((bt tx len q - 48) * 10 + bt tx len (q + 1) - 48) by rw [show (48 : Int32) = nI 48 by decide +kernel]; exact pk_sub (by omega), byteC hX hT3 (by omega) hA3, bd_some, figC hX, bd_some]
      cases c3 : dgt (bt tx len (q + 2)) with
      | false =>
        rw [if_pos (show bI false = 0 from rfl), if_neg (show ¬ false = true by decide)]
        exact ⟨_, rfl, hA3, fun _ => by rw [si_rd, if_pos ⟨rfl, rfl⟩], fun a j x y => by rw [si_rd, if_neg y, si_rd, if_neg x]⟩
      | true =>
        rw [if_neg (show ¬ bI true = 0 by decide), if_pos (show true = true from rfl)]
        exact ⟨_, rfl, hA3, fun q => (by cases q), fun a j x y => by rw [si_rd, if_neg y, si_rd, if_neg x]⟩
def cl (tx : Nat → Nat) (len : Nat) : Nat → Nat → Nat
  | 0, _ => 0
  | t + 1, p => if ltr (bt tx len p) = true then 1 + cl tx len t (p + 1) else 0
theorem ltr_lt {tx : Nat → Nat} {len p : Nat} (h : ltr (bt tx len p) = true) : p < len ∧ 97 ≤ bt tx len p ∧ bt tx len p ≤ 104 ∧ eb tx len p = nI (bt tx len p) := by
  unfold ltr at h
  rw [Bool.and_eq_true, decide_eq_true_eq, decide_eq_true_eq] at h
  have h1 : p < len := bt_lt (c := bt tx len p) (by omega) rfl
  refine ⟨h1, h.1, h.2, ?_⟩
  unfold eb bt
  rw [if_pos h1, if_pos h1]
theorem cl_le {tx : Nat → Nat} {len : Nat} : ∀ t p, p ≤ len → cl tx len t p ≤ t ∧ p + cl tx len t p ≤ len ∧ (∀ i, i < cl tx len t p → ltr (bt tx len (p + i)) = true) ∧ (cl tx len t p < t → ltr (bt tx len (p + cl tx len t p)) = false) := by
  intro t
  induction t with
  | zero => intro p h; exact ⟨Nat.le_refl _, h, fun i hi => absurd hi (Nat.not_lt_zero _), fun q => absurd q (Nat.not_lt_zero _)⟩
  | succ t ih =>
    intro p h
    rw [cl]
    by_cases c : ltr (bt tx len p) = true
    · have h1 := (ltr_lt c).1
      obtain ⟨a1, a2, a3, a4⟩ := ih (p + 1) (by omega)
      rw [if_pos c]
      refine ⟨by omega, by omega, fun i hi => ?_, fun q => ?_⟩
      · cases i with
        | zero => exact c
        | succ i => rw [show p + (i + 1) = p + 1 + i by omega]; exact a3 i (by omega)
      · rw [show p + (1 + cl tx len t (p + 1)) = p + 1 + cl tx len t (p + 1) by omega]
        exact a4 (by omega)
    · rw [if_neg c]
      exact ⟨by omega, h, fun i hi => absurd hi (Nat.not_lt_zero _), fun _ => by simpa using c⟩
theorem lpLetC {tx : Nat → Nat} {len : Nat} (hX : TX tx len) (K : Mm → Option (Int32 × Mm)) (cc : Int32) {mx q : Nat} (hmx : mx ≤ 40) : ∀ (t f i : Nat) (μ : Mm), i + t = mx → t < f → q + i ≤ len → TC tx len μ → μ.1 78 2 = nI (q + i) → μ.1 78 6 = nI i →
    ∃ μ2, lp_X5_readLetters_61 cc (nI mx) f μ K = K μ2 ∧ μ2.1 78 2 = nI (q + i + cl tx len t (q + i)) ∧ μ2.1 78 6 = nI (i + cl tx len t (q + i)) ∧ (∀ j, j < i → μ2.1 81 j = μ.1 81 j) ∧ (∀ j, i ≤ j → j < i + cl tx len t (q + i) → μ2.1 81 j = nI (bt tx len (q + j) - 96)) ∧ (∀ a j, a ≠ 81 → ¬ (a = 78 ∧ (j = 2 ∨ j = 6)) → μ2.1 a j = μ.1 a j) := by
  have hl := hX.1
  intro t
  induction t with
  | zero =>
    intro f i μ h1 h2 h3 h hat hc
    obtain ⟨f, rfl⟩ : ∃ q, f = q + 1 := ⟨f - 1, by omega⟩
    rw [lp_X5_readLetters_61, byteC hX h (by omega) hat, bd_some, inC hX (show 97 ≤ 127 by omega) (show 104 ≤ 127 by omega) (by decide +kernel) (by decide +kernel), bd_some, hc, if_pos (show nI mx ≤ nI i by rw [nI_leI (by omega) (by omega)]; omega), ite_self]
    refine ⟨μ, rfl, hat, hc, fun _ _ => rfl, fun j a b => ?_, fun _ _ _ _ => rfl⟩
    have b : j < i + 0 := b
    omega
  | succ t ih =>
    intro f i μ h1 h2 h3 h hat hc
    obtain ⟨f, rfl⟩ : ∃ q, f = q + 1 := ⟨f - 1, by omega⟩
    have hA : (si μ 78 6 (nI (i + 1))).1 78 2 = nI (q + i) := by rw [si_rd, if_neg (by omega)]; exact hat
    rw [lp_X5_readLetters_61, byteC hX h (by omega) hat, bd_some, inC hX (show 97 ≤ 127 by omega) (show 104 ≤ 127 by omega) (by decide +kernel) (by decide +kernel), bd_some, cl]
    show ∃ μ2, (if bI (ltr (bt tx len (q + i))) = 0 then _ else _) = _ ∧ _
    cases c : ltr (bt tx len (q + i)) with
    | false =>
      rw [if_pos (show bI false = 0 from rfl), if_neg (show ¬ false = true by decide)]
      exact ⟨μ, rfl, hat, hc, fun _ _ => rfl, fun j a b => by omega, fun _ _ _ _ => rfl⟩
    | true =>
      obtain ⟨d1, d2, d3, d4⟩ := ltr_lt c
      rw [if_neg (show ¬ bI true = 0 by decide), if_pos (show true = true from rfl), hc, if_neg (by rw [nI_leI (by omega) (by omega)]; omega), nI_1, byteC hX (h.si _ (by omega) (by omega)) (by omega) hA, bd_some, if_pos (zin_nI (by omega) (by omega)), nI_clamp (by omega), d4, hA, nI_1, show nI (bt tx len (q + i)) - (97 : Int32) = nI (bt tx len (q + i) - 97) by rw [show (97 : Int32) = nI 97 by decide +kernel]; exact pk_sub d2, nI_1, show bt tx len (q + i) - 97 + 1 = bt tx len (q + i) - 96 by omega]
      obtain ⟨μ2, g1, g2, g3, g4, g5, g6⟩ := ih f (i + 1) (si (si (si μ 78 6 (nI (i + 1))) 81 i (nI (bt tx len (q + i) - 96))) 78 2 (nI (q + i + 1))) (by omega) (by omega) (by omega) (((h.si _ (by omega) (by omega)).si _ (by omega) (by omega)).si _ (by omega) (by omega)) (by rw [si_rd, if_pos ⟨rfl, rfl⟩, show q + i + 1 = q + (i + 1) by omega]) (by rw [si_rd, if_neg (by omega), si_ne1 (by omega), si_rd, if_pos ⟨rfl, rfl⟩])
      rw [show q + (i + 1) = q + i + 1 by omega] at g2 g3 g5
      refine ⟨μ2, g1, by rw [g2, show q + i + 1 + cl tx len t (q + i + 1) = q + i + (1 + cl tx len t (q + i + 1)) by omega], by rw [g3, show i + 1 + cl tx len t (q + i + 1) = i + (1 + cl tx len t (q + i + 1)) by omega], fun j hj => by rw [g4 j (by omega), si_ne1 (by omega), si_rd, if_neg (by omega), si_ne1 (by omega)], fun j a b => ?_, fun a j x y => by rw [g6 a j x y, si_rd, if_neg (fun z => y ⟨z.1, Or.inl z.2⟩), si_ne1 x, si_rd, if_neg (fun z => y ⟨z.1, Or.inr z.2⟩)]⟩
      by_cases e : j = i
      · rw [e, g4 i (by omega), si_ne1 (by omega), si_rd, if_pos ⟨rfl, rfl⟩]
      · exact g5 j (by omega) (by omega)
def lts (tx : Nat → Nat) (len mn mx p : Nat) : Bool × Nat × Nat := (decide (mn ≤ cl tx len mx (skN tx len p)) && !ltr (bt tx len (skN tx len p + cl tx len mx (skN tx len p))), skN tx len p, cl tx len mx (skN tx len p))
def lt0 (tx : Nat → Nat) (len mn mx p : Nat) : Bool := decide (mn ≤ cl tx len mx (skN tx len p))
theorem ltsC {tx : Nat → Nat} {len : Nat} (hX : TX tx len) {mn mx : Nat} (hmx : mx ≤ 40) (hmn : mn ≤ 40) {mnI mxI : Int32} (e1 : mnI = nI mn) (e2 : mxI = nI mx) {μ : Mm} (h : TC tx len μ) {p : Nat} (hp : p ≤ len) (hat : μ.1 78 2 = nI p) :
    ∃ μ2, (bd (f_X5_skipBlanks (si μ 78 6 (0 : Int32))) fun r4 μ5 => lp_X5_readLetters_61 mnI mxI FU μ5 (fun μ14 => if (μ14.1 78 6) < mnI then (some ((0 : Int32), μ14)) else (some ((1 : Int32), μ14)))) = some (bI (lt0 tx len mn mx p), μ2) ∧ μ2.1 78 2 = nI ((lts tx len mn mx p).2.1 + (lts tx len mn mx p).2.2) ∧ μ2.1 78 6 = nI (lts tx len mn mx p).2.2 ∧ (∀ j, j < (lts tx len mn mx p).2.2 → μ2.1 81 j = nI (bt tx len ((lts tx len mn mx p).2.1 + j) - 96)) ∧ (∀ a j, a ≠ 81 → ¬ (a = 78 ∧ (j = 2 ∨ j = 6)) → μ2.1 a j = μ.1 a j) := by
  have hl := hX.1
  have hsk := skN_le (tx := tx) hp
  have hcl := cl_le (tx := tx) mx (skN tx len p) hsk.2
  have hT : TC tx len (si μ 78 6 (0 : Int32)) := h.si _ (by omega) (by omega)
  have hA : (si μ 78 6 (0 : Int32)).1 78 2 = nI p := by rw [si_rd, if_neg (by omega)]; exact hat
  rw [skC hX hT hp hA, bd_some, e2]
  unfold lts lt0
  simp only
  generalize skN tx len p = q at *
  obtain ⟨μa, a1, a2, a3, -, a5, a6⟩ := lpLetC hX (fun μ14 => if (μ14.1 78 6) < mnI then (some ((0 : Int32), μ14)) else (some ((1 : Int32), μ14))) mnI (q := q) hmx mx FU 0 (si (si μ 78 6 (0 : Int32)) 78 2 (nI q)) (by omega) (by unfold FU; omega) (by omega) (hT.si _ (by omega) (by omega)) (by rw [si_rd, if_pos ⟨rfl, rfl⟩]; rfl) (by rw [si_rd, if_neg (by omega), si_rd, if_pos ⟨rfl, rfl⟩]; exact iz0)
  rw [Nat.add_zero] at a2 a3 a5
  rw [Nat.zero_add] at a3
  have fr : ∀ a j, a ≠ 81 → ¬ (a = 78 ∧ (j = 2 ∨ j = 6)) → μa.1 a j = μ.1 a j := fun a j x y => by rw [a6 a j x y, si_rd, if_neg (fun z => y ⟨z.1, Or.inl z.2⟩), si_rd, if_neg (fun z => y ⟨z.1, Or.inr z.2⟩)]
  refine ⟨μa, ?_, a2, a3, fun j hj => a5 j (by omega) (by omega), fr⟩
  rw [a1, a3, e1]
  by_cases c : mn ≤ cl tx len mx q
  · rw [if_neg (by rw [nI_ltI (by omega) (by omega)]; omega), decide_eq_true c]
    rfl
  · rw [if_pos ((nI_ltI (by omega) (by omega)).mpr (by omega)), decide_eq_false c]
    rfl
