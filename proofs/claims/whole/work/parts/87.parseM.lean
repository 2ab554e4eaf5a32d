/-! THE TEXT, read by the reference -/
def TM (tx : Nat → Nat) (len : Nat) (μ : Mm) : Prop := μ.1 0 6 = nI len ∧ ∀ i, i < len → μ.1 5 i = nI (tx i)
def Fr17 (μ μ2 : Mm) : Prop := (∀ a, a ≠ 0 → μ2.1 a = μ.1 a) ∧ ∀ k, k ≠ 17 → k ≠ 18 → μ2.1 0 k = μ.1 0 k
theorem Fr17.trans {μ μ2 μ3 : Mm} (h : Fr17 μ μ2) (g : Fr17 μ2 μ3) : Fr17 μ μ3 := ⟨fun a x => (g.1 a x).trans (h.1 a x), fun k x y => (g.2 k x y).trans (h.2 k x y)⟩
theorem Fr17.rfl' (μ : Mm) : Fr17 μ μ := ⟨fun _ _ => rfl, fun _ _ _ => rfl⟩
theorem Fr17.s17 (μ : Mm) (v : Int32) : Fr17 μ (si μ 0 17 v) := ⟨fun a x => si_ne1 x, fun k x y => by rw [si_rd, if_neg (fun q => x q.2)]⟩
theorem Fr17.s18 (μ : Mm) (v : Int32) : Fr17 μ (si μ 0 18 v) := ⟨fun a x => si_ne1 x, fun k x y => by rw [si_rd, if_neg (fun q => y q.2)]⟩
theorem Fr17.tm {tx : Nat → Nat} {len : Nat} {μ μ2 : Mm} (h : Fr17 μ μ2) (hT : TM tx len μ) : TM tx len μ2 := ⟨by rw [h.2 6 (by omega) (by omega)]; exact hT.1, fun i hi => by rw [h.1 5 (by omega)]; exact hT.2 i hi⟩
theorem isAtM {tx : Nat → Nat} {len : Nat} (hX : TX tx len) {μ : Mm} (h : TM tx len μ) {p lo hi : Nat} (hlo : lo ≤ 127) (hhi : hi ≤ 127) {l u : Int32} (el : l = nI lo) (eu : u = nI hi) (hp : p < 2 ^ 30) (hat : μ.1 0 17 = nI p) : f_X7_isAt l u μ = some (bI (decide (lo ≤ bt tx len p) && decide (bt tx len p ≤ hi)), μ) := by
  have hl := hX.1
  rw [f_X7_isAt, h.1, hat]
  by_cases c : p < len
  · have hb : bt tx len p = tx p := by unfold bt; rw [if_pos c]
    have := hX.2 p c
    rw [if_neg (by rw [nI_leI (by omega) (by omega)]; omega), if_pos (zin_nI (by omega) (by omega)), nI_clamp (by omega), h.2 p c, hb]
    have w := wM (nI (tx p)) lo hi (by omega) (by omega) l.toInt64 u.toInt64 (by rw [el, nI_l (by omega)]) (by rw [eu, nI_l (by omega)]) μ
    by_cases d : lo ≤ tx p ∧ tx p ≤ hi
    · rw [w.1 ⟨tx p, d.1, d.2, rfl⟩, bd_some, if_neg (by decide), decide_eq_true d.1, decide_eq_true d.2]; rfl
    · rw [w.2 (by rintro ⟨k, h1, h2, h3⟩; rw [nI_eq (by omega) (by omega)] at h3; omega), bd_some, if_pos rfl]
      have : (decide (lo ≤ tx p) && decide (tx p ≤ hi)) = false := by
        rw [← Bool.not_eq_true, Bool.and_eq_true, decide_eq_true_eq, decide_eq_true_eq]
        exact d
      rw [this]; rfl
  · have hb : bt tx len p = 999 := by unfold bt; rw [if_neg c]
    rw [if_pos ((nI_leI (by omega) (by omega)).mpr (by omega)), hb, decide_eq_false (show ¬ 999 ≤ hi by omega), Bool.and_false]
    rfl
theorem lpBlM {tx : Nat → Nat} {len : Nat} (hX : TX tx len) (K : Mm → Option (Unit × Mm)) : ∀ (t f p : Nat) (μ : Mm), t < f → p ≤ len → len ≤ p + t → TM tx len μ → μ.1 0 17 = nI p → lp_X7_blanks_0 f μ K = K (si μ 0 17 (nI (sk tx len t p))) := by
  have hl := hX.1
  have e32 : (32 : Int32) = nI 32 := by decide +kernel
  intro t
  induction t with
  | zero =>
    intro f p μ h1 h2 h3 h hat
    obtain ⟨f, rfl⟩ : ∃ q, f = q + 1 := ⟨f - 1, by omega⟩
    have hb : bt tx len p = 999 := by unfold bt; rw [if_neg (by omega)]
    rw [lp_X7_blanks_0, isAtM hX h (show 32 ≤ 127 by omega) (show 32 ≤ 127 by omega) e32 e32 (by omega) hat, bd_some, hb, if_pos (by decide), sk, si_same hat]
  | succ t ih =>
    intro f p μ h1 h2 h3 h hat
    obtain ⟨f, rfl⟩ : ∃ q, f = q + 1 := ⟨f - 1, by omega⟩
    rw [lp_X7_blanks_0, isAtM hX h (show 32 ≤ 127 by omega) (show 32 ≤ 127 by omega) e32 e32 (by omega) hat, bd_some, sk]
    by_cases d : bt tx len p = 32
    · have := bt_lt (by omega) d
      rw [d, if_neg (by decide), if_pos rfl, hat, nI_1, ih f (p + 1) _ (by omega) (by omega) (by omega) ((Fr17.s17 μ _).tm h) (by rw [si_rd, if_pos ⟨rfl, rfl⟩]), si_si]
    · have : (decide (32 ≤ bt tx len p) && decide (bt tx len p ≤ 32)) = false := by
        rw [← Bool.not_eq_true, Bool.and_eq_true, decide_eq_true_eq, decide_eq_true_eq]
        omega
      rw [this, if_pos (show bI false = 0 from rfl), if_neg d, si_same hat]
theorem blM {tx : Nat → Nat} {len : Nat} (hX : TX tx len) {μ : Mm} (h : TM tx len μ) {p : Nat} (hp : p ≤ len) (hat : μ.1 0 17 = nI p) : f_X7_blanks μ = some ((), si μ 0 17 (nI (skN tx len p))) := by
  have hl := hX.1
  exact lpBlM hX (fun μ4 => some ((), μ4)) 151 FU p μ (by decide) hp (by omega) h hat
theorem digM {tx : Nat → Nat} {len : Nat} (hX : TX tx len) {μ : Mm} (h : TM tx len μ) {p : Nat} (hp : p < 2 ^ 30) (hat : μ.1 0 17 = nI p) : f_X7_isAt (48 : Int32) (57 : Int32) μ = some (bI (dgt (bt tx len p)), μ) := isAtM hX h (show 48 ≤ 127 by omega) (show 57 ≤ 127 by omega) (by decide +kernel) (by decide +kernel) hp hat
theorem ltM {tx : Nat → Nat} {len : Nat} (hX : TX tx len) {μ : Mm} (h : TM tx len μ) {p : Nat} (hp : p < 2 ^ 30) (hat : μ.1 0 17 = nI p) : f_X7_isAt (97 : Int32) (104 : Int32) μ = some (bI (ltr (bt tx len p)), μ) := isAtM hX h (show 97 ≤ 127 by omega) (show 104 ≤ 127 by omega) (by decide +kernel) (by decide +kernel) hp hat
theorem numM {tx : Nat → Nat} {len : Nat} (hX : TX tx len) {μ : Mm} (h : TM tx len μ) {p : Nat} (hp : p ≤ len) (hat : μ.1 0 17 = nI p) (h18 : μ.1 0 18 = 0) : ∃ v μ2, f_X7_number μ = some (v, μ2) ∧ μ2.1 0 17 = nI (num tx len p).2.2 ∧ μ2.1 0 18 = bI (!(num tx len p).1) ∧ ((num tx len p).1 = true → v = nI (num tx len p).2.1) ∧ Fr17 μ μ2 := by
  have hl := hX.1
  have hsk := skN_le (tx := tx) hp
  have eFU : FU = 996 + 1 + 1 + 1 + 1 := rfl
  generalize hq : skN tx len p = q at *
  have f1 : Fr17 μ (si μ 0 17 (nI q)) := Fr17.s17 μ _
  have at1 : (si μ 0 17 (nI q)).1 0 17 = nI q := by rw [si_rd, if_pos ⟨rfl, rfl⟩]
  have k1 : (si μ 0 17 (nI q)).1 0 18 = 0 := by rw [si_rd, if_neg (by omega)]; exact h18
  rw [f_X7_number, blM hX h hp hat, bd_some, hq, k1, if_pos rfl, digM hX (f1.tm h) (by omega) at1, bd_some, eFU]
  unfold num
  rw [hq]
  cases c1 : dgt (bt tx len q) with
  | false =>
    have k2 : (si (si μ 0 17 (nI q)) 0 18 (1 : Int32)).1 0 18 = 1 := by rw [si_rd, if_pos ⟨rfl, rfl⟩]
    rw [if_pos (show bI false = 0 from rfl), if_neg (show ¬ false = true by decide), lp_X7_number_35, k2, if_neg (by decide)]
    exact ⟨_, _, rfl, by rw [si_rd, if_neg (by omega)]; exact at1, k2, fun q => (by cases q), f1.trans (Fr17.s18 _ _)⟩
  | true =>
    obtain ⟨d1, d2, d3, d4⟩ := dgt_lt c1
    have hb1 : bt tx len q = tx q := by unfold bt; rw [if_pos d1]
    have e0 : si (si μ 0 17 (nI q)) 0 18 (0 : Int32) = si μ 0 17 (nI q) := si_same k1
    rw [if_neg (show ¬ bI true = 0 by decide), if_pos (show true = true from rfl), e0, lp_X7_number_35, k1, if_pos rfl, digM hX (f1.tm h) (by omega) at1, bd_some, c1, if_neg (show ¬ bI true = 0 by decide), if_pos (by decide), at1, if_pos (zin_nI (by omega) (by omega)), nI_clamp (by omega), e0, si_si, (f1.tm h).2 q d1, nI_1, ← hb1, show (10 : Int32) * 0 = nI 0 by decide +kernel, nI_add, Nat.zero_add, show nI (bt tx len q) - (48 : Int32) = nI (bt tx len q - 48) by rw [show (48 : Int32) = nI 48 by decide +kernel]; exact pk_sub d2, show (0 : Int32) + 1 = 1 by decide]
    have f2 : Fr17 μ (si μ 0 17 (nI (q + 1))) := Fr17.s17 μ _
    have at2 : (si μ 0 17 (nI (q + 1))).1 0 17 = nI (q + 1) := by rw [si_rd, if_pos ⟨rfl, rfl⟩]
    have k2 : (si μ 0 17 (nI (q + 1))).1 0 18 = 0 := by rw [si_rd, if_neg (by omega)]; exact h18
    rw [lp_X7_number_35, k2, if_pos rfl, digM hX (f2.tm h) (by omega) at2, bd_some]
    cases c2 : dgt (bt tx len (q + 1)) with
    | false =>
      rw [if_pos (show bI false = 0 from rfl), if_neg (show ¬ false = true by decide)]
      exact ⟨_, _, rfl, at2, k2, fun _ => rfl, f2⟩
    | true =>
      obtain ⟨g1, g2, g3, g4⟩ := dgt_lt c2
      have hb2 : bt tx len (q + 1) = tx (q + 1) := by unfold bt; rw [if_pos g1]
      have e02 : si (si μ 0 17 (nI (q + 1))) 0 18 (0 : Int32) = si μ 0 17 (nI (q + 1)) := si_same k2
      rw [if_neg (show ¬ bI true = 0 by decide), if_pos (show true = true from rfl), if_pos (by decide), at2, if_pos (zin_nI (by omega) (by omega)), nI_clamp (by omega), e02, si_si, (f2.tm h).2 (q + 1) g1, nI_1, ← hb2, i10, pk_mul, nI_add, show nI (10 * (bt tx len q - 48) + bt tx len (q + 1)) - (48 : Int32) = nI ((bt tx len q - 48) * 10 + bt tx len (q + 1) - 48) by rw [show (48 : Int32) = nI 48 by decide +kernel, pk_sub (by omega), Nat.mul_comm], show (1 : Int32) + 1 = 2 by decide]
      have f3 : Fr17 μ (si μ 0 17 (nI (q + 1 + 1))) := Fr17.s17 μ _
      have at3 : (si μ 0 17 (nI (q + 1 + 1))).1 0 17 = nI (q + 1 + 1) := by rw [si_rd, if_pos ⟨rfl, rfl⟩]
      have k3 : (si μ 0 17 (nI (q + 1 + 1))).1 0 18 = 0 := by rw [si_rd, if_neg (by omega)]; exact h18
      rw [lp_X7_number_35, k3, if_pos rfl, digM hX (f3.tm h) (by omega) at3, bd_some]
      cases c3 : dgt (bt tx len (q + 2)) with
      | false =>
        rw [if_pos (show bI false = 0 from rfl), if_neg (show ¬ false = true by decide)]
        exact ⟨_, _, rfl, at3, k3, fun _ => rfl, f3⟩
      | true =>
        have k4 : (si (si (si μ 0 17 (nI (q + 1 + 1))) 0 18 (1 : Int32)) 0 17 ((si μ 0 17 (nI (q + 1 + 1))).1 0 17 + (0 : Int32))).1 0 18 = 1 := by rw [si_rd, if_neg (by omega), si_rd, if_pos ⟨rfl, rfl⟩]
        rw [if_neg (show ¬ bI true = 0 by decide), if_pos (show true = true from rfl), if_neg (by decide), lp_X7_number_35, k4, if_neg (by decide)]
        exact ⟨_, _, rfl, by rw [si_rd, if_pos ⟨rfl, rfl⟩, at3, Int32.add_zero], k4, fun q => (by cases q), f3.trans ((Fr17.s18 _ _).trans (Fr17.s17 _ _))⟩
/-- what changes while an order is read -/
def FrP (o : Nat) (μ μ2 : Mm) : Prop := (∀ a, a ≠ 0 → a ≠ 11 → a ≠ 12 → μ2.1 a = μ.1 a) ∧ (∀ k, k ≠ 17 → k ≠ 18 → k ≠ 19 → μ2.1 0 k = μ.1 0 k) ∧ (∀ j, j < o → μ2.1 11 j = μ.1 11 j) ∧ ∀ j, j < 2 * o → μ2.1 12 j = μ.1 12 j
theorem FrP.trans {o : Nat} {μ μ2 μ3 : Mm} (h : FrP o μ μ2) (g : FrP o μ2 μ3) : FrP o μ μ3 := ⟨fun a x y z => (g.1 a x y z).trans (h.1 a x y z), fun k x y z => (g.2.1 k x y z).trans (h.2.1 k x y z), fun j hj => (g.2.2.1 j hj).trans (h.2.2.1 j hj), fun j hj => (g.2.2.2 j hj).trans (h.2.2.2 j hj)⟩
theorem FrP.rfl' (o : Nat) (μ : Mm) : FrP o μ μ := ⟨fun _ _ _ _ => rfl, fun _ _ _ _ => rfl, fun _ _ => rfl, fun _ _ => rfl⟩
theorem Fr17.p {μ μ2 : Mm} (h : Fr17 μ μ2) (o : Nat) : FrP o μ μ2 := ⟨fun a x _ _ => h.1 a x, fun k x y _ => h.2 k x y, fun j _ => by rw [h.1 11 (by omega)], fun j _ => by rw [h.1 12 (by omega)]⟩
theorem FrP.s12 (o : Nat) (μ : Mm) {j : Nat} (hj : 2 * o ≤ j) (v : Int32) : FrP o μ (si μ 12 j v) := ⟨fun a _ _ x => si_ne1 x, fun k _ _ _ => by rw [si_ne1 (by omega)], fun i _ => by rw [si_ne1 (by omega)], fun i hi => by rw [si_rd, if_neg (by omega)]⟩
theorem FrP.tm {o : Nat} {tx : Nat → Nat} {len : Nat} {μ μ2 : Mm} (h : FrP o μ μ2) (hT : TM tx len μ) : TM tx len μ2 := ⟨by rw [h.2.1 6 (by omega) (by omega) (by omega)]; exact hT.1, fun i hi => by rw [h.1 5 (by omega) (by omega) (by omega)]; exact hT.2 i hi⟩
theorem numsM {tx : Nat → Nat} {len : Nat} (hX : TX tx len) (K : Mm → Option (Unit × Mm)) (cc : Int32) {n o : Nat} (hn : n ≤ 2) (ho : o ≤ 75) {μ : Mm} (h : TM tx len μ) {p : Nat} (hp : p ≤ len) (hat : μ.1 0 17 = nI p) (h18 : μ.1 0 18 = 0) (h19 : μ.1 0 19 = nI o) :
    ∃ μ2, lp_X7_readsParts_2 cc (nI n) FU (0 : Int32) μ K = K μ2 ∧ μ2.1 0 17 = nI (nums tx len n p).2.1 ∧ μ2.1 0 18 = bI (!(nums tx len n p).1) ∧ μ2.1 0 19 = nI o ∧ ((nums tx len n p).1 = true → (1 ≤ n → μ2.1 12 (2 * o) = nI (nums tx len n p).2.2.1) ∧ (n = 2 → μ2.1 12 (2 * o + 1) = nI (nums tx len n p).2.2.2)) ∧ FrP o μ μ2 := by
  have eFU : FU = 997 + 1 + 1 + 1 := rfl
  have i0 : ((2 : Int32) * nI o) + 0 = nI (2 * o) := by rw [i2, pk_mul, Int32.add_zero]
  have i1' : ((2 : Int32) * nI o) + nI 1 = nI (2 * o + 1) := by rw [i2, pk_mul, nI_add]
  rw [eFU, lp_X7_readsParts_2]
  by_cases c0 : n = 0
  · subst c0
    have en : nums tx len 0 p = (true, p, 0, 0) := by unfold nums; rw [if_pos rfl]
    rw [if_pos (by decide +kernel), en]
    exact ⟨μ, rfl, hat, h18, h19, fun _ => ⟨fun q => by omega, fun q => by omega⟩, FrP.rfl' o μ⟩
  · obtain ⟨v, μa, a1, a2, a3, a4, a5⟩ := numM hX h hp hat h18
    have hp2 := num_le (tx := tx) hp
    rw [if_neg (show ¬ nI n ≤ 0 by rw [le0_iff (by omega)]; exact c0), h18, if_pos rfl, a1, bd_some, h19, i0, if_pos (zin_nI (by omega) (by omega)), nI_clamp (by omega), show (0 : Int32) + 1 = nI 1 by decide +kernel, lp_X7_readsParts_2]
    have fb : FrP o μ (si μa 12 (2 * o) v) := (a5.p o).trans (FrP.s12 o μa (by omega) v)
    have b17 : (si μa 12 (2 * o) v).1 0 17 = nI (num tx len p).2.2 := by rw [si_ne1 (by omega)]; exact a2
    have b18 : (si μa 12 (2 * o) v).1 0 18 = bI (!(num tx len p).1) := by rw [si_ne1 (by omega)]; exact a3
    have b19 : (si μa 12 (2 * o) v).1 0 19 = nI o := by rw [si_ne1 (by omega), a5.2 19 (by omega) (by omega)]; exact h19
    by_cases c1 : n = 1
    · subst c1
      rw [if_pos (by decide +kernel)]
      cases d1 : (num tx len p).1 with
      | false =>
        have en : nums tx len 1 p = (false, (num tx len p).2.2, 0, 0) := by unfold nums; rw [if_neg c0, d1, if_neg (by decide)]
        rw [en]
        rw [d1] at b18
        exact ⟨_, rfl, b17, b18, b19, fun q => (by cases q), fb⟩
      | true =>
        have en : nums tx len 1 p = (true, (num tx len p).2.2, (num tx len p).2.1, 0) := by unfold nums; rw [if_neg (by omega), d1, if_pos rfl, if_pos rfl]
        rw [en]
        rw [d1] at b18
        exact ⟨_, rfl, b17, b18, b19, fun _ => ⟨fun _ => by rw [si_rd, if_pos ⟨rfl, rfl⟩]; exact a4 d1, fun q => by omega⟩, fb⟩
    · have hn2 : n = 2 := by omega
      subst hn2
      rw [if_neg (by decide +kernel), b18, b19]
      cases d1 : (num tx len p).1 with
      | false =>
        have en : nums tx len 2 p = (false, (num tx len p).2.2, 0, 0) := by unfold nums; rw [if_neg c0, d1, if_neg (by decide)]
        rw [if_neg (show ¬ bI (!false) = 0 by decide), en]
        rw [d1] at b18
        exact ⟨_, rfl, b17, b18, b19, fun q => (by cases q), fb⟩
      | true =>
        rw [d1] at b18
        obtain ⟨w, μc, e1, e2, e3, e4, e5⟩ := numM hX (fb.tm h) hp2.2.1 b17 b18
        rw [if_pos (show bI (!true) = 0 from rfl), e1, bd_some, i1', if_pos (zin_nI (by omega) (by omega)), nI_clamp (by omega), nI_1, lp_X7_readsParts_2, if_pos (by decide +kernel)]
        have fd : FrP o μ (si μc 12 (2 * o + 1) w) := (fb.trans (e5.p o)).trans (FrP.s12 o μc (by omega) w)
        have g17 : (si μc 12 (2 * o + 1) w).1 0 17 = nI (num tx len (num tx len p).2.2).2.2 := by rw [si_ne1 (by omega)]; exact e2
        have g18 : (si μc 12 (2 * o + 1) w).1 0 18 = bI (!(num tx len (num tx len p).2.2).1) := by rw [si_ne1 (by omega)]; exact e3
        have g19 : (si μc 12 (2 * o + 1) w).1 0 19 = nI o := by rw [si_ne1 (by omega), e5.2 19 (by omega) (by omega)]; exact b19
        cases d2 : (num tx len (num tx len p).2.2).1 with
        | false =>
          have en : nums tx len 2 p = (false, (num tx len (num tx len p).2.2).2.2, 0, 0) := by unfold nums; rw [if_neg (by omega), d1, if_pos rfl, if_neg (by omega), d2, if_neg (by decide)]
          rw [en]
          rw [d2] at g18
          exact ⟨_, rfl, g17, g18, g19, fun q => (by cases q), fd⟩
        | true =>
          have en : nums tx len 2 p = (true, (num tx len (num tx len p).2.2).2.2, (num tx len p).2.1, (num tx len (num tx len p).2.2).2.1) := by unfold nums; rw [if_neg (by omega), d1, if_pos rfl, if_neg (by omega), d2, if_pos rfl]
          rw [en]
          rw [d2] at g18
          exact ⟨_, rfl, g17, g18, g19, fun _ => ⟨fun _ => by rw [si_rd, if_neg (by omega), e5.1 12 (by omega), si_rd, if_pos ⟨rfl, rfl⟩]; exact a4 d1, fun _ => by rw [si_rd, if_pos ⟨rfl, rfl⟩]; exact e4 d2⟩, fd⟩
theorem lpPass {tx : Nat → Nat} {len : Nat} (hX : TX tx len) (K : Mm → Option (Int32 × Mm)) (cc : Int32) {mx q : Nat} (hmx : mx ≤ 40) : ∀ (t f i : Nat) (μ : Mm), i + t = mx → t + 1 < f → q + i ≤ len → TM tx len μ → μ.1 0 17 = nI (q + i) → μ.1 0 18 = 0 →
    ∃ μ2, lp_X7_passesLetters_9 cc (nI mx) (nI q) f μ K = K μ2 ∧ μ2.1 0 17 = nI (q + (i + cl tx len t (q + i))) ∧ μ2.1 0 18 = bI (ltr (bt tx len (q + (i + cl tx len t (q + i))))) ∧ Fr17 μ μ2 := by
  have hl := hX.1
  intro t
  induction t with
  | zero =>
    intro f i μ h1 h2 h3 h hat h18
    obtain ⟨f, rfl⟩ : ∃ q, f = q + 1 := ⟨f - 1, by omega⟩
    rw [lp_X7_passesLetters_9, ltM hX h (by omega) hat, bd_some, cl, Nat.add_zero, h18, hat, pk_sub (by omega)]
    cases c : ltr (bt tx len (q + i)) with
    | false =>
      rw [if_pos (show bI false = 0 from rfl)]
      exact ⟨μ, rfl, hat, h18, Fr17.rfl' μ⟩
    | true =>
      obtain ⟨f, rfl⟩ : ∃ q, f = q + 1 := ⟨f - 1, by omega⟩
      have at2 : (si (si μ 0 18 (1 : Int32)) 0 17 (nI (q + i) + (0 : Int32))).1 0 17 = nI (q + i) := by rw [si_rd, if_pos ⟨rfl, rfl⟩, Int32.add_zero]
      have k2 : (si (si μ 0 18 (1 : Int32)) 0 17 (nI (q + i) + (0 : Int32))).1 0 18 = 1 := by rw [si_rd, if_neg (by omega), si_rd, if_pos ⟨rfl, rfl⟩]
      have f2 : Fr17 μ (si (si μ 0 18 (1 : Int32)) 0 17 (nI (q + i) + (0 : Int32))) := (Fr17.s18 _ _).trans (Fr17.s17 _ _)
      rw [if_neg (show ¬ bI true = 0 by decide), if_pos rfl, if_pos (by rw [show q + i - q = mx by omega]), lp_X7_passesLetters_9, ltM hX (f2.tm h) (by omega) at2, bd_some, c, if_neg (show ¬ bI true = 0 by decide), k2, if_neg (by decide)]
      exact ⟨_, rfl, at2, k2, f2⟩
  | succ t ih =>
    intro f i μ h1 h2 h3 h hat h18
    obtain ⟨f, rfl⟩ : ∃ q, f = q + 1 := ⟨f - 1, by omega⟩
    rw [lp_X7_passesLetters_9, ltM hX h (by omega) hat, bd_some, cl, h18, hat, pk_sub (by omega)]
    cases c : ltr (bt tx len (q + i)) with
    | false =>
      rw [if_pos (show bI false = 0 from rfl), if_neg (show ¬ false = true by decide), Nat.add_zero, c]
      exact ⟨μ, rfl, hat, h18, Fr17.rfl' μ⟩
    | true =>
      have d1 := (ltr_lt c).1
      have e0 : si μ 0 18 (0 : Int32) = μ := si_same h18
      rw [if_neg (show ¬ bI true = 0 by decide), if_pos rfl, if_pos (show true = true from rfl), if_neg (by rw [show q + i - q = i by omega, nI_eq (by omega) (by omega)]; omega), e0, nI_1]
      obtain ⟨μ2, g1, g2, g3, g4⟩ := ih f (i + 1) (si μ 0 17 (nI (q + i + 1))) (by omega) (by omega) (by omega) ((Fr17.s17 μ _).tm h) (by rw [si_rd, if_pos ⟨rfl, rfl⟩, show q + i + 1 = q + (i + 1) by omega]) (by rw [si_rd, if_neg (by omega)]; exact h18)
      rw [show q + (i + 1) = q + i + 1 by omega, show i + 1 + cl tx len t (q + i + 1) = i + (1 + cl tx len t (q + i + 1)) by omega] at g2 g3
      exact ⟨μ2, g1, g2, g3, (Fr17.s17 μ _).trans g4⟩
theorem passM {tx : Nat → Nat} {len : Nat} (hX : TX tx len) {mn mx : Nat} (hmx : mx ≤ 40) (hmn : mn ≤ 40) {mnI mxI : Int32} (e1 : mnI = nI mn) (e2 : mxI = nI mx) {μ : Mm} (h : TM tx len μ) {p : Nat} (hp : p ≤ len) (hat : μ.1 0 17 = nI p) (h18 : μ.1 0 18 = 0) :
    ∃ μ2, f_X7_passesLetters mnI mxI μ = some (nI (lts tx len mn mx p).2.1, μ2) ∧ μ2.1 0 17 = nI ((lts tx len mn mx p).2.1 + (lts tx len mn mx p).2.2) ∧ μ2.1 0 18 = bI (!(lts tx len mn mx p).1) ∧ Fr17 μ μ2 := by
  have hl := hX.1
  have hsk := skN_le (tx := tx) hp
  have hcl := cl_le (tx := tx) mx (skN tx len p) hsk.2
  rw [f_X7_passesLetters, blM hX h hp hat, bd_some, e2]
  unfold lts
  simp only
  generalize skN tx len p = q at *
  have f1 : Fr17 μ (si μ 0 17 (nI q)) := Fr17.s17 μ _
  have at1 : (si μ 0 17 (nI q)).1 0 17 = nI q := by rw [si_rd, if_pos ⟨rfl, rfl⟩]
  rw [at1]
  obtain ⟨μa, a1, a2, a3, a4⟩ := lpPass hX (fun μ8 => if (μ8.1 0 18) = 0 then (if mnI ≤ ((μ8.1 0 17) - nI q) then (some (nI q, (si μ8 0 18 (0 : Int32)))) else (some (nI q, (si μ8 0 18 (1 : Int32))))) else (some (nI q, (si μ8 0 18 (1 : Int32))))) mnI (q := q) hmx mx FU 0 (si μ 0 17 (nI q)) (by omega) (by unfold FU; omega) (by omega) (f1.tm h) at1 (by rw [si_rd, if_neg (by omega)]; exact h18)
  rw [Nat.add_zero, Nat.zero_add] at a2 a3
  rw [a1, a3, a2, pk_sub (by omega), show q + cl tx len mx q - q = cl tx len mx q by omega, e1]
  cases c : ltr (bt tx len (q + cl tx len mx q)) with
  | true =>
    rw [if_neg (show ¬ bI true = 0 by decide)]
    refine ⟨_, rfl, by rw [si_rd, if_neg (by omega)]; exact a2, ?_, (f1.trans a4).trans (Fr17.s18 _ _)⟩
    rw [si_rd, if_pos ⟨rfl, rfl⟩, Bool.not_true, Bool.and_false]
    rfl
  | false =>
    rw [if_pos (show bI false = 0 from rfl)]
    by_cases d : mn ≤ cl tx len mx q
    · rw [if_pos ((nI_leI (by omega) (by omega)).mpr d)]
      refine ⟨_, rfl, by rw [si_rd, if_neg (by omega)]; exact a2, ?_, (f1.trans a4).trans (Fr17.s18 _ _)⟩
      rw [si_rd, if_pos ⟨rfl, rfl⟩, decide_eq_true d]
      rfl
    · rw [if_neg (by rw [nI_leI (by omega) (by omega)]; exact d)]
      refine ⟨_, rfl, by rw [si_rd, if_neg (by omega)]; exact a2, ?_, (f1.trans a4).trans (Fr17.s18 _ _)⟩
      rw [si_rd, if_pos ⟨rfl, rfl⟩, decide_eq_false d]
      rfl
