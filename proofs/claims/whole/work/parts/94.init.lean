/-! a new object -/
def N00 : Nat → Nat := fun k => if k = 2 then 12 else if 3 ≤ k ∧ k < 9 then 15 else 0
theorem N00_0 {k : Nat} (h : k ≠ 2) (h2 : k < 3 ∨ 9 ≤ k) : N00 k = 0 := by
  unfold N00
  rw [if_neg h, if_neg (by omega)]
theorem N00_15 {k : Nat} (h : 3 ≤ k) (h2 : k < 9) : N00 k = 15 := by
  unfold N00
  rw [if_neg (by omega), if_pos ⟨h, h2⟩]
theorem mC0_1 (i : Nat) : mC0.1 1 i = if i = 10 then 12 else if i = 11 then 15 else if i = 12 then 15 else 0 := by
  unfold mC0
  simp
theorem mC0_9 (i : Nat) : mC0.1 9 i = if i < 4 then 15 else 0 := by
  unfold mC0
  simp
theorem mC0_z {a : Nat} (h : a ≠ 1) (h2 : a ≠ 9) (h3 : a < 24 ∨ 78 ≤ a) (i : Nat) : mC0.1 a i = 0 := by
  unfold mC0
  simp only
  rw [if_neg (by omega), if_neg (by omega)]
theorem mM0_z {a : Nat} (h : a ≠ 1) (i : Nat) : mM0.1 a i = 0 := by
  unfold mM0
  simp only
  rw [if_neg h]
theorem mM0_1 (k : Nat) : mM0.1 1 k = nI (N00 k) := by
  unfold mM0 N00
  simp only [if_true]
  unfold upd
  by_cases h2 : k = 2
  · subst h2; rfl
  by_cases h3 : k = 3
  · subst h3; rfl
  by_cases h4 : k = 4
  · subst h4; rfl
  by_cases h5 : k = 5
  · subst h5; rfl
  by_cases h6 : k = 6
  · subst h6; rfl
  by_cases h7 : k = 7
  · subst h7; rfl
  by_cases h8 : k = 8
  · subst h8; rfl
  rw [if_neg h8, if_neg h7, if_neg h6, if_neg h5, if_neg h4, if_neg h3, if_neg h2, if_neg h2, if_neg (by omega)]
  rfl
theorem inv00 : Inv 0 mC0 mM0 := by
  have hz : ∀ k, k ≠ 2 → (k < 3 ∨ 9 ≤ k) → nI (N00 k) = 0 := fun k a b => by rw [N00_0 a b]; rfl
  have hs0 : szD 0 = 0 := rfl
  have hm0 : moD 0 = 0 := rfl
  refine ⟨N00, fun _ _ => 0, 0, fun _ => 0, 0, fun _ => 0, ⟨0, by omega, by omega, ⟨⟨?_, ?_, ?_, ?_, ?_⟩, fun i hi => ?_, fun i hi => ?_, fun i hi => ?_, fun i hi => ?_, fun i hi => ?_, fun i hi1 hi => ?_, ?_, fun i hi => ?_, fun i hi => ?_⟩, ?_, ?_, fun j hj => by omega, ?_, fun i hi => by omega, fun k hk => ?_⟩, ⟨fun k hk => mM0_1 k, by omega, ?_, fun j hj => by omega, ?_, fun i hi => by omega, fun k hk => ?_⟩, ⟨⟨?_, ?_, ?_, ?_⟩, fun k a b => ?_, fun i hi => ?_, fun i hi => ?_, fun i hi => ?_, fun j hj => ?_, fun k hk => ?_, fun k hk => ?_, fun p a b => ?_⟩, fun j hj => by omega, by omega, fun i hi => by omega⟩
  · rw [mC0_1]; rfl
  · rw [mC0_1]; rfl
  · rw [mC0_1]; rfl
  · rw [mC0_1]; rfl
  · rw [mC0_1]; rfl
  · rw [show 1 + 8 = 9 from rfl, mC0_9, if_pos hi, N00_15 (by omega) (by omega)]; rfl
  · rw [mC0_z (by omega) (by omega) (by omega), hz _ (by omega) (by omega)]
  · rw [mC0_z (by omega) (by omega) (by omega), hz _ (by omega) (by omega)]
  · rw [mC0_z (by omega) (by omega) (by omega), hz _ (by omega) (by omega)]
  · rw [mC0_z (by omega) (by omega) (by omega), hz _ (by omega) (by omega)]
  · rw [mC0_z (by omega) (by omega) (by omega), hz _ (by omega) (by omega)]
  · rw [mC0_z (by omega) (by omega) (by omega)]
  · rw [mC0_z (by omega) (by omega) (by omega), N00_0 (by omega) (by omega), hs0]; rfl
  · rw [mC0_z (by omega) (by omega) (by omega), N00_0 (by omega) (by omega), hm0]; rfl
  · rw [mC0_z (by omega) (by omega) (by omega)]; rfl
  · rw [mC0_z (by omega) (by omega) (by omega)]; rfl
  · rw [mC0_z (by omega) (by omega) (by omega)]; rfl
  · rw [mC0_z (by omega) (by omega) (by omega)]
  · rw [mM0_z (by omega)]; rfl
  · rw [mM0_z (by omega)]; rfl
  · rw [mM0_z (by omega)]
  · rw [N00_0 (by omega) (by omega)]; omega
  · rw [N00_0 (by omega) (by omega)]; omega
  · exact (by decide : 1 ≤ N00 2)
  · exact (by decide : N00 2 ≤ 40)
  · rw [N00_15 a b]; omega
  · rw [N00_0 (by omega) (by omega)]; omega
  · left; rw [N00_0 (by omega) (by omega)]
  · rw [N00_0 (by omega) (by omega)] at hi; omega
  · rw [N00_0 (by omega) (by omega)]; omega
  · rw [N00_0 (by omega) (by omega)]; omega
  · rw [N00_0 (by omega) (by omega)] at hk; omega
  · rw [N00_0 (by omega) (by omega)]; omega
