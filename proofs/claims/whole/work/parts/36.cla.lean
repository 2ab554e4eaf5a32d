def f_X6_told (a1 : Int32) (μ : Mm) : Option (Int32 × Mm) := bd (f_X6_within a1 (0 : Int32) (14 : Int32) μ) fun r1 μ2 => if r1 = 0 then (bd (f_X6_refusal (-2 : Int32) μ2) fun r4 μ5 => some (r4, μ5)) else (bd (f_X6_factTold a1 μ2) fun r6 μ7 => some (r6, μ7))
theorem m_X6_told (g : Gx) (μ : Mm) (a1 : Int32) : Zm g ΛC enI yX6_told cX6_told 2 (some .int) rX6_told [.ref (g.2.2.1 0), .int a1] μ (f_X6_told a1 μ) := by
  refine z_met (by decide +kernel) (Nat.le_of_ble_eq_true rfl) ?_
  change Zw g ΛC enI RX6 cX6_told 2 (some .int) rX6_told 0 [(0, .ref (g.2.2.1 0)), (1, .int a1)] [] μ (f_X6_told a1 μ)
  rw [f_X6_told]
  refine z_iload_n (pc := 0) 1 dX6_told_0 rfl rfl ?_
  refine z_iconst (pc := 1) (v := 0) dX6_told_1 rfl ?_
  refine z_bipush (pc := 2) (v := 14) dX6_told_2 (by decide +kernel) ?_
  refine z_callS (pc := 4) (As := [.int a1, .int (0 : Int32), .int (14 : Int32)]) (rest := []) kX6_86 (m_X6_within g μ a1 (0 : Int32) (14 : Int32)) ⟨rfl, rfl⟩ ⟨Nat.le_of_ble_eq_true rfl, Nat.le_of_ble_eq_true rfl⟩ (Nat.le_of_ble_eq_true rfl) rfl rfl dX6_told_4 (fun r1 μ2 => ?_)
  change Zw g ΛC enI RX6 cX6_told 2 (some .int) rX6_told 7 [(0, .ref (g.2.2.1 0)), (1, .int a1)] [.int r1] μ2 _
  refine z_if_eq (pc := 7) (tgt := 18) dX6_told_7 (by decide) (fun h3 => ?_) (fun h3 => ?_)
  · refine z_aload_n (pc := 18) 0 dX6_told_18 rfl rfl ?_
    refine z_bipush (pc := 19) (v := -2) dX6_told_19 (by decide +kernel) ?_
    refine z_callV (pc := 21) (b := 0) (As := [.int (-2 : Int32)]) (rest := []) kX6_90 (m_X6_refusal g μ2 (-2 : Int32)) ltC_0 kdC_0 rfl rfl ⟨rfl, rfl⟩ ⟨Nat.le_of_ble_eq_true rfl, Nat.le_of_ble_eq_true rfl⟩ (Nat.le_of_ble_eq_true rfl) rfl rfl dX6_told_21 (fun r4 μ5 => ?_)
    change Zw g ΛC enI RX6 cX6_told 2 (some .int) rX6_told 24 [(0, .ref (g.2.2.1 0)), (1, .int a1)] [.int r4] μ5 _
    exact z_iret dX6_told_24
  · refine z_aload_n (pc := 10) 0 dX6_told_10 rfl rfl ?_
    refine z_iload_n (pc := 11) 1 dX6_told_11 rfl rfl ?_
    refine z_callV (pc := 12) (b := 0) (As := [.int a1]) (rest := []) kX6_198 (m_X6_factTold g μ2 a1) ltC_0 kdC_0 rfl rfl ⟨rfl, rfl⟩ ⟨Nat.le_of_ble_eq_true rfl, Nat.le_of_ble_eq_true rfl⟩ (Nat.le_of_ble_eq_true rfl) rfl rfl dX6_told_12 (fun r6 μ7 => ?_)
    change Zw g ΛC enI RX6 cX6_told 2 (some .int) rX6_told 15 [(0, .ref (g.2.2.1 0)), (1, .int a1)] [.int r6] μ7 _
    refine z_goto (pc := 15) (tgt := 24) dX6_told_15 (by decide) ?_
    exact z_iret dX6_told_24
def lp_X6_digest_6 : Nat → Int64 → Int32 → Mm → (Int64 → Mm → Option (Int64 × Mm)) → Option (Int64 × Mm)
  | 0, _, _, _, _ => none
  | n + 1, y1, y3, μ, k => if (15 : Int32) ≤ y3 then (k y1 μ) else (bd (f_X6_factTold y3 μ) fun r2 μ3 => lp_X6_digest_6 n (((31 : Int64) * y1) + r2.toInt64) (y3 + 1) μ3 k)
theorem w_X6_digest_6 (g : Gx) : ∀ (n : Nat) (y1 : Int64) (y3 : Int32) (μ : Mm) (k : Int64 → Mm → Option (Int64 × Mm)), (∀ (z1 : Int64) (ν : Mm), Zw g ΛC enJ RX6 cX6_digest 5 (some .long) rX6_digest 31 [(0, .ref (g.2.2.1 0)), (1, .long z1)] [] ν (k z1 ν)) → Zw g ΛC enJ RX6 cX6_digest 5 (some .long) rX6_digest 6 [(0, .ref (g.2.2.1 0)), (1, .long y1), (3, .int y3)] [] μ (lp_X6_digest_6 n y1 y3 μ k) := by
  intro n
  induction n with
  | zero =>
    intro y1 y3 μ k hk
    exact z_none
  | succ n ih =>
    intro y1 y3 μ k hk
    rw [lp_X6_digest_6]
    refine z_iload_n (pc := 6) 2 dX6_digest_6 rfl rfl ?_
    refine z_bipush (pc := 7) (v := 15) dX6_digest_7 (by decide +kernel) ?_
    refine z_icmp_ge (pc := 9) (tgt := 31) dX6_digest_9 (by decide) (fun h1 => ?_) (fun h1 => ?_)
    · refine z_sub (lv2 := [(0, .ref (g.2.2.1 0)), (1, .long y1)]) [0, 1] rfl ?_
      exact hk _ _
    · refine z_ldc2 (pc := 12) (v := 31) klX6_203 dX6_digest_12 ?_
      refine z_lload_n (pc := 15) 1 dX6_digest_15 rfl rfl ?_
      refine z_lmul (pc := 16) dX6_digest_16 ?_
      refine z_aload_n (pc := 17) 0 dX6_digest_17 rfl rfl ?_
      refine z_iload_n (pc := 18) 2 dX6_digest_18 rfl rfl ?_
      refine z_callV (pc := 19) (b := 0) (As := [.int y3]) (rest := [.long ((31 : Int64) * y1)]) kX6_198 (m_X6_factTold g μ y3) ltC_0 kdC_0 rfl rfl ⟨rfl, rfl⟩ ⟨Nat.le_of_ble_eq_true rfl, Nat.le_of_ble_eq_true rfl⟩ (Nat.le_of_ble_eq_true rfl) rfl rfl dX6_digest_19 (fun r2 μ3 => ?_)
      change Zw g ΛC enJ RX6 cX6_digest 5 (some .long) rX6_digest 22 [(0, .ref (g.2.2.1 0)), (1, .long y1), (3, .int y3)] [.int r2, .long ((31 : Int64) * y1)] μ3 _
      refine z_i2l (pc := 22) dX6_digest_22 ?_
      refine z_ladd (pc := 23) dX6_digest_23 ?_
      refine z_lstore_n (pc := 24) (lv2 := [(0, .ref (g.2.2.1 0)), (1, .long (((31 : Int64) * y1) + r2.toInt64)), (3, .int y3)]) [1, 0, 2] dX6_digest_24 rfl (by decide) rfl ?_
      refine z_iinc (pc := 25) (v := y3 + 1) (lv2 := [(0, .ref (g.2.2.1 0)), (1, .long (((31 : Int64) * y1) + r2.toInt64)), (3, .int (y3 + 1))]) 2 [1, 2, 0] dX6_digest_25 rfl (by rw [oi_1]) (by decide) rfl ?_
      refine z_goto (pc := 28) (tgt := 6) dX6_digest_28 (by decide) ?_
      exact ih _ _ _ _ hk
def lp_X6_digest_85 (c3 : Int32) : Nat → Int64 → Int32 → Mm → (Int64 → Mm → Option (Int64 × Mm)) → Option (Int64 × Mm)
  | 0, _, _, _, _ => none
  | n + 1, y1, y4, μ, k => if (4 : Int32) ≤ y4 then (k y1 μ) else (bd (f_X4_fixedPhrase c3 y4 μ) fun r16 μ17 => lp_X6_digest_85 c3 n (((31 : Int64) * y1) + r16.toInt64) (y4 + 1) μ17 k)
theorem w_X6_digest_85 (g : Gx) (c3 : Int32) : ∀ (n : Nat) (y1 : Int64) (y4 : Int32) (μ : Mm) (k : Int64 → Mm → Option (Int64 × Mm)), (∀ (z1 : Int64) (ν : Mm), Zw g ΛC enJ RX6 cX6_digest 5 (some .long) rX6_digest 115 [(0, .ref (g.2.2.1 0)), (1, .long z1), (3, .int c3)] [] ν (k z1 ν)) → Zw g ΛC enJ RX6 cX6_digest 5 (some .long) rX6_digest 85 [(0, .ref (g.2.2.1 0)), (1, .long y1), (3, .int c3), (4, .int y4)] [] μ (lp_X6_digest_85 c3 n y1 y4 μ k) := by
  intro n
  induction n with
  | zero =>
    intro y1 y4 μ k hk
    exact z_none
  | succ n ih =>
    intro y1 y4 μ k hk
    rw [lp_X6_digest_85]
    refine z_iload (pc := 85) 3 dX6_digest_85 rfl ?_
    refine z_iconst (pc := 87) (v := 4) dX6_digest_87 rfl ?_
    refine z_icmp_ge (pc := 88) (tgt := 115) dX6_digest_88 (by decide) (fun h15 => ?_) (fun h15 => ?_)
    · refine z_sub (lv2 := [(0, .ref (g.2.2.1 0)), (1, .long y1), (3, .int c3)]) [0, 1, 2] rfl ?_
      exact hk _ _
    · refine z_ldc2 (pc := 91) (v := 31) klX6_203 dX6_digest_91 ?_
      refine z_lload_n (pc := 94) 1 dX6_digest_94 rfl rfl ?_
      refine z_lmul (pc := 95) dX6_digest_95 ?_
      refine z_aload_n (pc := 96) 0 dX6_digest_96 rfl rfl ?_
      refine z_get (pc := 97) (v := .ref (g.2.2.1 1)) flX6_15 jnX6 ltC_0 kdC_0 rfl (by decide) rfl foC_0_0 rfl dX6_digest_97 ?_
      refine z_iload_n (pc := 100) 2 dX6_digest_100 rfl rfl ?_
      refine z_iload (pc := 101) 3 dX6_digest_101 rfl ?_
      refine z_callV (pc := 103) (b := 1) (As := [.int c3, .int y4]) (rest := [.long ((31 : Int64) * y1)]) kX6_133 (m_X4_fixedPhrase g μ c3 y4) ltC_1 kdC_1 rfl rfl ⟨rfl, rfl⟩ ⟨Nat.le_of_ble_eq_true rfl, Nat.le_of_ble_eq_true rfl⟩ (Nat.le_of_ble_eq_true rfl) rfl rfl dX6_digest_103 (fun r16 μ17 => ?_)
      change Zw g ΛC enJ RX6 cX6_digest 5 (some .long) rX6_digest 106 [(0, .ref (g.2.2.1 0)), (1, .long y1), (3, .int c3), (4, .int y4)] [.int r16, .long ((31 : Int64) * y1)] μ17 _
      refine z_i2l (pc := 106) dX6_digest_106 ?_
      refine z_ladd (pc := 107) dX6_digest_107 ?_
      refine z_lstore_n (pc := 108) (lv2 := [(0, .ref (g.2.2.1 0)), (1, .long (((31 : Int64) * y1) + r16.toInt64)), (3, .int c3), (4, .int y4)]) [1, 0, 2, 3] dX6_digest_108 rfl (by decide) rfl ?_
      refine z_iinc (pc := 109) (v := y4 + 1) (lv2 := [(0, .ref (g.2.2.1 0)), (1, .long (((31 : Int64) * y1) + r16.toInt64)), (3, .int c3), (4, .int (y4 + 1))]) 3 [1, 2, 3, 0] dX6_digest_109 rfl (by rw [oi_1]) (by decide) rfl ?_
      refine z_goto (pc := 112) (tgt := 85) dX6_digest_112 (by decide) ?_
      exact ih _ _ _ _ hk
def lp_X6_digest_65 : Nat → Int64 → Int32 → Mm → (Int64 → Mm → Option (Int64 × Mm)) → Option (Int64 × Mm)
  | 0, _, _, _, _ => none
  | n + 1, y1, y3, μ, k => if (3 : Int32) ≤ y3 then (k y1 μ) else (bd (f_X6_countMade y3 μ) fun r13 μ14 => lp_X6_digest_85 y3 FU (((31 : Int64) * y1) + r13) (0 : Int32) μ14 (fun x18 μ19 => lp_X6_digest_65 n x18 (y3 + 1) μ19 k))
theorem w_X6_digest_65 (g : Gx) : ∀ (n : Nat) (y1 : Int64) (y3 : Int32) (μ : Mm) (k : Int64 → Mm → Option (Int64 × Mm)), (∀ (z1 : Int64) (ν : Mm), Zw g ΛC enJ RX6 cX6_digest 5 (some .long) rX6_digest 121 [(1, .long z1)] [] ν (k z1 ν)) → Zw g ΛC enJ RX6 cX6_digest 5 (some .long) rX6_digest 65 [(0, .ref (g.2.2.1 0)), (1, .long y1), (3, .int y3)] [] μ (lp_X6_digest_65 n y1 y3 μ k) := by
  intro n
  induction n with
  | zero =>
    intro y1 y3 μ k hk
    exact z_none
  | succ n ih =>
    intro y1 y3 μ k hk
    rw [lp_X6_digest_65]
    refine z_iload_n (pc := 65) 2 dX6_digest_65 rfl rfl ?_
    refine z_iconst (pc := 66) (v := 3) dX6_digest_66 rfl ?_
    refine z_icmp_ge (pc := 67) (tgt := 121) dX6_digest_67 (by decide) (fun h12 => ?_) (fun h12 => ?_)
    · refine z_sub (lv2 := [(1, .long y1)]) [1] rfl ?_
      exact hk _ _
    · refine z_ldc2 (pc := 70) (v := 31) klX6_203 dX6_digest_70 ?_
      refine z_lload_n (pc := 73) 1 dX6_digest_73 rfl rfl ?_
      refine z_lmul (pc := 74) dX6_digest_74 ?_
      refine z_aload_n (pc := 75) 0 dX6_digest_75 rfl rfl ?_
      refine z_iload_n (pc := 76) 2 dX6_digest_76 rfl rfl ?_
      refine z_callV (pc := 77) (b := 0) (As := [.int y3]) (rest := [.long ((31 : Int64) * y1)]) kX6_142 (m_X6_countMade g μ y3) ltC_0 kdC_0 rfl rfl ⟨rfl, rfl⟩ ⟨Nat.le_of_ble_eq_true rfl, Nat.le_of_ble_eq_true rfl⟩ (Nat.le_of_ble_eq_true rfl) rfl rfl dX6_digest_77 (fun r13 μ14 => ?_)
      change Zw g ΛC enJ RX6 cX6_digest 5 (some .long) rX6_digest 80 [(0, .ref (g.2.2.1 0)), (1, .long y1), (3, .int y3)] [.long r13, .long ((31 : Int64) * y1)] μ14 _
      refine z_ladd (pc := 80) dX6_digest_80 ?_
      refine z_lstore_n (pc := 81) (lv2 := [(0, .ref (g.2.2.1 0)), (1, .long (((31 : Int64) * y1) + r13)), (3, .int y3)]) [1, 0, 2] dX6_digest_81 rfl (by decide) rfl ?_
      refine z_iconst (pc := 82) (v := 0) dX6_digest_82 rfl ?_
      refine z_istore (pc := 83) (lv2 := [(0, .ref (g.2.2.1 0)), (1, .long (((31 : Int64) * y1) + r13)), (3, .int y3), (4, .int (0 : Int32))]) [1, 2, 3, 0] dX6_digest_83 (by decide) rfl ?_
      refine w_X6_digest_85 g y3 FU (((31 : Int64) * y1) + r13) (0 : Int32) μ14 _ (fun x18 μ19 => ?_)
      refine z_iinc (pc := 115) (v := y3 + 1) (lv2 := [(0, .ref (g.2.2.1 0)), (1, .long x18), (3, .int (y3 + 1))]) 2 [1, 2, 0] dX6_digest_115 rfl (by rw [oi_1]) (by decide) rfl ?_
      refine z_goto (pc := 118) (tgt := 65) dX6_digest_118 (by decide) ?_
      exact ih _ _ _ _ hk
def f_X6_digest (μ : Mm) : Option (Int64 × Mm) := lp_X6_digest_6 FU (2399 : Int64) (0 : Int32) μ (fun x4 μ5 => bd (f_X4_digestOn x4 μ5) fun r6 μ7 => bd (f_X6_countCuts μ7) fun r8 μ9 => bd (f_X6_countMade (-1 : Int32) μ9) fun r10 μ11 => lp_X6_digest_65 FU (((31 : Int64) * (((31 : Int64) * r6) + r8)) + r10) (0 : Int32) μ11 (fun x20 μ21 => some (x20, μ21)))
theorem m_X6_digest (g : Gx) (μ : Mm) : Zm g ΛC enJ yX6_digest cX6_digest 5 (some .long) rX6_digest [.ref (g.2.2.1 0)] μ (f_X6_digest μ) := by
  refine z_met (by decide +kernel) (Nat.le_of_ble_eq_true rfl) ?_
  change Zw g ΛC enJ RX6 cX6_digest 5 (some .long) rX6_digest 0 [(0, .ref (g.2.2.1 0))] [] μ (f_X6_digest μ)
  rw [f_X6_digest]
  refine z_ldc2 (pc := 0) (v := 2399) klX6_201 dX6_digest_0 ?_
  refine z_lstore_n (pc := 3) (lv2 := [(0, .ref (g.2.2.1 0)), (1, .long (2399 : Int64))]) [1, 0] dX6_digest_3 rfl (by decide) rfl ?_
  refine z_iconst (pc := 4) (v := 0) dX6_digest_4 rfl ?_
  refine z_istore_n (pc := 5) (lv2 := [(0, .ref (g.2.2.1 0)), (1, .long (2399 : Int64)), (3, .int (0 : Int32))]) [1, 2, 0] dX6_digest_5 rfl (by decide) rfl ?_
  refine w_X6_digest_6 g FU (2399 : Int64) (0 : Int32) μ _ (fun x4 μ5 => ?_)
  refine z_aload_n (pc := 31) 0 dX6_digest_31 rfl rfl ?_
  refine z_get (pc := 32) (v := .ref (g.2.2.1 1)) flX6_15 jnX6 ltC_0 kdC_0 rfl (by decide) rfl foC_0_0 rfl dX6_digest_32 ?_
  refine z_lload_n (pc := 35) 1 dX6_digest_35 rfl rfl ?_
  refine z_callV (pc := 36) (b := 1) (As := [.long x4]) (rest := []) kX6_205 (m_X4_digestOn g μ5 x4) ltC_1 kdC_1 rfl rfl ⟨rfl, rfl⟩ ⟨Nat.le_of_ble_eq_true rfl, Nat.le_of_ble_eq_true rfl⟩ (Nat.le_of_ble_eq_true rfl) rfl rfl dX6_digest_36 (fun r6 μ7 => ?_)
  change Zw g ΛC enJ RX6 cX6_digest 5 (some .long) rX6_digest 39 [(0, .ref (g.2.2.1 0)), (1, .long x4)] [.long r6] μ7 _
  refine z_lstore_n (pc := 39) (lv2 := [(0, .ref (g.2.2.1 0)), (1, .long r6)]) [1, 0] dX6_digest_39 rfl (by decide) rfl ?_
  refine z_ldc2 (pc := 40) (v := 31) klX6_203 dX6_digest_40 ?_
  refine z_lload_n (pc := 43) 1 dX6_digest_43 rfl rfl ?_
  refine z_lmul (pc := 44) dX6_digest_44 ?_
  refine z_aload_n (pc := 45) 0 dX6_digest_45 rfl rfl ?_
  refine z_callV (pc := 46) (b := 0) (As := []) (rest := [.long ((31 : Int64) * r6)]) kX6_103 (m_X6_countCuts g μ7) ltC_0 kdC_0 rfl rfl ⟨rfl, rfl⟩ ⟨Nat.le_of_ble_eq_true rfl, Nat.le_of_ble_eq_true rfl⟩ (Nat.le_of_ble_eq_true rfl) rfl rfl dX6_digest_46 (fun r8 μ9 => ?_)
  change Zw g ΛC enJ RX6 cX6_digest 5 (some .long) rX6_digest 49 [(0, .ref (g.2.2.1 0)), (1, .long r6)] [.long r8, .long ((31 : Int64) * r6)] μ9 _
  refine z_ladd (pc := 49) dX6_digest_49 ?_
  refine z_lstore_n (pc := 50) (lv2 := [(0, .ref (g.2.2.1 0)), (1, .long (((31 : Int64) * r6) + r8))]) [1, 0] dX6_digest_50 rfl (by decide) rfl ?_
  refine z_ldc2 (pc := 51) (v := 31) klX6_203 dX6_digest_51 ?_
  refine z_lload_n (pc := 54) 1 dX6_digest_54 rfl rfl ?_
  refine z_lmul (pc := 55) dX6_digest_55 ?_
  refine z_aload_n (pc := 56) 0 dX6_digest_56 rfl rfl ?_
  refine z_iconst (pc := 57) (v := -1) dX6_digest_57 rfl ?_
  refine z_callV (pc := 58) (b := 0) (As := [.int (-1 : Int32)]) (rest := [.long ((31 : Int64) * (((31 : Int64) * r6) + r8))]) kX6_142 (m_X6_countMade g μ9 (-1 : Int32)) ltC_0 kdC_0 rfl rfl ⟨rfl, rfl⟩ ⟨Nat.le_of_ble_eq_true rfl, Nat.le_of_ble_eq_true rfl⟩ (Nat.le_of_ble_eq_true rfl) rfl rfl dX6_digest_58 (fun r10 μ11 => ?_)
  change Zw g ΛC enJ RX6 cX6_digest 5 (some .long) rX6_digest 61 [(0, .ref (g.2.2.1 0)), (1, .long (((31 : Int64) * r6) + r8))] [.long r10, .long ((31 : Int64) * (((31 : Int64) * r6) + r8))] μ11 _
  refine z_ladd (pc := 61) dX6_digest_61 ?_
  refine z_lstore_n (pc := 62) (lv2 := [(0, .ref (g.2.2.1 0)), (1, .long (((31 : Int64) * (((31 : Int64) * r6) + r8)) + r10))]) [1, 0] dX6_digest_62 rfl (by decide) rfl ?_
  refine z_iconst (pc := 63) (v := 0) dX6_digest_63 rfl ?_
  refine z_istore_n (pc := 64) (lv2 := [(0, .ref (g.2.2.1 0)), (1, .long (((31 : Int64) * (((31 : Int64) * r6) + r8)) + r10)), (3, .int (0 : Int32))]) [1, 2, 0] dX6_digest_64 rfl (by decide) rfl ?_
  refine w_X6_digest_65 g FU (((31 : Int64) * (((31 : Int64) * r6) + r8)) + r10) (0 : Int32) μ11 _ (fun x20 μ21 => ?_)
  refine z_lload_n (pc := 121) 0 dX6_digest_121 rfl rfl ?_
  exact z_lret dX6_digest_122
