def lp_X1_findBest_32 : Nat → Int32 → Mm → (Mm → Option (Int32 × Mm)) → Option (Int32 × Mm)
  | 0, _, _, _ => none
  | n + 1, y2, μ, k => if (4 : Int32) ≤ y2 then (k  μ) else (if zin (((μ.1 10 3) * (4 : Int32)) + y2) 164 then (bd (f_X6_holds (μ.1 1 12) y2 (si μ 18 ((((μ.1 10 3) * (4 : Int32)) + y2).toNatClampNeg) (0 : Int32))) fun r5 μ6 => if r5 = 0 then (if zin (((μ.1 10 3) * (4 : Int32)) + y2) 164 then (lp_X1_findBest_32 n (y2 + 1) (si μ6 19 ((((μ.1 10 3) * (4 : Int32)) + y2).toNatClampNeg) (-1 : Int32)) k) else none) else (if zin (((μ.1 10 3) * (4 : Int32)) + y2) 164 then (lp_X1_findBest_32 n (y2 + 1) (si μ6 19 ((((μ.1 10 3) * (4 : Int32)) + y2).toNatClampNeg) (0 : Int32)) k) else none)) else none)
theorem w_X1_findBest_32 (g : Gx) : ∀ (n : Nat) (y2 : Int32) (μ : Mm) (k : Mm → Option (Int32 × Mm)), (∀ (ν : Mm), Zw g ΛC enI RX1 cX1_findBest 3 (some .boolean) rX1_findBest 95 [(0, .ref (g.2.2.1 17))] [] ν (k  ν)) → Zw g ΛC enI RX1 cX1_findBest 3 (some .boolean) rX1_findBest 32 [(0, .ref (g.2.2.1 17)), (2, .int y2)] [] μ (lp_X1_findBest_32 n y2 μ k) := by
  intro n
  induction n with
  | zero =>
    intro y2 μ k hk
    exact z_none
  | succ n ih =>
    intro y2 μ k hk
    rw [lp_X1_findBest_32]
    refine z_iload_n (pc := 32) 1 dX1_findBest_32 rfl rfl ?_
    refine z_iconst (pc := 33) (v := 4) dX1_findBest_33 rfl ?_
    refine z_icmp_ge (pc := 34) (tgt := 95) dX1_findBest_34 (by decide) (fun h4 => ?_) (fun h4 => ?_)
    · refine z_sub (lv2 := [(0, .ref (g.2.2.1 17))]) [0] rfl ?_
      exact hk _
    · refine z_aload_n (pc := 37) 0 dX1_findBest_37 rfl rfl ?_
      refine z_get (pc := 38) (v := .ref (g.2.2.1 18)) flX1_9 jnX1 ltC_17 kdC_17 rfl (by decide) rfl foC_17_2 rfl dX1_findBest_38 ?_
      refine z_aload_n (pc := 41) 0 dX1_findBest_41 rfl rfl ?_
      refine z_get (pc := 42) (v := .ref (g.2.2.1 10)) flX1_28 jnX1 ltC_17 kdC_17 rfl (by decide) rfl foC_17_1 rfl dX1_findBest_42 ?_
      refine z_get (pc := 45) (v := .int (μ.1 10 3)) flX1_44 jnX0 ltC_10 kdC_10 rfl (by decide) rfl foC_10_3 rfl dX1_findBest_45 ?_
      refine z_iconst (pc := 48) (v := 4) dX1_findBest_48 rfl ?_
      refine z_imul (pc := 49) dX1_findBest_49 ?_
      refine z_iload_n (pc := 50) 1 dX1_findBest_50 rfl rfl ?_
      refine z_iadd (pc := 51) dX1_findBest_51 ?_
      refine z_iconst (pc := 52) (v := 0) dX1_findBest_52 rfl ?_
      refine z_iastore_g (pc := 53) ltC_18 kdC_18 dX1_findBest_53 ?_
      refine z_aload_n (pc := 54) 0 dX1_findBest_54 rfl rfl ?_
      refine z_get (pc := 55) (v := .ref (g.2.2.1 19)) flX1_15 jnX1 ltC_17 kdC_17 rfl (by decide) rfl foC_17_3 rfl dX1_findBest_55 ?_
      refine z_aload_n (pc := 58) 0 dX1_findBest_58 rfl rfl ?_
      refine z_get (pc := 59) (v := .ref (g.2.2.1 10)) flX1_28 jnX1 ltC_17 kdC_17 rfl (by decide) rfl foC_17_1 rfl dX1_findBest_59 ?_
      refine z_get (pc := 62) (v := .int (μ.1 10 3)) flX1_44 jnX0 ltC_10 kdC_10 rfl (by decide) rfl foC_10_3 rfl dX1_findBest_62 ?_
      refine z_iconst (pc := 65) (v := 4) dX1_findBest_65 rfl ?_
      refine z_imul (pc := 66) dX1_findBest_66 ?_
      refine z_iload_n (pc := 67) 1 dX1_findBest_67 rfl rfl ?_
      refine z_iadd (pc := 68) dX1_findBest_68 ?_
      refine z_aload_n (pc := 69) 0 dX1_findBest_69 rfl rfl ?_
      refine z_get (pc := 70) (v := .ref (g.2.2.1 1)) flX1_24 jnX1 ltC_17 kdC_17 rfl (by decide) rfl foC_17_0 rfl dX1_findBest_70 ?_
      refine z_get (pc := 73) (v := .int (μ.1 1 12)) flX1_47 jnX4 ltC_1 kdC_1 rfl (by decide) rfl foC_1_12 rfl dX1_findBest_73 ?_
      refine z_iload_n (pc := 76) 1 dX1_findBest_76 rfl rfl ?_
      refine z_callSN (pc := 77) (As := [.int (μ.1 1 12), .int y2]) (rest := [.int (((μ.1 10 3) * (4 : Int32)) + y2), .ref (g.2.2.1 19)]) kX1_52 (m_X6_holds g (si μ 18 ((((μ.1 10 3) * (4 : Int32)) + y2).toNatClampNeg) (0 : Int32)) (μ.1 1 12) y2) ⟨rfl, rfl⟩ ⟨Nat.le_of_ble_eq_true rfl, Nat.le_of_ble_eq_true rfl⟩ (Nat.le_of_ble_eq_true rfl) rfl rfl dX1_findBest_77 (fun r5 μ6 => ?_)
      change Zw g ΛC enI RX1 cX1_findBest 3 (some .boolean) rX1_findBest 80 [(0, .ref (g.2.2.1 17)), (2, .int y2)] [.int r5, .int (((μ.1 10 3) * (4 : Int32)) + y2), .ref (g.2.2.1 19)] μ6 _
      refine z_if_eq (pc := 80) (tgt := 87) dX1_findBest_80 (by decide) (fun h7 => ?_) (fun h7 => ?_)
      · refine z_iconst (pc := 87) (v := -1) dX1_findBest_87 rfl ?_
        refine z_iastore_g (pc := 88) ltC_19 kdC_19 dX1_findBest_88 ?_
        refine z_iinc (pc := 89) (v := y2 + 1) (lv2 := [(0, .ref (g.2.2.1 17)), (2, .int (y2 + 1))]) 1 [1, 0] dX1_findBest_89 rfl (by rw [oi_1]) (by decide) rfl ?_
        refine z_goto (pc := 92) (tgt := 32) dX1_findBest_92 (by decide) ?_
        exact ih _ _ _ hk
      · refine z_iconst (pc := 83) (v := 0) dX1_findBest_83 rfl ?_
        refine z_goto (pc := 84) (tgt := 88) dX1_findBest_84 (by decide) ?_
        refine z_iastore_g (pc := 88) ltC_19 kdC_19 dX1_findBest_88 ?_
        refine z_iinc (pc := 89) (v := y2 + 1) (lv2 := [(0, .ref (g.2.2.1 17)), (2, .int (y2 + 1))]) 1 [1, 0] dX1_findBest_89 rfl (by rw [oi_1]) (by decide) rfl ?_
        refine z_goto (pc := 92) (tgt := 32) dX1_findBest_92 (by decide) ?_
        exact ih _ _ _ hk
def lp_X1_findBest_105 : Nat → Int32 → Mm → (Mm → Option (Int32 × Mm)) → Option (Int32 × Mm)
  | 0, _, _, _ => none
  | n + 1, y2, μ, k => if y2 < 0 then (k  μ) else (bd (f_X1_fillPlace y2 μ) fun r10 μ11 => lp_X1_findBest_105 n (y2 + -1) μ11 k)
theorem w_X1_findBest_105 (g : Gx) : ∀ (n : Nat) (y2 : Int32) (μ : Mm) (k : Mm → Option (Int32 × Mm)), (∀ (ν : Mm), Zw g ΛC enI RX1 cX1_findBest 3 (some .boolean) rX1_findBest 120 [(0, .ref (g.2.2.1 17))] [] ν (k  ν)) → Zw g ΛC enI RX1 cX1_findBest 3 (some .boolean) rX1_findBest 105 [(0, .ref (g.2.2.1 17)), (2, .int y2)] [] μ (lp_X1_findBest_105 n y2 μ k) := by
  intro n
  induction n with
  | zero =>
    intro y2 μ k hk
    exact z_none
  | succ n ih =>
    intro y2 μ k hk
    rw [lp_X1_findBest_105]
    refine z_iload_n (pc := 105) 1 dX1_findBest_105 rfl rfl ?_
    refine z_if_lt (pc := 106) (tgt := 120) dX1_findBest_106 (by decide) (fun h9 => ?_) (fun h9 => ?_)
    · refine z_sub (lv2 := [(0, .ref (g.2.2.1 17))]) [0] rfl ?_
      exact hk _
    · refine z_aload_n (pc := 109) 0 dX1_findBest_109 rfl rfl ?_
      refine z_iload_n (pc := 110) 1 dX1_findBest_110 rfl rfl ?_
      refine z_callV (pc := 111) (b := 17) (As := [.int y2]) (rest := []) kX1_56 (m_X1_fillPlace g μ y2) ltC_17 kdC_17 rfl rfl ⟨rfl, rfl⟩ ⟨Nat.le_of_ble_eq_true rfl, Nat.le_of_ble_eq_true rfl⟩ (Nat.le_of_ble_eq_true rfl) rfl rfl dX1_findBest_111 (fun r10 μ11 => ?_)
      change Zw g ΛC enI RX1 cX1_findBest 3 (some .boolean) rX1_findBest 114 [(0, .ref (g.2.2.1 17)), (2, .int y2)] [] μ11 _
      refine z_iinc (pc := 114) (v := y2 + -1) (lv2 := [(0, .ref (g.2.2.1 17)), (2, .int (y2 + -1))]) 1 [1, 0] dX1_findBest_114 rfl (by rw [oi_n1]) (by decide) rfl ?_
      refine z_goto (pc := 117) (tgt := 105) dX1_findBest_117 (by decide) ?_
      exact ih _ _ _ hk
def f_X1_findBest (a1 : Int32) (μ : Mm) : Option (Int32 × Mm) := bd (f_X0_layLine (si (si μ 17 7 a1) 17 6 (0 : Int32))) fun r1 μ2 => if (1 : Int32) ≤ (μ2.1 10 3) then (lp_X1_findBest_32 FU (0 : Int32) μ2 (fun  μ8 => lp_X1_findBest_105 FU ((μ8.1 10 3) - (1 : Int32)) μ8 (fun  μ12 => bd (f_X1_traceChosen μ12) fun r13 μ14 => if (μ14.1 17 6) ≤ 0 then (some ((0 : Int32), μ14)) else (some ((1 : Int32), μ14))))) else (some ((0 : Int32), μ2))
theorem m_X1_findBest (g : Gx) (μ : Mm) (a1 : Int32) : Zm g ΛC enI yX1_findBest cX1_findBest 3 (some .boolean) rX1_findBest [.ref (g.2.2.1 17), .int a1] μ (f_X1_findBest a1 μ) := by
  refine z_met (by decide +kernel) (Nat.le_of_ble_eq_true rfl) ?_
  change Zw g ΛC enI RX1 cX1_findBest 3 (some .boolean) rX1_findBest 0 [(0, .ref (g.2.2.1 17)), (1, .int a1)] [] μ (f_X1_findBest a1 μ)
  rw [f_X1_findBest]
  refine z_aload_n (pc := 0) 0 dX1_findBest_0 rfl rfl ?_
  refine z_iload_n (pc := 1) 1 dX1_findBest_1 rfl rfl ?_
  refine z_puti (x := (0, 0)) (pc := 2) flX1_32 jnX1 tyX1 tyX1_ok nmX1 ltC_17 kdC_17 rfl (by decide) rfl foC_17_7 rfl ⟨rfl, rfl⟩ dX1_findBest_2 ?_
  refine z_aload_n (pc := 5) 0 dX1_findBest_5 rfl rfl ?_
  refine z_iconst (pc := 6) (v := 0) dX1_findBest_6 rfl ?_
  refine z_puti (x := (0, 0)) (pc := 7) flX1_36 jnX1 tyX1 tyX1_ok nmX1 ltC_17 kdC_17 rfl (by decide) rfl foC_17_6 rfl ⟨rfl, rfl⟩ dX1_findBest_7 ?_
  refine z_aload_n (pc := 10) 0 dX1_findBest_10 rfl rfl ?_
  refine z_get (pc := 11) (v := .ref (g.2.2.1 10)) flX1_28 jnX1 ltC_17 kdC_17 rfl (by decide) rfl foC_17_1 rfl dX1_findBest_11 ?_
  refine z_callV (pc := 14) (b := 10) (As := []) (rest := []) kX1_39 (m_X0_layLine g (si (si μ 17 7 a1) 17 6 (0 : Int32))) ltC_10 kdC_10 rfl rfl ⟨rfl, rfl⟩ ⟨Nat.le_of_ble_eq_true rfl, Nat.le_of_ble_eq_true rfl⟩ (Nat.le_of_ble_eq_true rfl) rfl rfl dX1_findBest_14 (fun r1 μ2 => ?_)
  change Zw g ΛC enI RX1 cX1_findBest 3 (some .boolean) rX1_findBest 17 [(0, .ref (g.2.2.1 17)), (1, .int a1)] [] μ2 _
  refine z_aload_n (pc := 17) 0 dX1_findBest_17 rfl rfl ?_
  refine z_get (pc := 18) (v := .ref (g.2.2.1 10)) flX1_28 jnX1 ltC_17 kdC_17 rfl (by decide) rfl foC_17_1 rfl dX1_findBest_18 ?_
  refine z_get (pc := 21) (v := .int (μ2.1 10 3)) flX1_44 jnX0 ltC_10 kdC_10 rfl (by decide) rfl foC_10_3 rfl dX1_findBest_21 ?_
  refine z_iconst (pc := 24) (v := 1) dX1_findBest_24 rfl ?_
  refine z_icmp_ge (pc := 25) (tgt := 30) dX1_findBest_25 (by decide) (fun h3 => ?_) (fun h3 => ?_)
  · refine z_iconst (pc := 30) (v := 0) dX1_findBest_30 rfl ?_
    refine z_istore_n (pc := 31) (lv2 := [(0, .ref (g.2.2.1 17)), (1, .int a1), (2, .int (0 : Int32))]) [1, 2, 0] dX1_findBest_31 rfl (by decide) rfl ?_
    refine z_sub (lv2 := [(0, .ref (g.2.2.1 17)), (2, .int (0 : Int32))]) [0, 2] rfl ?_
    refine w_X1_findBest_32 g FU (0 : Int32) μ2 _ (fun  μ8 => ?_)
    refine z_aload_n (pc := 95) 0 dX1_findBest_95 rfl rfl ?_
    refine z_get (pc := 96) (v := .ref (g.2.2.1 10)) flX1_28 jnX1 ltC_17 kdC_17 rfl (by decide) rfl foC_17_1 rfl dX1_findBest_96 ?_
    refine z_get (pc := 99) (v := .int (μ8.1 10 3)) flX1_44 jnX0 ltC_10 kdC_10 rfl (by decide) rfl foC_10_3 rfl dX1_findBest_99 ?_
    refine z_iconst (pc := 102) (v := 1) dX1_findBest_102 rfl ?_
    refine z_isub (pc := 103) dX1_findBest_103 ?_
    refine z_istore_n (pc := 104) (lv2 := [(0, .ref (g.2.2.1 17)), (2, .int ((μ8.1 10 3) - (1 : Int32)))]) [1, 0] dX1_findBest_104 rfl (by decide) rfl ?_
    refine w_X1_findBest_105 g FU ((μ8.1 10 3) - (1 : Int32)) μ8 _ (fun  μ12 => ?_)
    refine z_aload_n (pc := 120) 0 dX1_findBest_120 rfl rfl ?_
    refine z_callV (pc := 121) (b := 17) (As := []) (rest := []) kX1_60 (m_X1_traceChosen g μ12) ltC_17 kdC_17 rfl rfl ⟨rfl, rfl⟩ ⟨Nat.le_of_ble_eq_true rfl, Nat.le_of_ble_eq_true rfl⟩ (Nat.le_of_ble_eq_true rfl) rfl rfl dX1_findBest_121 (fun r13 μ14 => ?_)
    change Zw g ΛC enI RX1 cX1_findBest 3 (some .boolean) rX1_findBest 124 [(0, .ref (g.2.2.1 17))] [] μ14 _
    refine z_aload_n (pc := 124) 0 dX1_findBest_124 rfl rfl ?_
    refine z_get (pc := 125) (v := .int (μ14.1 17 6)) flX1_36 jnX1 ltC_17 kdC_17 rfl (by decide) rfl foC_17_6 rfl dX1_findBest_125 ?_
    refine z_if_le (pc := 128) (tgt := 135) dX1_findBest_128 (by decide) (fun h15 => ?_) (fun h15 => ?_)
    · refine z_iconst (pc := 135) (v := 0) dX1_findBest_135 rfl ?_
      exact z_zret dX1_findBest_136 (by decide)
    · refine z_iconst (pc := 131) (v := 1) dX1_findBest_131 rfl ?_
      refine z_goto (pc := 132) (tgt := 136) dX1_findBest_132 (by decide) ?_
      exact z_zret dX1_findBest_136 (by decide)
  · refine z_iconst (pc := 28) (v := 0) dX1_findBest_28 rfl ?_
    exact z_zret dX1_findBest_29 (by decide)
def f_X1_bestSum (μ : Mm) : Option (Int32 × Mm) := some (μ.1 18 0, μ)
theorem m_X1_bestSum (g : Gx) (μ : Mm) : Zm g ΛC enI yX1_bestSum cX1_bestSum 1 (some .int) rX1_bestSum [.ref (g.2.2.1 17)] μ (f_X1_bestSum μ) := by
  refine z_met (by decide +kernel) (Nat.le_of_ble_eq_true rfl) ?_
  change Zw g ΛC enI RX1 cX1_bestSum 1 (some .int) rX1_bestSum 0 [(0, .ref (g.2.2.1 17))] [] μ (f_X1_bestSum μ)
  rw [f_X1_bestSum]
  refine z_aload_n (pc := 0) 0 dX1_bestSum_0 rfl rfl ?_
  refine z_get (pc := 1) (v := .ref (g.2.2.1 18)) flX1_9 jnX1 ltC_17 kdC_17 rfl (by decide) rfl foC_17_2 rfl dX1_bestSum_1 ?_
  refine z_iconst (pc := 4) (v := 0) dX1_bestSum_4 rfl ?_
  refine z_iaload (pc := 5) (j := 0) ltC_18 kdC_18 (by decide +kernel) (by decide +kernel) dX1_bestSum_5 ?_
  exact z_iret dX1_bestSum_6
def lp_J7_fill_d0a16_6 (c1 : Int64) (c4 : Int32) : Nat → Int32 → Mm → (Mm → Option (Unit × Mm)) → Option (Unit × Mm)
  | 0, _, _, _ => none
  | n + 1, y3, μ, k => if c4 ≤ y3 then (k  μ) else (if zin y3 4 then (lp_J7_fill_d0a16_6 c1 c4 n (y3 + 1) (sj μ 15 y3.toNatClampNeg c1) k) else none)
theorem w_J7_fill_d0a16_6 (g : Gx) (c1 : Int64) (c4 : Int32) : ∀ (n : Nat) (y3 : Int32) (μ : Mm) (k : Mm → Option (Unit × Mm)), (∀ (ν : Mm), Zw g ΛC enV RJ7 cJ7_fill_d0a16 5 none rJ7_fill_d0a16 22 [] [] ν (k  ν)) → Zw g ΛC enV RJ7 cJ7_fill_d0a16 5 none rJ7_fill_d0a16 6 [(0, .ref (g.2.2.1 15)), (1, .long c1), (3, .int y3), (4, .int c4)] [] μ (lp_J7_fill_d0a16_6 c1 c4 n y3 μ k) := by
  intro n
  induction n with
  | zero =>
    intro y3 μ k hk
    exact z_none
  | succ n ih =>
    intro y3 μ k hk
    rw [lp_J7_fill_d0a16_6]
    refine z_iload_n (pc := 6) 2 dJ7_fill_d0a16_6 rfl rfl ?_
    refine z_iload (pc := 7) 3 dJ7_fill_d0a16_7 rfl ?_
    refine z_icmp_ge (pc := 9) (tgt := 22) dJ7_fill_d0a16_9 (by decide) (fun h1 => ?_) (fun h1 => ?_)
    · refine z_sub (lv2 := []) [] rfl ?_
      exact hk _
    · refine z_aload_n (pc := 12) 0 dJ7_fill_d0a16_12 rfl rfl ?_
      refine z_iload_n (pc := 13) 2 dJ7_fill_d0a16_13 rfl rfl ?_
      refine z_lload_n (pc := 14) 1 dJ7_fill_d0a16_14 rfl rfl ?_
      refine z_lastore_g (pc := 15) ltC_15 kdC_15 dJ7_fill_d0a16_15 ?_
      refine z_iinc (pc := 16) (v := y3 + 1) (lv2 := [(0, .ref (g.2.2.1 15)), (1, .long c1), (3, .int (y3 + 1)), (4, .int c4)]) 2 [1, 2, 0, 3] dJ7_fill_d0a16_16 rfl (by rw [oi_1]) (by decide) rfl ?_
      refine z_goto (pc := 19) (tgt := 6) dJ7_fill_d0a16_19 (by decide) ?_
      exact ih _ _ _ hk
def f_J7_fill_d0a16 (a1 : Int64) (μ : Mm) : Option (Unit × Mm) := lp_J7_fill_d0a16_6 a1 (4 : Int32) FU (0 : Int32) μ (fun  μ2 => some ((), μ2))
theorem m_J7_fill_d0a16 (g : Gx) (μ : Mm) (a1 : Int64) : Zm g ΛC enV yJ7_fill_d0a16 cJ7_fill_d0a16 5 none rJ7_fill_d0a16 [.ref (g.2.2.1 15), .long a1] μ (f_J7_fill_d0a16 a1 μ) := by
  refine z_met (by decide +kernel) (Nat.le_of_ble_eq_true rfl) ?_
  change Zw g ΛC enV RJ7 cJ7_fill_d0a16 5 none rJ7_fill_d0a16 0 [(0, .ref (g.2.2.1 15)), (1, .long a1)] [] μ (f_J7_fill_d0a16 a1 μ)
  rw [f_J7_fill_d0a16]
  refine z_iconst (pc := 0) (v := 0) dJ7_fill_d0a16_0 rfl ?_
  refine z_istore_n (pc := 1) (lv2 := [(0, .ref (g.2.2.1 15)), (1, .long a1), (3, .int (0 : Int32))]) [1, 2, 0] dJ7_fill_d0a16_1 rfl (by decide) rfl ?_
  refine z_aload_n (pc := 2) 0 dJ7_fill_d0a16_2 rfl rfl ?_
  refine z_alen_j (pc := 3) (v := 4) ltC_15 kdC_15 (by decide +kernel) dJ7_fill_d0a16_3 ?_
  refine z_istore (pc := 4) (lv2 := [(0, .ref (g.2.2.1 15)), (1, .long a1), (3, .int (0 : Int32)), (4, .int (4 : Int32))]) [1, 2, 3, 0] dJ7_fill_d0a16_4 (by decide) rfl ?_
  refine w_J7_fill_d0a16_6 g a1 (4 : Int32) FU (0 : Int32) μ _ (fun  μ2 => ?_)
  exact z_vret dJ7_fill_d0a16_22
def f_X4_factorOf (a1 : Int32) (a2 : Int32) (μ : Mm) : Option (Int64 × Mm) := if a1 = (-1 : Int32) then (some ((1 : Int64), μ)) else (bd (f_X4_habitOf a1 a2 μ) fun r2 μ3 => some (r2.toInt64 + (1 : Int64), μ3))
theorem m_X4_factorOf (g : Gx) (μ : Mm) (a1 : Int32) (a2 : Int32) : Zm g ΛC enJ yX4_factorOf cX4_factorOf 3 (some .long) rX4_factorOf [.ref (g.2.2.1 1), .int a1, .int a2] μ (f_X4_factorOf a1 a2 μ) := by
  refine z_met (by decide +kernel) (Nat.le_of_ble_eq_true rfl) ?_
  change Zw g ΛC enJ RX4 cX4_factorOf 3 (some .long) rX4_factorOf 0 [(0, .ref (g.2.2.1 1)), (1, .int a1), (2, .int a2)] [] μ (f_X4_factorOf a1 a2 μ)
  rw [f_X4_factorOf]
  refine z_iload_n (pc := 0) 1 dX4_factorOf_0 rfl rfl ?_
  refine z_iconst (pc := 1) (v := -1) dX4_factorOf_1 rfl ?_
  refine z_icmp_ne (pc := 2) (tgt := 9) dX4_factorOf_2 (by decide) (fun h1 => ?_) (fun h1 => ?_)
  · refine z_aload_n (pc := 9) 0 dX4_factorOf_9 rfl rfl ?_
    refine z_iload_n (pc := 10) 1 dX4_factorOf_10 rfl rfl ?_
    refine z_iload_n (pc := 11) 2 dX4_factorOf_11 rfl rfl ?_
    refine z_callV (pc := 12) (b := 1) (As := [.int a1, .int a2]) (rest := []) kX4_99 (m_X4_habitOf g μ a1 a2) ltC_1 kdC_1 rfl rfl ⟨rfl, rfl⟩ ⟨Nat.le_of_ble_eq_true rfl, Nat.le_of_ble_eq_true rfl⟩ (Nat.le_of_ble_eq_true rfl) rfl rfl dX4_factorOf_12 (fun r2 μ3 => ?_)
    change Zw g ΛC enJ RX4 cX4_factorOf 3 (some .long) rX4_factorOf 15 [(0, .ref (g.2.2.1 1)), (1, .int a1), (2, .int a2)] [.int r2] μ3 _
    refine z_i2l (pc := 15) dX4_factorOf_15 ?_
    refine z_lconst (pc := 16) (v := 1) dX4_factorOf_16 (by decide +kernel) ?_
    refine z_ladd (pc := 17) dX4_factorOf_17 ?_
    exact z_lret dX4_factorOf_18
  · refine z_lconst (pc := 5) (v := 1) dX4_factorOf_5 (by decide +kernel) ?_
    refine z_goto (pc := 6) (tgt := 18) dX4_factorOf_6 (by decide) ?_
    exact z_lret dX4_factorOf_18
def f_X2_times (a0 : Int64) (a2 : Int64) (μ : Mm) : Option (Int64 × Mm) := if a0 < (1 : Int64) then (some ((0 : Int64), μ)) else (if (1 : Int64) ≤ a2 then (if ¬ a0 = 0 then (if a2 ≤ ((9223372036854775807 : Int64) / a0) then (some (a0 * a2, μ)) else (some ((-5 : Int64), μ))) else none) else (some ((0 : Int64), μ)))
theorem m_X2_times (g : Gx) (μ : Mm) (a0 : Int64) (a2 : Int64) : Zm g ΛC enJ yX2_times cX2_times 4 (some .long) rX2_times [.long a0, .long a2] μ (f_X2_times a0 a2 μ) := by
  refine z_met (by decide +kernel) (Nat.le_of_ble_eq_true rfl) ?_
  change Zw g ΛC enJ RX2 cX2_times 4 (some .long) rX2_times 0 [(0, .long a0), (2, .long a2)] [] μ (f_X2_times a0 a2 μ)
  rw [f_X2_times]
  refine z_lload_n (pc := 0) 0 dX2_times_0 rfl rfl ?_
  refine z_lconst (pc := 1) (v := 1) dX2_times_1 (by decide +kernel) ?_
  refine z_lcmp_lt (pc := 2) (tgt := 12) dX2_times_2 dX2_times_3 (by decide) (fun h1 => ?_) (fun h1 => ?_)
  · refine z_lconst (pc := 12) (v := 0) dX2_times_12 (by decide +kernel) ?_
    exact z_lret dX2_times_13
  · refine z_lload_n (pc := 6) 1 dX2_times_6 rfl rfl ?_
    refine z_lconst (pc := 7) (v := 1) dX2_times_7 (by decide +kernel) ?_
    refine z_lcmp_ge (pc := 8) (tgt := 14) dX2_times_8 dX2_times_9 (by decide) (fun h2 => ?_) (fun h2 => ?_)
    · refine z_lload_n (pc := 14) 1 dX2_times_14 rfl rfl ?_
      refine z_ldc2 (pc := 15) (v := 9223372036854775807) klX2_88 dX2_times_15 ?_
      refine z_lload_n (pc := 18) 0 dX2_times_18 rfl rfl ?_
      refine z_ldiv_g (pc := 19) dX2_times_19 ?_
      refine z_lcmp_le (pc := 20) (tgt := 30) dX2_times_20 dX2_times_21 (by decide) (fun h3 => ?_) (fun h3 => ?_)
      · refine z_lload_n (pc := 30) 0 dX2_times_30 rfl rfl ?_
        refine z_lload_n (pc := 31) 1 dX2_times_31 rfl rfl ?_
        refine z_lmul (pc := 32) dX2_times_32 ?_
        exact z_lret dX2_times_33
      · refine z_ldc2 (pc := 24) (v := -5) klX2_52 dX2_times_24 ?_
        refine z_goto (pc := 27) (tgt := 33) dX2_times_27 (by decide) ?_
        exact z_lret dX2_times_33
    · refine z_lconst (pc := 12) (v := 0) dX2_times_12 (by decide +kernel) ?_
      exact z_lret dX2_times_13
def f_X2_plus (a0 : Int64) (a2 : Int64) (μ : Mm) : Option (Int64 × Mm) := if a0 < (0 : Int64) then (some ((-5 : Int64), μ)) else (if (0 : Int64) ≤ a2 then (if a0 ≤ ((9223372036854775807 : Int64) - a2) then (some (a0 + a2, μ)) else (some ((-5 : Int64), μ))) else (some ((-5 : Int64), μ)))
theorem m_X2_plus (g : Gx) (μ : Mm) (a0 : Int64) (a2 : Int64) : Zm g ΛC enJ yX2_plus cX2_plus 4 (some .long) rX2_plus [.long a0, .long a2] μ (f_X2_plus a0 a2 μ) := by
  refine z_met (by decide +kernel) (Nat.le_of_ble_eq_true rfl) ?_
  change Zw g ΛC enJ RX2 cX2_plus 4 (some .long) rX2_plus 0 [(0, .long a0), (2, .long a2)] [] μ (f_X2_plus a0 a2 μ)
  rw [f_X2_plus]
  refine z_lload_n (pc := 0) 0 dX2_plus_0 rfl rfl ?_
  refine z_lconst (pc := 1) (v := 0) dX2_plus_1 (by decide +kernel) ?_
  refine z_lcmp_lt (pc := 2) (tgt := 12) dX2_plus_2 dX2_plus_3 (by decide) (fun h1 => ?_) (fun h1 => ?_)
  · refine z_ldc2 (pc := 12) (v := -5) klX2_52 dX2_plus_12 ?_
    exact z_lret dX2_plus_15
  · refine z_lload_n (pc := 6) 1 dX2_plus_6 rfl rfl ?_
    refine z_lconst (pc := 7) (v := 0) dX2_plus_7 (by decide +kernel) ?_
    refine z_lcmp_ge (pc := 8) (tgt := 16) dX2_plus_8 dX2_plus_9 (by decide) (fun h2 => ?_) (fun h2 => ?_)
    · refine z_lload_n (pc := 16) 0 dX2_plus_16 rfl rfl ?_
      refine z_ldc2 (pc := 17) (v := 9223372036854775807) klX2_88 dX2_plus_17 ?_
      refine z_lload_n (pc := 20) 1 dX2_plus_20 rfl rfl ?_
      refine z_lsub (pc := 21) dX2_plus_21 ?_
      refine z_lcmp_le (pc := 22) (tgt := 32) dX2_plus_22 dX2_plus_23 (by decide) (fun h3 => ?_) (fun h3 => ?_)
      · refine z_lload_n (pc := 32) 0 dX2_plus_32 rfl rfl ?_
        refine z_lload_n (pc := 33) 1 dX2_plus_33 rfl rfl ?_
        refine z_ladd (pc := 34) dX2_plus_34 ?_
        exact z_lret dX2_plus_35
      · refine z_ldc2 (pc := 26) (v := -5) klX2_52 dX2_plus_26 ?_
        refine z_goto (pc := 29) (tgt := 35) dX2_plus_29 (by decide) ?_
        exact z_lret dX2_plus_35
    · refine z_ldc2 (pc := 12) (v := -5) klX2_52 dX2_plus_12 ?_
      exact z_lret dX2_plus_15
def lp_X2_gatherBySlot_10 (c1 : Int32) : Nat → Int32 → Mm → (Mm → Option (Unit × Mm)) → Option (Unit × Mm)
  | 0, _, _, _ => none
  | n + 1, y2, μ, k => if (μ.1 1 8) ≤ y2 then (k  μ) else (bd (f_X0_landingOf c1 y2 μ) fun r4 μ5 => if r4 ≤ 0 then (lp_X2_gatherBySlot_10 c1 n (y2 + 1) μ5 k) else (if zin y2 12 then (if zin (μ5.1 2 y2.toNatClampNeg) 4 then (bd (f_X4_factorOf (μ5.1 13 6) y2 μ5) fun r7 μ8 => if zin ((r4 * (4 : Int32)) + (μ5.1 2 y2.toNatClampNeg)) 164 then (bd (f_X2_times r7 (μ8.2 14 (((r4 * (4 : Int32)) + (μ5.1 2 y2.toNatClampNeg)).toNatClampNeg)) μ8) fun r9 μ10 => bd (f_X2_plus (μ5.2 15 ((μ5.1 2 y2.toNatClampNeg).toNatClampNeg)) r9 μ10) fun r11 μ12 => if zin (μ5.1 2 y2.toNatClampNeg) 4 then (lp_X2_gatherBySlot_10 c1 n (y2 + 1) (sj μ12 15 ((μ5.1 2 y2.toNatClampNeg).toNatClampNeg) r11) k) else none) else none) else none) else none))
theorem w_X2_gatherBySlot_10 (g : Gx) (c1 : Int32) : ∀ (n : Nat) (y2 : Int32) (μ : Mm) (k : Mm → Option (Unit × Mm)), (∀ (ν : Mm), Zw g ΛC enV RX2 cX2_gatherBySlot 5 none rX2_gatherBySlot 95 [] [] ν (k  ν)) → Zw g ΛC enV RX2 cX2_gatherBySlot 5 none rX2_gatherBySlot 10 [(0, .ref (g.2.2.1 13)), (1, .int c1), (2, .int y2)] [] μ (lp_X2_gatherBySlot_10 c1 n y2 μ k) := by
  intro n
  induction n with
  | zero =>
    intro y2 μ k hk
    exact z_none
  | succ n ih =>
    intro y2 μ k hk
    rw [lp_X2_gatherBySlot_10]
    refine z_iload_n (pc := 10) 2 dX2_gatherBySlot_10 rfl rfl ?_
    refine z_aload_n (pc := 11) 0 dX2_gatherBySlot_11 rfl rfl ?_
    refine z_get (pc := 12) (v := .ref (g.2.2.1 1)) flX2_22 jnX2 ltC_13 kdC_13 rfl (by decide) rfl foC_13_0 rfl dX2_gatherBySlot_12 ?_
    refine z_get (pc := 15) (v := .int (μ.1 1 8)) flX2_72 jnX4 ltC_1 kdC_1 rfl (by decide) rfl foC_1_8 rfl dX2_gatherBySlot_15 ?_
    refine z_icmp_ge (pc := 18) (tgt := 95) dX2_gatherBySlot_18 (by decide) (fun h3 => ?_) (fun h3 => ?_)
    · refine z_sub (lv2 := []) [] rfl ?_
      exact hk _
    · refine z_aload_n (pc := 21) 0 dX2_gatherBySlot_21 rfl rfl ?_
      refine z_get (pc := 22) (v := .ref (g.2.2.1 10)) flX2_26 jnX2 ltC_13 kdC_13 rfl (by decide) rfl foC_13_1 rfl dX2_gatherBySlot_22 ?_
      refine z_iload_n (pc := 25) 1 dX2_gatherBySlot_25 rfl rfl ?_
      refine z_iload_n (pc := 26) 2 dX2_gatherBySlot_26 rfl rfl ?_
      refine z_callV (pc := 27) (b := 10) (As := [.int c1, .int y2]) (rest := []) kX2_75 (m_X0_landingOf g μ c1 y2) ltC_10 kdC_10 rfl rfl ⟨rfl, rfl⟩ ⟨Nat.le_of_ble_eq_true rfl, Nat.le_of_ble_eq_true rfl⟩ (Nat.le_of_ble_eq_true rfl) rfl rfl dX2_gatherBySlot_27 (fun r4 μ5 => ?_)
      change Zw g ΛC enV RX2 cX2_gatherBySlot 5 none rX2_gatherBySlot 30 [(0, .ref (g.2.2.1 13)), (1, .int c1), (2, .int y2)] [.int r4] μ5 _
      refine z_istore_n (pc := 30) (lv2 := [(0, .ref (g.2.2.1 13)), (1, .int c1), (2, .int y2), (3, .int r4)]) [1, 2, 3, 0] dX2_gatherBySlot_30 rfl (by decide) rfl ?_
      refine z_iload_n (pc := 31) 3 dX2_gatherBySlot_31 rfl rfl ?_
      refine z_if_le (pc := 32) (tgt := 89) dX2_gatherBySlot_32 (by decide) (fun h6 => ?_) (fun h6 => ?_)
      · refine z_iinc (pc := 89) (v := y2 + 1) (lv2 := [(0, .ref (g.2.2.1 13)), (1, .int c1), (2, .int (y2 + 1)), (3, .int r4)]) 2 [1, 2, 0, 3] dX2_gatherBySlot_89 rfl (by rw [oi_1]) (by decide) rfl ?_
        refine z_goto (pc := 92) (tgt := 10) dX2_gatherBySlot_92 (by decide) ?_
        refine z_sub (lv2 := [(0, .ref (g.2.2.1 13)), (1, .int c1), (2, .int (y2 + 1))]) [0, 1, 2] rfl ?_
        exact ih _ _ _ hk
      · refine z_aload_n (pc := 35) 0 dX2_gatherBySlot_35 rfl rfl ?_
        refine z_get (pc := 36) (v := .ref (g.2.2.1 1)) flX2_22 jnX2 ltC_13 kdC_13 rfl (by decide) rfl foC_13_0 rfl dX2_gatherBySlot_36 ?_
        refine z_get (pc := 39) (v := .ref (g.2.2.1 2)) flX2_78 jnX4 ltC_1 kdC_1 rfl (by decide) rfl foC_1_0 rfl dX2_gatherBySlot_39 ?_
        refine z_iload_n (pc := 42) 2 dX2_gatherBySlot_42 rfl rfl ?_
        refine z_iaload_g (pc := 43) ltC_2 kdC_2 dX2_gatherBySlot_43 ?_
        refine z_istore (pc := 44) (lv2 := [(0, .ref (g.2.2.1 13)), (1, .int c1), (2, .int y2), (3, .int r4), (4, .int (μ5.1 2 y2.toNatClampNeg))]) [1, 2, 3, 4, 0] dX2_gatherBySlot_44 (by decide) rfl ?_
        refine z_aload_n (pc := 46) 0 dX2_gatherBySlot_46 rfl rfl ?_
        refine z_get (pc := 47) (v := .ref (g.2.2.1 15)) flX2_15 jnX2 ltC_13 kdC_13 rfl (by decide) rfl foC_13_3 rfl dX2_gatherBySlot_47 ?_
        refine z_iload (pc := 50) 4 dX2_gatherBySlot_50 rfl ?_
        refine z_aload_n (pc := 52) 0 dX2_gatherBySlot_52 rfl rfl ?_
        refine z_get (pc := 53) (v := .ref (g.2.2.1 15)) flX2_15 jnX2 ltC_13 kdC_13 rfl (by decide) rfl foC_13_3 rfl dX2_gatherBySlot_53 ?_
        refine z_iload (pc := 56) 4 dX2_gatherBySlot_56 rfl ?_
        refine z_laload_g (pc := 58) ltC_15 kdC_15 dX2_gatherBySlot_58 ?_
        refine z_aload_n (pc := 59) 0 dX2_gatherBySlot_59 rfl rfl ?_
        refine z_get (pc := 60) (v := .ref (g.2.2.1 1)) flX2_22 jnX2 ltC_13 kdC_13 rfl (by decide) rfl foC_13_0 rfl dX2_gatherBySlot_60 ?_
        refine z_aload_n (pc := 63) 0 dX2_gatherBySlot_63 rfl rfl ?_
        refine z_get (pc := 64) (v := .int (μ5.1 13 6)) flX2_30 jnX2 ltC_13 kdC_13 rfl (by decide) rfl foC_13_6 rfl dX2_gatherBySlot_64 ?_
        refine z_iload_n (pc := 67) 2 dX2_gatherBySlot_67 rfl rfl ?_
        refine z_callV (pc := 68) (b := 1) (As := [.int (μ5.1 13 6), .int y2]) (rest := [.long (μ5.2 15 ((μ5.1 2 y2.toNatClampNeg).toNatClampNeg)), .int (μ5.1 2 y2.toNatClampNeg), .ref (g.2.2.1 15)]) kX2_81 (m_X4_factorOf g μ5 (μ5.1 13 6) y2) ltC_1 kdC_1 rfl rfl ⟨rfl, rfl⟩ ⟨Nat.le_of_ble_eq_true rfl, Nat.le_of_ble_eq_true rfl⟩ (Nat.le_of_ble_eq_true rfl) rfl rfl dX2_gatherBySlot_68 (fun r7 μ8 => ?_)
        change Zw g ΛC enV RX2 cX2_gatherBySlot 5 none rX2_gatherBySlot 71 [(0, .ref (g.2.2.1 13)), (1, .int c1), (2, .int y2), (3, .int r4), (4, .int (μ5.1 2 y2.toNatClampNeg))] [.long r7, .long (μ5.2 15 ((μ5.1 2 y2.toNatClampNeg).toNatClampNeg)), .int (μ5.1 2 y2.toNatClampNeg), .ref (g.2.2.1 15)] μ8 _
        refine z_aload_n (pc := 71) 0 dX2_gatherBySlot_71 rfl rfl ?_
        refine z_get (pc := 72) (v := .ref (g.2.2.1 14)) flX2_9 jnX2 ltC_13 kdC_13 rfl (by decide) rfl foC_13_2 rfl dX2_gatherBySlot_72 ?_
        refine z_iload_n (pc := 75) 3 dX2_gatherBySlot_75 rfl rfl ?_
        refine z_iconst (pc := 76) (v := 4) dX2_gatherBySlot_76 rfl ?_
        refine z_imul (pc := 77) dX2_gatherBySlot_77 ?_
        refine z_iload (pc := 78) 4 dX2_gatherBySlot_78 rfl ?_
        refine z_iadd (pc := 80) dX2_gatherBySlot_80 ?_
        refine z_laload_g (pc := 81) ltC_14 kdC_14 dX2_gatherBySlot_81 ?_
        refine z_callS (pc := 82) (As := [.long r7, .long (μ8.2 14 (((r4 * (4 : Int32)) + (μ5.1 2 y2.toNatClampNeg)).toNatClampNeg))]) (rest := [.long (μ5.2 15 ((μ5.1 2 y2.toNatClampNeg).toNatClampNeg)), .int (μ5.1 2 y2.toNatClampNeg), .ref (g.2.2.1 15)]) kX2_85 (m_X2_times g μ8 r7 (μ8.2 14 (((r4 * (4 : Int32)) + (μ5.1 2 y2.toNatClampNeg)).toNatClampNeg))) ⟨rfl, rfl⟩ ⟨Nat.le_of_ble_eq_true rfl, Nat.le_of_ble_eq_true rfl⟩ (Nat.le_of_ble_eq_true rfl) rfl rfl dX2_gatherBySlot_82 (fun r9 μ10 => ?_)
        change Zw g ΛC enV RX2 cX2_gatherBySlot 5 none rX2_gatherBySlot 85 [(0, .ref (g.2.2.1 13)), (1, .int c1), (2, .int y2), (3, .int r4), (4, .int (μ5.1 2 y2.toNatClampNeg))] [.long r9, .long (μ5.2 15 ((μ5.1 2 y2.toNatClampNeg).toNatClampNeg)), .int (μ5.1 2 y2.toNatClampNeg), .ref (g.2.2.1 15)] μ10 _
        refine z_callS (pc := 85) (As := [.long (μ5.2 15 ((μ5.1 2 y2.toNatClampNeg).toNatClampNeg)), .long r9]) (rest := [.int (μ5.1 2 y2.toNatClampNeg), .ref (g.2.2.1 15)]) kX2_62 (m_X2_plus g μ10 (μ5.2 15 ((μ5.1 2 y2.toNatClampNeg).toNatClampNeg)) r9) ⟨rfl, rfl⟩ ⟨Nat.le_of_ble_eq_true rfl, Nat.le_of_ble_eq_true rfl⟩ (Nat.le_of_ble_eq_true rfl) rfl rfl dX2_gatherBySlot_85 (fun r11 μ12 => ?_)
        change Zw g ΛC enV RX2 cX2_gatherBySlot 5 none rX2_gatherBySlot 88 [(0, .ref (g.2.2.1 13)), (1, .int c1), (2, .int y2), (3, .int r4), (4, .int (μ5.1 2 y2.toNatClampNeg))] [.long r11, .int (μ5.1 2 y2.toNatClampNeg), .ref (g.2.2.1 15)] μ12 _
        refine z_lastore_g (pc := 88) ltC_15 kdC_15 dX2_gatherBySlot_88 ?_
        refine z_iinc (pc := 89) (v := y2 + 1) (lv2 := [(0, .ref (g.2.2.1 13)), (1, .int c1), (2, .int (y2 + 1)), (3, .int r4), (4, .int (μ5.1 2 y2.toNatClampNeg))]) 2 [1, 2, 0, 3, 4] dX2_gatherBySlot_89 rfl (by rw [oi_1]) (by decide) rfl ?_
        refine z_goto (pc := 92) (tgt := 10) dX2_gatherBySlot_92 (by decide) ?_
        refine z_sub (lv2 := [(0, .ref (g.2.2.1 13)), (1, .int c1), (2, .int (y2 + 1))]) [0, 1, 2] rfl ?_
        exact ih _ _ _ hk
def f_X2_gatherBySlot (a1 : Int32) (μ : Mm) : Option (Unit × Mm) := bd (f_J7_fill_d0a16 (0 : Int64) μ) fun r1 μ2 => lp_X2_gatherBySlot_10 a1 FU (0 : Int32) μ2 (fun  μ13 => some ((), μ13))
theorem m_X2_gatherBySlot (g : Gx) (μ : Mm) (a1 : Int32) : Zm g ΛC enV yX2_gatherBySlot cX2_gatherBySlot 5 none rX2_gatherBySlot [.ref (g.2.2.1 13), .int a1] μ (f_X2_gatherBySlot a1 μ) := by
  refine z_met (by decide +kernel) (Nat.le_of_ble_eq_true rfl) ?_
  change Zw g ΛC enV RX2 cX2_gatherBySlot 5 none rX2_gatherBySlot 0 [(0, .ref (g.2.2.1 13)), (1, .int a1)] [] μ (f_X2_gatherBySlot a1 μ)
  rw [f_X2_gatherBySlot]
  refine z_aload_n (pc := 0) 0 dX2_gatherBySlot_0 rfl rfl ?_
  refine z_get (pc := 1) (v := .ref (g.2.2.1 15)) flX2_15 jnX2 ltC_13 kdC_13 rfl (by decide) rfl foC_13_3 rfl dX2_gatherBySlot_1 ?_
  refine z_lconst (pc := 4) (v := 0) dX2_gatherBySlot_4 (by decide +kernel) ?_
  refine z_callS (pc := 5) (As := [.ref (g.2.2.1 15), .long (0 : Int64)]) (rest := []) kX2_66 (m_J7_fill_d0a16 g μ (0 : Int64)) ⟨rfl, rfl⟩ ⟨Nat.le_of_ble_eq_true rfl, Nat.le_of_ble_eq_true rfl⟩ (Nat.le_of_ble_eq_true rfl) rfl rfl dX2_gatherBySlot_5 (fun r1 μ2 => ?_)
  change Zw g ΛC enV RX2 cX2_gatherBySlot 5 none rX2_gatherBySlot 8 [(0, .ref (g.2.2.1 13)), (1, .int a1)] [] μ2 _
  refine z_iconst (pc := 8) (v := 0) dX2_gatherBySlot_8 rfl ?_
  refine z_istore_n (pc := 9) (lv2 := [(0, .ref (g.2.2.1 13)), (1, .int a1), (2, .int (0 : Int32))]) [1, 2, 0] dX2_gatherBySlot_9 rfl (by decide) rfl ?_
  refine w_X2_gatherBySlot_10 g a1 FU (0 : Int32) μ2 _ (fun  μ13 => ?_)
  exact z_vret dX2_gatherBySlot_95
def lp_X2_fillPlace_28 (c1 : Int32) (c2 : Int32) (c5 : Int32) : Nat → Int64 → Int32 → Mm → (Int64 → Mm → Option (Int32 × Mm)) → Option (Int32 × Mm)
  | 0, _, _, _, _ => none
  | n + 1, y3, y6, μ, k => if (4 : Int32) ≤ y6 then (k y3 μ) else (bd (f_X6_holds c5 y6 μ) fun r7 μ8 => if r7 = 0 then (lp_X2_fillPlace_28 c1 c2 c5 n y3 (y6 + 1) μ8 k) else (if zin y6 4 then (bd (f_X2_plus y3 (μ8.2 15 y6.toNatClampNeg) μ8) fun r10 μ11 => lp_X2_fillPlace_28 c1 c2 c5 n r10 (y6 + 1) μ11 k) else none))
theorem w_X2_fillPlace_28 (g : Gx) (c1 : Int32) (c2 : Int32) (c5 : Int32) : ∀ (n : Nat) (y3 : Int64) (y6 : Int32) (μ : Mm) (k : Int64 → Mm → Option (Int32 × Mm)), (∀ (z3 : Int64) (ν : Mm), Zw g ΛC enI RX2 cX2_fillPlace 7 (some .boolean) rX2_fillPlace 62 [(0, .ref (g.2.2.1 13)), (1, .int c1), (2, .int c2), (3, .long z3)] [] ν (k z3 ν)) → Zw g ΛC enI RX2 cX2_fillPlace 7 (some .boolean) rX2_fillPlace 28 [(0, .ref (g.2.2.1 13)), (1, .int c1), (2, .int c2), (3, .long y3), (5, .int c5), (6, .int y6)] [] μ (lp_X2_fillPlace_28 c1 c2 c5 n y3 y6 μ k) := by
  intro n
  induction n with
  | zero =>
    intro y3 y6 μ k hk
    exact z_none
  | succ n ih =>
    intro y3 y6 μ k hk
    rw [lp_X2_fillPlace_28]
    refine z_iload (pc := 28) 5 dX2_fillPlace_28 rfl ?_
    refine z_iconst (pc := 30) (v := 4) dX2_fillPlace_30 rfl ?_
    refine z_icmp_ge (pc := 31) (tgt := 62) dX2_fillPlace_31 (by decide) (fun h6 => ?_) (fun h6 => ?_)
    · refine z_sub (lv2 := [(0, .ref (g.2.2.1 13)), (1, .int c1), (2, .int c2), (3, .long y3)]) [0, 1, 2, 3] rfl ?_
      exact hk _ _
    · refine z_iload (pc := 34) 4 dX2_fillPlace_34 rfl ?_
      refine z_iload (pc := 36) 5 dX2_fillPlace_36 rfl ?_
      refine z_callSN (pc := 38) (As := [.int c5, .int y6]) (rest := []) kX2_44 (m_X6_holds g μ c5 y6) ⟨rfl, rfl⟩ ⟨Nat.le_of_ble_eq_true rfl, Nat.le_of_ble_eq_true rfl⟩ (Nat.le_of_ble_eq_true rfl) rfl rfl dX2_fillPlace_38 (fun r7 μ8 => ?_)
      change Zw g ΛC enI RX2 cX2_fillPlace 7 (some .boolean) rX2_fillPlace 41 [(0, .ref (g.2.2.1 13)), (1, .int c1), (2, .int c2), (3, .long y3), (5, .int c5), (6, .int y6)] [.int r7] μ8 _
      refine z_if_eq (pc := 41) (tgt := 56) dX2_fillPlace_41 (by decide) (fun h9 => ?_) (fun h9 => ?_)
      · refine z_iinc (pc := 56) (v := y6 + 1) (lv2 := [(0, .ref (g.2.2.1 13)), (1, .int c1), (2, .int c2), (3, .long y3), (5, .int c5), (6, .int (y6 + 1))]) 5 [1, 2, 3, 4, 5, 0] dX2_fillPlace_56 rfl (by rw [oi_1]) (by decide) rfl ?_
        refine z_goto (pc := 59) (tgt := 28) dX2_fillPlace_59 (by decide) ?_
        exact ih _ _ _ _ hk
      · refine z_lload_n (pc := 44) 3 dX2_fillPlace_44 rfl rfl ?_
        refine z_aload_n (pc := 45) 0 dX2_fillPlace_45 rfl rfl ?_
        refine z_get (pc := 46) (v := .ref (g.2.2.1 15)) flX2_15 jnX2 ltC_13 kdC_13 rfl (by decide) rfl foC_13_3 rfl dX2_fillPlace_46 ?_
        refine z_iload (pc := 49) 5 dX2_fillPlace_49 rfl ?_
        refine z_laload_g (pc := 51) ltC_15 kdC_15 dX2_fillPlace_51 ?_
        refine z_callS (pc := 52) (As := [.long y3, .long (μ8.2 15 y6.toNatClampNeg)]) (rest := []) kX2_62 (m_X2_plus g μ8 y3 (μ8.2 15 y6.toNatClampNeg)) ⟨rfl, rfl⟩ ⟨Nat.le_of_ble_eq_true rfl, Nat.le_of_ble_eq_true rfl⟩ (Nat.le_of_ble_eq_true rfl) rfl rfl dX2_fillPlace_52 (fun r10 μ11 => ?_)
        change Zw g ΛC enI RX2 cX2_fillPlace 7 (some .boolean) rX2_fillPlace 55 [(0, .ref (g.2.2.1 13)), (1, .int c1), (2, .int c2), (3, .long y3), (5, .int c5), (6, .int y6)] [.long r10] μ11 _
        refine z_lstore_n (pc := 55) (lv2 := [(0, .ref (g.2.2.1 13)), (1, .int c1), (2, .int c2), (3, .long r10), (5, .int c5), (6, .int y6)]) [1, 2, 3, 0, 4, 5] dX2_fillPlace_55 rfl (by decide) rfl ?_
        refine z_iinc (pc := 56) (v := y6 + 1) (lv2 := [(0, .ref (g.2.2.1 13)), (1, .int c1), (2, .int c2), (3, .long r10), (5, .int c5), (6, .int (y6 + 1))]) 5 [1, 2, 3, 4, 5, 0] dX2_fillPlace_56 rfl (by rw [oi_1]) (by decide) rfl ?_
        refine z_goto (pc := 59) (tgt := 28) dX2_fillPlace_59 (by decide) ?_
        exact ih _ _ _ _ hk
def lp_X2_fillPlace_7 (c1 : Int32) : Nat → Int32 → Mm → (Mm → Option (Int32 × Mm)) → Option (Int32 × Mm)
  | 0, _, _, _ => none
  | n + 1, y2, μ, k => if (4 : Int32) ≤ y2 then (k  μ) else (bd (f_X4_setAfter c1 y2 μ) fun r4 μ5 => lp_X2_fillPlace_28 c1 y2 r4 FU (0 : Int64) (0 : Int32) μ5 (fun x12 μ13 => if (0 : Int64) ≤ x12 then (if zin ((c1 * (4 : Int32)) + y2) 164 then (lp_X2_fillPlace_7 c1 n (y2 + 1) (sj μ13 14 (((c1 * (4 : Int32)) + y2).toNatClampNeg) x12) k) else none) else (some ((0 : Int32), μ13))))
theorem w_X2_fillPlace_7 (g : Gx) (c1 : Int32) : ∀ (n : Nat) (y2 : Int32) (μ : Mm) (k : Mm → Option (Int32 × Mm)), (∀ (ν : Mm), Zw g ΛC enI RX2 cX2_fillPlace 7 (some .boolean) rX2_fillPlace 87 [] [] ν (k  ν)) → Zw g ΛC enI RX2 cX2_fillPlace 7 (some .boolean) rX2_fillPlace 7 [(0, .ref (g.2.2.1 13)), (1, .int c1), (2, .int y2)] [] μ (lp_X2_fillPlace_7 c1 n y2 μ k) := by
  intro n
  induction n with
  | zero =>
    intro y2 μ k hk
    exact z_none
  | succ n ih =>
    intro y2 μ k hk
    rw [lp_X2_fillPlace_7]
    refine z_iload_n (pc := 7) 2 dX2_fillPlace_7 rfl rfl ?_
    refine z_iconst (pc := 8) (v := 4) dX2_fillPlace_8 rfl ?_
    refine z_icmp_ge (pc := 9) (tgt := 87) dX2_fillPlace_9 (by decide) (fun h3 => ?_) (fun h3 => ?_)
    · refine z_sub (lv2 := []) [] rfl ?_
      exact hk _
    · refine z_lconst (pc := 12) (v := 0) dX2_fillPlace_12 (by decide +kernel) ?_
      refine z_lstore_n (pc := 13) (lv2 := [(0, .ref (g.2.2.1 13)), (1, .int c1), (2, .int y2), (3, .long (0 : Int64))]) [1, 2, 3, 0] dX2_fillPlace_13 rfl (by decide) rfl ?_
      refine z_aload_n (pc := 14) 0 dX2_fillPlace_14 rfl rfl ?_
      refine z_get (pc := 15) (v := .ref (g.2.2.1 1)) flX2_22 jnX2 ltC_13 kdC_13 rfl (by decide) rfl foC_13_0 rfl dX2_fillPlace_15 ?_
      refine z_iload_n (pc := 18) 1 dX2_fillPlace_18 rfl rfl ?_
      refine z_iload_n (pc := 19) 2 dX2_fillPlace_19 rfl rfl ?_
      refine z_callV (pc := 20) (b := 1) (As := [.int c1, .int y2]) (rest := []) kX2_58 (m_X4_setAfter g μ c1 y2) ltC_1 kdC_1 rfl rfl ⟨rfl, rfl⟩ ⟨Nat.le_of_ble_eq_true rfl, Nat.le_of_ble_eq_true rfl⟩ (Nat.le_of_ble_eq_true rfl) rfl rfl dX2_fillPlace_20 (fun r4 μ5 => ?_)
      change Zw g ΛC enI RX2 cX2_fillPlace 7 (some .boolean) rX2_fillPlace 23 [(0, .ref (g.2.2.1 13)), (1, .int c1), (2, .int y2), (3, .long (0 : Int64))] [.int r4] μ5 _
      refine z_istore (pc := 23) (lv2 := [(0, .ref (g.2.2.1 13)), (1, .int c1), (2, .int y2), (3, .long (0 : Int64)), (5, .int r4)]) [1, 2, 3, 4, 0] dX2_fillPlace_23 (by decide) rfl ?_
      refine z_iconst (pc := 25) (v := 0) dX2_fillPlace_25 rfl ?_
      refine z_istore (pc := 26) (lv2 := [(0, .ref (g.2.2.1 13)), (1, .int c1), (2, .int y2), (3, .long (0 : Int64)), (5, .int r4), (6, .int (0 : Int32))]) [1, 2, 3, 4, 5, 0] dX2_fillPlace_26 (by decide) rfl ?_
      refine w_X2_fillPlace_28 g c1 y2 r4 FU (0 : Int64) (0 : Int32) μ5 _ (fun x12 μ13 => ?_)
      refine z_lload_n (pc := 62) 3 dX2_fillPlace_62 rfl rfl ?_
      refine z_lconst (pc := 63) (v := 0) dX2_fillPlace_63 (by decide +kernel) ?_
      refine z_lcmp_ge (pc := 64) (tgt := 70) dX2_fillPlace_64 dX2_fillPlace_65 (by decide) (fun h14 => ?_) (fun h14 => ?_)
      · refine z_aload_n (pc := 70) 0 dX2_fillPlace_70 rfl rfl ?_
        refine z_get (pc := 71) (v := .ref (g.2.2.1 14)) flX2_9 jnX2 ltC_13 kdC_13 rfl (by decide) rfl foC_13_2 rfl dX2_fillPlace_71 ?_
        refine z_iload_n (pc := 74) 1 dX2_fillPlace_74 rfl rfl ?_
        refine z_iconst (pc := 75) (v := 4) dX2_fillPlace_75 rfl ?_
        refine z_imul (pc := 76) dX2_fillPlace_76 ?_
        refine z_iload_n (pc := 77) 2 dX2_fillPlace_77 rfl rfl ?_
        refine z_iadd (pc := 78) dX2_fillPlace_78 ?_
        refine z_lload_n (pc := 79) 3 dX2_fillPlace_79 rfl rfl ?_
        refine z_lastore_g (pc := 80) ltC_14 kdC_14 dX2_fillPlace_80 ?_
        refine z_iinc (pc := 81) (v := y2 + 1) (lv2 := [(0, .ref (g.2.2.1 13)), (1, .int c1), (2, .int (y2 + 1)), (3, .long x12)]) 2 [1, 2, 0, 3] dX2_fillPlace_81 rfl (by rw [oi_1]) (by decide) rfl ?_
        refine z_goto (pc := 84) (tgt := 7) dX2_fillPlace_84 (by decide) ?_
        refine z_sub (lv2 := [(0, .ref (g.2.2.1 13)), (1, .int c1), (2, .int (y2 + 1))]) [0, 1, 2] rfl ?_
        exact ih _ _ _ hk
      · refine z_iconst (pc := 68) (v := 0) dX2_fillPlace_68 rfl ?_
        exact z_zret dX2_fillPlace_69 (by decide)
def f_X2_fillPlace (a1 : Int32) (μ : Mm) : Option (Int32 × Mm) := bd (f_X2_gatherBySlot a1 μ) fun r1 μ2 => lp_X2_fillPlace_7 a1 FU (0 : Int32) μ2 (fun  μ15 => some ((1 : Int32), μ15))
theorem m_X2_fillPlace (g : Gx) (μ : Mm) (a1 : Int32) : Zm g ΛC enI yX2_fillPlace cX2_fillPlace 7 (some .boolean) rX2_fillPlace [.ref (g.2.2.1 13), .int a1] μ (f_X2_fillPlace a1 μ) := by
  refine z_met (by decide +kernel) (Nat.le_of_ble_eq_true rfl) ?_
  change Zw g ΛC enI RX2 cX2_fillPlace 7 (some .boolean) rX2_fillPlace 0 [(0, .ref (g.2.2.1 13)), (1, .int a1)] [] μ (f_X2_fillPlace a1 μ)
  rw [f_X2_fillPlace]
  refine z_aload_n (pc := 0) 0 dX2_fillPlace_0 rfl rfl ?_
  refine z_iload_n (pc := 1) 1 dX2_fillPlace_1 rfl rfl ?_
  refine z_callV (pc := 2) (b := 13) (As := [.int a1]) (rest := []) kX2_54 (m_X2_gatherBySlot g μ a1) ltC_13 kdC_13 rfl rfl ⟨rfl, rfl⟩ ⟨Nat.le_of_ble_eq_true rfl, Nat.le_of_ble_eq_true rfl⟩ (Nat.le_of_ble_eq_true rfl) rfl rfl dX2_fillPlace_2 (fun r1 μ2 => ?_)
  change Zw g ΛC enI RX2 cX2_fillPlace 7 (some .boolean) rX2_fillPlace 5 [(0, .ref (g.2.2.1 13)), (1, .int a1)] [] μ2 _
  refine z_iconst (pc := 5) (v := 0) dX2_fillPlace_5 rfl ?_
  refine z_istore_n (pc := 6) (lv2 := [(0, .ref (g.2.2.1 13)), (1, .int a1), (2, .int (0 : Int32))]) [1, 2, 0] dX2_fillPlace_6 rfl (by decide) rfl ?_
  refine w_X2_fillPlace_7 g a1 FU (0 : Int32) μ2 _ (fun  μ15 => ?_)
  refine z_iconst (pc := 87) (v := 1) dX2_fillPlace_87 rfl ?_
  exact z_zret dX2_fillPlace_88 (by decide)
def lp_X2_countAll_20 : Nat → Int32 → Mm → (Mm → Option (Int64 × Mm)) → Option (Int64 × Mm)
  | 0, _, _, _ => none
  | n + 1, y2, μ, k => if (4 : Int32) ≤ y2 then (k  μ) else (bd (f_X6_holds (μ.1 1 12) y2 μ) fun r3 μ4 => if r3 = 0 then (if zin (((μ.1 10 3) * (4 : Int32)) + y2) 164 then (lp_X2_countAll_20 n (y2 + 1) (sj μ4 14 ((((μ.1 10 3) * (4 : Int32)) + y2).toNatClampNeg) (0 : Int64)) k) else none) else (if zin (((μ.1 10 3) * (4 : Int32)) + y2) 164 then (lp_X2_countAll_20 n (y2 + 1) (sj μ4 14 ((((μ.1 10 3) * (4 : Int32)) + y2).toNatClampNeg) (1 : Int64)) k) else none))
theorem w_X2_countAll_20 (g : Gx) : ∀ (n : Nat) (y2 : Int32) (μ : Mm) (k : Mm → Option (Int64 × Mm)), (∀ (ν : Mm), Zw g ΛC enJ RX2 cX2_countAll 3 (some .long) rX2_countAll 66 [(0, .ref (g.2.2.1 13))] [] ν (k  ν)) → Zw g ΛC enJ RX2 cX2_countAll 3 (some .long) rX2_countAll 20 [(0, .ref (g.2.2.1 13)), (2, .int y2)] [] μ (lp_X2_countAll_20 n y2 μ k) := by
  intro n
  induction n with
  | zero =>
    intro y2 μ k hk
    exact z_none
  | succ n ih =>
    intro y2 μ k hk
    rw [lp_X2_countAll_20]
    refine z_iload_n (pc := 20) 1 dX2_countAll_20 rfl rfl ?_
    refine z_iconst (pc := 21) (v := 4) dX2_countAll_21 rfl ?_
    refine z_icmp_ge (pc := 22) (tgt := 66) dX2_countAll_22 (by decide) (fun h2 => ?_) (fun h2 => ?_)
    · refine z_sub (lv2 := [(0, .ref (g.2.2.1 13))]) [0] rfl ?_
      exact hk _
    · refine z_aload_n (pc := 25) 0 dX2_countAll_25 rfl rfl ?_
      refine z_get (pc := 26) (v := .ref (g.2.2.1 14)) flX2_9 jnX2 ltC_13 kdC_13 rfl (by decide) rfl foC_13_2 rfl dX2_countAll_26 ?_
      refine z_aload_n (pc := 29) 0 dX2_countAll_29 rfl rfl ?_
      refine z_get (pc := 30) (v := .ref (g.2.2.1 10)) flX2_26 jnX2 ltC_13 kdC_13 rfl (by decide) rfl foC_13_1 rfl dX2_countAll_30 ?_
      refine z_get (pc := 33) (v := .int (μ.1 10 3)) flX2_34 jnX0 ltC_10 kdC_10 rfl (by decide) rfl foC_10_3 rfl dX2_countAll_33 ?_
      refine z_iconst (pc := 36) (v := 4) dX2_countAll_36 rfl ?_
      refine z_imul (pc := 37) dX2_countAll_37 ?_
      refine z_iload_n (pc := 38) 1 dX2_countAll_38 rfl rfl ?_
      refine z_iadd (pc := 39) dX2_countAll_39 ?_
      refine z_aload_n (pc := 40) 0 dX2_countAll_40 rfl rfl ?_
      refine z_get (pc := 41) (v := .ref (g.2.2.1 1)) flX2_22 jnX2 ltC_13 kdC_13 rfl (by decide) rfl foC_13_0 rfl dX2_countAll_41 ?_
      refine z_get (pc := 44) (v := .int (μ.1 1 12)) flX2_39 jnX4 ltC_1 kdC_1 rfl (by decide) rfl foC_1_12 rfl dX2_countAll_44 ?_
      refine z_iload_n (pc := 47) 1 dX2_countAll_47 rfl rfl ?_
      refine z_callSN (pc := 48) (As := [.int (μ.1 1 12), .int y2]) (rest := [.int (((μ.1 10 3) * (4 : Int32)) + y2), .ref (g.2.2.1 14)]) kX2_44 (m_X6_holds g μ (μ.1 1 12) y2) ⟨rfl, rfl⟩ ⟨Nat.le_of_ble_eq_true rfl, Nat.le_of_ble_eq_true rfl⟩ (Nat.le_of_ble_eq_true rfl) rfl rfl dX2_countAll_48 (fun r3 μ4 => ?_)
      change Zw g ΛC enJ RX2 cX2_countAll 3 (some .long) rX2_countAll 51 [(0, .ref (g.2.2.1 13)), (2, .int y2)] [.int r3, .int (((μ.1 10 3) * (4 : Int32)) + y2), .ref (g.2.2.1 14)] μ4 _
      refine z_if_eq (pc := 51) (tgt := 58) dX2_countAll_51 (by decide) (fun h5 => ?_) (fun h5 => ?_)
      · refine z_lconst (pc := 58) (v := 0) dX2_countAll_58 (by decide +kernel) ?_
        refine z_lastore_g (pc := 59) ltC_14 kdC_14 dX2_countAll_59 ?_
        refine z_iinc (pc := 60) (v := y2 + 1) (lv2 := [(0, .ref (g.2.2.1 13)), (2, .int (y2 + 1))]) 1 [1, 0] dX2_countAll_60 rfl (by rw [oi_1]) (by decide) rfl ?_
        refine z_goto (pc := 63) (tgt := 20) dX2_countAll_63 (by decide) ?_
        exact ih _ _ _ hk
      · refine z_lconst (pc := 54) (v := 1) dX2_countAll_54 (by decide +kernel) ?_
        refine z_goto (pc := 55) (tgt := 59) dX2_countAll_55 (by decide) ?_
        refine z_lastore_g (pc := 59) ltC_14 kdC_14 dX2_countAll_59 ?_
        refine z_iinc (pc := 60) (v := y2 + 1) (lv2 := [(0, .ref (g.2.2.1 13)), (2, .int (y2 + 1))]) 1 [1, 0] dX2_countAll_60 rfl (by rw [oi_1]) (by decide) rfl ?_
        refine z_goto (pc := 63) (tgt := 20) dX2_countAll_63 (by decide) ?_
        exact ih _ _ _ hk
def lp_X2_countAll_76 : Nat → Int32 → Mm → (Mm → Option (Int64 × Mm)) → Option (Int64 × Mm)
  | 0, _, _, _ => none
  | n + 1, y2, μ, k => if y2 < 0 then (k  μ) else (bd (f_X2_fillPlace y2 μ) fun r8 μ9 => if r8 = 0 then (some ((-5 : Int64), μ9)) else (lp_X2_countAll_76 n (y2 + -1) μ9 k))
theorem w_X2_countAll_76 (g : Gx) : ∀ (n : Nat) (y2 : Int32) (μ : Mm) (k : Mm → Option (Int64 × Mm)), (∀ (ν : Mm), Zw g ΛC enJ RX2 cX2_countAll 3 (some .long) rX2_countAll 98 [(0, .ref (g.2.2.1 13))] [] ν (k  ν)) → Zw g ΛC enJ RX2 cX2_countAll 3 (some .long) rX2_countAll 76 [(0, .ref (g.2.2.1 13)), (2, .int y2)] [] μ (lp_X2_countAll_76 n y2 μ k) := by
  intro n
  induction n with
  | zero =>
    intro y2 μ k hk
    exact z_none
  | succ n ih =>
    intro y2 μ k hk
    rw [lp_X2_countAll_76]
    refine z_iload_n (pc := 76) 1 dX2_countAll_76 rfl rfl ?_
    refine z_if_lt (pc := 77) (tgt := 98) dX2_countAll_77 (by decide) (fun h7 => ?_) (fun h7 => ?_)
    · refine z_sub (lv2 := [(0, .ref (g.2.2.1 13))]) [0] rfl ?_
      exact hk _
    · refine z_aload_n (pc := 80) 0 dX2_countAll_80 rfl rfl ?_
      refine z_iload_n (pc := 81) 1 dX2_countAll_81 rfl rfl ?_
      refine z_callV (pc := 82) (b := 13) (As := [.int y2]) (rest := []) kX2_48 (m_X2_fillPlace g μ y2) ltC_13 kdC_13 rfl rfl ⟨rfl, rfl⟩ ⟨Nat.le_of_ble_eq_true rfl, Nat.le_of_ble_eq_true rfl⟩ (Nat.le_of_ble_eq_true rfl) rfl rfl dX2_countAll_82 (fun r8 μ9 => ?_)
      change Zw g ΛC enJ RX2 cX2_countAll 3 (some .long) rX2_countAll 85 [(0, .ref (g.2.2.1 13)), (2, .int y2)] [.int r8] μ9 _
      refine z_if_ne (pc := 85) (tgt := 92) dX2_countAll_85 (by decide) (fun h10 => ?_) (fun h10 => ?_)
      · refine z_iinc (pc := 92) (v := y2 + -1) (lv2 := [(0, .ref (g.2.2.1 13)), (2, .int (y2 + -1))]) 1 [1, 0] dX2_countAll_92 rfl (by rw [oi_n1]) (by decide) rfl ?_
        refine z_goto (pc := 95) (tgt := 76) dX2_countAll_95 (by decide) ?_
        exact ih _ _ _ hk
      · refine z_ldc2 (pc := 88) (v := -5) klX2_52 dX2_countAll_88 ?_
        exact z_lret dX2_countAll_91
def f_X2_countAll (a1 : Int32) (μ : Mm) : Option (Int64 × Mm) := if (1 : Int32) ≤ (μ.1 10 3) then (lp_X2_countAll_20 FU (0 : Int32) (si μ 13 6 a1) (fun  μ6 => lp_X2_countAll_76 FU ((μ6.1 10 3) - (1 : Int32)) μ6 (fun  μ11 => some (μ11.2 14 0, μ11)))) else (some ((0 : Int64), (si μ 13 6 a1)))
theorem m_X2_countAll (g : Gx) (μ : Mm) (a1 : Int32) : Zm g ΛC enJ yX2_countAll cX2_countAll 3 (some .long) rX2_countAll [.ref (g.2.2.1 13), .int a1] μ (f_X2_countAll a1 μ) := by
  refine z_met (by decide +kernel) (Nat.le_of_ble_eq_true rfl) ?_
  change Zw g ΛC enJ RX2 cX2_countAll 3 (some .long) rX2_countAll 0 [(0, .ref (g.2.2.1 13)), (1, .int a1)] [] μ (f_X2_countAll a1 μ)
  rw [f_X2_countAll]
  refine z_aload_n (pc := 0) 0 dX2_countAll_0 rfl rfl ?_
  refine z_iload_n (pc := 1) 1 dX2_countAll_1 rfl rfl ?_
  refine z_puti (x := (0, 0)) (pc := 2) flX2_30 jnX2 tyX2 tyX2_ok nmX2 ltC_13 kdC_13 rfl (by decide) rfl foC_13_6 rfl ⟨rfl, rfl⟩ dX2_countAll_2 ?_
  refine z_aload_n (pc := 5) 0 dX2_countAll_5 rfl rfl ?_
  refine z_get (pc := 6) (v := .ref (g.2.2.1 10)) flX2_26 jnX2 ltC_13 kdC_13 rfl (by decide) rfl foC_13_1 rfl dX2_countAll_6 ?_
  refine z_get (pc := 9) (v := .int (μ.1 10 3)) flX2_34 jnX0 ltC_10 kdC_10 rfl (by decide) rfl foC_10_3 rfl dX2_countAll_9 ?_
  refine z_iconst (pc := 12) (v := 1) dX2_countAll_12 rfl ?_
  refine z_icmp_ge (pc := 13) (tgt := 18) dX2_countAll_13 (by decide) (fun h1 => ?_) (fun h1 => ?_)
  · refine z_iconst (pc := 18) (v := 0) dX2_countAll_18 rfl ?_
    refine z_istore_n (pc := 19) (lv2 := [(0, .ref (g.2.2.1 13)), (1, .int a1), (2, .int (0 : Int32))]) [1, 2, 0] dX2_countAll_19 rfl (by decide) rfl ?_
    refine z_sub (lv2 := [(0, .ref (g.2.2.1 13)), (2, .int (0 : Int32))]) [0, 2] rfl ?_
    refine w_X2_countAll_20 g FU (0 : Int32) (si μ 13 6 a1) _ (fun  μ6 => ?_)
    refine z_aload_n (pc := 66) 0 dX2_countAll_66 rfl rfl ?_
    refine z_get (pc := 67) (v := .ref (g.2.2.1 10)) flX2_26 jnX2 ltC_13 kdC_13 rfl (by decide) rfl foC_13_1 rfl dX2_countAll_67 ?_
    refine z_get (pc := 70) (v := .int (μ6.1 10 3)) flX2_34 jnX0 ltC_10 kdC_10 rfl (by decide) rfl foC_10_3 rfl dX2_countAll_70 ?_
    refine z_iconst (pc := 73) (v := 1) dX2_countAll_73 rfl ?_
    refine z_isub (pc := 74) dX2_countAll_74 ?_
    refine z_istore_n (pc := 75) (lv2 := [(0, .ref (g.2.2.1 13)), (2, .int ((μ6.1 10 3) - (1 : Int32)))]) [1, 0] dX2_countAll_75 rfl (by decide) rfl ?_
    refine w_X2_countAll_76 g FU ((μ6.1 10 3) - (1 : Int32)) μ6 _ (fun  μ11 => ?_)
    refine z_aload_n (pc := 98) 0 dX2_countAll_98 rfl rfl ?_
    refine z_get (pc := 99) (v := .ref (g.2.2.1 14)) flX2_9 jnX2 ltC_13 kdC_13 rfl (by decide) rfl foC_13_2 rfl dX2_countAll_99 ?_
    refine z_iconst (pc := 102) (v := 0) dX2_countAll_102 rfl ?_
    refine z_laload (pc := 103) (j := 0) ltC_14 kdC_14 (by decide +kernel) (by decide +kernel) dX2_countAll_103 ?_
    exact z_lret dX2_countAll_104
  · refine z_lconst (pc := 16) (v := 0) dX2_countAll_16 (by decide +kernel) ?_
    exact z_lret dX2_countAll_17
def f_X2_shareOf (a1 : Int32) (a2 : Int32) (a3 : Int32) (μ : Mm) : Option (Int64 × Mm) := bd (f_X0_landingOf a1 a3 μ) fun r1 μ2 => if r1 < (1 : Int32) then (some ((0 : Int64), μ2)) else (bd (f_X4_setAfter a1 a2 μ2) fun r4 μ5 => if zin a3 12 then (bd (f_X6_holds r4 (μ5.1 2 a3.toNatClampNeg) μ5) fun r6 μ7 => if r6 = 0 then (some ((0 : Int64), μ7)) else (bd (f_X4_factorOf (μ7.1 13 6) a3 μ7) fun r9 μ10 => if zin a3 12 then (if zin ((r1 * (4 : Int32)) + (μ10.1 2 a3.toNatClampNeg)) 164 then (bd (f_X2_times r9 (μ10.2 14 (((r1 * (4 : Int32)) + (μ10.1 2 a3.toNatClampNeg)).toNatClampNeg)) μ10) fun r11 μ12 => some (r11, μ12)) else none) else none)) else none)
theorem m_X2_shareOf (g : Gx) (μ : Mm) (a1 : Int32) (a2 : Int32) (a3 : Int32) : Zm g ΛC enJ yX2_shareOf cX2_shareOf 5 (some .long) rX2_shareOf [.ref (g.2.2.1 13), .int a1, .int a2, .int a3] μ (f_X2_shareOf a1 a2 a3 μ) := by
  refine z_met (by decide +kernel) (Nat.le_of_ble_eq_true rfl) ?_
  change Zw g ΛC enJ RX2 cX2_shareOf 5 (some .long) rX2_shareOf 0 [(0, .ref (g.2.2.1 13)), (1, .int a1), (2, .int a2), (3, .int a3)] [] μ (f_X2_shareOf a1 a2 a3 μ)
  rw [f_X2_shareOf]
  refine z_aload_n (pc := 0) 0 dX2_shareOf_0 rfl rfl ?_
  refine z_get (pc := 1) (v := .ref (g.2.2.1 10)) flX2_26 jnX2 ltC_13 kdC_13 rfl (by decide) rfl foC_13_1 rfl dX2_shareOf_1 ?_
  refine z_iload_n (pc := 4) 1 dX2_shareOf_4 rfl rfl ?_
  refine z_iload_n (pc := 5) 3 dX2_shareOf_5 rfl rfl ?_
  refine z_callV (pc := 6) (b := 10) (As := [.int a1, .int a3]) (rest := []) kX2_75 (m_X0_landingOf g μ a1 a3) ltC_10 kdC_10 rfl rfl ⟨rfl, rfl⟩ ⟨Nat.le_of_ble_eq_true rfl, Nat.le_of_ble_eq_true rfl⟩ (Nat.le_of_ble_eq_true rfl) rfl rfl dX2_shareOf_6 (fun r1 μ2 => ?_)
  change Zw g ΛC enJ RX2 cX2_shareOf 5 (some .long) rX2_shareOf 9 [(0, .ref (g.2.2.1 13)), (1, .int a1), (2, .int a2), (3, .int a3)] [.int r1] μ2 _
  refine z_istore (pc := 9) (lv2 := [(0, .ref (g.2.2.1 13)), (1, .int a1), (2, .int a2), (3, .int a3), (4, .int r1)]) [1, 2, 3, 4, 0] dX2_shareOf_9 (by decide) rfl ?_
  refine z_iload (pc := 11) 4 dX2_shareOf_11 rfl ?_
  refine z_iconst (pc := 13) (v := 1) dX2_shareOf_13 rfl ?_
  refine z_icmp_lt (pc := 14) (tgt := 41) dX2_shareOf_14 (by decide) (fun h3 => ?_) (fun h3 => ?_)
  · refine z_lconst (pc := 41) (v := 0) dX2_shareOf_41 (by decide +kernel) ?_
    exact z_lret dX2_shareOf_42
  · refine z_aload_n (pc := 17) 0 dX2_shareOf_17 rfl rfl ?_
    refine z_get (pc := 18) (v := .ref (g.2.2.1 1)) flX2_22 jnX2 ltC_13 kdC_13 rfl (by decide) rfl foC_13_0 rfl dX2_shareOf_18 ?_
    refine z_iload_n (pc := 21) 1 dX2_shareOf_21 rfl rfl ?_
    refine z_iload_n (pc := 22) 2 dX2_shareOf_22 rfl rfl ?_
    refine z_callV (pc := 23) (b := 1) (As := [.int a1, .int a2]) (rest := []) kX2_58 (m_X4_setAfter g μ2 a1 a2) ltC_1 kdC_1 rfl rfl ⟨rfl, rfl⟩ ⟨Nat.le_of_ble_eq_true rfl, Nat.le_of_ble_eq_true rfl⟩ (Nat.le_of_ble_eq_true rfl) rfl rfl dX2_shareOf_23 (fun r4 μ5 => ?_)
    change Zw g ΛC enJ RX2 cX2_shareOf 5 (some .long) rX2_shareOf 26 [(0, .ref (g.2.2.1 13)), (1, .int a1), (2, .int a2), (3, .int a3), (4, .int r1)] [.int r4] μ5 _
    refine z_aload_n (pc := 26) 0 dX2_shareOf_26 rfl rfl ?_
    refine z_get (pc := 27) (v := .ref (g.2.2.1 1)) flX2_22 jnX2 ltC_13 kdC_13 rfl (by decide) rfl foC_13_0 rfl dX2_shareOf_27 ?_
    refine z_get (pc := 30) (v := .ref (g.2.2.1 2)) flX2_78 jnX4 ltC_1 kdC_1 rfl (by decide) rfl foC_1_0 rfl dX2_shareOf_30 ?_
    refine z_iload_n (pc := 33) 3 dX2_shareOf_33 rfl rfl ?_
    refine z_iaload_g (pc := 34) ltC_2 kdC_2 dX2_shareOf_34 ?_
    refine z_callSN (pc := 35) (As := [.int r4, .int (μ5.1 2 a3.toNatClampNeg)]) (rest := []) kX2_44 (m_X6_holds g μ5 r4 (μ5.1 2 a3.toNatClampNeg)) ⟨rfl, rfl⟩ ⟨Nat.le_of_ble_eq_true rfl, Nat.le_of_ble_eq_true rfl⟩ (Nat.le_of_ble_eq_true rfl) rfl rfl dX2_shareOf_35 (fun r6 μ7 => ?_)
    change Zw g ΛC enJ RX2 cX2_shareOf 5 (some .long) rX2_shareOf 38 [(0, .ref (g.2.2.1 13)), (1, .int a1), (2, .int a2), (3, .int a3), (4, .int r1)] [.int r6] μ7 _
    refine z_if_ne (pc := 38) (tgt := 43) dX2_shareOf_38 (by decide) (fun h8 => ?_) (fun h8 => ?_)
    · refine z_aload_n (pc := 43) 0 dX2_shareOf_43 rfl rfl ?_
      refine z_get (pc := 44) (v := .ref (g.2.2.1 1)) flX2_22 jnX2 ltC_13 kdC_13 rfl (by decide) rfl foC_13_0 rfl dX2_shareOf_44 ?_
      refine z_aload_n (pc := 47) 0 dX2_shareOf_47 rfl rfl ?_
      refine z_get (pc := 48) (v := .int (μ7.1 13 6)) flX2_30 jnX2 ltC_13 kdC_13 rfl (by decide) rfl foC_13_6 rfl dX2_shareOf_48 ?_
      refine z_iload_n (pc := 51) 3 dX2_shareOf_51 rfl rfl ?_
      refine z_callV (pc := 52) (b := 1) (As := [.int (μ7.1 13 6), .int a3]) (rest := []) kX2_81 (m_X4_factorOf g μ7 (μ7.1 13 6) a3) ltC_1 kdC_1 rfl rfl ⟨rfl, rfl⟩ ⟨Nat.le_of_ble_eq_true rfl, Nat.le_of_ble_eq_true rfl⟩ (Nat.le_of_ble_eq_true rfl) rfl rfl dX2_shareOf_52 (fun r9 μ10 => ?_)
      change Zw g ΛC enJ RX2 cX2_shareOf 5 (some .long) rX2_shareOf 55 [(0, .ref (g.2.2.1 13)), (1, .int a1), (2, .int a2), (3, .int a3), (4, .int r1)] [.long r9] μ10 _
      refine z_aload_n (pc := 55) 0 dX2_shareOf_55 rfl rfl ?_
      refine z_get (pc := 56) (v := .ref (g.2.2.1 14)) flX2_9 jnX2 ltC_13 kdC_13 rfl (by decide) rfl foC_13_2 rfl dX2_shareOf_56 ?_
      refine z_iload (pc := 59) 4 dX2_shareOf_59 rfl ?_
      refine z_iconst (pc := 61) (v := 4) dX2_shareOf_61 rfl ?_
      refine z_imul (pc := 62) dX2_shareOf_62 ?_
      refine z_aload_n (pc := 63) 0 dX2_shareOf_63 rfl rfl ?_
      refine z_get (pc := 64) (v := .ref (g.2.2.1 1)) flX2_22 jnX2 ltC_13 kdC_13 rfl (by decide) rfl foC_13_0 rfl dX2_shareOf_64 ?_
      refine z_get (pc := 67) (v := .ref (g.2.2.1 2)) flX2_78 jnX4 ltC_1 kdC_1 rfl (by decide) rfl foC_1_0 rfl dX2_shareOf_67 ?_
      refine z_iload_n (pc := 70) 3 dX2_shareOf_70 rfl rfl ?_
      refine z_iaload_g (pc := 71) ltC_2 kdC_2 dX2_shareOf_71 ?_
      refine z_iadd (pc := 72) dX2_shareOf_72 ?_
      refine z_laload_g (pc := 73) ltC_14 kdC_14 dX2_shareOf_73 ?_
      refine z_callS (pc := 74) (As := [.long r9, .long (μ10.2 14 (((r1 * (4 : Int32)) + (μ10.1 2 a3.toNatClampNeg)).toNatClampNeg))]) (rest := []) kX2_85 (m_X2_times g μ10 r9 (μ10.2 14 (((r1 * (4 : Int32)) + (μ10.1 2 a3.toNatClampNeg)).toNatClampNeg))) ⟨rfl, rfl⟩ ⟨Nat.le_of_ble_eq_true rfl, Nat.le_of_ble_eq_true rfl⟩ (Nat.le_of_ble_eq_true rfl) rfl rfl dX2_shareOf_74 (fun r11 μ12 => ?_)
      change Zw g ΛC enJ RX2 cX2_shareOf 5 (some .long) rX2_shareOf 77 [(0, .ref (g.2.2.1 13)), (1, .int a1), (2, .int a2), (3, .int a3), (4, .int r1)] [.long r11] μ12 _
      exact z_lret dX2_shareOf_77
    · refine z_lconst (pc := 41) (v := 0) dX2_shareOf_41 (by decide +kernel) ?_
      exact z_lret dX2_shareOf_42
def lp_X2_nextPhrase_2 (c1 : Int32) (c2 : Int32) : Nat → Int32 → Mm → (Mm → Option (Int32 × Mm)) → Option (Int32 × Mm)
  | 0, _, _, _ => none
  | n + 1, y3, μ, k => if (μ.1 1 8) ≤ y3 then (k  μ) else (bd (f_X2_shareOf c1 c2 y3 μ) fun r2 μ3 => if r2 ≤ (μ3.2 13 7) then (lp_X2_nextPhrase_2 c1 c2 n (y3 + 1) (sj μ3 13 7 ((μ3.2 13 7) - r2)) k) else (bd (f_X4_factorOf (μ3.1 13 6) y3 μ3) fun r5 μ6 => if ¬ (if r5 < (1 : Int64) then (1 : Int64) else r5) = 0 then (some (y3, (sj μ6 13 7 ((μ3.2 13 7) / (if r5 < (1 : Int64) then (1 : Int64) else r5))))) else none))
theorem w_X2_nextPhrase_2 (g : Gx) (c1 : Int32) (c2 : Int32) : ∀ (n : Nat) (y3 : Int32) (μ : Mm) (k : Mm → Option (Int32 × Mm)), (∀ (ν : Mm), Zw g ΛC enI RX2 cX2_nextPhrase 6 (some .int) rX2_nextPhrase 76 [] [] ν (k  ν)) → Zw g ΛC enI RX2 cX2_nextPhrase 6 (some .int) rX2_nextPhrase 2 [(0, .ref (g.2.2.1 13)), (1, .int c1), (2, .int c2), (3, .int y3)] [] μ (lp_X2_nextPhrase_2 c1 c2 n y3 μ k) := by
  intro n
  induction n with
  | zero =>
    intro y3 μ k hk
    exact z_none
  | succ n ih =>
    intro y3 μ k hk
    rw [lp_X2_nextPhrase_2]
    refine z_iload_n (pc := 2) 3 dX2_nextPhrase_2 rfl rfl ?_
    refine z_aload_n (pc := 3) 0 dX2_nextPhrase_3 rfl rfl ?_
    refine z_get (pc := 4) (v := .ref (g.2.2.1 1)) flX2_22 jnX2 ltC_13 kdC_13 rfl (by decide) rfl foC_13_0 rfl dX2_nextPhrase_4 ?_
    refine z_get (pc := 7) (v := .int (μ.1 1 8)) flX2_72 jnX4 ltC_1 kdC_1 rfl (by decide) rfl foC_1_8 rfl dX2_nextPhrase_7 ?_
    refine z_icmp_ge (pc := 10) (tgt := 76) dX2_nextPhrase_10 (by decide) (fun h1 => ?_) (fun h1 => ?_)
    · refine z_sub (lv2 := []) [] rfl ?_
      exact hk _
    · refine z_aload_n (pc := 13) 0 dX2_nextPhrase_13 rfl rfl ?_
      refine z_iload_n (pc := 14) 1 dX2_nextPhrase_14 rfl rfl ?_
      refine z_iload_n (pc := 15) 2 dX2_nextPhrase_15 rfl rfl ?_
      refine z_iload_n (pc := 16) 3 dX2_nextPhrase_16 rfl rfl ?_
      refine z_callV (pc := 17) (b := 13) (As := [.int c1, .int c2, .int y3]) (rest := []) kX2_100 (m_X2_shareOf g μ c1 c2 y3) ltC_13 kdC_13 rfl rfl ⟨rfl, rfl⟩ ⟨Nat.le_of_ble_eq_true rfl, Nat.le_of_ble_eq_true rfl⟩ (Nat.le_of_ble_eq_true rfl) rfl rfl dX2_nextPhrase_17 (fun r2 μ3 => ?_)
      change Zw g ΛC enI RX2 cX2_nextPhrase 6 (some .int) rX2_nextPhrase 20 [(0, .ref (g.2.2.1 13)), (1, .int c1), (2, .int c2), (3, .int y3)] [.long r2] μ3 _
      refine z_lstore (pc := 20) (lv2 := [(0, .ref (g.2.2.1 13)), (1, .int c1), (2, .int c2), (3, .int y3), (4, .long r2)]) [1, 2, 3, 4, 0] dX2_nextPhrase_20 (by decide) rfl ?_
      refine z_aload_n (pc := 22) 0 dX2_nextPhrase_22 rfl rfl ?_
      refine z_get (pc := 23) (v := .long (μ3.2 13 7)) flX2_90 jnX2 ltC_13 kdC_13 rfl (by decide) rfl foC_13_7 rfl dX2_nextPhrase_23 ?_
      refine z_lload (pc := 26) 4 dX2_nextPhrase_26 rfl ?_
      refine z_lcmp_ge (pc := 28) (tgt := 59) dX2_nextPhrase_28 dX2_nextPhrase_29 (by decide) (fun h4 => ?_) (fun h4 => ?_)
      · refine z_aload_n (pc := 59) 0 dX2_nextPhrase_59 rfl rfl ?_
        refine z_dup (pc := 60) dX2_nextPhrase_60 rfl ?_
        refine z_get (pc := 61) (v := .long (μ3.2 13 7)) flX2_90 jnX2 ltC_13 kdC_13 rfl (by decide) rfl foC_13_7 rfl dX2_nextPhrase_61 ?_
        refine z_lload (pc := 64) 4 dX2_nextPhrase_64 rfl ?_
        refine z_lsub (pc := 66) dX2_nextPhrase_66 ?_
        refine z_putj (x := (0, 0)) (pc := 67) flX2_90 jnX2 tyX2 tyX2_ok nmX2 ltC_13 kdC_13 rfl (by decide) rfl foC_13_7 rfl ⟨rfl, rfl⟩ dX2_nextPhrase_67 ?_
        refine z_iinc (pc := 70) (v := y3 + 1) (lv2 := [(0, .ref (g.2.2.1 13)), (1, .int c1), (2, .int c2), (3, .int (y3 + 1)), (4, .long r2)]) 3 [1, 2, 3, 0, 4] dX2_nextPhrase_70 rfl (by rw [oi_1]) (by decide) rfl ?_
        refine z_goto (pc := 73) (tgt := 2) dX2_nextPhrase_73 (by decide) ?_
        refine z_sub (lv2 := [(0, .ref (g.2.2.1 13)), (1, .int c1), (2, .int c2), (3, .int (y3 + 1))]) [0, 1, 2, 3] rfl ?_
        exact ih _ _ _ hk
      · refine z_aload_n (pc := 32) 0 dX2_nextPhrase_32 rfl rfl ?_
        refine z_dup (pc := 33) dX2_nextPhrase_33 rfl ?_
        refine z_get (pc := 34) (v := .long (μ3.2 13 7)) flX2_90 jnX2 ltC_13 kdC_13 rfl (by decide) rfl foC_13_7 rfl dX2_nextPhrase_34 ?_
        refine z_lconst (pc := 37) (v := 1) dX2_nextPhrase_37 (by decide +kernel) ?_
        refine z_aload_n (pc := 38) 0 dX2_nextPhrase_38 rfl rfl ?_
        refine z_get (pc := 39) (v := .ref (g.2.2.1 1)) flX2_22 jnX2 ltC_13 kdC_13 rfl (by decide) rfl foC_13_0 rfl dX2_nextPhrase_39 ?_
        refine z_aload_n (pc := 42) 0 dX2_nextPhrase_42 rfl rfl ?_
        refine z_get (pc := 43) (v := .int (μ3.1 13 6)) flX2_30 jnX2 ltC_13 kdC_13 rfl (by decide) rfl foC_13_6 rfl dX2_nextPhrase_43 ?_
        refine z_iload_n (pc := 46) 3 dX2_nextPhrase_46 rfl rfl ?_
        refine z_callV (pc := 47) (b := 1) (As := [.int (μ3.1 13 6), .int y3]) (rest := [.long (1 : Int64), .long (μ3.2 13 7), .ref (g.2.2.1 13)]) kX2_81 (m_X4_factorOf g μ3 (μ3.1 13 6) y3) ltC_1 kdC_1 rfl rfl ⟨rfl, rfl⟩ ⟨Nat.le_of_ble_eq_true rfl, Nat.le_of_ble_eq_true rfl⟩ (Nat.le_of_ble_eq_true rfl) rfl rfl dX2_nextPhrase_47 (fun r5 μ6 => ?_)
        change Zw g ΛC enI RX2 cX2_nextPhrase 6 (some .int) rX2_nextPhrase 50 [(0, .ref (g.2.2.1 13)), (1, .int c1), (2, .int c2), (3, .int y3), (4, .long r2)] [.long r5, .long (1 : Int64), .long (μ3.2 13 7), .ref (g.2.2.1 13)] μ6 _
        refine z_maxl (pc := 50) kX2_104 (Nat.le_of_ble_eq_true rfl) (Nat.le_of_ble_eq_true rfl) (Nat.le_of_ble_eq_true rfl) dX2_nextPhrase_50 ?_
        refine z_ldiv_g (pc := 53) dX2_nextPhrase_53 ?_
        refine z_putj (x := (0, 0)) (pc := 54) flX2_90 jnX2 tyX2 tyX2_ok nmX2 ltC_13 kdC_13 rfl (by decide) rfl foC_13_7 rfl ⟨rfl, rfl⟩ dX2_nextPhrase_54 ?_
        refine z_iload_n (pc := 57) 3 dX2_nextPhrase_57 rfl rfl ?_
        exact z_iret dX2_nextPhrase_58
def f_X2_nextPhrase (a1 : Int32) (a2 : Int32) (μ : Mm) : Option (Int32 × Mm) := lp_X2_nextPhrase_2 a1 a2 FU (0 : Int32) μ (fun  μ7 => some ((-1 : Int32), μ7))
theorem m_X2_nextPhrase (g : Gx) (μ : Mm) (a1 : Int32) (a2 : Int32) : Zm g ΛC enI yX2_nextPhrase cX2_nextPhrase 6 (some .int) rX2_nextPhrase [.ref (g.2.2.1 13), .int a1, .int a2] μ (f_X2_nextPhrase a1 a2 μ) := by
  refine z_met (by decide +kernel) (Nat.le_of_ble_eq_true rfl) ?_
  change Zw g ΛC enI RX2 cX2_nextPhrase 6 (some .int) rX2_nextPhrase 0 [(0, .ref (g.2.2.1 13)), (1, .int a1), (2, .int a2)] [] μ (f_X2_nextPhrase a1 a2 μ)
  rw [f_X2_nextPhrase]
  refine z_iconst (pc := 0) (v := 0) dX2_nextPhrase_0 rfl ?_
  refine z_istore_n (pc := 1) (lv2 := [(0, .ref (g.2.2.1 13)), (1, .int a1), (2, .int a2), (3, .int (0 : Int32))]) [1, 2, 3, 0] dX2_nextPhrase_1 rfl (by decide) rfl ?_
  refine w_X2_nextPhrase_2 g a1 a2 FU (0 : Int32) μ _ (fun  μ7 => ?_)
  refine z_iconst (pc := 76) (v := -1) dX2_nextPhrase_76 rfl ?_
  exact z_iret dX2_nextPhrase_77
def lp_X2_findRow_15 : Nat → Int32 → Int32 → Mm → (Mm → Option (Unit × Mm)) → Option (Unit × Mm)
  | 0, _, _, _, _ => none
  | n + 1, y3, y4, μ, k => if (μ.1 10 3) ≤ y3 then (k  μ) else (if (40 : Int32) ≤ (μ.1 13 5) then (k  μ) else (bd (f_X2_nextPhrase y3 y4 μ) fun r3 μ4 => if r3 = (-1 : Int32) then (some ((), μ4)) else (if zin (μ4.1 13 5) 40 then (bd (f_X0_landingOf y3 r3 (si (si μ4 13 5 ((μ4.1 13 5) + (1 : Int32))) 16 ((μ4.1 13 5).toNatClampNeg) r3)) fun r6 μ7 => if zin r3 12 then (lp_X2_findRow_15 n r6 (μ7.1 2 r3.toNatClampNeg) μ7 k) else none) else none)))
theorem w_X2_findRow_15 (g : Gx) : ∀ (n : Nat) (y3 : Int32) (y4 : Int32) (μ : Mm) (k : Mm → Option (Unit × Mm)), (∀ (ν : Mm), Zw g ΛC enV RX2 cX2_findRow 6 none rX2_findRow 98 [] [] ν (k  ν)) → Zw g ΛC enV RX2 cX2_findRow 6 none rX2_findRow 15 [(0, .ref (g.2.2.1 13)), (3, .int y3), (4, .int y4)] [] μ (lp_X2_findRow_15 n y3 y4 μ k) := by
  intro n
  induction n with
  | zero =>
    intro y3 y4 μ k hk
    exact z_none
  | succ n ih =>
    intro y3 y4 μ k hk
    rw [lp_X2_findRow_15]
    refine z_iload_n (pc := 15) 1 dX2_findRow_15 rfl rfl ?_
    refine z_aload_n (pc := 16) 0 dX2_findRow_16 rfl rfl ?_
    refine z_get (pc := 17) (v := .ref (g.2.2.1 10)) flX2_26 jnX2 ltC_13 kdC_13 rfl (by decide) rfl foC_13_1 rfl dX2_findRow_17 ?_
    refine z_get (pc := 20) (v := .int (μ.1 10 3)) flX2_34 jnX0 ltC_10 kdC_10 rfl (by decide) rfl foC_10_3 rfl dX2_findRow_20 ?_
    refine z_icmp_ge (pc := 23) (tgt := 98) dX2_findRow_23 (by decide) (fun h1 => ?_) (fun h1 => ?_)
    · refine z_sub (lv2 := []) [] rfl ?_
      exact hk _
    · refine z_aload_n (pc := 26) 0 dX2_findRow_26 rfl rfl ?_
      refine z_get (pc := 27) (v := .int (μ.1 13 5)) flX2_94 jnX2 ltC_13 kdC_13 rfl (by decide) rfl foC_13_5 rfl dX2_findRow_27 ?_
      refine z_aload_n (pc := 30) 0 dX2_findRow_30 rfl rfl ?_
      refine z_get (pc := 31) (v := .ref (g.2.2.1 16)) flX2_18 jnX2 ltC_13 kdC_13 rfl (by decide) rfl foC_13_4 rfl dX2_findRow_31 ?_
      refine z_alen_i (pc := 34) (v := 40) ltC_16 kdC_16 (by decide +kernel) dX2_findRow_34 ?_
      refine z_icmp_ge (pc := 35) (tgt := 98) dX2_findRow_35 (by decide) (fun h2 => ?_) (fun h2 => ?_)
      · refine z_sub (lv2 := []) [] rfl ?_
        exact hk _
      · refine z_aload_n (pc := 38) 0 dX2_findRow_38 rfl rfl ?_
        refine z_iload_n (pc := 39) 1 dX2_findRow_39 rfl rfl ?_
        refine z_iload (pc := 40) 2 dX2_findRow_40 rfl ?_
        refine z_callV (pc := 42) (b := 13) (As := [.int y3, .int y4]) (rest := []) kX2_97 (m_X2_nextPhrase g μ y3 y4) ltC_13 kdC_13 rfl rfl ⟨rfl, rfl⟩ ⟨Nat.le_of_ble_eq_true rfl, Nat.le_of_ble_eq_true rfl⟩ (Nat.le_of_ble_eq_true rfl) rfl rfl dX2_findRow_42 (fun r3 μ4 => ?_)
        change Zw g ΛC enV RX2 cX2_findRow 6 none rX2_findRow 45 [(0, .ref (g.2.2.1 13)), (3, .int y3), (4, .int y4)] [.int r3] μ4 _
        refine z_istore (pc := 45) (lv2 := [(0, .ref (g.2.2.1 13)), (3, .int y3), (4, .int y4), (5, .int r3)]) [1, 2, 3, 0] dX2_findRow_45 (by decide) rfl ?_
        refine z_iload (pc := 47) 3 dX2_findRow_47 rfl ?_
        refine z_iconst (pc := 49) (v := -1) dX2_findRow_49 rfl ?_
        refine z_icmp_ne (pc := 50) (tgt := 54) dX2_findRow_50 (by decide) (fun h5 => ?_) (fun h5 => ?_)
        · refine z_aload_n (pc := 54) 0 dX2_findRow_54 rfl rfl ?_
          refine z_get (pc := 55) (v := .ref (g.2.2.1 16)) flX2_18 jnX2 ltC_13 kdC_13 rfl (by decide) rfl foC_13_4 rfl dX2_findRow_55 ?_
          refine z_aload_n (pc := 58) 0 dX2_findRow_58 rfl rfl ?_
          refine z_dup (pc := 59) dX2_findRow_59 rfl ?_
          refine z_get (pc := 60) (v := .int (μ4.1 13 5)) flX2_94 jnX2 ltC_13 kdC_13 rfl (by decide) rfl foC_13_5 rfl dX2_findRow_60 ?_
          refine z_dup_x1 (pc := 63) dX2_findRow_63 rfl rfl ?_
          refine z_iconst (pc := 64) (v := 1) dX2_findRow_64 rfl ?_
          refine z_iadd (pc := 65) dX2_findRow_65 ?_
          refine z_puti (x := (0, 0)) (pc := 66) flX2_94 jnX2 tyX2 tyX2_ok nmX2 ltC_13 kdC_13 rfl (by decide) rfl foC_13_5 rfl ⟨rfl, rfl⟩ dX2_findRow_66 ?_
          refine z_iload (pc := 69) 3 dX2_findRow_69 rfl ?_
          refine z_iastore_g (pc := 71) ltC_16 kdC_16 dX2_findRow_71 ?_
          refine z_aload_n (pc := 72) 0 dX2_findRow_72 rfl rfl ?_
          refine z_get (pc := 73) (v := .ref (g.2.2.1 10)) flX2_26 jnX2 ltC_13 kdC_13 rfl (by decide) rfl foC_13_1 rfl dX2_findRow_73 ?_
          refine z_iload_n (pc := 76) 1 dX2_findRow_76 rfl rfl ?_
          refine z_iload (pc := 77) 3 dX2_findRow_77 rfl ?_
          refine z_callV (pc := 79) (b := 10) (As := [.int y3, .int r3]) (rest := []) kX2_75 (m_X0_landingOf g (si (si μ4 13 5 ((μ4.1 13 5) + (1 : Int32))) 16 ((μ4.1 13 5).toNatClampNeg) r3) y3 r3) ltC_10 kdC_10 rfl rfl ⟨rfl, rfl⟩ ⟨Nat.le_of_ble_eq_true rfl, Nat.le_of_ble_eq_true rfl⟩ (Nat.le_of_ble_eq_true rfl) rfl rfl dX2_findRow_79 (fun r6 μ7 => ?_)
          change Zw g ΛC enV RX2 cX2_findRow 6 none rX2_findRow 82 [(0, .ref (g.2.2.1 13)), (3, .int y3), (4, .int y4), (5, .int r3)] [.int r6] μ7 _
          refine z_istore_n (pc := 82) (lv2 := [(0, .ref (g.2.2.1 13)), (3, .int r6), (4, .int y4), (5, .int r3)]) [1, 0, 2, 3] dX2_findRow_82 rfl (by decide) rfl ?_
          refine z_aload_n (pc := 83) 0 dX2_findRow_83 rfl rfl ?_
          refine z_get (pc := 84) (v := .ref (g.2.2.1 1)) flX2_22 jnX2 ltC_13 kdC_13 rfl (by decide) rfl foC_13_0 rfl dX2_findRow_84 ?_
          refine z_get (pc := 87) (v := .ref (g.2.2.1 2)) flX2_78 jnX4 ltC_1 kdC_1 rfl (by decide) rfl foC_1_0 rfl dX2_findRow_87 ?_
          refine z_iload (pc := 90) 3 dX2_findRow_90 rfl ?_
          refine z_iaload_g (pc := 92) ltC_2 kdC_2 dX2_findRow_92 ?_
          refine z_istore (pc := 93) (lv2 := [(0, .ref (g.2.2.1 13)), (3, .int r6), (4, .int (μ7.1 2 r3.toNatClampNeg)), (5, .int r3)]) [1, 2, 0, 3] dX2_findRow_93 (by decide) rfl ?_
          refine z_goto (pc := 95) (tgt := 15) dX2_findRow_95 (by decide) ?_
          refine z_sub (lv2 := [(0, .ref (g.2.2.1 13)), (3, .int r6), (4, .int (μ7.1 2 r3.toNatClampNeg))]) [0, 1, 2] rfl ?_
          exact ih _ _ _ _ hk
        · exact z_vret dX2_findRow_53
def f_X2_findRow (a1 : Int64) (μ : Mm) : Option (Unit × Mm) := lp_X2_findRow_15 FU (0 : Int32) (0 : Int32) (si (sj μ 13 7 a1) 13 5 (0 : Int32)) (fun  μ8 => some ((), μ8))
theorem m_X2_findRow (g : Gx) (μ : Mm) (a1 : Int64) : Zm g ΛC enV yX2_findRow cX2_findRow 6 none rX2_findRow [.ref (g.2.2.1 13), .long a1] μ (f_X2_findRow a1 μ) := by
  refine z_met (by decide +kernel) (Nat.le_of_ble_eq_true rfl) ?_
  change Zw g ΛC enV RX2 cX2_findRow 6 none rX2_findRow 0 [(0, .ref (g.2.2.1 13)), (1, .long a1)] [] μ (f_X2_findRow a1 μ)
  rw [f_X2_findRow]
  refine z_aload_n (pc := 0) 0 dX2_findRow_0 rfl rfl ?_
  refine z_lload_n (pc := 1) 1 dX2_findRow_1 rfl rfl ?_
  refine z_putj (x := (0, 0)) (pc := 2) flX2_90 jnX2 tyX2 tyX2_ok nmX2 ltC_13 kdC_13 rfl (by decide) rfl foC_13_7 rfl ⟨rfl, rfl⟩ dX2_findRow_2 ?_
  refine z_aload_n (pc := 5) 0 dX2_findRow_5 rfl rfl ?_
  refine z_iconst (pc := 6) (v := 0) dX2_findRow_6 rfl ?_
  refine z_puti (x := (0, 0)) (pc := 7) flX2_94 jnX2 tyX2 tyX2_ok nmX2 ltC_13 kdC_13 rfl (by decide) rfl foC_13_5 rfl ⟨rfl, rfl⟩ dX2_findRow_7 ?_
  refine z_iconst (pc := 10) (v := 0) dX2_findRow_10 rfl ?_
  refine z_istore_n (pc := 11) (lv2 := [(0, .ref (g.2.2.1 13)), (1, .long a1), (3, .int (0 : Int32))]) [1, 2, 0] dX2_findRow_11 rfl (by decide) rfl ?_
  refine z_iconst (pc := 12) (v := 0) dX2_findRow_12 rfl ?_
  refine z_istore (pc := 13) (lv2 := [(0, .ref (g.2.2.1 13)), (1, .long a1), (3, .int (0 : Int32)), (4, .int (0 : Int32))]) [1, 2, 3, 0] dX2_findRow_13 (by decide) rfl ?_
  refine z_sub (lv2 := [(0, .ref (g.2.2.1 13)), (3, .int (0 : Int32)), (4, .int (0 : Int32))]) [0, 2, 3] rfl ?_
  refine w_X2_findRow_15 g FU (0 : Int32) (0 : Int32) (si (sj μ 13 7 a1) 13 5 (0 : Int32)) _ (fun  μ8 => ?_)
  exact z_vret dX2_findRow_98
def f_X3_keepStaged (μ : Mm) : Option (Unit × Mm) := if (6 : Int32) ≤ ((μ.1 22 1) + (1 : Int32)) then (some ((), (si (si μ 22 1 (0 : Int32)) 22 2 (if (5 : Int32) < ((μ.1 22 2) + (1 : Int32)) then (5 : Int32) else ((μ.1 22 2) + (1 : Int32)))))) else (some ((), (si (si μ 22 1 ((μ.1 22 1) + (1 : Int32))) 22 2 (if (5 : Int32) < ((μ.1 22 2) + (1 : Int32)) then (5 : Int32) else ((μ.1 22 2) + (1 : Int32))))))
theorem m_X3_keepStaged (g : Gx) (μ : Mm) : Zm g ΛC enV yX3_keepStaged cX3_keepStaged 1 none rX3_keepStaged [.ref (g.2.2.1 22)] μ (f_X3_keepStaged μ) := by
  refine z_met (by decide +kernel) (Nat.le_of_ble_eq_true rfl) ?_
  change Zw g ΛC enV RX3 cX3_keepStaged 1 none rX3_keepStaged 0 [(0, .ref (g.2.2.1 22))] [] μ (f_X3_keepStaged μ)
  rw [f_X3_keepStaged]
  refine z_aload_n (pc := 0) 0 dX3_keepStaged_0 rfl rfl ?_
  refine z_aload_n (pc := 1) 0 dX3_keepStaged_1 rfl rfl ?_
  refine z_get (pc := 2) (v := .int (μ.1 22 1)) flX3_18 jnX3 ltC_22 kdC_22 rfl (by decide) rfl foC_22_1 rfl dX3_keepStaged_2 ?_
  refine z_iconst (pc := 5) (v := 1) dX3_keepStaged_5 rfl ?_
  refine z_iadd (pc := 6) dX3_keepStaged_6 ?_
  refine z_aload_n (pc := 7) 0 dX3_keepStaged_7 rfl rfl ?_
  refine z_get (pc := 8) (v := .ref (g.2.2.1 23)) flX3_11 jnX3 ltC_22 kdC_22 rfl (by decide) rfl foC_22_0 rfl dX3_keepStaged_8 ?_
  refine z_alen_r (pc := 11) (v := 6) ltC_23 kdC_23 (by decide +kernel) dX3_keepStaged_11 ?_
  refine z_icmp_ge (pc := 12) (tgt := 24) dX3_keepStaged_12 (by decide) (fun h1 => ?_) (fun h1 => ?_)
  · refine z_iconst (pc := 24) (v := 0) dX3_keepStaged_24 rfl ?_
    refine z_puti (x := (0, 0)) (pc := 25) flX3_18 jnX3 tyX3 tyX3_ok nmX3 ltC_22 kdC_22 rfl (by decide) rfl foC_22_1 rfl ⟨rfl, rfl⟩ dX3_keepStaged_25 ?_
    refine z_aload_n (pc := 28) 0 dX3_keepStaged_28 rfl rfl ?_
    refine z_aload_n (pc := 29) 0 dX3_keepStaged_29 rfl rfl ?_
    refine z_get (pc := 30) (v := .int (μ.1 22 2)) flX3_26 jnX3 ltC_22 kdC_22 rfl (by decide) rfl foC_22_2 rfl dX3_keepStaged_30 ?_
    refine z_iconst (pc := 33) (v := 1) dX3_keepStaged_33 rfl ?_
    refine z_iadd (pc := 34) dX3_keepStaged_34 ?_
    refine z_iconst (pc := 35) (v := 5) dX3_keepStaged_35 rfl ?_
    refine z_min (pc := 36) kX3_29 (Nat.le_of_ble_eq_true rfl) (Nat.le_of_ble_eq_true rfl) (Nat.le_of_ble_eq_true rfl) dX3_keepStaged_36 ?_
    refine z_puti (x := (0, 0)) (pc := 39) flX3_26 jnX3 tyX3 tyX3_ok nmX3 ltC_22 kdC_22 rfl (by decide) rfl foC_22_2 rfl ⟨rfl, rfl⟩ dX3_keepStaged_39 ?_
    exact z_vret dX3_keepStaged_42
  · refine z_aload_n (pc := 15) 0 dX3_keepStaged_15 rfl rfl ?_
    refine z_get (pc := 16) (v := .int (μ.1 22 1)) flX3_18 jnX3 ltC_22 kdC_22 rfl (by decide) rfl foC_22_1 rfl dX3_keepStaged_16 ?_
    refine z_iconst (pc := 19) (v := 1) dX3_keepStaged_19 rfl ?_
    refine z_iadd (pc := 20) dX3_keepStaged_20 ?_
    refine z_goto (pc := 21) (tgt := 25) dX3_keepStaged_21 (by decide) ?_
    refine z_puti (x := (0, 0)) (pc := 25) flX3_18 jnX3 tyX3 tyX3_ok nmX3 ltC_22 kdC_22 rfl (by decide) rfl foC_22_1 rfl ⟨rfl, rfl⟩ dX3_keepStaged_25 ?_
    refine z_aload_n (pc := 28) 0 dX3_keepStaged_28 rfl rfl ?_
    refine z_aload_n (pc := 29) 0 dX3_keepStaged_29 rfl rfl ?_
    refine z_get (pc := 30) (v := .int (μ.1 22 2)) flX3_26 jnX3 ltC_22 kdC_22 rfl (by decide) rfl foC_22_2 rfl dX3_keepStaged_30 ?_
    refine z_iconst (pc := 33) (v := 1) dX3_keepStaged_33 rfl ?_
    refine z_iadd (pc := 34) dX3_keepStaged_34 ?_
    refine z_iconst (pc := 35) (v := 5) dX3_keepStaged_35 rfl ?_
    refine z_min (pc := 36) kX3_29 (Nat.le_of_ble_eq_true rfl) (Nat.le_of_ble_eq_true rfl) (Nat.le_of_ble_eq_true rfl) dX3_keepStaged_36 ?_
    refine z_puti (x := (0, 0)) (pc := 39) flX3_26 jnX3 tyX3 tyX3_ok nmX3 ltC_22 kdC_22 rfl (by decide) rfl foC_22_2 rfl ⟨rfl, rfl⟩ dX3_keepStaged_39 ?_
    exact z_vret dX3_keepStaged_42
def f_X3_restoreLast (μ : Mm) : Option (Unit × Mm) := if (μ.1 22 2) ≤ 0 then (some ((), μ)) else (if (μ.1 22 1) ≤ 0 then (bd (f_X3_restoreStaged (si (si μ 22 2 ((μ.1 22 2) - (1 : Int32))) 22 1 ((6 : Int32) - (1 : Int32)))) fun r3 μ4 => some ((), μ4)) else (bd (f_X3_restoreStaged (si (si μ 22 2 ((μ.1 22 2) - (1 : Int32))) 22 1 ((μ.1 22 1) - (1 : Int32)))) fun r5 μ6 => some ((), μ6)))
theorem m_X3_restoreLast (g : Gx) (μ : Mm) : Zm g ΛC enV yX3_restoreLast cX3_restoreLast 2 none rX3_restoreLast [.ref (g.2.2.1 22), .ref (g.2.2.1 1)] μ (f_X3_restoreLast μ) := by
  refine z_met (by decide +kernel) (Nat.le_of_ble_eq_true rfl) ?_
  change Zw g ΛC enV RX3 cX3_restoreLast 2 none rX3_restoreLast 0 [(0, .ref (g.2.2.1 22)), (1, .ref (g.2.2.1 1))] [] μ (f_X3_restoreLast μ)
  rw [f_X3_restoreLast]
  refine z_aload_n (pc := 0) 0 dX3_restoreLast_0 rfl rfl ?_
  refine z_get (pc := 1) (v := .int (μ.1 22 2)) flX3_26 jnX3 ltC_22 kdC_22 rfl (by decide) rfl foC_22_2 rfl dX3_restoreLast_1 ?_
  refine z_if_le (pc := 4) (tgt := 49) dX3_restoreLast_4 (by decide) (fun h1 => ?_) (fun h1 => ?_)
  · exact z_vret dX3_restoreLast_49
  · refine z_aload_n (pc := 7) 0 dX3_restoreLast_7 rfl rfl ?_
    refine z_dup (pc := 8) dX3_restoreLast_8 rfl ?_
    refine z_get (pc := 9) (v := .int (μ.1 22 2)) flX3_26 jnX3 ltC_22 kdC_22 rfl (by decide) rfl foC_22_2 rfl dX3_restoreLast_9 ?_
    refine z_iconst (pc := 12) (v := 1) dX3_restoreLast_12 rfl ?_
    refine z_isub (pc := 13) dX3_restoreLast_13 ?_
    refine z_puti (x := (0, 0)) (pc := 14) flX3_26 jnX3 tyX3 tyX3_ok nmX3 ltC_22 kdC_22 rfl (by decide) rfl foC_22_2 rfl ⟨rfl, rfl⟩ dX3_restoreLast_14 ?_
    refine z_aload_n (pc := 17) 0 dX3_restoreLast_17 rfl rfl ?_
    refine z_aload_n (pc := 18) 0 dX3_restoreLast_18 rfl rfl ?_
    refine z_get (pc := 19) (v := .int (μ.1 22 1)) flX3_18 jnX3 ltC_22 kdC_22 rfl (by decide) rfl foC_22_1 rfl dX3_restoreLast_19 ?_
    refine z_if_le (pc := 22) (tgt := 34) dX3_restoreLast_22 (by decide) (fun h2 => ?_) (fun h2 => ?_)
    · refine z_aload_n (pc := 34) 0 dX3_restoreLast_34 rfl rfl ?_
      refine z_get (pc := 35) (v := .ref (g.2.2.1 23)) flX3_11 jnX3 ltC_22 kdC_22 rfl (by decide) rfl foC_22_0 rfl dX3_restoreLast_35 ?_
      refine z_alen_r (pc := 38) (v := 6) ltC_23 kdC_23 (by decide +kernel) dX3_restoreLast_38 ?_
      refine z_iconst (pc := 39) (v := 1) dX3_restoreLast_39 rfl ?_
      refine z_isub (pc := 40) dX3_restoreLast_40 ?_
      refine z_puti (x := (0, 0)) (pc := 41) flX3_18 jnX3 tyX3 tyX3_ok nmX3 ltC_22 kdC_22 rfl (by decide) rfl foC_22_1 rfl ⟨rfl, rfl⟩ dX3_restoreLast_41 ?_
      refine z_aload_n (pc := 44) 0 dX3_restoreLast_44 rfl rfl ?_
      refine z_aload_n (pc := 45) 1 dX3_restoreLast_45 rfl rfl ?_
      refine z_callV (pc := 46) (b := 22) (As := [.ref (g.2.2.1 1)]) (rest := []) kX3_35 (m_X3_restoreStaged g (si (si μ 22 2 ((μ.1 22 2) - (1 : Int32))) 22 1 ((6 : Int32) - (1 : Int32)))) ltC_22 kdC_22 rfl rfl ⟨rfl, rfl⟩ ⟨Nat.le_of_ble_eq_true rfl, Nat.le_of_ble_eq_true rfl⟩ (Nat.le_of_ble_eq_true rfl) rfl rfl dX3_restoreLast_46 (fun r3 μ4 => ?_)
      change Zw g ΛC enV RX3 cX3_restoreLast 2 none rX3_restoreLast 49 [(0, .ref (g.2.2.1 22)), (1, .ref (g.2.2.1 1))] [] μ4 _
      exact z_vret dX3_restoreLast_49
    · refine z_aload_n (pc := 25) 0 dX3_restoreLast_25 rfl rfl ?_
      refine z_get (pc := 26) (v := .int (μ.1 22 1)) flX3_18 jnX3 ltC_22 kdC_22 rfl (by decide) rfl foC_22_1 rfl dX3_restoreLast_26 ?_
      refine z_iconst (pc := 29) (v := 1) dX3_restoreLast_29 rfl ?_
      refine z_isub (pc := 30) dX3_restoreLast_30 ?_
      refine z_goto (pc := 31) (tgt := 41) dX3_restoreLast_31 (by decide) ?_
      refine z_puti (x := (0, 0)) (pc := 41) flX3_18 jnX3 tyX3 tyX3_ok nmX3 ltC_22 kdC_22 rfl (by decide) rfl foC_22_1 rfl ⟨rfl, rfl⟩ dX3_restoreLast_41 ?_
      refine z_aload_n (pc := 44) 0 dX3_restoreLast_44 rfl rfl ?_
      refine z_aload_n (pc := 45) 1 dX3_restoreLast_45 rfl rfl ?_
      refine z_callV (pc := 46) (b := 22) (As := [.ref (g.2.2.1 1)]) (rest := []) kX3_35 (m_X3_restoreStaged g (si (si μ 22 2 ((μ.1 22 2) - (1 : Int32))) 22 1 ((μ.1 22 1) - (1 : Int32)))) ltC_22 kdC_22 rfl rfl ⟨rfl, rfl⟩ ⟨Nat.le_of_ble_eq_true rfl, Nat.le_of_ble_eq_true rfl⟩ (Nat.le_of_ble_eq_true rfl) rfl rfl dX3_restoreLast_46 (fun r5 μ6 => ?_)
      change Zw g ΛC enV RX3 cX3_restoreLast 2 none rX3_restoreLast 49 [(0, .ref (g.2.2.1 22)), (1, .ref (g.2.2.1 1))] [] μ6 _
      exact z_vret dX3_restoreLast_49
def f_X6_within (a0 : Int32) (a1 : Int32) (a2 : Int32) (μ : Mm) : Option (Int32 × Mm) := if a0 < a1 then (some ((0 : Int32), μ)) else (if a2 < a0 then (some ((0 : Int32), μ)) else (some ((1 : Int32), μ)))
theorem m_X6_within (g : Gx) (μ : Mm) (a0 : Int32) (a1 : Int32) (a2 : Int32) : Zm g ΛC enI yX6_within cX6_within 3 (some .boolean) rX6_within [.int a0, .int a1, .int a2] μ (f_X6_within a0 a1 a2 μ) := by
  refine z_met (by decide +kernel) (Nat.le_of_ble_eq_true rfl) ?_
  change Zw g ΛC enI RX6 cX6_within 3 (some .boolean) rX6_within 0 [(0, .int a0), (1, .int a1), (2, .int a2)] [] μ (f_X6_within a0 a1 a2 μ)
  rw [f_X6_within]
  refine z_iload_n (pc := 0) 0 dX6_within_0 rfl rfl ?_
  refine z_iload_n (pc := 1) 1 dX6_within_1 rfl rfl ?_
  refine z_icmp_lt (pc := 2) (tgt := 14) dX6_within_2 (by decide) (fun h1 => ?_) (fun h1 => ?_)
  · refine z_iconst (pc := 14) (v := 0) dX6_within_14 rfl ?_
    exact z_zret dX6_within_15 (by decide)
  · refine z_iload_n (pc := 5) 0 dX6_within_5 rfl rfl ?_
    refine z_iload_n (pc := 6) 2 dX6_within_6 rfl rfl ?_
    refine z_icmp_gt (pc := 7) (tgt := 14) dX6_within_7 (by decide) (fun h2 => ?_) (fun h2 => ?_)
    · refine z_iconst (pc := 14) (v := 0) dX6_within_14 rfl ?_
      exact z_zret dX6_within_15 (by decide)
    · refine z_iconst (pc := 10) (v := 1) dX6_within_10 rfl ?_
      refine z_goto (pc := 11) (tgt := 15) dX6_within_11 (by decide) ?_
      exact z_zret dX6_within_15 (by decide)
def f_X4_hasPhrase (a1 : Int32) (μ : Mm) : Option (Int32 × Mm) := bd (f_X6_within a1 (0 : Int32) ((μ.1 1 8) - (1 : Int32)) μ) fun r1 μ2 => if r1 = 0 ∨ r1 = 1 then some (r1, μ2) else none
theorem m_X4_hasPhrase (g : Gx) (μ : Mm) (a1 : Int32) : Zm g ΛC enI yX4_hasPhrase cX4_hasPhrase 2 (some .boolean) rX4_hasPhrase [.ref (g.2.2.1 1), .int a1] μ (f_X4_hasPhrase a1 μ) := by
  refine z_met (by decide +kernel) (Nat.le_of_ble_eq_true rfl) ?_
  change Zw g ΛC enI RX4 cX4_hasPhrase 2 (some .boolean) rX4_hasPhrase 0 [(0, .ref (g.2.2.1 1)), (1, .int a1)] [] μ (f_X4_hasPhrase a1 μ)
  rw [f_X4_hasPhrase]
  refine z_iload_n (pc := 0) 1 dX4_hasPhrase_0 rfl rfl ?_
  refine z_iconst (pc := 1) (v := 0) dX4_hasPhrase_1 rfl ?_
  refine z_aload_n (pc := 2) 0 dX4_hasPhrase_2 rfl rfl ?_
  refine z_get (pc := 3) (v := .int (μ.1 1 8)) flX4_56 jnX4 ltC_1 kdC_1 rfl (by decide) rfl foC_1_8 rfl dX4_hasPhrase_3 ?_
  refine z_iconst (pc := 6) (v := 1) dX4_hasPhrase_6 rfl ?_
  refine z_isub (pc := 7) dX4_hasPhrase_7 ?_
  refine z_callSN (pc := 8) (As := [.int a1, .int (0 : Int32), .int ((μ.1 1 8) - (1 : Int32))]) (rest := []) kX4_74 (m_X6_within g μ a1 (0 : Int32) ((μ.1 1 8) - (1 : Int32))) ⟨rfl, rfl⟩ ⟨Nat.le_of_ble_eq_true rfl, Nat.le_of_ble_eq_true rfl⟩ (Nat.le_of_ble_eq_true rfl) rfl rfl dX4_hasPhrase_8 (fun r1 μ2 => ?_)
  change Zw g ΛC enI RX4 cX4_hasPhrase 2 (some .boolean) rX4_hasPhrase 11 [(0, .ref (g.2.2.1 1)), (1, .int a1)] [.int r1] μ2 _
  exact z_zret_g dX4_hasPhrase_11
def lp_X6_lettersIn_4 : Nat → Int32 → Int32 → Mm → (Int32 → Mm → Option (Int32 × Mm)) → Option (Int32 × Mm)
  | 0, _, _, _, _ => none
  | n + 1, y1, y2, μ, k => if y2 ≤ 0 then (k y1 μ) else (if (6 : Int32) < y1 then (k y1 μ) else (bd (f_X6_within (y2 - y2 / (10 : Int32) * (10 : Int32)) (1 : Int32) (8 : Int32) μ) fun r3 μ4 => if r3 = 0 then (some ((0 : Int32), μ4)) else (lp_X6_lettersIn_4 n (y1 + 1) (y2 / (10 : Int32)) μ4 k)))
theorem w_X6_lettersIn_4 (g : Gx) : ∀ (n : Nat) (y1 : Int32) (y2 : Int32) (μ : Mm) (k : Int32 → Mm → Option (Int32 × Mm)), (∀ (z1 : Int32) (ν : Mm), Zw g ΛC enI RX6 cX6_lettersIn 3 (some .int) rX6_lettersIn 40 [(1, .int z1)] [] ν (k z1 ν)) → Zw g ΛC enI RX6 cX6_lettersIn 3 (some .int) rX6_lettersIn 4 [(1, .int y1), (2, .int y2)] [] μ (lp_X6_lettersIn_4 n y1 y2 μ k) := by
  intro n
  induction n with
  | zero =>
    intro y1 y2 μ k hk
    exact z_none
  | succ n ih =>
    intro y1 y2 μ k hk
    rw [lp_X6_lettersIn_4]
    refine z_iload_n (pc := 4) 1 dX6_lettersIn_4 rfl rfl ?_
    refine z_if_le (pc := 5) (tgt := 40) dX6_lettersIn_5 (by decide) (fun h1 => ?_) (fun h1 => ?_)
    · refine z_sub (lv2 := [(1, .int y1)]) [0] rfl ?_
      exact hk _ _
    · refine z_iload_n (pc := 8) 0 dX6_lettersIn_8 rfl rfl ?_
      refine z_bipush (pc := 9) (v := 6) dX6_lettersIn_9 (by decide +kernel) ?_
      refine z_icmp_gt (pc := 11) (tgt := 40) dX6_lettersIn_11 (by decide) (fun h2 => ?_) (fun h2 => ?_)
      · refine z_sub (lv2 := [(1, .int y1)]) [0] rfl ?_
        exact hk _ _
      · refine z_iload_n (pc := 14) 1 dX6_lettersIn_14 rfl rfl ?_
        refine z_bipush (pc := 15) (v := 10) dX6_lettersIn_15 (by decide +kernel) ?_
        refine z_irem (pc := 17) dX6_lettersIn_17 (by decide +kernel) ?_
        refine z_iconst (pc := 18) (v := 1) dX6_lettersIn_18 rfl ?_
        refine z_bipush (pc := 19) (v := 8) dX6_lettersIn_19 (by decide +kernel) ?_
        refine z_callS (pc := 21) (As := [.int (y2 - y2 / (10 : Int32) * (10 : Int32)), .int (1 : Int32), .int (8 : Int32)]) (rest := []) kX6_86 (m_X6_within g μ (y2 - y2 / (10 : Int32) * (10 : Int32)) (1 : Int32) (8 : Int32)) ⟨rfl, rfl⟩ ⟨Nat.le_of_ble_eq_true rfl, Nat.le_of_ble_eq_true rfl⟩ (Nat.le_of_ble_eq_true rfl) rfl rfl dX6_lettersIn_21 (fun r3 μ4 => ?_)
        change Zw g ΛC enI RX6 cX6_lettersIn 3 (some .int) rX6_lettersIn 24 [(1, .int y1), (2, .int y2)] [.int r3] μ4 _
        refine z_if_ne (pc := 24) (tgt := 29) dX6_lettersIn_24 (by decide) (fun h5 => ?_) (fun h5 => ?_)
        · refine z_iinc (pc := 29) (v := y1 + 1) (lv2 := [(1, .int (y1 + 1)), (2, .int y2)]) 0 [0, 1] dX6_lettersIn_29 rfl (by rw [oi_1]) (by decide) rfl ?_
          refine z_iload_n (pc := 32) 1 dX6_lettersIn_32 rfl rfl ?_
          refine z_bipush (pc := 33) (v := 10) dX6_lettersIn_33 (by decide +kernel) ?_
          refine z_idiv (pc := 35) dX6_lettersIn_35 (by decide +kernel) ?_
          refine z_istore_n (pc := 36) (lv2 := [(1, .int (y1 + 1)), (2, .int (y2 / (10 : Int32)))]) [1, 0] dX6_lettersIn_36 rfl (by decide) rfl ?_
          refine z_goto (pc := 37) (tgt := 4) dX6_lettersIn_37 (by decide) ?_
          exact ih _ _ _ _ hk
        · refine z_iconst (pc := 27) (v := 0) dX6_lettersIn_27 rfl ?_
          exact z_iret dX6_lettersIn_28
def f_X6_lettersIn (a0 : Int32) (μ : Mm) : Option (Int32 × Mm) := lp_X6_lettersIn_4 FU (0 : Int32) a0 μ (fun x6 μ7 => if (6 : Int32) < x6 then (some ((0 : Int32), μ7)) else (some (x6, μ7)))
theorem m_X6_lettersIn (g : Gx) (μ : Mm) (a0 : Int32) : Zm g ΛC enI yX6_lettersIn cX6_lettersIn 3 (some .int) rX6_lettersIn [.int a0] μ (f_X6_lettersIn a0 μ) := by
  refine z_met (by decide +kernel) (Nat.le_of_ble_eq_true rfl) ?_
  change Zw g ΛC enI RX6 cX6_lettersIn 3 (some .int) rX6_lettersIn 0 [(0, .int a0)] [] μ (f_X6_lettersIn a0 μ)
  rw [f_X6_lettersIn]
  refine z_iconst (pc := 0) (v := 0) dX6_lettersIn_0 rfl ?_
  refine z_istore_n (pc := 1) (lv2 := [(0, .int a0), (1, .int (0 : Int32))]) [1, 0] dX6_lettersIn_1 rfl (by decide) rfl ?_
  refine z_iload_n (pc := 2) 0 dX6_lettersIn_2 rfl rfl ?_
  refine z_istore_n (pc := 3) (lv2 := [(0, .int a0), (1, .int (0 : Int32)), (2, .int a0)]) [1, 2, 0] dX6_lettersIn_3 rfl (by decide) rfl ?_
  refine z_sub (lv2 := [(1, .int (0 : Int32)), (2, .int a0)]) [1, 2] rfl ?_
  refine w_X6_lettersIn_4 g FU (0 : Int32) a0 μ _ (fun x6 μ7 => ?_)
  refine z_iload_n (pc := 40) 0 dX6_lettersIn_40 rfl rfl ?_
  refine z_bipush (pc := 41) (v := 6) dX6_lettersIn_41 (by decide +kernel) ?_
  refine z_icmp_gt (pc := 43) (tgt := 50) dX6_lettersIn_43 (by decide) (fun h8 => ?_) (fun h8 => ?_)
  · refine z_iconst (pc := 50) (v := 0) dX6_lettersIn_50 rfl ?_
    exact z_iret dX6_lettersIn_51
  · refine z_iload_n (pc := 46) 0 dX6_lettersIn_46 rfl rfl ?_
    refine z_goto (pc := 47) (tgt := 51) dX6_lettersIn_47 (by decide) ?_
    exact z_iret dX6_lettersIn_51
def f_X6_isSlot (a0 : Int32) (μ : Mm) : Option (Int32 × Mm) := bd (f_X6_within a0 (0 : Int32) (3 : Int32) μ) fun r1 μ2 => if r1 = 0 ∨ r1 = 1 then some (r1, μ2) else none
theorem m_X6_isSlot (g : Gx) (μ : Mm) (a0 : Int32) : Zm g ΛC enI yX6_isSlot cX6_isSlot 1 (some .boolean) rX6_isSlot [.int a0] μ (f_X6_isSlot a0 μ) := by
  refine z_met (by decide +kernel) (Nat.le_of_ble_eq_true rfl) ?_
  change Zw g ΛC enI RX6 cX6_isSlot 1 (some .boolean) rX6_isSlot 0 [(0, .int a0)] [] μ (f_X6_isSlot a0 μ)
  rw [f_X6_isSlot]
  refine z_iload_n (pc := 0) 0 dX6_isSlot_0 rfl rfl ?_
  refine z_iconst (pc := 1) (v := 0) dX6_isSlot_1 rfl ?_
  refine z_iconst (pc := 2) (v := 3) dX6_isSlot_2 rfl ?_
  refine z_callS (pc := 3) (As := [.int a0, .int (0 : Int32), .int (3 : Int32)]) (rest := []) kX6_86 (m_X6_within g μ a0 (0 : Int32) (3 : Int32)) ⟨rfl, rfl⟩ ⟨Nat.le_of_ble_eq_true rfl, Nat.le_of_ble_eq_true rfl⟩ (Nat.le_of_ble_eq_true rfl) rfl rfl dX6_isSlot_3 (fun r1 μ2 => ?_)
  change Zw g ΛC enI RX6 cX6_isSlot 1 (some .boolean) rX6_isSlot 6 [(0, .int a0)] [.int r1] μ2 _
  exact z_zret_g dX6_isSlot_6
def lp_X6_moraeIn_7 (c1 : Int32) : Nat → Int32 → Int32 → Int32 → Mm → (Int32 → Mm → Option (Int32 × Mm)) → Option (Int32 × Mm)
  | 0, _, _, _, _, _ => none
  | n + 1, y2, y3, y4, μ, k => if c1 ≤ y4 then (k y2 μ) else (if (y3 - y3 / (10 : Int32) * (10 : Int32)) < (5 : Int32) then (lp_X6_moraeIn_7 c1 n (y2 + (1 : Int32)) (y3 / (10 : Int32)) (y4 + 1) μ k) else (lp_X6_moraeIn_7 c1 n (y2 + (2 : Int32)) (y3 / (10 : Int32)) (y4 + 1) μ k))
theorem w_X6_moraeIn_7 (g : Gx) (c1 : Int32) : ∀ (n : Nat) (y2 : Int32) (y3 : Int32) (y4 : Int32) (μ : Mm) (k : Int32 → Mm → Option (Int32 × Mm)), (∀ (z2 : Int32) (ν : Mm), Zw g ΛC enI RX6 cX6_moraeIn 5 (some .int) rX6_moraeIn 40 [(2, .int z2)] [] ν (k z2 ν)) → Zw g ΛC enI RX6 cX6_moraeIn 5 (some .int) rX6_moraeIn 7 [(1, .int c1), (2, .int y2), (3, .int y3), (4, .int y4)] [] μ (lp_X6_moraeIn_7 c1 n y2 y3 y4 μ k) := by
  intro n
  induction n with
  | zero =>
    intro y2 y3 y4 μ k hk
    exact z_none
  | succ n ih =>
    intro y2 y3 y4 μ k hk
    rw [lp_X6_moraeIn_7]
    refine z_iload (pc := 7) 3 dX6_moraeIn_7 rfl ?_
    refine z_iload_n (pc := 9) 0 dX6_moraeIn_9 rfl rfl ?_
    refine z_icmp_ge (pc := 10) (tgt := 40) dX6_moraeIn_10 (by decide) (fun h1 => ?_) (fun h1 => ?_)
    · refine z_sub (lv2 := [(2, .int y2)]) [1] rfl ?_
      exact hk _ _
    · refine z_iload_n (pc := 13) 1 dX6_moraeIn_13 rfl rfl ?_
      refine z_iload_n (pc := 14) 2 dX6_moraeIn_14 rfl rfl ?_
      refine z_bipush (pc := 15) (v := 10) dX6_moraeIn_15 (by decide +kernel) ?_
      refine z_irem (pc := 17) dX6_moraeIn_17 (by decide +kernel) ?_
      refine z_iconst (pc := 18) (v := 5) dX6_moraeIn_18 rfl ?_
      refine z_icmp_lt (pc := 19) (tgt := 26) dX6_moraeIn_19 (by decide) (fun h2 => ?_) (fun h2 => ?_)
      · refine z_iconst (pc := 26) (v := 1) dX6_moraeIn_26 rfl ?_
        refine z_iadd (pc := 27) dX6_moraeIn_27 ?_
        refine z_istore_n (pc := 28) (lv2 := [(1, .int c1), (2, .int (y2 + (1 : Int32))), (3, .int y3), (4, .int y4)]) [1, 0, 2, 3] dX6_moraeIn_28 rfl (by decide) rfl ?_
        refine z_iload_n (pc := 29) 2 dX6_moraeIn_29 rfl rfl ?_
        refine z_bipush (pc := 30) (v := 10) dX6_moraeIn_30 (by decide +kernel) ?_
        refine z_idiv (pc := 32) dX6_moraeIn_32 (by decide +kernel) ?_
        refine z_istore_n (pc := 33) (lv2 := [(1, .int c1), (2, .int (y2 + (1 : Int32))), (3, .int (y3 / (10 : Int32))), (4, .int y4)]) [1, 2, 0, 3] dX6_moraeIn_33 rfl (by decide) rfl ?_
        refine z_iinc (pc := 34) (v := y4 + 1) (lv2 := [(1, .int c1), (2, .int (y2 + (1 : Int32))), (3, .int (y3 / (10 : Int32))), (4, .int (y4 + 1))]) 3 [1, 2, 3, 0] dX6_moraeIn_34 rfl (by rw [oi_1]) (by decide) rfl ?_
        refine z_goto (pc := 37) (tgt := 7) dX6_moraeIn_37 (by decide) ?_
        exact ih _ _ _ _ _ hk
      · refine z_iconst (pc := 22) (v := 2) dX6_moraeIn_22 rfl ?_
        refine z_goto (pc := 23) (tgt := 27) dX6_moraeIn_23 (by decide) ?_
        refine z_iadd (pc := 27) dX6_moraeIn_27 ?_
        refine z_istore_n (pc := 28) (lv2 := [(1, .int c1), (2, .int (y2 + (2 : Int32))), (3, .int y3), (4, .int y4)]) [1, 0, 2, 3] dX6_moraeIn_28 rfl (by decide) rfl ?_
        refine z_iload_n (pc := 29) 2 dX6_moraeIn_29 rfl rfl ?_
        refine z_bipush (pc := 30) (v := 10) dX6_moraeIn_30 (by decide +kernel) ?_
        refine z_idiv (pc := 32) dX6_moraeIn_32 (by decide +kernel) ?_
        refine z_istore_n (pc := 33) (lv2 := [(1, .int c1), (2, .int (y2 + (2 : Int32))), (3, .int (y3 / (10 : Int32))), (4, .int y4)]) [1, 2, 0, 3] dX6_moraeIn_33 rfl (by decide) rfl ?_
        refine z_iinc (pc := 34) (v := y4 + 1) (lv2 := [(1, .int c1), (2, .int (y2 + (2 : Int32))), (3, .int (y3 / (10 : Int32))), (4, .int (y4 + 1))]) 3 [1, 2, 3, 0] dX6_moraeIn_34 rfl (by rw [oi_1]) (by decide) rfl ?_
        refine z_goto (pc := 37) (tgt := 7) dX6_moraeIn_37 (by decide) ?_
        exact ih _ _ _ _ _ hk
def f_X6_moraeIn (a0 : Int32) (a1 : Int32) (μ : Mm) : Option (Int32 × Mm) := lp_X6_moraeIn_7 a1 FU (0 : Int32) a0 (0 : Int32) μ (fun x3 μ4 => some (x3, μ4))
theorem m_X6_moraeIn (g : Gx) (μ : Mm) (a0 : Int32) (a1 : Int32) : Zm g ΛC enI yX6_moraeIn cX6_moraeIn 5 (some .int) rX6_moraeIn [.int a0, .int a1] μ (f_X6_moraeIn a0 a1 μ) := by
  refine z_met (by decide +kernel) (Nat.le_of_ble_eq_true rfl) ?_
  change Zw g ΛC enI RX6 cX6_moraeIn 5 (some .int) rX6_moraeIn 0 [(0, .int a0), (1, .int a1)] [] μ (f_X6_moraeIn a0 a1 μ)
  rw [f_X6_moraeIn]
  refine z_iconst (pc := 0) (v := 0) dX6_moraeIn_0 rfl ?_
  refine z_istore_n (pc := 1) (lv2 := [(0, .int a0), (1, .int a1), (2, .int (0 : Int32))]) [1, 2, 0] dX6_moraeIn_1 rfl (by decide) rfl ?_
  refine z_iload_n (pc := 2) 0 dX6_moraeIn_2 rfl rfl ?_
  refine z_istore_n (pc := 3) (lv2 := [(0, .int a0), (1, .int a1), (2, .int (0 : Int32)), (3, .int a0)]) [1, 2, 3, 0] dX6_moraeIn_3 rfl (by decide) rfl ?_
  refine z_iconst (pc := 4) (v := 0) dX6_moraeIn_4 rfl ?_
  refine z_istore (pc := 5) (lv2 := [(0, .int a0), (1, .int a1), (2, .int (0 : Int32)), (3, .int a0), (4, .int (0 : Int32))]) [1, 2, 3, 4, 0] dX6_moraeIn_5 (by decide) rfl ?_
  refine z_sub (lv2 := [(1, .int a1), (2, .int (0 : Int32)), (3, .int a0), (4, .int (0 : Int32))]) [1, 2, 3, 4] rfl ?_
  refine w_X6_moraeIn_7 g a1 FU (0 : Int32) a0 (0 : Int32) μ _ (fun x3 μ4 => ?_)
  refine z_iload_n (pc := 40) 0 dX6_moraeIn_40 rfl rfl ?_
  exact z_iret dX6_moraeIn_41
