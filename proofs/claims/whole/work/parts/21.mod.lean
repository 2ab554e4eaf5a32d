def f_X7_of (a1 : Int32) (a2 : Int32) (μ : Mm) : Option (Int32 × Mm) := bd (f_X7_isPhrase a1 μ) fun r1 μ2 => if r1 = 0 then (bd (f_X7_bad μ2) fun r4 μ5 => some (r4, μ5)) else (bd (f_X7_within a2.toInt64 (0 : Int64) (6 : Int64) μ2) fun r6 μ7 => if r6 = 0 then (bd (f_X7_bad μ7) fun r9 μ10 => some (r9, μ10)) else (bd (f_X7_tellPhrase a1 a2 μ7) fun r11 μ12 => some (r11, μ12)))
theorem m_X7_of (g : Gx) (μ : Mm) (a1 : Int32) (a2 : Int32) : Zm g ΛM enI yX7_of cX7_of 3 (some .int) rX7_of [.ref (g.2.2.1 0), .int a1, .int a2] μ (f_X7_of a1 a2 μ) := by
  refine z_met (by decide +kernel) (Nat.le_of_ble_eq_true rfl) ?_
  change Zw g ΛM enI RX7 cX7_of 3 (some .int) rX7_of 0 [(0, .ref (g.2.2.1 0)), (1, .int a1), (2, .int a2)] [] μ (f_X7_of a1 a2 μ)
  rw [f_X7_of]
  refine z_aload_n (pc := 0) 0 dX7_of_0 rfl rfl ?_
  refine z_iload_n (pc := 1) 1 dX7_of_1 rfl rfl ?_
  refine z_callV (pc := 2) (b := 0) (As := [.int a1]) (rest := []) kX7_78 (m_X7_isPhrase g μ a1) ltM_0 kdM_0 rfl rfl ⟨rfl, rfl⟩ ⟨Nat.le_of_ble_eq_true rfl, Nat.le_of_ble_eq_true rfl⟩ (Nat.le_of_ble_eq_true rfl) rfl rfl dX7_of_2 (fun r1 μ2 => ?_)
  change Zw g ΛM enI RX7 cX7_of 3 (some .int) rX7_of 5 [(0, .ref (g.2.2.1 0)), (1, .int a1), (2, .int a2)] [.int r1] μ2 _
  refine z_if_eq (pc := 5) (tgt := 29) dX7_of_5 (by decide) (fun h3 => ?_) (fun h3 => ?_)
  · refine z_aload_n (pc := 29) 0 dX7_of_29 rfl rfl ?_
    refine z_callV (pc := 30) (b := 0) (As := []) (rest := []) kX7_65 (m_X7_bad g μ2) ltM_0 kdM_0 rfl rfl ⟨rfl, rfl⟩ ⟨Nat.le_of_ble_eq_true rfl, Nat.le_of_ble_eq_true rfl⟩ (Nat.le_of_ble_eq_true rfl) rfl rfl dX7_of_30 (fun r4 μ5 => ?_)
    change Zw g ΛM enI RX7 cX7_of 3 (some .int) rX7_of 33 [(0, .ref (g.2.2.1 0)), (1, .int a1), (2, .int a2)] [.int r4] μ5 _
    exact z_iret dX7_of_33
  · refine z_iload_n (pc := 8) 2 dX7_of_8 rfl rfl ?_
    refine z_i2l (pc := 9) dX7_of_9 ?_
    refine z_lconst (pc := 10) (v := 0) dX7_of_10 (by decide +kernel) ?_
    refine z_ldc2 (pc := 11) (v := 6) klX7_116 dX7_of_11 ?_
    refine z_callS (pc := 14) (As := [.long a2.toInt64, .long (0 : Int64), .long (6 : Int64)]) (rest := []) kX7_47 (m_X7_within g μ2 a2.toInt64 (0 : Int64) (6 : Int64)) ⟨rfl, rfl⟩ ⟨Nat.le_of_ble_eq_true rfl, Nat.le_of_ble_eq_true rfl⟩ (Nat.le_of_ble_eq_true rfl) rfl rfl dX7_of_14 (fun r6 μ7 => ?_)
    change Zw g ΛM enI RX7 cX7_of 3 (some .int) rX7_of 17 [(0, .ref (g.2.2.1 0)), (1, .int a1), (2, .int a2)] [.int r6] μ7 _
    refine z_if_eq (pc := 17) (tgt := 29) dX7_of_17 (by decide) (fun h8 => ?_) (fun h8 => ?_)
    · refine z_aload_n (pc := 29) 0 dX7_of_29 rfl rfl ?_
      refine z_callV (pc := 30) (b := 0) (As := []) (rest := []) kX7_65 (m_X7_bad g μ7) ltM_0 kdM_0 rfl rfl ⟨rfl, rfl⟩ ⟨Nat.le_of_ble_eq_true rfl, Nat.le_of_ble_eq_true rfl⟩ (Nat.le_of_ble_eq_true rfl) rfl rfl dX7_of_30 (fun r9 μ10 => ?_)
      change Zw g ΛM enI RX7 cX7_of 3 (some .int) rX7_of 33 [(0, .ref (g.2.2.1 0)), (1, .int a1), (2, .int a2)] [.int r9] μ10 _
      exact z_iret dX7_of_33
    · refine z_aload_n (pc := 20) 0 dX7_of_20 rfl rfl ?_
      refine z_iload_n (pc := 21) 1 dX7_of_21 rfl rfl ?_
      refine z_iload_n (pc := 22) 2 dX7_of_22 rfl rfl ?_
      refine z_callV (pc := 23) (b := 0) (As := [.int a1, .int a2]) (rest := []) kX7_118 (m_X7_tellPhrase g μ7 a1 a2) ltM_0 kdM_0 rfl rfl ⟨rfl, rfl⟩ ⟨Nat.le_of_ble_eq_true rfl, Nat.le_of_ble_eq_true rfl⟩ (Nat.le_of_ble_eq_true rfl) rfl rfl dX7_of_23 (fun r11 μ12 => ?_)
      change Zw g ΛM enI RX7 cX7_of 3 (some .int) rX7_of 26 [(0, .ref (g.2.2.1 0)), (1, .int a1), (2, .int a2)] [.int r11] μ12 _
      refine z_goto (pc := 26) (tgt := 33) dX7_of_26 (by decide) ?_
      exact z_iret dX7_of_33
def f_X7_letter (a1 : Int32) (μ : Mm) : Option (Int32 × Mm) := bd (f_X7_within a1.toInt64 (1 : Int64) (8 : Int64) μ) fun r1 μ2 => if r1 = 0 then (bd (f_X7_bad μ2) fun r11 μ12 => some (r11, μ12)) else (if (μ2.1 1 1) = (40 : Int32) then (bd (f_X7_full μ2) fun r9 μ10 => some (r9, μ10)) else (bd (f_X7_laysAside μ2) fun r5 μ6 => if zin ((69 : Int32) + (μ6.1 1 1)) 148 then (bd (f_X7_leaves (si (si μ6 1 (((69 : Int32) + (μ6.1 1 1)).toNatClampNeg) a1) 1 1 (((si μ6 1 (((69 : Int32) + (μ6.1 1 1)).toNatClampNeg) a1).1 1 1) + (1 : Int32)))) fun r7 μ8 => some (μ8.1 1 1, μ8)) else none))
theorem m_X7_letter (g : Gx) (μ : Mm) (a1 : Int32) : Zm g ΛM enI yX7_letter cX7_letter 2 (some .int) rX7_letter [.ref (g.2.2.1 0), .int a1] μ (f_X7_letter a1 μ) := by
  refine z_met (by decide +kernel) (Nat.le_of_ble_eq_true rfl) ?_
  change Zw g ΛM enI RX7 cX7_letter 2 (some .int) rX7_letter 0 [(0, .ref (g.2.2.1 0)), (1, .int a1)] [] μ (f_X7_letter a1 μ)
  rw [f_X7_letter]
  refine z_iload_n (pc := 0) 1 dX7_letter_0 rfl rfl ?_
  refine z_i2l (pc := 1) dX7_letter_1 ?_
  refine z_lconst (pc := 2) (v := 1) dX7_letter_2 (by decide +kernel) ?_
  refine z_ldc2 (pc := 3) (v := 8) klX7_70 dX7_letter_3 ?_
  refine z_callS (pc := 6) (As := [.long a1.toInt64, .long (1 : Int64), .long (8 : Int64)]) (rest := []) kX7_47 (m_X7_within g μ a1.toInt64 (1 : Int64) (8 : Int64)) ⟨rfl, rfl⟩ ⟨Nat.le_of_ble_eq_true rfl, Nat.le_of_ble_eq_true rfl⟩ (Nat.le_of_ble_eq_true rfl) rfl rfl dX7_letter_6 (fun r1 μ2 => ?_)
  change Zw g ΛM enI RX7 cX7_letter 2 (some .int) rX7_letter 9 [(0, .ref (g.2.2.1 0)), (1, .int a1)] [.int r1] μ2 _
  refine z_if_ne (pc := 9) (tgt := 17) dX7_letter_9 (by decide) (fun h3 => ?_) (fun h3 => ?_)
  · refine z_aload_n (pc := 17) 0 dX7_letter_17 rfl rfl ?_
    refine z_get (pc := 18) (v := .ref (g.2.2.1 1)) flX7_7 jnX7 ltM_0 kdM_0 rfl (by decide) rfl foM_0_0 rfl dX7_letter_18 ?_
    refine z_iconst (pc := 21) (v := 1) dX7_letter_21 rfl ?_
    refine z_iaload (pc := 22) (j := 1) ltM_1 kdM_1 (by decide +kernel) (by decide +kernel) dX7_letter_22 ?_
    refine z_bipush (pc := 23) (v := 40) dX7_letter_23 (by decide +kernel) ?_
    refine z_icmp_ne (pc := 25) (tgt := 33) dX7_letter_25 (by decide) (fun h4 => ?_) (fun h4 => ?_)
    · refine z_aload_n (pc := 33) 0 dX7_letter_33 rfl rfl ?_
      refine z_callV (pc := 34) (b := 0) (As := []) (rest := []) kX7_87 (m_X7_laysAside g μ2) ltM_0 kdM_0 rfl rfl ⟨rfl, rfl⟩ ⟨Nat.le_of_ble_eq_true rfl, Nat.le_of_ble_eq_true rfl⟩ (Nat.le_of_ble_eq_true rfl) rfl rfl dX7_letter_34 (fun r5 μ6 => ?_)
      change Zw g ΛM enI RX7 cX7_letter 2 (some .int) rX7_letter 37 [(0, .ref (g.2.2.1 0)), (1, .int a1)] [] μ6 _
      refine z_aload_n (pc := 37) 0 dX7_letter_37 rfl rfl ?_
      refine z_get (pc := 38) (v := .ref (g.2.2.1 1)) flX7_7 jnX7 ltM_0 kdM_0 rfl (by decide) rfl foM_0_0 rfl dX7_letter_38 ?_
      refine z_bipush (pc := 41) (v := 69) dX7_letter_41 (by decide +kernel) ?_
      refine z_aload_n (pc := 43) 0 dX7_letter_43 rfl rfl ?_
      refine z_get (pc := 44) (v := .ref (g.2.2.1 1)) flX7_7 jnX7 ltM_0 kdM_0 rfl (by decide) rfl foM_0_0 rfl dX7_letter_44 ?_
      refine z_iconst (pc := 47) (v := 1) dX7_letter_47 rfl ?_
      refine z_iaload (pc := 48) (j := 1) ltM_1 kdM_1 (by decide +kernel) (by decide +kernel) dX7_letter_48 ?_
      refine z_iadd (pc := 49) dX7_letter_49 ?_
      refine z_iload_n (pc := 50) 1 dX7_letter_50 rfl rfl ?_
      refine z_iastore_g (pc := 51) ltM_1 kdM_1 dX7_letter_51 ?_
      refine z_aload_n (pc := 52) 0 dX7_letter_52 rfl rfl ?_
      refine z_get (pc := 53) (v := .ref (g.2.2.1 1)) flX7_7 jnX7 ltM_0 kdM_0 rfl (by decide) rfl foM_0_0 rfl dX7_letter_53 ?_
      refine z_iconst (pc := 56) (v := 1) dX7_letter_56 rfl ?_
      refine z_dup2 (pc := 57) dX7_letter_57 rfl rfl ?_
      refine z_iaload (pc := 58) (j := 1) ltM_1 kdM_1 (by decide +kernel) (by decide +kernel) dX7_letter_58 ?_
      refine z_iconst (pc := 59) (v := 1) dX7_letter_59 rfl ?_
      refine z_iadd (pc := 60) dX7_letter_60 ?_
      refine z_iastore (pc := 61) (j := 1) ltM_1 kdM_1 (by decide +kernel) (by decide +kernel) dX7_letter_61 ?_
      refine z_aload_n (pc := 62) 0 dX7_letter_62 rfl rfl ?_
      refine z_callV (pc := 63) (b := 0) (As := []) (rest := []) kX7_59 (m_X7_leaves g (si (si μ6 1 (((69 : Int32) + (μ6.1 1 1)).toNatClampNeg) a1) 1 1 (((si μ6 1 (((69 : Int32) + (μ6.1 1 1)).toNatClampNeg) a1).1 1 1) + (1 : Int32)))) ltM_0 kdM_0 rfl rfl ⟨rfl, rfl⟩ ⟨Nat.le_of_ble_eq_true rfl, Nat.le_of_ble_eq_true rfl⟩ (Nat.le_of_ble_eq_true rfl) rfl rfl dX7_letter_63 (fun r7 μ8 => ?_)
      change Zw g ΛM enI RX7 cX7_letter 2 (some .int) rX7_letter 66 [(0, .ref (g.2.2.1 0)), (1, .int a1)] [] μ8 _
      refine z_aload_n (pc := 66) 0 dX7_letter_66 rfl rfl ?_
      refine z_get (pc := 67) (v := .ref (g.2.2.1 1)) flX7_7 jnX7 ltM_0 kdM_0 rfl (by decide) rfl foM_0_0 rfl dX7_letter_67 ?_
      refine z_iconst (pc := 70) (v := 1) dX7_letter_70 rfl ?_
      refine z_iaload (pc := 71) (j := 1) ltM_1 kdM_1 (by decide +kernel) (by decide +kernel) dX7_letter_71 ?_
      exact z_iret dX7_letter_72
    · refine z_aload_n (pc := 28) 0 dX7_letter_28 rfl rfl ?_
      refine z_callV (pc := 29) (b := 0) (As := []) (rest := []) kX7_62 (m_X7_full g μ2) ltM_0 kdM_0 rfl rfl ⟨rfl, rfl⟩ ⟨Nat.le_of_ble_eq_true rfl, Nat.le_of_ble_eq_true rfl⟩ (Nat.le_of_ble_eq_true rfl) rfl rfl dX7_letter_29 (fun r9 μ10 => ?_)
      change Zw g ΛM enI RX7 cX7_letter 2 (some .int) rX7_letter 32 [(0, .ref (g.2.2.1 0)), (1, .int a1)] [.int r9] μ10 _
      exact z_iret dX7_letter_32
  · refine z_aload_n (pc := 12) 0 dX7_letter_12 rfl rfl ?_
    refine z_callV (pc := 13) (b := 0) (As := []) (rest := []) kX7_65 (m_X7_bad g μ2) ltM_0 kdM_0 rfl rfl ⟨rfl, rfl⟩ ⟨Nat.le_of_ble_eq_true rfl, Nat.le_of_ble_eq_true rfl⟩ (Nat.le_of_ble_eq_true rfl) rfl rfl dX7_letter_13 (fun r11 μ12 => ?_)
    change Zw g ΛM enI RX7 cX7_letter 2 (some .int) rX7_letter 16 [(0, .ref (g.2.2.1 0)), (1, .int a1)] [.int r11] μ12 _
    exact z_iret dX7_letter_16
def f_X7_wipes (μ : Mm) : Option (Int32 × Mm) := bd (f_X7_laysAside μ) fun r1 μ2 => bd (f_X7_leaves (si μ2 1 1 (0 : Int32))) fun r3 μ4 => some (μ2.1 1 1, μ4)
theorem m_X7_wipes (g : Gx) (μ : Mm) : Zm g ΛM enI yX7_wipes cX7_wipes 2 (some .int) rX7_wipes [.ref (g.2.2.1 0)] μ (f_X7_wipes μ) := by
  refine z_met (by decide +kernel) (Nat.le_of_ble_eq_true rfl) ?_
  change Zw g ΛM enI RX7 cX7_wipes 2 (some .int) rX7_wipes 0 [(0, .ref (g.2.2.1 0))] [] μ (f_X7_wipes μ)
  rw [f_X7_wipes]
  refine z_aload_n (pc := 0) 0 dX7_wipes_0 rfl rfl ?_
  refine z_callV (pc := 1) (b := 0) (As := []) (rest := []) kX7_87 (m_X7_laysAside g μ) ltM_0 kdM_0 rfl rfl ⟨rfl, rfl⟩ ⟨Nat.le_of_ble_eq_true rfl, Nat.le_of_ble_eq_true rfl⟩ (Nat.le_of_ble_eq_true rfl) rfl rfl dX7_wipes_1 (fun r1 μ2 => ?_)
  change Zw g ΛM enI RX7 cX7_wipes 2 (some .int) rX7_wipes 4 [(0, .ref (g.2.2.1 0))] [] μ2 _
  refine z_aload_n (pc := 4) 0 dX7_wipes_4 rfl rfl ?_
  refine z_get (pc := 5) (v := .ref (g.2.2.1 1)) flX7_7 jnX7 ltM_0 kdM_0 rfl (by decide) rfl foM_0_0 rfl dX7_wipes_5 ?_
  refine z_iconst (pc := 8) (v := 1) dX7_wipes_8 rfl ?_
  refine z_iaload (pc := 9) (j := 1) ltM_1 kdM_1 (by decide +kernel) (by decide +kernel) dX7_wipes_9 ?_
  refine z_istore_n (pc := 10) (lv2 := [(0, .ref (g.2.2.1 0)), (1, .int (μ2.1 1 1))]) [1, 0] dX7_wipes_10 rfl (by decide) rfl ?_
  refine z_aload_n (pc := 11) 0 dX7_wipes_11 rfl rfl ?_
  refine z_get (pc := 12) (v := .ref (g.2.2.1 1)) flX7_7 jnX7 ltM_0 kdM_0 rfl (by decide) rfl foM_0_0 rfl dX7_wipes_12 ?_
  refine z_iconst (pc := 15) (v := 1) dX7_wipes_15 rfl ?_
  refine z_iconst (pc := 16) (v := 0) dX7_wipes_16 rfl ?_
  refine z_iastore (pc := 17) (j := 1) ltM_1 kdM_1 (by decide +kernel) (by decide +kernel) dX7_wipes_17 ?_
  refine z_aload_n (pc := 18) 0 dX7_wipes_18 rfl rfl ?_
  refine z_callV (pc := 19) (b := 0) (As := []) (rest := []) kX7_59 (m_X7_leaves g (si μ2 1 1 (0 : Int32))) ltM_0 kdM_0 rfl rfl ⟨rfl, rfl⟩ ⟨Nat.le_of_ble_eq_true rfl, Nat.le_of_ble_eq_true rfl⟩ (Nat.le_of_ble_eq_true rfl) rfl rfl dX7_wipes_19 (fun r3 μ4 => ?_)
  change Zw g ΛM enI RX7 cX7_wipes 2 (some .int) rX7_wipes 22 [(0, .ref (g.2.2.1 0)), (1, .int (μ2.1 1 1))] [] μ4 _
  refine z_iload_n (pc := 22) 1 dX7_wipes_22 rfl rfl ?_
  exact z_iret dX7_wipes_23
def f_X7_lastPlace (μ : Mm) : Option (Int32 × Mm) := if (μ.1 0 7) = 0 then (some (μ.1 1 2, μ)) else (some (μ.1 1 1, μ))
theorem m_X7_lastPlace (g : Gx) (μ : Mm) : Zm g ΛM enI yX7_lastPlace cX7_lastPlace 1 (some .int) rX7_lastPlace [.ref (g.2.2.1 0)] μ (f_X7_lastPlace μ) := by
  refine z_met (by decide +kernel) (Nat.le_of_ble_eq_true rfl) ?_
  change Zw g ΛM enI RX7 cX7_lastPlace 1 (some .int) rX7_lastPlace 0 [(0, .ref (g.2.2.1 0))] [] μ (f_X7_lastPlace μ)
  rw [f_X7_lastPlace]
  refine z_aload_n (pc := 0) 0 dX7_lastPlace_0 rfl rfl ?_
  refine z_get (pc := 1) (v := .int (μ.1 0 7)) flX7_121 jnX7 ltM_0 kdM_0 rfl (by decide) rfl foM_0_7 rfl dX7_lastPlace_1 ?_
  refine z_if_eq (pc := 4) (tgt := 16) dX7_lastPlace_4 (by decide) (fun h1 => ?_) (fun h1 => ?_)
  · refine z_aload_n (pc := 16) 0 dX7_lastPlace_16 rfl rfl ?_
    refine z_get (pc := 17) (v := .ref (g.2.2.1 1)) flX7_7 jnX7 ltM_0 kdM_0 rfl (by decide) rfl foM_0_0 rfl dX7_lastPlace_17 ?_
    refine z_iconst (pc := 20) (v := 2) dX7_lastPlace_20 rfl ?_
    refine z_iaload (pc := 21) (j := 2) ltM_1 kdM_1 (by decide +kernel) (by decide +kernel) dX7_lastPlace_21 ?_
    exact z_iret dX7_lastPlace_22
  · refine z_aload_n (pc := 7) 0 dX7_lastPlace_7 rfl rfl ?_
    refine z_get (pc := 8) (v := .ref (g.2.2.1 1)) flX7_7 jnX7 ltM_0 kdM_0 rfl (by decide) rfl foM_0_0 rfl dX7_lastPlace_8 ?_
    refine z_iconst (pc := 11) (v := 1) dX7_lastPlace_11 rfl ?_
    refine z_iaload (pc := 12) (j := 1) ltM_1 kdM_1 (by decide +kernel) (by decide +kernel) dX7_lastPlace_12 ?_
    refine z_goto (pc := 13) (tgt := 22) dX7_lastPlace_13 (by decide) ?_
    exact z_iret dX7_lastPlace_22
def lp_X7_standsAhead_16 : Nat → Int32 → Int32 → Int32 → Mm → (Int32 → Mm → Option (Int32 × Mm)) → Option (Int32 × Mm)
  | 0, _, _, _, _, _ => none
  | n + 1, y3, y4, y5, μ, k => if y5 ≤ 0 then (k y4 μ) else (if y4 = 0 then (k y4 μ) else (if zin ((69 : Int32) + (y3 + -1)) 148 then (if (μ.1 1 (((69 : Int32) + (y3 + -1)).toNatClampNeg)) = (y5 - y5 / (10 : Int32) * (10 : Int32)) then (lp_X7_standsAhead_16 n (y3 + -1) (1 : Int32) (y5 / (10 : Int32)) μ k) else (lp_X7_standsAhead_16 n (y3 + -1) (0 : Int32) (y5 / (10 : Int32)) μ k)) else none))
theorem w_X7_standsAhead_16 (g : Gx) : ∀ (n : Nat) (y3 : Int32) (y4 : Int32) (y5 : Int32) (μ : Mm) (k : Int32 → Mm → Option (Int32 × Mm)), (∀ (z4 : Int32) (ν : Mm), Zw g ΛM enI RX7 cX7_standsAhead 6 (some .boolean) rX7_standsAhead 63 [(4, .int z4)] [] ν (k z4 ν)) → Zw g ΛM enI RX7 cX7_standsAhead 6 (some .boolean) rX7_standsAhead 16 [(0, .ref (g.2.2.1 0)), (3, .int y3), (4, .int y4), (5, .int y5)] [] μ (lp_X7_standsAhead_16 n y3 y4 y5 μ k) := by
  intro n
  induction n with
  | zero =>
    intro y3 y4 y5 μ k hk
    exact z_none
  | succ n ih =>
    intro y3 y4 y5 μ k hk
    rw [lp_X7_standsAhead_16]
    refine z_iload (pc := 16) 3 dX7_standsAhead_16 rfl ?_
    refine z_if_le (pc := 18) (tgt := 63) dX7_standsAhead_18 (by decide) (fun h1 => ?_) (fun h1 => ?_)
    · refine z_sub (lv2 := [(4, .int y4)]) [2] rfl ?_
      exact hk _ _
    · refine z_iload (pc := 21) 2 dX7_standsAhead_21 rfl ?_
      refine z_if_eq (pc := 23) (tgt := 63) dX7_standsAhead_23 (by decide) (fun h2 => ?_) (fun h2 => ?_)
      · refine z_sub (lv2 := [(4, .int y4)]) [2] rfl ?_
        exact hk _ _
      · refine z_iinc (pc := 26) (v := y3 + -1) (lv2 := [(0, .ref (g.2.2.1 0)), (3, .int (y3 + -1)), (4, .int y4), (5, .int y5)]) 1 [1, 0, 2, 3] dX7_standsAhead_26 rfl (by rw [oi_n1]) (by decide) rfl ?_
        refine z_aload_n (pc := 29) 0 dX7_standsAhead_29 rfl rfl ?_
        refine z_get (pc := 30) (v := .ref (g.2.2.1 1)) flX7_7 jnX7 ltM_0 kdM_0 rfl (by decide) rfl foM_0_0 rfl dX7_standsAhead_30 ?_
        refine z_bipush (pc := 33) (v := 69) dX7_standsAhead_33 (by decide +kernel) ?_
        refine z_iload_n (pc := 35) 1 dX7_standsAhead_35 rfl rfl ?_
        refine z_iadd (pc := 36) dX7_standsAhead_36 ?_
        refine z_iaload_g (pc := 37) ltM_1 kdM_1 dX7_standsAhead_37 ?_
        refine z_iload (pc := 38) 3 dX7_standsAhead_38 rfl ?_
        refine z_bipush (pc := 40) (v := 10) dX7_standsAhead_40 (by decide +kernel) ?_
        refine z_irem (pc := 42) dX7_standsAhead_42 (by decide +kernel) ?_
        refine z_icmp_ne (pc := 43) (tgt := 50) dX7_standsAhead_43 (by decide) (fun h3 => ?_) (fun h3 => ?_)
        · refine z_iconst (pc := 50) (v := 0) dX7_standsAhead_50 rfl ?_
          refine z_istore (pc := 51) (lv2 := [(0, .ref (g.2.2.1 0)), (3, .int (y3 + -1)), (4, .int (0 : Int32)), (5, .int y5)]) [1, 2, 0, 3] dX7_standsAhead_51 (by decide) rfl ?_
          refine z_iload (pc := 53) 3 dX7_standsAhead_53 rfl ?_
          refine z_bipush (pc := 55) (v := 10) dX7_standsAhead_55 (by decide +kernel) ?_
          refine z_idiv (pc := 57) dX7_standsAhead_57 (by decide +kernel) ?_
          refine z_istore (pc := 58) (lv2 := [(0, .ref (g.2.2.1 0)), (3, .int (y3 + -1)), (4, .int (0 : Int32)), (5, .int (y5 / (10 : Int32)))]) [1, 2, 3, 0] dX7_standsAhead_58 (by decide) rfl ?_
          refine z_goto (pc := 60) (tgt := 16) dX7_standsAhead_60 (by decide) ?_
          exact ih _ _ _ _ _ hk
        · refine z_iconst (pc := 46) (v := 1) dX7_standsAhead_46 rfl ?_
          refine z_goto (pc := 47) (tgt := 51) dX7_standsAhead_47 (by decide) ?_
          refine z_istore (pc := 51) (lv2 := [(0, .ref (g.2.2.1 0)), (3, .int (y3 + -1)), (4, .int (1 : Int32)), (5, .int y5)]) [1, 2, 0, 3] dX7_standsAhead_51 (by decide) rfl ?_
          refine z_iload (pc := 53) 3 dX7_standsAhead_53 rfl ?_
          refine z_bipush (pc := 55) (v := 10) dX7_standsAhead_55 (by decide +kernel) ?_
          refine z_idiv (pc := 57) dX7_standsAhead_57 (by decide +kernel) ?_
          refine z_istore (pc := 58) (lv2 := [(0, .ref (g.2.2.1 0)), (3, .int (y3 + -1)), (4, .int (1 : Int32)), (5, .int (y5 / (10 : Int32)))]) [1, 2, 3, 0] dX7_standsAhead_58 (by decide) rfl ?_
          refine z_goto (pc := 60) (tgt := 16) dX7_standsAhead_60 (by decide) ?_
          exact ih _ _ _ _ _ hk
def f_X7_standsAhead (a1 : Int32) (a2 : Int32) (μ : Mm) : Option (Int32 × Mm) := if zin ((21 : Int32) + a1) 148 then (lp_X7_standsAhead_16 FU a2 (1 : Int32) (μ.1 1 (((21 : Int32) + a1).toNatClampNeg)) μ (fun x4 μ5 => if x4 = 0 ∨ x4 = 1 then some (x4, μ5) else none)) else none
theorem m_X7_standsAhead (g : Gx) (μ : Mm) (a1 : Int32) (a2 : Int32) : Zm g ΛM enI yX7_standsAhead cX7_standsAhead 6 (some .boolean) rX7_standsAhead [.ref (g.2.2.1 0), .int a1, .int a2] μ (f_X7_standsAhead a1 a2 μ) := by
  refine z_met (by decide +kernel) (Nat.le_of_ble_eq_true rfl) ?_
  change Zw g ΛM enI RX7 cX7_standsAhead 6 (some .boolean) rX7_standsAhead 0 [(0, .ref (g.2.2.1 0)), (1, .int a1), (2, .int a2)] [] μ (f_X7_standsAhead a1 a2 μ)
  rw [f_X7_standsAhead]
  refine z_iload_n (pc := 0) 2 dX7_standsAhead_0 rfl rfl ?_
  refine z_istore_n (pc := 1) (lv2 := [(0, .ref (g.2.2.1 0)), (1, .int a1), (2, .int a2), (3, .int a2)]) [1, 2, 3, 0] dX7_standsAhead_1 rfl (by decide) rfl ?_
  refine z_iconst (pc := 2) (v := 1) dX7_standsAhead_2 rfl ?_
  refine z_istore (pc := 3) (lv2 := [(0, .ref (g.2.2.1 0)), (1, .int a1), (2, .int a2), (3, .int a2), (4, .int (1 : Int32))]) [1, 2, 3, 4, 0] dX7_standsAhead_3 (by decide) rfl ?_
  refine z_aload_n (pc := 5) 0 dX7_standsAhead_5 rfl rfl ?_
  refine z_get (pc := 6) (v := .ref (g.2.2.1 1)) flX7_7 jnX7 ltM_0 kdM_0 rfl (by decide) rfl foM_0_0 rfl dX7_standsAhead_6 ?_
  refine z_bipush (pc := 9) (v := 21) dX7_standsAhead_9 (by decide +kernel) ?_
  refine z_iload_n (pc := 11) 1 dX7_standsAhead_11 rfl rfl ?_
  refine z_iadd (pc := 12) dX7_standsAhead_12 ?_
  refine z_iaload_g (pc := 13) ltM_1 kdM_1 dX7_standsAhead_13 ?_
  refine z_istore (pc := 14) (lv2 := [(0, .ref (g.2.2.1 0)), (1, .int a1), (2, .int a2), (3, .int a2), (4, .int (1 : Int32)), (5, .int (μ.1 1 (((21 : Int32) + a1).toNatClampNeg)))]) [1, 2, 3, 4, 5, 0] dX7_standsAhead_14 (by decide) rfl ?_
  refine z_sub (lv2 := [(0, .ref (g.2.2.1 0)), (3, .int a2), (4, .int (1 : Int32)), (5, .int (μ.1 1 (((21 : Int32) + a1).toNatClampNeg)))]) [0, 3, 4, 5] rfl ?_
  refine w_X7_standsAhead_16 g FU a2 (1 : Int32) (μ.1 1 (((21 : Int32) + a1).toNatClampNeg)) μ _ (fun x4 μ5 => ?_)
  refine z_iload (pc := 63) 0 dX7_standsAhead_63 rfl ?_
  exact z_zret_g dX7_standsAhead_65
def f_X7_isMark (a1 : Int32) (a2 : Int32) (μ : Mm) : Option (Int32 × Mm) := if (μ.1 1 2) ≤ a1 then (some ((0 : Int32), μ)) else (if a1 ≤ 0 then (some ((0 : Int32), μ)) else (if zin ((108 : Int32) + a1) 148 then (if (μ.1 1 (((108 : Int32) + a1).toNatClampNeg)) = a2 then (some ((1 : Int32), μ)) else (some ((0 : Int32), μ))) else none))
theorem m_X7_isMark (g : Gx) (μ : Mm) (a1 : Int32) (a2 : Int32) : Zm g ΛM enI yX7_isMark cX7_isMark 3 (some .boolean) rX7_isMark [.ref (g.2.2.1 0), .int a1, .int a2] μ (f_X7_isMark a1 a2 μ) := by
  refine z_met (by decide +kernel) (Nat.le_of_ble_eq_true rfl) ?_
  change Zw g ΛM enI RX7 cX7_isMark 3 (some .boolean) rX7_isMark 0 [(0, .ref (g.2.2.1 0)), (1, .int a1), (2, .int a2)] [] μ (f_X7_isMark a1 a2 μ)
  rw [f_X7_isMark]
  refine z_iload_n (pc := 0) 1 dX7_isMark_0 rfl rfl ?_
  refine z_aload_n (pc := 1) 0 dX7_isMark_1 rfl rfl ?_
  refine z_get (pc := 2) (v := .ref (g.2.2.1 1)) flX7_7 jnX7 ltM_0 kdM_0 rfl (by decide) rfl foM_0_0 rfl dX7_isMark_2 ?_
  refine z_iconst (pc := 5) (v := 2) dX7_isMark_5 rfl ?_
  refine z_iaload (pc := 6) (j := 2) ltM_1 kdM_1 (by decide +kernel) (by decide +kernel) dX7_isMark_6 ?_
  refine z_icmp_ge (pc := 7) (tgt := 31) dX7_isMark_7 (by decide) (fun h1 => ?_) (fun h1 => ?_)
  · refine z_iconst (pc := 31) (v := 0) dX7_isMark_31 rfl ?_
    exact z_zret dX7_isMark_32 (by decide)
  · refine z_iload_n (pc := 10) 1 dX7_isMark_10 rfl rfl ?_
    refine z_if_le (pc := 11) (tgt := 31) dX7_isMark_11 (by decide) (fun h2 => ?_) (fun h2 => ?_)
    · refine z_iconst (pc := 31) (v := 0) dX7_isMark_31 rfl ?_
      exact z_zret dX7_isMark_32 (by decide)
    · refine z_aload_n (pc := 14) 0 dX7_isMark_14 rfl rfl ?_
      refine z_get (pc := 15) (v := .ref (g.2.2.1 1)) flX7_7 jnX7 ltM_0 kdM_0 rfl (by decide) rfl foM_0_0 rfl dX7_isMark_15 ?_
      refine z_bipush (pc := 18) (v := 108) dX7_isMark_18 (by decide +kernel) ?_
      refine z_iload_n (pc := 20) 1 dX7_isMark_20 rfl rfl ?_
      refine z_iadd (pc := 21) dX7_isMark_21 ?_
      refine z_iaload_g (pc := 22) ltM_1 kdM_1 dX7_isMark_22 ?_
      refine z_iload_n (pc := 23) 2 dX7_isMark_23 rfl rfl ?_
      refine z_icmp_ne (pc := 24) (tgt := 31) dX7_isMark_24 (by decide) (fun h3 => ?_) (fun h3 => ?_)
      · refine z_iconst (pc := 31) (v := 0) dX7_isMark_31 rfl ?_
        exact z_zret dX7_isMark_32 (by decide)
      · refine z_iconst (pc := 27) (v := 1) dX7_isMark_27 rfl ?_
        refine z_goto (pc := 28) (tgt := 32) dX7_isMark_28 (by decide) ?_
        exact z_zret dX7_isMark_32 (by decide)
def lp_X7_leads_90 (c3 : Int32) : Nat → Int32 → Int32 → Mm → (Int32 → Mm → Option (Int32 × Mm)) → Option (Int32 × Mm)
  | 0, _, _, _, _ => none
  | n + 1, y4, y5, μ, k => if c3 ≤ y5 then (k y4 μ) else (if y4 = 0 then (lp_X7_leads_90 c3 n (0 : Int32) (y5 + 1) μ k) else (bd (f_X7_isMark y5 (1 : Int32) μ) fun r13 μ14 => if r13 = 0 then (lp_X7_leads_90 c3 n (1 : Int32) (y5 + 1) μ14 k) else (lp_X7_leads_90 c3 n (0 : Int32) (y5 + 1) μ14 k)))
theorem w_X7_leads_90 (g : Gx) (c3 : Int32) : ∀ (n : Nat) (y4 : Int32) (y5 : Int32) (μ : Mm) (k : Int32 → Mm → Option (Int32 × Mm)), (∀ (z4 : Int32) (ν : Mm), Zw g ΛM enI RX7 cX7_leads 6 (some .int) rX7_leads 124 [(3, .int c3), (4, .int z4)] [] ν (k z4 ν)) → Zw g ΛM enI RX7 cX7_leads 6 (some .int) rX7_leads 90 [(0, .ref (g.2.2.1 0)), (3, .int c3), (4, .int y4), (5, .int y5)] [] μ (lp_X7_leads_90 c3 n y4 y5 μ k) := by
  intro n
  induction n with
  | zero =>
    intro y4 y5 μ k hk
    exact z_none
  | succ n ih =>
    intro y4 y5 μ k hk
    rw [lp_X7_leads_90]
    refine z_iload (pc := 90) 3 dX7_leads_90 rfl ?_
    refine z_iload_n (pc := 92) 1 dX7_leads_92 rfl rfl ?_
    refine z_icmp_ge (pc := 93) (tgt := 124) dX7_leads_93 (by decide) (fun h11 => ?_) (fun h11 => ?_)
    · refine z_sub (lv2 := [(3, .int c3), (4, .int y4)]) [1, 2] rfl ?_
      exact hk _ _
    · refine z_iload (pc := 96) 2 dX7_leads_96 rfl ?_
      refine z_if_eq (pc := 98) (tgt := 115) dX7_leads_98 (by decide) (fun h12 => ?_) (fun h12 => ?_)
      · refine z_iconst (pc := 115) (v := 0) dX7_leads_115 rfl ?_
        refine z_istore (pc := 116) (lv2 := [(0, .ref (g.2.2.1 0)), (3, .int c3), (4, .int (0 : Int32)), (5, .int y5)]) [1, 2, 0, 3] dX7_leads_116 (by decide) rfl ?_
        refine z_iinc (pc := 118) (v := y5 + 1) (lv2 := [(0, .ref (g.2.2.1 0)), (3, .int c3), (4, .int (0 : Int32)), (5, .int (y5 + 1))]) 3 [1, 2, 3, 0] dX7_leads_118 rfl (by rw [oi_1]) (by decide) rfl ?_
        refine z_goto (pc := 121) (tgt := 90) dX7_leads_121 (by decide) ?_
        exact ih _ _ _ _ hk
      · refine z_aload_n (pc := 101) 0 dX7_leads_101 rfl rfl ?_
        refine z_iload (pc := 102) 3 dX7_leads_102 rfl ?_
        refine z_iconst (pc := 104) (v := 1) dX7_leads_104 rfl ?_
        refine z_callV (pc := 105) (b := 0) (As := [.int y5, .int (1 : Int32)]) (rest := []) kX7_132 (m_X7_isMark g μ y5 (1 : Int32)) ltM_0 kdM_0 rfl rfl ⟨rfl, rfl⟩ ⟨Nat.le_of_ble_eq_true rfl, Nat.le_of_ble_eq_true rfl⟩ (Nat.le_of_ble_eq_true rfl) rfl rfl dX7_leads_105 (fun r13 μ14 => ?_)
        change Zw g ΛM enI RX7 cX7_leads 6 (some .int) rX7_leads 108 [(0, .ref (g.2.2.1 0)), (3, .int c3), (4, .int y4), (5, .int y5)] [.int r13] μ14 _
        refine z_if_ne (pc := 108) (tgt := 115) dX7_leads_108 (by decide) (fun h15 => ?_) (fun h15 => ?_)
        · refine z_iconst (pc := 115) (v := 0) dX7_leads_115 rfl ?_
          refine z_istore (pc := 116) (lv2 := [(0, .ref (g.2.2.1 0)), (3, .int c3), (4, .int (0 : Int32)), (5, .int y5)]) [1, 2, 0, 3] dX7_leads_116 (by decide) rfl ?_
          refine z_iinc (pc := 118) (v := y5 + 1) (lv2 := [(0, .ref (g.2.2.1 0)), (3, .int c3), (4, .int (0 : Int32)), (5, .int (y5 + 1))]) 3 [1, 2, 3, 0] dX7_leads_118 rfl (by rw [oi_1]) (by decide) rfl ?_
          refine z_goto (pc := 121) (tgt := 90) dX7_leads_121 (by decide) ?_
          exact ih _ _ _ _ hk
        · refine z_iconst (pc := 111) (v := 1) dX7_leads_111 rfl ?_
          refine z_goto (pc := 112) (tgt := 116) dX7_leads_112 (by decide) ?_
          refine z_istore (pc := 116) (lv2 := [(0, .ref (g.2.2.1 0)), (3, .int c3), (4, .int (1 : Int32)), (5, .int y5)]) [1, 2, 0, 3] dX7_leads_116 (by decide) rfl ?_
          refine z_iinc (pc := 118) (v := y5 + 1) (lv2 := [(0, .ref (g.2.2.1 0)), (3, .int c3), (4, .int (1 : Int32)), (5, .int (y5 + 1))]) 3 [1, 2, 3, 0] dX7_leads_118 rfl (by rw [oi_1]) (by decide) rfl ?_
          refine z_goto (pc := 121) (tgt := 90) dX7_leads_121 (by decide) ?_
          exact ih _ _ _ _ hk
def f_X7_leads (a1 : Int32) (a2 : Int32) (μ : Mm) : Option (Int32 × Mm) := if (μ.1 0 7) = 0 then (if zin ((21 : Int32) + a1) 148 then (bd (f_X7_moraeOf (μ.1 1 (((21 : Int32) + a1).toNatClampNeg)) μ) fun r2 μ3 => bd (f_X7_lastPlace μ3) fun r4 μ5 => if (a2 + r2) ≤ r4 then (if (μ5.1 0 7) = 0 then (bd (f_X7_isMark (a2 + r2) (2 : Int32) μ5) fun r8 μ9 => if r8 = 0 then (lp_X7_leads_90 (a2 + r2) FU (1 : Int32) (a2 + (1 : Int32)) μ9 (fun x19 μ20 => if x19 = 0 then (some ((-1 : Int32), μ20)) else (some (a2 + r2, μ20)))) else (lp_X7_leads_90 (a2 + r2) FU (0 : Int32) (a2 + (1 : Int32)) μ9 (fun x16 μ17 => if x16 = 0 then (some ((-1 : Int32), μ17)) else (some (a2 + r2, μ17))))) else (bd (f_X7_standsAhead a1 (a2 + r2) μ5) fun r22 μ23 => if r22 = 0 then (some ((-1 : Int32), μ23)) else (some (a2 + r2, μ23)))) else (some ((-1 : Int32), μ5))) else none) else (if zin ((21 : Int32) + a1) 148 then (bd (f_X7_sizeOf (μ.1 1 (((21 : Int32) + a1).toNatClampNeg)) μ) fun r25 μ26 => bd (f_X7_lastPlace μ26) fun r27 μ28 => if (a2 + r25) ≤ r27 then (if (μ28.1 0 7) = 0 then (bd (f_X7_isMark (a2 + r25) (2 : Int32) μ28) fun r31 μ32 => if r31 = 0 then (lp_X7_leads_90 (a2 + r25) FU (1 : Int32) (a2 + (1 : Int32)) μ32 (fun x37 μ38 => if x37 = 0 then (some ((-1 : Int32), μ38)) else (some (a2 + r25, μ38)))) else (lp_X7_leads_90 (a2 + r25) FU (0 : Int32) (a2 + (1 : Int32)) μ32 (fun x34 μ35 => if x34 = 0 then (some ((-1 : Int32), μ35)) else (some (a2 + r25, μ35))))) else (bd (f_X7_standsAhead a1 (a2 + r25) μ28) fun r40 μ41 => if r40 = 0 then (some ((-1 : Int32), μ41)) else (some (a2 + r25, μ41)))) else (some ((-1 : Int32), μ28))) else none)
theorem m_X7_leads (g : Gx) (μ : Mm) (a1 : Int32) (a2 : Int32) : Zm g ΛM enI yX7_leads cX7_leads 6 (some .int) rX7_leads [.ref (g.2.2.1 0), .int a1, .int a2] μ (f_X7_leads a1 a2 μ) := by
  refine z_met (by decide +kernel) (Nat.le_of_ble_eq_true rfl) ?_
  change Zw g ΛM enI RX7 cX7_leads 6 (some .int) rX7_leads 0 [(0, .ref (g.2.2.1 0)), (1, .int a1), (2, .int a2)] [] μ (f_X7_leads a1 a2 μ)
  rw [f_X7_leads]
  refine z_iload_n (pc := 0) 2 dX7_leads_0 rfl rfl ?_
  refine z_aload_n (pc := 1) 0 dX7_leads_1 rfl rfl ?_
  refine z_get (pc := 2) (v := .int (μ.1 0 7)) flX7_121 jnX7 ltM_0 kdM_0 rfl (by decide) rfl foM_0_7 rfl dX7_leads_2 ?_
  refine z_if_eq (pc := 5) (tgt := 23) dX7_leads_5 (by decide) (fun h1 => ?_) (fun h1 => ?_)
  · refine z_aload_n (pc := 23) 0 dX7_leads_23 rfl rfl ?_
    refine z_get (pc := 24) (v := .ref (g.2.2.1 1)) flX7_7 jnX7 ltM_0 kdM_0 rfl (by decide) rfl foM_0_0 rfl dX7_leads_24 ?_
    refine z_bipush (pc := 27) (v := 21) dX7_leads_27 (by decide +kernel) ?_
    refine z_iload_n (pc := 29) 1 dX7_leads_29 rfl rfl ?_
    refine z_iadd (pc := 30) dX7_leads_30 ?_
    refine z_iaload_g (pc := 31) ltM_1 kdM_1 dX7_leads_31 ?_
    refine z_callS (pc := 32) (As := [.int (μ.1 1 (((21 : Int32) + a1).toNatClampNeg))]) (rest := [.int a2]) kX7_110 (m_X7_moraeOf g μ (μ.1 1 (((21 : Int32) + a1).toNatClampNeg))) ⟨rfl, rfl⟩ ⟨Nat.le_of_ble_eq_true rfl, Nat.le_of_ble_eq_true rfl⟩ (Nat.le_of_ble_eq_true rfl) rfl rfl dX7_leads_32 (fun r2 μ3 => ?_)
    change Zw g ΛM enI RX7 cX7_leads 6 (some .int) rX7_leads 35 [(0, .ref (g.2.2.1 0)), (1, .int a1), (2, .int a2)] [.int r2, .int a2] μ3 _
    refine z_iadd (pc := 35) dX7_leads_35 ?_
    refine z_istore_n (pc := 36) (lv2 := [(0, .ref (g.2.2.1 0)), (1, .int a1), (2, .int a2), (3, .int (a2 + r2))]) [1, 2, 3, 0] dX7_leads_36 rfl (by decide) rfl ?_
    refine z_iload_n (pc := 37) 3 dX7_leads_37 rfl rfl ?_
    refine z_aload_n (pc := 38) 0 dX7_leads_38 rfl rfl ?_
    refine z_callV (pc := 39) (b := 0) (As := []) (rest := [.int (a2 + r2)]) kX7_125 (m_X7_lastPlace g μ3) ltM_0 kdM_0 rfl rfl ⟨rfl, rfl⟩ ⟨Nat.le_of_ble_eq_true rfl, Nat.le_of_ble_eq_true rfl⟩ (Nat.le_of_ble_eq_true rfl) rfl rfl dX7_leads_39 (fun r4 μ5 => ?_)
    change Zw g ΛM enI RX7 cX7_leads 6 (some .int) rX7_leads 42 [(0, .ref (g.2.2.1 0)), (1, .int a1), (2, .int a2), (3, .int (a2 + r2))] [.int r4, .int (a2 + r2)] μ5 _
    refine z_icmp_le (pc := 42) (tgt := 47) dX7_leads_42 (by decide) (fun h6 => ?_) (fun h6 => ?_)
    · refine z_aload_n (pc := 47) 0 dX7_leads_47 rfl rfl ?_
      refine z_get (pc := 48) (v := .int (μ5.1 0 7)) flX7_121 jnX7 ltM_0 kdM_0 rfl (by decide) rfl foM_0_7 rfl dX7_leads_48 ?_
      refine z_if_eq (pc := 51) (tgt := 69) dX7_leads_51 (by decide) (fun h7 => ?_) (fun h7 => ?_)
      · refine z_aload_n (pc := 69) 0 dX7_leads_69 rfl rfl ?_
        refine z_iload_n (pc := 70) 3 dX7_leads_70 rfl rfl ?_
        refine z_iconst (pc := 71) (v := 2) dX7_leads_71 rfl ?_
        refine z_callV (pc := 72) (b := 0) (As := [.int (a2 + r2), .int (2 : Int32)]) (rest := []) kX7_132 (m_X7_isMark g μ5 (a2 + r2) (2 : Int32)) ltM_0 kdM_0 rfl rfl ⟨rfl, rfl⟩ ⟨Nat.le_of_ble_eq_true rfl, Nat.le_of_ble_eq_true rfl⟩ (Nat.le_of_ble_eq_true rfl) rfl rfl dX7_leads_72 (fun r8 μ9 => ?_)
        change Zw g ΛM enI RX7 cX7_leads 6 (some .int) rX7_leads 75 [(0, .ref (g.2.2.1 0)), (1, .int a1), (2, .int a2), (3, .int (a2 + r2))] [.int r8] μ9 _
        refine z_if_ne (pc := 75) (tgt := 82) dX7_leads_75 (by decide) (fun h10 => ?_) (fun h10 => ?_)
        · refine z_iconst (pc := 82) (v := 0) dX7_leads_82 rfl ?_
          refine z_istore (pc := 83) (lv2 := [(0, .ref (g.2.2.1 0)), (1, .int a1), (2, .int a2), (3, .int (a2 + r2)), (4, .int (0 : Int32))]) [1, 2, 3, 4, 0] dX7_leads_83 (by decide) rfl ?_
          refine z_iload_n (pc := 85) 2 dX7_leads_85 rfl rfl ?_
          refine z_iconst (pc := 86) (v := 1) dX7_leads_86 rfl ?_
          refine z_iadd (pc := 87) dX7_leads_87 ?_
          refine z_istore (pc := 88) (lv2 := [(0, .ref (g.2.2.1 0)), (1, .int a1), (2, .int a2), (3, .int (a2 + r2)), (4, .int (0 : Int32)), (5, .int (a2 + (1 : Int32)))]) [1, 2, 3, 4, 5, 0] dX7_leads_88 (by decide) rfl ?_
          refine z_sub (lv2 := [(0, .ref (g.2.2.1 0)), (3, .int (a2 + r2)), (4, .int (0 : Int32)), (5, .int (a2 + (1 : Int32)))]) [0, 3, 4, 5] rfl ?_
          refine w_X7_leads_90 g (a2 + r2) FU (0 : Int32) (a2 + (1 : Int32)) μ9 _ (fun x16 μ17 => ?_)
          refine z_iload (pc := 124) 1 dX7_leads_124 rfl ?_
          refine z_if_eq (pc := 126) (tgt := 133) dX7_leads_126 (by decide) (fun h18 => ?_) (fun h18 => ?_)
          · refine z_iconst (pc := 133) (v := -1) dX7_leads_133 rfl ?_
            exact z_iret dX7_leads_134
          · refine z_iload_n (pc := 129) 0 dX7_leads_129 rfl rfl ?_
            refine z_goto (pc := 130) (tgt := 134) dX7_leads_130 (by decide) ?_
            exact z_iret dX7_leads_134
        · refine z_iconst (pc := 78) (v := 1) dX7_leads_78 rfl ?_
          refine z_goto (pc := 79) (tgt := 83) dX7_leads_79 (by decide) ?_
          refine z_istore (pc := 83) (lv2 := [(0, .ref (g.2.2.1 0)), (1, .int a1), (2, .int a2), (3, .int (a2 + r2)), (4, .int (1 : Int32))]) [1, 2, 3, 4, 0] dX7_leads_83 (by decide) rfl ?_
          refine z_iload_n (pc := 85) 2 dX7_leads_85 rfl rfl ?_
          refine z_iconst (pc := 86) (v := 1) dX7_leads_86 rfl ?_
          refine z_iadd (pc := 87) dX7_leads_87 ?_
          refine z_istore (pc := 88) (lv2 := [(0, .ref (g.2.2.1 0)), (1, .int a1), (2, .int a2), (3, .int (a2 + r2)), (4, .int (1 : Int32)), (5, .int (a2 + (1 : Int32)))]) [1, 2, 3, 4, 5, 0] dX7_leads_88 (by decide) rfl ?_
          refine z_sub (lv2 := [(0, .ref (g.2.2.1 0)), (3, .int (a2 + r2)), (4, .int (1 : Int32)), (5, .int (a2 + (1 : Int32)))]) [0, 3, 4, 5] rfl ?_
          refine w_X7_leads_90 g (a2 + r2) FU (1 : Int32) (a2 + (1 : Int32)) μ9 _ (fun x19 μ20 => ?_)
          refine z_iload (pc := 124) 1 dX7_leads_124 rfl ?_
          refine z_if_eq (pc := 126) (tgt := 133) dX7_leads_126 (by decide) (fun h21 => ?_) (fun h21 => ?_)
          · refine z_iconst (pc := 133) (v := -1) dX7_leads_133 rfl ?_
            exact z_iret dX7_leads_134
          · refine z_iload_n (pc := 129) 0 dX7_leads_129 rfl rfl ?_
            refine z_goto (pc := 130) (tgt := 134) dX7_leads_130 (by decide) ?_
            exact z_iret dX7_leads_134
      · refine z_aload_n (pc := 54) 0 dX7_leads_54 rfl rfl ?_
        refine z_iload_n (pc := 55) 1 dX7_leads_55 rfl rfl ?_
        refine z_iload_n (pc := 56) 3 dX7_leads_56 rfl rfl ?_
        refine z_callV (pc := 57) (b := 0) (As := [.int a1, .int (a2 + r2)]) (rest := []) kX7_128 (m_X7_standsAhead g μ5 a1 (a2 + r2)) ltM_0 kdM_0 rfl rfl ⟨rfl, rfl⟩ ⟨Nat.le_of_ble_eq_true rfl, Nat.le_of_ble_eq_true rfl⟩ (Nat.le_of_ble_eq_true rfl) rfl rfl dX7_leads_57 (fun r22 μ23 => ?_)
        change Zw g ΛM enI RX7 cX7_leads 6 (some .int) rX7_leads 60 [(0, .ref (g.2.2.1 0)), (1, .int a1), (2, .int a2), (3, .int (a2 + r2))] [.int r22] μ23 _
        refine z_if_eq (pc := 60) (tgt := 67) dX7_leads_60 (by decide) (fun h24 => ?_) (fun h24 => ?_)
        · refine z_iconst (pc := 67) (v := -1) dX7_leads_67 rfl ?_
          exact z_iret dX7_leads_68
        · refine z_iload_n (pc := 63) 3 dX7_leads_63 rfl rfl ?_
          refine z_goto (pc := 64) (tgt := 68) dX7_leads_64 (by decide) ?_
          exact z_iret dX7_leads_68
    · refine z_iconst (pc := 45) (v := -1) dX7_leads_45 rfl ?_
      exact z_iret dX7_leads_46
  · refine z_aload_n (pc := 8) 0 dX7_leads_8 rfl rfl ?_
    refine z_get (pc := 9) (v := .ref (g.2.2.1 1)) flX7_7 jnX7 ltM_0 kdM_0 rfl (by decide) rfl foM_0_0 rfl dX7_leads_9 ?_
    refine z_bipush (pc := 12) (v := 21) dX7_leads_12 (by decide +kernel) ?_
    refine z_iload_n (pc := 14) 1 dX7_leads_14 rfl rfl ?_
    refine z_iadd (pc := 15) dX7_leads_15 ?_
    refine z_iaload_g (pc := 16) ltM_1 kdM_1 dX7_leads_16 ?_
    refine z_callS (pc := 17) (As := [.int (μ.1 1 (((21 : Int32) + a1).toNatClampNeg))]) (rest := [.int a2]) kX7_107 (m_X7_sizeOf g μ (μ.1 1 (((21 : Int32) + a1).toNatClampNeg))) ⟨rfl, rfl⟩ ⟨Nat.le_of_ble_eq_true rfl, Nat.le_of_ble_eq_true rfl⟩ (Nat.le_of_ble_eq_true rfl) rfl rfl dX7_leads_17 (fun r25 μ26 => ?_)
    change Zw g ΛM enI RX7 cX7_leads 6 (some .int) rX7_leads 20 [(0, .ref (g.2.2.1 0)), (1, .int a1), (2, .int a2)] [.int r25, .int a2] μ26 _
    refine z_goto (pc := 20) (tgt := 35) dX7_leads_20 (by decide) ?_
    refine z_iadd (pc := 35) dX7_leads_35 ?_
    refine z_istore_n (pc := 36) (lv2 := [(0, .ref (g.2.2.1 0)), (1, .int a1), (2, .int a2), (3, .int (a2 + r25))]) [1, 2, 3, 0] dX7_leads_36 rfl (by decide) rfl ?_
    refine z_iload_n (pc := 37) 3 dX7_leads_37 rfl rfl ?_
    refine z_aload_n (pc := 38) 0 dX7_leads_38 rfl rfl ?_
    refine z_callV (pc := 39) (b := 0) (As := []) (rest := [.int (a2 + r25)]) kX7_125 (m_X7_lastPlace g μ26) ltM_0 kdM_0 rfl rfl ⟨rfl, rfl⟩ ⟨Nat.le_of_ble_eq_true rfl, Nat.le_of_ble_eq_true rfl⟩ (Nat.le_of_ble_eq_true rfl) rfl rfl dX7_leads_39 (fun r27 μ28 => ?_)
    change Zw g ΛM enI RX7 cX7_leads 6 (some .int) rX7_leads 42 [(0, .ref (g.2.2.1 0)), (1, .int a1), (2, .int a2), (3, .int (a2 + r25))] [.int r27, .int (a2 + r25)] μ28 _
    refine z_icmp_le (pc := 42) (tgt := 47) dX7_leads_42 (by decide) (fun h29 => ?_) (fun h29 => ?_)
    · refine z_aload_n (pc := 47) 0 dX7_leads_47 rfl rfl ?_
      refine z_get (pc := 48) (v := .int (μ28.1 0 7)) flX7_121 jnX7 ltM_0 kdM_0 rfl (by decide) rfl foM_0_7 rfl dX7_leads_48 ?_
      refine z_if_eq (pc := 51) (tgt := 69) dX7_leads_51 (by decide) (fun h30 => ?_) (fun h30 => ?_)
      · refine z_aload_n (pc := 69) 0 dX7_leads_69 rfl rfl ?_
        refine z_iload_n (pc := 70) 3 dX7_leads_70 rfl rfl ?_
        refine z_iconst (pc := 71) (v := 2) dX7_leads_71 rfl ?_
        refine z_callV (pc := 72) (b := 0) (As := [.int (a2 + r25), .int (2 : Int32)]) (rest := []) kX7_132 (m_X7_isMark g μ28 (a2 + r25) (2 : Int32)) ltM_0 kdM_0 rfl rfl ⟨rfl, rfl⟩ ⟨Nat.le_of_ble_eq_true rfl, Nat.le_of_ble_eq_true rfl⟩ (Nat.le_of_ble_eq_true rfl) rfl rfl dX7_leads_72 (fun r31 μ32 => ?_)
        change Zw g ΛM enI RX7 cX7_leads 6 (some .int) rX7_leads 75 [(0, .ref (g.2.2.1 0)), (1, .int a1), (2, .int a2), (3, .int (a2 + r25))] [.int r31] μ32 _
        refine z_if_ne (pc := 75) (tgt := 82) dX7_leads_75 (by decide) (fun h33 => ?_) (fun h33 => ?_)
        · refine z_iconst (pc := 82) (v := 0) dX7_leads_82 rfl ?_
          refine z_istore (pc := 83) (lv2 := [(0, .ref (g.2.2.1 0)), (1, .int a1), (2, .int a2), (3, .int (a2 + r25)), (4, .int (0 : Int32))]) [1, 2, 3, 4, 0] dX7_leads_83 (by decide) rfl ?_
          refine z_iload_n (pc := 85) 2 dX7_leads_85 rfl rfl ?_
          refine z_iconst (pc := 86) (v := 1) dX7_leads_86 rfl ?_
          refine z_iadd (pc := 87) dX7_leads_87 ?_
          refine z_istore (pc := 88) (lv2 := [(0, .ref (g.2.2.1 0)), (1, .int a1), (2, .int a2), (3, .int (a2 + r25)), (4, .int (0 : Int32)), (5, .int (a2 + (1 : Int32)))]) [1, 2, 3, 4, 5, 0] dX7_leads_88 (by decide) rfl ?_
          refine z_sub (lv2 := [(0, .ref (g.2.2.1 0)), (3, .int (a2 + r25)), (4, .int (0 : Int32)), (5, .int (a2 + (1 : Int32)))]) [0, 3, 4, 5] rfl ?_
          refine w_X7_leads_90 g (a2 + r25) FU (0 : Int32) (a2 + (1 : Int32)) μ32 _ (fun x34 μ35 => ?_)
          refine z_iload (pc := 124) 1 dX7_leads_124 rfl ?_
          refine z_if_eq (pc := 126) (tgt := 133) dX7_leads_126 (by decide) (fun h36 => ?_) (fun h36 => ?_)
          · refine z_iconst (pc := 133) (v := -1) dX7_leads_133 rfl ?_
            exact z_iret dX7_leads_134
          · refine z_iload_n (pc := 129) 0 dX7_leads_129 rfl rfl ?_
            refine z_goto (pc := 130) (tgt := 134) dX7_leads_130 (by decide) ?_
            exact z_iret dX7_leads_134
        · refine z_iconst (pc := 78) (v := 1) dX7_leads_78 rfl ?_
          refine z_goto (pc := 79) (tgt := 83) dX7_leads_79 (by decide) ?_
          refine z_istore (pc := 83) (lv2 := [(0, .ref (g.2.2.1 0)), (1, .int a1), (2, .int a2), (3, .int (a2 + r25)), (4, .int (1 : Int32))]) [1, 2, 3, 4, 0] dX7_leads_83 (by decide) rfl ?_
          refine z_iload_n (pc := 85) 2 dX7_leads_85 rfl rfl ?_
          refine z_iconst (pc := 86) (v := 1) dX7_leads_86 rfl ?_
          refine z_iadd (pc := 87) dX7_leads_87 ?_
          refine z_istore (pc := 88) (lv2 := [(0, .ref (g.2.2.1 0)), (1, .int a1), (2, .int a2), (3, .int (a2 + r25)), (4, .int (1 : Int32)), (5, .int (a2 + (1 : Int32)))]) [1, 2, 3, 4, 5, 0] dX7_leads_88 (by decide) rfl ?_
          refine z_sub (lv2 := [(0, .ref (g.2.2.1 0)), (3, .int (a2 + r25)), (4, .int (1 : Int32)), (5, .int (a2 + (1 : Int32)))]) [0, 3, 4, 5] rfl ?_
          refine w_X7_leads_90 g (a2 + r25) FU (1 : Int32) (a2 + (1 : Int32)) μ32 _ (fun x37 μ38 => ?_)
          refine z_iload (pc := 124) 1 dX7_leads_124 rfl ?_
          refine z_if_eq (pc := 126) (tgt := 133) dX7_leads_126 (by decide) (fun h39 => ?_) (fun h39 => ?_)
          · refine z_iconst (pc := 133) (v := -1) dX7_leads_133 rfl ?_
            exact z_iret dX7_leads_134
          · refine z_iload_n (pc := 129) 0 dX7_leads_129 rfl rfl ?_
            refine z_goto (pc := 130) (tgt := 134) dX7_leads_130 (by decide) ?_
            exact z_iret dX7_leads_134
      · refine z_aload_n (pc := 54) 0 dX7_leads_54 rfl rfl ?_
        refine z_iload_n (pc := 55) 1 dX7_leads_55 rfl rfl ?_
        refine z_iload_n (pc := 56) 3 dX7_leads_56 rfl rfl ?_
        refine z_callV (pc := 57) (b := 0) (As := [.int a1, .int (a2 + r25)]) (rest := []) kX7_128 (m_X7_standsAhead g μ28 a1 (a2 + r25)) ltM_0 kdM_0 rfl rfl ⟨rfl, rfl⟩ ⟨Nat.le_of_ble_eq_true rfl, Nat.le_of_ble_eq_true rfl⟩ (Nat.le_of_ble_eq_true rfl) rfl rfl dX7_leads_57 (fun r40 μ41 => ?_)
        change Zw g ΛM enI RX7 cX7_leads 6 (some .int) rX7_leads 60 [(0, .ref (g.2.2.1 0)), (1, .int a1), (2, .int a2), (3, .int (a2 + r25))] [.int r40] μ41 _
        refine z_if_eq (pc := 60) (tgt := 67) dX7_leads_60 (by decide) (fun h42 => ?_) (fun h42 => ?_)
        · refine z_iconst (pc := 67) (v := -1) dX7_leads_67 rfl ?_
          exact z_iret dX7_leads_68
        · refine z_iload_n (pc := 63) 3 dX7_leads_63 rfl rfl ?_
          refine z_goto (pc := 64) (tgt := 68) dX7_leads_64 (by decide) ?_
          exact z_iret dX7_leads_68
    · refine z_iconst (pc := 45) (v := -1) dX7_leads_45 rfl ?_
      exact z_iret dX7_leads_46
def f_X7_weightOf (a1 : Int32) (a2 : Int32) (μ : Mm) : Option (Int32 × Mm) := if 0 ≤ a1 then (bd (f_X7_habitOf a1 a2 μ) fun r2 μ3 => some (r2 + (1 : Int32), μ3)) else (some ((1 : Int32), μ))
theorem m_X7_weightOf (g : Gx) (μ : Mm) (a1 : Int32) (a2 : Int32) : Zm g ΛM enI yX7_weightOf cX7_weightOf 3 (some .int) rX7_weightOf [.ref (g.2.2.1 0), .int a1, .int a2] μ (f_X7_weightOf a1 a2 μ) := by
  refine z_met (by decide +kernel) (Nat.le_of_ble_eq_true rfl) ?_
  change Zw g ΛM enI RX7 cX7_weightOf 3 (some .int) rX7_weightOf 0 [(0, .ref (g.2.2.1 0)), (1, .int a1), (2, .int a2)] [] μ (f_X7_weightOf a1 a2 μ)
  rw [f_X7_weightOf]
  refine z_iload_n (pc := 0) 1 dX7_weightOf_0 rfl rfl ?_
  refine z_if_ge (pc := 1) (tgt := 8) dX7_weightOf_1 (by decide) (fun h1 => ?_) (fun h1 => ?_)
  · refine z_aload_n (pc := 8) 0 dX7_weightOf_8 rfl rfl ?_
    refine z_iload_n (pc := 9) 1 dX7_weightOf_9 rfl rfl ?_
    refine z_iload_n (pc := 10) 2 dX7_weightOf_10 rfl rfl ?_
    refine z_callV (pc := 11) (b := 0) (As := [.int a1, .int a2]) (rest := []) kX7_113 (m_X7_habitOf g μ a1 a2) ltM_0 kdM_0 rfl rfl ⟨rfl, rfl⟩ ⟨Nat.le_of_ble_eq_true rfl, Nat.le_of_ble_eq_true rfl⟩ (Nat.le_of_ble_eq_true rfl) rfl rfl dX7_weightOf_11 (fun r2 μ3 => ?_)
    change Zw g ΛM enI RX7 cX7_weightOf 3 (some .int) rX7_weightOf 14 [(0, .ref (g.2.2.1 0)), (1, .int a1), (2, .int a2)] [.int r2] μ3 _
    refine z_iconst (pc := 14) (v := 1) dX7_weightOf_14 rfl ?_
    refine z_iadd (pc := 15) dX7_weightOf_15 ?_
    exact z_iret dX7_weightOf_16
  · refine z_iconst (pc := 4) (v := 1) dX7_weightOf_4 rfl ?_
    refine z_goto (pc := 5) (tgt := 16) dX7_weightOf_5 (by decide) ?_
    exact z_iret dX7_weightOf_16
def f_X7_more (a1 : Int64) (a3 : Int64) (a5 : Int64) (μ : Mm) : Option (Int64 × Mm) := if a5 ≤ (0 : Int64) then (some (a1 + (a3 * a5), μ)) else (if ¬ a5 = 0 then (if ((9223372036854775807 : Int64) / a5) < a3 then (some (a1, (si μ 0 9 (1 : Int32)))) else (if (a3 * a5) ≤ ((9223372036854775807 : Int64) - a1) then (some (a1 + (a3 * a5), μ)) else (some (a1, (si μ 0 9 (1 : Int32)))))) else none)
theorem m_X7_more (g : Gx) (μ : Mm) (a1 : Int64) (a3 : Int64) (a5 : Int64) : Zm g ΛM enJ yX7_more cX7_more 7 (some .long) rX7_more [.ref (g.2.2.1 0), .long a1, .long a3, .long a5] μ (f_X7_more a1 a3 a5 μ) := by
  refine z_met (by decide +kernel) (Nat.le_of_ble_eq_true rfl) ?_
  change Zw g ΛM enJ RX7 cX7_more 7 (some .long) rX7_more 0 [(0, .ref (g.2.2.1 0)), (1, .long a1), (3, .long a3), (5, .long a5)] [] μ (f_X7_more a1 a3 a5 μ)
  rw [f_X7_more]
  refine z_lload (pc := 0) 3 dX7_more_0 rfl ?_
  refine z_lconst (pc := 2) (v := 0) dX7_more_2 (by decide +kernel) ?_
  refine z_lcmp_le (pc := 3) (tgt := 38) dX7_more_3 dX7_more_4 (by decide) (fun h1 => ?_) (fun h1 => ?_)
  · refine z_lload_n (pc := 38) 1 dX7_more_38 rfl rfl ?_
    refine z_lload_n (pc := 39) 2 dX7_more_39 rfl rfl ?_
    refine z_lload (pc := 40) 3 dX7_more_40 rfl ?_
    refine z_lmul (pc := 42) dX7_more_42 ?_
    refine z_ladd (pc := 43) dX7_more_43 ?_
    exact z_lret dX7_more_44
  · refine z_lload_n (pc := 7) 2 dX7_more_7 rfl rfl ?_
    refine z_ldc2 (pc := 8) (v := 9223372036854775807) klX7_135 dX7_more_8 ?_
    refine z_lload (pc := 11) 3 dX7_more_11 rfl ?_
    refine z_ldiv_g (pc := 13) dX7_more_13 ?_
    refine z_lcmp_gt (pc := 14) (tgt := 31) dX7_more_14 dX7_more_15 (by decide) (fun h2 => ?_) (fun h2 => ?_)
    · refine z_aload_n (pc := 31) 0 dX7_more_31 rfl rfl ?_
      refine z_iconst (pc := 32) (v := 1) dX7_more_32 rfl ?_
      refine z_puti (x := (0, 0)) (pc := 33) flX7_137 jnX7 tyX7 tyX7_ok nmX7 ltM_0 kdM_0 rfl (by decide) rfl foM_0_9 rfl (zb_n (by decide)) dX7_more_33 ?_
      refine z_lload_n (pc := 36) 1 dX7_more_36 rfl rfl ?_
      exact z_lret dX7_more_37
    · refine z_lload_n (pc := 18) 2 dX7_more_18 rfl rfl ?_
      refine z_lload (pc := 19) 3 dX7_more_19 rfl ?_
      refine z_lmul (pc := 21) dX7_more_21 ?_
      refine z_ldc2 (pc := 22) (v := 9223372036854775807) klX7_135 dX7_more_22 ?_
      refine z_lload_n (pc := 25) 1 dX7_more_25 rfl rfl ?_
      refine z_lsub (pc := 26) dX7_more_26 ?_
      refine z_lcmp_le (pc := 27) (tgt := 38) dX7_more_27 dX7_more_28 (by decide) (fun h3 => ?_) (fun h3 => ?_)
      · refine z_lload_n (pc := 38) 1 dX7_more_38 rfl rfl ?_
        refine z_lload_n (pc := 39) 2 dX7_more_39 rfl rfl ?_
        refine z_lload (pc := 40) 3 dX7_more_40 rfl ?_
        refine z_lmul (pc := 42) dX7_more_42 ?_
        refine z_ladd (pc := 43) dX7_more_43 ?_
        exact z_lret dX7_more_44
      · refine z_aload_n (pc := 31) 0 dX7_more_31 rfl rfl ?_
        refine z_iconst (pc := 32) (v := 1) dX7_more_32 rfl ?_
        refine z_puti (x := (0, 0)) (pc := 33) flX7_137 jnX7 tyX7 tyX7_ok nmX7 ltM_0 kdM_0 rfl (by decide) rfl foM_0_9 rfl (zb_n (by decide)) dX7_more_33 ?_
        refine z_lload_n (pc := 36) 1 dX7_more_36 rfl rfl ?_
        exact z_lret dX7_more_37
def lp_X7_sumFrom_6 (c1 : Int32) (c2 : Int32) (c3 : Int32) : Nat → Int64 → Int32 → Mm → (Int64 → Mm → Option (Int64 × Mm)) → Option (Int64 × Mm)
  | 0, _, _, _, _ => none
  | n + 1, y4, y6, μ, k => if (μ.1 1 0) ≤ y6 then (k y4 μ) else (if zin ((9 : Int32) + y6) 148 then (bd (f_X7_has c2 (μ.1 1 (((9 : Int32) + y6).toNatClampNeg)) μ) fun r2 μ3 => if r2 = 0 then (lp_X7_sumFrom_6 c1 c2 c3 n y4 (y6 + 1) μ3 k) else (bd (f_X7_leads y6 c1 μ3) fun r5 μ6 => if r5 = (-1 : Int32) then (lp_X7_sumFrom_6 c1 c2 c3 n y4 (y6 + 1) μ6 k) else (bd (f_X7_weightOf c3 y6 μ6) fun r8 μ9 => if zin ((9 : Int32) + y6) 148 then (if zin (((4 : Int32) * r5) + (μ9.1 1 (((9 : Int32) + y6).toNatClampNeg))) 164 then (bd (f_X7_more y4 r8.toInt64 (μ9.2 6 ((((4 : Int32) * r5) + (μ9.1 1 (((9 : Int32) + y6).toNatClampNeg))).toNatClampNeg)) μ9) fun r10 μ11 => lp_X7_sumFrom_6 c1 c2 c3 n r10 (y6 + 1) μ11 k) else none) else none))) else none)
theorem w_X7_sumFrom_6 (g : Gx) (c1 : Int32) (c2 : Int32) (c3 : Int32) : ∀ (n : Nat) (y4 : Int64) (y6 : Int32) (μ : Mm) (k : Int64 → Mm → Option (Int64 × Mm)), (∀ (z4 : Int64) (ν : Mm), Zw g ΛM enJ RX7 cX7_sumFrom 8 (some .long) rX7_sumFrom 95 [(4, .long z4)] [] ν (k z4 ν)) → Zw g ΛM enJ RX7 cX7_sumFrom 8 (some .long) rX7_sumFrom 6 [(0, .ref (g.2.2.1 0)), (1, .int c1), (2, .int c2), (3, .int c3), (4, .long y4), (6, .int y6)] [] μ (lp_X7_sumFrom_6 c1 c2 c3 n y4 y6 μ k) := by
  intro n
  induction n with
  | zero =>
    intro y4 y6 μ k hk
    exact z_none
  | succ n ih =>
    intro y4 y6 μ k hk
    rw [lp_X7_sumFrom_6]
    refine z_iload (pc := 6) 5 dX7_sumFrom_6 rfl ?_
    refine z_aload_n (pc := 8) 0 dX7_sumFrom_8 rfl rfl ?_
    refine z_get (pc := 9) (v := .ref (g.2.2.1 1)) flX7_7 jnX7 ltM_0 kdM_0 rfl (by decide) rfl foM_0_0 rfl dX7_sumFrom_9 ?_
    refine z_iconst (pc := 12) (v := 0) dX7_sumFrom_12 rfl ?_
    refine z_iaload (pc := 13) (j := 0) ltM_1 kdM_1 (by decide +kernel) (by decide +kernel) dX7_sumFrom_13 ?_
    refine z_icmp_ge (pc := 14) (tgt := 95) dX7_sumFrom_14 (by decide) (fun h1 => ?_) (fun h1 => ?_)
    · refine z_sub (lv2 := [(4, .long y4)]) [4] rfl ?_
      exact hk _ _
    · refine z_iload_n (pc := 17) 2 dX7_sumFrom_17 rfl rfl ?_
      refine z_aload_n (pc := 18) 0 dX7_sumFrom_18 rfl rfl ?_
      refine z_get (pc := 19) (v := .ref (g.2.2.1 1)) flX7_7 jnX7 ltM_0 kdM_0 rfl (by decide) rfl foM_0_0 rfl dX7_sumFrom_19 ?_
      refine z_bipush (pc := 22) (v := 9) dX7_sumFrom_22 (by decide +kernel) ?_
      refine z_iload (pc := 24) 5 dX7_sumFrom_24 rfl ?_
      refine z_iadd (pc := 26) dX7_sumFrom_26 ?_
      refine z_iaload_g (pc := 27) ltM_1 kdM_1 dX7_sumFrom_27 ?_
      refine z_callS (pc := 28) (As := [.int c2, .int (μ.1 1 (((9 : Int32) + y6).toNatClampNeg))]) (rest := []) kX7_140 (m_X7_has g μ c2 (μ.1 1 (((9 : Int32) + y6).toNatClampNeg))) ⟨rfl, rfl⟩ ⟨Nat.le_of_ble_eq_true rfl, Nat.le_of_ble_eq_true rfl⟩ (Nat.le_of_ble_eq_true rfl) rfl rfl dX7_sumFrom_28 (fun r2 μ3 => ?_)
      change Zw g ΛM enJ RX7 cX7_sumFrom 8 (some .long) rX7_sumFrom 31 [(0, .ref (g.2.2.1 0)), (1, .int c1), (2, .int c2), (3, .int c3), (4, .long y4), (6, .int y6)] [.int r2] μ3 _
      refine z_if_eq (pc := 31) (tgt := 44) dX7_sumFrom_31 (by decide) (fun h4 => ?_) (fun h4 => ?_)
      · refine z_iconst (pc := 44) (v := -1) dX7_sumFrom_44 rfl ?_
        refine z_istore (pc := 45) (lv2 := [(0, .ref (g.2.2.1 0)), (1, .int c1), (2, .int c2), (3, .int c3), (4, .long y4), (6, .int y6), (7, .int (-1 : Int32))]) [1, 2, 3, 4, 5, 6, 0] dX7_sumFrom_45 (by decide) rfl ?_
        refine z_iload (pc := 47) 6 dX7_sumFrom_47 rfl ?_
        refine z_iconst (pc := 49) (v := -1) dX7_sumFrom_49 rfl ?_
        refine z_icmp_eq_y (pc := 50) (tgt := 89) dX7_sumFrom_50 (by decide) (by decide +kernel) ?_
        refine z_iinc (pc := 89) (v := y6 + 1) (lv2 := [(0, .ref (g.2.2.1 0)), (1, .int c1), (2, .int c2), (3, .int c3), (4, .long y4), (6, .int (y6 + 1)), (7, .int (-1 : Int32))]) 5 [1, 2, 3, 4, 5, 0, 6] dX7_sumFrom_89 rfl (by rw [oi_1]) (by decide) rfl ?_
        refine z_goto (pc := 92) (tgt := 6) dX7_sumFrom_92 (by decide) ?_
        refine z_sub (lv2 := [(0, .ref (g.2.2.1 0)), (1, .int c1), (2, .int c2), (3, .int c3), (4, .long y4), (6, .int (y6 + 1))]) [0, 1, 2, 3, 4, 5] rfl ?_
        exact ih _ _ _ _ hk
      · refine z_aload_n (pc := 34) 0 dX7_sumFrom_34 rfl rfl ?_
        refine z_iload (pc := 35) 5 dX7_sumFrom_35 rfl ?_
        refine z_iload_n (pc := 37) 1 dX7_sumFrom_37 rfl rfl ?_
        refine z_callV (pc := 38) (b := 0) (As := [.int y6, .int c1]) (rest := []) kX7_143 (m_X7_leads g μ3 y6 c1) ltM_0 kdM_0 rfl rfl ⟨rfl, rfl⟩ ⟨Nat.le_of_ble_eq_true rfl, Nat.le_of_ble_eq_true rfl⟩ (Nat.le_of_ble_eq_true rfl) rfl rfl dX7_sumFrom_38 (fun r5 μ6 => ?_)
        change Zw g ΛM enJ RX7 cX7_sumFrom 8 (some .long) rX7_sumFrom 41 [(0, .ref (g.2.2.1 0)), (1, .int c1), (2, .int c2), (3, .int c3), (4, .long y4), (6, .int y6)] [.int r5] μ6 _
        refine z_goto (pc := 41) (tgt := 45) dX7_sumFrom_41 (by decide) ?_
        refine z_istore (pc := 45) (lv2 := [(0, .ref (g.2.2.1 0)), (1, .int c1), (2, .int c2), (3, .int c3), (4, .long y4), (6, .int y6), (7, .int r5)]) [1, 2, 3, 4, 5, 6, 0] dX7_sumFrom_45 (by decide) rfl ?_
        refine z_iload (pc := 47) 6 dX7_sumFrom_47 rfl ?_
        refine z_iconst (pc := 49) (v := -1) dX7_sumFrom_49 rfl ?_
        refine z_icmp_eq (pc := 50) (tgt := 89) dX7_sumFrom_50 (by decide) (fun h7 => ?_) (fun h7 => ?_)
        · refine z_iinc (pc := 89) (v := y6 + 1) (lv2 := [(0, .ref (g.2.2.1 0)), (1, .int c1), (2, .int c2), (3, .int c3), (4, .long y4), (6, .int (y6 + 1)), (7, .int r5)]) 5 [1, 2, 3, 4, 5, 0, 6] dX7_sumFrom_89 rfl (by rw [oi_1]) (by decide) rfl ?_
          refine z_goto (pc := 92) (tgt := 6) dX7_sumFrom_92 (by decide) ?_
          refine z_sub (lv2 := [(0, .ref (g.2.2.1 0)), (1, .int c1), (2, .int c2), (3, .int c3), (4, .long y4), (6, .int (y6 + 1))]) [0, 1, 2, 3, 4, 5] rfl ?_
          exact ih _ _ _ _ hk
        · refine z_aload_n (pc := 53) 0 dX7_sumFrom_53 rfl rfl ?_
          refine z_lload (pc := 54) 4 dX7_sumFrom_54 rfl ?_
          refine z_aload_n (pc := 56) 0 dX7_sumFrom_56 rfl rfl ?_
          refine z_iload_n (pc := 57) 3 dX7_sumFrom_57 rfl rfl ?_
          refine z_iload (pc := 58) 5 dX7_sumFrom_58 rfl ?_
          refine z_callV (pc := 60) (b := 0) (As := [.int c3, .int y6]) (rest := [.long y4, .ref (g.2.2.1 0)]) kX7_146 (m_X7_weightOf g μ6 c3 y6) ltM_0 kdM_0 rfl rfl ⟨rfl, rfl⟩ ⟨Nat.le_of_ble_eq_true rfl, Nat.le_of_ble_eq_true rfl⟩ (Nat.le_of_ble_eq_true rfl) rfl rfl dX7_sumFrom_60 (fun r8 μ9 => ?_)
          change Zw g ΛM enJ RX7 cX7_sumFrom 8 (some .long) rX7_sumFrom 63 [(0, .ref (g.2.2.1 0)), (1, .int c1), (2, .int c2), (3, .int c3), (4, .long y4), (6, .int y6), (7, .int r5)] [.int r8, .long y4, .ref (g.2.2.1 0)] μ9 _
          refine z_i2l (pc := 63) dX7_sumFrom_63 ?_
          refine z_aload_n (pc := 64) 0 dX7_sumFrom_64 rfl rfl ?_
          refine z_get (pc := 65) (v := .ref (g.2.2.1 6)) flX7_25 jnX7 ltM_0 kdM_0 rfl (by decide) rfl foM_0_8 rfl dX7_sumFrom_65 ?_
          refine z_iconst (pc := 68) (v := 4) dX7_sumFrom_68 rfl ?_
          refine z_iload (pc := 69) 6 dX7_sumFrom_69 rfl ?_
          refine z_imul (pc := 71) dX7_sumFrom_71 ?_
          refine z_aload_n (pc := 72) 0 dX7_sumFrom_72 rfl rfl ?_
          refine z_get (pc := 73) (v := .ref (g.2.2.1 1)) flX7_7 jnX7 ltM_0 kdM_0 rfl (by decide) rfl foM_0_0 rfl dX7_sumFrom_73 ?_
          refine z_bipush (pc := 76) (v := 9) dX7_sumFrom_76 (by decide +kernel) ?_
          refine z_iload (pc := 78) 5 dX7_sumFrom_78 rfl ?_
          refine z_iadd (pc := 80) dX7_sumFrom_80 ?_
          refine z_iaload_g (pc := 81) ltM_1 kdM_1 dX7_sumFrom_81 ?_
          refine z_iadd (pc := 82) dX7_sumFrom_82 ?_
          refine z_laload_g (pc := 83) ltM_6 kdM_6 dX7_sumFrom_83 ?_
          refine z_callV (pc := 84) (b := 0) (As := [.long y4, .long r8.toInt64, .long (μ9.2 6 ((((4 : Int32) * r5) + (μ9.1 1 (((9 : Int32) + y6).toNatClampNeg))).toNatClampNeg))]) (rest := []) kX7_149 (m_X7_more g μ9 y4 r8.toInt64 (μ9.2 6 ((((4 : Int32) * r5) + (μ9.1 1 (((9 : Int32) + y6).toNatClampNeg))).toNatClampNeg))) ltM_0 kdM_0 rfl rfl ⟨rfl, rfl⟩ ⟨Nat.le_of_ble_eq_true rfl, Nat.le_of_ble_eq_true rfl⟩ (Nat.le_of_ble_eq_true rfl) rfl rfl dX7_sumFrom_84 (fun r10 μ11 => ?_)
          change Zw g ΛM enJ RX7 cX7_sumFrom 8 (some .long) rX7_sumFrom 87 [(0, .ref (g.2.2.1 0)), (1, .int c1), (2, .int c2), (3, .int c3), (4, .long y4), (6, .int y6), (7, .int r5)] [.long r10] μ11 _
          refine z_lstore (pc := 87) (lv2 := [(0, .ref (g.2.2.1 0)), (1, .int c1), (2, .int c2), (3, .int c3), (4, .long r10), (6, .int y6), (7, .int r5)]) [1, 2, 3, 4, 0, 5, 6] dX7_sumFrom_87 (by decide) rfl ?_
          refine z_iinc (pc := 89) (v := y6 + 1) (lv2 := [(0, .ref (g.2.2.1 0)), (1, .int c1), (2, .int c2), (3, .int c3), (4, .long r10), (6, .int (y6 + 1)), (7, .int r5)]) 5 [1, 2, 3, 4, 5, 0, 6] dX7_sumFrom_89 rfl (by rw [oi_1]) (by decide) rfl ?_
          refine z_goto (pc := 92) (tgt := 6) dX7_sumFrom_92 (by decide) ?_
          refine z_sub (lv2 := [(0, .ref (g.2.2.1 0)), (1, .int c1), (2, .int c2), (3, .int c3), (4, .long r10), (6, .int (y6 + 1))]) [0, 1, 2, 3, 4, 5] rfl ?_
          exact ih _ _ _ _ hk
def f_X7_sumFrom (a1 : Int32) (a2 : Int32) (a3 : Int32) (μ : Mm) : Option (Int64 × Mm) := lp_X7_sumFrom_6 a1 a2 a3 FU (0 : Int64) (0 : Int32) μ (fun x12 μ13 => some (x12, μ13))
theorem m_X7_sumFrom (g : Gx) (μ : Mm) (a1 : Int32) (a2 : Int32) (a3 : Int32) : Zm g ΛM enJ yX7_sumFrom cX7_sumFrom 8 (some .long) rX7_sumFrom [.ref (g.2.2.1 0), .int a1, .int a2, .int a3] μ (f_X7_sumFrom a1 a2 a3 μ) := by
  refine z_met (by decide +kernel) (Nat.le_of_ble_eq_true rfl) ?_
  change Zw g ΛM enJ RX7 cX7_sumFrom 8 (some .long) rX7_sumFrom 0 [(0, .ref (g.2.2.1 0)), (1, .int a1), (2, .int a2), (3, .int a3)] [] μ (f_X7_sumFrom a1 a2 a3 μ)
  rw [f_X7_sumFrom]
  refine z_lconst (pc := 0) (v := 0) dX7_sumFrom_0 (by decide +kernel) ?_
  refine z_lstore (pc := 1) (lv2 := [(0, .ref (g.2.2.1 0)), (1, .int a1), (2, .int a2), (3, .int a3), (4, .long (0 : Int64))]) [1, 2, 3, 4, 0] dX7_sumFrom_1 (by decide) rfl ?_
  refine z_iconst (pc := 3) (v := 0) dX7_sumFrom_3 rfl ?_
  refine z_istore (pc := 4) (lv2 := [(0, .ref (g.2.2.1 0)), (1, .int a1), (2, .int a2), (3, .int a3), (4, .long (0 : Int64)), (6, .int (0 : Int32))]) [1, 2, 3, 4, 5, 0] dX7_sumFrom_4 (by decide) rfl ?_
  refine w_X7_sumFrom_6 g a1 a2 a3 FU (0 : Int64) (0 : Int32) μ _ (fun x12 μ13 => ?_)
  refine z_lload (pc := 95) 0 dX7_sumFrom_95 rfl ?_
  exact z_lret dX7_sumFrom_97
def lp_X7_laysWays_26 (c1 : Int32) (c2 : Int32) (c3 : Int32) (c4 : Int32) : Nat → Int32 → Mm → (Mm → Option (Int64 × Mm)) → Option (Int64 × Mm)
  | 0, _, _, _ => none
  | n + 1, y5, μ, k => if (4 : Int32) ≤ y5 then (k  μ) else (if c1 = 0 then (bd (f_X7_isMark c4 (2 : Int32) μ) fun r9 μ10 => if r9 = 0 then (if c4 = c3 then (if zin (((4 : Int32) * c4) + y5) 164 then (lp_X7_laysWays_26 c1 c2 c3 c4 n (y5 + 1) (sj μ10 6 ((((4 : Int32) * c4) + y5).toNatClampNeg) ((((μ10.1 1 4) >>> (y5 &&& 31)) &&& (1 : Int32)).toInt64)) k) else none) else (if zin ((5 : Int32) + y5) 148 then (bd (f_X7_sumFrom c4 (μ10.1 1 (((5 : Int32) + y5).toNatClampNeg)) c2 μ10) fun r13 μ14 => if zin (((4 : Int32) * c4) + y5) 164 then (lp_X7_laysWays_26 c1 c2 c3 c4 n (y5 + 1) (sj μ14 6 ((((4 : Int32) * c4) + y5).toNatClampNeg) r13) k) else none) else none)) else (if c4 = c3 then (if zin (((4 : Int32) * c4) + y5) 164 then (lp_X7_laysWays_26 c1 c2 c3 c4 n (y5 + 1) (sj μ10 6 ((((4 : Int32) * c4) + y5).toNatClampNeg) ((((μ10.1 1 4) >>> (y5 &&& 31)) &&& (1 : Int32)).toInt64)) k) else none) else (if zin (((4 : Int32) * c4) + y5) 164 then (lp_X7_laysWays_26 c1 c2 c3 c4 n (y5 + 1) (sj μ10 6 ((((4 : Int32) * c4) + y5).toNatClampNeg) (0 : Int64)) k) else none))) else (if c4 = c3 then (if zin (((4 : Int32) * c4) + y5) 164 then (lp_X7_laysWays_26 c1 c2 c3 c4 n (y5 + 1) (sj μ 6 ((((4 : Int32) * c4) + y5).toNatClampNeg) ((((μ.1 1 4) >>> (y5 &&& 31)) &&& (1 : Int32)).toInt64)) k) else none) else (if zin ((5 : Int32) + y5) 148 then (bd (f_X7_sumFrom c4 (μ.1 1 (((5 : Int32) + y5).toNatClampNeg)) c2 μ) fun r7 μ8 => if zin (((4 : Int32) * c4) + y5) 164 then (lp_X7_laysWays_26 c1 c2 c3 c4 n (y5 + 1) (sj μ8 6 ((((4 : Int32) * c4) + y5).toNatClampNeg) r7) k) else none) else none)))
theorem w_X7_laysWays_26 (g : Gx) (c1 : Int32) (c2 : Int32) (c3 : Int32) (c4 : Int32) : ∀ (n : Nat) (y5 : Int32) (μ : Mm) (k : Mm → Option (Int64 × Mm)), (∀ (ν : Mm), Zw g ΛM enJ RX7 cX7_laysWays 7 (some .long) rX7_laysWays 117 [(0, .ref (g.2.2.1 0)), (1, .int c1), (2, .int c2), (3, .int c3), (4, .int c4)] [] ν (k  ν)) → Zw g ΛM enJ RX7 cX7_laysWays 7 (some .long) rX7_laysWays 26 [(0, .ref (g.2.2.1 0)), (1, .int c1), (2, .int c2), (3, .int c3), (4, .int c4), (5, .int y5)] [] μ (lp_X7_laysWays_26 c1 c2 c3 c4 n y5 μ k) := by
  intro n
  induction n with
  | zero =>
    intro y5 μ k hk
    exact z_none
  | succ n ih =>
    intro y5 μ k hk
    rw [lp_X7_laysWays_26]
    refine z_iload (pc := 26) 5 dX7_laysWays_26 rfl ?_
    refine z_iconst (pc := 28) (v := 4) dX7_laysWays_28 rfl ?_
    refine z_icmp_ge (pc := 29) (tgt := 117) dX7_laysWays_29 (by decide) (fun h4 => ?_) (fun h4 => ?_)
    · refine z_sub (lv2 := [(0, .ref (g.2.2.1 0)), (1, .int c1), (2, .int c2), (3, .int c3), (4, .int c4)]) [0, 1, 2, 3, 4] rfl ?_
      exact hk _
    · refine z_iload_n (pc := 32) 1 dX7_laysWays_32 rfl rfl ?_
      refine z_if_ne (pc := 33) (tgt := 50) dX7_laysWays_33 (by decide) (fun h5 => ?_) (fun h5 => ?_)
      · refine z_iconst (pc := 50) (v := 0) dX7_laysWays_50 rfl ?_
        refine z_istore (pc := 51) (lv2 := [(0, .ref (g.2.2.1 0)), (1, .int c1), (2, .int c2), (3, .int c3), (4, .int c4), (5, .int y5), (6, .int (0 : Int32))]) [1, 2, 3, 4, 5, 6, 0] dX7_laysWays_51 (by decide) rfl ?_
        refine z_aload_n (pc := 53) 0 dX7_laysWays_53 rfl rfl ?_
        refine z_get (pc := 54) (v := .ref (g.2.2.1 6)) flX7_25 jnX7 ltM_0 kdM_0 rfl (by decide) rfl foM_0_8 rfl dX7_laysWays_54 ?_
        refine z_iconst (pc := 57) (v := 4) dX7_laysWays_57 rfl ?_
        refine z_iload (pc := 58) 4 dX7_laysWays_58 rfl ?_
        refine z_imul (pc := 60) dX7_laysWays_60 ?_
        refine z_iload (pc := 61) 5 dX7_laysWays_61 rfl ?_
        refine z_iadd (pc := 63) dX7_laysWays_63 ?_
        refine z_iload (pc := 64) 4 dX7_laysWays_64 rfl ?_
        refine z_iload_n (pc := 66) 3 dX7_laysWays_66 rfl rfl ?_
        refine z_icmp_ne (pc := 67) (tgt := 85) dX7_laysWays_67 (by decide) (fun h6 => ?_) (fun h6 => ?_)
        · refine z_iload (pc := 85) 6 dX7_laysWays_85 rfl ?_
          refine z_if_eq_y (pc := 87) (tgt := 94) dX7_laysWays_87 (by decide) (by decide +kernel) ?_
          refine z_aload_n (pc := 94) 0 dX7_laysWays_94 rfl rfl ?_
          refine z_iload (pc := 95) 4 dX7_laysWays_95 rfl ?_
          refine z_aload_n (pc := 97) 0 dX7_laysWays_97 rfl rfl ?_
          refine z_get (pc := 98) (v := .ref (g.2.2.1 1)) flX7_7 jnX7 ltM_0 kdM_0 rfl (by decide) rfl foM_0_0 rfl dX7_laysWays_98 ?_
          refine z_iconst (pc := 101) (v := 5) dX7_laysWays_101 rfl ?_
          refine z_iload (pc := 102) 5 dX7_laysWays_102 rfl ?_
          refine z_iadd (pc := 104) dX7_laysWays_104 ?_
          refine z_iaload_g (pc := 105) ltM_1 kdM_1 dX7_laysWays_105 ?_
          refine z_iload_n (pc := 106) 2 dX7_laysWays_106 rfl rfl ?_
          refine z_callV (pc := 107) (b := 0) (As := [.int c4, .int (μ.1 1 (((5 : Int32) + y5).toNatClampNeg)), .int c2]) (rest := [.int (((4 : Int32) * c4) + y5), .ref (g.2.2.1 6)]) kX7_153 (m_X7_sumFrom g μ c4 (μ.1 1 (((5 : Int32) + y5).toNatClampNeg)) c2) ltM_0 kdM_0 rfl rfl ⟨rfl, rfl⟩ ⟨Nat.le_of_ble_eq_true rfl, Nat.le_of_ble_eq_true rfl⟩ (Nat.le_of_ble_eq_true rfl) rfl rfl dX7_laysWays_107 (fun r7 μ8 => ?_)
          change Zw g ΛM enJ RX7 cX7_laysWays 7 (some .long) rX7_laysWays 110 [(0, .ref (g.2.2.1 0)), (1, .int c1), (2, .int c2), (3, .int c3), (4, .int c4), (5, .int y5), (6, .int (0 : Int32))] [.long r7, .int (((4 : Int32) * c4) + y5), .ref (g.2.2.1 6)] μ8 _
          refine z_lastore_g (pc := 110) ltM_6 kdM_6 dX7_laysWays_110 ?_
          refine z_iinc (pc := 111) (v := y5 + 1) (lv2 := [(0, .ref (g.2.2.1 0)), (1, .int c1), (2, .int c2), (3, .int c3), (4, .int c4), (5, .int (y5 + 1)), (6, .int (0 : Int32))]) 5 [1, 2, 3, 4, 5, 0, 6] dX7_laysWays_111 rfl (by rw [oi_1]) (by decide) rfl ?_
          refine z_goto (pc := 114) (tgt := 26) dX7_laysWays_114 (by decide) ?_
          refine z_sub (lv2 := [(0, .ref (g.2.2.1 0)), (1, .int c1), (2, .int c2), (3, .int c3), (4, .int c4), (5, .int (y5 + 1))]) [0, 1, 2, 3, 4, 5] rfl ?_
          exact ih _ _ _ hk
        · refine z_aload_n (pc := 70) 0 dX7_laysWays_70 rfl rfl ?_
          refine z_get (pc := 71) (v := .ref (g.2.2.1 1)) flX7_7 jnX7 ltM_0 kdM_0 rfl (by decide) rfl foM_0_0 rfl dX7_laysWays_71 ?_
          refine z_iconst (pc := 74) (v := 4) dX7_laysWays_74 rfl ?_
          refine z_iaload (pc := 75) (j := 4) ltM_1 kdM_1 (by decide +kernel) (by decide +kernel) dX7_laysWays_75 ?_
          refine z_iload (pc := 76) 5 dX7_laysWays_76 rfl ?_
          refine z_ishr (pc := 78) dX7_laysWays_78 ?_
          refine z_iconst (pc := 79) (v := 1) dX7_laysWays_79 rfl ?_
          refine z_iand (pc := 80) dX7_laysWays_80 ?_
          refine z_i2l (pc := 81) dX7_laysWays_81 ?_
          refine z_goto (pc := 82) (tgt := 110) dX7_laysWays_82 (by decide) ?_
          refine z_lastore_g (pc := 110) ltM_6 kdM_6 dX7_laysWays_110 ?_
          refine z_iinc (pc := 111) (v := y5 + 1) (lv2 := [(0, .ref (g.2.2.1 0)), (1, .int c1), (2, .int c2), (3, .int c3), (4, .int c4), (5, .int (y5 + 1)), (6, .int (0 : Int32))]) 5 [1, 2, 3, 4, 5, 0, 6] dX7_laysWays_111 rfl (by rw [oi_1]) (by decide) rfl ?_
          refine z_goto (pc := 114) (tgt := 26) dX7_laysWays_114 (by decide) ?_
          refine z_sub (lv2 := [(0, .ref (g.2.2.1 0)), (1, .int c1), (2, .int c2), (3, .int c3), (4, .int c4), (5, .int (y5 + 1))]) [0, 1, 2, 3, 4, 5] rfl ?_
          exact ih _ _ _ hk
      · refine z_aload_n (pc := 36) 0 dX7_laysWays_36 rfl rfl ?_
        refine z_iload (pc := 37) 4 dX7_laysWays_37 rfl ?_
        refine z_iconst (pc := 39) (v := 2) dX7_laysWays_39 rfl ?_
        refine z_callV (pc := 40) (b := 0) (As := [.int c4, .int (2 : Int32)]) (rest := []) kX7_132 (m_X7_isMark g μ c4 (2 : Int32)) ltM_0 kdM_0 rfl rfl ⟨rfl, rfl⟩ ⟨Nat.le_of_ble_eq_true rfl, Nat.le_of_ble_eq_true rfl⟩ (Nat.le_of_ble_eq_true rfl) rfl rfl dX7_laysWays_40 (fun r9 μ10 => ?_)
        change Zw g ΛM enJ RX7 cX7_laysWays 7 (some .long) rX7_laysWays 43 [(0, .ref (g.2.2.1 0)), (1, .int c1), (2, .int c2), (3, .int c3), (4, .int c4), (5, .int y5)] [.int r9] μ10 _
        refine z_if_eq (pc := 43) (tgt := 50) dX7_laysWays_43 (by decide) (fun h11 => ?_) (fun h11 => ?_)
        · refine z_iconst (pc := 50) (v := 0) dX7_laysWays_50 rfl ?_
          refine z_istore (pc := 51) (lv2 := [(0, .ref (g.2.2.1 0)), (1, .int c1), (2, .int c2), (3, .int c3), (4, .int c4), (5, .int y5), (6, .int (0 : Int32))]) [1, 2, 3, 4, 5, 6, 0] dX7_laysWays_51 (by decide) rfl ?_
          refine z_aload_n (pc := 53) 0 dX7_laysWays_53 rfl rfl ?_
          refine z_get (pc := 54) (v := .ref (g.2.2.1 6)) flX7_25 jnX7 ltM_0 kdM_0 rfl (by decide) rfl foM_0_8 rfl dX7_laysWays_54 ?_
          refine z_iconst (pc := 57) (v := 4) dX7_laysWays_57 rfl ?_
          refine z_iload (pc := 58) 4 dX7_laysWays_58 rfl ?_
          refine z_imul (pc := 60) dX7_laysWays_60 ?_
          refine z_iload (pc := 61) 5 dX7_laysWays_61 rfl ?_
          refine z_iadd (pc := 63) dX7_laysWays_63 ?_
          refine z_iload (pc := 64) 4 dX7_laysWays_64 rfl ?_
          refine z_iload_n (pc := 66) 3 dX7_laysWays_66 rfl rfl ?_
          refine z_icmp_ne (pc := 67) (tgt := 85) dX7_laysWays_67 (by decide) (fun h12 => ?_) (fun h12 => ?_)
          · refine z_iload (pc := 85) 6 dX7_laysWays_85 rfl ?_
            refine z_if_eq_y (pc := 87) (tgt := 94) dX7_laysWays_87 (by decide) (by decide +kernel) ?_
            refine z_aload_n (pc := 94) 0 dX7_laysWays_94 rfl rfl ?_
            refine z_iload (pc := 95) 4 dX7_laysWays_95 rfl ?_
            refine z_aload_n (pc := 97) 0 dX7_laysWays_97 rfl rfl ?_
            refine z_get (pc := 98) (v := .ref (g.2.2.1 1)) flX7_7 jnX7 ltM_0 kdM_0 rfl (by decide) rfl foM_0_0 rfl dX7_laysWays_98 ?_
            refine z_iconst (pc := 101) (v := 5) dX7_laysWays_101 rfl ?_
            refine z_iload (pc := 102) 5 dX7_laysWays_102 rfl ?_
            refine z_iadd (pc := 104) dX7_laysWays_104 ?_
            refine z_iaload_g (pc := 105) ltM_1 kdM_1 dX7_laysWays_105 ?_
            refine z_iload_n (pc := 106) 2 dX7_laysWays_106 rfl rfl ?_
            refine z_callV (pc := 107) (b := 0) (As := [.int c4, .int (μ10.1 1 (((5 : Int32) + y5).toNatClampNeg)), .int c2]) (rest := [.int (((4 : Int32) * c4) + y5), .ref (g.2.2.1 6)]) kX7_153 (m_X7_sumFrom g μ10 c4 (μ10.1 1 (((5 : Int32) + y5).toNatClampNeg)) c2) ltM_0 kdM_0 rfl rfl ⟨rfl, rfl⟩ ⟨Nat.le_of_ble_eq_true rfl, Nat.le_of_ble_eq_true rfl⟩ (Nat.le_of_ble_eq_true rfl) rfl rfl dX7_laysWays_107 (fun r13 μ14 => ?_)
            change Zw g ΛM enJ RX7 cX7_laysWays 7 (some .long) rX7_laysWays 110 [(0, .ref (g.2.2.1 0)), (1, .int c1), (2, .int c2), (3, .int c3), (4, .int c4), (5, .int y5), (6, .int (0 : Int32))] [.long r13, .int (((4 : Int32) * c4) + y5), .ref (g.2.2.1 6)] μ14 _
            refine z_lastore_g (pc := 110) ltM_6 kdM_6 dX7_laysWays_110 ?_
            refine z_iinc (pc := 111) (v := y5 + 1) (lv2 := [(0, .ref (g.2.2.1 0)), (1, .int c1), (2, .int c2), (3, .int c3), (4, .int c4), (5, .int (y5 + 1)), (6, .int (0 : Int32))]) 5 [1, 2, 3, 4, 5, 0, 6] dX7_laysWays_111 rfl (by rw [oi_1]) (by decide) rfl ?_
            refine z_goto (pc := 114) (tgt := 26) dX7_laysWays_114 (by decide) ?_
            refine z_sub (lv2 := [(0, .ref (g.2.2.1 0)), (1, .int c1), (2, .int c2), (3, .int c3), (4, .int c4), (5, .int (y5 + 1))]) [0, 1, 2, 3, 4, 5] rfl ?_
            exact ih _ _ _ hk
          · refine z_aload_n (pc := 70) 0 dX7_laysWays_70 rfl rfl ?_
            refine z_get (pc := 71) (v := .ref (g.2.2.1 1)) flX7_7 jnX7 ltM_0 kdM_0 rfl (by decide) rfl foM_0_0 rfl dX7_laysWays_71 ?_
            refine z_iconst (pc := 74) (v := 4) dX7_laysWays_74 rfl ?_
            refine z_iaload (pc := 75) (j := 4) ltM_1 kdM_1 (by decide +kernel) (by decide +kernel) dX7_laysWays_75 ?_
            refine z_iload (pc := 76) 5 dX7_laysWays_76 rfl ?_
            refine z_ishr (pc := 78) dX7_laysWays_78 ?_
            refine z_iconst (pc := 79) (v := 1) dX7_laysWays_79 rfl ?_
            refine z_iand (pc := 80) dX7_laysWays_80 ?_
            refine z_i2l (pc := 81) dX7_laysWays_81 ?_
            refine z_goto (pc := 82) (tgt := 110) dX7_laysWays_82 (by decide) ?_
            refine z_lastore_g (pc := 110) ltM_6 kdM_6 dX7_laysWays_110 ?_
            refine z_iinc (pc := 111) (v := y5 + 1) (lv2 := [(0, .ref (g.2.2.1 0)), (1, .int c1), (2, .int c2), (3, .int c3), (4, .int c4), (5, .int (y5 + 1)), (6, .int (0 : Int32))]) 5 [1, 2, 3, 4, 5, 0, 6] dX7_laysWays_111 rfl (by rw [oi_1]) (by decide) rfl ?_
            refine z_goto (pc := 114) (tgt := 26) dX7_laysWays_114 (by decide) ?_
            refine z_sub (lv2 := [(0, .ref (g.2.2.1 0)), (1, .int c1), (2, .int c2), (3, .int c3), (4, .int c4), (5, .int (y5 + 1))]) [0, 1, 2, 3, 4, 5] rfl ?_
            exact ih _ _ _ hk
        · refine z_iconst (pc := 46) (v := 1) dX7_laysWays_46 rfl ?_
          refine z_goto (pc := 47) (tgt := 51) dX7_laysWays_47 (by decide) ?_
          refine z_istore (pc := 51) (lv2 := [(0, .ref (g.2.2.1 0)), (1, .int c1), (2, .int c2), (3, .int c3), (4, .int c4), (5, .int y5), (6, .int (1 : Int32))]) [1, 2, 3, 4, 5, 6, 0] dX7_laysWays_51 (by decide) rfl ?_
          refine z_aload_n (pc := 53) 0 dX7_laysWays_53 rfl rfl ?_
          refine z_get (pc := 54) (v := .ref (g.2.2.1 6)) flX7_25 jnX7 ltM_0 kdM_0 rfl (by decide) rfl foM_0_8 rfl dX7_laysWays_54 ?_
          refine z_iconst (pc := 57) (v := 4) dX7_laysWays_57 rfl ?_
          refine z_iload (pc := 58) 4 dX7_laysWays_58 rfl ?_
          refine z_imul (pc := 60) dX7_laysWays_60 ?_
          refine z_iload (pc := 61) 5 dX7_laysWays_61 rfl ?_
          refine z_iadd (pc := 63) dX7_laysWays_63 ?_
          refine z_iload (pc := 64) 4 dX7_laysWays_64 rfl ?_
          refine z_iload_n (pc := 66) 3 dX7_laysWays_66 rfl rfl ?_
          refine z_icmp_ne (pc := 67) (tgt := 85) dX7_laysWays_67 (by decide) (fun h15 => ?_) (fun h15 => ?_)
          · refine z_iload (pc := 85) 6 dX7_laysWays_85 rfl ?_
            refine z_if_eq_x (pc := 87) (tgt := 94) dX7_laysWays_87 (by decide) (by decide +kernel) ?_
            refine z_lconst (pc := 90) (v := 0) dX7_laysWays_90 (by decide +kernel) ?_
            refine z_goto (pc := 91) (tgt := 110) dX7_laysWays_91 (by decide) ?_
            refine z_lastore_g (pc := 110) ltM_6 kdM_6 dX7_laysWays_110 ?_
            refine z_iinc (pc := 111) (v := y5 + 1) (lv2 := [(0, .ref (g.2.2.1 0)), (1, .int c1), (2, .int c2), (3, .int c3), (4, .int c4), (5, .int (y5 + 1)), (6, .int (1 : Int32))]) 5 [1, 2, 3, 4, 5, 0, 6] dX7_laysWays_111 rfl (by rw [oi_1]) (by decide) rfl ?_
            refine z_goto (pc := 114) (tgt := 26) dX7_laysWays_114 (by decide) ?_
            refine z_sub (lv2 := [(0, .ref (g.2.2.1 0)), (1, .int c1), (2, .int c2), (3, .int c3), (4, .int c4), (5, .int (y5 + 1))]) [0, 1, 2, 3, 4, 5] rfl ?_
            exact ih _ _ _ hk
          · refine z_aload_n (pc := 70) 0 dX7_laysWays_70 rfl rfl ?_
            refine z_get (pc := 71) (v := .ref (g.2.2.1 1)) flX7_7 jnX7 ltM_0 kdM_0 rfl (by decide) rfl foM_0_0 rfl dX7_laysWays_71 ?_
            refine z_iconst (pc := 74) (v := 4) dX7_laysWays_74 rfl ?_
            refine z_iaload (pc := 75) (j := 4) ltM_1 kdM_1 (by decide +kernel) (by decide +kernel) dX7_laysWays_75 ?_
            refine z_iload (pc := 76) 5 dX7_laysWays_76 rfl ?_
            refine z_ishr (pc := 78) dX7_laysWays_78 ?_
            refine z_iconst (pc := 79) (v := 1) dX7_laysWays_79 rfl ?_
            refine z_iand (pc := 80) dX7_laysWays_80 ?_
            refine z_i2l (pc := 81) dX7_laysWays_81 ?_
            refine z_goto (pc := 82) (tgt := 110) dX7_laysWays_82 (by decide) ?_
            refine z_lastore_g (pc := 110) ltM_6 kdM_6 dX7_laysWays_110 ?_
            refine z_iinc (pc := 111) (v := y5 + 1) (lv2 := [(0, .ref (g.2.2.1 0)), (1, .int c1), (2, .int c2), (3, .int c3), (4, .int c4), (5, .int (y5 + 1)), (6, .int (1 : Int32))]) 5 [1, 2, 3, 4, 5, 0, 6] dX7_laysWays_111 rfl (by rw [oi_1]) (by decide) rfl ?_
            refine z_goto (pc := 114) (tgt := 26) dX7_laysWays_114 (by decide) ?_
            refine z_sub (lv2 := [(0, .ref (g.2.2.1 0)), (1, .int c1), (2, .int c2), (3, .int c3), (4, .int c4), (5, .int (y5 + 1))]) [0, 1, 2, 3, 4, 5] rfl ?_
            exact ih _ _ _ hk
def lp_X7_laysWays_18 (c1 : Int32) (c2 : Int32) (c3 : Int32) : Nat → Int32 → Mm → (Mm → Option (Int64 × Mm)) → Option (Int64 × Mm)
  | 0, _, _, _ => none
  | n + 1, y4, μ, k => if y4 ≤ 0 then (k  μ) else (lp_X7_laysWays_26 c1 c2 c3 y4 FU (0 : Int32) μ (fun  μ16 => lp_X7_laysWays_18 c1 c2 c3 n (y4 + -1) μ16 k))
theorem w_X7_laysWays_18 (g : Gx) (c1 : Int32) (c2 : Int32) (c3 : Int32) : ∀ (n : Nat) (y4 : Int32) (μ : Mm) (k : Mm → Option (Int64 × Mm)), (∀ (ν : Mm), Zw g ΛM enJ RX7 cX7_laysWays 7 (some .long) rX7_laysWays 123 [(0, .ref (g.2.2.1 0)), (2, .int c2)] [] ν (k  ν)) → Zw g ΛM enJ RX7 cX7_laysWays 7 (some .long) rX7_laysWays 18 [(0, .ref (g.2.2.1 0)), (1, .int c1), (2, .int c2), (3, .int c3), (4, .int y4)] [] μ (lp_X7_laysWays_18 c1 c2 c3 n y4 μ k) := by
  intro n
  induction n with
  | zero =>
    intro y4 μ k hk
    exact z_none
  | succ n ih =>
    intro y4 μ k hk
    rw [lp_X7_laysWays_18]
    refine z_iload (pc := 18) 4 dX7_laysWays_18 rfl ?_
    refine z_if_le (pc := 20) (tgt := 123) dX7_laysWays_20 (by decide) (fun h3 => ?_) (fun h3 => ?_)
    · refine z_sub (lv2 := [(0, .ref (g.2.2.1 0)), (2, .int c2)]) [0, 2] rfl ?_
      exact hk _
    · refine z_iconst (pc := 23) (v := 0) dX7_laysWays_23 rfl ?_
      refine z_istore (pc := 24) (lv2 := [(0, .ref (g.2.2.1 0)), (1, .int c1), (2, .int c2), (3, .int c3), (4, .int y4), (5, .int (0 : Int32))]) [1, 2, 3, 4, 5, 0] dX7_laysWays_24 (by decide) rfl ?_
      refine w_X7_laysWays_26 g c1 c2 c3 y4 FU (0 : Int32) μ _ (fun  μ16 => ?_)
      refine z_iinc (pc := 117) (v := y4 + -1) (lv2 := [(0, .ref (g.2.2.1 0)), (1, .int c1), (2, .int c2), (3, .int c3), (4, .int (y4 + -1))]) 4 [1, 2, 3, 4, 0] dX7_laysWays_117 rfl (by rw [oi_n1]) (by decide) rfl ?_
      refine z_goto (pc := 120) (tgt := 18) dX7_laysWays_120 (by decide) ?_
      exact ih _ _ _ hk
def f_X7_laysWays (a1 : Int32) (a2 : Int32) (μ : Mm) : Option (Int64 × Mm) := if a1 = 0 ∨ a1 = 1 then (bd (f_X7_lastPlace (si (si μ 0 7 a1) 0 9 (0 : Int32))) fun r1 μ2 => lp_X7_laysWays_18 a1 a2 r1 FU r1 μ2 (fun  μ17 => bd (f_X7_sumFrom (0 : Int32) (μ17.1 1 3) a2 μ17) fun r18 μ19 => some (r18, μ19))) else none
theorem m_X7_laysWays (g : Gx) (μ : Mm) (a1 : Int32) (a2 : Int32) : Zm g ΛM enJ yX7_laysWays cX7_laysWays 7 (some .long) rX7_laysWays [.ref (g.2.2.1 0), .int a1, .int a2] μ (f_X7_laysWays a1 a2 μ) := by
  refine z_met (by decide +kernel) (Nat.le_of_ble_eq_true rfl) ?_
  change Zw g ΛM enJ RX7 cX7_laysWays 7 (some .long) rX7_laysWays 0 [(0, .ref (g.2.2.1 0)), (1, .int a1), (2, .int a2)] [] μ (f_X7_laysWays a1 a2 μ)
  rw [f_X7_laysWays]
  refine z_aload_n (pc := 0) 0 dX7_laysWays_0 rfl rfl ?_
  refine z_iload_n (pc := 1) 1 dX7_laysWays_1 rfl rfl ?_
  refine z_ite_g (fun hz => ?_)
  refine z_puti (x := (0, 0)) (pc := 2) flX7_121 jnX7 tyX7 tyX7_ok nmX7 ltM_0 kdM_0 rfl (by decide) rfl foM_0_7 rfl (zb_n hz) dX7_laysWays_2 ?_
  refine z_aload_n (pc := 5) 0 dX7_laysWays_5 rfl rfl ?_
  refine z_iconst (pc := 6) (v := 0) dX7_laysWays_6 rfl ?_
  refine z_puti (x := (0, 0)) (pc := 7) flX7_137 jnX7 tyX7 tyX7_ok nmX7 ltM_0 kdM_0 rfl (by decide) rfl foM_0_9 rfl (zb_n (by decide)) dX7_laysWays_7 ?_
  refine z_aload_n (pc := 10) 0 dX7_laysWays_10 rfl rfl ?_
  refine z_callV (pc := 11) (b := 0) (As := []) (rest := []) kX7_125 (m_X7_lastPlace g (si (si μ 0 7 a1) 0 9 (0 : Int32))) ltM_0 kdM_0 rfl rfl ⟨rfl, rfl⟩ ⟨Nat.le_of_ble_eq_true rfl, Nat.le_of_ble_eq_true rfl⟩ (Nat.le_of_ble_eq_true rfl) rfl rfl dX7_laysWays_11 (fun r1 μ2 => ?_)
  change Zw g ΛM enJ RX7 cX7_laysWays 7 (some .long) rX7_laysWays 14 [(0, .ref (g.2.2.1 0)), (1, .int a1), (2, .int a2)] [.int r1] μ2 _
  refine z_istore_n (pc := 14) (lv2 := [(0, .ref (g.2.2.1 0)), (1, .int a1), (2, .int a2), (3, .int r1)]) [1, 2, 3, 0] dX7_laysWays_14 rfl (by decide) rfl ?_
  refine z_iload_n (pc := 15) 3 dX7_laysWays_15 rfl rfl ?_
  refine z_istore (pc := 16) (lv2 := [(0, .ref (g.2.2.1 0)), (1, .int a1), (2, .int a2), (3, .int r1), (4, .int r1)]) [1, 2, 3, 4, 0] dX7_laysWays_16 (by decide) rfl ?_
  refine w_X7_laysWays_18 g a1 a2 r1 FU r1 μ2 _ (fun  μ17 => ?_)
  refine z_aload_n (pc := 123) 0 dX7_laysWays_123 rfl rfl ?_
  refine z_iconst (pc := 124) (v := 0) dX7_laysWays_124 rfl ?_
  refine z_aload_n (pc := 125) 0 dX7_laysWays_125 rfl rfl ?_
  refine z_get (pc := 126) (v := .ref (g.2.2.1 1)) flX7_7 jnX7 ltM_0 kdM_0 rfl (by decide) rfl foM_0_0 rfl dX7_laysWays_126 ?_
  refine z_iconst (pc := 129) (v := 3) dX7_laysWays_129 rfl ?_
  refine z_iaload (pc := 130) (j := 3) ltM_1 kdM_1 (by decide +kernel) (by decide +kernel) dX7_laysWays_130 ?_
  refine z_iload_n (pc := 131) 1 dX7_laysWays_131 rfl rfl ?_
  refine z_callV (pc := 132) (b := 0) (As := [.int (0 : Int32), .int (μ17.1 1 3), .int a2]) (rest := []) kX7_153 (m_X7_sumFrom g μ17 (0 : Int32) (μ17.1 1 3) a2) ltM_0 kdM_0 rfl rfl ⟨rfl, rfl⟩ ⟨Nat.le_of_ble_eq_true rfl, Nat.le_of_ble_eq_true rfl⟩ (Nat.le_of_ble_eq_true rfl) rfl rfl dX7_laysWays_132 (fun r18 μ19 => ?_)
  change Zw g ΛM enJ RX7 cX7_laysWays 7 (some .long) rX7_laysWays 135 [(0, .ref (g.2.2.1 0)), (2, .int a2)] [.long r18] μ19 _
  exact z_lret dX7_laysWays_135
def f_X7_waysOr (a1 : Int32) (a2 : Int32) (μ : Mm) : Option (Int64 × Mm) := bd (f_X7_laysWays a1 a2 μ) fun r1 μ2 => if (μ2.1 0 9) = 0 then (some (r1, μ2)) else (some ((-5 : Int64), μ2))
theorem m_X7_waysOr (g : Gx) (μ : Mm) (a1 : Int32) (a2 : Int32) : Zm g ΛM enJ yX7_waysOr cX7_waysOr 5 (some .long) rX7_waysOr [.ref (g.2.2.1 0), .int a1, .int a2] μ (f_X7_waysOr a1 a2 μ) := by
  refine z_met (by decide +kernel) (Nat.le_of_ble_eq_true rfl) ?_
  change Zw g ΛM enJ RX7 cX7_waysOr 5 (some .long) rX7_waysOr 0 [(0, .ref (g.2.2.1 0)), (1, .int a1), (2, .int a2)] [] μ (f_X7_waysOr a1 a2 μ)
  rw [f_X7_waysOr]
  refine z_aload_n (pc := 0) 0 dX7_waysOr_0 rfl rfl ?_
  refine z_iload_n (pc := 1) 1 dX7_waysOr_1 rfl rfl ?_
  refine z_iload_n (pc := 2) 2 dX7_waysOr_2 rfl rfl ?_
  refine z_callV (pc := 3) (b := 0) (As := [.int a1, .int a2]) (rest := []) kX7_157 (m_X7_laysWays g μ a1 a2) ltM_0 kdM_0 rfl rfl ⟨rfl, rfl⟩ ⟨Nat.le_of_ble_eq_true rfl, Nat.le_of_ble_eq_true rfl⟩ (Nat.le_of_ble_eq_true rfl) rfl rfl dX7_waysOr_3 (fun r1 μ2 => ?_)
  change Zw g ΛM enJ RX7 cX7_waysOr 5 (some .long) rX7_waysOr 6 [(0, .ref (g.2.2.1 0)), (1, .int a1), (2, .int a2)] [.long r1] μ2 _
  refine z_lstore_n (pc := 6) (lv2 := [(0, .ref (g.2.2.1 0)), (1, .int a1), (2, .int a2), (3, .long r1)]) [1, 2, 3, 0] dX7_waysOr_6 rfl (by decide) rfl ?_
  refine z_aload_n (pc := 7) 0 dX7_waysOr_7 rfl rfl ?_
  refine z_get (pc := 8) (v := .int (μ2.1 0 9)) flX7_137 jnX7 ltM_0 kdM_0 rfl (by decide) rfl foM_0_9 rfl dX7_waysOr_8 ?_
  refine z_if_eq (pc := 11) (tgt := 20) dX7_waysOr_11 (by decide) (fun h3 => ?_) (fun h3 => ?_)
  · refine z_lload_n (pc := 20) 3 dX7_waysOr_20 rfl rfl ?_
    exact z_lret dX7_waysOr_21
  · refine z_ldc2 (pc := 14) (v := -5) klX7_161 dX7_waysOr_14 ?_
    refine z_goto (pc := 17) (tgt := 21) dX7_waysOr_17 (by decide) ?_
    exact z_lret dX7_waysOr_21
def f_X7_cuts (μ : Mm) : Option (Int64 × Mm) := bd (f_X7_waysOr (1 : Int32) (-1 : Int32) μ) fun r1 μ2 => if r1 = (-5 : Int64) then (bd (f_X7_much μ2) fun r4 μ5 => some (r4.toInt64, μ5)) else (some (r1, μ2))
theorem m_X7_cuts (g : Gx) (μ : Mm) : Zm g ΛM enJ yX7_cuts cX7_cuts 3 (some .long) rX7_cuts [.ref (g.2.2.1 0)] μ (f_X7_cuts μ) := by
  refine z_met (by decide +kernel) (Nat.le_of_ble_eq_true rfl) ?_
  change Zw g ΛM enJ RX7 cX7_cuts 3 (some .long) rX7_cuts 0 [(0, .ref (g.2.2.1 0))] [] μ (f_X7_cuts μ)
  rw [f_X7_cuts]
  refine z_aload_n (pc := 0) 0 dX7_cuts_0 rfl rfl ?_
  refine z_iconst (pc := 1) (v := 1) dX7_cuts_1 rfl ?_
  refine z_iconst (pc := 2) (v := -1) dX7_cuts_2 rfl ?_
  refine z_callV (pc := 3) (b := 0) (As := [.int (1 : Int32), .int (-1 : Int32)]) (rest := []) kX7_163 (m_X7_waysOr g μ (1 : Int32) (-1 : Int32)) ltM_0 kdM_0 rfl rfl ⟨rfl, rfl⟩ ⟨Nat.le_of_ble_eq_true rfl, Nat.le_of_ble_eq_true rfl⟩ (Nat.le_of_ble_eq_true rfl) rfl rfl dX7_cuts_3 (fun r1 μ2 => ?_)
  change Zw g ΛM enJ RX7 cX7_cuts 3 (some .long) rX7_cuts 6 [(0, .ref (g.2.2.1 0))] [.long r1] μ2 _
  refine z_lstore_n (pc := 6) (lv2 := [(0, .ref (g.2.2.1 0)), (1, .long r1)]) [1, 0] dX7_cuts_6 rfl (by decide) rfl ?_
  refine z_lload_n (pc := 7) 1 dX7_cuts_7 rfl rfl ?_
  refine z_ldc2 (pc := 8) (v := -5) klX7_161 dX7_cuts_8 ?_
  refine z_lcmp_ne (pc := 11) (tgt := 23) dX7_cuts_11 dX7_cuts_12 (by decide) (fun h3 => ?_) (fun h3 => ?_)
  · refine z_lload_n (pc := 23) 1 dX7_cuts_23 rfl rfl ?_
    exact z_lret dX7_cuts_24
  · refine z_aload_n (pc := 15) 0 dX7_cuts_15 rfl rfl ?_
    refine z_callV (pc := 16) (b := 0) (As := []) (rest := []) kX7_166 (m_X7_much g μ2) ltM_0 kdM_0 rfl rfl ⟨rfl, rfl⟩ ⟨Nat.le_of_ble_eq_true rfl, Nat.le_of_ble_eq_true rfl⟩ (Nat.le_of_ble_eq_true rfl) rfl rfl dX7_cuts_16 (fun r4 μ5 => ?_)
    change Zw g ΛM enJ RX7 cX7_cuts 3 (some .long) rX7_cuts 19 [(0, .ref (g.2.2.1 0)), (1, .long r1)] [.int r4] μ5 _
    refine z_i2l (pc := 19) dX7_cuts_19 ?_
    refine z_goto (pc := 20) (tgt := 24) dX7_cuts_20 (by decide) ?_
    exact z_lret dX7_cuts_24
def f_X7_made (μ : Mm) : Option (Int64 × Mm) := bd (f_X7_waysOr (0 : Int32) (-1 : Int32) μ) fun r1 μ2 => if r1 = (-5 : Int64) then (bd (f_X7_much μ2) fun r4 μ5 => some (r4.toInt64, μ5)) else (some (r1, μ2))
theorem m_X7_made (g : Gx) (μ : Mm) : Zm g ΛM enJ yX7_made cX7_made 3 (some .long) rX7_made [.ref (g.2.2.1 0)] μ (f_X7_made μ) := by
  refine z_met (by decide +kernel) (Nat.le_of_ble_eq_true rfl) ?_
  change Zw g ΛM enJ RX7 cX7_made 3 (some .long) rX7_made 0 [(0, .ref (g.2.2.1 0))] [] μ (f_X7_made μ)
  rw [f_X7_made]
  refine z_aload_n (pc := 0) 0 dX7_made_0 rfl rfl ?_
  refine z_iconst (pc := 1) (v := 0) dX7_made_1 rfl ?_
  refine z_iconst (pc := 2) (v := -1) dX7_made_2 rfl ?_
  refine z_callV (pc := 3) (b := 0) (As := [.int (0 : Int32), .int (-1 : Int32)]) (rest := []) kX7_163 (m_X7_waysOr g μ (0 : Int32) (-1 : Int32)) ltM_0 kdM_0 rfl rfl ⟨rfl, rfl⟩ ⟨Nat.le_of_ble_eq_true rfl, Nat.le_of_ble_eq_true rfl⟩ (Nat.le_of_ble_eq_true rfl) rfl rfl dX7_made_3 (fun r1 μ2 => ?_)
  change Zw g ΛM enJ RX7 cX7_made 3 (some .long) rX7_made 6 [(0, .ref (g.2.2.1 0))] [.long r1] μ2 _
  refine z_lstore_n (pc := 6) (lv2 := [(0, .ref (g.2.2.1 0)), (1, .long r1)]) [1, 0] dX7_made_6 rfl (by decide) rfl ?_
  refine z_lload_n (pc := 7) 1 dX7_made_7 rfl rfl ?_
  refine z_ldc2 (pc := 8) (v := -5) klX7_161 dX7_made_8 ?_
  refine z_lcmp_ne (pc := 11) (tgt := 23) dX7_made_11 dX7_made_12 (by decide) (fun h3 => ?_) (fun h3 => ?_)
  · refine z_lload_n (pc := 23) 1 dX7_made_23 rfl rfl ?_
    exact z_lret dX7_made_24
  · refine z_aload_n (pc := 15) 0 dX7_made_15 rfl rfl ?_
    refine z_callV (pc := 16) (b := 0) (As := []) (rest := []) kX7_166 (m_X7_much g μ2) ltM_0 kdM_0 rfl rfl ⟨rfl, rfl⟩ ⟨Nat.le_of_ble_eq_true rfl, Nat.le_of_ble_eq_true rfl⟩ (Nat.le_of_ble_eq_true rfl) rfl rfl dX7_made_16 (fun r4 μ5 => ?_)
    change Zw g ΛM enJ RX7 cX7_made 3 (some .long) rX7_made 19 [(0, .ref (g.2.2.1 0)), (1, .long r1)] [.int r4] μ5 _
    refine z_i2l (pc := 19) dX7_made_19 ?_
    refine z_goto (pc := 20) (tgt := 24) dX7_made_20 (by decide) ?_
    exact z_lret dX7_made_24
def lp_X7_goes_36 (c3 : Int32) (c4 : Int32) (c5 : Int32) : Nat → Int64 → Int32 → Int32 → Mm → (Int64 → Int32 → Mm → Option (Unit × Mm)) → Option (Unit × Mm)
  | 0, _, _, _, _, _ => none
  | n + 1, y6, y8, y9, μ, k => if y9 = 0 then (k y6 y8 μ) else (if zin ((9 : Int32) + y8) 148 then (bd (f_X7_has c5 (μ.1 1 (((9 : Int32) + y8).toNatClampNeg)) μ) fun r3 μ4 => if r3 = 0 then (if y6 < (0 : Int64) then (lp_X7_goes_36 c3 c4 c5 n (y6 - (0 : Int64)) (y8 + (0 : Int32)) (0 : Int32) μ4 k) else (lp_X7_goes_36 c3 c4 c5 n (y6 - (0 : Int64)) (y8 + (1 : Int32)) (1 : Int32) μ4 k)) else (bd (f_X7_leads y8 c4 μ4) fun r7 μ8 => if r7 = (-1 : Int32) then (if y6 < (0 : Int64) then (lp_X7_goes_36 c3 c4 c5 n (y6 - (0 : Int64)) (y8 + (0 : Int32)) (0 : Int32) μ8 k) else (lp_X7_goes_36 c3 c4 c5 n (y6 - (0 : Int64)) (y8 + (1 : Int32)) (1 : Int32) μ8 k)) else (bd (f_X7_weightOf c3 y8 μ8) fun r10 μ11 => if zin ((9 : Int32) + y8) 148 then (if zin (((4 : Int32) * r7) + (μ11.1 1 (((9 : Int32) + y8).toNatClampNeg))) 164 then (if y6 < (r10.toInt64 * (μ11.2 6 ((((4 : Int32) * r7) + (μ11.1 1 (((9 : Int32) + y8).toNatClampNeg))).toNatClampNeg))) then (lp_X7_goes_36 c3 c4 c5 n (y6 - (0 : Int64)) (y8 + (0 : Int32)) (0 : Int32) μ11 k) else (lp_X7_goes_36 c3 c4 c5 n (y6 - (r10.toInt64 * (μ11.2 6 ((((4 : Int32) * r7) + (μ11.1 1 (((9 : Int32) + y8).toNatClampNeg))).toNatClampNeg)))) (y8 + (1 : Int32)) (1 : Int32) μ11 k)) else none) else none))) else none)
theorem w_X7_goes_36 (g : Gx) (c3 : Int32) (c4 : Int32) (c5 : Int32) : ∀ (n : Nat) (y6 : Int64) (y8 : Int32) (y9 : Int32) (μ : Mm) (k : Int64 → Int32 → Mm → Option (Unit × Mm)), (∀ (z6 : Int64) (z8 : Int32) (ν : Mm), Zw g ΛM enV RX7 cX7_goes 13 none rX7_goes 163 [(0, .ref (g.2.2.1 0)), (3, .int c3), (4, .int c4), (6, .long z6), (8, .int z8)] [] ν (k z6 z8 ν)) → Zw g ΛM enV RX7 cX7_goes 13 none rX7_goes 36 [(0, .ref (g.2.2.1 0)), (3, .int c3), (4, .int c4), (5, .int c5), (6, .long y6), (8, .int y8), (9, .int y9)] [] μ (lp_X7_goes_36 c3 c4 c5 n y6 y8 y9 μ k) := by
  intro n
  induction n with
  | zero =>
    intro y6 y8 y9 μ k hk
    exact z_none
  | succ n ih =>
    intro y6 y8 y9 μ k hk
    rw [lp_X7_goes_36]
    refine z_iload (pc := 36) 6 dX7_goes_36 rfl ?_
    refine z_if_eq (pc := 38) (tgt := 163) dX7_goes_38 (by decide) (fun h2 => ?_) (fun h2 => ?_)
    · refine z_sub (lv2 := [(0, .ref (g.2.2.1 0)), (3, .int c3), (4, .int c4), (6, .long y6), (8, .int y8)]) [0, 1, 2, 4, 5] rfl ?_
      exact hk _ _ _
    · refine z_iload (pc := 41) 3 dX7_goes_41 rfl ?_
      refine z_aload_n (pc := 43) 0 dX7_goes_43 rfl rfl ?_
      refine z_get (pc := 44) (v := .ref (g.2.2.1 1)) flX7_7 jnX7 ltM_0 kdM_0 rfl (by decide) rfl foM_0_0 rfl dX7_goes_44 ?_
      refine z_bipush (pc := 47) (v := 9) dX7_goes_47 (by decide +kernel) ?_
      refine z_iload (pc := 49) 5 dX7_goes_49 rfl ?_
      refine z_iadd (pc := 51) dX7_goes_51 ?_
      refine z_iaload_g (pc := 52) ltM_1 kdM_1 dX7_goes_52 ?_
      refine z_callS (pc := 53) (As := [.int c5, .int (μ.1 1 (((9 : Int32) + y8).toNatClampNeg))]) (rest := []) kX7_140 (m_X7_has g μ c5 (μ.1 1 (((9 : Int32) + y8).toNatClampNeg))) ⟨rfl, rfl⟩ ⟨Nat.le_of_ble_eq_true rfl, Nat.le_of_ble_eq_true rfl⟩ (Nat.le_of_ble_eq_true rfl) rfl rfl dX7_goes_53 (fun r3 μ4 => ?_)
      change Zw g ΛM enV RX7 cX7_goes 13 none rX7_goes 56 [(0, .ref (g.2.2.1 0)), (3, .int c3), (4, .int c4), (5, .int c5), (6, .long y6), (8, .int y8), (9, .int y9)] [.int r3] μ4 _
      refine z_if_eq (pc := 56) (tgt := 70) dX7_goes_56 (by decide) (fun h5 => ?_) (fun h5 => ?_)
      · refine z_iconst (pc := 70) (v := -1) dX7_goes_70 rfl ?_
        refine z_istore (pc := 71) (lv2 := [(0, .ref (g.2.2.1 0)), (3, .int c3), (4, .int c4), (5, .int c5), (6, .long y6), (8, .int y8), (9, .int y9), (10, .int (-1 : Int32))]) [1, 2, 3, 4, 5, 6, 7, 0] dX7_goes_71 (by decide) rfl ?_
        refine z_iload (pc := 73) 7 dX7_goes_73 rfl ?_
        refine z_iconst (pc := 75) (v := -1) dX7_goes_75 rfl ?_
        refine z_icmp_ne_x (pc := 76) (tgt := 83) dX7_goes_76 (by decide) (by decide +kernel) ?_
        refine z_lconst (pc := 79) (v := 0) dX7_goes_79 (by decide +kernel) ?_
        refine z_goto (pc := 80) (tgt := 112) dX7_goes_80 (by decide) ?_
        refine z_lstore (pc := 112) (lv2 := [(0, .ref (g.2.2.1 0)), (3, .int c3), (4, .int c4), (5, .int c5), (6, .long y6), (8, .int y8), (9, .int y9), (10, .int (-1 : Int32)), (11, .long (0 : Int64))]) [1, 2, 3, 4, 5, 6, 7, 8, 0] dX7_goes_112 (by decide) rfl ?_
        refine z_lload (pc := 114) 4 dX7_goes_114 rfl ?_
        refine z_lload (pc := 116) 8 dX7_goes_116 rfl ?_
        refine z_lcmp_lt (pc := 118) (tgt := 126) dX7_goes_118 dX7_goes_119 (by decide) (fun h6 => ?_) (fun h6 => ?_)
        · refine z_iconst (pc := 126) (v := 0) dX7_goes_126 rfl ?_
          refine z_istore (pc := 127) (lv2 := [(0, .ref (g.2.2.1 0)), (3, .int c3), (4, .int c4), (5, .int c5), (6, .long y6), (8, .int y8), (9, .int (0 : Int32)), (10, .int (-1 : Int32)), (11, .long (0 : Int64))]) [1, 2, 3, 4, 5, 6, 0, 7, 8] dX7_goes_127 (by decide) rfl ?_
          refine z_lload (pc := 129) 4 dX7_goes_129 rfl ?_
          refine z_iload (pc := 131) 6 dX7_goes_131 rfl ?_
          refine z_if_eq_y (pc := 133) (tgt := 141) dX7_goes_133 (by decide) (by decide +kernel) ?_
          refine z_lconst (pc := 141) (v := 0) dX7_goes_141 (by decide +kernel) ?_
          refine z_lsub (pc := 142) dX7_goes_142 ?_
          refine z_lstore (pc := 143) (lv2 := [(0, .ref (g.2.2.1 0)), (3, .int c3), (4, .int c4), (5, .int c5), (6, .long (y6 - (0 : Int64))), (8, .int y8), (9, .int (0 : Int32)), (10, .int (-1 : Int32)), (11, .long (0 : Int64))]) [1, 2, 3, 4, 0, 5, 6, 7, 8] dX7_goes_143 (by decide) rfl ?_
          refine z_iload (pc := 145) 5 dX7_goes_145 rfl ?_
          refine z_iload (pc := 147) 6 dX7_goes_147 rfl ?_
          refine z_if_eq_y (pc := 149) (tgt := 156) dX7_goes_149 (by decide) (by decide +kernel) ?_
          refine z_iconst (pc := 156) (v := 0) dX7_goes_156 rfl ?_
          refine z_iadd (pc := 157) dX7_goes_157 ?_
          refine z_istore (pc := 158) (lv2 := [(0, .ref (g.2.2.1 0)), (3, .int c3), (4, .int c4), (5, .int c5), (6, .long (y6 - (0 : Int64))), (8, .int (y8 + (0 : Int32))), (9, .int (0 : Int32)), (10, .int (-1 : Int32)), (11, .long (0 : Int64))]) [1, 2, 3, 4, 5, 0, 6, 7, 8] dX7_goes_158 (by decide) rfl ?_
          refine z_goto (pc := 160) (tgt := 36) dX7_goes_160 (by decide) ?_
          refine z_sub (lv2 := [(0, .ref (g.2.2.1 0)), (3, .int c3), (4, .int c4), (5, .int c5), (6, .long (y6 - (0 : Int64))), (8, .int (y8 + (0 : Int32))), (9, .int (0 : Int32))]) [0, 1, 2, 3, 4, 5, 6] rfl ?_
          exact ih _ _ _ _ _ hk
        · refine z_iconst (pc := 122) (v := 1) dX7_goes_122 rfl ?_
          refine z_goto (pc := 123) (tgt := 127) dX7_goes_123 (by decide) ?_
          refine z_istore (pc := 127) (lv2 := [(0, .ref (g.2.2.1 0)), (3, .int c3), (4, .int c4), (5, .int c5), (6, .long y6), (8, .int y8), (9, .int (1 : Int32)), (10, .int (-1 : Int32)), (11, .long (0 : Int64))]) [1, 2, 3, 4, 5, 6, 0, 7, 8] dX7_goes_127 (by decide) rfl ?_
          refine z_lload (pc := 129) 4 dX7_goes_129 rfl ?_
          refine z_iload (pc := 131) 6 dX7_goes_131 rfl ?_
          refine z_if_eq_x (pc := 133) (tgt := 141) dX7_goes_133 (by decide) (by decide +kernel) ?_
          refine z_lload (pc := 136) 8 dX7_goes_136 rfl ?_
          refine z_goto (pc := 138) (tgt := 142) dX7_goes_138 (by decide) ?_
          refine z_lsub (pc := 142) dX7_goes_142 ?_
          refine z_lstore (pc := 143) (lv2 := [(0, .ref (g.2.2.1 0)), (3, .int c3), (4, .int c4), (5, .int c5), (6, .long (y6 - (0 : Int64))), (8, .int y8), (9, .int (1 : Int32)), (10, .int (-1 : Int32)), (11, .long (0 : Int64))]) [1, 2, 3, 4, 0, 5, 6, 7, 8] dX7_goes_143 (by decide) rfl ?_
          refine z_iload (pc := 145) 5 dX7_goes_145 rfl ?_
          refine z_iload (pc := 147) 6 dX7_goes_147 rfl ?_
          refine z_if_eq_x (pc := 149) (tgt := 156) dX7_goes_149 (by decide) (by decide +kernel) ?_
          refine z_iconst (pc := 152) (v := 1) dX7_goes_152 rfl ?_
          refine z_goto (pc := 153) (tgt := 157) dX7_goes_153 (by decide) ?_
          refine z_iadd (pc := 157) dX7_goes_157 ?_
          refine z_istore (pc := 158) (lv2 := [(0, .ref (g.2.2.1 0)), (3, .int c3), (4, .int c4), (5, .int c5), (6, .long (y6 - (0 : Int64))), (8, .int (y8 + (1 : Int32))), (9, .int (1 : Int32)), (10, .int (-1 : Int32)), (11, .long (0 : Int64))]) [1, 2, 3, 4, 5, 0, 6, 7, 8] dX7_goes_158 (by decide) rfl ?_
          refine z_goto (pc := 160) (tgt := 36) dX7_goes_160 (by decide) ?_
          refine z_sub (lv2 := [(0, .ref (g.2.2.1 0)), (3, .int c3), (4, .int c4), (5, .int c5), (6, .long (y6 - (0 : Int64))), (8, .int (y8 + (1 : Int32))), (9, .int (1 : Int32))]) [0, 1, 2, 3, 4, 5, 6] rfl ?_
          exact ih _ _ _ _ _ hk
      · refine z_aload_n (pc := 59) 0 dX7_goes_59 rfl rfl ?_
        refine z_iload (pc := 60) 5 dX7_goes_60 rfl ?_
        refine z_iload (pc := 62) 2 dX7_goes_62 rfl ?_
        refine z_callV (pc := 64) (b := 0) (As := [.int y8, .int c4]) (rest := []) kX7_143 (m_X7_leads g μ4 y8 c4) ltM_0 kdM_0 rfl rfl ⟨rfl, rfl⟩ ⟨Nat.le_of_ble_eq_true rfl, Nat.le_of_ble_eq_true rfl⟩ (Nat.le_of_ble_eq_true rfl) rfl rfl dX7_goes_64 (fun r7 μ8 => ?_)
        change Zw g ΛM enV RX7 cX7_goes 13 none rX7_goes 67 [(0, .ref (g.2.2.1 0)), (3, .int c3), (4, .int c4), (5, .int c5), (6, .long y6), (8, .int y8), (9, .int y9)] [.int r7] μ8 _
        refine z_goto (pc := 67) (tgt := 71) dX7_goes_67 (by decide) ?_
        refine z_istore (pc := 71) (lv2 := [(0, .ref (g.2.2.1 0)), (3, .int c3), (4, .int c4), (5, .int c5), (6, .long y6), (8, .int y8), (9, .int y9), (10, .int r7)]) [1, 2, 3, 4, 5, 6, 7, 0] dX7_goes_71 (by decide) rfl ?_
        refine z_iload (pc := 73) 7 dX7_goes_73 rfl ?_
        refine z_iconst (pc := 75) (v := -1) dX7_goes_75 rfl ?_
        refine z_icmp_ne (pc := 76) (tgt := 83) dX7_goes_76 (by decide) (fun h9 => ?_) (fun h9 => ?_)
        · refine z_aload_n (pc := 83) 0 dX7_goes_83 rfl rfl ?_
          refine z_iload_n (pc := 84) 1 dX7_goes_84 rfl rfl ?_
          refine z_iload (pc := 85) 5 dX7_goes_85 rfl ?_
          refine z_callV (pc := 87) (b := 0) (As := [.int c3, .int y8]) (rest := []) kX7_146 (m_X7_weightOf g μ8 c3 y8) ltM_0 kdM_0 rfl rfl ⟨rfl, rfl⟩ ⟨Nat.le_of_ble_eq_true rfl, Nat.le_of_ble_eq_true rfl⟩ (Nat.le_of_ble_eq_true rfl) rfl rfl dX7_goes_87 (fun r10 μ11 => ?_)
          change Zw g ΛM enV RX7 cX7_goes 13 none rX7_goes 90 [(0, .ref (g.2.2.1 0)), (3, .int c3), (4, .int c4), (5, .int c5), (6, .long y6), (8, .int y8), (9, .int y9), (10, .int r7)] [.int r10] μ11 _
          refine z_i2l (pc := 90) dX7_goes_90 ?_
          refine z_aload_n (pc := 91) 0 dX7_goes_91 rfl rfl ?_
          refine z_get (pc := 92) (v := .ref (g.2.2.1 6)) flX7_25 jnX7 ltM_0 kdM_0 rfl (by decide) rfl foM_0_8 rfl dX7_goes_92 ?_
          refine z_iconst (pc := 95) (v := 4) dX7_goes_95 rfl ?_
          refine z_iload (pc := 96) 7 dX7_goes_96 rfl ?_
          refine z_imul (pc := 98) dX7_goes_98 ?_
          refine z_aload_n (pc := 99) 0 dX7_goes_99 rfl rfl ?_
          refine z_get (pc := 100) (v := .ref (g.2.2.1 1)) flX7_7 jnX7 ltM_0 kdM_0 rfl (by decide) rfl foM_0_0 rfl dX7_goes_100 ?_
          refine z_bipush (pc := 103) (v := 9) dX7_goes_103 (by decide +kernel) ?_
          refine z_iload (pc := 105) 5 dX7_goes_105 rfl ?_
          refine z_iadd (pc := 107) dX7_goes_107 ?_
          refine z_iaload_g (pc := 108) ltM_1 kdM_1 dX7_goes_108 ?_
          refine z_iadd (pc := 109) dX7_goes_109 ?_
          refine z_laload_g (pc := 110) ltM_6 kdM_6 dX7_goes_110 ?_
          refine z_lmul (pc := 111) dX7_goes_111 ?_
          refine z_lstore (pc := 112) (lv2 := [(0, .ref (g.2.2.1 0)), (3, .int c3), (4, .int c4), (5, .int c5), (6, .long y6), (8, .int y8), (9, .int y9), (10, .int r7), (11, .long (r10.toInt64 * (μ11.2 6 ((((4 : Int32) * r7) + (μ11.1 1 (((9 : Int32) + y8).toNatClampNeg))).toNatClampNeg))))]) [1, 2, 3, 4, 5, 6, 7, 8, 0] dX7_goes_112 (by decide) rfl ?_
          refine z_lload (pc := 114) 4 dX7_goes_114 rfl ?_
          refine z_lload (pc := 116) 8 dX7_goes_116 rfl ?_
          refine z_lcmp_lt (pc := 118) (tgt := 126) dX7_goes_118 dX7_goes_119 (by decide) (fun h12 => ?_) (fun h12 => ?_)
          · refine z_iconst (pc := 126) (v := 0) dX7_goes_126 rfl ?_
            refine z_istore (pc := 127) (lv2 := [(0, .ref (g.2.2.1 0)), (3, .int c3), (4, .int c4), (5, .int c5), (6, .long y6), (8, .int y8), (9, .int (0 : Int32)), (10, .int r7), (11, .long (r10.toInt64 * (μ11.2 6 ((((4 : Int32) * r7) + (μ11.1 1 (((9 : Int32) + y8).toNatClampNeg))).toNatClampNeg))))]) [1, 2, 3, 4, 5, 6, 0, 7, 8] dX7_goes_127 (by decide) rfl ?_
            refine z_lload (pc := 129) 4 dX7_goes_129 rfl ?_
            refine z_iload (pc := 131) 6 dX7_goes_131 rfl ?_
            refine z_if_eq_y (pc := 133) (tgt := 141) dX7_goes_133 (by decide) (by decide +kernel) ?_
            refine z_lconst (pc := 141) (v := 0) dX7_goes_141 (by decide +kernel) ?_
            refine z_lsub (pc := 142) dX7_goes_142 ?_
            refine z_lstore (pc := 143) (lv2 := [(0, .ref (g.2.2.1 0)), (3, .int c3), (4, .int c4), (5, .int c5), (6, .long (y6 - (0 : Int64))), (8, .int y8), (9, .int (0 : Int32)), (10, .int r7), (11, .long (r10.toInt64 * (μ11.2 6 ((((4 : Int32) * r7) + (μ11.1 1 (((9 : Int32) + y8).toNatClampNeg))).toNatClampNeg))))]) [1, 2, 3, 4, 0, 5, 6, 7, 8] dX7_goes_143 (by decide) rfl ?_
            refine z_iload (pc := 145) 5 dX7_goes_145 rfl ?_
            refine z_iload (pc := 147) 6 dX7_goes_147 rfl ?_
            refine z_if_eq_y (pc := 149) (tgt := 156) dX7_goes_149 (by decide) (by decide +kernel) ?_
            refine z_iconst (pc := 156) (v := 0) dX7_goes_156 rfl ?_
            refine z_iadd (pc := 157) dX7_goes_157 ?_
            refine z_istore (pc := 158) (lv2 := [(0, .ref (g.2.2.1 0)), (3, .int c3), (4, .int c4), (5, .int c5), (6, .long (y6 - (0 : Int64))), (8, .int (y8 + (0 : Int32))), (9, .int (0 : Int32)), (10, .int r7), (11, .long (r10.toInt64 * (μ11.2 6 ((((4 : Int32) * r7) + (μ11.1 1 (((9 : Int32) + y8).toNatClampNeg))).toNatClampNeg))))]) [1, 2, 3, 4, 5, 0, 6, 7, 8] dX7_goes_158 (by decide) rfl ?_
            refine z_goto (pc := 160) (tgt := 36) dX7_goes_160 (by decide) ?_
            refine z_sub (lv2 := [(0, .ref (g.2.2.1 0)), (3, .int c3), (4, .int c4), (5, .int c5), (6, .long (y6 - (0 : Int64))), (8, .int (y8 + (0 : Int32))), (9, .int (0 : Int32))]) [0, 1, 2, 3, 4, 5, 6] rfl ?_
            exact ih _ _ _ _ _ hk
          · refine z_iconst (pc := 122) (v := 1) dX7_goes_122 rfl ?_
            refine z_goto (pc := 123) (tgt := 127) dX7_goes_123 (by decide) ?_
            refine z_istore (pc := 127) (lv2 := [(0, .ref (g.2.2.1 0)), (3, .int c3), (4, .int c4), (5, .int c5), (6, .long y6), (8, .int y8), (9, .int (1 : Int32)), (10, .int r7), (11, .long (r10.toInt64 * (μ11.2 6 ((((4 : Int32) * r7) + (μ11.1 1 (((9 : Int32) + y8).toNatClampNeg))).toNatClampNeg))))]) [1, 2, 3, 4, 5, 6, 0, 7, 8] dX7_goes_127 (by decide) rfl ?_
            refine z_lload (pc := 129) 4 dX7_goes_129 rfl ?_
            refine z_iload (pc := 131) 6 dX7_goes_131 rfl ?_
            refine z_if_eq_x (pc := 133) (tgt := 141) dX7_goes_133 (by decide) (by decide +kernel) ?_
            refine z_lload (pc := 136) 8 dX7_goes_136 rfl ?_
            refine z_goto (pc := 138) (tgt := 142) dX7_goes_138 (by decide) ?_
            refine z_lsub (pc := 142) dX7_goes_142 ?_
            refine z_lstore (pc := 143) (lv2 := [(0, .ref (g.2.2.1 0)), (3, .int c3), (4, .int c4), (5, .int c5), (6, .long (y6 - (r10.toInt64 * (μ11.2 6 ((((4 : Int32) * r7) + (μ11.1 1 (((9 : Int32) + y8).toNatClampNeg))).toNatClampNeg))))), (8, .int y8), (9, .int (1 : Int32)), (10, .int r7), (11, .long (r10.toInt64 * (μ11.2 6 ((((4 : Int32) * r7) + (μ11.1 1 (((9 : Int32) + y8).toNatClampNeg))).toNatClampNeg))))]) [1, 2, 3, 4, 0, 5, 6, 7, 8] dX7_goes_143 (by decide) rfl ?_
            refine z_iload (pc := 145) 5 dX7_goes_145 rfl ?_
            refine z_iload (pc := 147) 6 dX7_goes_147 rfl ?_
            refine z_if_eq_x (pc := 149) (tgt := 156) dX7_goes_149 (by decide) (by decide +kernel) ?_
            refine z_iconst (pc := 152) (v := 1) dX7_goes_152 rfl ?_
            refine z_goto (pc := 153) (tgt := 157) dX7_goes_153 (by decide) ?_
            refine z_iadd (pc := 157) dX7_goes_157 ?_
            refine z_istore (pc := 158) (lv2 := [(0, .ref (g.2.2.1 0)), (3, .int c3), (4, .int c4), (5, .int c5), (6, .long (y6 - (r10.toInt64 * (μ11.2 6 ((((4 : Int32) * r7) + (μ11.1 1 (((9 : Int32) + y8).toNatClampNeg))).toNatClampNeg))))), (8, .int (y8 + (1 : Int32))), (9, .int (1 : Int32)), (10, .int r7), (11, .long (r10.toInt64 * (μ11.2 6 ((((4 : Int32) * r7) + (μ11.1 1 (((9 : Int32) + y8).toNatClampNeg))).toNatClampNeg))))]) [1, 2, 3, 4, 5, 0, 6, 7, 8] dX7_goes_158 (by decide) rfl ?_
            refine z_goto (pc := 160) (tgt := 36) dX7_goes_160 (by decide) ?_
            refine z_sub (lv2 := [(0, .ref (g.2.2.1 0)), (3, .int c3), (4, .int c4), (5, .int c5), (6, .long (y6 - (r10.toInt64 * (μ11.2 6 ((((4 : Int32) * r7) + (μ11.1 1 (((9 : Int32) + y8).toNatClampNeg))).toNatClampNeg))))), (8, .int (y8 + (1 : Int32))), (9, .int (1 : Int32))]) [0, 1, 2, 3, 4, 5, 6] rfl ?_
            exact ih _ _ _ _ _ hk
        · refine z_lconst (pc := 79) (v := 0) dX7_goes_79 (by decide +kernel) ?_
          refine z_goto (pc := 80) (tgt := 112) dX7_goes_80 (by decide) ?_
          refine z_lstore (pc := 112) (lv2 := [(0, .ref (g.2.2.1 0)), (3, .int c3), (4, .int c4), (5, .int c5), (6, .long y6), (8, .int y8), (9, .int y9), (10, .int r7), (11, .long (0 : Int64))]) [1, 2, 3, 4, 5, 6, 7, 8, 0] dX7_goes_112 (by decide) rfl ?_
          refine z_lload (pc := 114) 4 dX7_goes_114 rfl ?_
          refine z_lload (pc := 116) 8 dX7_goes_116 rfl ?_
          refine z_lcmp_lt (pc := 118) (tgt := 126) dX7_goes_118 dX7_goes_119 (by decide) (fun h13 => ?_) (fun h13 => ?_)
          · refine z_iconst (pc := 126) (v := 0) dX7_goes_126 rfl ?_
            refine z_istore (pc := 127) (lv2 := [(0, .ref (g.2.2.1 0)), (3, .int c3), (4, .int c4), (5, .int c5), (6, .long y6), (8, .int y8), (9, .int (0 : Int32)), (10, .int r7), (11, .long (0 : Int64))]) [1, 2, 3, 4, 5, 6, 0, 7, 8] dX7_goes_127 (by decide) rfl ?_
            refine z_lload (pc := 129) 4 dX7_goes_129 rfl ?_
            refine z_iload (pc := 131) 6 dX7_goes_131 rfl ?_
            refine z_if_eq_y (pc := 133) (tgt := 141) dX7_goes_133 (by decide) (by decide +kernel) ?_
            refine z_lconst (pc := 141) (v := 0) dX7_goes_141 (by decide +kernel) ?_
            refine z_lsub (pc := 142) dX7_goes_142 ?_
            refine z_lstore (pc := 143) (lv2 := [(0, .ref (g.2.2.1 0)), (3, .int c3), (4, .int c4), (5, .int c5), (6, .long (y6 - (0 : Int64))), (8, .int y8), (9, .int (0 : Int32)), (10, .int r7), (11, .long (0 : Int64))]) [1, 2, 3, 4, 0, 5, 6, 7, 8] dX7_goes_143 (by decide) rfl ?_
            refine z_iload (pc := 145) 5 dX7_goes_145 rfl ?_
            refine z_iload (pc := 147) 6 dX7_goes_147 rfl ?_
            refine z_if_eq_y (pc := 149) (tgt := 156) dX7_goes_149 (by decide) (by decide +kernel) ?_
            refine z_iconst (pc := 156) (v := 0) dX7_goes_156 rfl ?_
            refine z_iadd (pc := 157) dX7_goes_157 ?_
            refine z_istore (pc := 158) (lv2 := [(0, .ref (g.2.2.1 0)), (3, .int c3), (4, .int c4), (5, .int c5), (6, .long (y6 - (0 : Int64))), (8, .int (y8 + (0 : Int32))), (9, .int (0 : Int32)), (10, .int r7), (11, .long (0 : Int64))]) [1, 2, 3, 4, 5, 0, 6, 7, 8] dX7_goes_158 (by decide) rfl ?_
            refine z_goto (pc := 160) (tgt := 36) dX7_goes_160 (by decide) ?_
            refine z_sub (lv2 := [(0, .ref (g.2.2.1 0)), (3, .int c3), (4, .int c4), (5, .int c5), (6, .long (y6 - (0 : Int64))), (8, .int (y8 + (0 : Int32))), (9, .int (0 : Int32))]) [0, 1, 2, 3, 4, 5, 6] rfl ?_
            exact ih _ _ _ _ _ hk
          · refine z_iconst (pc := 122) (v := 1) dX7_goes_122 rfl ?_
            refine z_goto (pc := 123) (tgt := 127) dX7_goes_123 (by decide) ?_
            refine z_istore (pc := 127) (lv2 := [(0, .ref (g.2.2.1 0)), (3, .int c3), (4, .int c4), (5, .int c5), (6, .long y6), (8, .int y8), (9, .int (1 : Int32)), (10, .int r7), (11, .long (0 : Int64))]) [1, 2, 3, 4, 5, 6, 0, 7, 8] dX7_goes_127 (by decide) rfl ?_
            refine z_lload (pc := 129) 4 dX7_goes_129 rfl ?_
            refine z_iload (pc := 131) 6 dX7_goes_131 rfl ?_
            refine z_if_eq_x (pc := 133) (tgt := 141) dX7_goes_133 (by decide) (by decide +kernel) ?_
            refine z_lload (pc := 136) 8 dX7_goes_136 rfl ?_
            refine z_goto (pc := 138) (tgt := 142) dX7_goes_138 (by decide) ?_
            refine z_lsub (pc := 142) dX7_goes_142 ?_
            refine z_lstore (pc := 143) (lv2 := [(0, .ref (g.2.2.1 0)), (3, .int c3), (4, .int c4), (5, .int c5), (6, .long (y6 - (0 : Int64))), (8, .int y8), (9, .int (1 : Int32)), (10, .int r7), (11, .long (0 : Int64))]) [1, 2, 3, 4, 0, 5, 6, 7, 8] dX7_goes_143 (by decide) rfl ?_
            refine z_iload (pc := 145) 5 dX7_goes_145 rfl ?_
            refine z_iload (pc := 147) 6 dX7_goes_147 rfl ?_
            refine z_if_eq_x (pc := 149) (tgt := 156) dX7_goes_149 (by decide) (by decide +kernel) ?_
            refine z_iconst (pc := 152) (v := 1) dX7_goes_152 rfl ?_
            refine z_goto (pc := 153) (tgt := 157) dX7_goes_153 (by decide) ?_
            refine z_iadd (pc := 157) dX7_goes_157 ?_
            refine z_istore (pc := 158) (lv2 := [(0, .ref (g.2.2.1 0)), (3, .int c3), (4, .int c4), (5, .int c5), (6, .long (y6 - (0 : Int64))), (8, .int (y8 + (1 : Int32))), (9, .int (1 : Int32)), (10, .int r7), (11, .long (0 : Int64))]) [1, 2, 3, 4, 5, 0, 6, 7, 8] dX7_goes_158 (by decide) rfl ?_
            refine z_goto (pc := 160) (tgt := 36) dX7_goes_160 (by decide) ?_
            refine z_sub (lv2 := [(0, .ref (g.2.2.1 0)), (3, .int c3), (4, .int c4), (5, .int c5), (6, .long (y6 - (0 : Int64))), (8, .int (y8 + (1 : Int32))), (9, .int (1 : Int32))]) [0, 1, 2, 3, 4, 5, 6] rfl ?_
            exact ih _ _ _ _ _ hk
def lp_X7_goes_19 (c3 : Int32) : Nat → Int32 → Int32 → Int64 → Mm → (Mm → Option (Unit × Mm)) → Option (Unit × Mm)
  | 0, _, _, _, _, _ => none
  | n + 1, y4, y5, y6, μ, k => if (μ.1 1 2) ≤ y4 then (k  μ) else (lp_X7_goes_36 c3 y4 y5 FU y6 (0 : Int32) (1 : Int32) μ (fun x14 x15 μ16 => if zin (μ16.1 0 11) 40 then (bd (f_X7_weightOf c3 x15 (si (si μ16 7 ((μ16.1 0 11).toNatClampNeg) x15) 0 11 ((μ16.1 0 11) + (1 : Int32)))) fun r17 μ18 => if ¬ r17.toInt64 = 0 then (bd (f_X7_leads x15 y4 μ18) fun r19 μ20 => if zin ((9 : Int32) + x15) 148 then (if zin ((5 : Int32) + (μ20.1 1 (((9 : Int32) + x15).toNatClampNeg))) 148 then (lp_X7_goes_19 c3 n r19 (μ20.1 1 (((5 : Int32) + (μ20.1 1 (((9 : Int32) + x15).toNatClampNeg))).toNatClampNeg)) (x14 / r17.toInt64) μ20 k) else none) else none) else none) else none))
theorem w_X7_goes_19 (g : Gx) (c3 : Int32) : ∀ (n : Nat) (y4 : Int32) (y5 : Int32) (y6 : Int64) (μ : Mm) (k : Mm → Option (Unit × Mm)), (∀ (ν : Mm), Zw g ΛM enV RX7 cX7_goes 13 none rX7_goes 229 [] [] ν (k  ν)) → Zw g ΛM enV RX7 cX7_goes 13 none rX7_goes 19 [(0, .ref (g.2.2.1 0)), (3, .int c3), (4, .int y4), (5, .int y5), (6, .long y6)] [] μ (lp_X7_goes_19 c3 n y4 y5 y6 μ k) := by
  intro n
  induction n with
  | zero =>
    intro y4 y5 y6 μ k hk
    exact z_none
  | succ n ih =>
    intro y4 y5 y6 μ k hk
    rw [lp_X7_goes_19]
    refine z_iload (pc := 19) 2 dX7_goes_19 rfl ?_
    refine z_aload_n (pc := 21) 0 dX7_goes_21 rfl rfl ?_
    refine z_get (pc := 22) (v := .ref (g.2.2.1 1)) flX7_7 jnX7 ltM_0 kdM_0 rfl (by decide) rfl foM_0_0 rfl dX7_goes_22 ?_
    refine z_iconst (pc := 25) (v := 2) dX7_goes_25 rfl ?_
    refine z_iaload (pc := 26) (j := 2) ltM_1 kdM_1 (by decide +kernel) (by decide +kernel) dX7_goes_26 ?_
    refine z_icmp_ge (pc := 27) (tgt := 229) dX7_goes_27 (by decide) (fun h1 => ?_) (fun h1 => ?_)
    · refine z_sub (lv2 := []) [] rfl ?_
      exact hk _
    · refine z_iconst (pc := 30) (v := 0) dX7_goes_30 rfl ?_
      refine z_istore (pc := 31) (lv2 := [(0, .ref (g.2.2.1 0)), (3, .int c3), (4, .int y4), (5, .int y5), (6, .long y6), (8, .int (0 : Int32))]) [1, 2, 3, 4, 5, 0] dX7_goes_31 (by decide) rfl ?_
      refine z_iconst (pc := 33) (v := 1) dX7_goes_33 rfl ?_
      refine z_istore (pc := 34) (lv2 := [(0, .ref (g.2.2.1 0)), (3, .int c3), (4, .int y4), (5, .int y5), (6, .long y6), (8, .int (0 : Int32)), (9, .int (1 : Int32))]) [1, 2, 3, 4, 5, 6, 0] dX7_goes_34 (by decide) rfl ?_
      refine w_X7_goes_36 g c3 y4 y5 FU y6 (0 : Int32) (1 : Int32) μ _ (fun x14 x15 μ16 => ?_)
      refine z_aload_n (pc := 163) 0 dX7_goes_163 rfl rfl ?_
      refine z_get (pc := 164) (v := .ref (g.2.2.1 7)) flX7_29 jnX7 ltM_0 kdM_0 rfl (by decide) rfl foM_0_10 rfl dX7_goes_164 ?_
      refine z_aload_n (pc := 167) 0 dX7_goes_167 rfl rfl ?_
      refine z_get (pc := 168) (v := .int (μ16.1 0 11)) flX7_169 jnX7 ltM_0 kdM_0 rfl (by decide) rfl foM_0_11 rfl dX7_goes_168 ?_
      refine z_iload (pc := 171) 4 dX7_goes_171 rfl ?_
      refine z_iastore_g (pc := 173) ltM_7 kdM_7 dX7_goes_173 ?_
      refine z_aload_n (pc := 174) 0 dX7_goes_174 rfl rfl ?_
      refine z_dup (pc := 175) dX7_goes_175 rfl ?_
      refine z_get (pc := 176) (v := .int (μ16.1 0 11)) flX7_169 jnX7 ltM_0 kdM_0 rfl (by decide) rfl foM_0_11 rfl dX7_goes_176 ?_
      refine z_iconst (pc := 179) (v := 1) dX7_goes_179 rfl ?_
      refine z_iadd (pc := 180) dX7_goes_180 ?_
      refine z_puti (x := (0, 0)) (pc := 181) flX7_169 jnX7 tyX7 tyX7_ok nmX7 ltM_0 kdM_0 rfl (by decide) rfl foM_0_11 rfl ⟨rfl, rfl⟩ dX7_goes_181 ?_
      refine z_lload (pc := 184) 3 dX7_goes_184 rfl ?_
      refine z_aload_n (pc := 186) 0 dX7_goes_186 rfl rfl ?_
      refine z_iload_n (pc := 187) 1 dX7_goes_187 rfl rfl ?_
      refine z_iload (pc := 188) 4 dX7_goes_188 rfl ?_
      refine z_callV (pc := 190) (b := 0) (As := [.int c3, .int x15]) (rest := [.long x14]) kX7_146 (m_X7_weightOf g (si (si μ16 7 ((μ16.1 0 11).toNatClampNeg) x15) 0 11 ((μ16.1 0 11) + (1 : Int32))) c3 x15) ltM_0 kdM_0 rfl rfl ⟨rfl, rfl⟩ ⟨Nat.le_of_ble_eq_true rfl, Nat.le_of_ble_eq_true rfl⟩ (Nat.le_of_ble_eq_true rfl) rfl rfl dX7_goes_190 (fun r17 μ18 => ?_)
      change Zw g ΛM enV RX7 cX7_goes 13 none rX7_goes 193 [(0, .ref (g.2.2.1 0)), (3, .int c3), (4, .int y4), (6, .long x14), (8, .int x15)] [.int r17, .long x14] μ18 _
      refine z_i2l (pc := 193) dX7_goes_193 ?_
      refine z_ldiv_g (pc := 194) dX7_goes_194 ?_
      refine z_lstore (pc := 195) (lv2 := [(0, .ref (g.2.2.1 0)), (3, .int c3), (4, .int y4), (6, .long (x14 / r17.toInt64)), (8, .int x15)]) [1, 2, 3, 0, 4] dX7_goes_195 (by decide) rfl ?_
      refine z_aload_n (pc := 197) 0 dX7_goes_197 rfl rfl ?_
      refine z_iload (pc := 198) 4 dX7_goes_198 rfl ?_
      refine z_iload (pc := 200) 2 dX7_goes_200 rfl ?_
      refine z_callV (pc := 202) (b := 0) (As := [.int x15, .int y4]) (rest := []) kX7_143 (m_X7_leads g μ18 x15 y4) ltM_0 kdM_0 rfl rfl ⟨rfl, rfl⟩ ⟨Nat.le_of_ble_eq_true rfl, Nat.le_of_ble_eq_true rfl⟩ (Nat.le_of_ble_eq_true rfl) rfl rfl dX7_goes_202 (fun r19 μ20 => ?_)
      change Zw g ΛM enV RX7 cX7_goes 13 none rX7_goes 205 [(0, .ref (g.2.2.1 0)), (3, .int c3), (4, .int y4), (6, .long (x14 / r17.toInt64)), (8, .int x15)] [.int r19] μ20 _
      refine z_istore (pc := 205) (lv2 := [(0, .ref (g.2.2.1 0)), (3, .int c3), (4, .int r19), (6, .long (x14 / r17.toInt64)), (8, .int x15)]) [1, 2, 0, 3, 4] dX7_goes_205 (by decide) rfl ?_
      refine z_aload_n (pc := 207) 0 dX7_goes_207 rfl rfl ?_
      refine z_get (pc := 208) (v := .ref (g.2.2.1 1)) flX7_7 jnX7 ltM_0 kdM_0 rfl (by decide) rfl foM_0_0 rfl dX7_goes_208 ?_
      refine z_iconst (pc := 211) (v := 5) dX7_goes_211 rfl ?_
      refine z_aload_n (pc := 212) 0 dX7_goes_212 rfl rfl ?_
      refine z_get (pc := 213) (v := .ref (g.2.2.1 1)) flX7_7 jnX7 ltM_0 kdM_0 rfl (by decide) rfl foM_0_0 rfl dX7_goes_213 ?_
      refine z_bipush (pc := 216) (v := 9) dX7_goes_216 (by decide +kernel) ?_
      refine z_iload (pc := 218) 4 dX7_goes_218 rfl ?_
      refine z_iadd (pc := 220) dX7_goes_220 ?_
      refine z_iaload_g (pc := 221) ltM_1 kdM_1 dX7_goes_221 ?_
      refine z_iadd (pc := 222) dX7_goes_222 ?_
      refine z_iaload_g (pc := 223) ltM_1 kdM_1 dX7_goes_223 ?_
      refine z_istore (pc := 224) (lv2 := [(0, .ref (g.2.2.1 0)), (3, .int c3), (4, .int r19), (5, .int (μ20.1 1 (((5 : Int32) + (μ20.1 1 (((9 : Int32) + x15).toNatClampNeg))).toNatClampNeg))), (6, .long (x14 / r17.toInt64)), (8, .int x15)]) [1, 2, 3, 0, 4, 5] dX7_goes_224 (by decide) rfl ?_
      refine z_goto (pc := 226) (tgt := 19) dX7_goes_226 (by decide) ?_
      refine z_sub (lv2 := [(0, .ref (g.2.2.1 0)), (3, .int c3), (4, .int r19), (5, .int (μ20.1 1 (((5 : Int32) + (μ20.1 1 (((9 : Int32) + x15).toNatClampNeg))).toNatClampNeg))), (6, .long (x14 / r17.toInt64))]) [0, 1, 2, 3, 4] rfl ?_
      exact ih _ _ _ _ _ hk
def f_X7_goes (a1 : Int64) (a3 : Int32) (μ : Mm) : Option (Unit × Mm) := lp_X7_goes_19 a3 FU (0 : Int32) (μ.1 1 3) a1 (si μ 0 11 (0 : Int32)) (fun  μ21 => some ((), μ21))
theorem m_X7_goes (g : Gx) (μ : Mm) (a1 : Int64) (a3 : Int32) : Zm g ΛM enV yX7_goes cX7_goes 13 none rX7_goes [.ref (g.2.2.1 0), .long a1, .int a3] μ (f_X7_goes a1 a3 μ) := by
  refine z_met (by decide +kernel) (Nat.le_of_ble_eq_true rfl) ?_
  change Zw g ΛM enV RX7 cX7_goes 13 none rX7_goes 0 [(0, .ref (g.2.2.1 0)), (1, .long a1), (3, .int a3)] [] μ (f_X7_goes a1 a3 μ)
  rw [f_X7_goes]
  refine z_aload_n (pc := 0) 0 dX7_goes_0 rfl rfl ?_
  refine z_iconst (pc := 1) (v := 0) dX7_goes_1 rfl ?_
  refine z_puti (x := (0, 0)) (pc := 2) flX7_169 jnX7 tyX7 tyX7_ok nmX7 ltM_0 kdM_0 rfl (by decide) rfl foM_0_11 rfl ⟨rfl, rfl⟩ dX7_goes_2 ?_
  refine z_iconst (pc := 5) (v := 0) dX7_goes_5 rfl ?_
  refine z_istore (pc := 6) (lv2 := [(0, .ref (g.2.2.1 0)), (1, .long a1), (3, .int a3), (4, .int (0 : Int32))]) [1, 2, 3, 0] dX7_goes_6 (by decide) rfl ?_
  refine z_aload_n (pc := 8) 0 dX7_goes_8 rfl rfl ?_
  refine z_get (pc := 9) (v := .ref (g.2.2.1 1)) flX7_7 jnX7 ltM_0 kdM_0 rfl (by decide) rfl foM_0_0 rfl dX7_goes_9 ?_
  refine z_iconst (pc := 12) (v := 3) dX7_goes_12 rfl ?_
  refine z_iaload (pc := 13) (j := 3) ltM_1 kdM_1 (by decide +kernel) (by decide +kernel) dX7_goes_13 ?_
  show Zw g ΛM enV RX7 cX7_goes 13 none rX7_goes 14 [(0, .ref (g.2.2.1 0)), (1, .long a1), (3, .int a3), (4, .int (0 : Int32))] [.int (μ.1 1 3)] (si μ 0 11 (0 : Int32)) _
  refine z_istore (pc := 14) (lv2 := [(0, .ref (g.2.2.1 0)), (1, .long a1), (3, .int a3), (4, .int (0 : Int32)), (5, .int (μ.1 1 3))]) [1, 2, 3, 4, 0] dX7_goes_14 (by decide) rfl ?_
  refine z_lload_n (pc := 16) 1 dX7_goes_16 rfl rfl ?_
  refine z_lstore (pc := 17) (lv2 := [(0, .ref (g.2.2.1 0)), (1, .long a1), (3, .int a3), (4, .int (0 : Int32)), (5, .int (μ.1 1 3)), (6, .long a1)]) [1, 2, 3, 4, 5, 0] dX7_goes_17 (by decide) rfl ?_
  refine z_sub (lv2 := [(0, .ref (g.2.2.1 0)), (3, .int a3), (4, .int (0 : Int32)), (5, .int (μ.1 1 3)), (6, .long a1)]) [0, 2, 3, 4, 5] rfl ?_
  refine w_X7_goes_19 g a3 FU (0 : Int32) (μ.1 1 3) a1 (si μ 0 11 (0 : Int32)) _ (fun  μ21 => ?_)
  exact z_vret dX7_goes_229
