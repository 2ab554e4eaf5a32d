def f_X7_tellRow (a1 : Int32) (μ : Mm) : Option (Int32 × Mm) := if a1 = (-1 : Int32) then (some (μ.1 0 11, μ)) else (if (μ.1 0 11) ≤ a1 then (some ((-10 : Int32), μ)) else (if zin a1 40 then (some (μ.1 7 a1.toNatClampNeg, μ)) else none))
theorem m_X7_tellRow (g : Gx) (μ : Mm) (a1 : Int32) : Zm g ΛM enI yX7_tellRow cX7_tellRow 2 (some .int) rX7_tellRow [.ref (g.2.2.1 0), .int a1] μ (f_X7_tellRow a1 μ) := by
  refine z_met (by decide +kernel) (Nat.le_of_ble_eq_true rfl) ?_
  change Zw g ΛM enI RX7 cX7_tellRow 2 (some .int) rX7_tellRow 0 [(0, .ref (g.2.2.1 0)), (1, .int a1)] [] μ (f_X7_tellRow a1 μ)
  rw [f_X7_tellRow]
  refine z_iload_n (pc := 0) 1 dX7_tellRow_0 rfl rfl ?_
  refine z_iconst (pc := 1) (v := -1) dX7_tellRow_1 rfl ?_
  refine z_icmp_ne (pc := 2) (tgt := 12) dX7_tellRow_2 (by decide) (fun h1 => ?_) (fun h1 => ?_)
  · refine z_iload_n (pc := 12) 1 dX7_tellRow_12 rfl rfl ?_
    refine z_aload_n (pc := 13) 0 dX7_tellRow_13 rfl rfl ?_
    refine z_get (pc := 14) (v := .int (μ.1 0 11)) flX7_169 jnX7 ltM_0 kdM_0 rfl (by decide) rfl foM_0_11 rfl dX7_tellRow_14 ?_
    refine z_icmp_ge (pc := 17) (tgt := 29) dX7_tellRow_17 (by decide) (fun h2 => ?_) (fun h2 => ?_)
    · refine z_bipush (pc := 29) (v := -10) dX7_tellRow_29 (by decide +kernel) ?_
      exact z_iret dX7_tellRow_31
    · refine z_aload_n (pc := 20) 0 dX7_tellRow_20 rfl rfl ?_
      refine z_get (pc := 21) (v := .ref (g.2.2.1 7)) flX7_29 jnX7 ltM_0 kdM_0 rfl (by decide) rfl foM_0_10 rfl dX7_tellRow_21 ?_
      refine z_iload_n (pc := 24) 1 dX7_tellRow_24 rfl rfl ?_
      refine z_iaload_g (pc := 25) ltM_7 kdM_7 dX7_tellRow_25 ?_
      refine z_goto (pc := 26) (tgt := 31) dX7_tellRow_26 (by decide) ?_
      exact z_iret dX7_tellRow_31
  · refine z_aload_n (pc := 5) 0 dX7_tellRow_5 rfl rfl ?_
    refine z_get (pc := 6) (v := .int (μ.1 0 11)) flX7_169 jnX7 ltM_0 kdM_0 rfl (by decide) rfl foM_0_11 rfl dX7_tellRow_6 ?_
    refine z_goto (pc := 9) (tgt := 31) dX7_tellRow_9 (by decide) ?_
    exact z_iret dX7_tellRow_31
def f_X7_row (a1 : Int64) (a3 : Int32) (μ : Mm) : Option (Int32 × Mm) := if a1 < (0 : Int64) then (bd (f_X7_bad μ) fun r2 μ3 => some (r2, μ3)) else (if (-1 : Int32) ≤ a3 then (bd (f_X7_waysOr (0 : Int32) (-1 : Int32) μ) fun r5 μ6 => if r5 = (-5 : Int64) then (bd (f_X7_much μ6) fun r15 μ16 => some (r15, μ16)) else (if a1 < r5 then (bd (f_X7_goes a1 (-1 : Int32) μ6) fun r9 μ10 => bd (f_X7_tellRow a3 μ10) fun r11 μ12 => some (r11, μ12)) else (bd (f_X7_no μ6) fun r13 μ14 => some (r13, μ14)))) else (bd (f_X7_bad μ) fun r17 μ18 => some (r17, μ18)))
theorem m_X7_row (g : Gx) (μ : Mm) (a1 : Int64) (a3 : Int32) : Zm g ΛM enI yX7_row cX7_row 6 (some .int) rX7_row [.ref (g.2.2.1 0), .long a1, .int a3] μ (f_X7_row a1 a3 μ) := by
  refine z_met (by decide +kernel) (Nat.le_of_ble_eq_true rfl) ?_
  change Zw g ΛM enI RX7 cX7_row 6 (some .int) rX7_row 0 [(0, .ref (g.2.2.1 0)), (1, .long a1), (3, .int a3)] [] μ (f_X7_row a1 a3 μ)
  rw [f_X7_row]
  refine z_lload_n (pc := 0) 1 dX7_row_0 rfl rfl ?_
  refine z_lconst (pc := 1) (v := 0) dX7_row_1 (by decide +kernel) ?_
  refine z_lcmp_lt (pc := 2) (tgt := 11) dX7_row_2 dX7_row_3 (by decide) (fun h1 => ?_) (fun h1 => ?_)
  · refine z_aload_n (pc := 11) 0 dX7_row_11 rfl rfl ?_
    refine z_callV (pc := 12) (b := 0) (As := []) (rest := []) kX7_65 (m_X7_bad g μ) ltM_0 kdM_0 rfl rfl ⟨rfl, rfl⟩ ⟨Nat.le_of_ble_eq_true rfl, Nat.le_of_ble_eq_true rfl⟩ (Nat.le_of_ble_eq_true rfl) rfl rfl dX7_row_12 (fun r2 μ3 => ?_)
    change Zw g ΛM enI RX7 cX7_row 6 (some .int) rX7_row 15 [(0, .ref (g.2.2.1 0)), (1, .long a1), (3, .int a3)] [.int r2] μ3 _
    exact z_iret dX7_row_15
  · refine z_iload_n (pc := 6) 2 dX7_row_6 rfl rfl ?_
    refine z_iconst (pc := 7) (v := -1) dX7_row_7 rfl ?_
    refine z_icmp_ge (pc := 8) (tgt := 16) dX7_row_8 (by decide) (fun h4 => ?_) (fun h4 => ?_)
    · refine z_aload_n (pc := 16) 0 dX7_row_16 rfl rfl ?_
      refine z_iconst (pc := 17) (v := 0) dX7_row_17 rfl ?_
      refine z_iconst (pc := 18) (v := -1) dX7_row_18 rfl ?_
      refine z_callV (pc := 19) (b := 0) (As := [.int (0 : Int32), .int (-1 : Int32)]) (rest := []) kX7_163 (m_X7_waysOr g μ (0 : Int32) (-1 : Int32)) ltM_0 kdM_0 rfl rfl ⟨rfl, rfl⟩ ⟨Nat.le_of_ble_eq_true rfl, Nat.le_of_ble_eq_true rfl⟩ (Nat.le_of_ble_eq_true rfl) rfl rfl dX7_row_19 (fun r5 μ6 => ?_)
      change Zw g ΛM enI RX7 cX7_row 6 (some .int) rX7_row 22 [(0, .ref (g.2.2.1 0)), (1, .long a1), (3, .int a3)] [.long r5] μ6 _
      refine z_lstore (pc := 22) (lv2 := [(0, .ref (g.2.2.1 0)), (1, .long a1), (3, .int a3), (4, .long r5)]) [1, 2, 3, 0] dX7_row_22 (by decide) rfl ?_
      refine z_lload (pc := 24) 3 dX7_row_24 rfl ?_
      refine z_ldc2 (pc := 26) (v := -5) klX7_161 dX7_row_26 ?_
      refine z_lcmp_ne (pc := 29) (tgt := 38) dX7_row_29 dX7_row_30 (by decide) (fun h7 => ?_) (fun h7 => ?_)
      · refine z_lload_n (pc := 38) 1 dX7_row_38 rfl rfl ?_
        refine z_lload (pc := 39) 3 dX7_row_39 rfl ?_
        refine z_lcmp_lt (pc := 41) (tgt := 50) dX7_row_41 dX7_row_42 (by decide) (fun h8 => ?_) (fun h8 => ?_)
        · refine z_aload_n (pc := 50) 0 dX7_row_50 rfl rfl ?_
          refine z_lload_n (pc := 51) 1 dX7_row_51 rfl rfl ?_
          refine z_iconst (pc := 52) (v := -1) dX7_row_52 rfl ?_
          refine z_callV (pc := 53) (b := 0) (As := [.long a1, .int (-1 : Int32)]) (rest := []) kX7_172 (m_X7_goes g μ6 a1 (-1 : Int32)) ltM_0 kdM_0 rfl rfl ⟨rfl, rfl⟩ ⟨Nat.le_of_ble_eq_true rfl, Nat.le_of_ble_eq_true rfl⟩ (Nat.le_of_ble_eq_true rfl) rfl rfl dX7_row_53 (fun r9 μ10 => ?_)
          change Zw g ΛM enI RX7 cX7_row 6 (some .int) rX7_row 56 [(0, .ref (g.2.2.1 0)), (1, .long a1), (3, .int a3), (4, .long r5)] [] μ10 _
          refine z_aload_n (pc := 56) 0 dX7_row_56 rfl rfl ?_
          refine z_iload_n (pc := 57) 2 dX7_row_57 rfl rfl ?_
          refine z_callV (pc := 58) (b := 0) (As := [.int a3]) (rest := []) kX7_176 (m_X7_tellRow g μ10 a3) ltM_0 kdM_0 rfl rfl ⟨rfl, rfl⟩ ⟨Nat.le_of_ble_eq_true rfl, Nat.le_of_ble_eq_true rfl⟩ (Nat.le_of_ble_eq_true rfl) rfl rfl dX7_row_58 (fun r11 μ12 => ?_)
          change Zw g ΛM enI RX7 cX7_row 6 (some .int) rX7_row 61 [(0, .ref (g.2.2.1 0)), (1, .long a1), (3, .int a3), (4, .long r5)] [.int r11] μ12 _
          exact z_iret dX7_row_61
        · refine z_aload_n (pc := 45) 0 dX7_row_45 rfl rfl ?_
          refine z_callV (pc := 46) (b := 0) (As := []) (rest := []) kX7_55 (m_X7_no g μ6) ltM_0 kdM_0 rfl rfl ⟨rfl, rfl⟩ ⟨Nat.le_of_ble_eq_true rfl, Nat.le_of_ble_eq_true rfl⟩ (Nat.le_of_ble_eq_true rfl) rfl rfl dX7_row_46 (fun r13 μ14 => ?_)
          change Zw g ΛM enI RX7 cX7_row 6 (some .int) rX7_row 49 [(0, .ref (g.2.2.1 0)), (1, .long a1), (3, .int a3), (4, .long r5)] [.int r13] μ14 _
          exact z_iret dX7_row_49
      · refine z_aload_n (pc := 33) 0 dX7_row_33 rfl rfl ?_
        refine z_callV (pc := 34) (b := 0) (As := []) (rest := []) kX7_166 (m_X7_much g μ6) ltM_0 kdM_0 rfl rfl ⟨rfl, rfl⟩ ⟨Nat.le_of_ble_eq_true rfl, Nat.le_of_ble_eq_true rfl⟩ (Nat.le_of_ble_eq_true rfl) rfl rfl dX7_row_34 (fun r15 μ16 => ?_)
        change Zw g ΛM enI RX7 cX7_row 6 (some .int) rX7_row 37 [(0, .ref (g.2.2.1 0)), (1, .long a1), (3, .int a3), (4, .long r5)] [.int r15] μ16 _
        exact z_iret dX7_row_37
    · refine z_aload_n (pc := 11) 0 dX7_row_11 rfl rfl ?_
      refine z_callV (pc := 12) (b := 0) (As := []) (rest := []) kX7_65 (m_X7_bad g μ) ltM_0 kdM_0 rfl rfl ⟨rfl, rfl⟩ ⟨Nat.le_of_ble_eq_true rfl, Nat.le_of_ble_eq_true rfl⟩ (Nat.le_of_ble_eq_true rfl) rfl rfl dX7_row_12 (fun r17 μ18 => ?_)
      change Zw g ΛM enI RX7 cX7_row 6 (some .int) rX7_row 15 [(0, .ref (g.2.2.1 0)), (1, .long a1), (3, .int a3)] [.int r17] μ18 _
      exact z_iret dX7_row_15
def f_X7_isMaker (a0 : Int32) (μ : Mm) : Option (Int32 × Mm) := bd (f_X7_within a0.toInt64 (0 : Int64) (2 : Int64) μ) fun r1 μ2 => if r1 = 0 ∨ r1 = 1 then some (r1, μ2) else none
theorem m_X7_isMaker (g : Gx) (μ : Mm) (a0 : Int32) : Zm g ΛM enI yX7_isMaker cX7_isMaker 1 (some .boolean) rX7_isMaker [.int a0] μ (f_X7_isMaker a0 μ) := by
  refine z_met (by decide +kernel) (Nat.le_of_ble_eq_true rfl) ?_
  change Zw g ΛM enI RX7 cX7_isMaker 1 (some .boolean) rX7_isMaker 0 [(0, .int a0)] [] μ (f_X7_isMaker a0 μ)
  rw [f_X7_isMaker]
  refine z_iload_n (pc := 0) 0 dX7_isMaker_0 rfl rfl ?_
  refine z_i2l (pc := 1) dX7_isMaker_1 ?_
  refine z_lconst (pc := 2) (v := 0) dX7_isMaker_2 (by decide +kernel) ?_
  refine z_ldc2 (pc := 3) (v := 2) klX7_179 dX7_isMaker_3 ?_
  refine z_callS (pc := 6) (As := [.long a0.toInt64, .long (0 : Int64), .long (2 : Int64)]) (rest := []) kX7_47 (m_X7_within g μ a0.toInt64 (0 : Int64) (2 : Int64)) ⟨rfl, rfl⟩ ⟨Nat.le_of_ble_eq_true rfl, Nat.le_of_ble_eq_true rfl⟩ (Nat.le_of_ble_eq_true rfl) rfl rfl dX7_isMaker_6 (fun r1 μ2 => ?_)
  change Zw g ΛM enI RX7 cX7_isMaker 1 (some .boolean) rX7_isMaker 9 [(0, .int a0)] [.int r1] μ2 _
  exact z_zret_g dX7_isMaker_9
def f_X7_weightFrom (a1 : Int32) (a2 : Int32) (μ : Mm) : Option (Int64 × Mm) := if zin ((9 : Int32) + a2) 148 then (bd (f_X7_has (μ.1 1 3) (μ.1 1 (((9 : Int32) + a2).toNatClampNeg)) μ) fun r1 μ2 => if r1 = 0 then (some ((0 : Int64), μ2)) else (bd (f_X7_leads a2 (0 : Int32) μ2) fun r4 μ5 => if r4 = (-1 : Int32) then (some ((0 : Int64), μ5)) else (bd (f_X7_weightOf a1 a2 μ5) fun r7 μ8 => if zin ((9 : Int32) + a2) 148 then (if zin (((4 : Int32) * r4) + (μ8.1 1 (((9 : Int32) + a2).toNatClampNeg))) 164 then (some (r7.toInt64 * (μ8.2 6 ((((4 : Int32) * r4) + (μ8.1 1 (((9 : Int32) + a2).toNatClampNeg))).toNatClampNeg)), μ8)) else none) else none))) else none
theorem m_X7_weightFrom (g : Gx) (μ : Mm) (a1 : Int32) (a2 : Int32) : Zm g ΛM enJ yX7_weightFrom cX7_weightFrom 4 (some .long) rX7_weightFrom [.ref (g.2.2.1 0), .int a1, .int a2] μ (f_X7_weightFrom a1 a2 μ) := by
  refine z_met (by decide +kernel) (Nat.le_of_ble_eq_true rfl) ?_
  change Zw g ΛM enJ RX7 cX7_weightFrom 4 (some .long) rX7_weightFrom 0 [(0, .ref (g.2.2.1 0)), (1, .int a1), (2, .int a2)] [] μ (f_X7_weightFrom a1 a2 μ)
  rw [f_X7_weightFrom]
  refine z_aload_n (pc := 0) 0 dX7_weightFrom_0 rfl rfl ?_
  refine z_get (pc := 1) (v := .ref (g.2.2.1 1)) flX7_7 jnX7 ltM_0 kdM_0 rfl (by decide) rfl foM_0_0 rfl dX7_weightFrom_1 ?_
  refine z_iconst (pc := 4) (v := 3) dX7_weightFrom_4 rfl ?_
  refine z_iaload (pc := 5) (j := 3) ltM_1 kdM_1 (by decide +kernel) (by decide +kernel) dX7_weightFrom_5 ?_
  refine z_aload_n (pc := 6) 0 dX7_weightFrom_6 rfl rfl ?_
  refine z_get (pc := 7) (v := .ref (g.2.2.1 1)) flX7_7 jnX7 ltM_0 kdM_0 rfl (by decide) rfl foM_0_0 rfl dX7_weightFrom_7 ?_
  refine z_bipush (pc := 10) (v := 9) dX7_weightFrom_10 (by decide +kernel) ?_
  refine z_iload_n (pc := 12) 2 dX7_weightFrom_12 rfl rfl ?_
  refine z_iadd (pc := 13) dX7_weightFrom_13 ?_
  refine z_iaload_g (pc := 14) ltM_1 kdM_1 dX7_weightFrom_14 ?_
  refine z_callS (pc := 15) (As := [.int (μ.1 1 3), .int (μ.1 1 (((9 : Int32) + a2).toNatClampNeg))]) (rest := []) kX7_140 (m_X7_has g μ (μ.1 1 3) (μ.1 1 (((9 : Int32) + a2).toNatClampNeg))) ⟨rfl, rfl⟩ ⟨Nat.le_of_ble_eq_true rfl, Nat.le_of_ble_eq_true rfl⟩ (Nat.le_of_ble_eq_true rfl) rfl rfl dX7_weightFrom_15 (fun r1 μ2 => ?_)
  change Zw g ΛM enJ RX7 cX7_weightFrom 4 (some .long) rX7_weightFrom 18 [(0, .ref (g.2.2.1 0)), (1, .int a1), (2, .int a2)] [.int r1] μ2 _
  refine z_if_eq (pc := 18) (tgt := 30) dX7_weightFrom_18 (by decide) (fun h3 => ?_) (fun h3 => ?_)
  · refine z_iconst (pc := 30) (v := -1) dX7_weightFrom_30 rfl ?_
    refine z_istore_n (pc := 31) (lv2 := [(0, .ref (g.2.2.1 0)), (1, .int a1), (2, .int a2), (3, .int (-1 : Int32))]) [1, 2, 3, 0] dX7_weightFrom_31 rfl (by decide) rfl ?_
    refine z_iload_n (pc := 32) 3 dX7_weightFrom_32 rfl rfl ?_
    refine z_iconst (pc := 33) (v := -1) dX7_weightFrom_33 rfl ?_
    refine z_icmp_ne_x (pc := 34) (tgt := 41) dX7_weightFrom_34 (by decide) (by decide +kernel) ?_
    refine z_lconst (pc := 37) (v := 0) dX7_weightFrom_37 (by decide +kernel) ?_
    refine z_goto (pc := 38) (tgt := 67) dX7_weightFrom_38 (by decide) ?_
    exact z_lret dX7_weightFrom_67
  · refine z_aload_n (pc := 21) 0 dX7_weightFrom_21 rfl rfl ?_
    refine z_iload_n (pc := 22) 2 dX7_weightFrom_22 rfl rfl ?_
    refine z_iconst (pc := 23) (v := 0) dX7_weightFrom_23 rfl ?_
    refine z_callV (pc := 24) (b := 0) (As := [.int a2, .int (0 : Int32)]) (rest := []) kX7_143 (m_X7_leads g μ2 a2 (0 : Int32)) ltM_0 kdM_0 rfl rfl ⟨rfl, rfl⟩ ⟨Nat.le_of_ble_eq_true rfl, Nat.le_of_ble_eq_true rfl⟩ (Nat.le_of_ble_eq_true rfl) rfl rfl dX7_weightFrom_24 (fun r4 μ5 => ?_)
    change Zw g ΛM enJ RX7 cX7_weightFrom 4 (some .long) rX7_weightFrom 27 [(0, .ref (g.2.2.1 0)), (1, .int a1), (2, .int a2)] [.int r4] μ5 _
    refine z_goto (pc := 27) (tgt := 31) dX7_weightFrom_27 (by decide) ?_
    refine z_istore_n (pc := 31) (lv2 := [(0, .ref (g.2.2.1 0)), (1, .int a1), (2, .int a2), (3, .int r4)]) [1, 2, 3, 0] dX7_weightFrom_31 rfl (by decide) rfl ?_
    refine z_iload_n (pc := 32) 3 dX7_weightFrom_32 rfl rfl ?_
    refine z_iconst (pc := 33) (v := -1) dX7_weightFrom_33 rfl ?_
    refine z_icmp_ne (pc := 34) (tgt := 41) dX7_weightFrom_34 (by decide) (fun h6 => ?_) (fun h6 => ?_)
    · refine z_aload_n (pc := 41) 0 dX7_weightFrom_41 rfl rfl ?_
      refine z_iload_n (pc := 42) 1 dX7_weightFrom_42 rfl rfl ?_
      refine z_iload_n (pc := 43) 2 dX7_weightFrom_43 rfl rfl ?_
      refine z_callV (pc := 44) (b := 0) (As := [.int a1, .int a2]) (rest := []) kX7_146 (m_X7_weightOf g μ5 a1 a2) ltM_0 kdM_0 rfl rfl ⟨rfl, rfl⟩ ⟨Nat.le_of_ble_eq_true rfl, Nat.le_of_ble_eq_true rfl⟩ (Nat.le_of_ble_eq_true rfl) rfl rfl dX7_weightFrom_44 (fun r7 μ8 => ?_)
      change Zw g ΛM enJ RX7 cX7_weightFrom 4 (some .long) rX7_weightFrom 47 [(0, .ref (g.2.2.1 0)), (1, .int a1), (2, .int a2), (3, .int r4)] [.int r7] μ8 _
      refine z_i2l (pc := 47) dX7_weightFrom_47 ?_
      refine z_aload_n (pc := 48) 0 dX7_weightFrom_48 rfl rfl ?_
      refine z_get (pc := 49) (v := .ref (g.2.2.1 6)) flX7_25 jnX7 ltM_0 kdM_0 rfl (by decide) rfl foM_0_8 rfl dX7_weightFrom_49 ?_
      refine z_iconst (pc := 52) (v := 4) dX7_weightFrom_52 rfl ?_
      refine z_iload_n (pc := 53) 3 dX7_weightFrom_53 rfl rfl ?_
      refine z_imul (pc := 54) dX7_weightFrom_54 ?_
      refine z_aload_n (pc := 55) 0 dX7_weightFrom_55 rfl rfl ?_
      refine z_get (pc := 56) (v := .ref (g.2.2.1 1)) flX7_7 jnX7 ltM_0 kdM_0 rfl (by decide) rfl foM_0_0 rfl dX7_weightFrom_56 ?_
      refine z_bipush (pc := 59) (v := 9) dX7_weightFrom_59 (by decide +kernel) ?_
      refine z_iload_n (pc := 61) 2 dX7_weightFrom_61 rfl rfl ?_
      refine z_iadd (pc := 62) dX7_weightFrom_62 ?_
      refine z_iaload_g (pc := 63) ltM_1 kdM_1 dX7_weightFrom_63 ?_
      refine z_iadd (pc := 64) dX7_weightFrom_64 ?_
      refine z_laload_g (pc := 65) ltM_6 kdM_6 dX7_weightFrom_65 ?_
      refine z_lmul (pc := 66) dX7_weightFrom_66 ?_
      exact z_lret dX7_weightFrom_67
    · refine z_lconst (pc := 37) (v := 0) dX7_weightFrom_37 (by decide +kernel) ?_
      refine z_goto (pc := 38) (tgt := 67) dX7_weightFrom_38 (by decide) ?_
      exact z_lret dX7_weightFrom_67
def f_X7_weight (a1 : Int32) (a2 : Int32) (μ : Mm) : Option (Int64 × Mm) := bd (f_X7_isMaker a1 μ) fun r1 μ2 => if r1 = 0 then (bd (f_X7_bad μ2) fun r4 μ5 => some (r4.toInt64, μ5)) else (bd (f_X7_within a2.toInt64 (-1 : Int64) (((μ2.1 1 0) - (1 : Int32)).toInt64) μ2) fun r6 μ7 => if r6 = 0 then (bd (f_X7_bad μ7) fun r17 μ18 => some (r17.toInt64, μ18)) else (bd (f_X7_waysOr (0 : Int32) a1 μ7) fun r9 μ10 => if r9 = (-5 : Int64) then (bd (f_X7_much μ10) fun r15 μ16 => some (r15.toInt64, μ16)) else (if a2 = (-1 : Int32) then (some (r9, μ10)) else (bd (f_X7_weightFrom a1 a2 μ10) fun r13 μ14 => some (r13, μ14)))))
theorem m_X7_weight (g : Gx) (μ : Mm) (a1 : Int32) (a2 : Int32) : Zm g ΛM enJ yX7_weight cX7_weight 5 (some .long) rX7_weight [.ref (g.2.2.1 0), .int a1, .int a2] μ (f_X7_weight a1 a2 μ) := by
  refine z_met (by decide +kernel) (Nat.le_of_ble_eq_true rfl) ?_
  change Zw g ΛM enJ RX7 cX7_weight 5 (some .long) rX7_weight 0 [(0, .ref (g.2.2.1 0)), (1, .int a1), (2, .int a2)] [] μ (f_X7_weight a1 a2 μ)
  rw [f_X7_weight]
  refine z_iload_n (pc := 0) 1 dX7_weight_0 rfl rfl ?_
  refine z_callS (pc := 1) (As := [.int a1]) (rest := []) kX7_181 (m_X7_isMaker g μ a1) ⟨rfl, rfl⟩ ⟨Nat.le_of_ble_eq_true rfl, Nat.le_of_ble_eq_true rfl⟩ (Nat.le_of_ble_eq_true rfl) rfl rfl dX7_weight_1 (fun r1 μ2 => ?_)
  change Zw g ΛM enJ RX7 cX7_weight 5 (some .long) rX7_weight 4 [(0, .ref (g.2.2.1 0)), (1, .int a1), (2, .int a2)] [.int r1] μ2 _
  refine z_if_eq (pc := 4) (tgt := 27) dX7_weight_4 (by decide) (fun h3 => ?_) (fun h3 => ?_)
  · refine z_aload_n (pc := 27) 0 dX7_weight_27 rfl rfl ?_
    refine z_callV (pc := 28) (b := 0) (As := []) (rest := []) kX7_65 (m_X7_bad g μ2) ltM_0 kdM_0 rfl rfl ⟨rfl, rfl⟩ ⟨Nat.le_of_ble_eq_true rfl, Nat.le_of_ble_eq_true rfl⟩ (Nat.le_of_ble_eq_true rfl) rfl rfl dX7_weight_28 (fun r4 μ5 => ?_)
    change Zw g ΛM enJ RX7 cX7_weight 5 (some .long) rX7_weight 31 [(0, .ref (g.2.2.1 0)), (1, .int a1), (2, .int a2)] [.int r4] μ5 _
    refine z_i2l (pc := 31) dX7_weight_31 ?_
    exact z_lret dX7_weight_32
  · refine z_iload_n (pc := 7) 2 dX7_weight_7 rfl rfl ?_
    refine z_i2l (pc := 8) dX7_weight_8 ?_
    refine z_ldc2 (pc := 9) (v := -1) klX7_184 dX7_weight_9 ?_
    refine z_aload_n (pc := 12) 0 dX7_weight_12 rfl rfl ?_
    refine z_get (pc := 13) (v := .ref (g.2.2.1 1)) flX7_7 jnX7 ltM_0 kdM_0 rfl (by decide) rfl foM_0_0 rfl dX7_weight_13 ?_
    refine z_iconst (pc := 16) (v := 0) dX7_weight_16 rfl ?_
    refine z_iaload (pc := 17) (j := 0) ltM_1 kdM_1 (by decide +kernel) (by decide +kernel) dX7_weight_17 ?_
    refine z_iconst (pc := 18) (v := 1) dX7_weight_18 rfl ?_
    refine z_isub (pc := 19) dX7_weight_19 ?_
    refine z_i2l (pc := 20) dX7_weight_20 ?_
    refine z_callS (pc := 21) (As := [.long a2.toInt64, .long (-1 : Int64), .long (((μ2.1 1 0) - (1 : Int32)).toInt64)]) (rest := []) kX7_47 (m_X7_within g μ2 a2.toInt64 (-1 : Int64) (((μ2.1 1 0) - (1 : Int32)).toInt64)) ⟨rfl, rfl⟩ ⟨Nat.le_of_ble_eq_true rfl, Nat.le_of_ble_eq_true rfl⟩ (Nat.le_of_ble_eq_true rfl) rfl rfl dX7_weight_21 (fun r6 μ7 => ?_)
    change Zw g ΛM enJ RX7 cX7_weight 5 (some .long) rX7_weight 24 [(0, .ref (g.2.2.1 0)), (1, .int a1), (2, .int a2)] [.int r6] μ7 _
    refine z_if_ne (pc := 24) (tgt := 33) dX7_weight_24 (by decide) (fun h8 => ?_) (fun h8 => ?_)
    · refine z_aload_n (pc := 33) 0 dX7_weight_33 rfl rfl ?_
      refine z_iconst (pc := 34) (v := 0) dX7_weight_34 rfl ?_
      refine z_iload_n (pc := 35) 1 dX7_weight_35 rfl rfl ?_
      refine z_callV (pc := 36) (b := 0) (As := [.int (0 : Int32), .int a1]) (rest := []) kX7_163 (m_X7_waysOr g μ7 (0 : Int32) a1) ltM_0 kdM_0 rfl rfl ⟨rfl, rfl⟩ ⟨Nat.le_of_ble_eq_true rfl, Nat.le_of_ble_eq_true rfl⟩ (Nat.le_of_ble_eq_true rfl) rfl rfl dX7_weight_36 (fun r9 μ10 => ?_)
      change Zw g ΛM enJ RX7 cX7_weight 5 (some .long) rX7_weight 39 [(0, .ref (g.2.2.1 0)), (1, .int a1), (2, .int a2)] [.long r9] μ10 _
      refine z_lstore_n (pc := 39) (lv2 := [(0, .ref (g.2.2.1 0)), (1, .int a1), (2, .int a2), (3, .long r9)]) [1, 2, 3, 0] dX7_weight_39 rfl (by decide) rfl ?_
      refine z_lload_n (pc := 40) 3 dX7_weight_40 rfl rfl ?_
      refine z_ldc2 (pc := 41) (v := -5) klX7_161 dX7_weight_41 ?_
      refine z_lcmp_ne (pc := 44) (tgt := 54) dX7_weight_44 dX7_weight_45 (by decide) (fun h11 => ?_) (fun h11 => ?_)
      · refine z_iload_n (pc := 54) 2 dX7_weight_54 rfl rfl ?_
        refine z_iconst (pc := 55) (v := -1) dX7_weight_55 rfl ?_
        refine z_icmp_ne (pc := 56) (tgt := 63) dX7_weight_56 (by decide) (fun h12 => ?_) (fun h12 => ?_)
        · refine z_aload_n (pc := 63) 0 dX7_weight_63 rfl rfl ?_
          refine z_iload_n (pc := 64) 1 dX7_weight_64 rfl rfl ?_
          refine z_iload_n (pc := 65) 2 dX7_weight_65 rfl rfl ?_
          refine z_callV (pc := 66) (b := 0) (As := [.int a1, .int a2]) (rest := []) kX7_186 (m_X7_weightFrom g μ10 a1 a2) ltM_0 kdM_0 rfl rfl ⟨rfl, rfl⟩ ⟨Nat.le_of_ble_eq_true rfl, Nat.le_of_ble_eq_true rfl⟩ (Nat.le_of_ble_eq_true rfl) rfl rfl dX7_weight_66 (fun r13 μ14 => ?_)
          change Zw g ΛM enJ RX7 cX7_weight 5 (some .long) rX7_weight 69 [(0, .ref (g.2.2.1 0)), (1, .int a1), (2, .int a2), (3, .long r9)] [.long r13] μ14 _
          exact z_lret dX7_weight_69
        · refine z_lload_n (pc := 59) 3 dX7_weight_59 rfl rfl ?_
          refine z_goto (pc := 60) (tgt := 69) dX7_weight_60 (by decide) ?_
          exact z_lret dX7_weight_69
      · refine z_aload_n (pc := 48) 0 dX7_weight_48 rfl rfl ?_
        refine z_callV (pc := 49) (b := 0) (As := []) (rest := []) kX7_166 (m_X7_much g μ10) ltM_0 kdM_0 rfl rfl ⟨rfl, rfl⟩ ⟨Nat.le_of_ble_eq_true rfl, Nat.le_of_ble_eq_true rfl⟩ (Nat.le_of_ble_eq_true rfl) rfl rfl dX7_weight_49 (fun r15 μ16 => ?_)
        change Zw g ΛM enJ RX7 cX7_weight 5 (some .long) rX7_weight 52 [(0, .ref (g.2.2.1 0)), (1, .int a1), (2, .int a2), (3, .long r9)] [.int r15] μ16 _
        refine z_i2l (pc := 52) dX7_weight_52 ?_
        exact z_lret dX7_weight_53
    · refine z_aload_n (pc := 27) 0 dX7_weight_27 rfl rfl ?_
      refine z_callV (pc := 28) (b := 0) (As := []) (rest := []) kX7_65 (m_X7_bad g μ7) ltM_0 kdM_0 rfl rfl ⟨rfl, rfl⟩ ⟨Nat.le_of_ble_eq_true rfl, Nat.le_of_ble_eq_true rfl⟩ (Nat.le_of_ble_eq_true rfl) rfl rfl dX7_weight_28 (fun r17 μ18 => ?_)
      change Zw g ΛM enJ RX7 cX7_weight 5 (some .long) rX7_weight 31 [(0, .ref (g.2.2.1 0)), (1, .int a1), (2, .int a2)] [.int r17] μ18 _
      refine z_i2l (pc := 31) dX7_weight_31 ?_
      exact z_lret dX7_weight_32
def f_X7_picks (a1 : Int32) (a2 : Int32) (a3 : Int32) (μ : Mm) : Option (Int32 × Mm) := bd (f_X7_isMaker a1 μ) fun r1 μ2 => if r1 = 0 then (bd (f_X7_bad μ2) fun r4 μ5 => some (r4, μ5)) else (bd (f_X7_within a2.toInt64 (0 : Int64) (999999 : Int64) μ2) fun r6 μ7 => if r6 = 0 then (bd (f_X7_bad μ7) fun r9 μ10 => some (r9, μ10)) else (if (-1 : Int32) ≤ a3 then (bd (f_X7_waysOr (0 : Int32) a1 μ7) fun r12 μ13 => if r12 = (-5 : Int64) then (bd (f_X7_much μ13) fun r22 μ23 => some (r22, μ23)) else (if r12 = (0 : Int64) then (bd (f_X7_no μ13) fun r20 μ21 => some (r20, μ21)) else (if ¬ r12 = 0 then (bd (f_X7_goes ((((a2.toInt64 * (1103515245 : Int64)) + (12345 : Int64)) - ((a2.toInt64 * (1103515245 : Int64)) + (12345 : Int64)) / (2147483648 : Int64) * (2147483648 : Int64)) - (((a2.toInt64 * (1103515245 : Int64)) + (12345 : Int64)) - ((a2.toInt64 * (1103515245 : Int64)) + (12345 : Int64)) / (2147483648 : Int64) * (2147483648 : Int64)) / r12 * r12) a1 μ13) fun r16 μ17 => bd (f_X7_tellRow a3 μ17) fun r18 μ19 => some (r18, μ19)) else none))) else (bd (f_X7_bad μ7) fun r24 μ25 => some (r24, μ25))))
theorem m_X7_picks (g : Gx) (μ : Mm) (a1 : Int32) (a2 : Int32) (a3 : Int32) : Zm g ΛM enI yX7_picks cX7_picks 8 (some .int) rX7_picks [.ref (g.2.2.1 0), .int a1, .int a2, .int a3] μ (f_X7_picks a1 a2 a3 μ) := by
  refine z_met (by decide +kernel) (Nat.le_of_ble_eq_true rfl) ?_
  change Zw g ΛM enI RX7 cX7_picks 8 (some .int) rX7_picks 0 [(0, .ref (g.2.2.1 0)), (1, .int a1), (2, .int a2), (3, .int a3)] [] μ (f_X7_picks a1 a2 a3 μ)
  rw [f_X7_picks]
  refine z_iload_n (pc := 0) 1 dX7_picks_0 rfl rfl ?_
  refine z_callS (pc := 1) (As := [.int a1]) (rest := []) kX7_181 (m_X7_isMaker g μ a1) ⟨rfl, rfl⟩ ⟨Nat.le_of_ble_eq_true rfl, Nat.le_of_ble_eq_true rfl⟩ (Nat.le_of_ble_eq_true rfl) rfl rfl dX7_picks_1 (fun r1 μ2 => ?_)
  change Zw g ΛM enI RX7 cX7_picks 8 (some .int) rX7_picks 4 [(0, .ref (g.2.2.1 0)), (1, .int a1), (2, .int a2), (3, .int a3)] [.int r1] μ2 _
  refine z_if_eq (pc := 4) (tgt := 24) dX7_picks_4 (by decide) (fun h3 => ?_) (fun h3 => ?_)
  · refine z_aload_n (pc := 24) 0 dX7_picks_24 rfl rfl ?_
    refine z_callV (pc := 25) (b := 0) (As := []) (rest := []) kX7_65 (m_X7_bad g μ2) ltM_0 kdM_0 rfl rfl ⟨rfl, rfl⟩ ⟨Nat.le_of_ble_eq_true rfl, Nat.le_of_ble_eq_true rfl⟩ (Nat.le_of_ble_eq_true rfl) rfl rfl dX7_picks_25 (fun r4 μ5 => ?_)
    change Zw g ΛM enI RX7 cX7_picks 8 (some .int) rX7_picks 28 [(0, .ref (g.2.2.1 0)), (1, .int a1), (2, .int a2), (3, .int a3)] [.int r4] μ5 _
    exact z_iret dX7_picks_28
  · refine z_iload_n (pc := 7) 2 dX7_picks_7 rfl rfl ?_
    refine z_i2l (pc := 8) dX7_picks_8 ?_
    refine z_lconst (pc := 9) (v := 0) dX7_picks_9 (by decide +kernel) ?_
    refine z_ldc2 (pc := 10) (v := 999999) klX7_190 dX7_picks_10 ?_
    refine z_callS (pc := 13) (As := [.long a2.toInt64, .long (0 : Int64), .long (999999 : Int64)]) (rest := []) kX7_47 (m_X7_within g μ2 a2.toInt64 (0 : Int64) (999999 : Int64)) ⟨rfl, rfl⟩ ⟨Nat.le_of_ble_eq_true rfl, Nat.le_of_ble_eq_true rfl⟩ (Nat.le_of_ble_eq_true rfl) rfl rfl dX7_picks_13 (fun r6 μ7 => ?_)
    change Zw g ΛM enI RX7 cX7_picks 8 (some .int) rX7_picks 16 [(0, .ref (g.2.2.1 0)), (1, .int a1), (2, .int a2), (3, .int a3)] [.int r6] μ7 _
    refine z_if_eq (pc := 16) (tgt := 24) dX7_picks_16 (by decide) (fun h8 => ?_) (fun h8 => ?_)
    · refine z_aload_n (pc := 24) 0 dX7_picks_24 rfl rfl ?_
      refine z_callV (pc := 25) (b := 0) (As := []) (rest := []) kX7_65 (m_X7_bad g μ7) ltM_0 kdM_0 rfl rfl ⟨rfl, rfl⟩ ⟨Nat.le_of_ble_eq_true rfl, Nat.le_of_ble_eq_true rfl⟩ (Nat.le_of_ble_eq_true rfl) rfl rfl dX7_picks_25 (fun r9 μ10 => ?_)
      change Zw g ΛM enI RX7 cX7_picks 8 (some .int) rX7_picks 28 [(0, .ref (g.2.2.1 0)), (1, .int a1), (2, .int a2), (3, .int a3)] [.int r9] μ10 _
      exact z_iret dX7_picks_28
    · refine z_iload_n (pc := 19) 3 dX7_picks_19 rfl rfl ?_
      refine z_iconst (pc := 20) (v := -1) dX7_picks_20 rfl ?_
      refine z_icmp_ge (pc := 21) (tgt := 29) dX7_picks_21 (by decide) (fun h11 => ?_) (fun h11 => ?_)
      · refine z_aload_n (pc := 29) 0 dX7_picks_29 rfl rfl ?_
        refine z_iconst (pc := 30) (v := 0) dX7_picks_30 rfl ?_
        refine z_iload_n (pc := 31) 1 dX7_picks_31 rfl rfl ?_
        refine z_callV (pc := 32) (b := 0) (As := [.int (0 : Int32), .int a1]) (rest := []) kX7_163 (m_X7_waysOr g μ7 (0 : Int32) a1) ltM_0 kdM_0 rfl rfl ⟨rfl, rfl⟩ ⟨Nat.le_of_ble_eq_true rfl, Nat.le_of_ble_eq_true rfl⟩ (Nat.le_of_ble_eq_true rfl) rfl rfl dX7_picks_32 (fun r12 μ13 => ?_)
        change Zw g ΛM enI RX7 cX7_picks 8 (some .int) rX7_picks 35 [(0, .ref (g.2.2.1 0)), (1, .int a1), (2, .int a2), (3, .int a3)] [.long r12] μ13 _
        refine z_lstore (pc := 35) (lv2 := [(0, .ref (g.2.2.1 0)), (1, .int a1), (2, .int a2), (3, .int a3), (4, .long r12)]) [1, 2, 3, 4, 0] dX7_picks_35 (by decide) rfl ?_
        refine z_lload (pc := 37) 4 dX7_picks_37 rfl ?_
        refine z_ldc2 (pc := 39) (v := -5) klX7_161 dX7_picks_39 ?_
        refine z_lcmp_ne (pc := 42) (tgt := 51) dX7_picks_42 dX7_picks_43 (by decide) (fun h14 => ?_) (fun h14 => ?_)
        · refine z_lload (pc := 51) 4 dX7_picks_51 rfl ?_
          refine z_lconst (pc := 53) (v := 0) dX7_picks_53 (by decide +kernel) ?_
          refine z_lcmp_ne (pc := 54) (tgt := 63) dX7_picks_54 dX7_picks_55 (by decide) (fun h15 => ?_) (fun h15 => ?_)
          · refine z_iload_n (pc := 63) 2 dX7_picks_63 rfl rfl ?_
            refine z_i2l (pc := 64) dX7_picks_64 ?_
            refine z_ldc2 (pc := 65) (v := 1103515245) klX7_192 dX7_picks_65 ?_
            refine z_lmul (pc := 68) dX7_picks_68 ?_
            refine z_ldc2 (pc := 69) (v := 12345) klX7_194 dX7_picks_69 ?_
            refine z_ladd (pc := 72) dX7_picks_72 ?_
            refine z_ldc2 (pc := 73) (v := 2147483648) klX7_196 dX7_picks_73 ?_
            refine z_lrem (pc := 76) dX7_picks_76 (by decide +kernel) ?_
            refine z_lstore (pc := 77) (lv2 := [(0, .ref (g.2.2.1 0)), (1, .int a1), (2, .int a2), (3, .int a3), (4, .long r12), (6, .long (((a2.toInt64 * (1103515245 : Int64)) + (12345 : Int64)) - ((a2.toInt64 * (1103515245 : Int64)) + (12345 : Int64)) / (2147483648 : Int64) * (2147483648 : Int64)))]) [1, 2, 3, 4, 5, 0] dX7_picks_77 (by decide) rfl ?_
            refine z_aload_n (pc := 79) 0 dX7_picks_79 rfl rfl ?_
            refine z_lload (pc := 80) 5 dX7_picks_80 rfl ?_
            refine z_lload (pc := 82) 4 dX7_picks_82 rfl ?_
            refine z_lrem_g (pc := 84) dX7_picks_84 ?_
            refine z_iload_n (pc := 85) 1 dX7_picks_85 rfl rfl ?_
            refine z_callV (pc := 86) (b := 0) (As := [.long ((((a2.toInt64 * (1103515245 : Int64)) + (12345 : Int64)) - ((a2.toInt64 * (1103515245 : Int64)) + (12345 : Int64)) / (2147483648 : Int64) * (2147483648 : Int64)) - (((a2.toInt64 * (1103515245 : Int64)) + (12345 : Int64)) - ((a2.toInt64 * (1103515245 : Int64)) + (12345 : Int64)) / (2147483648 : Int64) * (2147483648 : Int64)) / r12 * r12), .int a1]) (rest := []) kX7_172 (m_X7_goes g μ13 ((((a2.toInt64 * (1103515245 : Int64)) + (12345 : Int64)) - ((a2.toInt64 * (1103515245 : Int64)) + (12345 : Int64)) / (2147483648 : Int64) * (2147483648 : Int64)) - (((a2.toInt64 * (1103515245 : Int64)) + (12345 : Int64)) - ((a2.toInt64 * (1103515245 : Int64)) + (12345 : Int64)) / (2147483648 : Int64) * (2147483648 : Int64)) / r12 * r12) a1) ltM_0 kdM_0 rfl rfl ⟨rfl, rfl⟩ ⟨Nat.le_of_ble_eq_true rfl, Nat.le_of_ble_eq_true rfl⟩ (Nat.le_of_ble_eq_true rfl) rfl rfl dX7_picks_86 (fun r16 μ17 => ?_)
            change Zw g ΛM enI RX7 cX7_picks 8 (some .int) rX7_picks 89 [(0, .ref (g.2.2.1 0)), (1, .int a1), (2, .int a2), (3, .int a3), (4, .long r12), (6, .long (((a2.toInt64 * (1103515245 : Int64)) + (12345 : Int64)) - ((a2.toInt64 * (1103515245 : Int64)) + (12345 : Int64)) / (2147483648 : Int64) * (2147483648 : Int64)))] [] μ17 _
            refine z_aload_n (pc := 89) 0 dX7_picks_89 rfl rfl ?_
            refine z_iload_n (pc := 90) 3 dX7_picks_90 rfl rfl ?_
            refine z_callV (pc := 91) (b := 0) (As := [.int a3]) (rest := []) kX7_176 (m_X7_tellRow g μ17 a3) ltM_0 kdM_0 rfl rfl ⟨rfl, rfl⟩ ⟨Nat.le_of_ble_eq_true rfl, Nat.le_of_ble_eq_true rfl⟩ (Nat.le_of_ble_eq_true rfl) rfl rfl dX7_picks_91 (fun r18 μ19 => ?_)
            change Zw g ΛM enI RX7 cX7_picks 8 (some .int) rX7_picks 94 [(0, .ref (g.2.2.1 0)), (1, .int a1), (2, .int a2), (3, .int a3), (4, .long r12), (6, .long (((a2.toInt64 * (1103515245 : Int64)) + (12345 : Int64)) - ((a2.toInt64 * (1103515245 : Int64)) + (12345 : Int64)) / (2147483648 : Int64) * (2147483648 : Int64)))] [.int r18] μ19 _
            exact z_iret dX7_picks_94
          · refine z_aload_n (pc := 58) 0 dX7_picks_58 rfl rfl ?_
            refine z_callV (pc := 59) (b := 0) (As := []) (rest := []) kX7_55 (m_X7_no g μ13) ltM_0 kdM_0 rfl rfl ⟨rfl, rfl⟩ ⟨Nat.le_of_ble_eq_true rfl, Nat.le_of_ble_eq_true rfl⟩ (Nat.le_of_ble_eq_true rfl) rfl rfl dX7_picks_59 (fun r20 μ21 => ?_)
            change Zw g ΛM enI RX7 cX7_picks 8 (some .int) rX7_picks 62 [(0, .ref (g.2.2.1 0)), (1, .int a1), (2, .int a2), (3, .int a3), (4, .long r12)] [.int r20] μ21 _
            exact z_iret dX7_picks_62
        · refine z_aload_n (pc := 46) 0 dX7_picks_46 rfl rfl ?_
          refine z_callV (pc := 47) (b := 0) (As := []) (rest := []) kX7_166 (m_X7_much g μ13) ltM_0 kdM_0 rfl rfl ⟨rfl, rfl⟩ ⟨Nat.le_of_ble_eq_true rfl, Nat.le_of_ble_eq_true rfl⟩ (Nat.le_of_ble_eq_true rfl) rfl rfl dX7_picks_47 (fun r22 μ23 => ?_)
          change Zw g ΛM enI RX7 cX7_picks 8 (some .int) rX7_picks 50 [(0, .ref (g.2.2.1 0)), (1, .int a1), (2, .int a2), (3, .int a3), (4, .long r12)] [.int r22] μ23 _
          exact z_iret dX7_picks_50
      · refine z_aload_n (pc := 24) 0 dX7_picks_24 rfl rfl ?_
        refine z_callV (pc := 25) (b := 0) (As := []) (rest := []) kX7_65 (m_X7_bad g μ7) ltM_0 kdM_0 rfl rfl ⟨rfl, rfl⟩ ⟨Nat.le_of_ble_eq_true rfl, Nat.le_of_ble_eq_true rfl⟩ (Nat.le_of_ble_eq_true rfl) rfl rfl dX7_picks_25 (fun r24 μ25 => ?_)
        change Zw g ΛM enI RX7 cX7_picks 8 (some .int) rX7_picks 28 [(0, .ref (g.2.2.1 0)), (1, .int a1), (2, .int a2), (3, .int a3)] [.int r24] μ25 _
        exact z_iret dX7_picks_28
def lp_X7_dearest_16 (c1 : Int32) (c2 : Int32) (c3 : Int32) : Nat → Int32 → Int32 → Mm → (Int32 → Mm → Option (Int32 × Mm)) → Option (Int32 × Mm)
  | 0, _, _, _, _ => none
  | n + 1, y4, y5, μ, k => if (μ.1 1 0) ≤ y5 then (k y4 μ) else (if zin ((9 : Int32) + y5) 148 then (bd (f_X7_has c2 (μ.1 1 (((9 : Int32) + y5).toNatClampNeg)) μ) fun r2 μ3 => if r2 = 0 then (if zin ((9 : Int32) + y5) 148 then (lp_X7_dearest_16 c1 c2 c3 n y4 (y5 + 1) μ3 k) else none) else (bd (f_X7_leads y5 c1 μ3) fun r5 μ6 => if zin ((9 : Int32) + y5) 148 then (if r5 = (-1 : Int32) then (lp_X7_dearest_16 c1 c2 c3 n y4 (y5 + 1) μ6 k) else (if zin (((4 : Int32) * r5) + (μ6.1 1 (((9 : Int32) + y5).toNatClampNeg))) 164 then (if (μ6.1 9 ((((4 : Int32) * r5) + (μ6.1 1 (((9 : Int32) + y5).toNatClampNeg))).toNatClampNeg)) < 0 then (lp_X7_dearest_16 c1 c2 c3 n y4 (y5 + 1) μ6 k) else (if zin (((4 : Int32) * r5) + (μ6.1 1 (((9 : Int32) + y5).toNatClampNeg))) 164 then (bd (f_X7_habitOf c3 y5 μ6) fun r9 μ10 => if zin (((4 : Int32) * r5) + (μ6.1 1 (((9 : Int32) + y5).toNatClampNeg))) 164 then (if y4 = (-1 : Int32) then (lp_X7_dearest_16 c1 c2 c3 n y5 (y5 + 1) (si (si μ10 0 15 ((μ6.1 8 ((((4 : Int32) * r5) + (μ6.1 1 (((9 : Int32) + y5).toNatClampNeg))).toNatClampNeg)) + r9)) 0 16 ((μ10.1 9 ((((4 : Int32) * r5) + (μ6.1 1 (((9 : Int32) + y5).toNatClampNeg))).toNatClampNeg)) + (1 : Int32))) k) else (if (μ10.1 0 15) < ((μ6.1 8 ((((4 : Int32) * r5) + (μ6.1 1 (((9 : Int32) + y5).toNatClampNeg))).toNatClampNeg)) + r9) then (lp_X7_dearest_16 c1 c2 c3 n y5 (y5 + 1) (si (si μ10 0 15 ((μ6.1 8 ((((4 : Int32) * r5) + (μ6.1 1 (((9 : Int32) + y5).toNatClampNeg))).toNatClampNeg)) + r9)) 0 16 ((μ10.1 9 ((((4 : Int32) * r5) + (μ6.1 1 (((9 : Int32) + y5).toNatClampNeg))).toNatClampNeg)) + (1 : Int32))) k) else (if ((μ6.1 8 ((((4 : Int32) * r5) + (μ6.1 1 (((9 : Int32) + y5).toNatClampNeg))).toNatClampNeg)) + r9) = (μ10.1 0 15) then (if (μ10.1 0 16) ≤ ((μ10.1 9 ((((4 : Int32) * r5) + (μ6.1 1 (((9 : Int32) + y5).toNatClampNeg))).toNatClampNeg)) + (1 : Int32)) then (lp_X7_dearest_16 c1 c2 c3 n y4 (y5 + 1) (si (si μ10 0 15 (μ10.1 0 15)) 0 16 (μ10.1 0 16)) k) else (lp_X7_dearest_16 c1 c2 c3 n y5 (y5 + 1) (si (si μ10 0 15 ((μ6.1 8 ((((4 : Int32) * r5) + (μ6.1 1 (((9 : Int32) + y5).toNatClampNeg))).toNatClampNeg)) + r9)) 0 16 ((μ10.1 9 ((((4 : Int32) * r5) + (μ6.1 1 (((9 : Int32) + y5).toNatClampNeg))).toNatClampNeg)) + (1 : Int32))) k)) else (lp_X7_dearest_16 c1 c2 c3 n y4 (y5 + 1) (si (si μ10 0 15 (μ10.1 0 15)) 0 16 (μ10.1 0 16)) k)))) else none) else none)) else none)) else none)) else none)
theorem w_X7_dearest_16 (g : Gx) (c1 : Int32) (c2 : Int32) (c3 : Int32) : ∀ (n : Nat) (y4 : Int32) (y5 : Int32) (μ : Mm) (k : Int32 → Mm → Option (Int32 × Mm)), (∀ (z4 : Int32) (ν : Mm), Zw g ΛM enI RX7 cX7_dearest 11 (some .int) rX7_dearest 214 [(4, .int z4)] [] ν (k z4 ν)) → Zw g ΛM enI RX7 cX7_dearest 11 (some .int) rX7_dearest 16 [(0, .ref (g.2.2.1 0)), (1, .int c1), (2, .int c2), (3, .int c3), (4, .int y4), (5, .int y5)] [] μ (lp_X7_dearest_16 c1 c2 c3 n y4 y5 μ k) := by
  intro n
  induction n with
  | zero =>
    intro y4 y5 μ k hk
    exact z_none
  | succ n ih =>
    intro y4 y5 μ k hk
    rw [lp_X7_dearest_16]
    refine z_iload (pc := 16) 5 dX7_dearest_16 rfl ?_
    refine z_aload_n (pc := 18) 0 dX7_dearest_18 rfl rfl ?_
    refine z_get (pc := 19) (v := .ref (g.2.2.1 1)) flX7_7 jnX7 ltM_0 kdM_0 rfl (by decide) rfl foM_0_0 rfl dX7_dearest_19 ?_
    refine z_iconst (pc := 22) (v := 0) dX7_dearest_22 rfl ?_
    refine z_iaload (pc := 23) (j := 0) ltM_1 kdM_1 (by decide +kernel) (by decide +kernel) dX7_dearest_23 ?_
    refine z_icmp_ge (pc := 24) (tgt := 214) dX7_dearest_24 (by decide) (fun h1 => ?_) (fun h1 => ?_)
    · refine z_sub (lv2 := [(4, .int y4)]) [4] rfl ?_
      exact hk _ _
    · refine z_iload_n (pc := 27) 2 dX7_dearest_27 rfl rfl ?_
      refine z_aload_n (pc := 28) 0 dX7_dearest_28 rfl rfl ?_
      refine z_get (pc := 29) (v := .ref (g.2.2.1 1)) flX7_7 jnX7 ltM_0 kdM_0 rfl (by decide) rfl foM_0_0 rfl dX7_dearest_29 ?_
      refine z_bipush (pc := 32) (v := 9) dX7_dearest_32 (by decide +kernel) ?_
      refine z_iload (pc := 34) 5 dX7_dearest_34 rfl ?_
      refine z_iadd (pc := 36) dX7_dearest_36 ?_
      refine z_iaload_g (pc := 37) ltM_1 kdM_1 dX7_dearest_37 ?_
      refine z_callS (pc := 38) (As := [.int c2, .int (μ.1 1 (((9 : Int32) + y5).toNatClampNeg))]) (rest := []) kX7_140 (m_X7_has g μ c2 (μ.1 1 (((9 : Int32) + y5).toNatClampNeg))) ⟨rfl, rfl⟩ ⟨Nat.le_of_ble_eq_true rfl, Nat.le_of_ble_eq_true rfl⟩ (Nat.le_of_ble_eq_true rfl) rfl rfl dX7_dearest_38 (fun r2 μ3 => ?_)
      change Zw g ΛM enI RX7 cX7_dearest 11 (some .int) rX7_dearest 41 [(0, .ref (g.2.2.1 0)), (1, .int c1), (2, .int c2), (3, .int c3), (4, .int y4), (5, .int y5)] [.int r2] μ3 _
      refine z_if_eq (pc := 41) (tgt := 54) dX7_dearest_41 (by decide) (fun h4 => ?_) (fun h4 => ?_)
      · refine z_iconst (pc := 54) (v := -1) dX7_dearest_54 rfl ?_
        refine z_istore (pc := 55) (lv2 := [(0, .ref (g.2.2.1 0)), (1, .int c1), (2, .int c2), (3, .int c3), (4, .int y4), (5, .int y5), (6, .int (-1 : Int32))]) [1, 2, 3, 4, 5, 6, 0] dX7_dearest_55 (by decide) rfl ?_
        refine z_iconst (pc := 57) (v := 4) dX7_dearest_57 rfl ?_
        refine z_iload (pc := 58) 6 dX7_dearest_58 rfl ?_
        refine z_imul (pc := 60) dX7_dearest_60 ?_
        refine z_aload_n (pc := 61) 0 dX7_dearest_61 rfl rfl ?_
        refine z_get (pc := 62) (v := .ref (g.2.2.1 1)) flX7_7 jnX7 ltM_0 kdM_0 rfl (by decide) rfl foM_0_0 rfl dX7_dearest_62 ?_
        refine z_bipush (pc := 65) (v := 9) dX7_dearest_65 (by decide +kernel) ?_
        refine z_iload (pc := 67) 5 dX7_dearest_67 rfl ?_
        refine z_iadd (pc := 69) dX7_dearest_69 ?_
        refine z_iaload_g (pc := 70) ltM_1 kdM_1 dX7_dearest_70 ?_
        refine z_iadd (pc := 71) dX7_dearest_71 ?_
        refine z_istore (pc := 72) (lv2 := [(0, .ref (g.2.2.1 0)), (1, .int c1), (2, .int c2), (3, .int c3), (4, .int y4), (5, .int y5), (6, .int (-1 : Int32)), (7, .int (((4 : Int32) * (-1 : Int32)) + (μ3.1 1 (((9 : Int32) + y5).toNatClampNeg))))]) [1, 2, 3, 4, 5, 6, 7, 0] dX7_dearest_72 (by decide) rfl ?_
        refine z_iload (pc := 74) 6 dX7_dearest_74 rfl ?_
        refine z_iconst (pc := 76) (v := -1) dX7_dearest_76 rfl ?_
        refine z_icmp_eq_y (pc := 77) (tgt := 208) dX7_dearest_77 (by decide) (by decide +kernel) ?_
        refine z_iinc (pc := 208) (v := y5 + 1) (lv2 := [(0, .ref (g.2.2.1 0)), (1, .int c1), (2, .int c2), (3, .int c3), (4, .int y4), (5, .int (y5 + 1)), (6, .int (-1 : Int32)), (7, .int (((4 : Int32) * (-1 : Int32)) + (μ3.1 1 (((9 : Int32) + y5).toNatClampNeg))))]) 5 [1, 2, 3, 4, 5, 0, 6, 7] dX7_dearest_208 rfl (by rw [oi_1]) (by decide) rfl ?_
        refine z_goto (pc := 211) (tgt := 16) dX7_dearest_211 (by decide) ?_
        refine z_sub (lv2 := [(0, .ref (g.2.2.1 0)), (1, .int c1), (2, .int c2), (3, .int c3), (4, .int y4), (5, .int (y5 + 1))]) [0, 1, 2, 3, 4, 5] rfl ?_
        exact ih _ _ _ _ hk
      · refine z_aload_n (pc := 44) 0 dX7_dearest_44 rfl rfl ?_
        refine z_iload (pc := 45) 5 dX7_dearest_45 rfl ?_
        refine z_iload_n (pc := 47) 1 dX7_dearest_47 rfl rfl ?_
        refine z_callV (pc := 48) (b := 0) (As := [.int y5, .int c1]) (rest := []) kX7_143 (m_X7_leads g μ3 y5 c1) ltM_0 kdM_0 rfl rfl ⟨rfl, rfl⟩ ⟨Nat.le_of_ble_eq_true rfl, Nat.le_of_ble_eq_true rfl⟩ (Nat.le_of_ble_eq_true rfl) rfl rfl dX7_dearest_48 (fun r5 μ6 => ?_)
        change Zw g ΛM enI RX7 cX7_dearest 11 (some .int) rX7_dearest 51 [(0, .ref (g.2.2.1 0)), (1, .int c1), (2, .int c2), (3, .int c3), (4, .int y4), (5, .int y5)] [.int r5] μ6 _
        refine z_goto (pc := 51) (tgt := 55) dX7_dearest_51 (by decide) ?_
        refine z_istore (pc := 55) (lv2 := [(0, .ref (g.2.2.1 0)), (1, .int c1), (2, .int c2), (3, .int c3), (4, .int y4), (5, .int y5), (6, .int r5)]) [1, 2, 3, 4, 5, 6, 0] dX7_dearest_55 (by decide) rfl ?_
        refine z_iconst (pc := 57) (v := 4) dX7_dearest_57 rfl ?_
        refine z_iload (pc := 58) 6 dX7_dearest_58 rfl ?_
        refine z_imul (pc := 60) dX7_dearest_60 ?_
        refine z_aload_n (pc := 61) 0 dX7_dearest_61 rfl rfl ?_
        refine z_get (pc := 62) (v := .ref (g.2.2.1 1)) flX7_7 jnX7 ltM_0 kdM_0 rfl (by decide) rfl foM_0_0 rfl dX7_dearest_62 ?_
        refine z_bipush (pc := 65) (v := 9) dX7_dearest_65 (by decide +kernel) ?_
        refine z_iload (pc := 67) 5 dX7_dearest_67 rfl ?_
        refine z_iadd (pc := 69) dX7_dearest_69 ?_
        refine z_iaload_g (pc := 70) ltM_1 kdM_1 dX7_dearest_70 ?_
        refine z_iadd (pc := 71) dX7_dearest_71 ?_
        refine z_istore (pc := 72) (lv2 := [(0, .ref (g.2.2.1 0)), (1, .int c1), (2, .int c2), (3, .int c3), (4, .int y4), (5, .int y5), (6, .int r5), (7, .int (((4 : Int32) * r5) + (μ6.1 1 (((9 : Int32) + y5).toNatClampNeg))))]) [1, 2, 3, 4, 5, 6, 7, 0] dX7_dearest_72 (by decide) rfl ?_
        refine z_iload (pc := 74) 6 dX7_dearest_74 rfl ?_
        refine z_iconst (pc := 76) (v := -1) dX7_dearest_76 rfl ?_
        refine z_icmp_eq (pc := 77) (tgt := 208) dX7_dearest_77 (by decide) (fun h7 => ?_) (fun h7 => ?_)
        · refine z_iinc (pc := 208) (v := y5 + 1) (lv2 := [(0, .ref (g.2.2.1 0)), (1, .int c1), (2, .int c2), (3, .int c3), (4, .int y4), (5, .int (y5 + 1)), (6, .int r5), (7, .int (((4 : Int32) * r5) + (μ6.1 1 (((9 : Int32) + y5).toNatClampNeg))))]) 5 [1, 2, 3, 4, 5, 0, 6, 7] dX7_dearest_208 rfl (by rw [oi_1]) (by decide) rfl ?_
          refine z_goto (pc := 211) (tgt := 16) dX7_dearest_211 (by decide) ?_
          refine z_sub (lv2 := [(0, .ref (g.2.2.1 0)), (1, .int c1), (2, .int c2), (3, .int c3), (4, .int y4), (5, .int (y5 + 1))]) [0, 1, 2, 3, 4, 5] rfl ?_
          exact ih _ _ _ _ hk
        · refine z_aload_n (pc := 80) 0 dX7_dearest_80 rfl rfl ?_
          refine z_get (pc := 81) (v := .ref (g.2.2.1 9)) flX7_35 jnX7 ltM_0 kdM_0 rfl (by decide) rfl foM_0_13 rfl dX7_dearest_81 ?_
          refine z_iload (pc := 84) 7 dX7_dearest_84 rfl ?_
          refine z_iaload_g (pc := 86) ltM_9 kdM_9 dX7_dearest_86 ?_
          refine z_if_lt (pc := 87) (tgt := 208) dX7_dearest_87 (by decide) (fun h8 => ?_) (fun h8 => ?_)
          · refine z_iinc (pc := 208) (v := y5 + 1) (lv2 := [(0, .ref (g.2.2.1 0)), (1, .int c1), (2, .int c2), (3, .int c3), (4, .int y4), (5, .int (y5 + 1)), (6, .int r5), (7, .int (((4 : Int32) * r5) + (μ6.1 1 (((9 : Int32) + y5).toNatClampNeg))))]) 5 [1, 2, 3, 4, 5, 0, 6, 7] dX7_dearest_208 rfl (by rw [oi_1]) (by decide) rfl ?_
            refine z_goto (pc := 211) (tgt := 16) dX7_dearest_211 (by decide) ?_
            refine z_sub (lv2 := [(0, .ref (g.2.2.1 0)), (1, .int c1), (2, .int c2), (3, .int c3), (4, .int y4), (5, .int (y5 + 1))]) [0, 1, 2, 3, 4, 5] rfl ?_
            exact ih _ _ _ _ hk
          · refine z_aload_n (pc := 90) 0 dX7_dearest_90 rfl rfl ?_
            refine z_get (pc := 91) (v := .ref (g.2.2.1 8)) flX7_32 jnX7 ltM_0 kdM_0 rfl (by decide) rfl foM_0_12 rfl dX7_dearest_91 ?_
            refine z_iload (pc := 94) 7 dX7_dearest_94 rfl ?_
            refine z_iaload_g (pc := 96) ltM_8 kdM_8 dX7_dearest_96 ?_
            refine z_aload_n (pc := 97) 0 dX7_dearest_97 rfl rfl ?_
            refine z_iload_n (pc := 98) 3 dX7_dearest_98 rfl rfl ?_
            refine z_iload (pc := 99) 5 dX7_dearest_99 rfl ?_
            refine z_callV (pc := 101) (b := 0) (As := [.int c3, .int y5]) (rest := [.int (μ6.1 8 ((((4 : Int32) * r5) + (μ6.1 1 (((9 : Int32) + y5).toNatClampNeg))).toNatClampNeg))]) kX7_113 (m_X7_habitOf g μ6 c3 y5) ltM_0 kdM_0 rfl rfl ⟨rfl, rfl⟩ ⟨Nat.le_of_ble_eq_true rfl, Nat.le_of_ble_eq_true rfl⟩ (Nat.le_of_ble_eq_true rfl) rfl rfl dX7_dearest_101 (fun r9 μ10 => ?_)
            change Zw g ΛM enI RX7 cX7_dearest 11 (some .int) rX7_dearest 104 [(0, .ref (g.2.2.1 0)), (1, .int c1), (2, .int c2), (3, .int c3), (4, .int y4), (5, .int y5), (6, .int r5), (7, .int (((4 : Int32) * r5) + (μ6.1 1 (((9 : Int32) + y5).toNatClampNeg))))] [.int r9, .int (μ6.1 8 ((((4 : Int32) * r5) + (μ6.1 1 (((9 : Int32) + y5).toNatClampNeg))).toNatClampNeg))] μ10 _
            refine z_iadd (pc := 104) dX7_dearest_104 ?_
            refine z_istore (pc := 105) (lv2 := [(0, .ref (g.2.2.1 0)), (1, .int c1), (2, .int c2), (3, .int c3), (4, .int y4), (5, .int y5), (6, .int r5), (7, .int (((4 : Int32) * r5) + (μ6.1 1 (((9 : Int32) + y5).toNatClampNeg)))), (8, .int ((μ6.1 8 ((((4 : Int32) * r5) + (μ6.1 1 (((9 : Int32) + y5).toNatClampNeg))).toNatClampNeg)) + r9))]) [1, 2, 3, 4, 5, 6, 7, 8, 0] dX7_dearest_105 (by decide) rfl ?_
            refine z_aload_n (pc := 107) 0 dX7_dearest_107 rfl rfl ?_
            refine z_get (pc := 108) (v := .ref (g.2.2.1 9)) flX7_35 jnX7 ltM_0 kdM_0 rfl (by decide) rfl foM_0_13 rfl dX7_dearest_108 ?_
            refine z_iload (pc := 111) 7 dX7_dearest_111 rfl ?_
            refine z_iaload_g (pc := 113) ltM_9 kdM_9 dX7_dearest_113 ?_
            refine z_iconst (pc := 114) (v := 1) dX7_dearest_114 rfl ?_
            refine z_iadd (pc := 115) dX7_dearest_115 ?_
            refine z_istore (pc := 116) (lv2 := [(0, .ref (g.2.2.1 0)), (1, .int c1), (2, .int c2), (3, .int c3), (4, .int y4), (5, .int y5), (6, .int r5), (7, .int (((4 : Int32) * r5) + (μ6.1 1 (((9 : Int32) + y5).toNatClampNeg)))), (8, .int ((μ6.1 8 ((((4 : Int32) * r5) + (μ6.1 1 (((9 : Int32) + y5).toNatClampNeg))).toNatClampNeg)) + r9)), (9, .int ((μ10.1 9 ((((4 : Int32) * r5) + (μ6.1 1 (((9 : Int32) + y5).toNatClampNeg))).toNatClampNeg)) + (1 : Int32)))]) [1, 2, 3, 4, 5, 6, 7, 8, 9, 0] dX7_dearest_116 (by decide) rfl ?_
            refine z_iload (pc := 118) 4 dX7_dearest_118 rfl ?_
            refine z_iconst (pc := 120) (v := -1) dX7_dearest_120 rfl ?_
            refine z_icmp_eq (pc := 121) (tgt := 151) dX7_dearest_121 (by decide) (fun h11 => ?_) (fun h11 => ?_)
            · refine z_iconst (pc := 151) (v := 1) dX7_dearest_151 rfl ?_
              refine z_goto (pc := 152) (tgt := 156) dX7_dearest_152 (by decide) ?_
              refine z_istore (pc := 156) (lv2 := [(0, .ref (g.2.2.1 0)), (1, .int c1), (2, .int c2), (3, .int c3), (4, .int y4), (5, .int y5), (6, .int r5), (7, .int (((4 : Int32) * r5) + (μ6.1 1 (((9 : Int32) + y5).toNatClampNeg)))), (8, .int ((μ6.1 8 ((((4 : Int32) * r5) + (μ6.1 1 (((9 : Int32) + y5).toNatClampNeg))).toNatClampNeg)) + r9)), (9, .int ((μ10.1 9 ((((4 : Int32) * r5) + (μ6.1 1 (((9 : Int32) + y5).toNatClampNeg))).toNatClampNeg)) + (1 : Int32))), (10, .int (1 : Int32))]) [1, 2, 3, 4, 5, 6, 7, 8, 9, 10, 0] dX7_dearest_156 (by decide) rfl ?_
              refine z_iload (pc := 158) 10 dX7_dearest_158 rfl ?_
              refine z_if_eq_x (pc := 160) (tgt := 168) dX7_dearest_160 (by decide) (by decide +kernel) ?_
              refine z_iload (pc := 163) 5 dX7_dearest_163 rfl ?_
              refine z_goto (pc := 165) (tgt := 170) dX7_dearest_165 (by decide) ?_
              refine z_istore (pc := 170) (lv2 := [(0, .ref (g.2.2.1 0)), (1, .int c1), (2, .int c2), (3, .int c3), (4, .int y5), (5, .int y5), (6, .int r5), (7, .int (((4 : Int32) * r5) + (μ6.1 1 (((9 : Int32) + y5).toNatClampNeg)))), (8, .int ((μ6.1 8 ((((4 : Int32) * r5) + (μ6.1 1 (((9 : Int32) + y5).toNatClampNeg))).toNatClampNeg)) + r9)), (9, .int ((μ10.1 9 ((((4 : Int32) * r5) + (μ6.1 1 (((9 : Int32) + y5).toNatClampNeg))).toNatClampNeg)) + (1 : Int32))), (10, .int (1 : Int32))]) [1, 2, 3, 4, 0, 5, 6, 7, 8, 9, 10] dX7_dearest_170 (by decide) rfl ?_
              refine z_aload_n (pc := 172) 0 dX7_dearest_172 rfl rfl ?_
              refine z_iload (pc := 173) 10 dX7_dearest_173 rfl ?_
              refine z_if_eq_x (pc := 175) (tgt := 183) dX7_dearest_175 (by decide) (by decide +kernel) ?_
              refine z_iload (pc := 178) 8 dX7_dearest_178 rfl ?_
              refine z_goto (pc := 180) (tgt := 187) dX7_dearest_180 (by decide) ?_
              refine z_puti (x := (0, 0)) (pc := 187) flX7_198 jnX7 tyX7 tyX7_ok nmX7 ltM_0 kdM_0 rfl (by decide) rfl foM_0_15 rfl ⟨rfl, rfl⟩ dX7_dearest_187 ?_
              refine z_aload_n (pc := 190) 0 dX7_dearest_190 rfl rfl ?_
              refine z_iload (pc := 191) 10 dX7_dearest_191 rfl ?_
              refine z_if_eq_x (pc := 193) (tgt := 201) dX7_dearest_193 (by decide) (by decide +kernel) ?_
              refine z_iload (pc := 196) 9 dX7_dearest_196 rfl ?_
              refine z_goto (pc := 198) (tgt := 205) dX7_dearest_198 (by decide) ?_
              refine z_puti (x := (0, 0)) (pc := 205) flX7_201 jnX7 tyX7 tyX7_ok nmX7 ltM_0 kdM_0 rfl (by decide) rfl foM_0_16 rfl ⟨rfl, rfl⟩ dX7_dearest_205 ?_
              refine z_iinc (pc := 208) (v := y5 + 1) (lv2 := [(0, .ref (g.2.2.1 0)), (1, .int c1), (2, .int c2), (3, .int c3), (4, .int y5), (5, .int (y5 + 1)), (6, .int r5), (7, .int (((4 : Int32) * r5) + (μ6.1 1 (((9 : Int32) + y5).toNatClampNeg)))), (8, .int ((μ6.1 8 ((((4 : Int32) * r5) + (μ6.1 1 (((9 : Int32) + y5).toNatClampNeg))).toNatClampNeg)) + r9)), (9, .int ((μ10.1 9 ((((4 : Int32) * r5) + (μ6.1 1 (((9 : Int32) + y5).toNatClampNeg))).toNatClampNeg)) + (1 : Int32))), (10, .int (1 : Int32))]) 5 [1, 2, 3, 4, 5, 0, 6, 7, 8, 9, 10] dX7_dearest_208 rfl (by rw [oi_1]) (by decide) rfl ?_
              refine z_goto (pc := 211) (tgt := 16) dX7_dearest_211 (by decide) ?_
              refine z_sub (lv2 := [(0, .ref (g.2.2.1 0)), (1, .int c1), (2, .int c2), (3, .int c3), (4, .int y5), (5, .int (y5 + 1))]) [0, 1, 2, 3, 4, 5] rfl ?_
              exact ih _ _ _ _ hk
            · refine z_iload (pc := 124) 8 dX7_dearest_124 rfl ?_
              refine z_aload_n (pc := 126) 0 dX7_dearest_126 rfl rfl ?_
              refine z_get (pc := 127) (v := .int (μ10.1 0 15)) flX7_198 jnX7 ltM_0 kdM_0 rfl (by decide) rfl foM_0_15 rfl dX7_dearest_127 ?_
              refine z_icmp_gt (pc := 130) (tgt := 151) dX7_dearest_130 (by decide) (fun h12 => ?_) (fun h12 => ?_)
              · refine z_iconst (pc := 151) (v := 1) dX7_dearest_151 rfl ?_
                refine z_goto (pc := 152) (tgt := 156) dX7_dearest_152 (by decide) ?_
                refine z_istore (pc := 156) (lv2 := [(0, .ref (g.2.2.1 0)), (1, .int c1), (2, .int c2), (3, .int c3), (4, .int y4), (5, .int y5), (6, .int r5), (7, .int (((4 : Int32) * r5) + (μ6.1 1 (((9 : Int32) + y5).toNatClampNeg)))), (8, .int ((μ6.1 8 ((((4 : Int32) * r5) + (μ6.1 1 (((9 : Int32) + y5).toNatClampNeg))).toNatClampNeg)) + r9)), (9, .int ((μ10.1 9 ((((4 : Int32) * r5) + (μ6.1 1 (((9 : Int32) + y5).toNatClampNeg))).toNatClampNeg)) + (1 : Int32))), (10, .int (1 : Int32))]) [1, 2, 3, 4, 5, 6, 7, 8, 9, 10, 0] dX7_dearest_156 (by decide) rfl ?_
                refine z_iload (pc := 158) 10 dX7_dearest_158 rfl ?_
                refine z_if_eq_x (pc := 160) (tgt := 168) dX7_dearest_160 (by decide) (by decide +kernel) ?_
                refine z_iload (pc := 163) 5 dX7_dearest_163 rfl ?_
                refine z_goto (pc := 165) (tgt := 170) dX7_dearest_165 (by decide) ?_
                refine z_istore (pc := 170) (lv2 := [(0, .ref (g.2.2.1 0)), (1, .int c1), (2, .int c2), (3, .int c3), (4, .int y5), (5, .int y5), (6, .int r5), (7, .int (((4 : Int32) * r5) + (μ6.1 1 (((9 : Int32) + y5).toNatClampNeg)))), (8, .int ((μ6.1 8 ((((4 : Int32) * r5) + (μ6.1 1 (((9 : Int32) + y5).toNatClampNeg))).toNatClampNeg)) + r9)), (9, .int ((μ10.1 9 ((((4 : Int32) * r5) + (μ6.1 1 (((9 : Int32) + y5).toNatClampNeg))).toNatClampNeg)) + (1 : Int32))), (10, .int (1 : Int32))]) [1, 2, 3, 4, 0, 5, 6, 7, 8, 9, 10] dX7_dearest_170 (by decide) rfl ?_
                refine z_aload_n (pc := 172) 0 dX7_dearest_172 rfl rfl ?_
                refine z_iload (pc := 173) 10 dX7_dearest_173 rfl ?_
                refine z_if_eq_x (pc := 175) (tgt := 183) dX7_dearest_175 (by decide) (by decide +kernel) ?_
                refine z_iload (pc := 178) 8 dX7_dearest_178 rfl ?_
                refine z_goto (pc := 180) (tgt := 187) dX7_dearest_180 (by decide) ?_
                refine z_puti (x := (0, 0)) (pc := 187) flX7_198 jnX7 tyX7 tyX7_ok nmX7 ltM_0 kdM_0 rfl (by decide) rfl foM_0_15 rfl ⟨rfl, rfl⟩ dX7_dearest_187 ?_
                refine z_aload_n (pc := 190) 0 dX7_dearest_190 rfl rfl ?_
                refine z_iload (pc := 191) 10 dX7_dearest_191 rfl ?_
                refine z_if_eq_x (pc := 193) (tgt := 201) dX7_dearest_193 (by decide) (by decide +kernel) ?_
                refine z_iload (pc := 196) 9 dX7_dearest_196 rfl ?_
                refine z_goto (pc := 198) (tgt := 205) dX7_dearest_198 (by decide) ?_
                refine z_puti (x := (0, 0)) (pc := 205) flX7_201 jnX7 tyX7 tyX7_ok nmX7 ltM_0 kdM_0 rfl (by decide) rfl foM_0_16 rfl ⟨rfl, rfl⟩ dX7_dearest_205 ?_
                refine z_iinc (pc := 208) (v := y5 + 1) (lv2 := [(0, .ref (g.2.2.1 0)), (1, .int c1), (2, .int c2), (3, .int c3), (4, .int y5), (5, .int (y5 + 1)), (6, .int r5), (7, .int (((4 : Int32) * r5) + (μ6.1 1 (((9 : Int32) + y5).toNatClampNeg)))), (8, .int ((μ6.1 8 ((((4 : Int32) * r5) + (μ6.1 1 (((9 : Int32) + y5).toNatClampNeg))).toNatClampNeg)) + r9)), (9, .int ((μ10.1 9 ((((4 : Int32) * r5) + (μ6.1 1 (((9 : Int32) + y5).toNatClampNeg))).toNatClampNeg)) + (1 : Int32))), (10, .int (1 : Int32))]) 5 [1, 2, 3, 4, 5, 0, 6, 7, 8, 9, 10] dX7_dearest_208 rfl (by rw [oi_1]) (by decide) rfl ?_
                refine z_goto (pc := 211) (tgt := 16) dX7_dearest_211 (by decide) ?_
                refine z_sub (lv2 := [(0, .ref (g.2.2.1 0)), (1, .int c1), (2, .int c2), (3, .int c3), (4, .int y5), (5, .int (y5 + 1))]) [0, 1, 2, 3, 4, 5] rfl ?_
                exact ih _ _ _ _ hk
              · refine z_iload (pc := 133) 8 dX7_dearest_133 rfl ?_
                refine z_aload_n (pc := 135) 0 dX7_dearest_135 rfl rfl ?_
                refine z_get (pc := 136) (v := .int (μ10.1 0 15)) flX7_198 jnX7 ltM_0 kdM_0 rfl (by decide) rfl foM_0_15 rfl dX7_dearest_136 ?_
                refine z_icmp_ne (pc := 139) (tgt := 155) dX7_dearest_139 (by decide) (fun h13 => ?_) (fun h13 => ?_)
                · refine z_iconst (pc := 155) (v := 0) dX7_dearest_155 rfl ?_
                  refine z_istore (pc := 156) (lv2 := [(0, .ref (g.2.2.1 0)), (1, .int c1), (2, .int c2), (3, .int c3), (4, .int y4), (5, .int y5), (6, .int r5), (7, .int (((4 : Int32) * r5) + (μ6.1 1 (((9 : Int32) + y5).toNatClampNeg)))), (8, .int ((μ6.1 8 ((((4 : Int32) * r5) + (μ6.1 1 (((9 : Int32) + y5).toNatClampNeg))).toNatClampNeg)) + r9)), (9, .int ((μ10.1 9 ((((4 : Int32) * r5) + (μ6.1 1 (((9 : Int32) + y5).toNatClampNeg))).toNatClampNeg)) + (1 : Int32))), (10, .int (0 : Int32))]) [1, 2, 3, 4, 5, 6, 7, 8, 9, 10, 0] dX7_dearest_156 (by decide) rfl ?_
                  refine z_iload (pc := 158) 10 dX7_dearest_158 rfl ?_
                  refine z_if_eq_y (pc := 160) (tgt := 168) dX7_dearest_160 (by decide) (by decide +kernel) ?_
                  refine z_iload (pc := 168) 4 dX7_dearest_168 rfl ?_
                  refine z_istore (pc := 170) (lv2 := [(0, .ref (g.2.2.1 0)), (1, .int c1), (2, .int c2), (3, .int c3), (4, .int y4), (5, .int y5), (6, .int r5), (7, .int (((4 : Int32) * r5) + (μ6.1 1 (((9 : Int32) + y5).toNatClampNeg)))), (8, .int ((μ6.1 8 ((((4 : Int32) * r5) + (μ6.1 1 (((9 : Int32) + y5).toNatClampNeg))).toNatClampNeg)) + r9)), (9, .int ((μ10.1 9 ((((4 : Int32) * r5) + (μ6.1 1 (((9 : Int32) + y5).toNatClampNeg))).toNatClampNeg)) + (1 : Int32))), (10, .int (0 : Int32))]) [1, 2, 3, 4, 0, 5, 6, 7, 8, 9, 10] dX7_dearest_170 (by decide) rfl ?_
                  refine z_aload_n (pc := 172) 0 dX7_dearest_172 rfl rfl ?_
                  refine z_iload (pc := 173) 10 dX7_dearest_173 rfl ?_
                  refine z_if_eq_y (pc := 175) (tgt := 183) dX7_dearest_175 (by decide) (by decide +kernel) ?_
                  refine z_aload_n (pc := 183) 0 dX7_dearest_183 rfl rfl ?_
                  refine z_get (pc := 184) (v := .int (μ10.1 0 15)) flX7_198 jnX7 ltM_0 kdM_0 rfl (by decide) rfl foM_0_15 rfl dX7_dearest_184 ?_
                  refine z_puti (x := (0, 0)) (pc := 187) flX7_198 jnX7 tyX7 tyX7_ok nmX7 ltM_0 kdM_0 rfl (by decide) rfl foM_0_15 rfl ⟨rfl, rfl⟩ dX7_dearest_187 ?_
                  refine z_aload_n (pc := 190) 0 dX7_dearest_190 rfl rfl ?_
                  refine z_iload (pc := 191) 10 dX7_dearest_191 rfl ?_
                  refine z_if_eq_y (pc := 193) (tgt := 201) dX7_dearest_193 (by decide) (by decide +kernel) ?_
                  refine z_aload_n (pc := 201) 0 dX7_dearest_201 rfl rfl ?_
                  refine z_get (pc := 202) (v := .int (μ10.1 0 16)) flX7_201 jnX7 ltM_0 kdM_0 rfl (by decide) rfl foM_0_16 rfl dX7_dearest_202 ?_
                  refine z_puti (x := (0, 0)) (pc := 205) flX7_201 jnX7 tyX7 tyX7_ok nmX7 ltM_0 kdM_0 rfl (by decide) rfl foM_0_16 rfl ⟨rfl, rfl⟩ dX7_dearest_205 ?_
                  refine z_iinc (pc := 208) (v := y5 + 1) (lv2 := [(0, .ref (g.2.2.1 0)), (1, .int c1), (2, .int c2), (3, .int c3), (4, .int y4), (5, .int (y5 + 1)), (6, .int r5), (7, .int (((4 : Int32) * r5) + (μ6.1 1 (((9 : Int32) + y5).toNatClampNeg)))), (8, .int ((μ6.1 8 ((((4 : Int32) * r5) + (μ6.1 1 (((9 : Int32) + y5).toNatClampNeg))).toNatClampNeg)) + r9)), (9, .int ((μ10.1 9 ((((4 : Int32) * r5) + (μ6.1 1 (((9 : Int32) + y5).toNatClampNeg))).toNatClampNeg)) + (1 : Int32))), (10, .int (0 : Int32))]) 5 [1, 2, 3, 4, 5, 0, 6, 7, 8, 9, 10] dX7_dearest_208 rfl (by rw [oi_1]) (by decide) rfl ?_
                  refine z_goto (pc := 211) (tgt := 16) dX7_dearest_211 (by decide) ?_
                  refine z_sub (lv2 := [(0, .ref (g.2.2.1 0)), (1, .int c1), (2, .int c2), (3, .int c3), (4, .int y4), (5, .int (y5 + 1))]) [0, 1, 2, 3, 4, 5] rfl ?_
                  exact ih _ _ _ _ hk
                · refine z_iload (pc := 142) 9 dX7_dearest_142 rfl ?_
                  refine z_aload_n (pc := 144) 0 dX7_dearest_144 rfl rfl ?_
                  refine z_get (pc := 145) (v := .int (μ10.1 0 16)) flX7_201 jnX7 ltM_0 kdM_0 rfl (by decide) rfl foM_0_16 rfl dX7_dearest_145 ?_
                  refine z_icmp_ge (pc := 148) (tgt := 155) dX7_dearest_148 (by decide) (fun h14 => ?_) (fun h14 => ?_)
                  · refine z_iconst (pc := 155) (v := 0) dX7_dearest_155 rfl ?_
                    refine z_istore (pc := 156) (lv2 := [(0, .ref (g.2.2.1 0)), (1, .int c1), (2, .int c2), (3, .int c3), (4, .int y4), (5, .int y5), (6, .int r5), (7, .int (((4 : Int32) * r5) + (μ6.1 1 (((9 : Int32) + y5).toNatClampNeg)))), (8, .int ((μ6.1 8 ((((4 : Int32) * r5) + (μ6.1 1 (((9 : Int32) + y5).toNatClampNeg))).toNatClampNeg)) + r9)), (9, .int ((μ10.1 9 ((((4 : Int32) * r5) + (μ6.1 1 (((9 : Int32) + y5).toNatClampNeg))).toNatClampNeg)) + (1 : Int32))), (10, .int (0 : Int32))]) [1, 2, 3, 4, 5, 6, 7, 8, 9, 10, 0] dX7_dearest_156 (by decide) rfl ?_
                    refine z_iload (pc := 158) 10 dX7_dearest_158 rfl ?_
                    refine z_if_eq_y (pc := 160) (tgt := 168) dX7_dearest_160 (by decide) (by decide +kernel) ?_
                    refine z_iload (pc := 168) 4 dX7_dearest_168 rfl ?_
                    refine z_istore (pc := 170) (lv2 := [(0, .ref (g.2.2.1 0)), (1, .int c1), (2, .int c2), (3, .int c3), (4, .int y4), (5, .int y5), (6, .int r5), (7, .int (((4 : Int32) * r5) + (μ6.1 1 (((9 : Int32) + y5).toNatClampNeg)))), (8, .int ((μ6.1 8 ((((4 : Int32) * r5) + (μ6.1 1 (((9 : Int32) + y5).toNatClampNeg))).toNatClampNeg)) + r9)), (9, .int ((μ10.1 9 ((((4 : Int32) * r5) + (μ6.1 1 (((9 : Int32) + y5).toNatClampNeg))).toNatClampNeg)) + (1 : Int32))), (10, .int (0 : Int32))]) [1, 2, 3, 4, 0, 5, 6, 7, 8, 9, 10] dX7_dearest_170 (by decide) rfl ?_
                    refine z_aload_n (pc := 172) 0 dX7_dearest_172 rfl rfl ?_
                    refine z_iload (pc := 173) 10 dX7_dearest_173 rfl ?_
                    refine z_if_eq_y (pc := 175) (tgt := 183) dX7_dearest_175 (by decide) (by decide +kernel) ?_
                    refine z_aload_n (pc := 183) 0 dX7_dearest_183 rfl rfl ?_
                    refine z_get (pc := 184) (v := .int (μ10.1 0 15)) flX7_198 jnX7 ltM_0 kdM_0 rfl (by decide) rfl foM_0_15 rfl dX7_dearest_184 ?_
                    refine z_puti (x := (0, 0)) (pc := 187) flX7_198 jnX7 tyX7 tyX7_ok nmX7 ltM_0 kdM_0 rfl (by decide) rfl foM_0_15 rfl ⟨rfl, rfl⟩ dX7_dearest_187 ?_
                    refine z_aload_n (pc := 190) 0 dX7_dearest_190 rfl rfl ?_
                    refine z_iload (pc := 191) 10 dX7_dearest_191 rfl ?_
                    refine z_if_eq_y (pc := 193) (tgt := 201) dX7_dearest_193 (by decide) (by decide +kernel) ?_
                    refine z_aload_n (pc := 201) 0 dX7_dearest_201 rfl rfl ?_
                    refine z_get (pc := 202) (v := .int (μ10.1 0 16)) flX7_201 jnX7 ltM_0 kdM_0 rfl (by decide) rfl foM_0_16 rfl dX7_dearest_202 ?_
                    refine z_puti (x := (0, 0)) (pc := 205) flX7_201 jnX7 tyX7 tyX7_ok nmX7 ltM_0 kdM_0 rfl (by decide) rfl foM_0_16 rfl ⟨rfl, rfl⟩ dX7_dearest_205 ?_
                    refine z_iinc (pc := 208) (v := y5 + 1) (lv2 := [(0, .ref (g.2.2.1 0)), (1, .int c1), (2, .int c2), (3, .int c3), (4, .int y4), (5, .int (y5 + 1)), (6, .int r5), (7, .int (((4 : Int32) * r5) + (μ6.1 1 (((9 : Int32) + y5).toNatClampNeg)))), (8, .int ((μ6.1 8 ((((4 : Int32) * r5) + (μ6.1 1 (((9 : Int32) + y5).toNatClampNeg))).toNatClampNeg)) + r9)), (9, .int ((μ10.1 9 ((((4 : Int32) * r5) + (μ6.1 1 (((9 : Int32) + y5).toNatClampNeg))).toNatClampNeg)) + (1 : Int32))), (10, .int (0 : Int32))]) 5 [1, 2, 3, 4, 5, 0, 6, 7, 8, 9, 10] dX7_dearest_208 rfl (by rw [oi_1]) (by decide) rfl ?_
                    refine z_goto (pc := 211) (tgt := 16) dX7_dearest_211 (by decide) ?_
                    refine z_sub (lv2 := [(0, .ref (g.2.2.1 0)), (1, .int c1), (2, .int c2), (3, .int c3), (4, .int y4), (5, .int (y5 + 1))]) [0, 1, 2, 3, 4, 5] rfl ?_
                    exact ih _ _ _ _ hk
                  · refine z_iconst (pc := 151) (v := 1) dX7_dearest_151 rfl ?_
                    refine z_goto (pc := 152) (tgt := 156) dX7_dearest_152 (by decide) ?_
                    refine z_istore (pc := 156) (lv2 := [(0, .ref (g.2.2.1 0)), (1, .int c1), (2, .int c2), (3, .int c3), (4, .int y4), (5, .int y5), (6, .int r5), (7, .int (((4 : Int32) * r5) + (μ6.1 1 (((9 : Int32) + y5).toNatClampNeg)))), (8, .int ((μ6.1 8 ((((4 : Int32) * r5) + (μ6.1 1 (((9 : Int32) + y5).toNatClampNeg))).toNatClampNeg)) + r9)), (9, .int ((μ10.1 9 ((((4 : Int32) * r5) + (μ6.1 1 (((9 : Int32) + y5).toNatClampNeg))).toNatClampNeg)) + (1 : Int32))), (10, .int (1 : Int32))]) [1, 2, 3, 4, 5, 6, 7, 8, 9, 10, 0] dX7_dearest_156 (by decide) rfl ?_
                    refine z_iload (pc := 158) 10 dX7_dearest_158 rfl ?_
                    refine z_if_eq_x (pc := 160) (tgt := 168) dX7_dearest_160 (by decide) (by decide +kernel) ?_
                    refine z_iload (pc := 163) 5 dX7_dearest_163 rfl ?_
                    refine z_goto (pc := 165) (tgt := 170) dX7_dearest_165 (by decide) ?_
                    refine z_istore (pc := 170) (lv2 := [(0, .ref (g.2.2.1 0)), (1, .int c1), (2, .int c2), (3, .int c3), (4, .int y5), (5, .int y5), (6, .int r5), (7, .int (((4 : Int32) * r5) + (μ6.1 1 (((9 : Int32) + y5).toNatClampNeg)))), (8, .int ((μ6.1 8 ((((4 : Int32) * r5) + (μ6.1 1 (((9 : Int32) + y5).toNatClampNeg))).toNatClampNeg)) + r9)), (9, .int ((μ10.1 9 ((((4 : Int32) * r5) + (μ6.1 1 (((9 : Int32) + y5).toNatClampNeg))).toNatClampNeg)) + (1 : Int32))), (10, .int (1 : Int32))]) [1, 2, 3, 4, 0, 5, 6, 7, 8, 9, 10] dX7_dearest_170 (by decide) rfl ?_
                    refine z_aload_n (pc := 172) 0 dX7_dearest_172 rfl rfl ?_
                    refine z_iload (pc := 173) 10 dX7_dearest_173 rfl ?_
                    refine z_if_eq_x (pc := 175) (tgt := 183) dX7_dearest_175 (by decide) (by decide +kernel) ?_
                    refine z_iload (pc := 178) 8 dX7_dearest_178 rfl ?_
                    refine z_goto (pc := 180) (tgt := 187) dX7_dearest_180 (by decide) ?_
                    refine z_puti (x := (0, 0)) (pc := 187) flX7_198 jnX7 tyX7 tyX7_ok nmX7 ltM_0 kdM_0 rfl (by decide) rfl foM_0_15 rfl ⟨rfl, rfl⟩ dX7_dearest_187 ?_
                    refine z_aload_n (pc := 190) 0 dX7_dearest_190 rfl rfl ?_
                    refine z_iload (pc := 191) 10 dX7_dearest_191 rfl ?_
                    refine z_if_eq_x (pc := 193) (tgt := 201) dX7_dearest_193 (by decide) (by decide +kernel) ?_
                    refine z_iload (pc := 196) 9 dX7_dearest_196 rfl ?_
                    refine z_goto (pc := 198) (tgt := 205) dX7_dearest_198 (by decide) ?_
                    refine z_puti (x := (0, 0)) (pc := 205) flX7_201 jnX7 tyX7 tyX7_ok nmX7 ltM_0 kdM_0 rfl (by decide) rfl foM_0_16 rfl ⟨rfl, rfl⟩ dX7_dearest_205 ?_
                    refine z_iinc (pc := 208) (v := y5 + 1) (lv2 := [(0, .ref (g.2.2.1 0)), (1, .int c1), (2, .int c2), (3, .int c3), (4, .int y5), (5, .int (y5 + 1)), (6, .int r5), (7, .int (((4 : Int32) * r5) + (μ6.1 1 (((9 : Int32) + y5).toNatClampNeg)))), (8, .int ((μ6.1 8 ((((4 : Int32) * r5) + (μ6.1 1 (((9 : Int32) + y5).toNatClampNeg))).toNatClampNeg)) + r9)), (9, .int ((μ10.1 9 ((((4 : Int32) * r5) + (μ6.1 1 (((9 : Int32) + y5).toNatClampNeg))).toNatClampNeg)) + (1 : Int32))), (10, .int (1 : Int32))]) 5 [1, 2, 3, 4, 5, 0, 6, 7, 8, 9, 10] dX7_dearest_208 rfl (by rw [oi_1]) (by decide) rfl ?_
                    refine z_goto (pc := 211) (tgt := 16) dX7_dearest_211 (by decide) ?_
                    refine z_sub (lv2 := [(0, .ref (g.2.2.1 0)), (1, .int c1), (2, .int c2), (3, .int c3), (4, .int y5), (5, .int (y5 + 1))]) [0, 1, 2, 3, 4, 5] rfl ?_
                    exact ih _ _ _ _ hk
def f_X7_dearest (a1 : Int32) (a2 : Int32) (a3 : Int32) (μ : Mm) : Option (Int32 × Mm) := lp_X7_dearest_16 a1 a2 a3 FU (-1 : Int32) (0 : Int32) (si (si μ 0 15 (0 : Int32)) 0 16 (0 : Int32)) (fun x15 μ16 => some (x15, μ16))
theorem m_X7_dearest (g : Gx) (μ : Mm) (a1 : Int32) (a2 : Int32) (a3 : Int32) : Zm g ΛM enI yX7_dearest cX7_dearest 11 (some .int) rX7_dearest [.ref (g.2.2.1 0), .int a1, .int a2, .int a3] μ (f_X7_dearest a1 a2 a3 μ) := by
  refine z_met (by decide +kernel) (Nat.le_of_ble_eq_true rfl) ?_
  change Zw g ΛM enI RX7 cX7_dearest 11 (some .int) rX7_dearest 0 [(0, .ref (g.2.2.1 0)), (1, .int a1), (2, .int a2), (3, .int a3)] [] μ (f_X7_dearest a1 a2 a3 μ)
  rw [f_X7_dearest]
  refine z_iconst (pc := 0) (v := -1) dX7_dearest_0 rfl ?_
  refine z_istore (pc := 1) (lv2 := [(0, .ref (g.2.2.1 0)), (1, .int a1), (2, .int a2), (3, .int a3), (4, .int (-1 : Int32))]) [1, 2, 3, 4, 0] dX7_dearest_1 (by decide) rfl ?_
  refine z_aload_n (pc := 3) 0 dX7_dearest_3 rfl rfl ?_
  refine z_iconst (pc := 4) (v := 0) dX7_dearest_4 rfl ?_
  refine z_puti (x := (0, 0)) (pc := 5) flX7_198 jnX7 tyX7 tyX7_ok nmX7 ltM_0 kdM_0 rfl (by decide) rfl foM_0_15 rfl ⟨rfl, rfl⟩ dX7_dearest_5 ?_
  refine z_aload_n (pc := 8) 0 dX7_dearest_8 rfl rfl ?_
  refine z_iconst (pc := 9) (v := 0) dX7_dearest_9 rfl ?_
  refine z_puti (x := (0, 0)) (pc := 10) flX7_201 jnX7 tyX7 tyX7_ok nmX7 ltM_0 kdM_0 rfl (by decide) rfl foM_0_16 rfl ⟨rfl, rfl⟩ dX7_dearest_10 ?_
  refine z_iconst (pc := 13) (v := 0) dX7_dearest_13 rfl ?_
  refine z_istore (pc := 14) (lv2 := [(0, .ref (g.2.2.1 0)), (1, .int a1), (2, .int a2), (3, .int a3), (4, .int (-1 : Int32)), (5, .int (0 : Int32))]) [1, 2, 3, 4, 5, 0] dX7_dearest_14 (by decide) rfl ?_
  refine w_X7_dearest_16 g a1 a2 a3 FU (-1 : Int32) (0 : Int32) (si (si μ 0 15 (0 : Int32)) 0 16 (0 : Int32)) _ (fun x15 μ16 => ?_)
  refine z_iload (pc := 214) 0 dX7_dearest_214 rfl ?_
  exact z_iret dX7_dearest_216
def lp_X7_laysBest_19 (c1 : Int32) (c2 : Int32) (c3 : Int32) : Nat → Int32 → Mm → (Mm → Option (Unit × Mm)) → Option (Unit × Mm)
  | 0, _, _, _ => none
  | n + 1, y4, μ, k => if (4 : Int32) ≤ y4 then (k  μ) else (if c3 = c2 then (if zin (((4 : Int32) * c3) + y4) 164 then (if c3 = c2 then (bd (f_X7_has (μ.1 1 4) y4 (si μ 10 ((((4 : Int32) * c3) + y4).toNatClampNeg) (-1 : Int32))) fun r30 μ31 => if c3 = c2 then (if zin (((4 : Int32) * c3) + y4) 164 then (if r30 = 0 then (if zin (((4 : Int32) * c3) + y4) 164 then (lp_X7_laysBest_19 c1 c2 c3 n (y4 + 1) (si (si μ31 8 ((((4 : Int32) * c3) + y4).toNatClampNeg) (0 : Int32)) 9 ((((4 : Int32) * c3) + y4).toNatClampNeg) (-1 : Int32)) k) else none) else (if c3 = c2 then (if zin (((4 : Int32) * c3) + y4) 164 then (lp_X7_laysBest_19 c1 c2 c3 n (y4 + 1) (si (si μ31 8 ((((4 : Int32) * c3) + y4).toNatClampNeg) (0 : Int32)) 9 ((((4 : Int32) * c3) + y4).toNatClampNeg) (0 : Int32)) k) else none) else (if zin (((4 : Int32) * c3) + y4) 164 then (lp_X7_laysBest_19 c1 c2 c3 n (y4 + 1) (si (si μ31 8 ((((4 : Int32) * c3) + y4).toNatClampNeg) (0 : Int32)) 9 ((((4 : Int32) * c3) + y4).toNatClampNeg) (μ31.1 0 16)) k) else none))) else none) else (if r30 = 0 then (if zin (((4 : Int32) * c3) + y4) 164 then (if r30 = 0 then (if zin (((4 : Int32) * c3) + y4) 164 then (lp_X7_laysBest_19 c1 c2 c3 n (y4 + 1) (si (si μ31 8 ((((4 : Int32) * c3) + y4).toNatClampNeg) (0 : Int32)) 9 ((((4 : Int32) * c3) + y4).toNatClampNeg) (-1 : Int32)) k) else none) else (if c3 = c2 then (if zin (((4 : Int32) * c3) + y4) 164 then (lp_X7_laysBest_19 c1 c2 c3 n (y4 + 1) (si (si μ31 8 ((((4 : Int32) * c3) + y4).toNatClampNeg) (0 : Int32)) 9 ((((4 : Int32) * c3) + y4).toNatClampNeg) (0 : Int32)) k) else none) else (if zin (((4 : Int32) * c3) + y4) 164 then (lp_X7_laysBest_19 c1 c2 c3 n (y4 + 1) (si (si μ31 8 ((((4 : Int32) * c3) + y4).toNatClampNeg) (0 : Int32)) 9 ((((4 : Int32) * c3) + y4).toNatClampNeg) (μ31.1 0 16)) k) else none))) else none) else (if zin (((4 : Int32) * c3) + y4) 164 then (if r30 = 0 then (if zin (((4 : Int32) * c3) + y4) 164 then (lp_X7_laysBest_19 c1 c2 c3 n (y4 + 1) (si (si μ31 8 ((((4 : Int32) * c3) + y4).toNatClampNeg) (μ31.1 0 15)) 9 ((((4 : Int32) * c3) + y4).toNatClampNeg) (-1 : Int32)) k) else none) else (if c3 = c2 then (if zin (((4 : Int32) * c3) + y4) 164 then (lp_X7_laysBest_19 c1 c2 c3 n (y4 + 1) (si (si μ31 8 ((((4 : Int32) * c3) + y4).toNatClampNeg) (μ31.1 0 15)) 9 ((((4 : Int32) * c3) + y4).toNatClampNeg) (0 : Int32)) k) else none) else (if zin (((4 : Int32) * c3) + y4) 164 then (lp_X7_laysBest_19 c1 c2 c3 n (y4 + 1) (si (si μ31 8 ((((4 : Int32) * c3) + y4).toNatClampNeg) (μ31.1 0 15)) 9 ((((4 : Int32) * c3) + y4).toNatClampNeg) (μ31.1 0 16)) k) else none))) else none))) else (if zin (((4 : Int32) * c3) + y4) 164 then (if ((si μ 10 ((((4 : Int32) * c3) + y4).toNatClampNeg) (-1 : Int32)).1 10 ((((4 : Int32) * c3) + y4).toNatClampNeg)) = (-1 : Int32) then (if c3 = c2 then (if zin (((4 : Int32) * c3) + y4) 164 then (if zin (((4 : Int32) * c3) + y4) 164 then (lp_X7_laysBest_19 c1 c2 c3 n (y4 + 1) (si (si (si μ 10 ((((4 : Int32) * c3) + y4).toNatClampNeg) (-1 : Int32)) 8 ((((4 : Int32) * c3) + y4).toNatClampNeg) (0 : Int32)) 9 ((((4 : Int32) * c3) + y4).toNatClampNeg) (-1 : Int32)) k) else none) else none) else (if zin (((4 : Int32) * c3) + y4) 164 then (if zin (((4 : Int32) * c3) + y4) 164 then (lp_X7_laysBest_19 c1 c2 c3 n (y4 + 1) (si (si (si μ 10 ((((4 : Int32) * c3) + y4).toNatClampNeg) (-1 : Int32)) 8 ((((4 : Int32) * c3) + y4).toNatClampNeg) (0 : Int32)) 9 ((((4 : Int32) * c3) + y4).toNatClampNeg) (-1 : Int32)) k) else none) else none)) else (if c3 = c2 then (if zin (((4 : Int32) * c3) + y4) 164 then (if c3 = c2 then (if zin (((4 : Int32) * c3) + y4) 164 then (lp_X7_laysBest_19 c1 c2 c3 n (y4 + 1) (si (si (si μ 10 ((((4 : Int32) * c3) + y4).toNatClampNeg) (-1 : Int32)) 8 ((((4 : Int32) * c3) + y4).toNatClampNeg) (0 : Int32)) 9 ((((4 : Int32) * c3) + y4).toNatClampNeg) (0 : Int32)) k) else none) else (if zin (((4 : Int32) * c3) + y4) 164 then (lp_X7_laysBest_19 c1 c2 c3 n (y4 + 1) (si (si (si μ 10 ((((4 : Int32) * c3) + y4).toNatClampNeg) (-1 : Int32)) 8 ((((4 : Int32) * c3) + y4).toNatClampNeg) (0 : Int32)) 9 ((((4 : Int32) * c3) + y4).toNatClampNeg) (μ.1 0 16)) k) else none)) else none) else (if zin (((4 : Int32) * c3) + y4) 164 then (if c3 = c2 then (if zin (((4 : Int32) * c3) + y4) 164 then (lp_X7_laysBest_19 c1 c2 c3 n (y4 + 1) (si (si (si μ 10 ((((4 : Int32) * c3) + y4).toNatClampNeg) (-1 : Int32)) 8 ((((4 : Int32) * c3) + y4).toNatClampNeg) (μ.1 0 15)) 9 ((((4 : Int32) * c3) + y4).toNatClampNeg) (0 : Int32)) k) else none) else (if zin (((4 : Int32) * c3) + y4) 164 then (lp_X7_laysBest_19 c1 c2 c3 n (y4 + 1) (si (si (si μ 10 ((((4 : Int32) * c3) + y4).toNatClampNeg) (-1 : Int32)) 8 ((((4 : Int32) * c3) + y4).toNatClampNeg) (μ.1 0 15)) 9 ((((4 : Int32) * c3) + y4).toNatClampNeg) (μ.1 0 16)) k) else none)) else none))) else none)) else none) else (if zin ((5 : Int32) + y4) 148 then (bd (f_X7_dearest c3 (μ.1 1 (((5 : Int32) + y4).toNatClampNeg)) c1 μ) fun r6 μ7 => if zin (((4 : Int32) * c3) + y4) 164 then (if c3 = c2 then (bd (f_X7_has (μ7.1 1 4) y4 (si μ7 10 ((((4 : Int32) * c3) + y4).toNatClampNeg) r6)) fun r14 μ15 => if c3 = c2 then (if zin (((4 : Int32) * c3) + y4) 164 then (if r14 = 0 then (if zin (((4 : Int32) * c3) + y4) 164 then (lp_X7_laysBest_19 c1 c2 c3 n (y4 + 1) (si (si μ15 8 ((((4 : Int32) * c3) + y4).toNatClampNeg) (0 : Int32)) 9 ((((4 : Int32) * c3) + y4).toNatClampNeg) (-1 : Int32)) k) else none) else (if c3 = c2 then (if zin (((4 : Int32) * c3) + y4) 164 then (lp_X7_laysBest_19 c1 c2 c3 n (y4 + 1) (si (si μ15 8 ((((4 : Int32) * c3) + y4).toNatClampNeg) (0 : Int32)) 9 ((((4 : Int32) * c3) + y4).toNatClampNeg) (0 : Int32)) k) else none) else (if zin (((4 : Int32) * c3) + y4) 164 then (lp_X7_laysBest_19 c1 c2 c3 n (y4 + 1) (si (si μ15 8 ((((4 : Int32) * c3) + y4).toNatClampNeg) (0 : Int32)) 9 ((((4 : Int32) * c3) + y4).toNatClampNeg) (μ15.1 0 16)) k) else none))) else none) else (if r14 = 0 then (if zin (((4 : Int32) * c3) + y4) 164 then (if r14 = 0 then (if zin (((4 : Int32) * c3) + y4) 164 then (lp_X7_laysBest_19 c1 c2 c3 n (y4 + 1) (si (si μ15 8 ((((4 : Int32) * c3) + y4).toNatClampNeg) (0 : Int32)) 9 ((((4 : Int32) * c3) + y4).toNatClampNeg) (-1 : Int32)) k) else none) else (if c3 = c2 then (if zin (((4 : Int32) * c3) + y4) 164 then (lp_X7_laysBest_19 c1 c2 c3 n (y4 + 1) (si (si μ15 8 ((((4 : Int32) * c3) + y4).toNatClampNeg) (0 : Int32)) 9 ((((4 : Int32) * c3) + y4).toNatClampNeg) (0 : Int32)) k) else none) else (if zin (((4 : Int32) * c3) + y4) 164 then (lp_X7_laysBest_19 c1 c2 c3 n (y4 + 1) (si (si μ15 8 ((((4 : Int32) * c3) + y4).toNatClampNeg) (0 : Int32)) 9 ((((4 : Int32) * c3) + y4).toNatClampNeg) (μ15.1 0 16)) k) else none))) else none) else (if zin (((4 : Int32) * c3) + y4) 164 then (if r14 = 0 then (if zin (((4 : Int32) * c3) + y4) 164 then (lp_X7_laysBest_19 c1 c2 c3 n (y4 + 1) (si (si μ15 8 ((((4 : Int32) * c3) + y4).toNatClampNeg) (μ15.1 0 15)) 9 ((((4 : Int32) * c3) + y4).toNatClampNeg) (-1 : Int32)) k) else none) else (if c3 = c2 then (if zin (((4 : Int32) * c3) + y4) 164 then (lp_X7_laysBest_19 c1 c2 c3 n (y4 + 1) (si (si μ15 8 ((((4 : Int32) * c3) + y4).toNatClampNeg) (μ15.1 0 15)) 9 ((((4 : Int32) * c3) + y4).toNatClampNeg) (0 : Int32)) k) else none) else (if zin (((4 : Int32) * c3) + y4) 164 then (lp_X7_laysBest_19 c1 c2 c3 n (y4 + 1) (si (si μ15 8 ((((4 : Int32) * c3) + y4).toNatClampNeg) (μ15.1 0 15)) 9 ((((4 : Int32) * c3) + y4).toNatClampNeg) (μ15.1 0 16)) k) else none))) else none))) else (if zin (((4 : Int32) * c3) + y4) 164 then (if ((si μ7 10 ((((4 : Int32) * c3) + y4).toNatClampNeg) r6).1 10 ((((4 : Int32) * c3) + y4).toNatClampNeg)) = (-1 : Int32) then (if c3 = c2 then (if zin (((4 : Int32) * c3) + y4) 164 then (if zin (((4 : Int32) * c3) + y4) 164 then (lp_X7_laysBest_19 c1 c2 c3 n (y4 + 1) (si (si (si μ7 10 ((((4 : Int32) * c3) + y4).toNatClampNeg) r6) 8 ((((4 : Int32) * c3) + y4).toNatClampNeg) (0 : Int32)) 9 ((((4 : Int32) * c3) + y4).toNatClampNeg) (-1 : Int32)) k) else none) else none) else (if zin (((4 : Int32) * c3) + y4) 164 then (if zin (((4 : Int32) * c3) + y4) 164 then (lp_X7_laysBest_19 c1 c2 c3 n (y4 + 1) (si (si (si μ7 10 ((((4 : Int32) * c3) + y4).toNatClampNeg) r6) 8 ((((4 : Int32) * c3) + y4).toNatClampNeg) (0 : Int32)) 9 ((((4 : Int32) * c3) + y4).toNatClampNeg) (-1 : Int32)) k) else none) else none)) else (if c3 = c2 then (if zin (((4 : Int32) * c3) + y4) 164 then (if c3 = c2 then (if zin (((4 : Int32) * c3) + y4) 164 then (lp_X7_laysBest_19 c1 c2 c3 n (y4 + 1) (si (si (si μ7 10 ((((4 : Int32) * c3) + y4).toNatClampNeg) r6) 8 ((((4 : Int32) * c3) + y4).toNatClampNeg) (0 : Int32)) 9 ((((4 : Int32) * c3) + y4).toNatClampNeg) (0 : Int32)) k) else none) else (if zin (((4 : Int32) * c3) + y4) 164 then (lp_X7_laysBest_19 c1 c2 c3 n (y4 + 1) (si (si (si μ7 10 ((((4 : Int32) * c3) + y4).toNatClampNeg) r6) 8 ((((4 : Int32) * c3) + y4).toNatClampNeg) (0 : Int32)) 9 ((((4 : Int32) * c3) + y4).toNatClampNeg) (μ7.1 0 16)) k) else none)) else none) else (if zin (((4 : Int32) * c3) + y4) 164 then (if c3 = c2 then (if zin (((4 : Int32) * c3) + y4) 164 then (lp_X7_laysBest_19 c1 c2 c3 n (y4 + 1) (si (si (si μ7 10 ((((4 : Int32) * c3) + y4).toNatClampNeg) r6) 8 ((((4 : Int32) * c3) + y4).toNatClampNeg) (μ7.1 0 15)) 9 ((((4 : Int32) * c3) + y4).toNatClampNeg) (0 : Int32)) k) else none) else (if zin (((4 : Int32) * c3) + y4) 164 then (lp_X7_laysBest_19 c1 c2 c3 n (y4 + 1) (si (si (si μ7 10 ((((4 : Int32) * c3) + y4).toNatClampNeg) r6) 8 ((((4 : Int32) * c3) + y4).toNatClampNeg) (μ7.1 0 15)) 9 ((((4 : Int32) * c3) + y4).toNatClampNeg) (μ7.1 0 16)) k) else none)) else none))) else none)) else none) else none))
theorem w_X7_laysBest_19 (g : Gx) (c1 : Int32) (c2 : Int32) (c3 : Int32) : ∀ (n : Nat) (y4 : Int32) (μ : Mm) (k : Mm → Option (Unit × Mm)), (∀ (ν : Mm), Zw g ΛM enV RX7 cX7_laysBest 7 none rX7_laysBest 161 [(0, .ref (g.2.2.1 0)), (1, .int c1), (2, .int c2), (3, .int c3)] [] ν (k  ν)) → Zw g ΛM enV RX7 cX7_laysBest 7 none rX7_laysBest 19 [(0, .ref (g.2.2.1 0)), (1, .int c1), (2, .int c2), (3, .int c3), (4, .int y4)] [] μ (lp_X7_laysBest_19 c1 c2 c3 n y4 μ k) := by
  intro n
  induction n with
  | zero =>
    intro y4 μ k hk
    exact z_none
  | succ n ih =>
    intro y4 μ k hk
    rw [lp_X7_laysBest_19]
    refine z_iload (pc := 19) 4 dX7_laysBest_19 rfl ?_
    refine z_iconst (pc := 21) (v := 4) dX7_laysBest_21 rfl ?_
    refine z_icmp_ge (pc := 22) (tgt := 161) dX7_laysBest_22 (by decide) (fun h4 => ?_) (fun h4 => ?_)
    · refine z_sub (lv2 := [(0, .ref (g.2.2.1 0)), (1, .int c1), (2, .int c2), (3, .int c3)]) [0, 1, 2, 3] rfl ?_
      exact hk _
    · refine z_iconst (pc := 25) (v := 4) dX7_laysBest_25 rfl ?_
      refine z_iload_n (pc := 26) 3 dX7_laysBest_26 rfl rfl ?_
      refine z_imul (pc := 27) dX7_laysBest_27 ?_
      refine z_iload (pc := 28) 4 dX7_laysBest_28 rfl ?_
      refine z_iadd (pc := 30) dX7_laysBest_30 ?_
      refine z_istore (pc := 31) (lv2 := [(0, .ref (g.2.2.1 0)), (1, .int c1), (2, .int c2), (3, .int c3), (4, .int y4), (5, .int (((4 : Int32) * c3) + y4))]) [1, 2, 3, 4, 5, 0] dX7_laysBest_31 (by decide) rfl ?_
      refine z_aload_n (pc := 33) 0 dX7_laysBest_33 rfl rfl ?_
      refine z_get (pc := 34) (v := .ref (g.2.2.1 10)) flX7_38 jnX7 ltM_0 kdM_0 rfl (by decide) rfl foM_0_14 rfl dX7_laysBest_34 ?_
      refine z_iload (pc := 37) 5 dX7_laysBest_37 rfl ?_
      refine z_iload_n (pc := 39) 3 dX7_laysBest_39 rfl rfl ?_
      refine z_iload_n (pc := 40) 2 dX7_laysBest_40 rfl rfl ?_
      refine z_icmp_ne (pc := 41) (tgt := 48) dX7_laysBest_41 (by decide) (fun h5 => ?_) (fun h5 => ?_)
      · refine z_aload_n (pc := 48) 0 dX7_laysBest_48 rfl rfl ?_
        refine z_iload_n (pc := 49) 3 dX7_laysBest_49 rfl rfl ?_
        refine z_aload_n (pc := 50) 0 dX7_laysBest_50 rfl rfl ?_
        refine z_get (pc := 51) (v := .ref (g.2.2.1 1)) flX7_7 jnX7 ltM_0 kdM_0 rfl (by decide) rfl foM_0_0 rfl dX7_laysBest_51 ?_
        refine z_iconst (pc := 54) (v := 5) dX7_laysBest_54 rfl ?_
        refine z_iload (pc := 55) 4 dX7_laysBest_55 rfl ?_
        refine z_iadd (pc := 57) dX7_laysBest_57 ?_
        refine z_iaload_g (pc := 58) ltM_1 kdM_1 dX7_laysBest_58 ?_
        refine z_iload_n (pc := 59) 1 dX7_laysBest_59 rfl rfl ?_
        refine z_callV (pc := 60) (b := 0) (As := [.int c3, .int (μ.1 1 (((5 : Int32) + y4).toNatClampNeg)), .int c1]) (rest := [.int (((4 : Int32) * c3) + y4), .ref (g.2.2.1 10)]) kX7_204 (m_X7_dearest g μ c3 (μ.1 1 (((5 : Int32) + y4).toNatClampNeg)) c1) ltM_0 kdM_0 rfl rfl ⟨rfl, rfl⟩ ⟨Nat.le_of_ble_eq_true rfl, Nat.le_of_ble_eq_true rfl⟩ (Nat.le_of_ble_eq_true rfl) rfl rfl dX7_laysBest_60 (fun r6 μ7 => ?_)
        change Zw g ΛM enV RX7 cX7_laysBest 7 none rX7_laysBest 63 [(0, .ref (g.2.2.1 0)), (1, .int c1), (2, .int c2), (3, .int c3), (4, .int y4), (5, .int (((4 : Int32) * c3) + y4))] [.int r6, .int (((4 : Int32) * c3) + y4), .ref (g.2.2.1 10)] μ7 _
        refine z_iastore_g (pc := 63) ltM_10 kdM_10 dX7_laysBest_63 ?_
        refine z_iload_n (pc := 64) 3 dX7_laysBest_64 rfl rfl ?_
        refine z_iload_n (pc := 65) 2 dX7_laysBest_65 rfl rfl ?_
        refine z_icmp_ne (pc := 66) (tgt := 83) dX7_laysBest_66 (by decide) (fun h8 => ?_) (fun h8 => ?_)
        · refine z_aload_n (pc := 83) 0 dX7_laysBest_83 rfl rfl ?_
          refine z_get (pc := 84) (v := .ref (g.2.2.1 10)) flX7_38 jnX7 ltM_0 kdM_0 rfl (by decide) rfl foM_0_14 rfl dX7_laysBest_84 ?_
          refine z_iload (pc := 87) 5 dX7_laysBest_87 rfl ?_
          refine z_iaload_g (pc := 89) ltM_10 kdM_10 dX7_laysBest_89 ?_
          refine z_iconst (pc := 90) (v := -1) dX7_laysBest_90 rfl ?_
          refine z_icmp_eq (pc := 91) (tgt := 98) dX7_laysBest_91 (by decide) (fun h9 => ?_) (fun h9 => ?_)
          · refine z_iconst (pc := 98) (v := 0) dX7_laysBest_98 rfl ?_
            refine z_istore (pc := 99) (lv2 := [(0, .ref (g.2.2.1 0)), (1, .int c1), (2, .int c2), (3, .int c3), (4, .int y4), (5, .int (((4 : Int32) * c3) + y4)), (6, .int (0 : Int32))]) [1, 2, 3, 4, 5, 6, 0] dX7_laysBest_99 (by decide) rfl ?_
            refine z_aload_n (pc := 101) 0 dX7_laysBest_101 rfl rfl ?_
            refine z_get (pc := 102) (v := .ref (g.2.2.1 8)) flX7_32 jnX7 ltM_0 kdM_0 rfl (by decide) rfl foM_0_12 rfl dX7_laysBest_102 ?_
            refine z_iload (pc := 105) 5 dX7_laysBest_105 rfl ?_
            refine z_iload_n (pc := 107) 3 dX7_laysBest_107 rfl rfl ?_
            refine z_iload_n (pc := 108) 2 dX7_laysBest_108 rfl rfl ?_
            refine z_icmp_eq (pc := 109) (tgt := 117) dX7_laysBest_109 (by decide) (fun h10 => ?_) (fun h10 => ?_)
            · refine z_iconst (pc := 117) (v := 0) dX7_laysBest_117 rfl ?_
              refine z_goto (pc := 118) (tgt := 125) dX7_laysBest_118 (by decide) ?_
              refine z_iastore_g (pc := 125) ltM_8 kdM_8 dX7_laysBest_125 ?_
              refine z_aload_n (pc := 126) 0 dX7_laysBest_126 rfl rfl ?_
              refine z_get (pc := 127) (v := .ref (g.2.2.1 9)) flX7_35 jnX7 ltM_0 kdM_0 rfl (by decide) rfl foM_0_13 rfl dX7_laysBest_127 ?_
              refine z_iload (pc := 130) 5 dX7_laysBest_130 rfl ?_
              refine z_iload (pc := 132) 6 dX7_laysBest_132 rfl ?_
              refine z_if_ne_x (pc := 134) (tgt := 141) dX7_laysBest_134 (by decide) (by decide +kernel) ?_
              refine z_iconst (pc := 137) (v := -1) dX7_laysBest_137 rfl ?_
              refine z_goto (pc := 138) (tgt := 154) dX7_laysBest_138 (by decide) ?_
              refine z_iastore_g (pc := 154) ltM_9 kdM_9 dX7_laysBest_154 ?_
              refine z_iinc (pc := 155) (v := y4 + 1) (lv2 := [(0, .ref (g.2.2.1 0)), (1, .int c1), (2, .int c2), (3, .int c3), (4, .int (y4 + 1)), (5, .int (((4 : Int32) * c3) + y4)), (6, .int (0 : Int32))]) 4 [1, 2, 3, 4, 0, 5, 6] dX7_laysBest_155 rfl (by rw [oi_1]) (by decide) rfl ?_
              refine z_goto (pc := 158) (tgt := 19) dX7_laysBest_158 (by decide) ?_
              refine z_sub (lv2 := [(0, .ref (g.2.2.1 0)), (1, .int c1), (2, .int c2), (3, .int c3), (4, .int (y4 + 1))]) [0, 1, 2, 3, 4] rfl ?_
              exact ih _ _ _ hk
            · refine z_iload (pc := 112) 6 dX7_laysBest_112 rfl ?_
              refine z_if_ne_x (pc := 114) (tgt := 121) dX7_laysBest_114 (by decide) (by decide +kernel) ?_
              refine z_iconst (pc := 117) (v := 0) dX7_laysBest_117 rfl ?_
              refine z_goto (pc := 118) (tgt := 125) dX7_laysBest_118 (by decide) ?_
              refine z_iastore_g (pc := 125) ltM_8 kdM_8 dX7_laysBest_125 ?_
              refine z_aload_n (pc := 126) 0 dX7_laysBest_126 rfl rfl ?_
              refine z_get (pc := 127) (v := .ref (g.2.2.1 9)) flX7_35 jnX7 ltM_0 kdM_0 rfl (by decide) rfl foM_0_13 rfl dX7_laysBest_127 ?_
              refine z_iload (pc := 130) 5 dX7_laysBest_130 rfl ?_
              refine z_iload (pc := 132) 6 dX7_laysBest_132 rfl ?_
              refine z_if_ne_x (pc := 134) (tgt := 141) dX7_laysBest_134 (by decide) (by decide +kernel) ?_
              refine z_iconst (pc := 137) (v := -1) dX7_laysBest_137 rfl ?_
              refine z_goto (pc := 138) (tgt := 154) dX7_laysBest_138 (by decide) ?_
              refine z_iastore_g (pc := 154) ltM_9 kdM_9 dX7_laysBest_154 ?_
              refine z_iinc (pc := 155) (v := y4 + 1) (lv2 := [(0, .ref (g.2.2.1 0)), (1, .int c1), (2, .int c2), (3, .int c3), (4, .int (y4 + 1)), (5, .int (((4 : Int32) * c3) + y4)), (6, .int (0 : Int32))]) 4 [1, 2, 3, 4, 0, 5, 6] dX7_laysBest_155 rfl (by rw [oi_1]) (by decide) rfl ?_
              refine z_goto (pc := 158) (tgt := 19) dX7_laysBest_158 (by decide) ?_
              refine z_sub (lv2 := [(0, .ref (g.2.2.1 0)), (1, .int c1), (2, .int c2), (3, .int c3), (4, .int (y4 + 1))]) [0, 1, 2, 3, 4] rfl ?_
              exact ih _ _ _ hk
          · refine z_iconst (pc := 94) (v := 1) dX7_laysBest_94 rfl ?_
            refine z_goto (pc := 95) (tgt := 99) dX7_laysBest_95 (by decide) ?_
            refine z_istore (pc := 99) (lv2 := [(0, .ref (g.2.2.1 0)), (1, .int c1), (2, .int c2), (3, .int c3), (4, .int y4), (5, .int (((4 : Int32) * c3) + y4)), (6, .int (1 : Int32))]) [1, 2, 3, 4, 5, 6, 0] dX7_laysBest_99 (by decide) rfl ?_
            refine z_aload_n (pc := 101) 0 dX7_laysBest_101 rfl rfl ?_
            refine z_get (pc := 102) (v := .ref (g.2.2.1 8)) flX7_32 jnX7 ltM_0 kdM_0 rfl (by decide) rfl foM_0_12 rfl dX7_laysBest_102 ?_
            refine z_iload (pc := 105) 5 dX7_laysBest_105 rfl ?_
            refine z_iload_n (pc := 107) 3 dX7_laysBest_107 rfl rfl ?_
            refine z_iload_n (pc := 108) 2 dX7_laysBest_108 rfl rfl ?_
            refine z_icmp_eq (pc := 109) (tgt := 117) dX7_laysBest_109 (by decide) (fun h11 => ?_) (fun h11 => ?_)
            · refine z_iconst (pc := 117) (v := 0) dX7_laysBest_117 rfl ?_
              refine z_goto (pc := 118) (tgt := 125) dX7_laysBest_118 (by decide) ?_
              refine z_iastore_g (pc := 125) ltM_8 kdM_8 dX7_laysBest_125 ?_
              refine z_aload_n (pc := 126) 0 dX7_laysBest_126 rfl rfl ?_
              refine z_get (pc := 127) (v := .ref (g.2.2.1 9)) flX7_35 jnX7 ltM_0 kdM_0 rfl (by decide) rfl foM_0_13 rfl dX7_laysBest_127 ?_
              refine z_iload (pc := 130) 5 dX7_laysBest_130 rfl ?_
              refine z_iload (pc := 132) 6 dX7_laysBest_132 rfl ?_
              refine z_if_ne_y (pc := 134) (tgt := 141) dX7_laysBest_134 (by decide) (by decide +kernel) ?_
              refine z_iload_n (pc := 141) 3 dX7_laysBest_141 rfl rfl ?_
              refine z_iload_n (pc := 142) 2 dX7_laysBest_142 rfl rfl ?_
              refine z_icmp_ne (pc := 143) (tgt := 150) dX7_laysBest_143 (by decide) (fun h12 => ?_) (fun h12 => ?_)
              · refine z_aload_n (pc := 150) 0 dX7_laysBest_150 rfl rfl ?_
                refine z_get (pc := 151) (v := .int (μ7.1 0 16)) flX7_201 jnX7 ltM_0 kdM_0 rfl (by decide) rfl foM_0_16 rfl dX7_laysBest_151 ?_
                refine z_iastore_g (pc := 154) ltM_9 kdM_9 dX7_laysBest_154 ?_
                refine z_iinc (pc := 155) (v := y4 + 1) (lv2 := [(0, .ref (g.2.2.1 0)), (1, .int c1), (2, .int c2), (3, .int c3), (4, .int (y4 + 1)), (5, .int (((4 : Int32) * c3) + y4)), (6, .int (1 : Int32))]) 4 [1, 2, 3, 4, 0, 5, 6] dX7_laysBest_155 rfl (by rw [oi_1]) (by decide) rfl ?_
                refine z_goto (pc := 158) (tgt := 19) dX7_laysBest_158 (by decide) ?_
                refine z_sub (lv2 := [(0, .ref (g.2.2.1 0)), (1, .int c1), (2, .int c2), (3, .int c3), (4, .int (y4 + 1))]) [0, 1, 2, 3, 4] rfl ?_
                exact ih _ _ _ hk
              · refine z_iconst (pc := 146) (v := 0) dX7_laysBest_146 rfl ?_
                refine z_goto (pc := 147) (tgt := 154) dX7_laysBest_147 (by decide) ?_
                refine z_iastore_g (pc := 154) ltM_9 kdM_9 dX7_laysBest_154 ?_
                refine z_iinc (pc := 155) (v := y4 + 1) (lv2 := [(0, .ref (g.2.2.1 0)), (1, .int c1), (2, .int c2), (3, .int c3), (4, .int (y4 + 1)), (5, .int (((4 : Int32) * c3) + y4)), (6, .int (1 : Int32))]) 4 [1, 2, 3, 4, 0, 5, 6] dX7_laysBest_155 rfl (by rw [oi_1]) (by decide) rfl ?_
                refine z_goto (pc := 158) (tgt := 19) dX7_laysBest_158 (by decide) ?_
                refine z_sub (lv2 := [(0, .ref (g.2.2.1 0)), (1, .int c1), (2, .int c2), (3, .int c3), (4, .int (y4 + 1))]) [0, 1, 2, 3, 4] rfl ?_
                exact ih _ _ _ hk
            · refine z_iload (pc := 112) 6 dX7_laysBest_112 rfl ?_
              refine z_if_ne_y (pc := 114) (tgt := 121) dX7_laysBest_114 (by decide) (by decide +kernel) ?_
              refine z_aload_n (pc := 121) 0 dX7_laysBest_121 rfl rfl ?_
              refine z_get (pc := 122) (v := .int (μ7.1 0 15)) flX7_198 jnX7 ltM_0 kdM_0 rfl (by decide) rfl foM_0_15 rfl dX7_laysBest_122 ?_
              refine z_iastore_g (pc := 125) ltM_8 kdM_8 dX7_laysBest_125 ?_
              refine z_aload_n (pc := 126) 0 dX7_laysBest_126 rfl rfl ?_
              refine z_get (pc := 127) (v := .ref (g.2.2.1 9)) flX7_35 jnX7 ltM_0 kdM_0 rfl (by decide) rfl foM_0_13 rfl dX7_laysBest_127 ?_
              refine z_iload (pc := 130) 5 dX7_laysBest_130 rfl ?_
              refine z_iload (pc := 132) 6 dX7_laysBest_132 rfl ?_
              refine z_if_ne_y (pc := 134) (tgt := 141) dX7_laysBest_134 (by decide) (by decide +kernel) ?_
              refine z_iload_n (pc := 141) 3 dX7_laysBest_141 rfl rfl ?_
              refine z_iload_n (pc := 142) 2 dX7_laysBest_142 rfl rfl ?_
              refine z_icmp_ne (pc := 143) (tgt := 150) dX7_laysBest_143 (by decide) (fun h13 => ?_) (fun h13 => ?_)
              · refine z_aload_n (pc := 150) 0 dX7_laysBest_150 rfl rfl ?_
                refine z_get (pc := 151) (v := .int (μ7.1 0 16)) flX7_201 jnX7 ltM_0 kdM_0 rfl (by decide) rfl foM_0_16 rfl dX7_laysBest_151 ?_
                refine z_iastore_g (pc := 154) ltM_9 kdM_9 dX7_laysBest_154 ?_
                refine z_iinc (pc := 155) (v := y4 + 1) (lv2 := [(0, .ref (g.2.2.1 0)), (1, .int c1), (2, .int c2), (3, .int c3), (4, .int (y4 + 1)), (5, .int (((4 : Int32) * c3) + y4)), (6, .int (1 : Int32))]) 4 [1, 2, 3, 4, 0, 5, 6] dX7_laysBest_155 rfl (by rw [oi_1]) (by decide) rfl ?_
                refine z_goto (pc := 158) (tgt := 19) dX7_laysBest_158 (by decide) ?_
                refine z_sub (lv2 := [(0, .ref (g.2.2.1 0)), (1, .int c1), (2, .int c2), (3, .int c3), (4, .int (y4 + 1))]) [0, 1, 2, 3, 4] rfl ?_
                exact ih _ _ _ hk
              · refine z_iconst (pc := 146) (v := 0) dX7_laysBest_146 rfl ?_
                refine z_goto (pc := 147) (tgt := 154) dX7_laysBest_147 (by decide) ?_
                refine z_iastore_g (pc := 154) ltM_9 kdM_9 dX7_laysBest_154 ?_
                refine z_iinc (pc := 155) (v := y4 + 1) (lv2 := [(0, .ref (g.2.2.1 0)), (1, .int c1), (2, .int c2), (3, .int c3), (4, .int (y4 + 1)), (5, .int (((4 : Int32) * c3) + y4)), (6, .int (1 : Int32))]) 4 [1, 2, 3, 4, 0, 5, 6] dX7_laysBest_155 rfl (by rw [oi_1]) (by decide) rfl ?_
                refine z_goto (pc := 158) (tgt := 19) dX7_laysBest_158 (by decide) ?_
                refine z_sub (lv2 := [(0, .ref (g.2.2.1 0)), (1, .int c1), (2, .int c2), (3, .int c3), (4, .int (y4 + 1))]) [0, 1, 2, 3, 4] rfl ?_
                exact ih _ _ _ hk
        · refine z_aload_n (pc := 69) 0 dX7_laysBest_69 rfl rfl ?_
          refine z_get (pc := 70) (v := .ref (g.2.2.1 1)) flX7_7 jnX7 ltM_0 kdM_0 rfl (by decide) rfl foM_0_0 rfl dX7_laysBest_70 ?_
          refine z_iconst (pc := 73) (v := 4) dX7_laysBest_73 rfl ?_
          refine z_iaload (pc := 74) (j := 4) ltM_1 kdM_1 (by decide +kernel) (by decide +kernel) dX7_laysBest_74 ?_
          show Zw g ΛM enV RX7 cX7_laysBest 7 none rX7_laysBest 75 [(0, .ref (g.2.2.1 0)), (1, .int c1), (2, .int c2), (3, .int c3), (4, .int y4), (5, .int (((4 : Int32) * c3) + y4))] [.int (μ7.1 1 4)] (si μ7 10 ((((4 : Int32) * c3) + y4).toNatClampNeg) r6) _
          refine z_iload (pc := 75) 4 dX7_laysBest_75 rfl ?_
          refine z_callS (pc := 77) (As := [.int (μ7.1 1 4), .int y4]) (rest := []) kX7_140 (m_X7_has g (si μ7 10 ((((4 : Int32) * c3) + y4).toNatClampNeg) r6) (μ7.1 1 4) y4) ⟨rfl, rfl⟩ ⟨Nat.le_of_ble_eq_true rfl, Nat.le_of_ble_eq_true rfl⟩ (Nat.le_of_ble_eq_true rfl) rfl rfl dX7_laysBest_77 (fun r14 μ15 => ?_)
          change Zw g ΛM enV RX7 cX7_laysBest 7 none rX7_laysBest 80 [(0, .ref (g.2.2.1 0)), (1, .int c1), (2, .int c2), (3, .int c3), (4, .int y4), (5, .int (((4 : Int32) * c3) + y4))] [.int r14] μ15 _
          refine z_goto (pc := 80) (tgt := 99) dX7_laysBest_80 (by decide) ?_
          refine z_istore (pc := 99) (lv2 := [(0, .ref (g.2.2.1 0)), (1, .int c1), (2, .int c2), (3, .int c3), (4, .int y4), (5, .int (((4 : Int32) * c3) + y4)), (6, .int r14)]) [1, 2, 3, 4, 5, 6, 0] dX7_laysBest_99 (by decide) rfl ?_
          refine z_aload_n (pc := 101) 0 dX7_laysBest_101 rfl rfl ?_
          refine z_get (pc := 102) (v := .ref (g.2.2.1 8)) flX7_32 jnX7 ltM_0 kdM_0 rfl (by decide) rfl foM_0_12 rfl dX7_laysBest_102 ?_
          refine z_iload (pc := 105) 5 dX7_laysBest_105 rfl ?_
          refine z_iload_n (pc := 107) 3 dX7_laysBest_107 rfl rfl ?_
          refine z_iload_n (pc := 108) 2 dX7_laysBest_108 rfl rfl ?_
          refine z_icmp_eq (pc := 109) (tgt := 117) dX7_laysBest_109 (by decide) (fun h16 => ?_) (fun h16 => ?_)
          · refine z_iconst (pc := 117) (v := 0) dX7_laysBest_117 rfl ?_
            refine z_goto (pc := 118) (tgt := 125) dX7_laysBest_118 (by decide) ?_
            refine z_iastore_g (pc := 125) ltM_8 kdM_8 dX7_laysBest_125 ?_
            refine z_aload_n (pc := 126) 0 dX7_laysBest_126 rfl rfl ?_
            refine z_get (pc := 127) (v := .ref (g.2.2.1 9)) flX7_35 jnX7 ltM_0 kdM_0 rfl (by decide) rfl foM_0_13 rfl dX7_laysBest_127 ?_
            refine z_iload (pc := 130) 5 dX7_laysBest_130 rfl ?_
            refine z_iload (pc := 132) 6 dX7_laysBest_132 rfl ?_
            refine z_if_ne (pc := 134) (tgt := 141) dX7_laysBest_134 (by decide) (fun h17 => ?_) (fun h17 => ?_)
            · refine z_iload_n (pc := 141) 3 dX7_laysBest_141 rfl rfl ?_
              refine z_iload_n (pc := 142) 2 dX7_laysBest_142 rfl rfl ?_
              refine z_icmp_ne (pc := 143) (tgt := 150) dX7_laysBest_143 (by decide) (fun h18 => ?_) (fun h18 => ?_)
              · refine z_aload_n (pc := 150) 0 dX7_laysBest_150 rfl rfl ?_
                refine z_get (pc := 151) (v := .int (μ15.1 0 16)) flX7_201 jnX7 ltM_0 kdM_0 rfl (by decide) rfl foM_0_16 rfl dX7_laysBest_151 ?_
                refine z_iastore_g (pc := 154) ltM_9 kdM_9 dX7_laysBest_154 ?_
                refine z_iinc (pc := 155) (v := y4 + 1) (lv2 := [(0, .ref (g.2.2.1 0)), (1, .int c1), (2, .int c2), (3, .int c3), (4, .int (y4 + 1)), (5, .int (((4 : Int32) * c3) + y4)), (6, .int r14)]) 4 [1, 2, 3, 4, 0, 5, 6] dX7_laysBest_155 rfl (by rw [oi_1]) (by decide) rfl ?_
                refine z_goto (pc := 158) (tgt := 19) dX7_laysBest_158 (by decide) ?_
                refine z_sub (lv2 := [(0, .ref (g.2.2.1 0)), (1, .int c1), (2, .int c2), (3, .int c3), (4, .int (y4 + 1))]) [0, 1, 2, 3, 4] rfl ?_
                exact ih _ _ _ hk
              · refine z_iconst (pc := 146) (v := 0) dX7_laysBest_146 rfl ?_
                refine z_goto (pc := 147) (tgt := 154) dX7_laysBest_147 (by decide) ?_
                refine z_iastore_g (pc := 154) ltM_9 kdM_9 dX7_laysBest_154 ?_
                refine z_iinc (pc := 155) (v := y4 + 1) (lv2 := [(0, .ref (g.2.2.1 0)), (1, .int c1), (2, .int c2), (3, .int c3), (4, .int (y4 + 1)), (5, .int (((4 : Int32) * c3) + y4)), (6, .int r14)]) 4 [1, 2, 3, 4, 0, 5, 6] dX7_laysBest_155 rfl (by rw [oi_1]) (by decide) rfl ?_
                refine z_goto (pc := 158) (tgt := 19) dX7_laysBest_158 (by decide) ?_
                refine z_sub (lv2 := [(0, .ref (g.2.2.1 0)), (1, .int c1), (2, .int c2), (3, .int c3), (4, .int (y4 + 1))]) [0, 1, 2, 3, 4] rfl ?_
                exact ih _ _ _ hk
            · refine z_iconst (pc := 137) (v := -1) dX7_laysBest_137 rfl ?_
              refine z_goto (pc := 138) (tgt := 154) dX7_laysBest_138 (by decide) ?_
              refine z_iastore_g (pc := 154) ltM_9 kdM_9 dX7_laysBest_154 ?_
              refine z_iinc (pc := 155) (v := y4 + 1) (lv2 := [(0, .ref (g.2.2.1 0)), (1, .int c1), (2, .int c2), (3, .int c3), (4, .int (y4 + 1)), (5, .int (((4 : Int32) * c3) + y4)), (6, .int r14)]) 4 [1, 2, 3, 4, 0, 5, 6] dX7_laysBest_155 rfl (by rw [oi_1]) (by decide) rfl ?_
              refine z_goto (pc := 158) (tgt := 19) dX7_laysBest_158 (by decide) ?_
              refine z_sub (lv2 := [(0, .ref (g.2.2.1 0)), (1, .int c1), (2, .int c2), (3, .int c3), (4, .int (y4 + 1))]) [0, 1, 2, 3, 4] rfl ?_
              exact ih _ _ _ hk
          · refine z_iload (pc := 112) 6 dX7_laysBest_112 rfl ?_
            refine z_if_ne (pc := 114) (tgt := 121) dX7_laysBest_114 (by decide) (fun h19 => ?_) (fun h19 => ?_)
            · refine z_aload_n (pc := 121) 0 dX7_laysBest_121 rfl rfl ?_
              refine z_get (pc := 122) (v := .int (μ15.1 0 15)) flX7_198 jnX7 ltM_0 kdM_0 rfl (by decide) rfl foM_0_15 rfl dX7_laysBest_122 ?_
              refine z_iastore_g (pc := 125) ltM_8 kdM_8 dX7_laysBest_125 ?_
              refine z_aload_n (pc := 126) 0 dX7_laysBest_126 rfl rfl ?_
              refine z_get (pc := 127) (v := .ref (g.2.2.1 9)) flX7_35 jnX7 ltM_0 kdM_0 rfl (by decide) rfl foM_0_13 rfl dX7_laysBest_127 ?_
              refine z_iload (pc := 130) 5 dX7_laysBest_130 rfl ?_
              refine z_iload (pc := 132) 6 dX7_laysBest_132 rfl ?_
              refine z_if_ne (pc := 134) (tgt := 141) dX7_laysBest_134 (by decide) (fun h20 => ?_) (fun h20 => ?_)
              · refine z_iload_n (pc := 141) 3 dX7_laysBest_141 rfl rfl ?_
                refine z_iload_n (pc := 142) 2 dX7_laysBest_142 rfl rfl ?_
                refine z_icmp_ne (pc := 143) (tgt := 150) dX7_laysBest_143 (by decide) (fun h21 => ?_) (fun h21 => ?_)
                · refine z_aload_n (pc := 150) 0 dX7_laysBest_150 rfl rfl ?_
                  refine z_get (pc := 151) (v := .int (μ15.1 0 16)) flX7_201 jnX7 ltM_0 kdM_0 rfl (by decide) rfl foM_0_16 rfl dX7_laysBest_151 ?_
                  refine z_iastore_g (pc := 154) ltM_9 kdM_9 dX7_laysBest_154 ?_
                  refine z_iinc (pc := 155) (v := y4 + 1) (lv2 := [(0, .ref (g.2.2.1 0)), (1, .int c1), (2, .int c2), (3, .int c3), (4, .int (y4 + 1)), (5, .int (((4 : Int32) * c3) + y4)), (6, .int r14)]) 4 [1, 2, 3, 4, 0, 5, 6] dX7_laysBest_155 rfl (by rw [oi_1]) (by decide) rfl ?_
                  refine z_goto (pc := 158) (tgt := 19) dX7_laysBest_158 (by decide) ?_
                  refine z_sub (lv2 := [(0, .ref (g.2.2.1 0)), (1, .int c1), (2, .int c2), (3, .int c3), (4, .int (y4 + 1))]) [0, 1, 2, 3, 4] rfl ?_
                  exact ih _ _ _ hk
                · refine z_iconst (pc := 146) (v := 0) dX7_laysBest_146 rfl ?_
                  refine z_goto (pc := 147) (tgt := 154) dX7_laysBest_147 (by decide) ?_
                  refine z_iastore_g (pc := 154) ltM_9 kdM_9 dX7_laysBest_154 ?_
                  refine z_iinc (pc := 155) (v := y4 + 1) (lv2 := [(0, .ref (g.2.2.1 0)), (1, .int c1), (2, .int c2), (3, .int c3), (4, .int (y4 + 1)), (5, .int (((4 : Int32) * c3) + y4)), (6, .int r14)]) 4 [1, 2, 3, 4, 0, 5, 6] dX7_laysBest_155 rfl (by rw [oi_1]) (by decide) rfl ?_
                  refine z_goto (pc := 158) (tgt := 19) dX7_laysBest_158 (by decide) ?_
                  refine z_sub (lv2 := [(0, .ref (g.2.2.1 0)), (1, .int c1), (2, .int c2), (3, .int c3), (4, .int (y4 + 1))]) [0, 1, 2, 3, 4] rfl ?_
                  exact ih _ _ _ hk
              · refine z_iconst (pc := 137) (v := -1) dX7_laysBest_137 rfl ?_
                refine z_goto (pc := 138) (tgt := 154) dX7_laysBest_138 (by decide) ?_
                refine z_iastore_g (pc := 154) ltM_9 kdM_9 dX7_laysBest_154 ?_
                refine z_iinc (pc := 155) (v := y4 + 1) (lv2 := [(0, .ref (g.2.2.1 0)), (1, .int c1), (2, .int c2), (3, .int c3), (4, .int (y4 + 1)), (5, .int (((4 : Int32) * c3) + y4)), (6, .int r14)]) 4 [1, 2, 3, 4, 0, 5, 6] dX7_laysBest_155 rfl (by rw [oi_1]) (by decide) rfl ?_
                refine z_goto (pc := 158) (tgt := 19) dX7_laysBest_158 (by decide) ?_
                refine z_sub (lv2 := [(0, .ref (g.2.2.1 0)), (1, .int c1), (2, .int c2), (3, .int c3), (4, .int (y4 + 1))]) [0, 1, 2, 3, 4] rfl ?_
                exact ih _ _ _ hk
            · refine z_iconst (pc := 117) (v := 0) dX7_laysBest_117 rfl ?_
              refine z_goto (pc := 118) (tgt := 125) dX7_laysBest_118 (by decide) ?_
              refine z_iastore_g (pc := 125) ltM_8 kdM_8 dX7_laysBest_125 ?_
              refine z_aload_n (pc := 126) 0 dX7_laysBest_126 rfl rfl ?_
              refine z_get (pc := 127) (v := .ref (g.2.2.1 9)) flX7_35 jnX7 ltM_0 kdM_0 rfl (by decide) rfl foM_0_13 rfl dX7_laysBest_127 ?_
              refine z_iload (pc := 130) 5 dX7_laysBest_130 rfl ?_
              refine z_iload (pc := 132) 6 dX7_laysBest_132 rfl ?_
              refine z_if_ne (pc := 134) (tgt := 141) dX7_laysBest_134 (by decide) (fun h22 => ?_) (fun h22 => ?_)
              · refine z_iload_n (pc := 141) 3 dX7_laysBest_141 rfl rfl ?_
                refine z_iload_n (pc := 142) 2 dX7_laysBest_142 rfl rfl ?_
                refine z_icmp_ne (pc := 143) (tgt := 150) dX7_laysBest_143 (by decide) (fun h23 => ?_) (fun h23 => ?_)
                · refine z_aload_n (pc := 150) 0 dX7_laysBest_150 rfl rfl ?_
                  refine z_get (pc := 151) (v := .int (μ15.1 0 16)) flX7_201 jnX7 ltM_0 kdM_0 rfl (by decide) rfl foM_0_16 rfl dX7_laysBest_151 ?_
                  refine z_iastore_g (pc := 154) ltM_9 kdM_9 dX7_laysBest_154 ?_
                  refine z_iinc (pc := 155) (v := y4 + 1) (lv2 := [(0, .ref (g.2.2.1 0)), (1, .int c1), (2, .int c2), (3, .int c3), (4, .int (y4 + 1)), (5, .int (((4 : Int32) * c3) + y4)), (6, .int r14)]) 4 [1, 2, 3, 4, 0, 5, 6] dX7_laysBest_155 rfl (by rw [oi_1]) (by decide) rfl ?_
                  refine z_goto (pc := 158) (tgt := 19) dX7_laysBest_158 (by decide) ?_
                  refine z_sub (lv2 := [(0, .ref (g.2.2.1 0)), (1, .int c1), (2, .int c2), (3, .int c3), (4, .int (y4 + 1))]) [0, 1, 2, 3, 4] rfl ?_
                  exact ih _ _ _ hk
                · refine z_iconst (pc := 146) (v := 0) dX7_laysBest_146 rfl ?_
                  refine z_goto (pc := 147) (tgt := 154) dX7_laysBest_147 (by decide) ?_
                  refine z_iastore_g (pc := 154) ltM_9 kdM_9 dX7_laysBest_154 ?_
                  refine z_iinc (pc := 155) (v := y4 + 1) (lv2 := [(0, .ref (g.2.2.1 0)), (1, .int c1), (2, .int c2), (3, .int c3), (4, .int (y4 + 1)), (5, .int (((4 : Int32) * c3) + y4)), (6, .int r14)]) 4 [1, 2, 3, 4, 0, 5, 6] dX7_laysBest_155 rfl (by rw [oi_1]) (by decide) rfl ?_
                  refine z_goto (pc := 158) (tgt := 19) dX7_laysBest_158 (by decide) ?_
                  refine z_sub (lv2 := [(0, .ref (g.2.2.1 0)), (1, .int c1), (2, .int c2), (3, .int c3), (4, .int (y4 + 1))]) [0, 1, 2, 3, 4] rfl ?_
                  exact ih _ _ _ hk
              · refine z_iconst (pc := 137) (v := -1) dX7_laysBest_137 rfl ?_
                refine z_goto (pc := 138) (tgt := 154) dX7_laysBest_138 (by decide) ?_
                refine z_iastore_g (pc := 154) ltM_9 kdM_9 dX7_laysBest_154 ?_
                refine z_iinc (pc := 155) (v := y4 + 1) (lv2 := [(0, .ref (g.2.2.1 0)), (1, .int c1), (2, .int c2), (3, .int c3), (4, .int (y4 + 1)), (5, .int (((4 : Int32) * c3) + y4)), (6, .int r14)]) 4 [1, 2, 3, 4, 0, 5, 6] dX7_laysBest_155 rfl (by rw [oi_1]) (by decide) rfl ?_
                refine z_goto (pc := 158) (tgt := 19) dX7_laysBest_158 (by decide) ?_
                refine z_sub (lv2 := [(0, .ref (g.2.2.1 0)), (1, .int c1), (2, .int c2), (3, .int c3), (4, .int (y4 + 1))]) [0, 1, 2, 3, 4] rfl ?_
                exact ih _ _ _ hk
      · refine z_iconst (pc := 44) (v := -1) dX7_laysBest_44 rfl ?_
        refine z_goto (pc := 45) (tgt := 63) dX7_laysBest_45 (by decide) ?_
        refine z_iastore_g (pc := 63) ltM_10 kdM_10 dX7_laysBest_63 ?_
        refine z_iload_n (pc := 64) 3 dX7_laysBest_64 rfl rfl ?_
        refine z_iload_n (pc := 65) 2 dX7_laysBest_65 rfl rfl ?_
        refine z_icmp_ne (pc := 66) (tgt := 83) dX7_laysBest_66 (by decide) (fun h24 => ?_) (fun h24 => ?_)
        · refine z_aload_n (pc := 83) 0 dX7_laysBest_83 rfl rfl ?_
          refine z_get (pc := 84) (v := .ref (g.2.2.1 10)) flX7_38 jnX7 ltM_0 kdM_0 rfl (by decide) rfl foM_0_14 rfl dX7_laysBest_84 ?_
          refine z_iload (pc := 87) 5 dX7_laysBest_87 rfl ?_
          refine z_iaload_g (pc := 89) ltM_10 kdM_10 dX7_laysBest_89 ?_
          refine z_iconst (pc := 90) (v := -1) dX7_laysBest_90 rfl ?_
          refine z_icmp_eq (pc := 91) (tgt := 98) dX7_laysBest_91 (by decide) (fun h25 => ?_) (fun h25 => ?_)
          · refine z_iconst (pc := 98) (v := 0) dX7_laysBest_98 rfl ?_
            refine z_istore (pc := 99) (lv2 := [(0, .ref (g.2.2.1 0)), (1, .int c1), (2, .int c2), (3, .int c3), (4, .int y4), (5, .int (((4 : Int32) * c3) + y4)), (6, .int (0 : Int32))]) [1, 2, 3, 4, 5, 6, 0] dX7_laysBest_99 (by decide) rfl ?_
            refine z_aload_n (pc := 101) 0 dX7_laysBest_101 rfl rfl ?_
            refine z_get (pc := 102) (v := .ref (g.2.2.1 8)) flX7_32 jnX7 ltM_0 kdM_0 rfl (by decide) rfl foM_0_12 rfl dX7_laysBest_102 ?_
            refine z_iload (pc := 105) 5 dX7_laysBest_105 rfl ?_
            refine z_iload_n (pc := 107) 3 dX7_laysBest_107 rfl rfl ?_
            refine z_iload_n (pc := 108) 2 dX7_laysBest_108 rfl rfl ?_
            refine z_icmp_eq (pc := 109) (tgt := 117) dX7_laysBest_109 (by decide) (fun h26 => ?_) (fun h26 => ?_)
            · refine z_iconst (pc := 117) (v := 0) dX7_laysBest_117 rfl ?_
              refine z_goto (pc := 118) (tgt := 125) dX7_laysBest_118 (by decide) ?_
              refine z_iastore_g (pc := 125) ltM_8 kdM_8 dX7_laysBest_125 ?_
              refine z_aload_n (pc := 126) 0 dX7_laysBest_126 rfl rfl ?_
              refine z_get (pc := 127) (v := .ref (g.2.2.1 9)) flX7_35 jnX7 ltM_0 kdM_0 rfl (by decide) rfl foM_0_13 rfl dX7_laysBest_127 ?_
              refine z_iload (pc := 130) 5 dX7_laysBest_130 rfl ?_
              refine z_iload (pc := 132) 6 dX7_laysBest_132 rfl ?_
              refine z_if_ne_x (pc := 134) (tgt := 141) dX7_laysBest_134 (by decide) (by decide +kernel) ?_
              refine z_iconst (pc := 137) (v := -1) dX7_laysBest_137 rfl ?_
              refine z_goto (pc := 138) (tgt := 154) dX7_laysBest_138 (by decide) ?_
              refine z_iastore_g (pc := 154) ltM_9 kdM_9 dX7_laysBest_154 ?_
              refine z_iinc (pc := 155) (v := y4 + 1) (lv2 := [(0, .ref (g.2.2.1 0)), (1, .int c1), (2, .int c2), (3, .int c3), (4, .int (y4 + 1)), (5, .int (((4 : Int32) * c3) + y4)), (6, .int (0 : Int32))]) 4 [1, 2, 3, 4, 0, 5, 6] dX7_laysBest_155 rfl (by rw [oi_1]) (by decide) rfl ?_
              refine z_goto (pc := 158) (tgt := 19) dX7_laysBest_158 (by decide) ?_
              refine z_sub (lv2 := [(0, .ref (g.2.2.1 0)), (1, .int c1), (2, .int c2), (3, .int c3), (4, .int (y4 + 1))]) [0, 1, 2, 3, 4] rfl ?_
              exact ih _ _ _ hk
            · refine z_iload (pc := 112) 6 dX7_laysBest_112 rfl ?_
              refine z_if_ne_x (pc := 114) (tgt := 121) dX7_laysBest_114 (by decide) (by decide +kernel) ?_
              refine z_iconst (pc := 117) (v := 0) dX7_laysBest_117 rfl ?_
              refine z_goto (pc := 118) (tgt := 125) dX7_laysBest_118 (by decide) ?_
              refine z_iastore_g (pc := 125) ltM_8 kdM_8 dX7_laysBest_125 ?_
              refine z_aload_n (pc := 126) 0 dX7_laysBest_126 rfl rfl ?_
              refine z_get (pc := 127) (v := .ref (g.2.2.1 9)) flX7_35 jnX7 ltM_0 kdM_0 rfl (by decide) rfl foM_0_13 rfl dX7_laysBest_127 ?_
              refine z_iload (pc := 130) 5 dX7_laysBest_130 rfl ?_
              refine z_iload (pc := 132) 6 dX7_laysBest_132 rfl ?_
              refine z_if_ne_x (pc := 134) (tgt := 141) dX7_laysBest_134 (by decide) (by decide +kernel) ?_
              refine z_iconst (pc := 137) (v := -1) dX7_laysBest_137 rfl ?_
              refine z_goto (pc := 138) (tgt := 154) dX7_laysBest_138 (by decide) ?_
              refine z_iastore_g (pc := 154) ltM_9 kdM_9 dX7_laysBest_154 ?_
              refine z_iinc (pc := 155) (v := y4 + 1) (lv2 := [(0, .ref (g.2.2.1 0)), (1, .int c1), (2, .int c2), (3, .int c3), (4, .int (y4 + 1)), (5, .int (((4 : Int32) * c3) + y4)), (6, .int (0 : Int32))]) 4 [1, 2, 3, 4, 0, 5, 6] dX7_laysBest_155 rfl (by rw [oi_1]) (by decide) rfl ?_
              refine z_goto (pc := 158) (tgt := 19) dX7_laysBest_158 (by decide) ?_
              refine z_sub (lv2 := [(0, .ref (g.2.2.1 0)), (1, .int c1), (2, .int c2), (3, .int c3), (4, .int (y4 + 1))]) [0, 1, 2, 3, 4] rfl ?_
              exact ih _ _ _ hk
          · refine z_iconst (pc := 94) (v := 1) dX7_laysBest_94 rfl ?_
            refine z_goto (pc := 95) (tgt := 99) dX7_laysBest_95 (by decide) ?_
            refine z_istore (pc := 99) (lv2 := [(0, .ref (g.2.2.1 0)), (1, .int c1), (2, .int c2), (3, .int c3), (4, .int y4), (5, .int (((4 : Int32) * c3) + y4)), (6, .int (1 : Int32))]) [1, 2, 3, 4, 5, 6, 0] dX7_laysBest_99 (by decide) rfl ?_
            refine z_aload_n (pc := 101) 0 dX7_laysBest_101 rfl rfl ?_
            refine z_get (pc := 102) (v := .ref (g.2.2.1 8)) flX7_32 jnX7 ltM_0 kdM_0 rfl (by decide) rfl foM_0_12 rfl dX7_laysBest_102 ?_
            refine z_iload (pc := 105) 5 dX7_laysBest_105 rfl ?_
            refine z_iload_n (pc := 107) 3 dX7_laysBest_107 rfl rfl ?_
            refine z_iload_n (pc := 108) 2 dX7_laysBest_108 rfl rfl ?_
            refine z_icmp_eq (pc := 109) (tgt := 117) dX7_laysBest_109 (by decide) (fun h27 => ?_) (fun h27 => ?_)
            · refine z_iconst (pc := 117) (v := 0) dX7_laysBest_117 rfl ?_
              refine z_goto (pc := 118) (tgt := 125) dX7_laysBest_118 (by decide) ?_
              refine z_iastore_g (pc := 125) ltM_8 kdM_8 dX7_laysBest_125 ?_
              refine z_aload_n (pc := 126) 0 dX7_laysBest_126 rfl rfl ?_
              refine z_get (pc := 127) (v := .ref (g.2.2.1 9)) flX7_35 jnX7 ltM_0 kdM_0 rfl (by decide) rfl foM_0_13 rfl dX7_laysBest_127 ?_
              refine z_iload (pc := 130) 5 dX7_laysBest_130 rfl ?_
              refine z_iload (pc := 132) 6 dX7_laysBest_132 rfl ?_
              refine z_if_ne_y (pc := 134) (tgt := 141) dX7_laysBest_134 (by decide) (by decide +kernel) ?_
              refine z_iload_n (pc := 141) 3 dX7_laysBest_141 rfl rfl ?_
              refine z_iload_n (pc := 142) 2 dX7_laysBest_142 rfl rfl ?_
              refine z_icmp_ne (pc := 143) (tgt := 150) dX7_laysBest_143 (by decide) (fun h28 => ?_) (fun h28 => ?_)
              · refine z_aload_n (pc := 150) 0 dX7_laysBest_150 rfl rfl ?_
                refine z_get (pc := 151) (v := .int (μ.1 0 16)) flX7_201 jnX7 ltM_0 kdM_0 rfl (by decide) rfl foM_0_16 rfl dX7_laysBest_151 ?_
                refine z_iastore_g (pc := 154) ltM_9 kdM_9 dX7_laysBest_154 ?_
                refine z_iinc (pc := 155) (v := y4 + 1) (lv2 := [(0, .ref (g.2.2.1 0)), (1, .int c1), (2, .int c2), (3, .int c3), (4, .int (y4 + 1)), (5, .int (((4 : Int32) * c3) + y4)), (6, .int (1 : Int32))]) 4 [1, 2, 3, 4, 0, 5, 6] dX7_laysBest_155 rfl (by rw [oi_1]) (by decide) rfl ?_
                refine z_goto (pc := 158) (tgt := 19) dX7_laysBest_158 (by decide) ?_
                refine z_sub (lv2 := [(0, .ref (g.2.2.1 0)), (1, .int c1), (2, .int c2), (3, .int c3), (4, .int (y4 + 1))]) [0, 1, 2, 3, 4] rfl ?_
                exact ih _ _ _ hk
              · refine z_iconst (pc := 146) (v := 0) dX7_laysBest_146 rfl ?_
                refine z_goto (pc := 147) (tgt := 154) dX7_laysBest_147 (by decide) ?_
                refine z_iastore_g (pc := 154) ltM_9 kdM_9 dX7_laysBest_154 ?_
                refine z_iinc (pc := 155) (v := y4 + 1) (lv2 := [(0, .ref (g.2.2.1 0)), (1, .int c1), (2, .int c2), (3, .int c3), (4, .int (y4 + 1)), (5, .int (((4 : Int32) * c3) + y4)), (6, .int (1 : Int32))]) 4 [1, 2, 3, 4, 0, 5, 6] dX7_laysBest_155 rfl (by rw [oi_1]) (by decide) rfl ?_
                refine z_goto (pc := 158) (tgt := 19) dX7_laysBest_158 (by decide) ?_
                refine z_sub (lv2 := [(0, .ref (g.2.2.1 0)), (1, .int c1), (2, .int c2), (3, .int c3), (4, .int (y4 + 1))]) [0, 1, 2, 3, 4] rfl ?_
                exact ih _ _ _ hk
            · refine z_iload (pc := 112) 6 dX7_laysBest_112 rfl ?_
              refine z_if_ne_y (pc := 114) (tgt := 121) dX7_laysBest_114 (by decide) (by decide +kernel) ?_
              refine z_aload_n (pc := 121) 0 dX7_laysBest_121 rfl rfl ?_
              refine z_get (pc := 122) (v := .int (μ.1 0 15)) flX7_198 jnX7 ltM_0 kdM_0 rfl (by decide) rfl foM_0_15 rfl dX7_laysBest_122 ?_
              refine z_iastore_g (pc := 125) ltM_8 kdM_8 dX7_laysBest_125 ?_
              refine z_aload_n (pc := 126) 0 dX7_laysBest_126 rfl rfl ?_
              refine z_get (pc := 127) (v := .ref (g.2.2.1 9)) flX7_35 jnX7 ltM_0 kdM_0 rfl (by decide) rfl foM_0_13 rfl dX7_laysBest_127 ?_
              refine z_iload (pc := 130) 5 dX7_laysBest_130 rfl ?_
              refine z_iload (pc := 132) 6 dX7_laysBest_132 rfl ?_
              refine z_if_ne_y (pc := 134) (tgt := 141) dX7_laysBest_134 (by decide) (by decide +kernel) ?_
              refine z_iload_n (pc := 141) 3 dX7_laysBest_141 rfl rfl ?_
              refine z_iload_n (pc := 142) 2 dX7_laysBest_142 rfl rfl ?_
              refine z_icmp_ne (pc := 143) (tgt := 150) dX7_laysBest_143 (by decide) (fun h29 => ?_) (fun h29 => ?_)
              · refine z_aload_n (pc := 150) 0 dX7_laysBest_150 rfl rfl ?_
                refine z_get (pc := 151) (v := .int (μ.1 0 16)) flX7_201 jnX7 ltM_0 kdM_0 rfl (by decide) rfl foM_0_16 rfl dX7_laysBest_151 ?_
                refine z_iastore_g (pc := 154) ltM_9 kdM_9 dX7_laysBest_154 ?_
                refine z_iinc (pc := 155) (v := y4 + 1) (lv2 := [(0, .ref (g.2.2.1 0)), (1, .int c1), (2, .int c2), (3, .int c3), (4, .int (y4 + 1)), (5, .int (((4 : Int32) * c3) + y4)), (6, .int (1 : Int32))]) 4 [1, 2, 3, 4, 0, 5, 6] dX7_laysBest_155 rfl (by rw [oi_1]) (by decide) rfl ?_
                refine z_goto (pc := 158) (tgt := 19) dX7_laysBest_158 (by decide) ?_
                refine z_sub (lv2 := [(0, .ref (g.2.2.1 0)), (1, .int c1), (2, .int c2), (3, .int c3), (4, .int (y4 + 1))]) [0, 1, 2, 3, 4] rfl ?_
                exact ih _ _ _ hk
              · refine z_iconst (pc := 146) (v := 0) dX7_laysBest_146 rfl ?_
                refine z_goto (pc := 147) (tgt := 154) dX7_laysBest_147 (by decide) ?_
                refine z_iastore_g (pc := 154) ltM_9 kdM_9 dX7_laysBest_154 ?_
                refine z_iinc (pc := 155) (v := y4 + 1) (lv2 := [(0, .ref (g.2.2.1 0)), (1, .int c1), (2, .int c2), (3, .int c3), (4, .int (y4 + 1)), (5, .int (((4 : Int32) * c3) + y4)), (6, .int (1 : Int32))]) 4 [1, 2, 3, 4, 0, 5, 6] dX7_laysBest_155 rfl (by rw [oi_1]) (by decide) rfl ?_
                refine z_goto (pc := 158) (tgt := 19) dX7_laysBest_158 (by decide) ?_
                refine z_sub (lv2 := [(0, .ref (g.2.2.1 0)), (1, .int c1), (2, .int c2), (3, .int c3), (4, .int (y4 + 1))]) [0, 1, 2, 3, 4] rfl ?_
                exact ih _ _ _ hk
        · refine z_aload_n (pc := 69) 0 dX7_laysBest_69 rfl rfl ?_
          refine z_get (pc := 70) (v := .ref (g.2.2.1 1)) flX7_7 jnX7 ltM_0 kdM_0 rfl (by decide) rfl foM_0_0 rfl dX7_laysBest_70 ?_
          refine z_iconst (pc := 73) (v := 4) dX7_laysBest_73 rfl ?_
          refine z_iaload (pc := 74) (j := 4) ltM_1 kdM_1 (by decide +kernel) (by decide +kernel) dX7_laysBest_74 ?_
          show Zw g ΛM enV RX7 cX7_laysBest 7 none rX7_laysBest 75 [(0, .ref (g.2.2.1 0)), (1, .int c1), (2, .int c2), (3, .int c3), (4, .int y4), (5, .int (((4 : Int32) * c3) + y4))] [.int (μ.1 1 4)] (si μ 10 ((((4 : Int32) * c3) + y4).toNatClampNeg) (-1 : Int32)) _
          refine z_iload (pc := 75) 4 dX7_laysBest_75 rfl ?_
          refine z_callS (pc := 77) (As := [.int (μ.1 1 4), .int y4]) (rest := []) kX7_140 (m_X7_has g (si μ 10 ((((4 : Int32) * c3) + y4).toNatClampNeg) (-1 : Int32)) (μ.1 1 4) y4) ⟨rfl, rfl⟩ ⟨Nat.le_of_ble_eq_true rfl, Nat.le_of_ble_eq_true rfl⟩ (Nat.le_of_ble_eq_true rfl) rfl rfl dX7_laysBest_77 (fun r30 μ31 => ?_)
          change Zw g ΛM enV RX7 cX7_laysBest 7 none rX7_laysBest 80 [(0, .ref (g.2.2.1 0)), (1, .int c1), (2, .int c2), (3, .int c3), (4, .int y4), (5, .int (((4 : Int32) * c3) + y4))] [.int r30] μ31 _
          refine z_goto (pc := 80) (tgt := 99) dX7_laysBest_80 (by decide) ?_
          refine z_istore (pc := 99) (lv2 := [(0, .ref (g.2.2.1 0)), (1, .int c1), (2, .int c2), (3, .int c3), (4, .int y4), (5, .int (((4 : Int32) * c3) + y4)), (6, .int r30)]) [1, 2, 3, 4, 5, 6, 0] dX7_laysBest_99 (by decide) rfl ?_
          refine z_aload_n (pc := 101) 0 dX7_laysBest_101 rfl rfl ?_
          refine z_get (pc := 102) (v := .ref (g.2.2.1 8)) flX7_32 jnX7 ltM_0 kdM_0 rfl (by decide) rfl foM_0_12 rfl dX7_laysBest_102 ?_
          refine z_iload (pc := 105) 5 dX7_laysBest_105 rfl ?_
          refine z_iload_n (pc := 107) 3 dX7_laysBest_107 rfl rfl ?_
          refine z_iload_n (pc := 108) 2 dX7_laysBest_108 rfl rfl ?_
          refine z_icmp_eq (pc := 109) (tgt := 117) dX7_laysBest_109 (by decide) (fun h32 => ?_) (fun h32 => ?_)
          · refine z_iconst (pc := 117) (v := 0) dX7_laysBest_117 rfl ?_
            refine z_goto (pc := 118) (tgt := 125) dX7_laysBest_118 (by decide) ?_
            refine z_iastore_g (pc := 125) ltM_8 kdM_8 dX7_laysBest_125 ?_
            refine z_aload_n (pc := 126) 0 dX7_laysBest_126 rfl rfl ?_
            refine z_get (pc := 127) (v := .ref (g.2.2.1 9)) flX7_35 jnX7 ltM_0 kdM_0 rfl (by decide) rfl foM_0_13 rfl dX7_laysBest_127 ?_
            refine z_iload (pc := 130) 5 dX7_laysBest_130 rfl ?_
            refine z_iload (pc := 132) 6 dX7_laysBest_132 rfl ?_
            refine z_if_ne (pc := 134) (tgt := 141) dX7_laysBest_134 (by decide) (fun h33 => ?_) (fun h33 => ?_)
            · refine z_iload_n (pc := 141) 3 dX7_laysBest_141 rfl rfl ?_
              refine z_iload_n (pc := 142) 2 dX7_laysBest_142 rfl rfl ?_
              refine z_icmp_ne (pc := 143) (tgt := 150) dX7_laysBest_143 (by decide) (fun h34 => ?_) (fun h34 => ?_)
              · refine z_aload_n (pc := 150) 0 dX7_laysBest_150 rfl rfl ?_
                refine z_get (pc := 151) (v := .int (μ31.1 0 16)) flX7_201 jnX7 ltM_0 kdM_0 rfl (by decide) rfl foM_0_16 rfl dX7_laysBest_151 ?_
                refine z_iastore_g (pc := 154) ltM_9 kdM_9 dX7_laysBest_154 ?_
                refine z_iinc (pc := 155) (v := y4 + 1) (lv2 := [(0, .ref (g.2.2.1 0)), (1, .int c1), (2, .int c2), (3, .int c3), (4, .int (y4 + 1)), (5, .int (((4 : Int32) * c3) + y4)), (6, .int r30)]) 4 [1, 2, 3, 4, 0, 5, 6] dX7_laysBest_155 rfl (by rw [oi_1]) (by decide) rfl ?_
                refine z_goto (pc := 158) (tgt := 19) dX7_laysBest_158 (by decide) ?_
                refine z_sub (lv2 := [(0, .ref (g.2.2.1 0)), (1, .int c1), (2, .int c2), (3, .int c3), (4, .int (y4 + 1))]) [0, 1, 2, 3, 4] rfl ?_
                exact ih _ _ _ hk
              · refine z_iconst (pc := 146) (v := 0) dX7_laysBest_146 rfl ?_
                refine z_goto (pc := 147) (tgt := 154) dX7_laysBest_147 (by decide) ?_
                refine z_iastore_g (pc := 154) ltM_9 kdM_9 dX7_laysBest_154 ?_
                refine z_iinc (pc := 155) (v := y4 + 1) (lv2 := [(0, .ref (g.2.2.1 0)), (1, .int c1), (2, .int c2), (3, .int c3), (4, .int (y4 + 1)), (5, .int (((4 : Int32) * c3) + y4)), (6, .int r30)]) 4 [1, 2, 3, 4, 0, 5, 6] dX7_laysBest_155 rfl (by rw [oi_1]) (by decide) rfl ?_
                refine z_goto (pc := 158) (tgt := 19) dX7_laysBest_158 (by decide) ?_
                refine z_sub (lv2 := [(0, .ref (g.2.2.1 0)), (1, .int c1), (2, .int c2), (3, .int c3), (4, .int (y4 + 1))]) [0, 1, 2, 3, 4] rfl ?_
                exact ih _ _ _ hk
            · refine z_iconst (pc := 137) (v := -1) dX7_laysBest_137 rfl ?_
              refine z_goto (pc := 138) (tgt := 154) dX7_laysBest_138 (by decide) ?_
              refine z_iastore_g (pc := 154) ltM_9 kdM_9 dX7_laysBest_154 ?_
              refine z_iinc (pc := 155) (v := y4 + 1) (lv2 := [(0, .ref (g.2.2.1 0)), (1, .int c1), (2, .int c2), (3, .int c3), (4, .int (y4 + 1)), (5, .int (((4 : Int32) * c3) + y4)), (6, .int r30)]) 4 [1, 2, 3, 4, 0, 5, 6] dX7_laysBest_155 rfl (by rw [oi_1]) (by decide) rfl ?_
              refine z_goto (pc := 158) (tgt := 19) dX7_laysBest_158 (by decide) ?_
              refine z_sub (lv2 := [(0, .ref (g.2.2.1 0)), (1, .int c1), (2, .int c2), (3, .int c3), (4, .int (y4 + 1))]) [0, 1, 2, 3, 4] rfl ?_
              exact ih _ _ _ hk
          · refine z_iload (pc := 112) 6 dX7_laysBest_112 rfl ?_
            refine z_if_ne (pc := 114) (tgt := 121) dX7_laysBest_114 (by decide) (fun h35 => ?_) (fun h35 => ?_)
            · refine z_aload_n (pc := 121) 0 dX7_laysBest_121 rfl rfl ?_
              refine z_get (pc := 122) (v := .int (μ31.1 0 15)) flX7_198 jnX7 ltM_0 kdM_0 rfl (by decide) rfl foM_0_15 rfl dX7_laysBest_122 ?_
              refine z_iastore_g (pc := 125) ltM_8 kdM_8 dX7_laysBest_125 ?_
              refine z_aload_n (pc := 126) 0 dX7_laysBest_126 rfl rfl ?_
              refine z_get (pc := 127) (v := .ref (g.2.2.1 9)) flX7_35 jnX7 ltM_0 kdM_0 rfl (by decide) rfl foM_0_13 rfl dX7_laysBest_127 ?_
              refine z_iload (pc := 130) 5 dX7_laysBest_130 rfl ?_
              refine z_iload (pc := 132) 6 dX7_laysBest_132 rfl ?_
              refine z_if_ne (pc := 134) (tgt := 141) dX7_laysBest_134 (by decide) (fun h36 => ?_) (fun h36 => ?_)
              · refine z_iload_n (pc := 141) 3 dX7_laysBest_141 rfl rfl ?_
                refine z_iload_n (pc := 142) 2 dX7_laysBest_142 rfl rfl ?_
                refine z_icmp_ne (pc := 143) (tgt := 150) dX7_laysBest_143 (by decide) (fun h37 => ?_) (fun h37 => ?_)
                · refine z_aload_n (pc := 150) 0 dX7_laysBest_150 rfl rfl ?_
                  refine z_get (pc := 151) (v := .int (μ31.1 0 16)) flX7_201 jnX7 ltM_0 kdM_0 rfl (by decide) rfl foM_0_16 rfl dX7_laysBest_151 ?_
                  refine z_iastore_g (pc := 154) ltM_9 kdM_9 dX7_laysBest_154 ?_
                  refine z_iinc (pc := 155) (v := y4 + 1) (lv2 := [(0, .ref (g.2.2.1 0)), (1, .int c1), (2, .int c2), (3, .int c3), (4, .int (y4 + 1)), (5, .int (((4 : Int32) * c3) + y4)), (6, .int r30)]) 4 [1, 2, 3, 4, 0, 5, 6] dX7_laysBest_155 rfl (by rw [oi_1]) (by decide) rfl ?_
                  refine z_goto (pc := 158) (tgt := 19) dX7_laysBest_158 (by decide) ?_
                  refine z_sub (lv2 := [(0, .ref (g.2.2.1 0)), (1, .int c1), (2, .int c2), (3, .int c3), (4, .int (y4 + 1))]) [0, 1, 2, 3, 4] rfl ?_
                  exact ih _ _ _ hk
                · refine z_iconst (pc := 146) (v := 0) dX7_laysBest_146 rfl ?_
                  refine z_goto (pc := 147) (tgt := 154) dX7_laysBest_147 (by decide) ?_
                  refine z_iastore_g (pc := 154) ltM_9 kdM_9 dX7_laysBest_154 ?_
                  refine z_iinc (pc := 155) (v := y4 + 1) (lv2 := [(0, .ref (g.2.2.1 0)), (1, .int c1), (2, .int c2), (3, .int c3), (4, .int (y4 + 1)), (5, .int (((4 : Int32) * c3) + y4)), (6, .int r30)]) 4 [1, 2, 3, 4, 0, 5, 6] dX7_laysBest_155 rfl (by rw [oi_1]) (by decide) rfl ?_
                  refine z_goto (pc := 158) (tgt := 19) dX7_laysBest_158 (by decide) ?_
                  refine z_sub (lv2 := [(0, .ref (g.2.2.1 0)), (1, .int c1), (2, .int c2), (3, .int c3), (4, .int (y4 + 1))]) [0, 1, 2, 3, 4] rfl ?_
                  exact ih _ _ _ hk
              · refine z_iconst (pc := 137) (v := -1) dX7_laysBest_137 rfl ?_
                refine z_goto (pc := 138) (tgt := 154) dX7_laysBest_138 (by decide) ?_
                refine z_iastore_g (pc := 154) ltM_9 kdM_9 dX7_laysBest_154 ?_
                refine z_iinc (pc := 155) (v := y4 + 1) (lv2 := [(0, .ref (g.2.2.1 0)), (1, .int c1), (2, .int c2), (3, .int c3), (4, .int (y4 + 1)), (5, .int (((4 : Int32) * c3) + y4)), (6, .int r30)]) 4 [1, 2, 3, 4, 0, 5, 6] dX7_laysBest_155 rfl (by rw [oi_1]) (by decide) rfl ?_
                refine z_goto (pc := 158) (tgt := 19) dX7_laysBest_158 (by decide) ?_
                refine z_sub (lv2 := [(0, .ref (g.2.2.1 0)), (1, .int c1), (2, .int c2), (3, .int c3), (4, .int (y4 + 1))]) [0, 1, 2, 3, 4] rfl ?_
                exact ih _ _ _ hk
            · refine z_iconst (pc := 117) (v := 0) dX7_laysBest_117 rfl ?_
              refine z_goto (pc := 118) (tgt := 125) dX7_laysBest_118 (by decide) ?_
              refine z_iastore_g (pc := 125) ltM_8 kdM_8 dX7_laysBest_125 ?_
              refine z_aload_n (pc := 126) 0 dX7_laysBest_126 rfl rfl ?_
              refine z_get (pc := 127) (v := .ref (g.2.2.1 9)) flX7_35 jnX7 ltM_0 kdM_0 rfl (by decide) rfl foM_0_13 rfl dX7_laysBest_127 ?_
              refine z_iload (pc := 130) 5 dX7_laysBest_130 rfl ?_
              refine z_iload (pc := 132) 6 dX7_laysBest_132 rfl ?_
              refine z_if_ne (pc := 134) (tgt := 141) dX7_laysBest_134 (by decide) (fun h38 => ?_) (fun h38 => ?_)
              · refine z_iload_n (pc := 141) 3 dX7_laysBest_141 rfl rfl ?_
                refine z_iload_n (pc := 142) 2 dX7_laysBest_142 rfl rfl ?_
                refine z_icmp_ne (pc := 143) (tgt := 150) dX7_laysBest_143 (by decide) (fun h39 => ?_) (fun h39 => ?_)
                · refine z_aload_n (pc := 150) 0 dX7_laysBest_150 rfl rfl ?_
                  refine z_get (pc := 151) (v := .int (μ31.1 0 16)) flX7_201 jnX7 ltM_0 kdM_0 rfl (by decide) rfl foM_0_16 rfl dX7_laysBest_151 ?_
                  refine z_iastore_g (pc := 154) ltM_9 kdM_9 dX7_laysBest_154 ?_
                  refine z_iinc (pc := 155) (v := y4 + 1) (lv2 := [(0, .ref (g.2.2.1 0)), (1, .int c1), (2, .int c2), (3, .int c3), (4, .int (y4 + 1)), (5, .int (((4 : Int32) * c3) + y4)), (6, .int r30)]) 4 [1, 2, 3, 4, 0, 5, 6] dX7_laysBest_155 rfl (by rw [oi_1]) (by decide) rfl ?_
                  refine z_goto (pc := 158) (tgt := 19) dX7_laysBest_158 (by decide) ?_
                  refine z_sub (lv2 := [(0, .ref (g.2.2.1 0)), (1, .int c1), (2, .int c2), (3, .int c3), (4, .int (y4 + 1))]) [0, 1, 2, 3, 4] rfl ?_
                  exact ih _ _ _ hk
                · refine z_iconst (pc := 146) (v := 0) dX7_laysBest_146 rfl ?_
                  refine z_goto (pc := 147) (tgt := 154) dX7_laysBest_147 (by decide) ?_
                  refine z_iastore_g (pc := 154) ltM_9 kdM_9 dX7_laysBest_154 ?_
                  refine z_iinc (pc := 155) (v := y4 + 1) (lv2 := [(0, .ref (g.2.2.1 0)), (1, .int c1), (2, .int c2), (3, .int c3), (4, .int (y4 + 1)), (5, .int (((4 : Int32) * c3) + y4)), (6, .int r30)]) 4 [1, 2, 3, 4, 0, 5, 6] dX7_laysBest_155 rfl (by rw [oi_1]) (by decide) rfl ?_
                  refine z_goto (pc := 158) (tgt := 19) dX7_laysBest_158 (by decide) ?_
                  refine z_sub (lv2 := [(0, .ref (g.2.2.1 0)), (1, .int c1), (2, .int c2), (3, .int c3), (4, .int (y4 + 1))]) [0, 1, 2, 3, 4] rfl ?_
                  exact ih _ _ _ hk
              · refine z_iconst (pc := 137) (v := -1) dX7_laysBest_137 rfl ?_
                refine z_goto (pc := 138) (tgt := 154) dX7_laysBest_138 (by decide) ?_
                refine z_iastore_g (pc := 154) ltM_9 kdM_9 dX7_laysBest_154 ?_
                refine z_iinc (pc := 155) (v := y4 + 1) (lv2 := [(0, .ref (g.2.2.1 0)), (1, .int c1), (2, .int c2), (3, .int c3), (4, .int (y4 + 1)), (5, .int (((4 : Int32) * c3) + y4)), (6, .int r30)]) 4 [1, 2, 3, 4, 0, 5, 6] dX7_laysBest_155 rfl (by rw [oi_1]) (by decide) rfl ?_
                refine z_goto (pc := 158) (tgt := 19) dX7_laysBest_158 (by decide) ?_
                refine z_sub (lv2 := [(0, .ref (g.2.2.1 0)), (1, .int c1), (2, .int c2), (3, .int c3), (4, .int (y4 + 1))]) [0, 1, 2, 3, 4] rfl ?_
                exact ih _ _ _ hk
def lp_X7_laysBest_12 (c1 : Int32) (c2 : Int32) : Nat → Int32 → Mm → (Mm → Option (Unit × Mm)) → Option (Unit × Mm)
  | 0, _, _, _ => none
  | n + 1, y3, μ, k => if y3 ≤ 0 then (k  μ) else (lp_X7_laysBest_19 c1 c2 y3 FU (0 : Int32) μ (fun  μ40 => lp_X7_laysBest_12 c1 c2 n (y3 + -1) μ40 k))
theorem w_X7_laysBest_12 (g : Gx) (c1 : Int32) (c2 : Int32) : ∀ (n : Nat) (y3 : Int32) (μ : Mm) (k : Mm → Option (Unit × Mm)), (∀ (ν : Mm), Zw g ΛM enV RX7 cX7_laysBest 7 none rX7_laysBest 167 [] [] ν (k  ν)) → Zw g ΛM enV RX7 cX7_laysBest 7 none rX7_laysBest 12 [(0, .ref (g.2.2.1 0)), (1, .int c1), (2, .int c2), (3, .int y3)] [] μ (lp_X7_laysBest_12 c1 c2 n y3 μ k) := by
  intro n
  induction n with
  | zero =>
    intro y3 μ k hk
    exact z_none
  | succ n ih =>
    intro y3 μ k hk
    rw [lp_X7_laysBest_12]
    refine z_iload_n (pc := 12) 3 dX7_laysBest_12 rfl rfl ?_
    refine z_if_le (pc := 13) (tgt := 167) dX7_laysBest_13 (by decide) (fun h3 => ?_) (fun h3 => ?_)
    · refine z_sub (lv2 := []) [] rfl ?_
      exact hk _
    · refine z_iconst (pc := 16) (v := 0) dX7_laysBest_16 rfl ?_
      refine z_istore (pc := 17) (lv2 := [(0, .ref (g.2.2.1 0)), (1, .int c1), (2, .int c2), (3, .int y3), (4, .int (0 : Int32))]) [1, 2, 3, 4, 0] dX7_laysBest_17 (by decide) rfl ?_
      refine w_X7_laysBest_19 g c1 c2 y3 FU (0 : Int32) μ _ (fun  μ40 => ?_)
      refine z_iinc (pc := 161) (v := y3 + -1) (lv2 := [(0, .ref (g.2.2.1 0)), (1, .int c1), (2, .int c2), (3, .int (y3 + -1))]) 3 [1, 2, 3, 0] dX7_laysBest_161 rfl (by rw [oi_n1]) (by decide) rfl ?_
      refine z_goto (pc := 164) (tgt := 12) dX7_laysBest_164 (by decide) ?_
      exact ih _ _ _ hk
def f_X7_laysBest (a1 : Int32) (μ : Mm) : Option (Unit × Mm) := bd (f_X7_lastPlace (si μ 0 7 (1 : Int32))) fun r1 μ2 => lp_X7_laysBest_12 a1 r1 FU r1 μ2 (fun  μ41 => some ((), μ41))
theorem m_X7_laysBest (g : Gx) (μ : Mm) (a1 : Int32) : Zm g ΛM enV yX7_laysBest cX7_laysBest 7 none rX7_laysBest [.ref (g.2.2.1 0), .int a1] μ (f_X7_laysBest a1 μ) := by
  refine z_met (by decide +kernel) (Nat.le_of_ble_eq_true rfl) ?_
  change Zw g ΛM enV RX7 cX7_laysBest 7 none rX7_laysBest 0 [(0, .ref (g.2.2.1 0)), (1, .int a1)] [] μ (f_X7_laysBest a1 μ)
  rw [f_X7_laysBest]
  refine z_aload_n (pc := 0) 0 dX7_laysBest_0 rfl rfl ?_
  refine z_iconst (pc := 1) (v := 1) dX7_laysBest_1 rfl ?_
  refine z_puti (x := (0, 0)) (pc := 2) flX7_121 jnX7 tyX7 tyX7_ok nmX7 ltM_0 kdM_0 rfl (by decide) rfl foM_0_7 rfl (zb_n (by decide)) dX7_laysBest_2 ?_
  refine z_aload_n (pc := 5) 0 dX7_laysBest_5 rfl rfl ?_
  refine z_callV (pc := 6) (b := 0) (As := []) (rest := []) kX7_125 (m_X7_lastPlace g (si μ 0 7 (1 : Int32))) ltM_0 kdM_0 rfl rfl ⟨rfl, rfl⟩ ⟨Nat.le_of_ble_eq_true rfl, Nat.le_of_ble_eq_true rfl⟩ (Nat.le_of_ble_eq_true rfl) rfl rfl dX7_laysBest_6 (fun r1 μ2 => ?_)
  change Zw g ΛM enV RX7 cX7_laysBest 7 none rX7_laysBest 9 [(0, .ref (g.2.2.1 0)), (1, .int a1)] [.int r1] μ2 _
  refine z_istore_n (pc := 9) (lv2 := [(0, .ref (g.2.2.1 0)), (1, .int a1), (2, .int r1)]) [1, 2, 0] dX7_laysBest_9 rfl (by decide) rfl ?_
  refine z_iload_n (pc := 10) 2 dX7_laysBest_10 rfl rfl ?_
  refine z_istore_n (pc := 11) (lv2 := [(0, .ref (g.2.2.1 0)), (1, .int a1), (2, .int r1), (3, .int r1)]) [1, 2, 3, 0] dX7_laysBest_11 rfl (by decide) rfl ?_
  refine w_X7_laysBest_12 g a1 r1 FU r1 μ2 _ (fun  μ41 => ?_)
  exact z_vret dX7_laysBest_167
