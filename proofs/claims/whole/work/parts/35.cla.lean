def f_X6_sings (a1 : Int32) (μ : Mm) : Option (Int32 × Mm) := bd (f_X3_stage μ) fun r1 μ2 => bd (f_X6_singBest a1 μ2) fun r3 μ4 => bd (f_X6_settled r3 μ4) fun r5 μ6 => some (r5, μ6)
theorem m_X6_sings (g : Gx) (μ : Mm) (a1 : Int32) : Zm g ΛC enI yX6_sings cX6_sings 2 (some .int) rX6_sings [.ref (g.2.2.1 0), .int a1] μ (f_X6_sings a1 μ) := by
  refine z_met (by decide +kernel) (Nat.le_of_ble_eq_true rfl) ?_
  change Zw g ΛC enI RX6 cX6_sings 2 (some .int) rX6_sings 0 [(0, .ref (g.2.2.1 0)), (1, .int a1)] [] μ (f_X6_sings a1 μ)
  rw [f_X6_sings]
  refine z_aload_n (pc := 0) 0 dX6_sings_0 rfl rfl ?_
  refine z_get (pc := 1) (v := .ref (g.2.2.1 22)) flX6_44 jnX6 ltC_0 kdC_0 rfl (by decide) rfl foC_0_4 rfl dX6_sings_1 ?_
  refine z_aload_n (pc := 4) 0 dX6_sings_4 rfl rfl ?_
  refine z_get (pc := 5) (v := .ref (g.2.2.1 1)) flX6_15 jnX6 ltC_0 kdC_0 rfl (by decide) rfl foC_0_0 rfl dX6_sings_5 ?_
  refine z_callV (pc := 8) (b := 22) (As := [.ref (g.2.2.1 1)]) (rest := []) kX6_59 (m_X3_stage g μ) ltC_22 kdC_22 rfl rfl ⟨rfl, rfl⟩ ⟨Nat.le_of_ble_eq_true rfl, Nat.le_of_ble_eq_true rfl⟩ (Nat.le_of_ble_eq_true rfl) rfl rfl dX6_sings_8 (fun r1 μ2 => ?_)
  change Zw g ΛC enI RX6 cX6_sings 2 (some .int) rX6_sings 11 [(0, .ref (g.2.2.1 0)), (1, .int a1)] [] μ2 _
  refine z_aload_n (pc := 11) 0 dX6_sings_11 rfl rfl ?_
  refine z_aload_n (pc := 12) 0 dX6_sings_12 rfl rfl ?_
  refine z_iload_n (pc := 13) 1 dX6_sings_13 rfl rfl ?_
  refine z_callV (pc := 14) (b := 0) (As := [.int a1]) (rest := [.ref (g.2.2.1 0)]) kX6_127 (m_X6_singBest g μ2 a1) ltC_0 kdC_0 rfl rfl ⟨rfl, rfl⟩ ⟨Nat.le_of_ble_eq_true rfl, Nat.le_of_ble_eq_true rfl⟩ (Nat.le_of_ble_eq_true rfl) rfl rfl dX6_sings_14 (fun r3 μ4 => ?_)
  change Zw g ΛC enI RX6 cX6_sings 2 (some .int) rX6_sings 17 [(0, .ref (g.2.2.1 0)), (1, .int a1)] [.int r3, .ref (g.2.2.1 0)] μ4 _
  refine z_callV (pc := 17) (b := 0) (As := [.int r3]) (rest := []) kX6_66 (m_X6_settled g μ4 r3) ltC_0 kdC_0 rfl rfl ⟨rfl, rfl⟩ ⟨Nat.le_of_ble_eq_true rfl, Nat.le_of_ble_eq_true rfl⟩ (Nat.le_of_ble_eq_true rfl) rfl rfl dX6_sings_17 (fun r5 μ6 => ?_)
  change Zw g ΛC enI RX6 cX6_sings 2 (some .int) rX6_sings 20 [(0, .ref (g.2.2.1 0)), (1, .int a1)] [.int r5] μ6 _
  exact z_iret dX6_sings_20
def f_X6_fixes (a1 : Int32) (a2 : Int32) (μ : Mm) : Option (Int32 × Mm) := bd (f_X6_isMaker a1 μ) fun r1 μ2 => if r1 = 0 then (bd (f_X6_refusal (-2 : Int32) μ2) fun r4 μ5 => some (r4, μ5)) else (bd (f_X6_isSlot a2 μ2) fun r6 μ7 => if r6 = 0 then (bd (f_X6_refusal (-2 : Int32) μ7) fun r11 μ12 => some (r11, μ12)) else (bd (f_X4_fixedPhrase a1 a2 μ7) fun r9 μ10 => some (r9, μ10)))
theorem m_X6_fixes (g : Gx) (μ : Mm) (a1 : Int32) (a2 : Int32) : Zm g ΛC enI yX6_fixes cX6_fixes 3 (some .int) rX6_fixes [.ref (g.2.2.1 0), .int a1, .int a2] μ (f_X6_fixes a1 a2 μ) := by
  refine z_met (by decide +kernel) (Nat.le_of_ble_eq_true rfl) ?_
  change Zw g ΛC enI RX6 cX6_fixes 3 (some .int) rX6_fixes 0 [(0, .ref (g.2.2.1 0)), (1, .int a1), (2, .int a2)] [] μ (f_X6_fixes a1 a2 μ)
  rw [f_X6_fixes]
  refine z_iload_n (pc := 0) 1 dX6_fixes_0 rfl rfl ?_
  refine z_callS (pc := 1) (As := [.int a1]) (rest := []) kX6_107 (m_X6_isMaker g μ a1) ⟨rfl, rfl⟩ ⟨Nat.le_of_ble_eq_true rfl, Nat.le_of_ble_eq_true rfl⟩ (Nat.le_of_ble_eq_true rfl) rfl rfl dX6_fixes_1 (fun r1 μ2 => ?_)
  change Zw g ΛC enI RX6 cX6_fixes 3 (some .int) rX6_fixes 4 [(0, .ref (g.2.2.1 0)), (1, .int a1), (2, .int a2)] [.int r1] μ2 _
  refine z_if_eq (pc := 4) (tgt := 14) dX6_fixes_4 (by decide) (fun h3 => ?_) (fun h3 => ?_)
  · refine z_aload_n (pc := 14) 0 dX6_fixes_14 rfl rfl ?_
    refine z_bipush (pc := 15) (v := -2) dX6_fixes_15 (by decide +kernel) ?_
    refine z_callV (pc := 17) (b := 0) (As := [.int (-2 : Int32)]) (rest := []) kX6_90 (m_X6_refusal g μ2 (-2 : Int32)) ltC_0 kdC_0 rfl rfl ⟨rfl, rfl⟩ ⟨Nat.le_of_ble_eq_true rfl, Nat.le_of_ble_eq_true rfl⟩ (Nat.le_of_ble_eq_true rfl) rfl rfl dX6_fixes_17 (fun r4 μ5 => ?_)
    change Zw g ΛC enI RX6 cX6_fixes 3 (some .int) rX6_fixes 20 [(0, .ref (g.2.2.1 0)), (1, .int a1), (2, .int a2)] [.int r4] μ5 _
    exact z_iret dX6_fixes_20
  · refine z_iload_n (pc := 7) 2 dX6_fixes_7 rfl rfl ?_
    refine z_callS (pc := 8) (As := [.int a2]) (rest := []) kX6_130 (m_X6_isSlot g μ2 a2) ⟨rfl, rfl⟩ ⟨Nat.le_of_ble_eq_true rfl, Nat.le_of_ble_eq_true rfl⟩ (Nat.le_of_ble_eq_true rfl) rfl rfl dX6_fixes_8 (fun r6 μ7 => ?_)
    change Zw g ΛC enI RX6 cX6_fixes 3 (some .int) rX6_fixes 11 [(0, .ref (g.2.2.1 0)), (1, .int a1), (2, .int a2)] [.int r6] μ7 _
    refine z_if_ne (pc := 11) (tgt := 21) dX6_fixes_11 (by decide) (fun h8 => ?_) (fun h8 => ?_)
    · refine z_aload_n (pc := 21) 0 dX6_fixes_21 rfl rfl ?_
      refine z_get (pc := 22) (v := .ref (g.2.2.1 1)) flX6_15 jnX6 ltC_0 kdC_0 rfl (by decide) rfl foC_0_0 rfl dX6_fixes_22 ?_
      refine z_iload_n (pc := 25) 1 dX6_fixes_25 rfl rfl ?_
      refine z_iload_n (pc := 26) 2 dX6_fixes_26 rfl rfl ?_
      refine z_callV (pc := 27) (b := 1) (As := [.int a1, .int a2]) (rest := []) kX6_133 (m_X4_fixedPhrase g μ7 a1 a2) ltC_1 kdC_1 rfl rfl ⟨rfl, rfl⟩ ⟨Nat.le_of_ble_eq_true rfl, Nat.le_of_ble_eq_true rfl⟩ (Nat.le_of_ble_eq_true rfl) rfl rfl dX6_fixes_27 (fun r9 μ10 => ?_)
      change Zw g ΛC enI RX6 cX6_fixes 3 (some .int) rX6_fixes 30 [(0, .ref (g.2.2.1 0)), (1, .int a1), (2, .int a2)] [.int r9] μ10 _
      exact z_iret dX6_fixes_30
    · refine z_aload_n (pc := 14) 0 dX6_fixes_14 rfl rfl ?_
      refine z_bipush (pc := 15) (v := -2) dX6_fixes_15 (by decide +kernel) ?_
      refine z_callV (pc := 17) (b := 0) (As := [.int (-2 : Int32)]) (rest := []) kX6_90 (m_X6_refusal g μ7 (-2 : Int32)) ltC_0 kdC_0 rfl rfl ⟨rfl, rfl⟩ ⟨Nat.le_of_ble_eq_true rfl, Nat.le_of_ble_eq_true rfl⟩ (Nat.le_of_ble_eq_true rfl) rfl rfl dX6_fixes_17 (fun r11 μ12 => ?_)
      change Zw g ΛC enI RX6 cX6_fixes 3 (some .int) rX6_fixes 20 [(0, .ref (g.2.2.1 0)), (1, .int a1), (2, .int a2)] [.int r11] μ12 _
      exact z_iret dX6_fixes_20
def f_X6_metre (a1 : Int32) (μ : Mm) : Option (Int32 × Mm) := bd (f_X3_stage μ) fun r1 μ2 => bd (f_X4_setMetre a1 μ2) fun r3 μ4 => bd (f_X6_settled r3 μ4) fun r5 μ6 => some (r5, μ6)
theorem m_X6_metre (g : Gx) (μ : Mm) (a1 : Int32) : Zm g ΛC enI yX6_metre cX6_metre 2 (some .int) rX6_metre [.ref (g.2.2.1 0), .int a1] μ (f_X6_metre a1 μ) := by
  refine z_met (by decide +kernel) (Nat.le_of_ble_eq_true rfl) ?_
  change Zw g ΛC enI RX6 cX6_metre 2 (some .int) rX6_metre 0 [(0, .ref (g.2.2.1 0)), (1, .int a1)] [] μ (f_X6_metre a1 μ)
  rw [f_X6_metre]
  refine z_aload_n (pc := 0) 0 dX6_metre_0 rfl rfl ?_
  refine z_get (pc := 1) (v := .ref (g.2.2.1 22)) flX6_44 jnX6 ltC_0 kdC_0 rfl (by decide) rfl foC_0_4 rfl dX6_metre_1 ?_
  refine z_aload_n (pc := 4) 0 dX6_metre_4 rfl rfl ?_
  refine z_get (pc := 5) (v := .ref (g.2.2.1 1)) flX6_15 jnX6 ltC_0 kdC_0 rfl (by decide) rfl foC_0_0 rfl dX6_metre_5 ?_
  refine z_callV (pc := 8) (b := 22) (As := [.ref (g.2.2.1 1)]) (rest := []) kX6_59 (m_X3_stage g μ) ltC_22 kdC_22 rfl rfl ⟨rfl, rfl⟩ ⟨Nat.le_of_ble_eq_true rfl, Nat.le_of_ble_eq_true rfl⟩ (Nat.le_of_ble_eq_true rfl) rfl rfl dX6_metre_8 (fun r1 μ2 => ?_)
  change Zw g ΛC enI RX6 cX6_metre 2 (some .int) rX6_metre 11 [(0, .ref (g.2.2.1 0)), (1, .int a1)] [] μ2 _
  refine z_aload_n (pc := 11) 0 dX6_metre_11 rfl rfl ?_
  refine z_aload_n (pc := 12) 0 dX6_metre_12 rfl rfl ?_
  refine z_get (pc := 13) (v := .ref (g.2.2.1 1)) flX6_15 jnX6 ltC_0 kdC_0 rfl (by decide) rfl foC_0_0 rfl dX6_metre_13 ?_
  refine z_iload_n (pc := 16) 1 dX6_metre_16 rfl rfl ?_
  refine z_callV (pc := 17) (b := 1) (As := [.int a1]) (rest := [.ref (g.2.2.1 0)]) kX6_136 (m_X4_setMetre g μ2 a1) ltC_1 kdC_1 rfl rfl ⟨rfl, rfl⟩ ⟨Nat.le_of_ble_eq_true rfl, Nat.le_of_ble_eq_true rfl⟩ (Nat.le_of_ble_eq_true rfl) rfl rfl dX6_metre_17 (fun r3 μ4 => ?_)
  change Zw g ΛC enI RX6 cX6_metre 2 (some .int) rX6_metre 20 [(0, .ref (g.2.2.1 0)), (1, .int a1)] [.int r3, .ref (g.2.2.1 0)] μ4 _
  refine z_callV (pc := 20) (b := 0) (As := [.int r3]) (rest := []) kX6_66 (m_X6_settled g μ4 r3) ltC_0 kdC_0 rfl rfl ⟨rfl, rfl⟩ ⟨Nat.le_of_ble_eq_true rfl, Nat.le_of_ble_eq_true rfl⟩ (Nat.le_of_ble_eq_true rfl) rfl rfl dX6_metre_20 (fun r5 μ6 => ?_)
  change Zw g ΛC enI RX6 cX6_metre 2 (some .int) rX6_metre 23 [(0, .ref (g.2.2.1 0)), (1, .int a1)] [.int r5] μ6 _
  exact z_iret dX6_metre_23
def f_X6_marks (a1 : Int32) (a2 : Int32) (μ : Mm) : Option (Int32 × Mm) := bd (f_X3_stage μ) fun r1 μ2 => bd (f_X4_setMark a1 a2 μ2) fun r3 μ4 => bd (f_X6_settled r3 μ4) fun r5 μ6 => some (r5, μ6)
theorem m_X6_marks (g : Gx) (μ : Mm) (a1 : Int32) (a2 : Int32) : Zm g ΛC enI yX6_marks cX6_marks 3 (some .int) rX6_marks [.ref (g.2.2.1 0), .int a1, .int a2] μ (f_X6_marks a1 a2 μ) := by
  refine z_met (by decide +kernel) (Nat.le_of_ble_eq_true rfl) ?_
  change Zw g ΛC enI RX6 cX6_marks 3 (some .int) rX6_marks 0 [(0, .ref (g.2.2.1 0)), (1, .int a1), (2, .int a2)] [] μ (f_X6_marks a1 a2 μ)
  rw [f_X6_marks]
  refine z_aload_n (pc := 0) 0 dX6_marks_0 rfl rfl ?_
  refine z_get (pc := 1) (v := .ref (g.2.2.1 22)) flX6_44 jnX6 ltC_0 kdC_0 rfl (by decide) rfl foC_0_4 rfl dX6_marks_1 ?_
  refine z_aload_n (pc := 4) 0 dX6_marks_4 rfl rfl ?_
  refine z_get (pc := 5) (v := .ref (g.2.2.1 1)) flX6_15 jnX6 ltC_0 kdC_0 rfl (by decide) rfl foC_0_0 rfl dX6_marks_5 ?_
  refine z_callV (pc := 8) (b := 22) (As := [.ref (g.2.2.1 1)]) (rest := []) kX6_59 (m_X3_stage g μ) ltC_22 kdC_22 rfl rfl ⟨rfl, rfl⟩ ⟨Nat.le_of_ble_eq_true rfl, Nat.le_of_ble_eq_true rfl⟩ (Nat.le_of_ble_eq_true rfl) rfl rfl dX6_marks_8 (fun r1 μ2 => ?_)
  change Zw g ΛC enI RX6 cX6_marks 3 (some .int) rX6_marks 11 [(0, .ref (g.2.2.1 0)), (1, .int a1), (2, .int a2)] [] μ2 _
  refine z_aload_n (pc := 11) 0 dX6_marks_11 rfl rfl ?_
  refine z_aload_n (pc := 12) 0 dX6_marks_12 rfl rfl ?_
  refine z_get (pc := 13) (v := .ref (g.2.2.1 1)) flX6_15 jnX6 ltC_0 kdC_0 rfl (by decide) rfl foC_0_0 rfl dX6_marks_13 ?_
  refine z_iload_n (pc := 16) 1 dX6_marks_16 rfl rfl ?_
  refine z_iload_n (pc := 17) 2 dX6_marks_17 rfl rfl ?_
  refine z_callV (pc := 18) (b := 1) (As := [.int a1, .int a2]) (rest := [.ref (g.2.2.1 0)]) kX6_139 (m_X4_setMark g μ2 a1 a2) ltC_1 kdC_1 rfl rfl ⟨rfl, rfl⟩ ⟨Nat.le_of_ble_eq_true rfl, Nat.le_of_ble_eq_true rfl⟩ (Nat.le_of_ble_eq_true rfl) rfl rfl dX6_marks_18 (fun r3 μ4 => ?_)
  change Zw g ΛC enI RX6 cX6_marks 3 (some .int) rX6_marks 21 [(0, .ref (g.2.2.1 0)), (1, .int a1), (2, .int a2)] [.int r3, .ref (g.2.2.1 0)] μ4 _
  refine z_callV (pc := 21) (b := 0) (As := [.int r3]) (rest := []) kX6_66 (m_X6_settled g μ4 r3) ltC_0 kdC_0 rfl rfl ⟨rfl, rfl⟩ ⟨Nat.le_of_ble_eq_true rfl, Nat.le_of_ble_eq_true rfl⟩ (Nat.le_of_ble_eq_true rfl) rfl rfl dX6_marks_21 (fun r5 μ6 => ?_)
  change Zw g ΛC enI RX6 cX6_marks 3 (some .int) rX6_marks 24 [(0, .ref (g.2.2.1 0)), (1, .int a1), (2, .int a2)] [.int r5] μ6 _
  exact z_iret dX6_marks_24
def f_X6_countMade (a1 : Int32) (μ : Mm) : Option (Int64 × Mm) := bd (f_X0_layMetre μ) fun r1 μ2 => bd (f_X2_countAll a1 μ2) fun r3 μ4 => some (r3, μ4)
theorem m_X6_countMade (g : Gx) (μ : Mm) (a1 : Int32) : Zm g ΛC enJ yX6_countMade cX6_countMade 2 (some .long) rX6_countMade [.ref (g.2.2.1 0), .int a1] μ (f_X6_countMade a1 μ) := by
  refine z_met (by decide +kernel) (Nat.le_of_ble_eq_true rfl) ?_
  change Zw g ΛC enJ RX6 cX6_countMade 2 (some .long) rX6_countMade 0 [(0, .ref (g.2.2.1 0)), (1, .int a1)] [] μ (f_X6_countMade a1 μ)
  rw [f_X6_countMade]
  refine z_aload_n (pc := 0) 0 dX6_countMade_0 rfl rfl ?_
  refine z_get (pc := 1) (v := .ref (g.2.2.1 10)) flX6_21 jnX6 ltC_0 kdC_0 rfl (by decide) rfl foC_0_1 rfl dX6_countMade_1 ?_
  refine z_callV (pc := 4) (b := 10) (As := []) (rest := []) kX6_215 (m_X0_layMetre g μ) ltC_10 kdC_10 rfl rfl ⟨rfl, rfl⟩ ⟨Nat.le_of_ble_eq_true rfl, Nat.le_of_ble_eq_true rfl⟩ (Nat.le_of_ble_eq_true rfl) rfl rfl dX6_countMade_4 (fun r1 μ2 => ?_)
  change Zw g ΛC enJ RX6 cX6_countMade 2 (some .long) rX6_countMade 7 [(0, .ref (g.2.2.1 0)), (1, .int a1)] [] μ2 _
  refine z_aload_n (pc := 7) 0 dX6_countMade_7 rfl rfl ?_
  refine z_get (pc := 8) (v := .ref (g.2.2.1 13)) flX6_30 jnX6 ltC_0 kdC_0 rfl (by decide) rfl foC_0_2 rfl dX6_countMade_8 ?_
  refine z_iload_n (pc := 11) 1 dX6_countMade_11 rfl rfl ?_
  refine z_callV (pc := 12) (b := 13) (As := [.int a1]) (rest := []) kX6_212 (m_X2_countAll g μ2 a1) ltC_13 kdC_13 rfl rfl ⟨rfl, rfl⟩ ⟨Nat.le_of_ble_eq_true rfl, Nat.le_of_ble_eq_true rfl⟩ (Nat.le_of_ble_eq_true rfl) rfl rfl dX6_countMade_12 (fun r3 μ4 => ?_)
  change Zw g ΛC enJ RX6 cX6_countMade 2 (some .long) rX6_countMade 15 [(0, .ref (g.2.2.1 0)), (1, .int a1)] [.long r3] μ4 _
  exact z_lret dX6_countMade_15
def f_X6_made (μ : Mm) : Option (Int64 × Mm) := bd (f_X6_countMade (-1 : Int32) μ) fun r1 μ2 => if (0 : Int64) ≤ r1 then (some (r1, μ2)) else (bd (f_X6_refusal (-5 : Int32) μ2) fun r4 μ5 => some (r4.toInt64, μ5))
theorem m_X6_made (g : Gx) (μ : Mm) : Zm g ΛC enJ yX6_made cX6_made 3 (some .long) rX6_made [.ref (g.2.2.1 0)] μ (f_X6_made μ) := by
  refine z_met (by decide +kernel) (Nat.le_of_ble_eq_true rfl) ?_
  change Zw g ΛC enJ RX6 cX6_made 3 (some .long) rX6_made 0 [(0, .ref (g.2.2.1 0))] [] μ (f_X6_made μ)
  rw [f_X6_made]
  refine z_aload_n (pc := 0) 0 dX6_made_0 rfl rfl ?_
  refine z_iconst (pc := 1) (v := -1) dX6_made_1 rfl ?_
  refine z_callV (pc := 2) (b := 0) (As := [.int (-1 : Int32)]) (rest := []) kX6_142 (m_X6_countMade g μ (-1 : Int32)) ltC_0 kdC_0 rfl rfl ⟨rfl, rfl⟩ ⟨Nat.le_of_ble_eq_true rfl, Nat.le_of_ble_eq_true rfl⟩ (Nat.le_of_ble_eq_true rfl) rfl rfl dX6_made_2 (fun r1 μ2 => ?_)
  change Zw g ΛC enJ RX6 cX6_made 3 (some .long) rX6_made 5 [(0, .ref (g.2.2.1 0))] [.long r1] μ2 _
  refine z_lstore_n (pc := 5) (lv2 := [(0, .ref (g.2.2.1 0)), (1, .long r1)]) [1, 0] dX6_made_5 rfl (by decide) rfl ?_
  refine z_lload_n (pc := 6) 1 dX6_made_6 rfl rfl ?_
  refine z_lconst (pc := 7) (v := 0) dX6_made_7 (by decide +kernel) ?_
  refine z_lcmp_ge (pc := 8) (tgt := 22) dX6_made_8 dX6_made_9 (by decide) (fun h3 => ?_) (fun h3 => ?_)
  · refine z_lload_n (pc := 22) 1 dX6_made_22 rfl rfl ?_
    exact z_lret dX6_made_23
  · refine z_aload_n (pc := 12) 0 dX6_made_12 rfl rfl ?_
    refine z_bipush (pc := 13) (v := -5) dX6_made_13 (by decide +kernel) ?_
    refine z_callV (pc := 15) (b := 0) (As := [.int (-5 : Int32)]) (rest := []) kX6_90 (m_X6_refusal g μ2 (-5 : Int32)) ltC_0 kdC_0 rfl rfl ⟨rfl, rfl⟩ ⟨Nat.le_of_ble_eq_true rfl, Nat.le_of_ble_eq_true rfl⟩ (Nat.le_of_ble_eq_true rfl) rfl rfl dX6_made_15 (fun r4 μ5 => ?_)
    change Zw g ΛC enJ RX6 cX6_made 3 (some .long) rX6_made 18 [(0, .ref (g.2.2.1 0)), (1, .long r1)] [.int r4] μ5 _
    refine z_i2l (pc := 18) dX6_made_18 ?_
    refine z_goto (pc := 19) (tgt := 23) dX6_made_19 (by decide) ?_
    exact z_lret dX6_made_23
def f_X6_row (a1 : Int64) (a3 : Int32) (μ : Mm) : Option (Int32 × Mm) := if a1 < (0 : Int64) then (bd (f_X6_refusal (-2 : Int32) μ) fun r2 μ3 => some (r2, μ3)) else (if (-1 : Int32) ≤ a3 then (bd (f_X6_countMade (-1 : Int32) μ) fun r5 μ6 => if (0 : Int64) ≤ r5 then (if a1 < r5 then (bd (f_X2_findRow a1 μ6) fun r9 μ10 => bd (f_X6_partOf_16 (μ10.1 13 5) a3 μ10) fun r11 μ12 => some (r11, μ12)) else (bd (f_X6_refusal (-3 : Int32) μ6) fun r13 μ14 => some (r13, μ14))) else (bd (f_X6_refusal (-5 : Int32) μ6) fun r15 μ16 => some (r15, μ16))) else (bd (f_X6_refusal (-2 : Int32) μ) fun r17 μ18 => some (r17, μ18)))
theorem m_X6_row (g : Gx) (μ : Mm) (a1 : Int64) (a3 : Int32) : Zm g ΛC enI yX6_row cX6_row 6 (some .int) rX6_row [.ref (g.2.2.1 0), .long a1, .int a3] μ (f_X6_row a1 a3 μ) := by
  refine z_met (by decide +kernel) (Nat.le_of_ble_eq_true rfl) ?_
  change Zw g ΛC enI RX6 cX6_row 6 (some .int) rX6_row 0 [(0, .ref (g.2.2.1 0)), (1, .long a1), (3, .int a3)] [] μ (f_X6_row a1 a3 μ)
  rw [f_X6_row]
  refine z_lload_n (pc := 0) 1 dX6_row_0 rfl rfl ?_
  refine z_lconst (pc := 1) (v := 0) dX6_row_1 (by decide +kernel) ?_
  refine z_lcmp_lt (pc := 2) (tgt := 11) dX6_row_2 dX6_row_3 (by decide) (fun h1 => ?_) (fun h1 => ?_)
  · refine z_aload_n (pc := 11) 0 dX6_row_11 rfl rfl ?_
    refine z_bipush (pc := 12) (v := -2) dX6_row_12 (by decide +kernel) ?_
    refine z_callV (pc := 14) (b := 0) (As := [.int (-2 : Int32)]) (rest := []) kX6_90 (m_X6_refusal g μ (-2 : Int32)) ltC_0 kdC_0 rfl rfl ⟨rfl, rfl⟩ ⟨Nat.le_of_ble_eq_true rfl, Nat.le_of_ble_eq_true rfl⟩ (Nat.le_of_ble_eq_true rfl) rfl rfl dX6_row_14 (fun r2 μ3 => ?_)
    change Zw g ΛC enI RX6 cX6_row 6 (some .int) rX6_row 17 [(0, .ref (g.2.2.1 0)), (1, .long a1), (3, .int a3)] [.int r2] μ3 _
    exact z_iret dX6_row_17
  · refine z_iload_n (pc := 6) 2 dX6_row_6 rfl rfl ?_
    refine z_iconst (pc := 7) (v := -1) dX6_row_7 rfl ?_
    refine z_icmp_ge (pc := 8) (tgt := 18) dX6_row_8 (by decide) (fun h4 => ?_) (fun h4 => ?_)
    · refine z_aload_n (pc := 18) 0 dX6_row_18 rfl rfl ?_
      refine z_iconst (pc := 19) (v := -1) dX6_row_19 rfl ?_
      refine z_callV (pc := 20) (b := 0) (As := [.int (-1 : Int32)]) (rest := []) kX6_142 (m_X6_countMade g μ (-1 : Int32)) ltC_0 kdC_0 rfl rfl ⟨rfl, rfl⟩ ⟨Nat.le_of_ble_eq_true rfl, Nat.le_of_ble_eq_true rfl⟩ (Nat.le_of_ble_eq_true rfl) rfl rfl dX6_row_20 (fun r5 μ6 => ?_)
      change Zw g ΛC enI RX6 cX6_row 6 (some .int) rX6_row 23 [(0, .ref (g.2.2.1 0)), (1, .long a1), (3, .int a3)] [.long r5] μ6 _
      refine z_lstore (pc := 23) (lv2 := [(0, .ref (g.2.2.1 0)), (1, .long a1), (3, .int a3), (4, .long r5)]) [1, 2, 3, 0] dX6_row_23 (by decide) rfl ?_
      refine z_lload (pc := 25) 3 dX6_row_25 rfl ?_
      refine z_lconst (pc := 27) (v := 0) dX6_row_27 (by decide +kernel) ?_
      refine z_lcmp_ge (pc := 28) (tgt := 39) dX6_row_28 dX6_row_29 (by decide) (fun h7 => ?_) (fun h7 => ?_)
      · refine z_lload_n (pc := 39) 1 dX6_row_39 rfl rfl ?_
        refine z_lload (pc := 40) 3 dX6_row_40 rfl ?_
        refine z_lcmp_lt (pc := 42) (tgt := 53) dX6_row_42 dX6_row_43 (by decide) (fun h8 => ?_) (fun h8 => ?_)
        · refine z_aload_n (pc := 53) 0 dX6_row_53 rfl rfl ?_
          refine z_get (pc := 54) (v := .ref (g.2.2.1 13)) flX6_30 jnX6 ltC_0 kdC_0 rfl (by decide) rfl foC_0_2 rfl dX6_row_54 ?_
          refine z_lload_n (pc := 57) 1 dX6_row_57 rfl rfl ?_
          refine z_callV (pc := 58) (b := 13) (As := [.long a1]) (rest := []) kX6_146 (m_X2_findRow g μ6 a1) ltC_13 kdC_13 rfl rfl ⟨rfl, rfl⟩ ⟨Nat.le_of_ble_eq_true rfl, Nat.le_of_ble_eq_true rfl⟩ (Nat.le_of_ble_eq_true rfl) rfl rfl dX6_row_58 (fun r9 μ10 => ?_)
          change Zw g ΛC enI RX6 cX6_row 6 (some .int) rX6_row 61 [(0, .ref (g.2.2.1 0)), (1, .long a1), (3, .int a3), (4, .long r5)] [] μ10 _
          refine z_aload_n (pc := 61) 0 dX6_row_61 rfl rfl ?_
          refine z_get (pc := 62) (v := .ref (g.2.2.1 13)) flX6_30 jnX6 ltC_0 kdC_0 rfl (by decide) rfl foC_0_2 rfl dX6_row_62 ?_
          refine z_get (pc := 65) (v := .ref (g.2.2.1 16)) flX6_150 jnX2 ltC_13 kdC_13 rfl (by decide) rfl foC_13_4 rfl dX6_row_65 ?_
          refine z_aload_n (pc := 68) 0 dX6_row_68 rfl rfl ?_
          refine z_get (pc := 69) (v := .ref (g.2.2.1 13)) flX6_30 jnX6 ltC_0 kdC_0 rfl (by decide) rfl foC_0_2 rfl dX6_row_69 ?_
          refine z_get (pc := 72) (v := .int (μ10.1 13 5)) flX6_153 jnX2 ltC_13 kdC_13 rfl (by decide) rfl foC_13_5 rfl dX6_row_72 ?_
          refine z_iload_n (pc := 75) 2 dX6_row_75 rfl rfl ?_
          refine z_callS (pc := 76) (As := [.ref (g.2.2.1 16), .int (μ10.1 13 5), .int a3]) (rest := []) kX6_123 (m_X6_partOf_16 g μ10 (μ10.1 13 5) a3) ⟨rfl, rfl⟩ ⟨Nat.le_of_ble_eq_true rfl, Nat.le_of_ble_eq_true rfl⟩ (Nat.le_of_ble_eq_true rfl) rfl rfl dX6_row_76 (fun r11 μ12 => ?_)
          change Zw g ΛC enI RX6 cX6_row 6 (some .int) rX6_row 79 [(0, .ref (g.2.2.1 0)), (1, .long a1), (3, .int a3), (4, .long r5)] [.int r11] μ12 _
          exact z_iret dX6_row_79
        · refine z_aload_n (pc := 46) 0 dX6_row_46 rfl rfl ?_
          refine z_bipush (pc := 47) (v := -3) dX6_row_47 (by decide +kernel) ?_
          refine z_callV (pc := 49) (b := 0) (As := [.int (-3 : Int32)]) (rest := []) kX6_90 (m_X6_refusal g μ6 (-3 : Int32)) ltC_0 kdC_0 rfl rfl ⟨rfl, rfl⟩ ⟨Nat.le_of_ble_eq_true rfl, Nat.le_of_ble_eq_true rfl⟩ (Nat.le_of_ble_eq_true rfl) rfl rfl dX6_row_49 (fun r13 μ14 => ?_)
          change Zw g ΛC enI RX6 cX6_row 6 (some .int) rX6_row 52 [(0, .ref (g.2.2.1 0)), (1, .long a1), (3, .int a3), (4, .long r5)] [.int r13] μ14 _
          exact z_iret dX6_row_52
      · refine z_aload_n (pc := 32) 0 dX6_row_32 rfl rfl ?_
        refine z_bipush (pc := 33) (v := -5) dX6_row_33 (by decide +kernel) ?_
        refine z_callV (pc := 35) (b := 0) (As := [.int (-5 : Int32)]) (rest := []) kX6_90 (m_X6_refusal g μ6 (-5 : Int32)) ltC_0 kdC_0 rfl rfl ⟨rfl, rfl⟩ ⟨Nat.le_of_ble_eq_true rfl, Nat.le_of_ble_eq_true rfl⟩ (Nat.le_of_ble_eq_true rfl) rfl rfl dX6_row_35 (fun r15 μ16 => ?_)
        change Zw g ΛC enI RX6 cX6_row 6 (some .int) rX6_row 38 [(0, .ref (g.2.2.1 0)), (1, .long a1), (3, .int a3), (4, .long r5)] [.int r15] μ16 _
        exact z_iret dX6_row_38
    · refine z_aload_n (pc := 11) 0 dX6_row_11 rfl rfl ?_
      refine z_bipush (pc := 12) (v := -2) dX6_row_12 (by decide +kernel) ?_
      refine z_callV (pc := 14) (b := 0) (As := [.int (-2 : Int32)]) (rest := []) kX6_90 (m_X6_refusal g μ (-2 : Int32)) ltC_0 kdC_0 rfl rfl ⟨rfl, rfl⟩ ⟨Nat.le_of_ble_eq_true rfl, Nat.le_of_ble_eq_true rfl⟩ (Nat.le_of_ble_eq_true rfl) rfl rfl dX6_row_14 (fun r17 μ18 => ?_)
      change Zw g ΛC enI RX6 cX6_row 6 (some .int) rX6_row 17 [(0, .ref (g.2.2.1 0)), (1, .long a1), (3, .int a3)] [.int r17] μ18 _
      exact z_iret dX6_row_17
def f_X6_weight (a1 : Int32) (a2 : Int32) (μ : Mm) : Option (Int64 × Mm) := bd (f_X6_isMaker a1 μ) fun r1 μ2 => if r1 = 0 then (bd (f_X6_refusal (-2 : Int32) μ2) fun r4 μ5 => some (r4.toInt64, μ5)) else (if a2 = (-1 : Int32) then (bd (f_X6_countMade a1 μ2) fun r7 μ8 => if (0 : Int64) ≤ r7 then (if a2 = (-1 : Int32) then (some (r7, μ8)) else (bd (f_X2_shareOf (0 : Int32) (0 : Int32) a2 μ8) fun r11 μ12 => some (r11, μ12))) else (bd (f_X6_refusal (-5 : Int32) μ8) fun r13 μ14 => some (r13.toInt64, μ14))) else (bd (f_X4_hasPhrase a2 μ2) fun r15 μ16 => if r15 = 0 then (bd (f_X6_refusal (-2 : Int32) μ16) fun r26 μ27 => some (r26.toInt64, μ27)) else (bd (f_X6_countMade a1 μ16) fun r18 μ19 => if (0 : Int64) ≤ r18 then (if a2 = (-1 : Int32) then (some (r18, μ19)) else (bd (f_X2_shareOf (0 : Int32) (0 : Int32) a2 μ19) fun r22 μ23 => some (r22, μ23))) else (bd (f_X6_refusal (-5 : Int32) μ19) fun r24 μ25 => some (r24.toInt64, μ25)))))
theorem m_X6_weight (g : Gx) (μ : Mm) (a1 : Int32) (a2 : Int32) : Zm g ΛC enJ yX6_weight cX6_weight 5 (some .long) rX6_weight [.ref (g.2.2.1 0), .int a1, .int a2] μ (f_X6_weight a1 a2 μ) := by
  refine z_met (by decide +kernel) (Nat.le_of_ble_eq_true rfl) ?_
  change Zw g ΛC enJ RX6 cX6_weight 5 (some .long) rX6_weight 0 [(0, .ref (g.2.2.1 0)), (1, .int a1), (2, .int a2)] [] μ (f_X6_weight a1 a2 μ)
  rw [f_X6_weight]
  refine z_iload_n (pc := 0) 1 dX6_weight_0 rfl rfl ?_
  refine z_callS (pc := 1) (As := [.int a1]) (rest := []) kX6_107 (m_X6_isMaker g μ a1) ⟨rfl, rfl⟩ ⟨Nat.le_of_ble_eq_true rfl, Nat.le_of_ble_eq_true rfl⟩ (Nat.le_of_ble_eq_true rfl) rfl rfl dX6_weight_1 (fun r1 μ2 => ?_)
  change Zw g ΛC enJ RX6 cX6_weight 5 (some .long) rX6_weight 4 [(0, .ref (g.2.2.1 0)), (1, .int a1), (2, .int a2)] [.int r1] μ2 _
  refine z_if_eq (pc := 4) (tgt := 23) dX6_weight_4 (by decide) (fun h3 => ?_) (fun h3 => ?_)
  · refine z_aload_n (pc := 23) 0 dX6_weight_23 rfl rfl ?_
    refine z_bipush (pc := 24) (v := -2) dX6_weight_24 (by decide +kernel) ?_
    refine z_callV (pc := 26) (b := 0) (As := [.int (-2 : Int32)]) (rest := []) kX6_90 (m_X6_refusal g μ2 (-2 : Int32)) ltC_0 kdC_0 rfl rfl ⟨rfl, rfl⟩ ⟨Nat.le_of_ble_eq_true rfl, Nat.le_of_ble_eq_true rfl⟩ (Nat.le_of_ble_eq_true rfl) rfl rfl dX6_weight_26 (fun r4 μ5 => ?_)
    change Zw g ΛC enJ RX6 cX6_weight 5 (some .long) rX6_weight 29 [(0, .ref (g.2.2.1 0)), (1, .int a1), (2, .int a2)] [.int r4] μ5 _
    refine z_i2l (pc := 29) dX6_weight_29 ?_
    exact z_lret dX6_weight_30
  · refine z_iload_n (pc := 7) 2 dX6_weight_7 rfl rfl ?_
    refine z_iconst (pc := 8) (v := -1) dX6_weight_8 rfl ?_
    refine z_icmp_eq (pc := 9) (tgt := 31) dX6_weight_9 (by decide) (fun h6 => ?_) (fun h6 => ?_)
    · refine z_aload_n (pc := 31) 0 dX6_weight_31 rfl rfl ?_
      refine z_iload_n (pc := 32) 1 dX6_weight_32 rfl rfl ?_
      refine z_callV (pc := 33) (b := 0) (As := [.int a1]) (rest := []) kX6_142 (m_X6_countMade g μ2 a1) ltC_0 kdC_0 rfl rfl ⟨rfl, rfl⟩ ⟨Nat.le_of_ble_eq_true rfl, Nat.le_of_ble_eq_true rfl⟩ (Nat.le_of_ble_eq_true rfl) rfl rfl dX6_weight_33 (fun r7 μ8 => ?_)
      change Zw g ΛC enJ RX6 cX6_weight 5 (some .long) rX6_weight 36 [(0, .ref (g.2.2.1 0)), (1, .int a1), (2, .int a2)] [.long r7] μ8 _
      refine z_lstore_n (pc := 36) (lv2 := [(0, .ref (g.2.2.1 0)), (1, .int a1), (2, .int a2), (3, .long r7)]) [1, 2, 3, 0] dX6_weight_36 rfl (by decide) rfl ?_
      refine z_lload_n (pc := 37) 3 dX6_weight_37 rfl rfl ?_
      refine z_lconst (pc := 38) (v := 0) dX6_weight_38 (by decide +kernel) ?_
      refine z_lcmp_ge (pc := 39) (tgt := 51) dX6_weight_39 dX6_weight_40 (by decide) (fun h9 => ?_) (fun h9 => ?_)
      · refine z_iload_n (pc := 51) 2 dX6_weight_51 rfl rfl ?_
        refine z_iconst (pc := 52) (v := -1) dX6_weight_52 rfl ?_
        refine z_icmp_ne (pc := 53) (tgt := 60) dX6_weight_53 (by decide) (fun h10 => ?_) (fun h10 => ?_)
        · refine z_aload_n (pc := 60) 0 dX6_weight_60 rfl rfl ?_
          refine z_get (pc := 61) (v := .ref (g.2.2.1 13)) flX6_30 jnX6 ltC_0 kdC_0 rfl (by decide) rfl foC_0_2 rfl dX6_weight_61 ?_
          refine z_iconst (pc := 64) (v := 0) dX6_weight_64 rfl ?_
          refine z_iconst (pc := 65) (v := 0) dX6_weight_65 rfl ?_
          refine z_iload_n (pc := 66) 2 dX6_weight_66 rfl rfl ?_
          refine z_callV (pc := 67) (b := 13) (As := [.int (0 : Int32), .int (0 : Int32), .int a2]) (rest := []) kX6_156 (m_X2_shareOf g μ8 (0 : Int32) (0 : Int32) a2) ltC_13 kdC_13 rfl rfl ⟨rfl, rfl⟩ ⟨Nat.le_of_ble_eq_true rfl, Nat.le_of_ble_eq_true rfl⟩ (Nat.le_of_ble_eq_true rfl) rfl rfl dX6_weight_67 (fun r11 μ12 => ?_)
          change Zw g ΛC enJ RX6 cX6_weight 5 (some .long) rX6_weight 70 [(0, .ref (g.2.2.1 0)), (1, .int a1), (2, .int a2), (3, .long r7)] [.long r11] μ12 _
          exact z_lret dX6_weight_70
        · refine z_lload_n (pc := 56) 3 dX6_weight_56 rfl rfl ?_
          refine z_goto (pc := 57) (tgt := 70) dX6_weight_57 (by decide) ?_
          exact z_lret dX6_weight_70
      · refine z_aload_n (pc := 43) 0 dX6_weight_43 rfl rfl ?_
        refine z_bipush (pc := 44) (v := -5) dX6_weight_44 (by decide +kernel) ?_
        refine z_callV (pc := 46) (b := 0) (As := [.int (-5 : Int32)]) (rest := []) kX6_90 (m_X6_refusal g μ8 (-5 : Int32)) ltC_0 kdC_0 rfl rfl ⟨rfl, rfl⟩ ⟨Nat.le_of_ble_eq_true rfl, Nat.le_of_ble_eq_true rfl⟩ (Nat.le_of_ble_eq_true rfl) rfl rfl dX6_weight_46 (fun r13 μ14 => ?_)
        change Zw g ΛC enJ RX6 cX6_weight 5 (some .long) rX6_weight 49 [(0, .ref (g.2.2.1 0)), (1, .int a1), (2, .int a2), (3, .long r7)] [.int r13] μ14 _
        refine z_i2l (pc := 49) dX6_weight_49 ?_
        exact z_lret dX6_weight_50
    · refine z_aload_n (pc := 12) 0 dX6_weight_12 rfl rfl ?_
      refine z_get (pc := 13) (v := .ref (g.2.2.1 1)) flX6_15 jnX6 ltC_0 kdC_0 rfl (by decide) rfl foC_0_0 rfl dX6_weight_13 ?_
      refine z_iload_n (pc := 16) 2 dX6_weight_16 rfl rfl ?_
      refine z_callV (pc := 17) (b := 1) (As := [.int a2]) (rest := []) kX6_82 (m_X4_hasPhrase g μ2 a2) ltC_1 kdC_1 rfl rfl ⟨rfl, rfl⟩ ⟨Nat.le_of_ble_eq_true rfl, Nat.le_of_ble_eq_true rfl⟩ (Nat.le_of_ble_eq_true rfl) rfl rfl dX6_weight_17 (fun r15 μ16 => ?_)
      change Zw g ΛC enJ RX6 cX6_weight 5 (some .long) rX6_weight 20 [(0, .ref (g.2.2.1 0)), (1, .int a1), (2, .int a2)] [.int r15] μ16 _
      refine z_if_ne (pc := 20) (tgt := 31) dX6_weight_20 (by decide) (fun h17 => ?_) (fun h17 => ?_)
      · refine z_aload_n (pc := 31) 0 dX6_weight_31 rfl rfl ?_
        refine z_iload_n (pc := 32) 1 dX6_weight_32 rfl rfl ?_
        refine z_callV (pc := 33) (b := 0) (As := [.int a1]) (rest := []) kX6_142 (m_X6_countMade g μ16 a1) ltC_0 kdC_0 rfl rfl ⟨rfl, rfl⟩ ⟨Nat.le_of_ble_eq_true rfl, Nat.le_of_ble_eq_true rfl⟩ (Nat.le_of_ble_eq_true rfl) rfl rfl dX6_weight_33 (fun r18 μ19 => ?_)
        change Zw g ΛC enJ RX6 cX6_weight 5 (some .long) rX6_weight 36 [(0, .ref (g.2.2.1 0)), (1, .int a1), (2, .int a2)] [.long r18] μ19 _
        refine z_lstore_n (pc := 36) (lv2 := [(0, .ref (g.2.2.1 0)), (1, .int a1), (2, .int a2), (3, .long r18)]) [1, 2, 3, 0] dX6_weight_36 rfl (by decide) rfl ?_
        refine z_lload_n (pc := 37) 3 dX6_weight_37 rfl rfl ?_
        refine z_lconst (pc := 38) (v := 0) dX6_weight_38 (by decide +kernel) ?_
        refine z_lcmp_ge (pc := 39) (tgt := 51) dX6_weight_39 dX6_weight_40 (by decide) (fun h20 => ?_) (fun h20 => ?_)
        · refine z_iload_n (pc := 51) 2 dX6_weight_51 rfl rfl ?_
          refine z_iconst (pc := 52) (v := -1) dX6_weight_52 rfl ?_
          refine z_icmp_ne (pc := 53) (tgt := 60) dX6_weight_53 (by decide) (fun h21 => ?_) (fun h21 => ?_)
          · refine z_aload_n (pc := 60) 0 dX6_weight_60 rfl rfl ?_
            refine z_get (pc := 61) (v := .ref (g.2.2.1 13)) flX6_30 jnX6 ltC_0 kdC_0 rfl (by decide) rfl foC_0_2 rfl dX6_weight_61 ?_
            refine z_iconst (pc := 64) (v := 0) dX6_weight_64 rfl ?_
            refine z_iconst (pc := 65) (v := 0) dX6_weight_65 rfl ?_
            refine z_iload_n (pc := 66) 2 dX6_weight_66 rfl rfl ?_
            refine z_callV (pc := 67) (b := 13) (As := [.int (0 : Int32), .int (0 : Int32), .int a2]) (rest := []) kX6_156 (m_X2_shareOf g μ19 (0 : Int32) (0 : Int32) a2) ltC_13 kdC_13 rfl rfl ⟨rfl, rfl⟩ ⟨Nat.le_of_ble_eq_true rfl, Nat.le_of_ble_eq_true rfl⟩ (Nat.le_of_ble_eq_true rfl) rfl rfl dX6_weight_67 (fun r22 μ23 => ?_)
            change Zw g ΛC enJ RX6 cX6_weight 5 (some .long) rX6_weight 70 [(0, .ref (g.2.2.1 0)), (1, .int a1), (2, .int a2), (3, .long r18)] [.long r22] μ23 _
            exact z_lret dX6_weight_70
          · refine z_lload_n (pc := 56) 3 dX6_weight_56 rfl rfl ?_
            refine z_goto (pc := 57) (tgt := 70) dX6_weight_57 (by decide) ?_
            exact z_lret dX6_weight_70
        · refine z_aload_n (pc := 43) 0 dX6_weight_43 rfl rfl ?_
          refine z_bipush (pc := 44) (v := -5) dX6_weight_44 (by decide +kernel) ?_
          refine z_callV (pc := 46) (b := 0) (As := [.int (-5 : Int32)]) (rest := []) kX6_90 (m_X6_refusal g μ19 (-5 : Int32)) ltC_0 kdC_0 rfl rfl ⟨rfl, rfl⟩ ⟨Nat.le_of_ble_eq_true rfl, Nat.le_of_ble_eq_true rfl⟩ (Nat.le_of_ble_eq_true rfl) rfl rfl dX6_weight_46 (fun r24 μ25 => ?_)
          change Zw g ΛC enJ RX6 cX6_weight 5 (some .long) rX6_weight 49 [(0, .ref (g.2.2.1 0)), (1, .int a1), (2, .int a2), (3, .long r18)] [.int r24] μ25 _
          refine z_i2l (pc := 49) dX6_weight_49 ?_
          exact z_lret dX6_weight_50
      · refine z_aload_n (pc := 23) 0 dX6_weight_23 rfl rfl ?_
        refine z_bipush (pc := 24) (v := -2) dX6_weight_24 (by decide +kernel) ?_
        refine z_callV (pc := 26) (b := 0) (As := [.int (-2 : Int32)]) (rest := []) kX6_90 (m_X6_refusal g μ16 (-2 : Int32)) ltC_0 kdC_0 rfl rfl ⟨rfl, rfl⟩ ⟨Nat.le_of_ble_eq_true rfl, Nat.le_of_ble_eq_true rfl⟩ (Nat.le_of_ble_eq_true rfl) rfl rfl dX6_weight_26 (fun r26 μ27 => ?_)
        change Zw g ΛC enJ RX6 cX6_weight 5 (some .long) rX6_weight 29 [(0, .ref (g.2.2.1 0)), (1, .int a1), (2, .int a2)] [.int r26] μ27 _
        refine z_i2l (pc := 29) dX6_weight_29 ?_
        exact z_lret dX6_weight_30
def f_X6_picks (a1 : Int32) (a2 : Int32) (a3 : Int32) (μ : Mm) : Option (Int32 × Mm) := bd (f_X6_isMaker a1 μ) fun r1 μ2 => if r1 = 0 then (bd (f_X6_refusal (-2 : Int32) μ2) fun r4 μ5 => some (r4, μ5)) else (bd (f_X6_within a2 (0 : Int32) (999999 : Int32) μ2) fun r6 μ7 => if r6 = 0 then (bd (f_X6_refusal (-2 : Int32) μ7) fun r9 μ10 => some (r9, μ10)) else (if (-1 : Int32) ≤ a3 then (bd (f_X6_countMade a1 μ7) fun r12 μ13 => if (0 : Int64) ≤ r12 then (if r12 = (0 : Int64) then (bd (f_X6_refusal (-3 : Int32) μ13) fun r20 μ21 => some (r20, μ21)) else (if ¬ r12 = 0 then (bd (f_X2_findRow ((((a2.toInt64 * (1103515245 : Int64)) + (12345 : Int64)) - ((a2.toInt64 * (1103515245 : Int64)) + (12345 : Int64)) / (2147483648 : Int64) * (2147483648 : Int64)) - (((a2.toInt64 * (1103515245 : Int64)) + (12345 : Int64)) - ((a2.toInt64 * (1103515245 : Int64)) + (12345 : Int64)) / (2147483648 : Int64) * (2147483648 : Int64)) / r12 * r12) μ13) fun r16 μ17 => bd (f_X6_partOf_16 (μ17.1 13 5) a3 μ17) fun r18 μ19 => some (r18, μ19)) else none)) else (bd (f_X6_refusal (-5 : Int32) μ13) fun r22 μ23 => some (r22, μ23))) else (bd (f_X6_refusal (-2 : Int32) μ7) fun r24 μ25 => some (r24, μ25))))
theorem m_X6_picks (g : Gx) (μ : Mm) (a1 : Int32) (a2 : Int32) (a3 : Int32) : Zm g ΛC enI yX6_picks cX6_picks 8 (some .int) rX6_picks [.ref (g.2.2.1 0), .int a1, .int a2, .int a3] μ (f_X6_picks a1 a2 a3 μ) := by
  refine z_met (by decide +kernel) (Nat.le_of_ble_eq_true rfl) ?_
  change Zw g ΛC enI RX6 cX6_picks 8 (some .int) rX6_picks 0 [(0, .ref (g.2.2.1 0)), (1, .int a1), (2, .int a2), (3, .int a3)] [] μ (f_X6_picks a1 a2 a3 μ)
  rw [f_X6_picks]
  refine z_iload_n (pc := 0) 1 dX6_picks_0 rfl rfl ?_
  refine z_callS (pc := 1) (As := [.int a1]) (rest := []) kX6_107 (m_X6_isMaker g μ a1) ⟨rfl, rfl⟩ ⟨Nat.le_of_ble_eq_true rfl, Nat.le_of_ble_eq_true rfl⟩ (Nat.le_of_ble_eq_true rfl) rfl rfl dX6_picks_1 (fun r1 μ2 => ?_)
  change Zw g ΛC enI RX6 cX6_picks 8 (some .int) rX6_picks 4 [(0, .ref (g.2.2.1 0)), (1, .int a1), (2, .int a2), (3, .int a3)] [.int r1] μ2 _
  refine z_if_eq (pc := 4) (tgt := 22) dX6_picks_4 (by decide) (fun h3 => ?_) (fun h3 => ?_)
  · refine z_aload_n (pc := 22) 0 dX6_picks_22 rfl rfl ?_
    refine z_bipush (pc := 23) (v := -2) dX6_picks_23 (by decide +kernel) ?_
    refine z_callV (pc := 25) (b := 0) (As := [.int (-2 : Int32)]) (rest := []) kX6_90 (m_X6_refusal g μ2 (-2 : Int32)) ltC_0 kdC_0 rfl rfl ⟨rfl, rfl⟩ ⟨Nat.le_of_ble_eq_true rfl, Nat.le_of_ble_eq_true rfl⟩ (Nat.le_of_ble_eq_true rfl) rfl rfl dX6_picks_25 (fun r4 μ5 => ?_)
    change Zw g ΛC enI RX6 cX6_picks 8 (some .int) rX6_picks 28 [(0, .ref (g.2.2.1 0)), (1, .int a1), (2, .int a2), (3, .int a3)] [.int r4] μ5 _
    exact z_iret dX6_picks_28
  · refine z_iload_n (pc := 7) 2 dX6_picks_7 rfl rfl ?_
    refine z_iconst (pc := 8) (v := 0) dX6_picks_8 rfl ?_
    refine z_ldc (pc := 9) (v := 999999) kcX6_160 dX6_picks_9 ?_
    refine z_callS (pc := 11) (As := [.int a2, .int (0 : Int32), .int (999999 : Int32)]) (rest := []) kX6_86 (m_X6_within g μ2 a2 (0 : Int32) (999999 : Int32)) ⟨rfl, rfl⟩ ⟨Nat.le_of_ble_eq_true rfl, Nat.le_of_ble_eq_true rfl⟩ (Nat.le_of_ble_eq_true rfl) rfl rfl dX6_picks_11 (fun r6 μ7 => ?_)
    change Zw g ΛC enI RX6 cX6_picks 8 (some .int) rX6_picks 14 [(0, .ref (g.2.2.1 0)), (1, .int a1), (2, .int a2), (3, .int a3)] [.int r6] μ7 _
    refine z_if_eq (pc := 14) (tgt := 22) dX6_picks_14 (by decide) (fun h8 => ?_) (fun h8 => ?_)
    · refine z_aload_n (pc := 22) 0 dX6_picks_22 rfl rfl ?_
      refine z_bipush (pc := 23) (v := -2) dX6_picks_23 (by decide +kernel) ?_
      refine z_callV (pc := 25) (b := 0) (As := [.int (-2 : Int32)]) (rest := []) kX6_90 (m_X6_refusal g μ7 (-2 : Int32)) ltC_0 kdC_0 rfl rfl ⟨rfl, rfl⟩ ⟨Nat.le_of_ble_eq_true rfl, Nat.le_of_ble_eq_true rfl⟩ (Nat.le_of_ble_eq_true rfl) rfl rfl dX6_picks_25 (fun r9 μ10 => ?_)
      change Zw g ΛC enI RX6 cX6_picks 8 (some .int) rX6_picks 28 [(0, .ref (g.2.2.1 0)), (1, .int a1), (2, .int a2), (3, .int a3)] [.int r9] μ10 _
      exact z_iret dX6_picks_28
    · refine z_iload_n (pc := 17) 3 dX6_picks_17 rfl rfl ?_
      refine z_iconst (pc := 18) (v := -1) dX6_picks_18 rfl ?_
      refine z_icmp_ge (pc := 19) (tgt := 29) dX6_picks_19 (by decide) (fun h11 => ?_) (fun h11 => ?_)
      · refine z_aload_n (pc := 29) 0 dX6_picks_29 rfl rfl ?_
        refine z_iload_n (pc := 30) 1 dX6_picks_30 rfl rfl ?_
        refine z_callV (pc := 31) (b := 0) (As := [.int a1]) (rest := []) kX6_142 (m_X6_countMade g μ7 a1) ltC_0 kdC_0 rfl rfl ⟨rfl, rfl⟩ ⟨Nat.le_of_ble_eq_true rfl, Nat.le_of_ble_eq_true rfl⟩ (Nat.le_of_ble_eq_true rfl) rfl rfl dX6_picks_31 (fun r12 μ13 => ?_)
        change Zw g ΛC enI RX6 cX6_picks 8 (some .int) rX6_picks 34 [(0, .ref (g.2.2.1 0)), (1, .int a1), (2, .int a2), (3, .int a3)] [.long r12] μ13 _
        refine z_lstore (pc := 34) (lv2 := [(0, .ref (g.2.2.1 0)), (1, .int a1), (2, .int a2), (3, .int a3), (4, .long r12)]) [1, 2, 3, 4, 0] dX6_picks_34 (by decide) rfl ?_
        refine z_lload (pc := 36) 4 dX6_picks_36 rfl ?_
        refine z_lconst (pc := 38) (v := 0) dX6_picks_38 (by decide +kernel) ?_
        refine z_lcmp_ge (pc := 39) (tgt := 50) dX6_picks_39 dX6_picks_40 (by decide) (fun h14 => ?_) (fun h14 => ?_)
        · refine z_lload (pc := 50) 4 dX6_picks_50 rfl ?_
          refine z_lconst (pc := 52) (v := 0) dX6_picks_52 (by decide +kernel) ?_
          refine z_lcmp_ne (pc := 53) (tgt := 64) dX6_picks_53 dX6_picks_54 (by decide) (fun h15 => ?_) (fun h15 => ?_)
          · refine z_iload_n (pc := 64) 2 dX6_picks_64 rfl rfl ?_
            refine z_i2l (pc := 65) dX6_picks_65 ?_
            refine z_ldc2 (pc := 66) (v := 1103515245) klX6_161 dX6_picks_66 ?_
            refine z_lmul (pc := 69) dX6_picks_69 ?_
            refine z_ldc2 (pc := 70) (v := 12345) klX6_163 dX6_picks_70 ?_
            refine z_ladd (pc := 73) dX6_picks_73 ?_
            refine z_ldc2 (pc := 74) (v := 2147483648) klX6_165 dX6_picks_74 ?_
            refine z_lrem (pc := 77) dX6_picks_77 (by decide +kernel) ?_
            refine z_lstore (pc := 78) (lv2 := [(0, .ref (g.2.2.1 0)), (1, .int a1), (2, .int a2), (3, .int a3), (4, .long r12), (6, .long (((a2.toInt64 * (1103515245 : Int64)) + (12345 : Int64)) - ((a2.toInt64 * (1103515245 : Int64)) + (12345 : Int64)) / (2147483648 : Int64) * (2147483648 : Int64)))]) [1, 2, 3, 4, 5, 0] dX6_picks_78 (by decide) rfl ?_
            refine z_aload_n (pc := 80) 0 dX6_picks_80 rfl rfl ?_
            refine z_get (pc := 81) (v := .ref (g.2.2.1 13)) flX6_30 jnX6 ltC_0 kdC_0 rfl (by decide) rfl foC_0_2 rfl dX6_picks_81 ?_
            refine z_lload (pc := 84) 5 dX6_picks_84 rfl ?_
            refine z_lload (pc := 86) 4 dX6_picks_86 rfl ?_
            refine z_lrem_g (pc := 88) dX6_picks_88 ?_
            refine z_callV (pc := 89) (b := 13) (As := [.long ((((a2.toInt64 * (1103515245 : Int64)) + (12345 : Int64)) - ((a2.toInt64 * (1103515245 : Int64)) + (12345 : Int64)) / (2147483648 : Int64) * (2147483648 : Int64)) - (((a2.toInt64 * (1103515245 : Int64)) + (12345 : Int64)) - ((a2.toInt64 * (1103515245 : Int64)) + (12345 : Int64)) / (2147483648 : Int64) * (2147483648 : Int64)) / r12 * r12)]) (rest := []) kX6_146 (m_X2_findRow g μ13 ((((a2.toInt64 * (1103515245 : Int64)) + (12345 : Int64)) - ((a2.toInt64 * (1103515245 : Int64)) + (12345 : Int64)) / (2147483648 : Int64) * (2147483648 : Int64)) - (((a2.toInt64 * (1103515245 : Int64)) + (12345 : Int64)) - ((a2.toInt64 * (1103515245 : Int64)) + (12345 : Int64)) / (2147483648 : Int64) * (2147483648 : Int64)) / r12 * r12)) ltC_13 kdC_13 rfl rfl ⟨rfl, rfl⟩ ⟨Nat.le_of_ble_eq_true rfl, Nat.le_of_ble_eq_true rfl⟩ (Nat.le_of_ble_eq_true rfl) rfl rfl dX6_picks_89 (fun r16 μ17 => ?_)
            change Zw g ΛC enI RX6 cX6_picks 8 (some .int) rX6_picks 92 [(0, .ref (g.2.2.1 0)), (1, .int a1), (2, .int a2), (3, .int a3), (4, .long r12), (6, .long (((a2.toInt64 * (1103515245 : Int64)) + (12345 : Int64)) - ((a2.toInt64 * (1103515245 : Int64)) + (12345 : Int64)) / (2147483648 : Int64) * (2147483648 : Int64)))] [] μ17 _
            refine z_aload_n (pc := 92) 0 dX6_picks_92 rfl rfl ?_
            refine z_get (pc := 93) (v := .ref (g.2.2.1 13)) flX6_30 jnX6 ltC_0 kdC_0 rfl (by decide) rfl foC_0_2 rfl dX6_picks_93 ?_
            refine z_get (pc := 96) (v := .ref (g.2.2.1 16)) flX6_150 jnX2 ltC_13 kdC_13 rfl (by decide) rfl foC_13_4 rfl dX6_picks_96 ?_
            refine z_aload_n (pc := 99) 0 dX6_picks_99 rfl rfl ?_
            refine z_get (pc := 100) (v := .ref (g.2.2.1 13)) flX6_30 jnX6 ltC_0 kdC_0 rfl (by decide) rfl foC_0_2 rfl dX6_picks_100 ?_
            refine z_get (pc := 103) (v := .int (μ17.1 13 5)) flX6_153 jnX2 ltC_13 kdC_13 rfl (by decide) rfl foC_13_5 rfl dX6_picks_103 ?_
            refine z_iload_n (pc := 106) 3 dX6_picks_106 rfl rfl ?_
            refine z_callS (pc := 107) (As := [.ref (g.2.2.1 16), .int (μ17.1 13 5), .int a3]) (rest := []) kX6_123 (m_X6_partOf_16 g μ17 (μ17.1 13 5) a3) ⟨rfl, rfl⟩ ⟨Nat.le_of_ble_eq_true rfl, Nat.le_of_ble_eq_true rfl⟩ (Nat.le_of_ble_eq_true rfl) rfl rfl dX6_picks_107 (fun r18 μ19 => ?_)
            change Zw g ΛC enI RX6 cX6_picks 8 (some .int) rX6_picks 110 [(0, .ref (g.2.2.1 0)), (1, .int a1), (2, .int a2), (3, .int a3), (4, .long r12), (6, .long (((a2.toInt64 * (1103515245 : Int64)) + (12345 : Int64)) - ((a2.toInt64 * (1103515245 : Int64)) + (12345 : Int64)) / (2147483648 : Int64) * (2147483648 : Int64)))] [.int r18] μ19 _
            exact z_iret dX6_picks_110
          · refine z_aload_n (pc := 57) 0 dX6_picks_57 rfl rfl ?_
            refine z_bipush (pc := 58) (v := -3) dX6_picks_58 (by decide +kernel) ?_
            refine z_callV (pc := 60) (b := 0) (As := [.int (-3 : Int32)]) (rest := []) kX6_90 (m_X6_refusal g μ13 (-3 : Int32)) ltC_0 kdC_0 rfl rfl ⟨rfl, rfl⟩ ⟨Nat.le_of_ble_eq_true rfl, Nat.le_of_ble_eq_true rfl⟩ (Nat.le_of_ble_eq_true rfl) rfl rfl dX6_picks_60 (fun r20 μ21 => ?_)
            change Zw g ΛC enI RX6 cX6_picks 8 (some .int) rX6_picks 63 [(0, .ref (g.2.2.1 0)), (1, .int a1), (2, .int a2), (3, .int a3), (4, .long r12)] [.int r20] μ21 _
            exact z_iret dX6_picks_63
        · refine z_aload_n (pc := 43) 0 dX6_picks_43 rfl rfl ?_
          refine z_bipush (pc := 44) (v := -5) dX6_picks_44 (by decide +kernel) ?_
          refine z_callV (pc := 46) (b := 0) (As := [.int (-5 : Int32)]) (rest := []) kX6_90 (m_X6_refusal g μ13 (-5 : Int32)) ltC_0 kdC_0 rfl rfl ⟨rfl, rfl⟩ ⟨Nat.le_of_ble_eq_true rfl, Nat.le_of_ble_eq_true rfl⟩ (Nat.le_of_ble_eq_true rfl) rfl rfl dX6_picks_46 (fun r22 μ23 => ?_)
          change Zw g ΛC enI RX6 cX6_picks 8 (some .int) rX6_picks 49 [(0, .ref (g.2.2.1 0)), (1, .int a1), (2, .int a2), (3, .int a3), (4, .long r12)] [.int r22] μ23 _
          exact z_iret dX6_picks_49
      · refine z_aload_n (pc := 22) 0 dX6_picks_22 rfl rfl ?_
        refine z_bipush (pc := 23) (v := -2) dX6_picks_23 (by decide +kernel) ?_
        refine z_callV (pc := 25) (b := 0) (As := [.int (-2 : Int32)]) (rest := []) kX6_90 (m_X6_refusal g μ7 (-2 : Int32)) ltC_0 kdC_0 rfl rfl ⟨rfl, rfl⟩ ⟨Nat.le_of_ble_eq_true rfl, Nat.le_of_ble_eq_true rfl⟩ (Nat.le_of_ble_eq_true rfl) rfl rfl dX6_picks_25 (fun r24 μ25 => ?_)
        change Zw g ΛC enI RX6 cX6_picks 8 (some .int) rX6_picks 28 [(0, .ref (g.2.2.1 0)), (1, .int a1), (2, .int a2), (3, .int a3)] [.int r24] μ25 _
        exact z_iret dX6_picks_28
def f_X6_type (a1 : Int32) (μ : Mm) : Option (Int32 × Mm) := bd (f_X5_addByte a1 μ) fun r1 μ2 => if 0 ≤ r1 then (some (r1, μ2)) else (bd (f_X6_refusal r1 μ2) fun r4 μ5 => some (r4, μ5))
theorem m_X6_type (g : Gx) (μ : Mm) (a1 : Int32) : Zm g ΛC enI yX6_type cX6_type 3 (some .int) rX6_type [.ref (g.2.2.1 0), .int a1] μ (f_X6_type a1 μ) := by
  refine z_met (by decide +kernel) (Nat.le_of_ble_eq_true rfl) ?_
  change Zw g ΛC enI RX6 cX6_type 3 (some .int) rX6_type 0 [(0, .ref (g.2.2.1 0)), (1, .int a1)] [] μ (f_X6_type a1 μ)
  rw [f_X6_type]
  refine z_aload_n (pc := 0) 0 dX6_type_0 rfl rfl ?_
  refine z_get (pc := 1) (v := .ref (g.2.2.1 78)) flX6_51 jnX6 ltC_0 kdC_0 rfl (by decide) rfl foC_0_5 rfl dX6_type_1 ?_
  refine z_iload_n (pc := 4) 1 dX6_type_4 rfl rfl ?_
  refine z_callV (pc := 5) (b := 78) (As := [.int a1]) (rest := []) kX6_167 (m_X5_addByte g μ a1) ltC_78 kdC_78 rfl rfl ⟨rfl, rfl⟩ ⟨Nat.le_of_ble_eq_true rfl, Nat.le_of_ble_eq_true rfl⟩ (Nat.le_of_ble_eq_true rfl) rfl rfl dX6_type_5 (fun r1 μ2 => ?_)
  change Zw g ΛC enI RX6 cX6_type 3 (some .int) rX6_type 8 [(0, .ref (g.2.2.1 0)), (1, .int a1)] [.int r1] μ2 _
  refine z_istore_n (pc := 8) (lv2 := [(0, .ref (g.2.2.1 0)), (1, .int a1), (2, .int r1)]) [1, 2, 0] dX6_type_8 rfl (by decide) rfl ?_
  refine z_iload_n (pc := 9) 2 dX6_type_9 rfl rfl ?_
  refine z_if_ge (pc := 10) (tgt := 21) dX6_type_10 (by decide) (fun h3 => ?_) (fun h3 => ?_)
  · refine z_iload_n (pc := 21) 2 dX6_type_21 rfl rfl ?_
    exact z_iret dX6_type_22
  · refine z_aload_n (pc := 13) 0 dX6_type_13 rfl rfl ?_
    refine z_iload_n (pc := 14) 2 dX6_type_14 rfl rfl ?_
    refine z_callV (pc := 15) (b := 0) (As := [.int r1]) (rest := []) kX6_90 (m_X6_refusal g μ2 r1) ltC_0 kdC_0 rfl rfl ⟨rfl, rfl⟩ ⟨Nat.le_of_ble_eq_true rfl, Nat.le_of_ble_eq_true rfl⟩ (Nat.le_of_ble_eq_true rfl) rfl rfl dX6_type_15 (fun r4 μ5 => ?_)
    change Zw g ΛC enI RX6 cX6_type 3 (some .int) rX6_type 18 [(0, .ref (g.2.2.1 0)), (1, .int a1), (2, .int r1)] [.int r4] μ5 _
    refine z_goto (pc := 18) (tgt := 22) dX6_type_18 (by decide) ?_
    exact z_iret dX6_type_22
def f_X6_clear (μ : Mm) : Option (Int32 × Mm) := bd (f_X5_wipeBytes μ) fun r1 μ2 => some (r1, μ2)
theorem m_X6_clear (g : Gx) (μ : Mm) : Zm g ΛC enI yX6_clear cX6_clear 1 (some .int) rX6_clear [.ref (g.2.2.1 0)] μ (f_X6_clear μ) := by
  refine z_met (by decide +kernel) (Nat.le_of_ble_eq_true rfl) ?_
  change Zw g ΛC enI RX6 cX6_clear 1 (some .int) rX6_clear 0 [(0, .ref (g.2.2.1 0))] [] μ (f_X6_clear μ)
  rw [f_X6_clear]
  refine z_aload_n (pc := 0) 0 dX6_clear_0 rfl rfl ?_
  refine z_get (pc := 1) (v := .ref (g.2.2.1 78)) flX6_51 jnX6 ltC_0 kdC_0 rfl (by decide) rfl foC_0_5 rfl dX6_clear_1 ?_
  refine z_callV (pc := 4) (b := 78) (As := []) (rest := []) kX6_170 (m_X5_wipeBytes g μ) ltC_78 kdC_78 rfl rfl ⟨rfl, rfl⟩ ⟨Nat.le_of_ble_eq_true rfl, Nat.le_of_ble_eq_true rfl⟩ (Nat.le_of_ble_eq_true rfl) rfl rfl dX6_clear_4 (fun r1 μ2 => ?_)
  change Zw g ΛC enI RX6 cX6_clear 1 (some .int) rX6_clear 7 [(0, .ref (g.2.2.1 0))] [.int r1] μ2 _
  exact z_iret dX6_clear_7
def f_X6_doOrder (μ : Mm) : Option (Int32 × Mm) := if (μ.1 78 3) = 98 then (bd (f_X4_setBegins (μ.1 80 0) μ) fun r2 μ3 => some (r2, μ3)) else (if (μ.1 78 3) = 101 then (bd (f_X4_setEnds (μ.1 80 0) μ) fun r5 μ6 => some (r5, μ6)) else (if (μ.1 78 3) = 102 then (bd (f_X5_lettersAsCode μ) fun r8 μ9 => bd (f_X4_addPhrase (μ.1 80 0) r8 μ9) fun r10 μ11 => some (r10, μ11)) else (if (μ.1 78 3) = 107 then (bd (f_X4_setMark (μ.1 80 0) (μ.1 80 1) μ) fun r13 μ14 => some (r13, μ14)) else (if (μ.1 78 3) = 108 then (bd (f_X4_setLine (μ.1 78 6) μ) fun r16 μ17 => some (r16, μ17)) else (if (μ.1 78 3) = 115 then (bd (f_X6_singBest (μ.1 80 0) μ) fun r19 μ20 => some (r19, μ20)) else (if (μ.1 78 3) = 116 then (bd (f_X4_setMetre (μ.1 80 0) μ) fun r22 μ23 => some (r22, μ23)) else (if (μ.1 78 3) = 119 then (bd (f_X4_setFollows (μ.1 80 0) (μ.1 80 1) μ) fun r25 μ26 => some (r25, μ26)) else (if (μ.1 78 3) = 120 then (bd (f_X4_dropPhrase (μ.1 80 0) μ) fun r28 μ29 => some (r28, μ29)) else (some ((-2 : Int32), μ))))))))))
theorem m_X6_doOrder (g : Gx) (μ : Mm) : Zm g ΛC enI yX6_doOrder cX6_doOrder 3 (some .int) rX6_doOrder [.ref (g.2.2.1 0)] μ (f_X6_doOrder μ) := by
  refine z_met (by decide +kernel) (Nat.le_of_ble_eq_true rfl) ?_
  change Zw g ΛC enI RX6 cX6_doOrder 3 (some .int) rX6_doOrder 0 [(0, .ref (g.2.2.1 0))] [] μ (f_X6_doOrder μ)
  rw [f_X6_doOrder]
  refine z_aload_n (pc := 0) 0 dX6_doOrder_0 rfl rfl ?_
  refine z_get (pc := 1) (v := .ref (g.2.2.1 78)) flX6_51 jnX6 ltC_0 kdC_0 rfl (by decide) rfl foC_0_5 rfl dX6_doOrder_1 ?_
  refine z_get (pc := 4) (v := .ref (g.2.2.1 80)) flX6_222 jnX5 ltC_78 kdC_78 rfl (by decide) rfl foC_78_4 rfl dX6_doOrder_4 ?_
  refine z_iconst (pc := 7) (v := 0) dX6_doOrder_7 rfl ?_
  refine z_iaload (pc := 8) (j := 0) ltC_80 kdC_80 (by decide +kernel) (by decide +kernel) dX6_doOrder_8 ?_
  refine z_istore_n (pc := 9) (lv2 := [(0, .ref (g.2.2.1 0)), (1, .int (μ.1 80 0))]) [1, 0] dX6_doOrder_9 rfl (by decide) rfl ?_
  refine z_aload_n (pc := 10) 0 dX6_doOrder_10 rfl rfl ?_
  refine z_get (pc := 11) (v := .ref (g.2.2.1 78)) flX6_51 jnX6 ltC_0 kdC_0 rfl (by decide) rfl foC_0_5 rfl dX6_doOrder_11 ?_
  refine z_get (pc := 14) (v := .ref (g.2.2.1 80)) flX6_222 jnX5 ltC_78 kdC_78 rfl (by decide) rfl foC_78_4 rfl dX6_doOrder_14 ?_
  refine z_iconst (pc := 17) (v := 1) dX6_doOrder_17 rfl ?_
  refine z_iaload (pc := 18) (j := 1) ltC_80 kdC_80 (by decide +kernel) (by decide +kernel) dX6_doOrder_18 ?_
  refine z_istore_n (pc := 19) (lv2 := [(0, .ref (g.2.2.1 0)), (1, .int (μ.1 80 0)), (2, .int (μ.1 80 1))]) [1, 2, 0] dX6_doOrder_19 rfl (by decide) rfl ?_
  refine z_aload_n (pc := 20) 0 dX6_doOrder_20 rfl rfl ?_
  refine z_get (pc := 21) (v := .ref (g.2.2.1 78)) flX6_51 jnX6 ltC_0 kdC_0 rfl (by decide) rfl foC_0_5 rfl dX6_doOrder_21 ?_
  refine z_get (pc := 24) (v := .int (μ.1 78 3)) flX6_225 jnX5 ltC_78 kdC_78 rfl (by decide) rfl foC_78_3 rfl dX6_doOrder_24 ?_
  refine z_ite (fun h1 => ?_) (fun h1 => ?_)
  · refine z_tabIn (pc := 27) (tgt := 170) dX6_doOrder_27 (by rw [h1]; decide +kernel) (by rw [h1]; decide +kernel) (off := 143) (by rw [h1]; decide +kernel) (by decide) ?_
    refine z_aload_n (pc := 170) 0 dX6_doOrder_170 rfl rfl ?_
    refine z_get (pc := 171) (v := .ref (g.2.2.1 1)) flX6_15 jnX6 ltC_0 kdC_0 rfl (by decide) rfl foC_0_0 rfl dX6_doOrder_171 ?_
    refine z_iload_n (pc := 174) 1 dX6_doOrder_174 rfl rfl ?_
    refine z_callV (pc := 175) (b := 1) (As := [.int (μ.1 80 0)]) (rest := []) kX6_73 (m_X4_setBegins g μ (μ.1 80 0)) ltC_1 kdC_1 rfl rfl ⟨rfl, rfl⟩ ⟨Nat.le_of_ble_eq_true rfl, Nat.le_of_ble_eq_true rfl⟩ (Nat.le_of_ble_eq_true rfl) rfl rfl dX6_doOrder_175 (fun r2 μ3 => ?_)
    change Zw g ΛC enI RX6 cX6_doOrder 3 (some .int) rX6_doOrder 178 [(0, .ref (g.2.2.1 0)), (1, .int (μ.1 80 0)), (2, .int (μ.1 80 1))] [.int r2] μ3 _
    exact z_iret dX6_doOrder_178
  refine z_ite (fun h4 => ?_) (fun h4 => ?_)
  · refine z_tabIn (pc := 27) (tgt := 179) dX6_doOrder_27 (by rw [h4]; decide +kernel) (by rw [h4]; decide +kernel) (off := 152) (by rw [h4]; decide +kernel) (by decide) ?_
    refine z_aload_n (pc := 179) 0 dX6_doOrder_179 rfl rfl ?_
    refine z_get (pc := 180) (v := .ref (g.2.2.1 1)) flX6_15 jnX6 ltC_0 kdC_0 rfl (by decide) rfl foC_0_0 rfl dX6_doOrder_180 ?_
    refine z_iload_n (pc := 183) 1 dX6_doOrder_183 rfl rfl ?_
    refine z_callV (pc := 184) (b := 1) (As := [.int (μ.1 80 0)]) (rest := []) kX6_76 (m_X4_setEnds g μ (μ.1 80 0)) ltC_1 kdC_1 rfl rfl ⟨rfl, rfl⟩ ⟨Nat.le_of_ble_eq_true rfl, Nat.le_of_ble_eq_true rfl⟩ (Nat.le_of_ble_eq_true rfl) rfl rfl dX6_doOrder_184 (fun r5 μ6 => ?_)
    change Zw g ΛC enI RX6 cX6_doOrder 3 (some .int) rX6_doOrder 187 [(0, .ref (g.2.2.1 0)), (1, .int (μ.1 80 0)), (2, .int (μ.1 80 1))] [.int r5] μ6 _
    exact z_iret dX6_doOrder_187
  refine z_ite (fun h7 => ?_) (fun h7 => ?_)
  · refine z_tabIn (pc := 27) (tgt := 132) dX6_doOrder_27 (by rw [h7]; decide +kernel) (by rw [h7]; decide +kernel) (off := 105) (by rw [h7]; decide +kernel) (by decide) ?_
    refine z_aload_n (pc := 132) 0 dX6_doOrder_132 rfl rfl ?_
    refine z_get (pc := 133) (v := .ref (g.2.2.1 1)) flX6_15 jnX6 ltC_0 kdC_0 rfl (by decide) rfl foC_0_0 rfl dX6_doOrder_133 ?_
    refine z_iload_n (pc := 136) 1 dX6_doOrder_136 rfl rfl ?_
    refine z_aload_n (pc := 137) 0 dX6_doOrder_137 rfl rfl ?_
    refine z_get (pc := 138) (v := .ref (g.2.2.1 78)) flX6_51 jnX6 ltC_0 kdC_0 rfl (by decide) rfl foC_0_5 rfl dX6_doOrder_138 ?_
    refine z_callV (pc := 141) (b := 78) (As := []) (rest := [.int (μ.1 80 0), .ref (g.2.2.1 1)]) kX6_228 (m_X5_lettersAsCode g μ) ltC_78 kdC_78 rfl rfl ⟨rfl, rfl⟩ ⟨Nat.le_of_ble_eq_true rfl, Nat.le_of_ble_eq_true rfl⟩ (Nat.le_of_ble_eq_true rfl) rfl rfl dX6_doOrder_141 (fun r8 μ9 => ?_)
    change Zw g ΛC enI RX6 cX6_doOrder 3 (some .int) rX6_doOrder 144 [(0, .ref (g.2.2.1 0)), (1, .int (μ.1 80 0)), (2, .int (μ.1 80 1))] [.int r8, .int (μ.1 80 0), .ref (g.2.2.1 1)] μ9 _
    refine z_callV (pc := 144) (b := 1) (As := [.int (μ.1 80 0), .int r8]) (rest := []) kX6_62 (m_X4_addPhrase g μ9 (μ.1 80 0) r8) ltC_1 kdC_1 rfl rfl ⟨rfl, rfl⟩ ⟨Nat.le_of_ble_eq_true rfl, Nat.le_of_ble_eq_true rfl⟩ (Nat.le_of_ble_eq_true rfl) rfl rfl dX6_doOrder_144 (fun r10 μ11 => ?_)
    change Zw g ΛC enI RX6 cX6_doOrder 3 (some .int) rX6_doOrder 147 [(0, .ref (g.2.2.1 0)), (1, .int (μ.1 80 0)), (2, .int (μ.1 80 1))] [.int r10] μ11 _
    exact z_iret dX6_doOrder_147
  refine z_ite (fun h12 => ?_) (fun h12 => ?_)
  · refine z_tabIn (pc := 27) (tgt := 207) dX6_doOrder_27 (by rw [h12]; decide +kernel) (by rw [h12]; decide +kernel) (off := 180) (by rw [h12]; decide +kernel) (by decide) ?_
    refine z_aload_n (pc := 207) 0 dX6_doOrder_207 rfl rfl ?_
    refine z_get (pc := 208) (v := .ref (g.2.2.1 1)) flX6_15 jnX6 ltC_0 kdC_0 rfl (by decide) rfl foC_0_0 rfl dX6_doOrder_208 ?_
    refine z_iload_n (pc := 211) 1 dX6_doOrder_211 rfl rfl ?_
    refine z_iload_n (pc := 212) 2 dX6_doOrder_212 rfl rfl ?_
    refine z_callV (pc := 213) (b := 1) (As := [.int (μ.1 80 0), .int (μ.1 80 1)]) (rest := []) kX6_139 (m_X4_setMark g μ (μ.1 80 0) (μ.1 80 1)) ltC_1 kdC_1 rfl rfl ⟨rfl, rfl⟩ ⟨Nat.le_of_ble_eq_true rfl, Nat.le_of_ble_eq_true rfl⟩ (Nat.le_of_ble_eq_true rfl) rfl rfl dX6_doOrder_213 (fun r13 μ14 => ?_)
    change Zw g ΛC enI RX6 cX6_doOrder 3 (some .int) rX6_doOrder 216 [(0, .ref (g.2.2.1 0)), (1, .int (μ.1 80 0)), (2, .int (μ.1 80 1))] [.int r13] μ14 _
    exact z_iret dX6_doOrder_216
  refine z_ite (fun h15 => ?_) (fun h15 => ?_)
  · refine z_tabIn (pc := 27) (tgt := 148) dX6_doOrder_27 (by rw [h15]; decide +kernel) (by rw [h15]; decide +kernel) (off := 121) (by rw [h15]; decide +kernel) (by decide) ?_
    refine z_aload_n (pc := 148) 0 dX6_doOrder_148 rfl rfl ?_
    refine z_get (pc := 149) (v := .ref (g.2.2.1 1)) flX6_15 jnX6 ltC_0 kdC_0 rfl (by decide) rfl foC_0_0 rfl dX6_doOrder_149 ?_
    refine z_aload_n (pc := 152) 0 dX6_doOrder_152 rfl rfl ?_
    refine z_get (pc := 153) (v := .ref (g.2.2.1 78)) flX6_51 jnX6 ltC_0 kdC_0 rfl (by decide) rfl foC_0_5 rfl dX6_doOrder_153 ?_
    refine z_get (pc := 156) (v := .ref (g.2.2.1 81)) flX6_231 jnX5 ltC_78 kdC_78 rfl (by decide) rfl foC_78_5 rfl dX6_doOrder_156 ?_
    refine z_aload_n (pc := 159) 0 dX6_doOrder_159 rfl rfl ?_
    refine z_get (pc := 160) (v := .ref (g.2.2.1 78)) flX6_51 jnX6 ltC_0 kdC_0 rfl (by decide) rfl foC_0_5 rfl dX6_doOrder_160 ?_
    refine z_get (pc := 163) (v := .int (μ.1 78 6)) flX6_234 jnX5 ltC_78 kdC_78 rfl (by decide) rfl foC_78_6 rfl dX6_doOrder_163 ?_
    refine z_callV (pc := 166) (b := 1) (As := [.ref (g.2.2.1 81), .int (μ.1 78 6)]) (rest := []) kX6_237 (m_X4_setLine g μ (μ.1 78 6)) ltC_1 kdC_1 rfl rfl ⟨rfl, rfl⟩ ⟨Nat.le_of_ble_eq_true rfl, Nat.le_of_ble_eq_true rfl⟩ (Nat.le_of_ble_eq_true rfl) rfl rfl dX6_doOrder_166 (fun r16 μ17 => ?_)
    change Zw g ΛC enI RX6 cX6_doOrder 3 (some .int) rX6_doOrder 169 [(0, .ref (g.2.2.1 0)), (1, .int (μ.1 80 0)), (2, .int (μ.1 80 1))] [.int r16] μ17 _
    exact z_iret dX6_doOrder_169
  refine z_ite (fun h18 => ?_) (fun h18 => ?_)
  · refine z_tabIn (pc := 27) (tgt := 217) dX6_doOrder_27 (by rw [h18]; decide +kernel) (by rw [h18]; decide +kernel) (off := 190) (by rw [h18]; decide +kernel) (by decide) ?_
    refine z_aload_n (pc := 217) 0 dX6_doOrder_217 rfl rfl ?_
    refine z_iload_n (pc := 218) 1 dX6_doOrder_218 rfl rfl ?_
    refine z_callV (pc := 219) (b := 0) (As := [.int (μ.1 80 0)]) (rest := []) kX6_127 (m_X6_singBest g μ (μ.1 80 0)) ltC_0 kdC_0 rfl rfl ⟨rfl, rfl⟩ ⟨Nat.le_of_ble_eq_true rfl, Nat.le_of_ble_eq_true rfl⟩ (Nat.le_of_ble_eq_true rfl) rfl rfl dX6_doOrder_219 (fun r19 μ20 => ?_)
    change Zw g ΛC enI RX6 cX6_doOrder 3 (some .int) rX6_doOrder 222 [(0, .ref (g.2.2.1 0)), (1, .int (μ.1 80 0)), (2, .int (μ.1 80 1))] [.int r19] μ20 _
    exact z_iret dX6_doOrder_222
  refine z_ite (fun h21 => ?_) (fun h21 => ?_)
  · refine z_tabIn (pc := 27) (tgt := 198) dX6_doOrder_27 (by rw [h21]; decide +kernel) (by rw [h21]; decide +kernel) (off := 171) (by rw [h21]; decide +kernel) (by decide) ?_
    refine z_aload_n (pc := 198) 0 dX6_doOrder_198 rfl rfl ?_
    refine z_get (pc := 199) (v := .ref (g.2.2.1 1)) flX6_15 jnX6 ltC_0 kdC_0 rfl (by decide) rfl foC_0_0 rfl dX6_doOrder_199 ?_
    refine z_iload_n (pc := 202) 1 dX6_doOrder_202 rfl rfl ?_
    refine z_callV (pc := 203) (b := 1) (As := [.int (μ.1 80 0)]) (rest := []) kX6_136 (m_X4_setMetre g μ (μ.1 80 0)) ltC_1 kdC_1 rfl rfl ⟨rfl, rfl⟩ ⟨Nat.le_of_ble_eq_true rfl, Nat.le_of_ble_eq_true rfl⟩ (Nat.le_of_ble_eq_true rfl) rfl rfl dX6_doOrder_203 (fun r22 μ23 => ?_)
    change Zw g ΛC enI RX6 cX6_doOrder 3 (some .int) rX6_doOrder 206 [(0, .ref (g.2.2.1 0)), (1, .int (μ.1 80 0)), (2, .int (μ.1 80 1))] [.int r22] μ23 _
    exact z_iret dX6_doOrder_206
  refine z_ite (fun h24 => ?_) (fun h24 => ?_)
  · refine z_tabIn (pc := 27) (tgt := 188) dX6_doOrder_27 (by rw [h24]; decide +kernel) (by rw [h24]; decide +kernel) (off := 161) (by rw [h24]; decide +kernel) (by decide) ?_
    refine z_aload_n (pc := 188) 0 dX6_doOrder_188 rfl rfl ?_
    refine z_get (pc := 189) (v := .ref (g.2.2.1 1)) flX6_15 jnX6 ltC_0 kdC_0 rfl (by decide) rfl foC_0_0 rfl dX6_doOrder_189 ?_
    refine z_iload_n (pc := 192) 1 dX6_doOrder_192 rfl rfl ?_
    refine z_iload_n (pc := 193) 2 dX6_doOrder_193 rfl rfl ?_
    refine z_callV (pc := 194) (b := 1) (As := [.int (μ.1 80 0), .int (μ.1 80 1)]) (rest := []) kX6_79 (m_X4_setFollows g μ (μ.1 80 0) (μ.1 80 1)) ltC_1 kdC_1 rfl rfl ⟨rfl, rfl⟩ ⟨Nat.le_of_ble_eq_true rfl, Nat.le_of_ble_eq_true rfl⟩ (Nat.le_of_ble_eq_true rfl) rfl rfl dX6_doOrder_194 (fun r25 μ26 => ?_)
    change Zw g ΛC enI RX6 cX6_doOrder 3 (some .int) rX6_doOrder 197 [(0, .ref (g.2.2.1 0)), (1, .int (μ.1 80 0)), (2, .int (μ.1 80 1))] [.int r25] μ26 _
    exact z_iret dX6_doOrder_197
  refine z_ite (fun h27 => ?_) (fun h27 => ?_)
  · refine z_tabIn (pc := 27) (tgt := 223) dX6_doOrder_27 (by rw [h27]; decide +kernel) (by rw [h27]; decide +kernel) (off := 196) (by rw [h27]; decide +kernel) (by decide) ?_
    refine z_aload_n (pc := 223) 0 dX6_doOrder_223 rfl rfl ?_
    refine z_get (pc := 224) (v := .ref (g.2.2.1 1)) flX6_15 jnX6 ltC_0 kdC_0 rfl (by decide) rfl foC_0_0 rfl dX6_doOrder_224 ?_
    refine z_iload_n (pc := 227) 1 dX6_doOrder_227 rfl rfl ?_
    refine z_callV (pc := 228) (b := 1) (As := [.int (μ.1 80 0)]) (rest := []) kX6_70 (m_X4_dropPhrase g μ (μ.1 80 0)) ltC_1 kdC_1 rfl rfl ⟨rfl, rfl⟩ ⟨Nat.le_of_ble_eq_true rfl, Nat.le_of_ble_eq_true rfl⟩ (Nat.le_of_ble_eq_true rfl) rfl rfl dX6_doOrder_228 (fun r28 μ29 => ?_)
    change Zw g ΛC enI RX6 cX6_doOrder 3 (some .int) rX6_doOrder 231 [(0, .ref (g.2.2.1 0)), (1, .int (μ.1 80 0)), (2, .int (μ.1 80 1))] [.int r28] μ29 _
    exact z_iret dX6_doOrder_231
  have eh1 : (μ.1 78 3).toInt ≠ 98 := fun q => h1 (Int32.toInt_inj.mp (q.trans (by decide +kernel)))
  have eh4 : (μ.1 78 3).toInt ≠ 101 := fun q => h4 (Int32.toInt_inj.mp (q.trans (by decide +kernel)))
  have eh7 : (μ.1 78 3).toInt ≠ 102 := fun q => h7 (Int32.toInt_inj.mp (q.trans (by decide +kernel)))
  have eh12 : (μ.1 78 3).toInt ≠ 107 := fun q => h12 (Int32.toInt_inj.mp (q.trans (by decide +kernel)))
  have eh15 : (μ.1 78 3).toInt ≠ 108 := fun q => h15 (Int32.toInt_inj.mp (q.trans (by decide +kernel)))
  have eh18 : (μ.1 78 3).toInt ≠ 115 := fun q => h18 (Int32.toInt_inj.mp (q.trans (by decide +kernel)))
  have eh21 : (μ.1 78 3).toInt ≠ 116 := fun q => h21 (Int32.toInt_inj.mp (q.trans (by decide +kernel)))
  have eh24 : (μ.1 78 3).toInt ≠ 119 := fun q => h24 (Int32.toInt_inj.mp (q.trans (by decide +kernel)))
  have eh27 : (μ.1 78 3).toInt ≠ 120 := fun q => h27 (Int32.toInt_inj.mp (q.trans (by decide +kernel)))
  by_cases h30 : (μ.1 78 3).toInt < 98 ∨ 120 < (μ.1 78 3).toInt
  · refine z_tabOut (pc := 27) (tgt := 232) dX6_doOrder_27 h30 (by decide) ?_
    refine z_bipush (pc := 232) (v := -2) dX6_doOrder_232 (by decide +kernel) ?_
    exact z_iret dX6_doOrder_234
  · have h31 : (μ.1 78 3).toInt = 99 ∨ (μ.1 78 3).toInt = 100 ∨ (μ.1 78 3).toInt = 103 ∨ (μ.1 78 3).toInt = 104 ∨ (μ.1 78 3).toInt = 105 ∨ (μ.1 78 3).toInt = 106 ∨ (μ.1 78 3).toInt = 109 ∨ (μ.1 78 3).toInt = 110 ∨ (μ.1 78 3).toInt = 111 ∨ (μ.1 78 3).toInt = 112 ∨ (μ.1 78 3).toInt = 113 ∨ (μ.1 78 3).toInt = 114 ∨ (μ.1 78 3).toInt = 117 ∨ (μ.1 78 3).toInt = 118 := by omega
    refine z_tabIn (pc := 27) (tgt := 232) dX6_doOrder_27 (fun q => h30 (Or.inl q)) (fun q => h30 (Or.inr q)) (off := 205) (by rcases h31 with q | q | q | q | q | q | q | q | q | q | q | q | q | q <;> (rw [q]; decide +kernel)) (by decide) ?_
    refine z_bipush (pc := 232) (v := -2) dX6_doOrder_232 (by decide +kernel) ?_
    exact z_iret dX6_doOrder_234
def lp_X6_reads_38 : Nat → Int32 → Mm → (Int32 → Mm → Option (Int32 × Mm)) → Option (Int32 × Mm)
  | 0, _, _, _ => none
  | n + 1, y2, μ, k => if (150 : Int32) ≤ y2 then (k y2 μ) else (bd (f_X5_readOrder μ) fun r9 μ10 => if r9 = 0 then (k y2 μ10) else (bd (f_X6_doOrder μ10) fun r12 μ13 => if 0 ≤ r12 then (lp_X6_reads_38 n (y2 + 1) μ13 k) else (bd (f_X3_restoreStaged μ13) fun r15 μ16 => some ((-1000 : Int32) - y2, μ16))))
theorem w_X6_reads_38 (g : Gx) : ∀ (n : Nat) (y2 : Int32) (μ : Mm) (k : Int32 → Mm → Option (Int32 × Mm)), (∀ (z2 : Int32) (ν : Mm), Zw g ΛC enI RX6 cX6_reads 3 (some .int) rX6_reads 85 [(0, .ref (g.2.2.1 0)), (2, .int z2)] [] ν (k z2 ν)) → Zw g ΛC enI RX6 cX6_reads 3 (some .int) rX6_reads 38 [(0, .ref (g.2.2.1 0)), (2, .int y2)] [] μ (lp_X6_reads_38 n y2 μ k) := by
  intro n
  induction n with
  | zero =>
    intro y2 μ k hk
    exact z_none
  | succ n ih =>
    intro y2 μ k hk
    rw [lp_X6_reads_38]
    refine z_iload_n (pc := 38) 1 dX6_reads_38 rfl rfl ?_
    refine z_sipush (pc := 39) (v := 150) dX6_reads_39 (by decide +kernel) ?_
    refine z_icmp_ge (pc := 42) (tgt := 85) dX6_reads_42 (by decide) (fun h8 => ?_) (fun h8 => ?_)
    · exact hk _ _
    · refine z_aload_n (pc := 45) 0 dX6_reads_45 rfl rfl ?_
      refine z_get (pc := 46) (v := .ref (g.2.2.1 78)) flX6_51 jnX6 ltC_0 kdC_0 rfl (by decide) rfl foC_0_5 rfl dX6_reads_46 ?_
      refine z_callV (pc := 49) (b := 78) (As := []) (rest := []) kX6_179 (m_X5_readOrder g μ) ltC_78 kdC_78 rfl rfl ⟨rfl, rfl⟩ ⟨Nat.le_of_ble_eq_true rfl, Nat.le_of_ble_eq_true rfl⟩ (Nat.le_of_ble_eq_true rfl) rfl rfl dX6_reads_49 (fun r9 μ10 => ?_)
      change Zw g ΛC enI RX6 cX6_reads 3 (some .int) rX6_reads 52 [(0, .ref (g.2.2.1 0)), (2, .int y2)] [.int r9] μ10 _
      refine z_if_eq (pc := 52) (tgt := 85) dX6_reads_52 (by decide) (fun h11 => ?_) (fun h11 => ?_)
      · exact hk _ _
      · refine z_aload_n (pc := 55) 0 dX6_reads_55 rfl rfl ?_
        refine z_callV (pc := 56) (b := 0) (As := []) (rest := []) kX6_183 (m_X6_doOrder g μ10) ltC_0 kdC_0 rfl rfl ⟨rfl, rfl⟩ ⟨Nat.le_of_ble_eq_true rfl, Nat.le_of_ble_eq_true rfl⟩ (Nat.le_of_ble_eq_true rfl) rfl rfl dX6_reads_56 (fun r12 μ13 => ?_)
        change Zw g ΛC enI RX6 cX6_reads 3 (some .int) rX6_reads 59 [(0, .ref (g.2.2.1 0)), (2, .int y2)] [.int r12] μ13 _
        refine z_if_ge (pc := 59) (tgt := 79) dX6_reads_59 (by decide) (fun h14 => ?_) (fun h14 => ?_)
        · refine z_iinc (pc := 79) (v := y2 + 1) (lv2 := [(0, .ref (g.2.2.1 0)), (2, .int (y2 + 1))]) 1 [1, 0] dX6_reads_79 rfl (by rw [oi_1]) (by decide) rfl ?_
          refine z_goto (pc := 82) (tgt := 38) dX6_reads_82 (by decide) ?_
          exact ih _ _ _ hk
        · refine z_aload_n (pc := 62) 0 dX6_reads_62 rfl rfl ?_
          refine z_get (pc := 63) (v := .ref (g.2.2.1 22)) flX6_44 jnX6 ltC_0 kdC_0 rfl (by decide) rfl foC_0_4 rfl dX6_reads_63 ?_
          refine z_aload_n (pc := 66) 0 dX6_reads_66 rfl rfl ?_
          refine z_get (pc := 67) (v := .ref (g.2.2.1 1)) flX6_15 jnX6 ltC_0 kdC_0 rfl (by decide) rfl foC_0_0 rfl dX6_reads_67 ?_
          refine z_callV (pc := 70) (b := 22) (As := [.ref (g.2.2.1 1)]) (rest := []) kX6_186 (m_X3_restoreStaged g μ13) ltC_22 kdC_22 rfl rfl ⟨rfl, rfl⟩ ⟨Nat.le_of_ble_eq_true rfl, Nat.le_of_ble_eq_true rfl⟩ (Nat.le_of_ble_eq_true rfl) rfl rfl dX6_reads_70 (fun r15 μ16 => ?_)
          change Zw g ΛC enI RX6 cX6_reads 3 (some .int) rX6_reads 73 [(0, .ref (g.2.2.1 0)), (2, .int y2)] [] μ16 _
          refine z_sipush (pc := 73) (v := -1000) dX6_reads_73 (by decide +kernel) ?_
          refine z_iload_n (pc := 76) 1 dX6_reads_76 rfl rfl ?_
          refine z_isub (pc := 77) dX6_reads_77 ?_
          exact z_iret dX6_reads_78
def f_X6_reads (μ : Mm) : Option (Int32 × Mm) := bd (f_X5_findFault μ) fun r1 μ2 => if r1 = (-1 : Int32) then (bd (f_X3_stage μ2) fun r4 μ5 => bd (f_X5_rewind μ5) fun r6 μ7 => lp_X6_reads_38 FU (0 : Int32) μ7 (fun x17 μ18 => bd (f_X3_keepStaged μ18) fun r19 μ20 => some (x17, μ20))) else (some ((-10 : Int32) - r1, μ2))
theorem m_X6_reads (g : Gx) (μ : Mm) : Zm g ΛC enI yX6_reads cX6_reads 3 (some .int) rX6_reads [.ref (g.2.2.1 0)] μ (f_X6_reads μ) := by
  refine z_met (by decide +kernel) (Nat.le_of_ble_eq_true rfl) ?_
  change Zw g ΛC enI RX6 cX6_reads 3 (some .int) rX6_reads 0 [(0, .ref (g.2.2.1 0))] [] μ (f_X6_reads μ)
  rw [f_X6_reads]
  refine z_aload_n (pc := 0) 0 dX6_reads_0 rfl rfl ?_
  refine z_get (pc := 1) (v := .ref (g.2.2.1 78)) flX6_51 jnX6 ltC_0 kdC_0 rfl (by decide) rfl foC_0_5 rfl dX6_reads_1 ?_
  refine z_callV (pc := 4) (b := 78) (As := []) (rest := []) kX6_173 (m_X5_findFault g μ) ltC_78 kdC_78 rfl rfl ⟨rfl, rfl⟩ ⟨Nat.le_of_ble_eq_true rfl, Nat.le_of_ble_eq_true rfl⟩ (Nat.le_of_ble_eq_true rfl) rfl rfl dX6_reads_4 (fun r1 μ2 => ?_)
  change Zw g ΛC enI RX6 cX6_reads 3 (some .int) rX6_reads 7 [(0, .ref (g.2.2.1 0))] [.int r1] μ2 _
  refine z_istore_n (pc := 7) (lv2 := [(0, .ref (g.2.2.1 0)), (1, .int r1)]) [1, 0] dX6_reads_7 rfl (by decide) rfl ?_
  refine z_iload_n (pc := 8) 1 dX6_reads_8 rfl rfl ?_
  refine z_iconst (pc := 9) (v := -1) dX6_reads_9 rfl ?_
  refine z_icmp_eq (pc := 10) (tgt := 18) dX6_reads_10 (by decide) (fun h3 => ?_) (fun h3 => ?_)
  · refine z_aload_n (pc := 18) 0 dX6_reads_18 rfl rfl ?_
    refine z_get (pc := 19) (v := .ref (g.2.2.1 22)) flX6_44 jnX6 ltC_0 kdC_0 rfl (by decide) rfl foC_0_4 rfl dX6_reads_19 ?_
    refine z_aload_n (pc := 22) 0 dX6_reads_22 rfl rfl ?_
    refine z_get (pc := 23) (v := .ref (g.2.2.1 1)) flX6_15 jnX6 ltC_0 kdC_0 rfl (by decide) rfl foC_0_0 rfl dX6_reads_23 ?_
    refine z_callV (pc := 26) (b := 22) (As := [.ref (g.2.2.1 1)]) (rest := []) kX6_59 (m_X3_stage g μ2) ltC_22 kdC_22 rfl rfl ⟨rfl, rfl⟩ ⟨Nat.le_of_ble_eq_true rfl, Nat.le_of_ble_eq_true rfl⟩ (Nat.le_of_ble_eq_true rfl) rfl rfl dX6_reads_26 (fun r4 μ5 => ?_)
    change Zw g ΛC enI RX6 cX6_reads 3 (some .int) rX6_reads 29 [(0, .ref (g.2.2.1 0)), (1, .int r1)] [] μ5 _
    refine z_aload_n (pc := 29) 0 dX6_reads_29 rfl rfl ?_
    refine z_get (pc := 30) (v := .ref (g.2.2.1 78)) flX6_51 jnX6 ltC_0 kdC_0 rfl (by decide) rfl foC_0_5 rfl dX6_reads_30 ?_
    refine z_callV (pc := 33) (b := 78) (As := []) (rest := []) kX6_176 (m_X5_rewind g μ5) ltC_78 kdC_78 rfl rfl ⟨rfl, rfl⟩ ⟨Nat.le_of_ble_eq_true rfl, Nat.le_of_ble_eq_true rfl⟩ (Nat.le_of_ble_eq_true rfl) rfl rfl dX6_reads_33 (fun r6 μ7 => ?_)
    change Zw g ΛC enI RX6 cX6_reads 3 (some .int) rX6_reads 36 [(0, .ref (g.2.2.1 0)), (1, .int r1)] [] μ7 _
    refine z_iconst (pc := 36) (v := 0) dX6_reads_36 rfl ?_
    refine z_istore_n (pc := 37) (lv2 := [(0, .ref (g.2.2.1 0)), (1, .int r1), (2, .int (0 : Int32))]) [1, 2, 0] dX6_reads_37 rfl (by decide) rfl ?_
    refine z_sub (lv2 := [(0, .ref (g.2.2.1 0)), (2, .int (0 : Int32))]) [0, 2] rfl ?_
    refine w_X6_reads_38 g FU (0 : Int32) μ7 _ (fun x17 μ18 => ?_)
    refine z_aload_n (pc := 85) 0 dX6_reads_85 rfl rfl ?_
    refine z_get (pc := 86) (v := .ref (g.2.2.1 22)) flX6_44 jnX6 ltC_0 kdC_0 rfl (by decide) rfl foC_0_4 rfl dX6_reads_86 ?_
    refine z_callV (pc := 89) (b := 22) (As := []) (rest := []) kX6_189 (m_X3_keepStaged g μ18) ltC_22 kdC_22 rfl rfl ⟨rfl, rfl⟩ ⟨Nat.le_of_ble_eq_true rfl, Nat.le_of_ble_eq_true rfl⟩ (Nat.le_of_ble_eq_true rfl) rfl rfl dX6_reads_89 (fun r19 μ20 => ?_)
    change Zw g ΛC enI RX6 cX6_reads 3 (some .int) rX6_reads 92 [(0, .ref (g.2.2.1 0)), (2, .int x17)] [] μ20 _
    refine z_iload_n (pc := 92) 1 dX6_reads_92 rfl rfl ?_
    exact z_iret dX6_reads_93
  · refine z_bipush (pc := 13) (v := -10) dX6_reads_13 (by decide +kernel) ?_
    refine z_iload_n (pc := 15) 1 dX6_reads_15 rfl rfl ?_
    refine z_isub (pc := 16) dX6_reads_16 ?_
    exact z_iret dX6_reads_17
def f_X6_back (μ : Mm) : Option (Int32 × Mm) := if (μ.1 22 2) = 0 then (bd (f_X6_refusal (-3 : Int32) μ) fun r4 μ5 => some (r4, μ5)) else (bd (f_X3_restoreLast μ) fun r2 μ3 => some (μ3.1 22 2, μ3))
theorem m_X6_back (g : Gx) (μ : Mm) : Zm g ΛC enI yX6_back cX6_back 1 (some .int) rX6_back [.ref (g.2.2.1 0)] μ (f_X6_back μ) := by
  refine z_met (by decide +kernel) (Nat.le_of_ble_eq_true rfl) ?_
  change Zw g ΛC enI RX6 cX6_back 1 (some .int) rX6_back 0 [(0, .ref (g.2.2.1 0))] [] μ (f_X6_back μ)
  rw [f_X6_back]
  refine z_aload_n (pc := 0) 0 dX6_back_0 rfl rfl ?_
  refine z_get (pc := 1) (v := .ref (g.2.2.1 22)) flX6_44 jnX6 ltC_0 kdC_0 rfl (by decide) rfl foC_0_4 rfl dX6_back_1 ?_
  refine z_get (pc := 4) (v := .int (μ.1 22 2)) flX6_192 jnX3 ltC_22 kdC_22 rfl (by decide) rfl foC_22_2 rfl dX6_back_4 ?_
  refine z_if_ne (pc := 7) (tgt := 17) dX6_back_7 (by decide) (fun h1 => ?_) (fun h1 => ?_)
  · refine z_aload_n (pc := 17) 0 dX6_back_17 rfl rfl ?_
    refine z_get (pc := 18) (v := .ref (g.2.2.1 22)) flX6_44 jnX6 ltC_0 kdC_0 rfl (by decide) rfl foC_0_4 rfl dX6_back_18 ?_
    refine z_aload_n (pc := 21) 0 dX6_back_21 rfl rfl ?_
    refine z_get (pc := 22) (v := .ref (g.2.2.1 1)) flX6_15 jnX6 ltC_0 kdC_0 rfl (by decide) rfl foC_0_0 rfl dX6_back_22 ?_
    refine z_callV (pc := 25) (b := 22) (As := [.ref (g.2.2.1 1)]) (rest := []) kX6_195 (m_X3_restoreLast g μ) ltC_22 kdC_22 rfl rfl ⟨rfl, rfl⟩ ⟨Nat.le_of_ble_eq_true rfl, Nat.le_of_ble_eq_true rfl⟩ (Nat.le_of_ble_eq_true rfl) rfl rfl dX6_back_25 (fun r2 μ3 => ?_)
    change Zw g ΛC enI RX6 cX6_back 1 (some .int) rX6_back 28 [(0, .ref (g.2.2.1 0))] [] μ3 _
    refine z_aload_n (pc := 28) 0 dX6_back_28 rfl rfl ?_
    refine z_get (pc := 29) (v := .ref (g.2.2.1 22)) flX6_44 jnX6 ltC_0 kdC_0 rfl (by decide) rfl foC_0_4 rfl dX6_back_29 ?_
    refine z_get (pc := 32) (v := .int (μ3.1 22 2)) flX6_192 jnX3 ltC_22 kdC_22 rfl (by decide) rfl foC_22_2 rfl dX6_back_32 ?_
    exact z_iret dX6_back_35
  · refine z_aload_n (pc := 10) 0 dX6_back_10 rfl rfl ?_
    refine z_bipush (pc := 11) (v := -3) dX6_back_11 (by decide +kernel) ?_
    refine z_callV (pc := 13) (b := 0) (As := [.int (-3 : Int32)]) (rest := []) kX6_90 (m_X6_refusal g μ (-3 : Int32)) ltC_0 kdC_0 rfl rfl ⟨rfl, rfl⟩ ⟨Nat.le_of_ble_eq_true rfl, Nat.le_of_ble_eq_true rfl⟩ (Nat.le_of_ble_eq_true rfl) rfl rfl dX6_back_13 (fun r4 μ5 => ?_)
    change Zw g ΛC enI RX6 cX6_back 1 (some .int) rX6_back 16 [(0, .ref (g.2.2.1 0))] [.int r4] μ5 _
    exact z_iret dX6_back_16
def f_X6_factTold (a1 : Int32) (μ : Mm) : Option (Int32 × Mm) := bd (f_X6_within a1 (0 : Int32) ((4 : Int32) - (1 : Int32)) μ) fun r1 μ2 => if r1 = 0 then (if a1 = 4 then (some (μ2.1 78 1, μ2)) else (if a1 = 5 then (some (μ2.1 1 8, μ2)) else (if a1 = 6 then (some (μ2.1 1 9, μ2)) else (if a1 = 7 then (some (μ2.1 1 10, μ2)) else (if a1 = 8 then (some (μ2.1 1 11, μ2)) else (if a1 = 9 then (some (μ2.1 1 12, μ2)) else (if a1 = 14 then (some (μ2.1 22 2, μ2)) else (bd (f_X4_setAfter (1 : Int32) (a1 - (10 : Int32)) μ2) fun r11 μ12 => some (r11, μ12))))))))) else (if zin a1 4 then (some (μ2.1 82 a1.toNatClampNeg, μ2)) else none)
theorem m_X6_factTold (g : Gx) (μ : Mm) (a1 : Int32) : Zm g ΛC enI yX6_factTold cX6_factTold 2 (some .int) rX6_factTold [.ref (g.2.2.1 0), .int a1] μ (f_X6_factTold a1 μ) := by
  refine z_met (by decide +kernel) (Nat.le_of_ble_eq_true rfl) ?_
  change Zw g ΛC enI RX6 cX6_factTold 2 (some .int) rX6_factTold 0 [(0, .ref (g.2.2.1 0)), (1, .int a1)] [] μ (f_X6_factTold a1 μ)
  rw [f_X6_factTold]
  refine z_iload_n (pc := 0) 1 dX6_factTold_0 rfl rfl ?_
  refine z_iconst (pc := 1) (v := 0) dX6_factTold_1 rfl ?_
  refine z_aload_n (pc := 2) 0 dX6_factTold_2 rfl rfl ?_
  refine z_get (pc := 3) (v := .ref (g.2.2.1 82)) flX6_55 jnX6 ltC_0 kdC_0 rfl (by decide) rfl foC_0_6 rfl dX6_factTold_3 ?_
  refine z_alen_i (pc := 6) (v := 4) ltC_82 kdC_82 (by decide +kernel) dX6_factTold_6 ?_
  refine z_iconst (pc := 7) (v := 1) dX6_factTold_7 rfl ?_
  refine z_isub (pc := 8) dX6_factTold_8 ?_
  refine z_callS (pc := 9) (As := [.int a1, .int (0 : Int32), .int ((4 : Int32) - (1 : Int32))]) (rest := []) kX6_86 (m_X6_within g μ a1 (0 : Int32) ((4 : Int32) - (1 : Int32))) ⟨rfl, rfl⟩ ⟨Nat.le_of_ble_eq_true rfl, Nat.le_of_ble_eq_true rfl⟩ (Nat.le_of_ble_eq_true rfl) rfl rfl dX6_factTold_9 (fun r1 μ2 => ?_)
  change Zw g ΛC enI RX6 cX6_factTold 2 (some .int) rX6_factTold 12 [(0, .ref (g.2.2.1 0)), (1, .int a1)] [.int r1] μ2 _
  refine z_if_eq (pc := 12) (tgt := 22) dX6_factTold_12 (by decide) (fun h3 => ?_) (fun h3 => ?_)
  · refine z_iload_n (pc := 22) 1 dX6_factTold_22 rfl rfl ?_
    refine z_ite (fun h4 => ?_) (fun h4 => ?_)
    · refine z_tabIn (pc := 23) (tgt := 80) dX6_factTold_23 (by rw [h4]; decide +kernel) (by rw [h4]; decide +kernel) (off := 57) (by rw [h4]; decide +kernel) (by decide) ?_
      refine z_aload_n (pc := 80) 0 dX6_factTold_80 rfl rfl ?_
      refine z_get (pc := 81) (v := .ref (g.2.2.1 78)) flX6_51 jnX6 ltC_0 kdC_0 rfl (by decide) rfl foC_0_5 rfl dX6_factTold_81 ?_
      refine z_get (pc := 84) (v := .int (μ2.1 78 1)) flX6_241 jnX5 ltC_78 kdC_78 rfl (by decide) rfl foC_78_1 rfl dX6_factTold_84 ?_
      exact z_iret dX6_factTold_87
    refine z_ite (fun h5 => ?_) (fun h5 => ?_)
    · refine z_tabIn (pc := 23) (tgt := 88) dX6_factTold_23 (by rw [h5]; decide +kernel) (by rw [h5]; decide +kernel) (off := 65) (by rw [h5]; decide +kernel) (by decide) ?_
      refine z_aload_n (pc := 88) 0 dX6_factTold_88 rfl rfl ?_
      refine z_get (pc := 89) (v := .ref (g.2.2.1 1)) flX6_15 jnX6 ltC_0 kdC_0 rfl (by decide) rfl foC_0_0 rfl dX6_factTold_89 ?_
      refine z_get (pc := 92) (v := .int (μ2.1 1 8)) flX6_244 jnX4 ltC_1 kdC_1 rfl (by decide) rfl foC_1_8 rfl dX6_factTold_92 ?_
      exact z_iret dX6_factTold_95
    refine z_ite (fun h6 => ?_) (fun h6 => ?_)
    · refine z_tabIn (pc := 23) (tgt := 96) dX6_factTold_23 (by rw [h6]; decide +kernel) (by rw [h6]; decide +kernel) (off := 73) (by rw [h6]; decide +kernel) (by decide) ?_
      refine z_aload_n (pc := 96) 0 dX6_factTold_96 rfl rfl ?_
      refine z_get (pc := 97) (v := .ref (g.2.2.1 1)) flX6_15 jnX6 ltC_0 kdC_0 rfl (by decide) rfl foC_0_0 rfl dX6_factTold_97 ?_
      refine z_get (pc := 100) (v := .int (μ2.1 1 9)) flX6_247 jnX4 ltC_1 kdC_1 rfl (by decide) rfl foC_1_9 rfl dX6_factTold_100 ?_
      exact z_iret dX6_factTold_103
    refine z_ite (fun h7 => ?_) (fun h7 => ?_)
    · refine z_tabIn (pc := 23) (tgt := 104) dX6_factTold_23 (by rw [h7]; decide +kernel) (by rw [h7]; decide +kernel) (off := 81) (by rw [h7]; decide +kernel) (by decide) ?_
      refine z_aload_n (pc := 104) 0 dX6_factTold_104 rfl rfl ?_
      refine z_get (pc := 105) (v := .ref (g.2.2.1 1)) flX6_15 jnX6 ltC_0 kdC_0 rfl (by decide) rfl foC_0_0 rfl dX6_factTold_105 ?_
      refine z_get (pc := 108) (v := .int (μ2.1 1 10)) flX6_250 jnX4 ltC_1 kdC_1 rfl (by decide) rfl foC_1_10 rfl dX6_factTold_108 ?_
      exact z_iret dX6_factTold_111
    refine z_ite (fun h8 => ?_) (fun h8 => ?_)
    · refine z_tabIn (pc := 23) (tgt := 112) dX6_factTold_23 (by rw [h8]; decide +kernel) (by rw [h8]; decide +kernel) (off := 89) (by rw [h8]; decide +kernel) (by decide) ?_
      refine z_aload_n (pc := 112) 0 dX6_factTold_112 rfl rfl ?_
      refine z_get (pc := 113) (v := .ref (g.2.2.1 1)) flX6_15 jnX6 ltC_0 kdC_0 rfl (by decide) rfl foC_0_0 rfl dX6_factTold_113 ?_
      refine z_get (pc := 116) (v := .int (μ2.1 1 11)) flX6_253 jnX4 ltC_1 kdC_1 rfl (by decide) rfl foC_1_11 rfl dX6_factTold_116 ?_
      exact z_iret dX6_factTold_119
    refine z_ite (fun h9 => ?_) (fun h9 => ?_)
    · refine z_tabIn (pc := 23) (tgt := 120) dX6_factTold_23 (by rw [h9]; decide +kernel) (by rw [h9]; decide +kernel) (off := 97) (by rw [h9]; decide +kernel) (by decide) ?_
      refine z_aload_n (pc := 120) 0 dX6_factTold_120 rfl rfl ?_
      refine z_get (pc := 121) (v := .ref (g.2.2.1 1)) flX6_15 jnX6 ltC_0 kdC_0 rfl (by decide) rfl foC_0_0 rfl dX6_factTold_121 ?_
      refine z_get (pc := 124) (v := .int (μ2.1 1 12)) flX6_256 jnX4 ltC_1 kdC_1 rfl (by decide) rfl foC_1_12 rfl dX6_factTold_124 ?_
      exact z_iret dX6_factTold_127
    refine z_ite (fun h10 => ?_) (fun h10 => ?_)
    · refine z_tabIn (pc := 23) (tgt := 128) dX6_factTold_23 (by rw [h10]; decide +kernel) (by rw [h10]; decide +kernel) (off := 105) (by rw [h10]; decide +kernel) (by decide) ?_
      refine z_aload_n (pc := 128) 0 dX6_factTold_128 rfl rfl ?_
      refine z_get (pc := 129) (v := .ref (g.2.2.1 22)) flX6_44 jnX6 ltC_0 kdC_0 rfl (by decide) rfl foC_0_4 rfl dX6_factTold_129 ?_
      refine z_get (pc := 132) (v := .int (μ2.1 22 2)) flX6_192 jnX3 ltC_22 kdC_22 rfl (by decide) rfl foC_22_2 rfl dX6_factTold_132 ?_
      exact z_iret dX6_factTold_135
    have eh4 : a1.toInt ≠ 4 := fun q => h4 (Int32.toInt_inj.mp (q.trans (by decide +kernel)))
    have eh5 : a1.toInt ≠ 5 := fun q => h5 (Int32.toInt_inj.mp (q.trans (by decide +kernel)))
    have eh6 : a1.toInt ≠ 6 := fun q => h6 (Int32.toInt_inj.mp (q.trans (by decide +kernel)))
    have eh7 : a1.toInt ≠ 7 := fun q => h7 (Int32.toInt_inj.mp (q.trans (by decide +kernel)))
    have eh8 : a1.toInt ≠ 8 := fun q => h8 (Int32.toInt_inj.mp (q.trans (by decide +kernel)))
    have eh9 : a1.toInt ≠ 9 := fun q => h9 (Int32.toInt_inj.mp (q.trans (by decide +kernel)))
    have eh10 : a1.toInt ≠ 14 := fun q => h10 (Int32.toInt_inj.mp (q.trans (by decide +kernel)))
    by_cases h13 : a1.toInt < 4 ∨ 14 < a1.toInt
    · refine z_tabOut (pc := 23) (tgt := 136) dX6_factTold_23 h13 (by decide) ?_
      refine z_aload_n (pc := 136) 0 dX6_factTold_136 rfl rfl ?_
      refine z_get (pc := 137) (v := .ref (g.2.2.1 1)) flX6_15 jnX6 ltC_0 kdC_0 rfl (by decide) rfl foC_0_0 rfl dX6_factTold_137 ?_
      refine z_iconst (pc := 140) (v := 1) dX6_factTold_140 rfl ?_
      refine z_iload_n (pc := 141) 1 dX6_factTold_141 rfl rfl ?_
      refine z_bipush (pc := 142) (v := 10) dX6_factTold_142 (by decide +kernel) ?_
      refine z_isub (pc := 144) dX6_factTold_144 ?_
      refine z_callV (pc := 145) (b := 1) (As := [.int (1 : Int32), .int (a1 - (10 : Int32))]) (rest := []) kX6_259 (m_X4_setAfter g μ2 (1 : Int32) (a1 - (10 : Int32))) ltC_1 kdC_1 rfl rfl ⟨rfl, rfl⟩ ⟨Nat.le_of_ble_eq_true rfl, Nat.le_of_ble_eq_true rfl⟩ (Nat.le_of_ble_eq_true rfl) rfl rfl dX6_factTold_145 (fun r11 μ12 => ?_)
      change Zw g ΛC enI RX6 cX6_factTold 2 (some .int) rX6_factTold 148 [(0, .ref (g.2.2.1 0)), (1, .int a1)] [.int r11] μ12 _
      exact z_iret dX6_factTold_148
    · have h14 : a1.toInt = 10 ∨ a1.toInt = 11 ∨ a1.toInt = 12 ∨ a1.toInt = 13 := by omega
      refine z_tabIn (pc := 23) (tgt := 136) dX6_factTold_23 (fun q => h13 (Or.inl q)) (fun q => h13 (Or.inr q)) (off := 113) (by rcases h14 with q | q | q | q <;> (rw [q]; decide +kernel)) (by decide) ?_
      refine z_aload_n (pc := 136) 0 dX6_factTold_136 rfl rfl ?_
      refine z_get (pc := 137) (v := .ref (g.2.2.1 1)) flX6_15 jnX6 ltC_0 kdC_0 rfl (by decide) rfl foC_0_0 rfl dX6_factTold_137 ?_
      refine z_iconst (pc := 140) (v := 1) dX6_factTold_140 rfl ?_
      refine z_iload_n (pc := 141) 1 dX6_factTold_141 rfl rfl ?_
      refine z_bipush (pc := 142) (v := 10) dX6_factTold_142 (by decide +kernel) ?_
      refine z_isub (pc := 144) dX6_factTold_144 ?_
      refine z_callV (pc := 145) (b := 1) (As := [.int (1 : Int32), .int (a1 - (10 : Int32))]) (rest := []) kX6_259 (m_X4_setAfter g μ2 (1 : Int32) (a1 - (10 : Int32))) ltC_1 kdC_1 rfl rfl ⟨rfl, rfl⟩ ⟨Nat.le_of_ble_eq_true rfl, Nat.le_of_ble_eq_true rfl⟩ (Nat.le_of_ble_eq_true rfl) rfl rfl dX6_factTold_145 (fun r11 μ12 => ?_)
      change Zw g ΛC enI RX6 cX6_factTold 2 (some .int) rX6_factTold 148 [(0, .ref (g.2.2.1 0)), (1, .int a1)] [.int r11] μ12 _
      exact z_iret dX6_factTold_148
  · refine z_aload_n (pc := 15) 0 dX6_factTold_15 rfl rfl ?_
    refine z_get (pc := 16) (v := .ref (g.2.2.1 82)) flX6_55 jnX6 ltC_0 kdC_0 rfl (by decide) rfl foC_0_6 rfl dX6_factTold_16 ?_
    refine z_iload_n (pc := 19) 1 dX6_factTold_19 rfl rfl ?_
    refine z_iaload_g (pc := 20) ltC_82 kdC_82 dX6_factTold_20 ?_
    exact z_iret dX6_factTold_21
def f_X6_told (a1 : Int32) (μ : Mm) : Option (Int32 × Mm) := bd (f_X6_within a1 (0 : Int32) (14 : Int32) μ) fun r1 μ2 => if r1 = 0 then (bd (f_X6_refusal (-2 : Int32) μ2) fun r4 μ5 => some (r4, μ5)) else (bd (f_X6_factTold a1 μ2) fun r6 μ7 => some (r6, μ7))
theorem m_X6_told (g : Gx) (μ : Mm) (a1 : Int32) : Zm g ΛC enI yX6_told cX6_told 2 (some .int) rX6_told [.ref (g.2.2.1 0), .int a1] μ (f_X6_told a1 μ) := by
  refine z_met (by decide +kernel) (Nat.le_of_ble_eq_true rfl) ?_
  change Zw g ΛC enI RX6 cX6_told 2 (some .int) rX6_told 0 [(0, .ref (g.2.2.1 0)), (1, .int a1)] [] μ (f_X6_told a1 μ)
  rw [f_X6_told]
  refine z_iload_n (pc := 0) 1 dX6_told_0 rfl rfl ?_
  refine z_iconst (pc := 1) (v := 0) dX6_told_1 rfl ?_
  refine z_bipush (pc := 2) (v := 14) dX6_told_2 (by decide +kernel) ?_
  refine z_callS (pc := 4) (As := [.int a1, .int (0 : Int32), .int (14 : Int32)]) (rest := []) kX6_86 (m_X6_within g μ a1 (0 : Int32) (14 : Int32)) ⟨rfl, rfl⟩ ⟨Nat.le_of_ble_eq_true rfl, Nat.le_of_ble_eq_true rfl⟩ (Nat.le_of_ble_eq_true rfl) rfl rfl dX6_told_4 (fun r1 μ2 => ?_)
  change Zw g ΛC enI RX6 cX6_told 2 (some .int) rX6_told 7 [(0, .ref (g.2.2.1 0)), (1, .int a1)] [.int r1] μ2 _
  refine z_if_eq (pc := 7) (tgt := 18) dX6_told_7 (by decide) (fun h3 => ?_) (fun h3 => ?_)
  · refine z_aload_n (pc := 18) 0 dX6_told_18 rfl rfl ?_
    refine z_bipush (pc := 19) (v := -2) dX6_told_19 (by decide +kernel) ?_
    refine z_callV (pc := 21) (b := 0) (As := [.int (-2 : Int32)]) (rest := []) kX6_90 (m_X6_refusal g μ2 (-2 : Int32)) ltC_0 kdC_0 rfl rfl ⟨rfl, rfl⟩ ⟨Nat.le_of_ble_eq_true rfl, Nat.le_of_ble_eq_true rfl⟩ (Nat.le_of_ble_eq_true rfl) rfl rfl dX6_told_21 (fun r4 μ5 => ?_)
    change Zw g ΛC enI RX6 cX6_told 2 (some .int) rX6_told 24 [(0, .ref (g.2.2.1 0)), (1, .int a1)] [.int r4] μ5 _
    exact z_iret dX6_told_24
  · refine z_aload_n (pc := 10) 0 dX6_told_10 rfl rfl ?_
    refine z_iload_n (pc := 11) 1 dX6_told_11 rfl rfl ?_
    refine z_callV (pc := 12) (b := 0) (As := [.int a1]) (rest := []) kX6_198 (m_X6_factTold g μ2 a1) ltC_0 kdC_0 rfl rfl ⟨rfl, rfl⟩ ⟨Nat.le_of_ble_eq_true rfl, Nat.le_of_ble_eq_true rfl⟩ (Nat.le_of_ble_eq_true rfl) rfl rfl dX6_told_12 (fun r6 μ7 => ?_)
    change Zw g ΛC enI RX6 cX6_told 2 (some .int) rX6_told 15 [(0, .ref (g.2.2.1 0)), (1, .int a1)] [.int r6] μ7 _
    refine z_goto (pc := 15) (tgt := 24) dX6_told_15 (by decide) ?_
    exact z_iret dX6_told_24
def lp_X6_digest_6 : Nat → Int64 → Int32 → Mm → (Int64 → Mm → Option (Int64 × Mm)) → Option (Int64 × Mm)
  | 0, _, _, _, _ => none
  | n + 1, y1, y3, μ, k => if (15 : Int32) ≤ y3 then (k y1 μ) else (bd (f_X6_factTold y3 μ) fun r2 μ3 => lp_X6_digest_6 n (((31 : Int64) * y1) + r2.toInt64) (y3 + 1) μ3 k)
theorem w_X6_digest_6 (g : Gx) : ∀ (n : Nat) (y1 : Int64) (y3 : Int32) (μ : Mm) (k : Int64 → Mm → Option (Int64 × Mm)), (∀ (z1 : Int64) (ν : Mm), Zw g ΛC enJ RX6 cX6_digest 5 (some .long) rX6_digest 31 [(0, .ref (g.2.2.1 0)), (1, .long z1)] [] ν (k z1 ν)) → Zw g ΛC enJ RX6 cX6_digest 5 (some .long) rX6_digest 6 [(0, .ref (g.2.2.1 0)), (1, .long y1), (3, .int y3)] [] μ (lp_X6_digest_6 n y1 y3 μ k) := by
  intro n
  induction n with
  | zero =>
    intro y1 y3 μ k hk
    exact z_none
  | succ n ih =>
    intro y1 y3 μ k hk
    rw [lp_X6_digest_6]
    refine z_iload_n (pc := 6) 2 dX6_digest_6 rfl rfl ?_
    refine z_bipush (pc := 7) (v := 15) dX6_digest_7 (by decide +kernel) ?_
    refine z_icmp_ge (pc := 9) (tgt := 31) dX6_digest_9 (by decide) (fun h1 => ?_) (fun h1 => ?_)
    · refine z_sub (lv2 := [(0, .ref (g.2.2.1 0)), (1, .long y1)]) [0, 1] rfl ?_
      exact hk _ _
    · refine z_ldc2 (pc := 12) (v := 31) klX6_203 dX6_digest_12 ?_
      refine z_lload_n (pc := 15) 1 dX6_digest_15 rfl rfl ?_
      refine z_lmul (pc := 16) dX6_digest_16 ?_
      refine z_aload_n (pc := 17) 0 dX6_digest_17 rfl rfl ?_
      refine z_iload_n (pc := 18) 2 dX6_digest_18 rfl rfl ?_
      refine z_callV (pc := 19) (b := 0) (As := [.int y3]) (rest := [.long ((31 : Int64) * y1)]) kX6_198 (m_X6_factTold g μ y3) ltC_0 kdC_0 rfl rfl ⟨rfl, rfl⟩ ⟨Nat.le_of_ble_eq_true rfl, Nat.le_of_ble_eq_true rfl⟩ (Nat.le_of_ble_eq_true rfl) rfl rfl dX6_digest_19 (fun r2 μ3 => ?_)
      change Zw g ΛC enJ RX6 cX6_digest 5 (some .long) rX6_digest 22 [(0, .ref (g.2.2.1 0)), (1, .long y1), (3, .int y3)] [.int r2, .long ((31 : Int64) * y1)] μ3 _
      refine z_i2l (pc := 22) dX6_digest_22 ?_
      refine z_ladd (pc := 23) dX6_digest_23 ?_
      refine z_lstore_n (pc := 24) (lv2 := [(0, .ref (g.2.2.1 0)), (1, .long (((31 : Int64) * y1) + r2.toInt64)), (3, .int y3)]) [1, 0, 2] dX6_digest_24 rfl (by decide) rfl ?_
      refine z_iinc (pc := 25) (v := y3 + 1) (lv2 := [(0, .ref (g.2.2.1 0)), (1, .long (((31 : Int64) * y1) + r2.toInt64)), (3, .int (y3 + 1))]) 2 [1, 2, 0] dX6_digest_25 rfl (by rw [oi_1]) (by decide) rfl ?_
      refine z_goto (pc := 28) (tgt := 6) dX6_digest_28 (by decide) ?_
      exact ih _ _ _ _ hk
def lp_X6_digest_85 (c3 : Int32) : Nat → Int64 → Int32 → Mm → (Int64 → Mm → Option (Int64 × Mm)) → Option (Int64 × Mm)
  | 0, _, _, _, _ => none
  | n + 1, y1, y4, μ, k => if (4 : Int32) ≤ y4 then (k y1 μ) else (bd (f_X4_fixedPhrase c3 y4 μ) fun r16 μ17 => lp_X6_digest_85 c3 n (((31 : Int64) * y1) + r16.toInt64) (y4 + 1) μ17 k)
theorem w_X6_digest_85 (g : Gx) (c3 : Int32) : ∀ (n : Nat) (y1 : Int64) (y4 : Int32) (μ : Mm) (k : Int64 → Mm → Option (Int64 × Mm)), (∀ (z1 : Int64) (ν : Mm), Zw g ΛC enJ RX6 cX6_digest 5 (some .long) rX6_digest 115 [(0, .ref (g.2.2.1 0)), (1, .long z1), (3, .int c3)] [] ν (k z1 ν)) → Zw g ΛC enJ RX6 cX6_digest 5 (some .long) rX6_digest 85 [(0, .ref (g.2.2.1 0)), (1, .long y1), (3, .int c3), (4, .int y4)] [] μ (lp_X6_digest_85 c3 n y1 y4 μ k) := by
  intro n
  induction n with
  | zero =>
    intro y1 y4 μ k hk
    exact z_none
  | succ n ih =>
    intro y1 y4 μ k hk
    rw [lp_X6_digest_85]
    refine z_iload (pc := 85) 3 dX6_digest_85 rfl ?_
    refine z_iconst (pc := 87) (v := 4) dX6_digest_87 rfl ?_
    refine z_icmp_ge (pc := 88) (tgt := 115) dX6_digest_88 (by decide) (fun h15 => ?_) (fun h15 => ?_)
    · refine z_sub (lv2 := [(0, .ref (g.2.2.1 0)), (1, .long y1), (3, .int c3)]) [0, 1, 2] rfl ?_
      exact hk _ _
    · refine z_ldc2 (pc := 91) (v := 31) klX6_203 dX6_digest_91 ?_
      refine z_lload_n (pc := 94) 1 dX6_digest_94 rfl rfl ?_
      refine z_lmul (pc := 95) dX6_digest_95 ?_
      refine z_aload_n (pc := 96) 0 dX6_digest_96 rfl rfl ?_
      refine z_get (pc := 97) (v := .ref (g.2.2.1 1)) flX6_15 jnX6 ltC_0 kdC_0 rfl (by decide) rfl foC_0_0 rfl dX6_digest_97 ?_
      refine z_iload_n (pc := 100) 2 dX6_digest_100 rfl rfl ?_
      refine z_iload (pc := 101) 3 dX6_digest_101 rfl ?_
      refine z_callV (pc := 103) (b := 1) (As := [.int c3, .int y4]) (rest := [.long ((31 : Int64) * y1)]) kX6_133 (m_X4_fixedPhrase g μ c3 y4) ltC_1 kdC_1 rfl rfl ⟨rfl, rfl⟩ ⟨Nat.le_of_ble_eq_true rfl, Nat.le_of_ble_eq_true rfl⟩ (Nat.le_of_ble_eq_true rfl) rfl rfl dX6_digest_103 (fun r16 μ17 => ?_)
      change Zw g ΛC enJ RX6 cX6_digest 5 (some .long) rX6_digest 106 [(0, .ref (g.2.2.1 0)), (1, .long y1), (3, .int c3), (4, .int y4)] [.int r16, .long ((31 : Int64) * y1)] μ17 _
      refine z_i2l (pc := 106) dX6_digest_106 ?_
      refine z_ladd (pc := 107) dX6_digest_107 ?_
      refine z_lstore_n (pc := 108) (lv2 := [(0, .ref (g.2.2.1 0)), (1, .long (((31 : Int64) * y1) + r16.toInt64)), (3, .int c3), (4, .int y4)]) [1, 0, 2, 3] dX6_digest_108 rfl (by decide) rfl ?_
      refine z_iinc (pc := 109) (v := y4 + 1) (lv2 := [(0, .ref (g.2.2.1 0)), (1, .long (((31 : Int64) * y1) + r16.toInt64)), (3, .int c3), (4, .int (y4 + 1))]) 3 [1, 2, 3, 0] dX6_digest_109 rfl (by rw [oi_1]) (by decide) rfl ?_
      refine z_goto (pc := 112) (tgt := 85) dX6_digest_112 (by decide) ?_
      exact ih _ _ _ _ hk
def lp_X6_digest_65 : Nat → Int64 → Int32 → Mm → (Int64 → Mm → Option (Int64 × Mm)) → Option (Int64 × Mm)
  | 0, _, _, _, _ => none
  | n + 1, y1, y3, μ, k => if (3 : Int32) ≤ y3 then (k y1 μ) else (bd (f_X6_countMade y3 μ) fun r13 μ14 => lp_X6_digest_85 y3 FU (((31 : Int64) * y1) + r13) (0 : Int32) μ14 (fun x18 μ19 => lp_X6_digest_65 n x18 (y3 + 1) μ19 k))
theorem w_X6_digest_65 (g : Gx) : ∀ (n : Nat) (y1 : Int64) (y3 : Int32) (μ : Mm) (k : Int64 → Mm → Option (Int64 × Mm)), (∀ (z1 : Int64) (ν : Mm), Zw g ΛC enJ RX6 cX6_digest 5 (some .long) rX6_digest 121 [(1, .long z1)] [] ν (k z1 ν)) → Zw g ΛC enJ RX6 cX6_digest 5 (some .long) rX6_digest 65 [(0, .ref (g.2.2.1 0)), (1, .long y1), (3, .int y3)] [] μ (lp_X6_digest_65 n y1 y3 μ k) := by
  intro n
  induction n with
  | zero =>
    intro y1 y3 μ k hk
    exact z_none
  | succ n ih =>
    intro y1 y3 μ k hk
    rw [lp_X6_digest_65]
    refine z_iload_n (pc := 65) 2 dX6_digest_65 rfl rfl ?_
    refine z_iconst (pc := 66) (v := 3) dX6_digest_66 rfl ?_
    refine z_icmp_ge (pc := 67) (tgt := 121) dX6_digest_67 (by decide) (fun h12 => ?_) (fun h12 => ?_)
    · refine z_sub (lv2 := [(1, .long y1)]) [1] rfl ?_
      exact hk _ _
    · refine z_ldc2 (pc := 70) (v := 31) klX6_203 dX6_digest_70 ?_
      refine z_lload_n (pc := 73) 1 dX6_digest_73 rfl rfl ?_
      refine z_lmul (pc := 74) dX6_digest_74 ?_
      refine z_aload_n (pc := 75) 0 dX6_digest_75 rfl rfl ?_
      refine z_iload_n (pc := 76) 2 dX6_digest_76 rfl rfl ?_
      refine z_callV (pc := 77) (b := 0) (As := [.int y3]) (rest := [.long ((31 : Int64) * y1)]) kX6_142 (m_X6_countMade g μ y3) ltC_0 kdC_0 rfl rfl ⟨rfl, rfl⟩ ⟨Nat.le_of_ble_eq_true rfl, Nat.le_of_ble_eq_true rfl⟩ (Nat.le_of_ble_eq_true rfl) rfl rfl dX6_digest_77 (fun r13 μ14 => ?_)
      change Zw g ΛC enJ RX6 cX6_digest 5 (some .long) rX6_digest 80 [(0, .ref (g.2.2.1 0)), (1, .long y1), (3, .int y3)] [.long r13, .long ((31 : Int64) * y1)] μ14 _
      refine z_ladd (pc := 80) dX6_digest_80 ?_
      refine z_lstore_n (pc := 81) (lv2 := [(0, .ref (g.2.2.1 0)), (1, .long (((31 : Int64) * y1) + r13)), (3, .int y3)]) [1, 0, 2] dX6_digest_81 rfl (by decide) rfl ?_
      refine z_iconst (pc := 82) (v := 0) dX6_digest_82 rfl ?_
      refine z_istore (pc := 83) (lv2 := [(0, .ref (g.2.2.1 0)), (1, .long (((31 : Int64) * y1) + r13)), (3, .int y3), (4, .int (0 : Int32))]) [1, 2, 3, 0] dX6_digest_83 (by decide) rfl ?_
      refine w_X6_digest_85 g y3 FU (((31 : Int64) * y1) + r13) (0 : Int32) μ14 _ (fun x18 μ19 => ?_)
      refine z_iinc (pc := 115) (v := y3 + 1) (lv2 := [(0, .ref (g.2.2.1 0)), (1, .long x18), (3, .int (y3 + 1))]) 2 [1, 2, 0] dX6_digest_115 rfl (by rw [oi_1]) (by decide) rfl ?_
      refine z_goto (pc := 118) (tgt := 65) dX6_digest_118 (by decide) ?_
      exact ih _ _ _ _ hk
def f_X6_digest (μ : Mm) : Option (Int64 × Mm) := lp_X6_digest_6 FU (2399 : Int64) (0 : Int32) μ (fun x4 μ5 => bd (f_X4_digestOn x4 μ5) fun r6 μ7 => bd (f_X6_countCuts μ7) fun r8 μ9 => bd (f_X6_countMade (-1 : Int32) μ9) fun r10 μ11 => lp_X6_digest_65 FU (((31 : Int64) * (((31 : Int64) * r6) + r8)) + r10) (0 : Int32) μ11 (fun x20 μ21 => some (x20, μ21)))
theorem m_X6_digest (g : Gx) (μ : Mm) : Zm g ΛC enJ yX6_digest cX6_digest 5 (some .long) rX6_digest [.ref (g.2.2.1 0)] μ (f_X6_digest μ) := by
  refine z_met (by decide +kernel) (Nat.le_of_ble_eq_true rfl) ?_
  change Zw g ΛC enJ RX6 cX6_digest 5 (some .long) rX6_digest 0 [(0, .ref (g.2.2.1 0))] [] μ (f_X6_digest μ)
  rw [f_X6_digest]
  refine z_ldc2 (pc := 0) (v := 2399) klX6_201 dX6_digest_0 ?_
  refine z_lstore_n (pc := 3) (lv2 := [(0, .ref (g.2.2.1 0)), (1, .long (2399 : Int64))]) [1, 0] dX6_digest_3 rfl (by decide) rfl ?_
  refine z_iconst (pc := 4) (v := 0) dX6_digest_4 rfl ?_
  refine z_istore_n (pc := 5) (lv2 := [(0, .ref (g.2.2.1 0)), (1, .long (2399 : Int64)), (3, .int (0 : Int32))]) [1, 2, 0] dX6_digest_5 rfl (by decide) rfl ?_
  refine w_X6_digest_6 g FU (2399 : Int64) (0 : Int32) μ _ (fun x4 μ5 => ?_)
  refine z_aload_n (pc := 31) 0 dX6_digest_31 rfl rfl ?_
  refine z_get (pc := 32) (v := .ref (g.2.2.1 1)) flX6_15 jnX6 ltC_0 kdC_0 rfl (by decide) rfl foC_0_0 rfl dX6_digest_32 ?_
  refine z_lload_n (pc := 35) 1 dX6_digest_35 rfl rfl ?_
  refine z_callV (pc := 36) (b := 1) (As := [.long x4]) (rest := []) kX6_205 (m_X4_digestOn g μ5 x4) ltC_1 kdC_1 rfl rfl ⟨rfl, rfl⟩ ⟨Nat.le_of_ble_eq_true rfl, Nat.le_of_ble_eq_true rfl⟩ (Nat.le_of_ble_eq_true rfl) rfl rfl dX6_digest_36 (fun r6 μ7 => ?_)
  change Zw g ΛC enJ RX6 cX6_digest 5 (some .long) rX6_digest 39 [(0, .ref (g.2.2.1 0)), (1, .long x4)] [.long r6] μ7 _
  refine z_lstore_n (pc := 39) (lv2 := [(0, .ref (g.2.2.1 0)), (1, .long r6)]) [1, 0] dX6_digest_39 rfl (by decide) rfl ?_
  refine z_ldc2 (pc := 40) (v := 31) klX6_203 dX6_digest_40 ?_
  refine z_lload_n (pc := 43) 1 dX6_digest_43 rfl rfl ?_
  refine z_lmul (pc := 44) dX6_digest_44 ?_
  refine z_aload_n (pc := 45) 0 dX6_digest_45 rfl rfl ?_
  refine z_callV (pc := 46) (b := 0) (As := []) (rest := [.long ((31 : Int64) * r6)]) kX6_103 (m_X6_countCuts g μ7) ltC_0 kdC_0 rfl rfl ⟨rfl, rfl⟩ ⟨Nat.le_of_ble_eq_true rfl, Nat.le_of_ble_eq_true rfl⟩ (Nat.le_of_ble_eq_true rfl) rfl rfl dX6_digest_46 (fun r8 μ9 => ?_)
  change Zw g ΛC enJ RX6 cX6_digest 5 (some .long) rX6_digest 49 [(0, .ref (g.2.2.1 0)), (1, .long r6)] [.long r8, .long ((31 : Int64) * r6)] μ9 _
  refine z_ladd (pc := 49) dX6_digest_49 ?_
  refine z_lstore_n (pc := 50) (lv2 := [(0, .ref (g.2.2.1 0)), (1, .long (((31 : Int64) * r6) + r8))]) [1, 0] dX6_digest_50 rfl (by decide) rfl ?_
  refine z_ldc2 (pc := 51) (v := 31) klX6_203 dX6_digest_51 ?_
  refine z_lload_n (pc := 54) 1 dX6_digest_54 rfl rfl ?_
  refine z_lmul (pc := 55) dX6_digest_55 ?_
  refine z_aload_n (pc := 56) 0 dX6_digest_56 rfl rfl ?_
  refine z_iconst (pc := 57) (v := -1) dX6_digest_57 rfl ?_
  refine z_callV (pc := 58) (b := 0) (As := [.int (-1 : Int32)]) (rest := [.long ((31 : Int64) * (((31 : Int64) * r6) + r8))]) kX6_142 (m_X6_countMade g μ9 (-1 : Int32)) ltC_0 kdC_0 rfl rfl ⟨rfl, rfl⟩ ⟨Nat.le_of_ble_eq_true rfl, Nat.le_of_ble_eq_true rfl⟩ (Nat.le_of_ble_eq_true rfl) rfl rfl dX6_digest_58 (fun r10 μ11 => ?_)
  change Zw g ΛC enJ RX6 cX6_digest 5 (some .long) rX6_digest 61 [(0, .ref (g.2.2.1 0)), (1, .long (((31 : Int64) * r6) + r8))] [.long r10, .long ((31 : Int64) * (((31 : Int64) * r6) + r8))] μ11 _
  refine z_ladd (pc := 61) dX6_digest_61 ?_
  refine z_lstore_n (pc := 62) (lv2 := [(0, .ref (g.2.2.1 0)), (1, .long (((31 : Int64) * (((31 : Int64) * r6) + r8)) + r10))]) [1, 0] dX6_digest_62 rfl (by decide) rfl ?_
  refine z_iconst (pc := 63) (v := 0) dX6_digest_63 rfl ?_
  refine z_istore_n (pc := 64) (lv2 := [(0, .ref (g.2.2.1 0)), (1, .long (((31 : Int64) * (((31 : Int64) * r6) + r8)) + r10)), (3, .int (0 : Int32))]) [1, 2, 0] dX6_digest_64 rfl (by decide) rfl ?_
  refine w_X6_digest_65 g FU (((31 : Int64) * (((31 : Int64) * r6) + r8)) + r10) (0 : Int32) μ11 _ (fun x20 μ21 => ?_)
  refine z_lload_n (pc := 121) 0 dX6_digest_121 rfl rfl ?_
  exact z_lret dX6_digest_122
