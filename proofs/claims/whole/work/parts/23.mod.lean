def lp_X7_findsBest_38 (c3 : Int32) : Nat → Int32 → Int32 → Mm → (Mm → Option (Int32 × Mm)) → Option (Int32 × Mm)
  | 0, _, _, _, _ => none
  | n + 1, y2, y4, μ, k => if y2 = (-1 : Int32) then (k  μ) else (if zin (μ.1 0 11) 40 then (bd (f_X7_leads y2 y4 (si (si μ 7 ((μ.1 0 11).toNatClampNeg) y2) 0 11 ((μ.1 0 11) + (1 : Int32)))) fun r7 μ8 => if zin ((9 : Int32) + y2) 148 then (if zin (((4 : Int32) * r7) + (μ8.1 1 (((9 : Int32) + y2).toNatClampNeg))) 164 then (lp_X7_findsBest_38 c3 n (μ8.1 10 ((((4 : Int32) * r7) + (μ8.1 1 (((9 : Int32) + y2).toNatClampNeg))).toNatClampNeg)) r7 μ8 k) else none) else none) else none)
theorem w_X7_findsBest_38 (g : Gx) (c3 : Int32) : ∀ (n : Nat) (y2 : Int32) (y4 : Int32) (μ : Mm) (k : Mm → Option (Int32 × Mm)), (∀ (ν : Mm), Zw g ΛM enI RX7 cX7_findsBest 5 (some .int) rX7_findsBest 95 [(3, .int c3)] [] ν (k  ν)) → Zw g ΛM enI RX7 cX7_findsBest 5 (some .int) rX7_findsBest 38 [(0, .ref (g.2.2.1 0)), (2, .int y2), (3, .int c3), (4, .int y4)] [] μ (lp_X7_findsBest_38 c3 n y2 y4 μ k) := by
  intro n
  induction n with
  | zero =>
    intro y2 y4 μ k hk
    exact z_none
  | succ n ih =>
    intro y2 y4 μ k hk
    rw [lp_X7_findsBest_38]
    refine z_iload_n (pc := 38) 1 dX7_findsBest_38 rfl rfl ?_
    refine z_iconst (pc := 39) (v := -1) dX7_findsBest_39 rfl ?_
    refine z_icmp_eq (pc := 40) (tgt := 95) dX7_findsBest_40 (by decide) (fun h6 => ?_) (fun h6 => ?_)
    · refine z_sub (lv2 := [(3, .int c3)]) [2] rfl ?_
      exact hk _
    · refine z_aload_n (pc := 43) 0 dX7_findsBest_43 rfl rfl ?_
      refine z_get (pc := 44) (v := .ref (g.2.2.1 7)) flX7_29 jnX7 ltM_0 kdM_0 rfl (by decide) rfl foM_0_10 rfl dX7_findsBest_44 ?_
      refine z_aload_n (pc := 47) 0 dX7_findsBest_47 rfl rfl ?_
      refine z_get (pc := 48) (v := .int (μ.1 0 11)) flX7_169 jnX7 ltM_0 kdM_0 rfl (by decide) rfl foM_0_11 rfl dX7_findsBest_48 ?_
      refine z_iload_n (pc := 51) 1 dX7_findsBest_51 rfl rfl ?_
      refine z_iastore_g (pc := 52) ltM_7 kdM_7 dX7_findsBest_52 ?_
      refine z_aload_n (pc := 53) 0 dX7_findsBest_53 rfl rfl ?_
      refine z_dup (pc := 54) dX7_findsBest_54 rfl ?_
      refine z_get (pc := 55) (v := .int (μ.1 0 11)) flX7_169 jnX7 ltM_0 kdM_0 rfl (by decide) rfl foM_0_11 rfl dX7_findsBest_55 ?_
      refine z_iconst (pc := 58) (v := 1) dX7_findsBest_58 rfl ?_
      refine z_iadd (pc := 59) dX7_findsBest_59 ?_
      refine z_puti (x := (0, 0)) (pc := 60) flX7_169 jnX7 tyX7 tyX7_ok nmX7 ltM_0 kdM_0 rfl (by decide) rfl foM_0_11 rfl ⟨rfl, rfl⟩ dX7_findsBest_60 ?_
      refine z_aload_n (pc := 63) 0 dX7_findsBest_63 rfl rfl ?_
      refine z_iload_n (pc := 64) 1 dX7_findsBest_64 rfl rfl ?_
      refine z_iload (pc := 65) 3 dX7_findsBest_65 rfl ?_
      refine z_callV (pc := 67) (b := 0) (As := [.int y2, .int y4]) (rest := []) kX7_143 (m_X7_leads g (si (si μ 7 ((μ.1 0 11).toNatClampNeg) y2) 0 11 ((μ.1 0 11) + (1 : Int32))) y2 y4) ltM_0 kdM_0 rfl rfl ⟨rfl, rfl⟩ ⟨Nat.le_of_ble_eq_true rfl, Nat.le_of_ble_eq_true rfl⟩ (Nat.le_of_ble_eq_true rfl) rfl rfl dX7_findsBest_67 (fun r7 μ8 => ?_)
      change Zw g ΛM enI RX7 cX7_findsBest 5 (some .int) rX7_findsBest 70 [(0, .ref (g.2.2.1 0)), (2, .int y2), (3, .int c3), (4, .int y4)] [.int r7] μ8 _
      refine z_istore (pc := 70) (lv2 := [(0, .ref (g.2.2.1 0)), (2, .int y2), (3, .int c3), (4, .int r7)]) [1, 2, 3, 0] dX7_findsBest_70 (by decide) rfl ?_
      refine z_aload_n (pc := 72) 0 dX7_findsBest_72 rfl rfl ?_
      refine z_get (pc := 73) (v := .ref (g.2.2.1 10)) flX7_38 jnX7 ltM_0 kdM_0 rfl (by decide) rfl foM_0_14 rfl dX7_findsBest_73 ?_
      refine z_iconst (pc := 76) (v := 4) dX7_findsBest_76 rfl ?_
      refine z_iload (pc := 77) 3 dX7_findsBest_77 rfl ?_
      refine z_imul (pc := 79) dX7_findsBest_79 ?_
      refine z_aload_n (pc := 80) 0 dX7_findsBest_80 rfl rfl ?_
      refine z_get (pc := 81) (v := .ref (g.2.2.1 1)) flX7_7 jnX7 ltM_0 kdM_0 rfl (by decide) rfl foM_0_0 rfl dX7_findsBest_81 ?_
      refine z_bipush (pc := 84) (v := 9) dX7_findsBest_84 (by decide +kernel) ?_
      refine z_iload_n (pc := 86) 1 dX7_findsBest_86 rfl rfl ?_
      refine z_iadd (pc := 87) dX7_findsBest_87 ?_
      refine z_iaload_g (pc := 88) ltM_1 kdM_1 dX7_findsBest_88 ?_
      refine z_iadd (pc := 89) dX7_findsBest_89 ?_
      refine z_iaload_g (pc := 90) ltM_10 kdM_10 dX7_findsBest_90 ?_
      refine z_istore_n (pc := 91) (lv2 := [(0, .ref (g.2.2.1 0)), (2, .int (μ8.1 10 ((((4 : Int32) * r7) + (μ8.1 1 (((9 : Int32) + y2).toNatClampNeg))).toNatClampNeg))), (3, .int c3), (4, .int r7)]) [1, 0, 2, 3] dX7_findsBest_91 rfl (by decide) rfl ?_
      refine z_goto (pc := 92) (tgt := 38) dX7_findsBest_92 (by decide) ?_
      exact ih _ _ _ _ hk
def f_X7_findsBest (a1 : Int32) (μ : Mm) : Option (Int32 × Mm) := bd (f_X7_laysBest a1 μ) fun r1 μ2 => bd (f_X7_dearest (0 : Int32) (μ2.1 1 3) a1 (si μ2 0 11 (0 : Int32))) fun r3 μ4 => if r3 = (-1 : Int32) then (some ((-1 : Int32), μ4)) else (lp_X7_findsBest_38 (μ4.1 0 15) FU r3 (0 : Int32) μ4 (fun  μ9 => some (μ4.1 0 15, μ9)))
theorem m_X7_findsBest (g : Gx) (μ : Mm) (a1 : Int32) : Zm g ΛM enI yX7_findsBest cX7_findsBest 5 (some .int) rX7_findsBest [.ref (g.2.2.1 0), .int a1] μ (f_X7_findsBest a1 μ) := by
  refine z_met (by decide +kernel) (Nat.le_of_ble_eq_true rfl) ?_
  change Zw g ΛM enI RX7 cX7_findsBest 5 (some .int) rX7_findsBest 0 [(0, .ref (g.2.2.1 0)), (1, .int a1)] [] μ (f_X7_findsBest a1 μ)
  rw [f_X7_findsBest]
  refine z_aload_n (pc := 0) 0 dX7_findsBest_0 rfl rfl ?_
  refine z_iload_n (pc := 1) 1 dX7_findsBest_1 rfl rfl ?_
  refine z_callV (pc := 2) (b := 0) (As := [.int a1]) (rest := []) kX7_208 (m_X7_laysBest g μ a1) ltM_0 kdM_0 rfl rfl ⟨rfl, rfl⟩ ⟨Nat.le_of_ble_eq_true rfl, Nat.le_of_ble_eq_true rfl⟩ (Nat.le_of_ble_eq_true rfl) rfl rfl dX7_findsBest_2 (fun r1 μ2 => ?_)
  change Zw g ΛM enI RX7 cX7_findsBest 5 (some .int) rX7_findsBest 5 [(0, .ref (g.2.2.1 0)), (1, .int a1)] [] μ2 _
  refine z_aload_n (pc := 5) 0 dX7_findsBest_5 rfl rfl ?_
  refine z_iconst (pc := 6) (v := 0) dX7_findsBest_6 rfl ?_
  refine z_puti (x := (0, 0)) (pc := 7) flX7_169 jnX7 tyX7 tyX7_ok nmX7 ltM_0 kdM_0 rfl (by decide) rfl foM_0_11 rfl ⟨rfl, rfl⟩ dX7_findsBest_7 ?_
  refine z_aload_n (pc := 10) 0 dX7_findsBest_10 rfl rfl ?_
  refine z_iconst (pc := 11) (v := 0) dX7_findsBest_11 rfl ?_
  refine z_aload_n (pc := 12) 0 dX7_findsBest_12 rfl rfl ?_
  refine z_get (pc := 13) (v := .ref (g.2.2.1 1)) flX7_7 jnX7 ltM_0 kdM_0 rfl (by decide) rfl foM_0_0 rfl dX7_findsBest_13 ?_
  refine z_iconst (pc := 16) (v := 3) dX7_findsBest_16 rfl ?_
  refine z_iaload (pc := 17) (j := 3) ltM_1 kdM_1 (by decide +kernel) (by decide +kernel) dX7_findsBest_17 ?_
  show Zw g ΛM enI RX7 cX7_findsBest 5 (some .int) rX7_findsBest 18 [(0, .ref (g.2.2.1 0)), (1, .int a1)] [.int (μ2.1 1 3), .int (0 : Int32), .ref (g.2.2.1 0)] (si μ2 0 11 (0 : Int32)) _
  refine z_iload_n (pc := 18) 1 dX7_findsBest_18 rfl rfl ?_
  refine z_callV (pc := 19) (b := 0) (As := [.int (0 : Int32), .int (μ2.1 1 3), .int a1]) (rest := []) kX7_204 (m_X7_dearest g (si μ2 0 11 (0 : Int32)) (0 : Int32) (μ2.1 1 3) a1) ltM_0 kdM_0 rfl rfl ⟨rfl, rfl⟩ ⟨Nat.le_of_ble_eq_true rfl, Nat.le_of_ble_eq_true rfl⟩ (Nat.le_of_ble_eq_true rfl) rfl rfl dX7_findsBest_19 (fun r3 μ4 => ?_)
  change Zw g ΛM enI RX7 cX7_findsBest 5 (some .int) rX7_findsBest 22 [(0, .ref (g.2.2.1 0)), (1, .int a1)] [.int r3] μ4 _
  refine z_istore_n (pc := 22) (lv2 := [(0, .ref (g.2.2.1 0)), (1, .int a1), (2, .int r3)]) [1, 2, 0] dX7_findsBest_22 rfl (by decide) rfl ?_
  refine z_iload_n (pc := 23) 2 dX7_findsBest_23 rfl rfl ?_
  refine z_iconst (pc := 24) (v := -1) dX7_findsBest_24 rfl ?_
  refine z_icmp_ne (pc := 25) (tgt := 30) dX7_findsBest_25 (by decide) (fun h5 => ?_) (fun h5 => ?_)
  · refine z_aload_n (pc := 30) 0 dX7_findsBest_30 rfl rfl ?_
    refine z_get (pc := 31) (v := .int (μ4.1 0 15)) flX7_198 jnX7 ltM_0 kdM_0 rfl (by decide) rfl foM_0_15 rfl dX7_findsBest_31 ?_
    refine z_istore_n (pc := 34) (lv2 := [(0, .ref (g.2.2.1 0)), (1, .int a1), (2, .int r3), (3, .int (μ4.1 0 15))]) [1, 2, 3, 0] dX7_findsBest_34 rfl (by decide) rfl ?_
    refine z_iconst (pc := 35) (v := 0) dX7_findsBest_35 rfl ?_
    refine z_istore (pc := 36) (lv2 := [(0, .ref (g.2.2.1 0)), (1, .int a1), (2, .int r3), (3, .int (μ4.1 0 15)), (4, .int (0 : Int32))]) [1, 2, 3, 4, 0] dX7_findsBest_36 (by decide) rfl ?_
    refine z_sub (lv2 := [(0, .ref (g.2.2.1 0)), (2, .int r3), (3, .int (μ4.1 0 15)), (4, .int (0 : Int32))]) [0, 2, 3, 4] rfl ?_
    refine w_X7_findsBest_38 g (μ4.1 0 15) FU r3 (0 : Int32) μ4 _ (fun  μ9 => ?_)
    refine z_iload_n (pc := 95) 0 dX7_findsBest_95 rfl rfl ?_
    exact z_iret dX7_findsBest_96
  · refine z_iconst (pc := 28) (v := -1) dX7_findsBest_28 rfl ?_
    exact z_iret dX7_findsBest_29
def f_X7_best (a1 : Int32) (a2 : Int32) (μ : Mm) : Option (Int32 × Mm) := bd (f_X7_isMaker a1 μ) fun r1 μ2 => if r1 = 0 then (bd (f_X7_bad μ2) fun r4 μ5 => some (r4, μ5)) else (if (-2 : Int32) ≤ a2 then (bd (f_X7_findsBest a1 μ2) fun r7 μ8 => if 0 ≤ r7 then (if a2 = (-2 : Int32) then (some (r7, μ8)) else (bd (f_X7_tellRow a2 μ8) fun r11 μ12 => some (r11, μ12))) else (bd (f_X7_no μ8) fun r13 μ14 => some (r13, μ14))) else (bd (f_X7_bad μ2) fun r15 μ16 => some (r15, μ16)))
theorem m_X7_best (g : Gx) (μ : Mm) (a1 : Int32) (a2 : Int32) : Zm g ΛM enI yX7_best cX7_best 4 (some .int) rX7_best [.ref (g.2.2.1 0), .int a1, .int a2] μ (f_X7_best a1 a2 μ) := by
  refine z_met (by decide +kernel) (Nat.le_of_ble_eq_true rfl) ?_
  change Zw g ΛM enI RX7 cX7_best 4 (some .int) rX7_best 0 [(0, .ref (g.2.2.1 0)), (1, .int a1), (2, .int a2)] [] μ (f_X7_best a1 a2 μ)
  rw [f_X7_best]
  refine z_iload_n (pc := 0) 1 dX7_best_0 rfl rfl ?_
  refine z_callS (pc := 1) (As := [.int a1]) (rest := []) kX7_181 (m_X7_isMaker g μ a1) ⟨rfl, rfl⟩ ⟨Nat.le_of_ble_eq_true rfl, Nat.le_of_ble_eq_true rfl⟩ (Nat.le_of_ble_eq_true rfl) rfl rfl dX7_best_1 (fun r1 μ2 => ?_)
  change Zw g ΛM enI RX7 cX7_best 4 (some .int) rX7_best 4 [(0, .ref (g.2.2.1 0)), (1, .int a1), (2, .int a2)] [.int r1] μ2 _
  refine z_if_eq (pc := 4) (tgt := 13) dX7_best_4 (by decide) (fun h3 => ?_) (fun h3 => ?_)
  · refine z_aload_n (pc := 13) 0 dX7_best_13 rfl rfl ?_
    refine z_callV (pc := 14) (b := 0) (As := []) (rest := []) kX7_65 (m_X7_bad g μ2) ltM_0 kdM_0 rfl rfl ⟨rfl, rfl⟩ ⟨Nat.le_of_ble_eq_true rfl, Nat.le_of_ble_eq_true rfl⟩ (Nat.le_of_ble_eq_true rfl) rfl rfl dX7_best_14 (fun r4 μ5 => ?_)
    change Zw g ΛM enI RX7 cX7_best 4 (some .int) rX7_best 17 [(0, .ref (g.2.2.1 0)), (1, .int a1), (2, .int a2)] [.int r4] μ5 _
    exact z_iret dX7_best_17
  · refine z_iload_n (pc := 7) 2 dX7_best_7 rfl rfl ?_
    refine z_bipush (pc := 8) (v := -2) dX7_best_8 (by decide +kernel) ?_
    refine z_icmp_ge (pc := 10) (tgt := 18) dX7_best_10 (by decide) (fun h6 => ?_) (fun h6 => ?_)
    · refine z_aload_n (pc := 18) 0 dX7_best_18 rfl rfl ?_
      refine z_iload_n (pc := 19) 1 dX7_best_19 rfl rfl ?_
      refine z_callV (pc := 20) (b := 0) (As := [.int a1]) (rest := []) kX7_212 (m_X7_findsBest g μ2 a1) ltM_0 kdM_0 rfl rfl ⟨rfl, rfl⟩ ⟨Nat.le_of_ble_eq_true rfl, Nat.le_of_ble_eq_true rfl⟩ (Nat.le_of_ble_eq_true rfl) rfl rfl dX7_best_20 (fun r7 μ8 => ?_)
      change Zw g ΛM enI RX7 cX7_best 4 (some .int) rX7_best 23 [(0, .ref (g.2.2.1 0)), (1, .int a1), (2, .int a2)] [.int r7] μ8 _
      refine z_istore_n (pc := 23) (lv2 := [(0, .ref (g.2.2.1 0)), (1, .int a1), (2, .int a2), (3, .int r7)]) [1, 2, 3, 0] dX7_best_23 rfl (by decide) rfl ?_
      refine z_iload_n (pc := 24) 3 dX7_best_24 rfl rfl ?_
      refine z_if_ge (pc := 25) (tgt := 33) dX7_best_25 (by decide) (fun h9 => ?_) (fun h9 => ?_)
      · refine z_iload_n (pc := 33) 2 dX7_best_33 rfl rfl ?_
        refine z_bipush (pc := 34) (v := -2) dX7_best_34 (by decide +kernel) ?_
        refine z_icmp_ne (pc := 36) (tgt := 43) dX7_best_36 (by decide) (fun h10 => ?_) (fun h10 => ?_)
        · refine z_aload_n (pc := 43) 0 dX7_best_43 rfl rfl ?_
          refine z_iload_n (pc := 44) 2 dX7_best_44 rfl rfl ?_
          refine z_callV (pc := 45) (b := 0) (As := [.int a2]) (rest := []) kX7_176 (m_X7_tellRow g μ8 a2) ltM_0 kdM_0 rfl rfl ⟨rfl, rfl⟩ ⟨Nat.le_of_ble_eq_true rfl, Nat.le_of_ble_eq_true rfl⟩ (Nat.le_of_ble_eq_true rfl) rfl rfl dX7_best_45 (fun r11 μ12 => ?_)
          change Zw g ΛM enI RX7 cX7_best 4 (some .int) rX7_best 48 [(0, .ref (g.2.2.1 0)), (1, .int a1), (2, .int a2), (3, .int r7)] [.int r11] μ12 _
          exact z_iret dX7_best_48
        · refine z_iload_n (pc := 39) 3 dX7_best_39 rfl rfl ?_
          refine z_goto (pc := 40) (tgt := 48) dX7_best_40 (by decide) ?_
          exact z_iret dX7_best_48
      · refine z_aload_n (pc := 28) 0 dX7_best_28 rfl rfl ?_
        refine z_callV (pc := 29) (b := 0) (As := []) (rest := []) kX7_55 (m_X7_no g μ8) ltM_0 kdM_0 rfl rfl ⟨rfl, rfl⟩ ⟨Nat.le_of_ble_eq_true rfl, Nat.le_of_ble_eq_true rfl⟩ (Nat.le_of_ble_eq_true rfl) rfl rfl dX7_best_29 (fun r13 μ14 => ?_)
        change Zw g ΛM enI RX7 cX7_best 4 (some .int) rX7_best 32 [(0, .ref (g.2.2.1 0)), (1, .int a1), (2, .int a2), (3, .int r7)] [.int r13] μ14 _
        exact z_iret dX7_best_32
    · refine z_aload_n (pc := 13) 0 dX7_best_13 rfl rfl ?_
      refine z_callV (pc := 14) (b := 0) (As := []) (rest := []) kX7_65 (m_X7_bad g μ2) ltM_0 kdM_0 rfl rfl ⟨rfl, rfl⟩ ⟨Nat.le_of_ble_eq_true rfl, Nat.le_of_ble_eq_true rfl⟩ (Nat.le_of_ble_eq_true rfl) rfl rfl dX7_best_14 (fun r15 μ16 => ?_)
      change Zw g ΛM enI RX7 cX7_best 4 (some .int) rX7_best 17 [(0, .ref (g.2.2.1 0)), (1, .int a1), (2, .int a2)] [.int r15] μ16 _
      exact z_iret dX7_best_17
def lp_X7_singsOne_23 (c1 : Int32) : Nat → Int32 → Mm → (Mm → Option (Int32 × Mm)) → Option (Int32 × Mm)
  | 0, _, _, _ => none
  | n + 1, y2, μ, k => if (μ.1 0 11) ≤ y2 then (k  μ) else (if zin y2 40 then (if zin (((33 : Int32) + ((12 : Int32) * c1)) + (μ.1 7 y2.toNatClampNeg)) 148 then (if zin (((33 : Int32) + ((12 : Int32) * c1)) + (μ.1 7 y2.toNatClampNeg)) 148 then (lp_X7_singsOne_23 c1 n (y2 + 1) (si μ 1 ((((33 : Int32) + ((12 : Int32) * c1)) + (μ.1 7 y2.toNatClampNeg)).toNatClampNeg) ((μ.1 1 ((((33 : Int32) + ((12 : Int32) * c1)) + (μ.1 7 y2.toNatClampNeg)).toNatClampNeg)) + (1 : Int32))) k) else none) else none) else none)
theorem w_X7_singsOne_23 (g : Gx) (c1 : Int32) : ∀ (n : Nat) (y2 : Int32) (μ : Mm) (k : Mm → Option (Int32 × Mm)), (∀ (ν : Mm), Zw g ΛM enI RX7 cX7_singsOne 3 (some .int) rX7_singsOne 60 [(0, .ref (g.2.2.1 0))] [] ν (k  ν)) → Zw g ΛM enI RX7 cX7_singsOne 3 (some .int) rX7_singsOne 23 [(0, .ref (g.2.2.1 0)), (1, .int c1), (2, .int y2)] [] μ (lp_X7_singsOne_23 c1 n y2 μ k) := by
  intro n
  induction n with
  | zero =>
    intro y2 μ k hk
    exact z_none
  | succ n ih =>
    intro y2 μ k hk
    rw [lp_X7_singsOne_23]
    refine z_iload_n (pc := 23) 2 dX7_singsOne_23 rfl rfl ?_
    refine z_aload_n (pc := 24) 0 dX7_singsOne_24 rfl rfl ?_
    refine z_get (pc := 25) (v := .int (μ.1 0 11)) flX7_169 jnX7 ltM_0 kdM_0 rfl (by decide) rfl foM_0_11 rfl dX7_singsOne_25 ?_
    refine z_icmp_ge (pc := 28) (tgt := 60) dX7_singsOne_28 (by decide) (fun h7 => ?_) (fun h7 => ?_)
    · refine z_sub (lv2 := [(0, .ref (g.2.2.1 0))]) [0] rfl ?_
      exact hk _
    · refine z_aload_n (pc := 31) 0 dX7_singsOne_31 rfl rfl ?_
      refine z_get (pc := 32) (v := .ref (g.2.2.1 1)) flX7_7 jnX7 ltM_0 kdM_0 rfl (by decide) rfl foM_0_0 rfl dX7_singsOne_32 ?_
      refine z_bipush (pc := 35) (v := 33) dX7_singsOne_35 (by decide +kernel) ?_
      refine z_bipush (pc := 37) (v := 12) dX7_singsOne_37 (by decide +kernel) ?_
      refine z_iload_n (pc := 39) 1 dX7_singsOne_39 rfl rfl ?_
      refine z_imul (pc := 40) dX7_singsOne_40 ?_
      refine z_iadd (pc := 41) dX7_singsOne_41 ?_
      refine z_aload_n (pc := 42) 0 dX7_singsOne_42 rfl rfl ?_
      refine z_get (pc := 43) (v := .ref (g.2.2.1 7)) flX7_29 jnX7 ltM_0 kdM_0 rfl (by decide) rfl foM_0_10 rfl dX7_singsOne_43 ?_
      refine z_iload_n (pc := 46) 2 dX7_singsOne_46 rfl rfl ?_
      refine z_iaload_g (pc := 47) ltM_7 kdM_7 dX7_singsOne_47 ?_
      refine z_iadd (pc := 48) dX7_singsOne_48 ?_
      refine z_dup2 (pc := 49) dX7_singsOne_49 rfl rfl ?_
      refine z_iaload_g (pc := 50) ltM_1 kdM_1 dX7_singsOne_50 ?_
      refine z_iconst (pc := 51) (v := 1) dX7_singsOne_51 rfl ?_
      refine z_iadd (pc := 52) dX7_singsOne_52 ?_
      refine z_iastore_g (pc := 53) ltM_1 kdM_1 dX7_singsOne_53 ?_
      refine z_iinc (pc := 54) (v := y2 + 1) (lv2 := [(0, .ref (g.2.2.1 0)), (1, .int c1), (2, .int (y2 + 1))]) 2 [1, 2, 0] dX7_singsOne_54 rfl (by rw [oi_1]) (by decide) rfl ?_
      refine z_goto (pc := 57) (tgt := 23) dX7_singsOne_57 (by decide) ?_
      exact ih _ _ _ hk
def f_X7_singsOne (a1 : Int32) (μ : Mm) : Option (Int32 × Mm) := bd (f_X7_isMaker a1 μ) fun r1 μ2 => if r1 = 0 then (some ((-2 : Int32), μ2)) else (bd (f_X7_findsBest a1 μ2) fun r4 μ5 => if 0 ≤ r4 then (lp_X7_singsOne_23 a1 FU (0 : Int32) μ5 (fun  μ8 => some (μ8.1 0 11, μ8))) else (some ((-3 : Int32), μ5)))
theorem m_X7_singsOne (g : Gx) (μ : Mm) (a1 : Int32) : Zm g ΛM enI yX7_singsOne cX7_singsOne 3 (some .int) rX7_singsOne [.ref (g.2.2.1 0), .int a1] μ (f_X7_singsOne a1 μ) := by
  refine z_met (by decide +kernel) (Nat.le_of_ble_eq_true rfl) ?_
  change Zw g ΛM enI RX7 cX7_singsOne 3 (some .int) rX7_singsOne 0 [(0, .ref (g.2.2.1 0)), (1, .int a1)] [] μ (f_X7_singsOne a1 μ)
  rw [f_X7_singsOne]
  refine z_iload_n (pc := 0) 1 dX7_singsOne_0 rfl rfl ?_
  refine z_callS (pc := 1) (As := [.int a1]) (rest := []) kX7_181 (m_X7_isMaker g μ a1) ⟨rfl, rfl⟩ ⟨Nat.le_of_ble_eq_true rfl, Nat.le_of_ble_eq_true rfl⟩ (Nat.le_of_ble_eq_true rfl) rfl rfl dX7_singsOne_1 (fun r1 μ2 => ?_)
  change Zw g ΛM enI RX7 cX7_singsOne 3 (some .int) rX7_singsOne 4 [(0, .ref (g.2.2.1 0)), (1, .int a1)] [.int r1] μ2 _
  refine z_if_ne (pc := 4) (tgt := 10) dX7_singsOne_4 (by decide) (fun h3 => ?_) (fun h3 => ?_)
  · refine z_aload_n (pc := 10) 0 dX7_singsOne_10 rfl rfl ?_
    refine z_iload_n (pc := 11) 1 dX7_singsOne_11 rfl rfl ?_
    refine z_callV (pc := 12) (b := 0) (As := [.int a1]) (rest := []) kX7_212 (m_X7_findsBest g μ2 a1) ltM_0 kdM_0 rfl rfl ⟨rfl, rfl⟩ ⟨Nat.le_of_ble_eq_true rfl, Nat.le_of_ble_eq_true rfl⟩ (Nat.le_of_ble_eq_true rfl) rfl rfl dX7_singsOne_12 (fun r4 μ5 => ?_)
    change Zw g ΛM enI RX7 cX7_singsOne 3 (some .int) rX7_singsOne 15 [(0, .ref (g.2.2.1 0)), (1, .int a1)] [.int r4] μ5 _
    refine z_if_ge (pc := 15) (tgt := 21) dX7_singsOne_15 (by decide) (fun h6 => ?_) (fun h6 => ?_)
    · refine z_iconst (pc := 21) (v := 0) dX7_singsOne_21 rfl ?_
      refine z_istore_n (pc := 22) (lv2 := [(0, .ref (g.2.2.1 0)), (1, .int a1), (2, .int (0 : Int32))]) [1, 2, 0] dX7_singsOne_22 rfl (by decide) rfl ?_
      refine w_X7_singsOne_23 g a1 FU (0 : Int32) μ5 _ (fun  μ8 => ?_)
      refine z_aload_n (pc := 60) 0 dX7_singsOne_60 rfl rfl ?_
      refine z_get (pc := 61) (v := .int (μ8.1 0 11)) flX7_169 jnX7 ltM_0 kdM_0 rfl (by decide) rfl foM_0_11 rfl dX7_singsOne_61 ?_
      exact z_iret dX7_singsOne_64
    · refine z_bipush (pc := 18) (v := -3) dX7_singsOne_18 (by decide +kernel) ?_
      exact z_iret dX7_singsOne_20
  · refine z_bipush (pc := 7) (v := -2) dX7_singsOne_7 (by decide +kernel) ?_
    exact z_iret dX7_singsOne_9
def f_X7_sings (a1 : Int32) (μ : Mm) : Option (Int32 × Mm) := bd (f_X7_laysAside μ) fun r1 μ2 => bd (f_X7_singsOne a1 μ2) fun r3 μ4 => bd (f_X7_answers r3 μ4) fun r5 μ6 => some (r5, μ6)
theorem m_X7_sings (g : Gx) (μ : Mm) (a1 : Int32) : Zm g ΛM enI yX7_sings cX7_sings 2 (some .int) rX7_sings [.ref (g.2.2.1 0), .int a1] μ (f_X7_sings a1 μ) := by
  refine z_met (by decide +kernel) (Nat.le_of_ble_eq_true rfl) ?_
  change Zw g ΛM enI RX7 cX7_sings 2 (some .int) rX7_sings 0 [(0, .ref (g.2.2.1 0)), (1, .int a1)] [] μ (f_X7_sings a1 μ)
  rw [f_X7_sings]
  refine z_aload_n (pc := 0) 0 dX7_sings_0 rfl rfl ?_
  refine z_callV (pc := 1) (b := 0) (As := []) (rest := []) kX7_87 (m_X7_laysAside g μ) ltM_0 kdM_0 rfl rfl ⟨rfl, rfl⟩ ⟨Nat.le_of_ble_eq_true rfl, Nat.le_of_ble_eq_true rfl⟩ (Nat.le_of_ble_eq_true rfl) rfl rfl dX7_sings_1 (fun r1 μ2 => ?_)
  change Zw g ΛM enI RX7 cX7_sings 2 (some .int) rX7_sings 4 [(0, .ref (g.2.2.1 0)), (1, .int a1)] [] μ2 _
  refine z_aload_n (pc := 4) 0 dX7_sings_4 rfl rfl ?_
  refine z_aload_n (pc := 5) 0 dX7_sings_5 rfl rfl ?_
  refine z_iload_n (pc := 6) 1 dX7_sings_6 rfl rfl ?_
  refine z_callV (pc := 7) (b := 0) (As := [.int a1]) (rest := [.ref (g.2.2.1 0)]) kX7_215 (m_X7_singsOne g μ2 a1) ltM_0 kdM_0 rfl rfl ⟨rfl, rfl⟩ ⟨Nat.le_of_ble_eq_true rfl, Nat.le_of_ble_eq_true rfl⟩ (Nat.le_of_ble_eq_true rfl) rfl rfl dX7_sings_7 (fun r3 μ4 => ?_)
  change Zw g ΛM enI RX7 cX7_sings 2 (some .int) rX7_sings 10 [(0, .ref (g.2.2.1 0)), (1, .int a1)] [.int r3, .ref (g.2.2.1 0)] μ4 _
  refine z_callV (pc := 10) (b := 0) (As := [.int r3]) (rest := []) kX7_94 (m_X7_answers g μ4 r3) ltM_0 kdM_0 rfl rfl ⟨rfl, rfl⟩ ⟨Nat.le_of_ble_eq_true rfl, Nat.le_of_ble_eq_true rfl⟩ (Nat.le_of_ble_eq_true rfl) rfl rfl dX7_sings_10 (fun r5 μ6 => ?_)
  change Zw g ΛM enI RX7 cX7_sings 2 (some .int) rX7_sings 13 [(0, .ref (g.2.2.1 0)), (1, .int a1)] [.int r5] μ6 _
  exact z_iret dX7_sings_13
def lp_X7_fixesTo_8 (c1 : Int32) (c2 : Int32) : Nat → Int32 → Int32 → Int32 → Mm → (Int32 → Int32 → Mm → Option (Int32 × Mm)) → Option (Int32 × Mm)
  | 0, _, _, _, _, _ => none
  | n + 1, y3, y4, y5, μ, k => if (μ.1 1 0) ≤ y5 then (k y3 y4 μ) else (if zin ((9 : Int32) + y5) 148 then (if (μ.1 1 (((9 : Int32) + y5).toNatClampNeg)) = c2 then (bd (f_X7_habitOf c1 y5 μ) fun r3 μ4 => if r3 ≤ 0 then (lp_X7_fixesTo_8 c1 c2 n y3 (y4 + (0 : Int32)) (y5 + 1) μ4 k) else (lp_X7_fixesTo_8 c1 c2 n y5 (y4 + (1 : Int32)) (y5 + 1) μ4 k)) else (lp_X7_fixesTo_8 c1 c2 n y3 (y4 + (0 : Int32)) (y5 + 1) μ k)) else none)
theorem w_X7_fixesTo_8 (g : Gx) (c1 : Int32) (c2 : Int32) : ∀ (n : Nat) (y3 : Int32) (y4 : Int32) (y5 : Int32) (μ : Mm) (k : Int32 → Int32 → Mm → Option (Int32 × Mm)), (∀ (z3 : Int32) (z4 : Int32) (ν : Mm), Zw g ΛM enI RX7 cX7_fixesTo 7 (some .int) rX7_fixesTo 83 [(3, .int z3), (4, .int z4)] [] ν (k z3 z4 ν)) → Zw g ΛM enI RX7 cX7_fixesTo 7 (some .int) rX7_fixesTo 8 [(0, .ref (g.2.2.1 0)), (1, .int c1), (2, .int c2), (3, .int y3), (4, .int y4), (5, .int y5)] [] μ (lp_X7_fixesTo_8 c1 c2 n y3 y4 y5 μ k) := by
  intro n
  induction n with
  | zero =>
    intro y3 y4 y5 μ k hk
    exact z_none
  | succ n ih =>
    intro y3 y4 y5 μ k hk
    rw [lp_X7_fixesTo_8]
    refine z_iload (pc := 8) 5 dX7_fixesTo_8 rfl ?_
    refine z_aload_n (pc := 10) 0 dX7_fixesTo_10 rfl rfl ?_
    refine z_get (pc := 11) (v := .ref (g.2.2.1 1)) flX7_7 jnX7 ltM_0 kdM_0 rfl (by decide) rfl foM_0_0 rfl dX7_fixesTo_11 ?_
    refine z_iconst (pc := 14) (v := 0) dX7_fixesTo_14 rfl ?_
    refine z_iaload (pc := 15) (j := 0) ltM_1 kdM_1 (by decide +kernel) (by decide +kernel) dX7_fixesTo_15 ?_
    refine z_icmp_ge (pc := 16) (tgt := 83) dX7_fixesTo_16 (by decide) (fun h1 => ?_) (fun h1 => ?_)
    · refine z_sub (lv2 := [(3, .int y3), (4, .int y4)]) [3, 4] rfl ?_
      exact hk _ _ _
    · refine z_aload_n (pc := 19) 0 dX7_fixesTo_19 rfl rfl ?_
      refine z_get (pc := 20) (v := .ref (g.2.2.1 1)) flX7_7 jnX7 ltM_0 kdM_0 rfl (by decide) rfl foM_0_0 rfl dX7_fixesTo_20 ?_
      refine z_bipush (pc := 23) (v := 9) dX7_fixesTo_23 (by decide +kernel) ?_
      refine z_iload (pc := 25) 5 dX7_fixesTo_25 rfl ?_
      refine z_iadd (pc := 27) dX7_fixesTo_27 ?_
      refine z_iaload_g (pc := 28) ltM_1 kdM_1 dX7_fixesTo_28 ?_
      refine z_iload_n (pc := 29) 2 dX7_fixesTo_29 rfl rfl ?_
      refine z_icmp_ne (pc := 30) (tgt := 47) dX7_fixesTo_30 (by decide) (fun h2 => ?_) (fun h2 => ?_)
      · refine z_iconst (pc := 47) (v := 0) dX7_fixesTo_47 rfl ?_
        refine z_istore (pc := 48) (lv2 := [(0, .ref (g.2.2.1 0)), (1, .int c1), (2, .int c2), (3, .int y3), (4, .int y4), (5, .int y5), (6, .int (0 : Int32))]) [1, 2, 3, 4, 5, 6, 0] dX7_fixesTo_48 (by decide) rfl ?_
        refine z_iload (pc := 50) 6 dX7_fixesTo_50 rfl ?_
        refine z_if_eq_y (pc := 52) (tgt := 60) dX7_fixesTo_52 (by decide) (by decide +kernel) ?_
        refine z_iload_n (pc := 60) 3 dX7_fixesTo_60 rfl rfl ?_
        refine z_istore_n (pc := 61) (lv2 := [(0, .ref (g.2.2.1 0)), (1, .int c1), (2, .int c2), (3, .int y3), (4, .int y4), (5, .int y5), (6, .int (0 : Int32))]) [1, 2, 3, 0, 4, 5, 6] dX7_fixesTo_61 rfl (by decide) rfl ?_
        refine z_iload (pc := 62) 4 dX7_fixesTo_62 rfl ?_
        refine z_iload (pc := 64) 6 dX7_fixesTo_64 rfl ?_
        refine z_if_eq_y (pc := 66) (tgt := 73) dX7_fixesTo_66 (by decide) (by decide +kernel) ?_
        refine z_iconst (pc := 73) (v := 0) dX7_fixesTo_73 rfl ?_
        refine z_iadd (pc := 74) dX7_fixesTo_74 ?_
        refine z_istore (pc := 75) (lv2 := [(0, .ref (g.2.2.1 0)), (1, .int c1), (2, .int c2), (3, .int y3), (4, .int (y4 + (0 : Int32))), (5, .int y5), (6, .int (0 : Int32))]) [1, 2, 3, 4, 0, 5, 6] dX7_fixesTo_75 (by decide) rfl ?_
        refine z_iinc (pc := 77) (v := y5 + 1) (lv2 := [(0, .ref (g.2.2.1 0)), (1, .int c1), (2, .int c2), (3, .int y3), (4, .int (y4 + (0 : Int32))), (5, .int (y5 + 1)), (6, .int (0 : Int32))]) 5 [1, 2, 3, 4, 5, 0, 6] dX7_fixesTo_77 rfl (by rw [oi_1]) (by decide) rfl ?_
        refine z_goto (pc := 80) (tgt := 8) dX7_fixesTo_80 (by decide) ?_
        refine z_sub (lv2 := [(0, .ref (g.2.2.1 0)), (1, .int c1), (2, .int c2), (3, .int y3), (4, .int (y4 + (0 : Int32))), (5, .int (y5 + 1))]) [0, 1, 2, 3, 4, 5] rfl ?_
        exact ih _ _ _ _ _ hk
      · refine z_aload_n (pc := 33) 0 dX7_fixesTo_33 rfl rfl ?_
        refine z_iload_n (pc := 34) 1 dX7_fixesTo_34 rfl rfl ?_
        refine z_iload (pc := 35) 5 dX7_fixesTo_35 rfl ?_
        refine z_callV (pc := 37) (b := 0) (As := [.int c1, .int y5]) (rest := []) kX7_113 (m_X7_habitOf g μ c1 y5) ltM_0 kdM_0 rfl rfl ⟨rfl, rfl⟩ ⟨Nat.le_of_ble_eq_true rfl, Nat.le_of_ble_eq_true rfl⟩ (Nat.le_of_ble_eq_true rfl) rfl rfl dX7_fixesTo_37 (fun r3 μ4 => ?_)
        change Zw g ΛM enI RX7 cX7_fixesTo 7 (some .int) rX7_fixesTo 40 [(0, .ref (g.2.2.1 0)), (1, .int c1), (2, .int c2), (3, .int y3), (4, .int y4), (5, .int y5)] [.int r3] μ4 _
        refine z_if_le (pc := 40) (tgt := 47) dX7_fixesTo_40 (by decide) (fun h5 => ?_) (fun h5 => ?_)
        · refine z_iconst (pc := 47) (v := 0) dX7_fixesTo_47 rfl ?_
          refine z_istore (pc := 48) (lv2 := [(0, .ref (g.2.2.1 0)), (1, .int c1), (2, .int c2), (3, .int y3), (4, .int y4), (5, .int y5), (6, .int (0 : Int32))]) [1, 2, 3, 4, 5, 6, 0] dX7_fixesTo_48 (by decide) rfl ?_
          refine z_iload (pc := 50) 6 dX7_fixesTo_50 rfl ?_
          refine z_if_eq_y (pc := 52) (tgt := 60) dX7_fixesTo_52 (by decide) (by decide +kernel) ?_
          refine z_iload_n (pc := 60) 3 dX7_fixesTo_60 rfl rfl ?_
          refine z_istore_n (pc := 61) (lv2 := [(0, .ref (g.2.2.1 0)), (1, .int c1), (2, .int c2), (3, .int y3), (4, .int y4), (5, .int y5), (6, .int (0 : Int32))]) [1, 2, 3, 0, 4, 5, 6] dX7_fixesTo_61 rfl (by decide) rfl ?_
          refine z_iload (pc := 62) 4 dX7_fixesTo_62 rfl ?_
          refine z_iload (pc := 64) 6 dX7_fixesTo_64 rfl ?_
          refine z_if_eq_y (pc := 66) (tgt := 73) dX7_fixesTo_66 (by decide) (by decide +kernel) ?_
          refine z_iconst (pc := 73) (v := 0) dX7_fixesTo_73 rfl ?_
          refine z_iadd (pc := 74) dX7_fixesTo_74 ?_
          refine z_istore (pc := 75) (lv2 := [(0, .ref (g.2.2.1 0)), (1, .int c1), (2, .int c2), (3, .int y3), (4, .int (y4 + (0 : Int32))), (5, .int y5), (6, .int (0 : Int32))]) [1, 2, 3, 4, 0, 5, 6] dX7_fixesTo_75 (by decide) rfl ?_
          refine z_iinc (pc := 77) (v := y5 + 1) (lv2 := [(0, .ref (g.2.2.1 0)), (1, .int c1), (2, .int c2), (3, .int y3), (4, .int (y4 + (0 : Int32))), (5, .int (y5 + 1)), (6, .int (0 : Int32))]) 5 [1, 2, 3, 4, 5, 0, 6] dX7_fixesTo_77 rfl (by rw [oi_1]) (by decide) rfl ?_
          refine z_goto (pc := 80) (tgt := 8) dX7_fixesTo_80 (by decide) ?_
          refine z_sub (lv2 := [(0, .ref (g.2.2.1 0)), (1, .int c1), (2, .int c2), (3, .int y3), (4, .int (y4 + (0 : Int32))), (5, .int (y5 + 1))]) [0, 1, 2, 3, 4, 5] rfl ?_
          exact ih _ _ _ _ _ hk
        · refine z_iconst (pc := 43) (v := 1) dX7_fixesTo_43 rfl ?_
          refine z_goto (pc := 44) (tgt := 48) dX7_fixesTo_44 (by decide) ?_
          refine z_istore (pc := 48) (lv2 := [(0, .ref (g.2.2.1 0)), (1, .int c1), (2, .int c2), (3, .int y3), (4, .int y4), (5, .int y5), (6, .int (1 : Int32))]) [1, 2, 3, 4, 5, 6, 0] dX7_fixesTo_48 (by decide) rfl ?_
          refine z_iload (pc := 50) 6 dX7_fixesTo_50 rfl ?_
          refine z_if_eq_x (pc := 52) (tgt := 60) dX7_fixesTo_52 (by decide) (by decide +kernel) ?_
          refine z_iload (pc := 55) 5 dX7_fixesTo_55 rfl ?_
          refine z_goto (pc := 57) (tgt := 61) dX7_fixesTo_57 (by decide) ?_
          refine z_istore_n (pc := 61) (lv2 := [(0, .ref (g.2.2.1 0)), (1, .int c1), (2, .int c2), (3, .int y5), (4, .int y4), (5, .int y5), (6, .int (1 : Int32))]) [1, 2, 3, 0, 4, 5, 6] dX7_fixesTo_61 rfl (by decide) rfl ?_
          refine z_iload (pc := 62) 4 dX7_fixesTo_62 rfl ?_
          refine z_iload (pc := 64) 6 dX7_fixesTo_64 rfl ?_
          refine z_if_eq_x (pc := 66) (tgt := 73) dX7_fixesTo_66 (by decide) (by decide +kernel) ?_
          refine z_iconst (pc := 69) (v := 1) dX7_fixesTo_69 rfl ?_
          refine z_goto (pc := 70) (tgt := 74) dX7_fixesTo_70 (by decide) ?_
          refine z_iadd (pc := 74) dX7_fixesTo_74 ?_
          refine z_istore (pc := 75) (lv2 := [(0, .ref (g.2.2.1 0)), (1, .int c1), (2, .int c2), (3, .int y5), (4, .int (y4 + (1 : Int32))), (5, .int y5), (6, .int (1 : Int32))]) [1, 2, 3, 4, 0, 5, 6] dX7_fixesTo_75 (by decide) rfl ?_
          refine z_iinc (pc := 77) (v := y5 + 1) (lv2 := [(0, .ref (g.2.2.1 0)), (1, .int c1), (2, .int c2), (3, .int y5), (4, .int (y4 + (1 : Int32))), (5, .int (y5 + 1)), (6, .int (1 : Int32))]) 5 [1, 2, 3, 4, 5, 0, 6] dX7_fixesTo_77 rfl (by rw [oi_1]) (by decide) rfl ?_
          refine z_goto (pc := 80) (tgt := 8) dX7_fixesTo_80 (by decide) ?_
          refine z_sub (lv2 := [(0, .ref (g.2.2.1 0)), (1, .int c1), (2, .int c2), (3, .int y5), (4, .int (y4 + (1 : Int32))), (5, .int (y5 + 1))]) [0, 1, 2, 3, 4, 5] rfl ?_
          exact ih _ _ _ _ _ hk
def f_X7_fixesTo (a1 : Int32) (a2 : Int32) (μ : Mm) : Option (Int32 × Mm) := lp_X7_fixesTo_8 a1 a2 FU (-1 : Int32) (0 : Int32) (0 : Int32) μ (fun x6 x7 μ8 => if x7 = (1 : Int32) then (some (x6, μ8)) else (some ((-1 : Int32), μ8)))
theorem m_X7_fixesTo (g : Gx) (μ : Mm) (a1 : Int32) (a2 : Int32) : Zm g ΛM enI yX7_fixesTo cX7_fixesTo 7 (some .int) rX7_fixesTo [.ref (g.2.2.1 0), .int a1, .int a2] μ (f_X7_fixesTo a1 a2 μ) := by
  refine z_met (by decide +kernel) (Nat.le_of_ble_eq_true rfl) ?_
  change Zw g ΛM enI RX7 cX7_fixesTo 7 (some .int) rX7_fixesTo 0 [(0, .ref (g.2.2.1 0)), (1, .int a1), (2, .int a2)] [] μ (f_X7_fixesTo a1 a2 μ)
  rw [f_X7_fixesTo]
  refine z_iconst (pc := 0) (v := -1) dX7_fixesTo_0 rfl ?_
  refine z_istore_n (pc := 1) (lv2 := [(0, .ref (g.2.2.1 0)), (1, .int a1), (2, .int a2), (3, .int (-1 : Int32))]) [1, 2, 3, 0] dX7_fixesTo_1 rfl (by decide) rfl ?_
  refine z_iconst (pc := 2) (v := 0) dX7_fixesTo_2 rfl ?_
  refine z_istore (pc := 3) (lv2 := [(0, .ref (g.2.2.1 0)), (1, .int a1), (2, .int a2), (3, .int (-1 : Int32)), (4, .int (0 : Int32))]) [1, 2, 3, 4, 0] dX7_fixesTo_3 (by decide) rfl ?_
  refine z_iconst (pc := 5) (v := 0) dX7_fixesTo_5 rfl ?_
  refine z_istore (pc := 6) (lv2 := [(0, .ref (g.2.2.1 0)), (1, .int a1), (2, .int a2), (3, .int (-1 : Int32)), (4, .int (0 : Int32)), (5, .int (0 : Int32))]) [1, 2, 3, 4, 5, 0] dX7_fixesTo_6 (by decide) rfl ?_
  refine w_X7_fixesTo_8 g a1 a2 FU (-1 : Int32) (0 : Int32) (0 : Int32) μ _ (fun x6 x7 μ8 => ?_)
  refine z_iload (pc := 83) 1 dX7_fixesTo_83 rfl ?_
  refine z_iconst (pc := 85) (v := 1) dX7_fixesTo_85 rfl ?_
  refine z_icmp_ne (pc := 86) (tgt := 93) dX7_fixesTo_86 (by decide) (fun h9 => ?_) (fun h9 => ?_)
  · refine z_iconst (pc := 93) (v := -1) dX7_fixesTo_93 rfl ?_
    exact z_iret dX7_fixesTo_94
  · refine z_iload_n (pc := 89) 0 dX7_fixesTo_89 rfl rfl ?_
    refine z_goto (pc := 90) (tgt := 94) dX7_fixesTo_90 (by decide) ?_
    exact z_iret dX7_fixesTo_94
def f_X7_fixes (a1 : Int32) (a2 : Int32) (μ : Mm) : Option (Int32 × Mm) := bd (f_X7_isMaker a1 μ) fun r1 μ2 => if r1 = 0 then (bd (f_X7_bad μ2) fun r4 μ5 => some (r4, μ5)) else (bd (f_X7_within a2.toInt64 (0 : Int64) (3 : Int64) μ2) fun r6 μ7 => if r6 = 0 then (bd (f_X7_bad μ7) fun r9 μ10 => some (r9, μ10)) else (bd (f_X7_fixesTo a1 a2 μ7) fun r11 μ12 => some (r11, μ12)))
theorem m_X7_fixes (g : Gx) (μ : Mm) (a1 : Int32) (a2 : Int32) : Zm g ΛM enI yX7_fixes cX7_fixes 3 (some .int) rX7_fixes [.ref (g.2.2.1 0), .int a1, .int a2] μ (f_X7_fixes a1 a2 μ) := by
  refine z_met (by decide +kernel) (Nat.le_of_ble_eq_true rfl) ?_
  change Zw g ΛM enI RX7 cX7_fixes 3 (some .int) rX7_fixes 0 [(0, .ref (g.2.2.1 0)), (1, .int a1), (2, .int a2)] [] μ (f_X7_fixes a1 a2 μ)
  rw [f_X7_fixes]
  refine z_iload_n (pc := 0) 1 dX7_fixes_0 rfl rfl ?_
  refine z_callS (pc := 1) (As := [.int a1]) (rest := []) kX7_181 (m_X7_isMaker g μ a1) ⟨rfl, rfl⟩ ⟨Nat.le_of_ble_eq_true rfl, Nat.le_of_ble_eq_true rfl⟩ (Nat.le_of_ble_eq_true rfl) rfl rfl dX7_fixes_1 (fun r1 μ2 => ?_)
  change Zw g ΛM enI RX7 cX7_fixes 3 (some .int) rX7_fixes 4 [(0, .ref (g.2.2.1 0)), (1, .int a1), (2, .int a2)] [.int r1] μ2 _
  refine z_if_eq (pc := 4) (tgt := 28) dX7_fixes_4 (by decide) (fun h3 => ?_) (fun h3 => ?_)
  · refine z_aload_n (pc := 28) 0 dX7_fixes_28 rfl rfl ?_
    refine z_callV (pc := 29) (b := 0) (As := []) (rest := []) kX7_65 (m_X7_bad g μ2) ltM_0 kdM_0 rfl rfl ⟨rfl, rfl⟩ ⟨Nat.le_of_ble_eq_true rfl, Nat.le_of_ble_eq_true rfl⟩ (Nat.le_of_ble_eq_true rfl) rfl rfl dX7_fixes_29 (fun r4 μ5 => ?_)
    change Zw g ΛM enI RX7 cX7_fixes 3 (some .int) rX7_fixes 32 [(0, .ref (g.2.2.1 0)), (1, .int a1), (2, .int a2)] [.int r4] μ5 _
    exact z_iret dX7_fixes_32
  · refine z_iload_n (pc := 7) 2 dX7_fixes_7 rfl rfl ?_
    refine z_i2l (pc := 8) dX7_fixes_8 ?_
    refine z_lconst (pc := 9) (v := 0) dX7_fixes_9 (by decide +kernel) ?_
    refine z_ldc2 (pc := 10) (v := 3) klX7_72 dX7_fixes_10 ?_
    refine z_callS (pc := 13) (As := [.long a2.toInt64, .long (0 : Int64), .long (3 : Int64)]) (rest := []) kX7_47 (m_X7_within g μ2 a2.toInt64 (0 : Int64) (3 : Int64)) ⟨rfl, rfl⟩ ⟨Nat.le_of_ble_eq_true rfl, Nat.le_of_ble_eq_true rfl⟩ (Nat.le_of_ble_eq_true rfl) rfl rfl dX7_fixes_13 (fun r6 μ7 => ?_)
    change Zw g ΛM enI RX7 cX7_fixes 3 (some .int) rX7_fixes 16 [(0, .ref (g.2.2.1 0)), (1, .int a1), (2, .int a2)] [.int r6] μ7 _
    refine z_if_eq (pc := 16) (tgt := 28) dX7_fixes_16 (by decide) (fun h8 => ?_) (fun h8 => ?_)
    · refine z_aload_n (pc := 28) 0 dX7_fixes_28 rfl rfl ?_
      refine z_callV (pc := 29) (b := 0) (As := []) (rest := []) kX7_65 (m_X7_bad g μ7) ltM_0 kdM_0 rfl rfl ⟨rfl, rfl⟩ ⟨Nat.le_of_ble_eq_true rfl, Nat.le_of_ble_eq_true rfl⟩ (Nat.le_of_ble_eq_true rfl) rfl rfl dX7_fixes_29 (fun r9 μ10 => ?_)
      change Zw g ΛM enI RX7 cX7_fixes 3 (some .int) rX7_fixes 32 [(0, .ref (g.2.2.1 0)), (1, .int a1), (2, .int a2)] [.int r9] μ10 _
      exact z_iret dX7_fixes_32
    · refine z_aload_n (pc := 19) 0 dX7_fixes_19 rfl rfl ?_
      refine z_iload_n (pc := 20) 1 dX7_fixes_20 rfl rfl ?_
      refine z_iload_n (pc := 21) 2 dX7_fixes_21 rfl rfl ?_
      refine z_callV (pc := 22) (b := 0) (As := [.int a1, .int a2]) (rest := []) kX7_218 (m_X7_fixesTo g μ7 a1 a2) ltM_0 kdM_0 rfl rfl ⟨rfl, rfl⟩ ⟨Nat.le_of_ble_eq_true rfl, Nat.le_of_ble_eq_true rfl⟩ (Nat.le_of_ble_eq_true rfl) rfl rfl dX7_fixes_22 (fun r11 μ12 => ?_)
      change Zw g ΛM enI RX7 cX7_fixes 3 (some .int) rX7_fixes 25 [(0, .ref (g.2.2.1 0)), (1, .int a1), (2, .int a2)] [.int r11] μ12 _
      refine z_goto (pc := 25) (tgt := 32) dX7_fixes_25 (by decide) ?_
      exact z_iret dX7_fixes_32
def f_X7_type (a1 : Int32) (μ : Mm) : Option (Int32 × Mm) := bd (f_X7_within a1.toInt64 (0 : Int64) (127 : Int64) μ) fun r1 μ2 => if r1 = 0 then (bd (f_X7_bad μ2) fun r7 μ8 => some (r7, μ8)) else (if (μ2.1 0 6) = (150 : Int32) then (bd (f_X7_full μ2) fun r5 μ6 => some (r5, μ6)) else (if zin (μ2.1 0 6) 150 then (some ((μ2.1 0 6) + (1 : Int32), (si (si μ2 5 ((μ2.1 0 6).toNatClampNeg) a1) 0 6 ((μ2.1 0 6) + (1 : Int32))))) else none))
theorem m_X7_type (g : Gx) (μ : Mm) (a1 : Int32) : Zm g ΛM enI yX7_type cX7_type 2 (some .int) rX7_type [.ref (g.2.2.1 0), .int a1] μ (f_X7_type a1 μ) := by
  refine z_met (by decide +kernel) (Nat.le_of_ble_eq_true rfl) ?_
  change Zw g ΛM enI RX7 cX7_type 2 (some .int) rX7_type 0 [(0, .ref (g.2.2.1 0)), (1, .int a1)] [] μ (f_X7_type a1 μ)
  rw [f_X7_type]
  refine z_iload_n (pc := 0) 1 dX7_type_0 rfl rfl ?_
  refine z_i2l (pc := 1) dX7_type_1 ?_
  refine z_lconst (pc := 2) (v := 0) dX7_type_2 (by decide +kernel) ?_
  refine z_ldc2 (pc := 3) (v := 127) klX7_221 dX7_type_3 ?_
  refine z_callS (pc := 6) (As := [.long a1.toInt64, .long (0 : Int64), .long (127 : Int64)]) (rest := []) kX7_47 (m_X7_within g μ a1.toInt64 (0 : Int64) (127 : Int64)) ⟨rfl, rfl⟩ ⟨Nat.le_of_ble_eq_true rfl, Nat.le_of_ble_eq_true rfl⟩ (Nat.le_of_ble_eq_true rfl) rfl rfl dX7_type_6 (fun r1 μ2 => ?_)
  change Zw g ΛM enI RX7 cX7_type 2 (some .int) rX7_type 9 [(0, .ref (g.2.2.1 0)), (1, .int a1)] [.int r1] μ2 _
  refine z_if_ne (pc := 9) (tgt := 17) dX7_type_9 (by decide) (fun h3 => ?_) (fun h3 => ?_)
  · refine z_aload_n (pc := 17) 0 dX7_type_17 rfl rfl ?_
    refine z_get (pc := 18) (v := .int (μ2.1 0 6)) flX7_223 jnX7 ltM_0 kdM_0 rfl (by decide) rfl foM_0_6 rfl dX7_type_18 ?_
    refine z_sipush (pc := 21) (v := 150) dX7_type_21 (by decide +kernel) ?_
    refine z_icmp_ne (pc := 24) (tgt := 32) dX7_type_24 (by decide) (fun h4 => ?_) (fun h4 => ?_)
    · refine z_aload_n (pc := 32) 0 dX7_type_32 rfl rfl ?_
      refine z_get (pc := 33) (v := .ref (g.2.2.1 5)) flX7_22 jnX7 ltM_0 kdM_0 rfl (by decide) rfl foM_0_5 rfl dX7_type_33 ?_
      refine z_aload_n (pc := 36) 0 dX7_type_36 rfl rfl ?_
      refine z_get (pc := 37) (v := .int (μ2.1 0 6)) flX7_223 jnX7 ltM_0 kdM_0 rfl (by decide) rfl foM_0_6 rfl dX7_type_37 ?_
      refine z_iload_n (pc := 40) 1 dX7_type_40 rfl rfl ?_
      refine z_iastore_g (pc := 41) ltM_5 kdM_5 dX7_type_41 ?_
      refine z_aload_n (pc := 42) 0 dX7_type_42 rfl rfl ?_
      refine z_dup (pc := 43) dX7_type_43 rfl ?_
      refine z_get (pc := 44) (v := .int (μ2.1 0 6)) flX7_223 jnX7 ltM_0 kdM_0 rfl (by decide) rfl foM_0_6 rfl dX7_type_44 ?_
      refine z_iconst (pc := 47) (v := 1) dX7_type_47 rfl ?_
      refine z_iadd (pc := 48) dX7_type_48 ?_
      refine z_puti (x := (0, 0)) (pc := 49) flX7_223 jnX7 tyX7 tyX7_ok nmX7 ltM_0 kdM_0 rfl (by decide) rfl foM_0_6 rfl ⟨rfl, rfl⟩ dX7_type_49 ?_
      refine z_aload_n (pc := 52) 0 dX7_type_52 rfl rfl ?_
      refine z_get (pc := 53) (v := .int ((μ2.1 0 6) + (1 : Int32))) flX7_223 jnX7 ltM_0 kdM_0 rfl (by decide) rfl foM_0_6 rfl dX7_type_53 ?_
      exact z_iret dX7_type_56
    · refine z_aload_n (pc := 27) 0 dX7_type_27 rfl rfl ?_
      refine z_callV (pc := 28) (b := 0) (As := []) (rest := []) kX7_62 (m_X7_full g μ2) ltM_0 kdM_0 rfl rfl ⟨rfl, rfl⟩ ⟨Nat.le_of_ble_eq_true rfl, Nat.le_of_ble_eq_true rfl⟩ (Nat.le_of_ble_eq_true rfl) rfl rfl dX7_type_28 (fun r5 μ6 => ?_)
      change Zw g ΛM enI RX7 cX7_type 2 (some .int) rX7_type 31 [(0, .ref (g.2.2.1 0)), (1, .int a1)] [.int r5] μ6 _
      exact z_iret dX7_type_31
  · refine z_aload_n (pc := 12) 0 dX7_type_12 rfl rfl ?_
    refine z_callV (pc := 13) (b := 0) (As := []) (rest := []) kX7_65 (m_X7_bad g μ2) ltM_0 kdM_0 rfl rfl ⟨rfl, rfl⟩ ⟨Nat.le_of_ble_eq_true rfl, Nat.le_of_ble_eq_true rfl⟩ (Nat.le_of_ble_eq_true rfl) rfl rfl dX7_type_13 (fun r7 μ8 => ?_)
    change Zw g ΛM enI RX7 cX7_type 2 (some .int) rX7_type 16 [(0, .ref (g.2.2.1 0)), (1, .int a1)] [.int r7] μ8 _
    exact z_iret dX7_type_16
def f_X7_clear (μ : Mm) : Option (Int32 × Mm) := some (μ.1 0 6, (si μ 0 6 (0 : Int32)))
theorem m_X7_clear (g : Gx) (μ : Mm) : Zm g ΛM enI yX7_clear cX7_clear 2 (some .int) rX7_clear [.ref (g.2.2.1 0)] μ (f_X7_clear μ) := by
  refine z_met (by decide +kernel) (Nat.le_of_ble_eq_true rfl) ?_
  change Zw g ΛM enI RX7 cX7_clear 2 (some .int) rX7_clear 0 [(0, .ref (g.2.2.1 0))] [] μ (f_X7_clear μ)
  rw [f_X7_clear]
  refine z_aload_n (pc := 0) 0 dX7_clear_0 rfl rfl ?_
  refine z_get (pc := 1) (v := .int (μ.1 0 6)) flX7_223 jnX7 ltM_0 kdM_0 rfl (by decide) rfl foM_0_6 rfl dX7_clear_1 ?_
  refine z_istore_n (pc := 4) (lv2 := [(0, .ref (g.2.2.1 0)), (1, .int (μ.1 0 6))]) [1, 0] dX7_clear_4 rfl (by decide) rfl ?_
  refine z_aload_n (pc := 5) 0 dX7_clear_5 rfl rfl ?_
  refine z_iconst (pc := 6) (v := 0) dX7_clear_6 rfl ?_
  refine z_puti (x := (0, 0)) (pc := 7) flX7_223 jnX7 tyX7 tyX7_ok nmX7 ltM_0 kdM_0 rfl (by decide) rfl foM_0_6 rfl ⟨rfl, rfl⟩ dX7_clear_7 ?_
  refine z_iload_n (pc := 10) 1 dX7_clear_10 rfl rfl ?_
  exact z_iret dX7_clear_11
def f_X7_isAt (a1 : Int32) (a2 : Int32) (μ : Mm) : Option (Int32 × Mm) := if (μ.1 0 6) ≤ (μ.1 0 17) then (some ((0 : Int32), μ)) else (if zin (μ.1 0 17) 150 then (bd (f_X7_within ((μ.1 5 ((μ.1 0 17).toNatClampNeg)).toInt64) a1.toInt64 a2.toInt64 μ) fun r2 μ3 => if r2 = 0 then (some ((0 : Int32), μ3)) else (some ((1 : Int32), μ3))) else none)
theorem m_X7_isAt (g : Gx) (μ : Mm) (a1 : Int32) (a2 : Int32) : Zm g ΛM enI yX7_isAt cX7_isAt 3 (some .boolean) rX7_isAt [.ref (g.2.2.1 0), .int a1, .int a2] μ (f_X7_isAt a1 a2 μ) := by
  refine z_met (by decide +kernel) (Nat.le_of_ble_eq_true rfl) ?_
  change Zw g ΛM enI RX7 cX7_isAt 3 (some .boolean) rX7_isAt 0 [(0, .ref (g.2.2.1 0)), (1, .int a1), (2, .int a2)] [] μ (f_X7_isAt a1 a2 μ)
  rw [f_X7_isAt]
  refine z_aload_n (pc := 0) 0 dX7_isAt_0 rfl rfl ?_
  refine z_get (pc := 1) (v := .int (μ.1 0 17)) flX7_226 jnX7 ltM_0 kdM_0 rfl (by decide) rfl foM_0_17 rfl dX7_isAt_1 ?_
  refine z_aload_n (pc := 4) 0 dX7_isAt_4 rfl rfl ?_
  refine z_get (pc := 5) (v := .int (μ.1 0 6)) flX7_223 jnX7 ltM_0 kdM_0 rfl (by decide) rfl foM_0_6 rfl dX7_isAt_5 ?_
  refine z_icmp_ge (pc := 8) (tgt := 35) dX7_isAt_8 (by decide) (fun h1 => ?_) (fun h1 => ?_)
  · refine z_iconst (pc := 35) (v := 0) dX7_isAt_35 rfl ?_
    exact z_zret dX7_isAt_36 (by decide)
  · refine z_aload_n (pc := 11) 0 dX7_isAt_11 rfl rfl ?_
    refine z_get (pc := 12) (v := .ref (g.2.2.1 5)) flX7_22 jnX7 ltM_0 kdM_0 rfl (by decide) rfl foM_0_5 rfl dX7_isAt_12 ?_
    refine z_aload_n (pc := 15) 0 dX7_isAt_15 rfl rfl ?_
    refine z_get (pc := 16) (v := .int (μ.1 0 17)) flX7_226 jnX7 ltM_0 kdM_0 rfl (by decide) rfl foM_0_17 rfl dX7_isAt_16 ?_
    refine z_iaload_g (pc := 19) ltM_5 kdM_5 dX7_isAt_19 ?_
    refine z_i2l (pc := 20) dX7_isAt_20 ?_
    refine z_iload_n (pc := 21) 1 dX7_isAt_21 rfl rfl ?_
    refine z_i2l (pc := 22) dX7_isAt_22 ?_
    refine z_iload_n (pc := 23) 2 dX7_isAt_23 rfl rfl ?_
    refine z_i2l (pc := 24) dX7_isAt_24 ?_
    refine z_callS (pc := 25) (As := [.long ((μ.1 5 ((μ.1 0 17).toNatClampNeg)).toInt64), .long a1.toInt64, .long a2.toInt64]) (rest := []) kX7_47 (m_X7_within g μ ((μ.1 5 ((μ.1 0 17).toNatClampNeg)).toInt64) a1.toInt64 a2.toInt64) ⟨rfl, rfl⟩ ⟨Nat.le_of_ble_eq_true rfl, Nat.le_of_ble_eq_true rfl⟩ (Nat.le_of_ble_eq_true rfl) rfl rfl dX7_isAt_25 (fun r2 μ3 => ?_)
    change Zw g ΛM enI RX7 cX7_isAt 3 (some .boolean) rX7_isAt 28 [(0, .ref (g.2.2.1 0)), (1, .int a1), (2, .int a2)] [.int r2] μ3 _
    refine z_if_eq (pc := 28) (tgt := 35) dX7_isAt_28 (by decide) (fun h4 => ?_) (fun h4 => ?_)
    · refine z_iconst (pc := 35) (v := 0) dX7_isAt_35 rfl ?_
      exact z_zret dX7_isAt_36 (by decide)
    · refine z_iconst (pc := 31) (v := 1) dX7_isAt_31 rfl ?_
      refine z_goto (pc := 32) (tgt := 36) dX7_isAt_32 (by decide) ?_
      exact z_zret dX7_isAt_36 (by decide)
def lp_X7_blanks_0 : Nat → Mm → (Mm → Option (Unit × Mm)) → Option (Unit × Mm)
  | 0, _, _ => none
  | n + 1, μ, k => bd (f_X7_isAt (32 : Int32) (32 : Int32) μ) fun r1 μ2 => if r1 = 0 then (k  μ2) else (lp_X7_blanks_0 n  (si μ2 0 17 ((μ2.1 0 17) + (1 : Int32))) k)
theorem w_X7_blanks_0 (g : Gx) : ∀ (n : Nat) (μ : Mm) (k : Mm → Option (Unit × Mm)), (∀ (ν : Mm), Zw g ΛM enV RX7 cX7_blanks 1 none rX7_blanks 24 [] [] ν (k  ν)) → Zw g ΛM enV RX7 cX7_blanks 1 none rX7_blanks 0 [(0, .ref (g.2.2.1 0))] [] μ (lp_X7_blanks_0 n μ k) := by
  intro n
  induction n with
  | zero =>
    intro μ k hk
    exact z_none
  | succ n ih =>
    intro μ k hk
    rw [lp_X7_blanks_0]
    refine z_aload_n (pc := 0) 0 dX7_blanks_0 rfl rfl ?_
    refine z_bipush (pc := 1) (v := 32) dX7_blanks_1 (by decide +kernel) ?_
    refine z_bipush (pc := 3) (v := 32) dX7_blanks_3 (by decide +kernel) ?_
    refine z_callV (pc := 5) (b := 0) (As := [.int (32 : Int32), .int (32 : Int32)]) (rest := []) kX7_229 (m_X7_isAt g μ (32 : Int32) (32 : Int32)) ltM_0 kdM_0 rfl rfl ⟨rfl, rfl⟩ ⟨Nat.le_of_ble_eq_true rfl, Nat.le_of_ble_eq_true rfl⟩ (Nat.le_of_ble_eq_true rfl) rfl rfl dX7_blanks_5 (fun r1 μ2 => ?_)
    change Zw g ΛM enV RX7 cX7_blanks 1 none rX7_blanks 8 [(0, .ref (g.2.2.1 0))] [.int r1] μ2 _
    refine z_if_eq (pc := 8) (tgt := 24) dX7_blanks_8 (by decide) (fun h3 => ?_) (fun h3 => ?_)
    · refine z_sub (lv2 := []) [] rfl ?_
      exact hk _
    · refine z_aload_n (pc := 11) 0 dX7_blanks_11 rfl rfl ?_
      refine z_dup (pc := 12) dX7_blanks_12 rfl ?_
      refine z_get (pc := 13) (v := .int (μ2.1 0 17)) flX7_226 jnX7 ltM_0 kdM_0 rfl (by decide) rfl foM_0_17 rfl dX7_blanks_13 ?_
      refine z_iconst (pc := 16) (v := 1) dX7_blanks_16 rfl ?_
      refine z_iadd (pc := 17) dX7_blanks_17 ?_
      refine z_puti (x := (0, 0)) (pc := 18) flX7_226 jnX7 tyX7 tyX7_ok nmX7 ltM_0 kdM_0 rfl (by decide) rfl foM_0_17 rfl ⟨rfl, rfl⟩ dX7_blanks_18 ?_
      refine z_goto (pc := 21) (tgt := 0) dX7_blanks_21 (by decide) ?_
      exact ih _ _ hk
def f_X7_blanks (μ : Mm) : Option (Unit × Mm) := lp_X7_blanks_0 FU μ (fun  μ4 => some ((), μ4))
theorem m_X7_blanks (g : Gx) (μ : Mm) : Zm g ΛM enV yX7_blanks cX7_blanks 1 none rX7_blanks [.ref (g.2.2.1 0)] μ (f_X7_blanks μ) := by
  refine z_met (by decide +kernel) (Nat.le_of_ble_eq_true rfl) ?_
  change Zw g ΛM enV RX7 cX7_blanks 1 none rX7_blanks 0 [(0, .ref (g.2.2.1 0))] [] μ (f_X7_blanks μ)
  rw [f_X7_blanks]
  refine w_X7_blanks_0 g FU μ _ (fun  μ4 => ?_)
  exact z_vret dX7_blanks_24
def lp_X7_number_35 : Nat → Int32 → Int32 → Mm → (Int32 → Mm → Option (Int32 × Mm)) → Option (Int32 × Mm)
  | 0, _, _, _, _ => none
  | n + 1, y1, y2, μ, k => if (μ.1 0 18) = 0 then (bd (f_X7_isAt (48 : Int32) (57 : Int32) μ) fun r5 μ6 => if r5 = 0 then (k y1 μ6) else (if (y2 + 1) ≤ (2 : Int32) then (if zin (μ6.1 0 17) 150 then (lp_X7_number_35 n ((((10 : Int32) * y1) + (μ6.1 5 ((μ6.1 0 17).toNatClampNeg))) - (48 : Int32)) (y2 + 1) (si (si μ6 0 18 (0 : Int32)) 0 17 ((μ6.1 0 17) + (1 : Int32))) k) else none) else (lp_X7_number_35 n y1 (y2 + 1) (si (si μ6 0 18 (1 : Int32)) 0 17 ((μ6.1 0 17) + (0 : Int32))) k))) else (k y1 μ)
theorem w_X7_number_35 (g : Gx) : ∀ (n : Nat) (y1 : Int32) (y2 : Int32) (μ : Mm) (k : Int32 → Mm → Option (Int32 × Mm)), (∀ (z1 : Int32) (ν : Mm), Zw g ΛM enI RX7 cX7_number 3 (some .int) rX7_number 123 [(1, .int z1)] [] ν (k z1 ν)) → Zw g ΛM enI RX7 cX7_number 3 (some .int) rX7_number 35 [(0, .ref (g.2.2.1 0)), (1, .int y1), (2, .int y2)] [] μ (lp_X7_number_35 n y1 y2 μ k) := by
  intro n
  induction n with
  | zero =>
    intro y1 y2 μ k hk
    exact z_none
  | succ n ih =>
    intro y1 y2 μ k hk
    rw [lp_X7_number_35]
    refine z_aload_n (pc := 35) 0 dX7_number_35 rfl rfl ?_
    refine z_get (pc := 36) (v := .int (μ.1 0 18)) flX7_235 jnX7 ltM_0 kdM_0 rfl (by decide) rfl foM_0_18 rfl dX7_number_36 ?_
    refine z_if_ne (pc := 39) (tgt := 123) dX7_number_39 (by decide) (fun h4 => ?_) (fun h4 => ?_)
    · refine z_sub (lv2 := [(1, .int y1)]) [1] rfl ?_
      exact hk _ _
    · refine z_aload_n (pc := 42) 0 dX7_number_42 rfl rfl ?_
      refine z_bipush (pc := 43) (v := 48) dX7_number_43 (by decide +kernel) ?_
      refine z_bipush (pc := 45) (v := 57) dX7_number_45 (by decide +kernel) ?_
      refine z_callV (pc := 47) (b := 0) (As := [.int (48 : Int32), .int (57 : Int32)]) (rest := []) kX7_229 (m_X7_isAt g μ (48 : Int32) (57 : Int32)) ltM_0 kdM_0 rfl rfl ⟨rfl, rfl⟩ ⟨Nat.le_of_ble_eq_true rfl, Nat.le_of_ble_eq_true rfl⟩ (Nat.le_of_ble_eq_true rfl) rfl rfl dX7_number_47 (fun r5 μ6 => ?_)
      change Zw g ΛM enI RX7 cX7_number 3 (some .int) rX7_number 50 [(0, .ref (g.2.2.1 0)), (1, .int y1), (2, .int y2)] [.int r5] μ6 _
      refine z_if_eq (pc := 50) (tgt := 123) dX7_number_50 (by decide) (fun h7 => ?_) (fun h7 => ?_)
      · refine z_sub (lv2 := [(1, .int y1)]) [1] rfl ?_
        exact hk _ _
      · refine z_iinc (pc := 53) (v := y2 + 1) (lv2 := [(0, .ref (g.2.2.1 0)), (1, .int y1), (2, .int (y2 + 1))]) 2 [1, 2, 0] dX7_number_53 rfl (by rw [oi_1]) (by decide) rfl ?_
        refine z_aload_n (pc := 56) 0 dX7_number_56 rfl rfl ?_
        refine z_iload_n (pc := 57) 2 dX7_number_57 rfl rfl ?_
        refine z_iconst (pc := 58) (v := 2) dX7_number_58 rfl ?_
        refine z_icmp_le (pc := 59) (tgt := 66) dX7_number_59 (by decide) (fun h8 => ?_) (fun h8 => ?_)
        · refine z_iconst (pc := 66) (v := 0) dX7_number_66 rfl ?_
          refine z_puti (x := (0, 0)) (pc := 67) flX7_235 jnX7 tyX7 tyX7_ok nmX7 ltM_0 kdM_0 rfl (by decide) rfl foM_0_18 rfl (zb_n (by decide)) dX7_number_67 ?_
          refine z_aload_n (pc := 70) 0 dX7_number_70 rfl rfl ?_
          refine z_get (pc := 71) (v := .int (0 : Int32)) flX7_235 jnX7 ltM_0 kdM_0 rfl (by decide) rfl foM_0_18 rfl dX7_number_71 ?_
          refine z_if_eq_y (pc := 74) (tgt := 81) dX7_number_74 (by decide) (by decide +kernel) ?_
          refine z_bipush (pc := 81) (v := 10) dX7_number_81 (by decide +kernel) ?_
          refine z_iload_n (pc := 83) 1 dX7_number_83 rfl rfl ?_
          refine z_imul (pc := 84) dX7_number_84 ?_
          refine z_aload_n (pc := 85) 0 dX7_number_85 rfl rfl ?_
          refine z_get (pc := 86) (v := .ref (g.2.2.1 5)) flX7_22 jnX7 ltM_0 kdM_0 rfl (by decide) rfl foM_0_5 rfl dX7_number_86 ?_
          refine z_aload_n (pc := 89) 0 dX7_number_89 rfl rfl ?_
          refine z_get (pc := 90) (v := .int (μ6.1 0 17)) flX7_226 jnX7 ltM_0 kdM_0 rfl (by decide) rfl foM_0_17 rfl dX7_number_90 ?_
          refine z_iaload_g (pc := 93) ltM_5 kdM_5 dX7_number_93 ?_
          show Zw g ΛM enI RX7 cX7_number 3 (some .int) rX7_number 94 [(0, .ref (g.2.2.1 0)), (1, .int y1), (2, .int (y2 + 1))] [.int (μ6.1 5 ((μ6.1 0 17).toNatClampNeg)), .int ((10 : Int32) * y1)] (si μ6 0 18 (0 : Int32)) _
          refine z_iadd (pc := 94) dX7_number_94 ?_
          refine z_bipush (pc := 95) (v := 48) dX7_number_95 (by decide +kernel) ?_
          refine z_isub (pc := 97) dX7_number_97 ?_
          refine z_istore_n (pc := 98) (lv2 := [(0, .ref (g.2.2.1 0)), (1, .int ((((10 : Int32) * y1) + (μ6.1 5 ((μ6.1 0 17).toNatClampNeg))) - (48 : Int32))), (2, .int (y2 + 1))]) [1, 0, 2] dX7_number_98 rfl (by decide) rfl ?_
          refine z_aload_n (pc := 99) 0 dX7_number_99 rfl rfl ?_
          refine z_dup (pc := 100) dX7_number_100 rfl ?_
          refine z_get (pc := 101) (v := .int (μ6.1 0 17)) flX7_226 jnX7 ltM_0 kdM_0 rfl (by decide) rfl foM_0_17 rfl dX7_number_101 ?_
          refine z_aload_n (pc := 104) 0 dX7_number_104 rfl rfl ?_
          refine z_get (pc := 105) (v := .int (0 : Int32)) flX7_235 jnX7 ltM_0 kdM_0 rfl (by decide) rfl foM_0_18 rfl dX7_number_105 ?_
          refine z_if_eq_y (pc := 108) (tgt := 115) dX7_number_108 (by decide) (by decide +kernel) ?_
          refine z_iconst (pc := 115) (v := 1) dX7_number_115 rfl ?_
          refine z_iadd (pc := 116) dX7_number_116 ?_
          refine z_puti (x := (0, 0)) (pc := 117) flX7_226 jnX7 tyX7 tyX7_ok nmX7 ltM_0 kdM_0 rfl (by decide) rfl foM_0_17 rfl ⟨rfl, rfl⟩ dX7_number_117 ?_
          refine z_goto (pc := 120) (tgt := 35) dX7_number_120 (by decide) ?_
          exact ih _ _ _ _ hk
        · refine z_iconst (pc := 62) (v := 1) dX7_number_62 rfl ?_
          refine z_goto (pc := 63) (tgt := 67) dX7_number_63 (by decide) ?_
          refine z_puti (x := (0, 0)) (pc := 67) flX7_235 jnX7 tyX7 tyX7_ok nmX7 ltM_0 kdM_0 rfl (by decide) rfl foM_0_18 rfl (zb_n (by decide)) dX7_number_67 ?_
          refine z_aload_n (pc := 70) 0 dX7_number_70 rfl rfl ?_
          refine z_get (pc := 71) (v := .int (1 : Int32)) flX7_235 jnX7 ltM_0 kdM_0 rfl (by decide) rfl foM_0_18 rfl dX7_number_71 ?_
          refine z_if_eq_x (pc := 74) (tgt := 81) dX7_number_74 (by decide) (by decide +kernel) ?_
          refine z_iload_n (pc := 77) 1 dX7_number_77 rfl rfl ?_
          refine z_goto (pc := 78) (tgt := 98) dX7_number_78 (by decide) ?_
          refine z_istore_n (pc := 98) (lv2 := [(0, .ref (g.2.2.1 0)), (1, .int y1), (2, .int (y2 + 1))]) [1, 0, 2] dX7_number_98 rfl (by decide) rfl ?_
          refine z_aload_n (pc := 99) 0 dX7_number_99 rfl rfl ?_
          refine z_dup (pc := 100) dX7_number_100 rfl ?_
          refine z_get (pc := 101) (v := .int (μ6.1 0 17)) flX7_226 jnX7 ltM_0 kdM_0 rfl (by decide) rfl foM_0_17 rfl dX7_number_101 ?_
          refine z_aload_n (pc := 104) 0 dX7_number_104 rfl rfl ?_
          refine z_get (pc := 105) (v := .int (1 : Int32)) flX7_235 jnX7 ltM_0 kdM_0 rfl (by decide) rfl foM_0_18 rfl dX7_number_105 ?_
          refine z_if_eq_x (pc := 108) (tgt := 115) dX7_number_108 (by decide) (by decide +kernel) ?_
          refine z_iconst (pc := 111) (v := 0) dX7_number_111 rfl ?_
          refine z_goto (pc := 112) (tgt := 116) dX7_number_112 (by decide) ?_
          refine z_iadd (pc := 116) dX7_number_116 ?_
          refine z_puti (x := (0, 0)) (pc := 117) flX7_226 jnX7 tyX7 tyX7_ok nmX7 ltM_0 kdM_0 rfl (by decide) rfl foM_0_17 rfl ⟨rfl, rfl⟩ dX7_number_117 ?_
          refine z_goto (pc := 120) (tgt := 35) dX7_number_120 (by decide) ?_
          exact ih _ _ _ _ hk
def f_X7_number (μ : Mm) : Option (Int32 × Mm) := bd (f_X7_blanks μ) fun r1 μ2 => if (μ2.1 0 18) = 0 then (bd (f_X7_isAt (48 : Int32) (57 : Int32) μ2) fun r11 μ12 => if r11 = 0 then (lp_X7_number_35 FU (0 : Int32) (0 : Int32) (si μ12 0 18 (1 : Int32)) (fun x16 μ17 => some (x16, μ17))) else (lp_X7_number_35 FU (0 : Int32) (0 : Int32) (si μ12 0 18 (0 : Int32)) (fun x14 μ15 => some (x14, μ15)))) else (lp_X7_number_35 FU (0 : Int32) (0 : Int32) (si μ2 0 18 (1 : Int32)) (fun x9 μ10 => some (x9, μ10)))
theorem m_X7_number (g : Gx) (μ : Mm) : Zm g ΛM enI yX7_number cX7_number 3 (some .int) rX7_number [.ref (g.2.2.1 0)] μ (f_X7_number μ) := by
  refine z_met (by decide +kernel) (Nat.le_of_ble_eq_true rfl) ?_
  change Zw g ΛM enI RX7 cX7_number 3 (some .int) rX7_number 0 [(0, .ref (g.2.2.1 0))] [] μ (f_X7_number μ)
  rw [f_X7_number]
  refine z_aload_n (pc := 0) 0 dX7_number_0 rfl rfl ?_
  refine z_callV (pc := 1) (b := 0) (As := []) (rest := []) kX7_232 (m_X7_blanks g μ) ltM_0 kdM_0 rfl rfl ⟨rfl, rfl⟩ ⟨Nat.le_of_ble_eq_true rfl, Nat.le_of_ble_eq_true rfl⟩ (Nat.le_of_ble_eq_true rfl) rfl rfl dX7_number_1 (fun r1 μ2 => ?_)
  change Zw g ΛM enI RX7 cX7_number 3 (some .int) rX7_number 4 [(0, .ref (g.2.2.1 0))] [] μ2 _
  refine z_iconst (pc := 4) (v := 0) dX7_number_4 rfl ?_
  refine z_istore_n (pc := 5) (lv2 := [(0, .ref (g.2.2.1 0)), (1, .int (0 : Int32))]) [1, 0] dX7_number_5 rfl (by decide) rfl ?_
  refine z_iconst (pc := 6) (v := 0) dX7_number_6 rfl ?_
  refine z_istore_n (pc := 7) (lv2 := [(0, .ref (g.2.2.1 0)), (1, .int (0 : Int32)), (2, .int (0 : Int32))]) [1, 2, 0] dX7_number_7 rfl (by decide) rfl ?_
  refine z_aload_n (pc := 8) 0 dX7_number_8 rfl rfl ?_
  refine z_aload_n (pc := 9) 0 dX7_number_9 rfl rfl ?_
  refine z_get (pc := 10) (v := .int (μ2.1 0 18)) flX7_235 jnX7 ltM_0 kdM_0 rfl (by decide) rfl foM_0_18 rfl dX7_number_10 ?_
  refine z_if_ne (pc := 13) (tgt := 27) dX7_number_13 (by decide) (fun h3 => ?_) (fun h3 => ?_)
  · refine z_iconst (pc := 27) (v := 1) dX7_number_27 rfl ?_
    refine z_goto (pc := 28) (tgt := 32) dX7_number_28 (by decide) ?_
    refine z_puti (x := (0, 0)) (pc := 32) flX7_235 jnX7 tyX7 tyX7_ok nmX7 ltM_0 kdM_0 rfl (by decide) rfl foM_0_18 rfl (zb_n (by decide)) dX7_number_32 ?_
    refine w_X7_number_35 g FU (0 : Int32) (0 : Int32) (si μ2 0 18 (1 : Int32)) _ (fun x9 μ10 => ?_)
    refine z_iload_n (pc := 123) 0 dX7_number_123 rfl rfl ?_
    exact z_iret dX7_number_124
  · refine z_aload_n (pc := 16) 0 dX7_number_16 rfl rfl ?_
    refine z_bipush (pc := 17) (v := 48) dX7_number_17 (by decide +kernel) ?_
    refine z_bipush (pc := 19) (v := 57) dX7_number_19 (by decide +kernel) ?_
    refine z_callV (pc := 21) (b := 0) (As := [.int (48 : Int32), .int (57 : Int32)]) (rest := [.ref (g.2.2.1 0)]) kX7_229 (m_X7_isAt g μ2 (48 : Int32) (57 : Int32)) ltM_0 kdM_0 rfl rfl ⟨rfl, rfl⟩ ⟨Nat.le_of_ble_eq_true rfl, Nat.le_of_ble_eq_true rfl⟩ (Nat.le_of_ble_eq_true rfl) rfl rfl dX7_number_21 (fun r11 μ12 => ?_)
    change Zw g ΛM enI RX7 cX7_number 3 (some .int) rX7_number 24 [(0, .ref (g.2.2.1 0)), (1, .int (0 : Int32)), (2, .int (0 : Int32))] [.int r11, .ref (g.2.2.1 0)] μ12 _
    refine z_if_ne (pc := 24) (tgt := 31) dX7_number_24 (by decide) (fun h13 => ?_) (fun h13 => ?_)
    · refine z_iconst (pc := 31) (v := 0) dX7_number_31 rfl ?_
      refine z_puti (x := (0, 0)) (pc := 32) flX7_235 jnX7 tyX7 tyX7_ok nmX7 ltM_0 kdM_0 rfl (by decide) rfl foM_0_18 rfl (zb_n (by decide)) dX7_number_32 ?_
      refine w_X7_number_35 g FU (0 : Int32) (0 : Int32) (si μ12 0 18 (0 : Int32)) _ (fun x14 μ15 => ?_)
      refine z_iload_n (pc := 123) 0 dX7_number_123 rfl rfl ?_
      exact z_iret dX7_number_124
    · refine z_iconst (pc := 27) (v := 1) dX7_number_27 rfl ?_
      refine z_goto (pc := 28) (tgt := 32) dX7_number_28 (by decide) ?_
      refine z_puti (x := (0, 0)) (pc := 32) flX7_235 jnX7 tyX7 tyX7_ok nmX7 ltM_0 kdM_0 rfl (by decide) rfl foM_0_18 rfl (zb_n (by decide)) dX7_number_32 ?_
      refine w_X7_number_35 g FU (0 : Int32) (0 : Int32) (si μ12 0 18 (1 : Int32)) _ (fun x16 μ17 => ?_)
      refine z_iload_n (pc := 123) 0 dX7_number_123 rfl rfl ?_
      exact z_iret dX7_number_124
def lp_X7_passesLetters_9 (c1 : Int32) (c2 : Int32) (c3 : Int32) : Nat → Mm → (Mm → Option (Int32 × Mm)) → Option (Int32 × Mm)
  | 0, _, _ => none
  | n + 1, μ, k => bd (f_X7_isAt (97 : Int32) (104 : Int32) μ) fun r3 μ4 => if r3 = 0 then (k  μ4) else (if (μ4.1 0 18) = 0 then (if ((μ4.1 0 17) - c3) = c2 then (lp_X7_passesLetters_9 c1 c2 c3 n  (si (si μ4 0 18 (1 : Int32)) 0 17 ((μ4.1 0 17) + (0 : Int32))) k) else (lp_X7_passesLetters_9 c1 c2 c3 n  (si (si μ4 0 18 (0 : Int32)) 0 17 ((μ4.1 0 17) + (1 : Int32))) k)) else (k  μ4))
theorem w_X7_passesLetters_9 (g : Gx) (c1 : Int32) (c2 : Int32) (c3 : Int32) : ∀ (n : Nat) (μ : Mm) (k : Mm → Option (Int32 × Mm)), (∀ (ν : Mm), Zw g ΛM enI RX7 cX7_passesLetters 4 (some .int) rX7_passesLetters 70 [(0, .ref (g.2.2.1 0)), (1, .int c1), (3, .int c3)] [] ν (k  ν)) → Zw g ΛM enI RX7 cX7_passesLetters 4 (some .int) rX7_passesLetters 9 [(0, .ref (g.2.2.1 0)), (1, .int c1), (2, .int c2), (3, .int c3)] [] μ (lp_X7_passesLetters_9 c1 c2 c3 n μ k) := by
  intro n
  induction n with
  | zero =>
    intro μ k hk
    exact z_none
  | succ n ih =>
    intro μ k hk
    rw [lp_X7_passesLetters_9]
    refine z_aload_n (pc := 9) 0 dX7_passesLetters_9 rfl rfl ?_
    refine z_bipush (pc := 10) (v := 97) dX7_passesLetters_10 (by decide +kernel) ?_
    refine z_bipush (pc := 12) (v := 104) dX7_passesLetters_12 (by decide +kernel) ?_
    refine z_callV (pc := 14) (b := 0) (As := [.int (97 : Int32), .int (104 : Int32)]) (rest := []) kX7_229 (m_X7_isAt g μ (97 : Int32) (104 : Int32)) ltM_0 kdM_0 rfl rfl ⟨rfl, rfl⟩ ⟨Nat.le_of_ble_eq_true rfl, Nat.le_of_ble_eq_true rfl⟩ (Nat.le_of_ble_eq_true rfl) rfl rfl dX7_passesLetters_14 (fun r3 μ4 => ?_)
    change Zw g ΛM enI RX7 cX7_passesLetters 4 (some .int) rX7_passesLetters 17 [(0, .ref (g.2.2.1 0)), (1, .int c1), (2, .int c2), (3, .int c3)] [.int r3] μ4 _
    refine z_if_eq (pc := 17) (tgt := 70) dX7_passesLetters_17 (by decide) (fun h5 => ?_) (fun h5 => ?_)
    · refine z_sub (lv2 := [(0, .ref (g.2.2.1 0)), (1, .int c1), (3, .int c3)]) [0, 1, 3] rfl ?_
      exact hk _
    · refine z_aload_n (pc := 20) 0 dX7_passesLetters_20 rfl rfl ?_
      refine z_get (pc := 21) (v := .int (μ4.1 0 18)) flX7_235 jnX7 ltM_0 kdM_0 rfl (by decide) rfl foM_0_18 rfl dX7_passesLetters_21 ?_
      refine z_if_ne (pc := 24) (tgt := 70) dX7_passesLetters_24 (by decide) (fun h6 => ?_) (fun h6 => ?_)
      · refine z_sub (lv2 := [(0, .ref (g.2.2.1 0)), (1, .int c1), (3, .int c3)]) [0, 1, 3] rfl ?_
        exact hk _
      · refine z_aload_n (pc := 27) 0 dX7_passesLetters_27 rfl rfl ?_
        refine z_aload_n (pc := 28) 0 dX7_passesLetters_28 rfl rfl ?_
        refine z_get (pc := 29) (v := .int (μ4.1 0 17)) flX7_226 jnX7 ltM_0 kdM_0 rfl (by decide) rfl foM_0_17 rfl dX7_passesLetters_29 ?_
        refine z_iload_n (pc := 32) 3 dX7_passesLetters_32 rfl rfl ?_
        refine z_isub (pc := 33) dX7_passesLetters_33 ?_
        refine z_iload_n (pc := 34) 2 dX7_passesLetters_34 rfl rfl ?_
        refine z_icmp_ne (pc := 35) (tgt := 42) dX7_passesLetters_35 (by decide) (fun h7 => ?_) (fun h7 => ?_)
        · refine z_iconst (pc := 42) (v := 0) dX7_passesLetters_42 rfl ?_
          refine z_puti (x := (0, 0)) (pc := 43) flX7_235 jnX7 tyX7 tyX7_ok nmX7 ltM_0 kdM_0 rfl (by decide) rfl foM_0_18 rfl (zb_n (by decide)) dX7_passesLetters_43 ?_
          refine z_aload_n (pc := 46) 0 dX7_passesLetters_46 rfl rfl ?_
          refine z_dup (pc := 47) dX7_passesLetters_47 rfl ?_
          refine z_get (pc := 48) (v := .int (μ4.1 0 17)) flX7_226 jnX7 ltM_0 kdM_0 rfl (by decide) rfl foM_0_17 rfl dX7_passesLetters_48 ?_
          refine z_aload_n (pc := 51) 0 dX7_passesLetters_51 rfl rfl ?_
          refine z_get (pc := 52) (v := .int (0 : Int32)) flX7_235 jnX7 ltM_0 kdM_0 rfl (by decide) rfl foM_0_18 rfl dX7_passesLetters_52 ?_
          refine z_if_eq_y (pc := 55) (tgt := 62) dX7_passesLetters_55 (by decide) (by decide +kernel) ?_
          refine z_iconst (pc := 62) (v := 1) dX7_passesLetters_62 rfl ?_
          refine z_iadd (pc := 63) dX7_passesLetters_63 ?_
          refine z_puti (x := (0, 0)) (pc := 64) flX7_226 jnX7 tyX7 tyX7_ok nmX7 ltM_0 kdM_0 rfl (by decide) rfl foM_0_17 rfl ⟨rfl, rfl⟩ dX7_passesLetters_64 ?_
          refine z_goto (pc := 67) (tgt := 9) dX7_passesLetters_67 (by decide) ?_
          exact ih _ _ hk
        · refine z_iconst (pc := 38) (v := 1) dX7_passesLetters_38 rfl ?_
          refine z_goto (pc := 39) (tgt := 43) dX7_passesLetters_39 (by decide) ?_
          refine z_puti (x := (0, 0)) (pc := 43) flX7_235 jnX7 tyX7 tyX7_ok nmX7 ltM_0 kdM_0 rfl (by decide) rfl foM_0_18 rfl (zb_n (by decide)) dX7_passesLetters_43 ?_
          refine z_aload_n (pc := 46) 0 dX7_passesLetters_46 rfl rfl ?_
          refine z_dup (pc := 47) dX7_passesLetters_47 rfl ?_
          refine z_get (pc := 48) (v := .int (μ4.1 0 17)) flX7_226 jnX7 ltM_0 kdM_0 rfl (by decide) rfl foM_0_17 rfl dX7_passesLetters_48 ?_
          refine z_aload_n (pc := 51) 0 dX7_passesLetters_51 rfl rfl ?_
          refine z_get (pc := 52) (v := .int (1 : Int32)) flX7_235 jnX7 ltM_0 kdM_0 rfl (by decide) rfl foM_0_18 rfl dX7_passesLetters_52 ?_
          refine z_if_eq_x (pc := 55) (tgt := 62) dX7_passesLetters_55 (by decide) (by decide +kernel) ?_
          refine z_iconst (pc := 58) (v := 0) dX7_passesLetters_58 rfl ?_
          refine z_goto (pc := 59) (tgt := 63) dX7_passesLetters_59 (by decide) ?_
          refine z_iadd (pc := 63) dX7_passesLetters_63 ?_
          refine z_puti (x := (0, 0)) (pc := 64) flX7_226 jnX7 tyX7 tyX7_ok nmX7 ltM_0 kdM_0 rfl (by decide) rfl foM_0_17 rfl ⟨rfl, rfl⟩ dX7_passesLetters_64 ?_
          refine z_goto (pc := 67) (tgt := 9) dX7_passesLetters_67 (by decide) ?_
          exact ih _ _ hk
def f_X7_passesLetters (a1 : Int32) (a2 : Int32) (μ : Mm) : Option (Int32 × Mm) := bd (f_X7_blanks μ) fun r1 μ2 => lp_X7_passesLetters_9 a1 a2 (μ2.1 0 17) FU μ2 (fun  μ8 => if (μ8.1 0 18) = 0 then (if a1 ≤ ((μ8.1 0 17) - (μ2.1 0 17)) then (some (μ2.1 0 17, (si μ8 0 18 (0 : Int32)))) else (some (μ2.1 0 17, (si μ8 0 18 (1 : Int32))))) else (some (μ2.1 0 17, (si μ8 0 18 (1 : Int32)))))
theorem m_X7_passesLetters (g : Gx) (μ : Mm) (a1 : Int32) (a2 : Int32) : Zm g ΛM enI yX7_passesLetters cX7_passesLetters 4 (some .int) rX7_passesLetters [.ref (g.2.2.1 0), .int a1, .int a2] μ (f_X7_passesLetters a1 a2 μ) := by
  refine z_met (by decide +kernel) (Nat.le_of_ble_eq_true rfl) ?_
  change Zw g ΛM enI RX7 cX7_passesLetters 4 (some .int) rX7_passesLetters 0 [(0, .ref (g.2.2.1 0)), (1, .int a1), (2, .int a2)] [] μ (f_X7_passesLetters a1 a2 μ)
  rw [f_X7_passesLetters]
  refine z_aload_n (pc := 0) 0 dX7_passesLetters_0 rfl rfl ?_
  refine z_callV (pc := 1) (b := 0) (As := []) (rest := []) kX7_232 (m_X7_blanks g μ) ltM_0 kdM_0 rfl rfl ⟨rfl, rfl⟩ ⟨Nat.le_of_ble_eq_true rfl, Nat.le_of_ble_eq_true rfl⟩ (Nat.le_of_ble_eq_true rfl) rfl rfl dX7_passesLetters_1 (fun r1 μ2 => ?_)
  change Zw g ΛM enI RX7 cX7_passesLetters 4 (some .int) rX7_passesLetters 4 [(0, .ref (g.2.2.1 0)), (1, .int a1), (2, .int a2)] [] μ2 _
  refine z_aload_n (pc := 4) 0 dX7_passesLetters_4 rfl rfl ?_
  refine z_get (pc := 5) (v := .int (μ2.1 0 17)) flX7_226 jnX7 ltM_0 kdM_0 rfl (by decide) rfl foM_0_17 rfl dX7_passesLetters_5 ?_
  refine z_istore_n (pc := 8) (lv2 := [(0, .ref (g.2.2.1 0)), (1, .int a1), (2, .int a2), (3, .int (μ2.1 0 17))]) [1, 2, 3, 0] dX7_passesLetters_8 rfl (by decide) rfl ?_
  refine w_X7_passesLetters_9 g a1 a2 (μ2.1 0 17) FU μ2 _ (fun  μ8 => ?_)
  refine z_aload_n (pc := 70) 0 dX7_passesLetters_70 rfl rfl ?_
  refine z_aload_n (pc := 71) 0 dX7_passesLetters_71 rfl rfl ?_
  refine z_get (pc := 72) (v := .int (μ8.1 0 18)) flX7_235 jnX7 ltM_0 kdM_0 rfl (by decide) rfl foM_0_18 rfl dX7_passesLetters_72 ?_
  refine z_if_ne (pc := 75) (tgt := 88) dX7_passesLetters_75 (by decide) (fun h9 => ?_) (fun h9 => ?_)
  · refine z_iconst (pc := 88) (v := 1) dX7_passesLetters_88 rfl ?_
    refine z_goto (pc := 89) (tgt := 93) dX7_passesLetters_89 (by decide) ?_
    refine z_puti (x := (0, 0)) (pc := 93) flX7_235 jnX7 tyX7 tyX7_ok nmX7 ltM_0 kdM_0 rfl (by decide) rfl foM_0_18 rfl (zb_n (by decide)) dX7_passesLetters_93 ?_
    refine z_iload_n (pc := 96) 2 dX7_passesLetters_96 rfl rfl ?_
    exact z_iret dX7_passesLetters_97
  · refine z_aload_n (pc := 78) 0 dX7_passesLetters_78 rfl rfl ?_
    refine z_get (pc := 79) (v := .int (μ8.1 0 17)) flX7_226 jnX7 ltM_0 kdM_0 rfl (by decide) rfl foM_0_17 rfl dX7_passesLetters_79 ?_
    refine z_iload_n (pc := 82) 2 dX7_passesLetters_82 rfl rfl ?_
    refine z_isub (pc := 83) dX7_passesLetters_83 ?_
    refine z_iload_n (pc := 84) 1 dX7_passesLetters_84 rfl rfl ?_
    refine z_icmp_ge (pc := 85) (tgt := 92) dX7_passesLetters_85 (by decide) (fun h10 => ?_) (fun h10 => ?_)
    · refine z_iconst (pc := 92) (v := 0) dX7_passesLetters_92 rfl ?_
      refine z_puti (x := (0, 0)) (pc := 93) flX7_235 jnX7 tyX7 tyX7_ok nmX7 ltM_0 kdM_0 rfl (by decide) rfl foM_0_18 rfl (zb_n (by decide)) dX7_passesLetters_93 ?_
      refine z_iload_n (pc := 96) 2 dX7_passesLetters_96 rfl rfl ?_
      exact z_iret dX7_passesLetters_97
    · refine z_iconst (pc := 88) (v := 1) dX7_passesLetters_88 rfl ?_
      refine z_goto (pc := 89) (tgt := 93) dX7_passesLetters_89 (by decide) ?_
      refine z_puti (x := (0, 0)) (pc := 93) flX7_235 jnX7 tyX7 tyX7_ok nmX7 ltM_0 kdM_0 rfl (by decide) rfl foM_0_18 rfl (zb_n (by decide)) dX7_passesLetters_93 ?_
      refine z_iload_n (pc := 96) 2 dX7_passesLetters_96 rfl rfl ?_
      exact z_iret dX7_passesLetters_97
def f_X7_manyOf (a0 : Int32) (μ : Mm) : Option (Int32 × Mm) := if a0 = 98 then (some ((1 : Int32), μ)) else (if a0 = 101 then (some ((1 : Int32), μ)) else (if a0 = 102 then (some ((1 : Int32), μ)) else (if a0 = 107 then (some ((2 : Int32), μ)) else (if a0 = 108 then (some ((0 : Int32), μ)) else (if a0 = 115 then (some ((1 : Int32), μ)) else (if a0 = 116 then (some ((1 : Int32), μ)) else (if a0 = 119 then (some ((2 : Int32), μ)) else (if a0 = 120 then (some ((1 : Int32), μ)) else (some ((-1 : Int32), μ))))))))))
theorem m_X7_manyOf (g : Gx) (μ : Mm) (a0 : Int32) : Zm g ΛM enI yX7_manyOf cX7_manyOf 1 (some .int) rX7_manyOf [.int a0] μ (f_X7_manyOf a0 μ) := by
  refine z_met (by decide +kernel) (Nat.le_of_ble_eq_true rfl) ?_
  change Zw g ΛM enI RX7 cX7_manyOf 1 (some .int) rX7_manyOf 0 [(0, .int a0)] [] μ (f_X7_manyOf a0 μ)
  rw [f_X7_manyOf]
  refine z_iload_n (pc := 0) 0 dX7_manyOf_0 rfl rfl ?_
  refine z_ite (fun h1 => ?_) (fun h1 => ?_)
  · refine z_tabIn (pc := 1) (tgt := 110) dX7_manyOf_1 (by rw [h1]; decide +kernel) (by rw [h1]; decide +kernel) (off := 109) (by rw [h1]; decide +kernel) (by decide) ?_
    refine z_iconst (pc := 110) (v := 1) dX7_manyOf_110 rfl ?_
    exact z_iret dX7_manyOf_111
  refine z_ite (fun h2 => ?_) (fun h2 => ?_)
  · refine z_tabIn (pc := 1) (tgt := 110) dX7_manyOf_1 (by rw [h2]; decide +kernel) (by rw [h2]; decide +kernel) (off := 109) (by rw [h2]; decide +kernel) (by decide) ?_
    refine z_iconst (pc := 110) (v := 1) dX7_manyOf_110 rfl ?_
    exact z_iret dX7_manyOf_111
  refine z_ite (fun h3 => ?_) (fun h3 => ?_)
  · refine z_tabIn (pc := 1) (tgt := 110) dX7_manyOf_1 (by rw [h3]; decide +kernel) (by rw [h3]; decide +kernel) (off := 109) (by rw [h3]; decide +kernel) (by decide) ?_
    refine z_iconst (pc := 110) (v := 1) dX7_manyOf_110 rfl ?_
    exact z_iret dX7_manyOf_111
  refine z_ite (fun h4 => ?_) (fun h4 => ?_)
  · refine z_tabIn (pc := 1) (tgt := 112) dX7_manyOf_1 (by rw [h4]; decide +kernel) (by rw [h4]; decide +kernel) (off := 111) (by rw [h4]; decide +kernel) (by decide) ?_
    refine z_iconst (pc := 112) (v := 2) dX7_manyOf_112 rfl ?_
    exact z_iret dX7_manyOf_113
  refine z_ite (fun h5 => ?_) (fun h5 => ?_)
  · refine z_tabIn (pc := 1) (tgt := 108) dX7_manyOf_1 (by rw [h5]; decide +kernel) (by rw [h5]; decide +kernel) (off := 107) (by rw [h5]; decide +kernel) (by decide) ?_
    refine z_iconst (pc := 108) (v := 0) dX7_manyOf_108 rfl ?_
    exact z_iret dX7_manyOf_109
  refine z_ite (fun h6 => ?_) (fun h6 => ?_)
  · refine z_tabIn (pc := 1) (tgt := 110) dX7_manyOf_1 (by rw [h6]; decide +kernel) (by rw [h6]; decide +kernel) (off := 109) (by rw [h6]; decide +kernel) (by decide) ?_
    refine z_iconst (pc := 110) (v := 1) dX7_manyOf_110 rfl ?_
    exact z_iret dX7_manyOf_111
  refine z_ite (fun h7 => ?_) (fun h7 => ?_)
  · refine z_tabIn (pc := 1) (tgt := 110) dX7_manyOf_1 (by rw [h7]; decide +kernel) (by rw [h7]; decide +kernel) (off := 109) (by rw [h7]; decide +kernel) (by decide) ?_
    refine z_iconst (pc := 110) (v := 1) dX7_manyOf_110 rfl ?_
    exact z_iret dX7_manyOf_111
  refine z_ite (fun h8 => ?_) (fun h8 => ?_)
  · refine z_tabIn (pc := 1) (tgt := 112) dX7_manyOf_1 (by rw [h8]; decide +kernel) (by rw [h8]; decide +kernel) (off := 111) (by rw [h8]; decide +kernel) (by decide) ?_
    refine z_iconst (pc := 112) (v := 2) dX7_manyOf_112 rfl ?_
    exact z_iret dX7_manyOf_113
  refine z_ite (fun h9 => ?_) (fun h9 => ?_)
  · refine z_tabIn (pc := 1) (tgt := 110) dX7_manyOf_1 (by rw [h9]; decide +kernel) (by rw [h9]; decide +kernel) (off := 109) (by rw [h9]; decide +kernel) (by decide) ?_
    refine z_iconst (pc := 110) (v := 1) dX7_manyOf_110 rfl ?_
    exact z_iret dX7_manyOf_111
  have eh1 : a0.toInt ≠ 98 := fun q => h1 (Int32.toInt_inj.mp (q.trans (by decide +kernel)))
  have eh2 : a0.toInt ≠ 101 := fun q => h2 (Int32.toInt_inj.mp (q.trans (by decide +kernel)))
  have eh3 : a0.toInt ≠ 102 := fun q => h3 (Int32.toInt_inj.mp (q.trans (by decide +kernel)))
  have eh4 : a0.toInt ≠ 107 := fun q => h4 (Int32.toInt_inj.mp (q.trans (by decide +kernel)))
  have eh5 : a0.toInt ≠ 108 := fun q => h5 (Int32.toInt_inj.mp (q.trans (by decide +kernel)))
  have eh6 : a0.toInt ≠ 115 := fun q => h6 (Int32.toInt_inj.mp (q.trans (by decide +kernel)))
  have eh7 : a0.toInt ≠ 116 := fun q => h7 (Int32.toInt_inj.mp (q.trans (by decide +kernel)))
  have eh8 : a0.toInt ≠ 119 := fun q => h8 (Int32.toInt_inj.mp (q.trans (by decide +kernel)))
  have eh9 : a0.toInt ≠ 120 := fun q => h9 (Int32.toInt_inj.mp (q.trans (by decide +kernel)))
  by_cases h10 : a0.toInt < 98 ∨ 120 < a0.toInt
  · refine z_tabOut (pc := 1) (tgt := 114) dX7_manyOf_1 h10 (by decide) ?_
    refine z_iconst (pc := 114) (v := -1) dX7_manyOf_114 rfl ?_
    exact z_iret dX7_manyOf_115
  · have h11 : a0.toInt = 99 ∨ a0.toInt = 100 ∨ a0.toInt = 103 ∨ a0.toInt = 104 ∨ a0.toInt = 105 ∨ a0.toInt = 106 ∨ a0.toInt = 109 ∨ a0.toInt = 110 ∨ a0.toInt = 111 ∨ a0.toInt = 112 ∨ a0.toInt = 113 ∨ a0.toInt = 114 ∨ a0.toInt = 117 ∨ a0.toInt = 118 := by omega
    refine z_tabIn (pc := 1) (tgt := 114) dX7_manyOf_1 (fun q => h10 (Or.inl q)) (fun q => h10 (Or.inr q)) (off := 113) (by rcases h11 with q | q | q | q | q | q | q | q | q | q | q | q | q | q <;> (rw [q]; decide +kernel)) (by decide) ?_
    refine z_iconst (pc := 114) (v := -1) dX7_manyOf_114 rfl ?_
    exact z_iret dX7_manyOf_115
def lp_X7_readsParts_2 (c1 : Int32) (c2 : Int32) : Nat → Int32 → Mm → (Mm → Option (Unit × Mm)) → Option (Unit × Mm)
  | 0, _, _, _ => none
  | n + 1, y3, μ, k => if c2 ≤ y3 then (k  μ) else (if (μ.1 0 18) = 0 then (bd (f_X7_number μ) fun r3 μ4 => if zin (((2 : Int32) * (μ.1 0 19)) + y3) 152 then (lp_X7_readsParts_2 c1 c2 n (y3 + 1) (si μ4 12 ((((2 : Int32) * (μ.1 0 19)) + y3).toNatClampNeg) r3) k) else none) else (k  μ))
theorem w_X7_readsParts_2 (g : Gx) (c1 : Int32) (c2 : Int32) : ∀ (n : Nat) (y3 : Int32) (μ : Mm) (k : Mm → Option (Unit × Mm)), (∀ (ν : Mm), Zw g ΛM enV RX7 cX7_readsParts 4 none rX7_readsParts 37 [(0, .ref (g.2.2.1 0)), (1, .int c1)] [] ν (k  ν)) → Zw g ΛM enV RX7 cX7_readsParts 4 none rX7_readsParts 2 [(0, .ref (g.2.2.1 0)), (1, .int c1), (2, .int c2), (3, .int y3)] [] μ (lp_X7_readsParts_2 c1 c2 n y3 μ k) := by
  intro n
  induction n with
  | zero =>
    intro y3 μ k hk
    exact z_none
  | succ n ih =>
    intro y3 μ k hk
    rw [lp_X7_readsParts_2]
    refine z_iload_n (pc := 2) 3 dX7_readsParts_2 rfl rfl ?_
    refine z_iload_n (pc := 3) 2 dX7_readsParts_3 rfl rfl ?_
    refine z_icmp_ge (pc := 4) (tgt := 37) dX7_readsParts_4 (by decide) (fun h1 => ?_) (fun h1 => ?_)
    · refine z_sub (lv2 := [(0, .ref (g.2.2.1 0)), (1, .int c1)]) [0, 1] rfl ?_
      exact hk _
    · refine z_aload_n (pc := 7) 0 dX7_readsParts_7 rfl rfl ?_
      refine z_get (pc := 8) (v := .int (μ.1 0 18)) flX7_235 jnX7 ltM_0 kdM_0 rfl (by decide) rfl foM_0_18 rfl dX7_readsParts_8 ?_
      refine z_if_ne (pc := 11) (tgt := 37) dX7_readsParts_11 (by decide) (fun h2 => ?_) (fun h2 => ?_)
      · refine z_sub (lv2 := [(0, .ref (g.2.2.1 0)), (1, .int c1)]) [0, 1] rfl ?_
        exact hk _
      · refine z_aload_n (pc := 14) 0 dX7_readsParts_14 rfl rfl ?_
        refine z_get (pc := 15) (v := .ref (g.2.2.1 12)) flX7_44 jnX7 ltM_0 kdM_0 rfl (by decide) rfl foM_0_21 rfl dX7_readsParts_15 ?_
        refine z_iconst (pc := 18) (v := 2) dX7_readsParts_18 rfl ?_
        refine z_aload_n (pc := 19) 0 dX7_readsParts_19 rfl rfl ?_
        refine z_get (pc := 20) (v := .int (μ.1 0 19)) flX7_238 jnX7 ltM_0 kdM_0 rfl (by decide) rfl foM_0_19 rfl dX7_readsParts_20 ?_
        refine z_imul (pc := 23) dX7_readsParts_23 ?_
        refine z_iload_n (pc := 24) 3 dX7_readsParts_24 rfl rfl ?_
        refine z_iadd (pc := 25) dX7_readsParts_25 ?_
        refine z_aload_n (pc := 26) 0 dX7_readsParts_26 rfl rfl ?_
        refine z_callV (pc := 27) (b := 0) (As := []) (rest := [.int (((2 : Int32) * (μ.1 0 19)) + y3), .ref (g.2.2.1 12)]) kX7_241 (m_X7_number g μ) ltM_0 kdM_0 rfl rfl ⟨rfl, rfl⟩ ⟨Nat.le_of_ble_eq_true rfl, Nat.le_of_ble_eq_true rfl⟩ (Nat.le_of_ble_eq_true rfl) rfl rfl dX7_readsParts_27 (fun r3 μ4 => ?_)
        change Zw g ΛM enV RX7 cX7_readsParts 4 none rX7_readsParts 30 [(0, .ref (g.2.2.1 0)), (1, .int c1), (2, .int c2), (3, .int y3)] [.int r3, .int (((2 : Int32) * (μ.1 0 19)) + y3), .ref (g.2.2.1 12)] μ4 _
        refine z_iastore_g (pc := 30) ltM_12 kdM_12 dX7_readsParts_30 ?_
        refine z_iinc (pc := 31) (v := y3 + 1) (lv2 := [(0, .ref (g.2.2.1 0)), (1, .int c1), (2, .int c2), (3, .int (y3 + 1))]) 3 [1, 2, 3, 0] dX7_readsParts_31 rfl (by rw [oi_1]) (by decide) rfl ?_
        refine z_goto (pc := 34) (tgt := 2) dX7_readsParts_34 (by decide) ?_
        exact ih _ _ _ hk
def f_X7_readsParts (a1 : Int32) (a2 : Int32) (μ : Mm) : Option (Unit × Mm) := lp_X7_readsParts_2 a1 a2 FU (0 : Int32) μ (fun  μ5 => if (μ5.1 0 18) = 0 then (if a1 = (102 : Int32) then (bd (f_X7_passesLetters (1 : Int32) (6 : Int32) μ5) fun r16 μ17 => if zin (((2 : Int32) * (μ5.1 0 19)) + (1 : Int32)) 152 then (some ((), (si μ17 12 ((((2 : Int32) * (μ5.1 0 19)) + (1 : Int32)).toNatClampNeg) r16))) else none) else (if (μ5.1 0 18) = 0 then (if a1 = (108 : Int32) then (bd (f_X7_passesLetters (0 : Int32) (40 : Int32) μ5) fun r14 μ15 => if zin ((2 : Int32) * (μ5.1 0 19)) 152 then (some ((), (si μ15 12 (((2 : Int32) * (μ5.1 0 19)).toNatClampNeg) r14))) else none) else (some ((), μ5))) else (some ((), μ5)))) else (if (μ5.1 0 18) = 0 then (if a1 = (108 : Int32) then (bd (f_X7_passesLetters (0 : Int32) (40 : Int32) μ5) fun r9 μ10 => if zin ((2 : Int32) * (μ5.1 0 19)) 152 then (some ((), (si μ10 12 (((2 : Int32) * (μ5.1 0 19)).toNatClampNeg) r9))) else none) else (some ((), μ5))) else (some ((), μ5))))
theorem m_X7_readsParts (g : Gx) (μ : Mm) (a1 : Int32) (a2 : Int32) : Zm g ΛM enV yX7_readsParts cX7_readsParts 4 none rX7_readsParts [.ref (g.2.2.1 0), .int a1, .int a2] μ (f_X7_readsParts a1 a2 μ) := by
  refine z_met (by decide +kernel) (Nat.le_of_ble_eq_true rfl) ?_
  change Zw g ΛM enV RX7 cX7_readsParts 4 none rX7_readsParts 0 [(0, .ref (g.2.2.1 0)), (1, .int a1), (2, .int a2)] [] μ (f_X7_readsParts a1 a2 μ)
  rw [f_X7_readsParts]
  refine z_iconst (pc := 0) (v := 0) dX7_readsParts_0 rfl ?_
  refine z_istore_n (pc := 1) (lv2 := [(0, .ref (g.2.2.1 0)), (1, .int a1), (2, .int a2), (3, .int (0 : Int32))]) [1, 2, 3, 0] dX7_readsParts_1 rfl (by decide) rfl ?_
  refine w_X7_readsParts_2 g a1 a2 FU (0 : Int32) μ _ (fun  μ5 => ?_)
  refine z_aload_n (pc := 37) 0 dX7_readsParts_37 rfl rfl ?_
  refine z_get (pc := 38) (v := .int (μ5.1 0 18)) flX7_235 jnX7 ltM_0 kdM_0 rfl (by decide) rfl foM_0_18 rfl dX7_readsParts_38 ?_
  refine z_if_ne (pc := 41) (tgt := 73) dX7_readsParts_41 (by decide) (fun h6 => ?_) (fun h6 => ?_)
  · refine z_aload_n (pc := 73) 0 dX7_readsParts_73 rfl rfl ?_
    refine z_get (pc := 74) (v := .int (μ5.1 0 18)) flX7_235 jnX7 ltM_0 kdM_0 rfl (by decide) rfl foM_0_18 rfl dX7_readsParts_74 ?_
    refine z_if_ne (pc := 77) (tgt := 104) dX7_readsParts_77 (by decide) (fun h7 => ?_) (fun h7 => ?_)
    · exact z_vret dX7_readsParts_104
    · refine z_iload_n (pc := 80) 1 dX7_readsParts_80 rfl rfl ?_
      refine z_bipush (pc := 81) (v := 108) dX7_readsParts_81 (by decide +kernel) ?_
      refine z_icmp_ne (pc := 83) (tgt := 104) dX7_readsParts_83 (by decide) (fun h8 => ?_) (fun h8 => ?_)
      · exact z_vret dX7_readsParts_104
      · refine z_aload_n (pc := 86) 0 dX7_readsParts_86 rfl rfl ?_
        refine z_get (pc := 87) (v := .ref (g.2.2.1 12)) flX7_44 jnX7 ltM_0 kdM_0 rfl (by decide) rfl foM_0_21 rfl dX7_readsParts_87 ?_
        refine z_iconst (pc := 90) (v := 2) dX7_readsParts_90 rfl ?_
        refine z_aload_n (pc := 91) 0 dX7_readsParts_91 rfl rfl ?_
        refine z_get (pc := 92) (v := .int (μ5.1 0 19)) flX7_238 jnX7 ltM_0 kdM_0 rfl (by decide) rfl foM_0_19 rfl dX7_readsParts_92 ?_
        refine z_imul (pc := 95) dX7_readsParts_95 ?_
        refine z_aload_n (pc := 96) 0 dX7_readsParts_96 rfl rfl ?_
        refine z_iconst (pc := 97) (v := 0) dX7_readsParts_97 rfl ?_
        refine z_bipush (pc := 98) (v := 40) dX7_readsParts_98 (by decide +kernel) ?_
        refine z_callV (pc := 100) (b := 0) (As := [.int (0 : Int32), .int (40 : Int32)]) (rest := [.int ((2 : Int32) * (μ5.1 0 19)), .ref (g.2.2.1 12)]) kX7_244 (m_X7_passesLetters g μ5 (0 : Int32) (40 : Int32)) ltM_0 kdM_0 rfl rfl ⟨rfl, rfl⟩ ⟨Nat.le_of_ble_eq_true rfl, Nat.le_of_ble_eq_true rfl⟩ (Nat.le_of_ble_eq_true rfl) rfl rfl dX7_readsParts_100 (fun r9 μ10 => ?_)
        change Zw g ΛM enV RX7 cX7_readsParts 4 none rX7_readsParts 103 [(0, .ref (g.2.2.1 0)), (1, .int a1)] [.int r9, .int ((2 : Int32) * (μ5.1 0 19)), .ref (g.2.2.1 12)] μ10 _
        refine z_iastore_g (pc := 103) ltM_12 kdM_12 dX7_readsParts_103 ?_
        exact z_vret dX7_readsParts_104
  · refine z_iload_n (pc := 44) 1 dX7_readsParts_44 rfl rfl ?_
    refine z_bipush (pc := 45) (v := 102) dX7_readsParts_45 (by decide +kernel) ?_
    refine z_icmp_ne (pc := 47) (tgt := 73) dX7_readsParts_47 (by decide) (fun h11 => ?_) (fun h11 => ?_)
    · refine z_aload_n (pc := 73) 0 dX7_readsParts_73 rfl rfl ?_
      refine z_get (pc := 74) (v := .int (μ5.1 0 18)) flX7_235 jnX7 ltM_0 kdM_0 rfl (by decide) rfl foM_0_18 rfl dX7_readsParts_74 ?_
      refine z_if_ne (pc := 77) (tgt := 104) dX7_readsParts_77 (by decide) (fun h12 => ?_) (fun h12 => ?_)
      · exact z_vret dX7_readsParts_104
      · refine z_iload_n (pc := 80) 1 dX7_readsParts_80 rfl rfl ?_
        refine z_bipush (pc := 81) (v := 108) dX7_readsParts_81 (by decide +kernel) ?_
        refine z_icmp_ne (pc := 83) (tgt := 104) dX7_readsParts_83 (by decide) (fun h13 => ?_) (fun h13 => ?_)
        · exact z_vret dX7_readsParts_104
        · refine z_aload_n (pc := 86) 0 dX7_readsParts_86 rfl rfl ?_
          refine z_get (pc := 87) (v := .ref (g.2.2.1 12)) flX7_44 jnX7 ltM_0 kdM_0 rfl (by decide) rfl foM_0_21 rfl dX7_readsParts_87 ?_
          refine z_iconst (pc := 90) (v := 2) dX7_readsParts_90 rfl ?_
          refine z_aload_n (pc := 91) 0 dX7_readsParts_91 rfl rfl ?_
          refine z_get (pc := 92) (v := .int (μ5.1 0 19)) flX7_238 jnX7 ltM_0 kdM_0 rfl (by decide) rfl foM_0_19 rfl dX7_readsParts_92 ?_
          refine z_imul (pc := 95) dX7_readsParts_95 ?_
          refine z_aload_n (pc := 96) 0 dX7_readsParts_96 rfl rfl ?_
          refine z_iconst (pc := 97) (v := 0) dX7_readsParts_97 rfl ?_
          refine z_bipush (pc := 98) (v := 40) dX7_readsParts_98 (by decide +kernel) ?_
          refine z_callV (pc := 100) (b := 0) (As := [.int (0 : Int32), .int (40 : Int32)]) (rest := [.int ((2 : Int32) * (μ5.1 0 19)), .ref (g.2.2.1 12)]) kX7_244 (m_X7_passesLetters g μ5 (0 : Int32) (40 : Int32)) ltM_0 kdM_0 rfl rfl ⟨rfl, rfl⟩ ⟨Nat.le_of_ble_eq_true rfl, Nat.le_of_ble_eq_true rfl⟩ (Nat.le_of_ble_eq_true rfl) rfl rfl dX7_readsParts_100 (fun r14 μ15 => ?_)
          change Zw g ΛM enV RX7 cX7_readsParts 4 none rX7_readsParts 103 [(0, .ref (g.2.2.1 0)), (1, .int a1)] [.int r14, .int ((2 : Int32) * (μ5.1 0 19)), .ref (g.2.2.1 12)] μ15 _
          refine z_iastore_g (pc := 103) ltM_12 kdM_12 dX7_readsParts_103 ?_
          exact z_vret dX7_readsParts_104
    · refine z_aload_n (pc := 50) 0 dX7_readsParts_50 rfl rfl ?_
      refine z_get (pc := 51) (v := .ref (g.2.2.1 12)) flX7_44 jnX7 ltM_0 kdM_0 rfl (by decide) rfl foM_0_21 rfl dX7_readsParts_51 ?_
      refine z_iconst (pc := 54) (v := 2) dX7_readsParts_54 rfl ?_
      refine z_aload_n (pc := 55) 0 dX7_readsParts_55 rfl rfl ?_
      refine z_get (pc := 56) (v := .int (μ5.1 0 19)) flX7_238 jnX7 ltM_0 kdM_0 rfl (by decide) rfl foM_0_19 rfl dX7_readsParts_56 ?_
      refine z_imul (pc := 59) dX7_readsParts_59 ?_
      refine z_iconst (pc := 60) (v := 1) dX7_readsParts_60 rfl ?_
      refine z_iadd (pc := 61) dX7_readsParts_61 ?_
      refine z_aload_n (pc := 62) 0 dX7_readsParts_62 rfl rfl ?_
      refine z_iconst (pc := 63) (v := 1) dX7_readsParts_63 rfl ?_
      refine z_bipush (pc := 64) (v := 6) dX7_readsParts_64 (by decide +kernel) ?_
      refine z_callV (pc := 66) (b := 0) (As := [.int (1 : Int32), .int (6 : Int32)]) (rest := [.int (((2 : Int32) * (μ5.1 0 19)) + (1 : Int32)), .ref (g.2.2.1 12)]) kX7_244 (m_X7_passesLetters g μ5 (1 : Int32) (6 : Int32)) ltM_0 kdM_0 rfl rfl ⟨rfl, rfl⟩ ⟨Nat.le_of_ble_eq_true rfl, Nat.le_of_ble_eq_true rfl⟩ (Nat.le_of_ble_eq_true rfl) rfl rfl dX7_readsParts_66 (fun r16 μ17 => ?_)
      change Zw g ΛM enV RX7 cX7_readsParts 4 none rX7_readsParts 69 [(0, .ref (g.2.2.1 0)), (1, .int a1)] [.int r16, .int (((2 : Int32) * (μ5.1 0 19)) + (1 : Int32)), .ref (g.2.2.1 12)] μ17 _
      refine z_iastore_g (pc := 69) ltM_12 kdM_12 dX7_readsParts_69 ?_
      refine z_goto (pc := 70) (tgt := 104) dX7_readsParts_70 (by decide) ?_
      exact z_vret dX7_readsParts_104
def f_X7_readsOrder (μ : Mm) : Option (Unit × Mm) := if zin (μ.1 0 17) 150 then (bd (f_X7_manyOf (μ.1 5 ((μ.1 0 17).toNatClampNeg)) μ) fun r1 μ2 => if 0 ≤ r1 then (bd (f_X7_readsParts (μ.1 5 ((μ.1 0 17).toNatClampNeg)) r1 (si (si μ2 0 18 (0 : Int32)) 0 17 ((μ2.1 0 17) + (1 : Int32)))) fun r4 μ5 => if (μ5.1 0 18) = 0 then (bd (f_X7_blanks μ5) fun r8 μ9 => bd (f_X7_isAt (59 : Int32) (59 : Int32) μ9) fun r10 μ11 => if r10 = 0 then (some ((), (si (si μ11 0 18 (1 : Int32)) 0 17 ((μ11.1 0 17) + (0 : Int32))))) else (if zin (μ11.1 0 19) 76 then (some ((), (si (si (si (si μ11 0 18 (0 : Int32)) 0 17 ((μ11.1 0 17) + (1 : Int32))) 11 ((μ11.1 0 19).toNatClampNeg) (μ.1 5 ((μ.1 0 17).toNatClampNeg))) 0 19 ((μ11.1 0 19) + (1 : Int32))))) else none)) else (if (μ5.1 0 18) = 0 then (if zin (μ5.1 0 19) 76 then (some ((), (si (si μ5 11 ((μ5.1 0 19).toNatClampNeg) (μ.1 5 ((μ.1 0 17).toNatClampNeg))) 0 19 ((μ5.1 0 19) + (1 : Int32))))) else none) else (some ((), μ5)))) else (bd (f_X7_readsParts (μ.1 5 ((μ.1 0 17).toNatClampNeg)) r1 (si (si μ2 0 18 (1 : Int32)) 0 17 ((μ2.1 0 17) + (0 : Int32)))) fun r13 μ14 => if (μ14.1 0 18) = 0 then (bd (f_X7_blanks μ14) fun r17 μ18 => bd (f_X7_isAt (59 : Int32) (59 : Int32) μ18) fun r19 μ20 => if r19 = 0 then (some ((), (si (si μ20 0 18 (1 : Int32)) 0 17 ((μ20.1 0 17) + (0 : Int32))))) else (if zin (μ20.1 0 19) 76 then (some ((), (si (si (si (si μ20 0 18 (0 : Int32)) 0 17 ((μ20.1 0 17) + (1 : Int32))) 11 ((μ20.1 0 19).toNatClampNeg) (μ.1 5 ((μ.1 0 17).toNatClampNeg))) 0 19 ((μ20.1 0 19) + (1 : Int32))))) else none)) else (if (μ14.1 0 18) = 0 then (if zin (μ14.1 0 19) 76 then (some ((), (si (si μ14 11 ((μ14.1 0 19).toNatClampNeg) (μ.1 5 ((μ.1 0 17).toNatClampNeg))) 0 19 ((μ14.1 0 19) + (1 : Int32))))) else none) else (some ((), μ14))))) else none
theorem m_X7_readsOrder (g : Gx) (μ : Mm) : Zm g ΛM enV yX7_readsOrder cX7_readsOrder 3 none rX7_readsOrder [.ref (g.2.2.1 0)] μ (f_X7_readsOrder μ) := by
  refine z_met (by decide +kernel) (Nat.le_of_ble_eq_true rfl) ?_
  change Zw g ΛM enV RX7 cX7_readsOrder 3 none rX7_readsOrder 0 [(0, .ref (g.2.2.1 0))] [] μ (f_X7_readsOrder μ)
  rw [f_X7_readsOrder]
  refine z_aload_n (pc := 0) 0 dX7_readsOrder_0 rfl rfl ?_
  refine z_get (pc := 1) (v := .ref (g.2.2.1 5)) flX7_22 jnX7 ltM_0 kdM_0 rfl (by decide) rfl foM_0_5 rfl dX7_readsOrder_1 ?_
  refine z_aload_n (pc := 4) 0 dX7_readsOrder_4 rfl rfl ?_
  refine z_get (pc := 5) (v := .int (μ.1 0 17)) flX7_226 jnX7 ltM_0 kdM_0 rfl (by decide) rfl foM_0_17 rfl dX7_readsOrder_5 ?_
  refine z_iaload_g (pc := 8) ltM_5 kdM_5 dX7_readsOrder_8 ?_
  refine z_istore_n (pc := 9) (lv2 := [(0, .ref (g.2.2.1 0)), (1, .int (μ.1 5 ((μ.1 0 17).toNatClampNeg)))]) [1, 0] dX7_readsOrder_9 rfl (by decide) rfl ?_
  refine z_iload_n (pc := 10) 1 dX7_readsOrder_10 rfl rfl ?_
  refine z_callS (pc := 11) (As := [.int (μ.1 5 ((μ.1 0 17).toNatClampNeg))]) (rest := []) kX7_247 (m_X7_manyOf g μ (μ.1 5 ((μ.1 0 17).toNatClampNeg))) ⟨rfl, rfl⟩ ⟨Nat.le_of_ble_eq_true rfl, Nat.le_of_ble_eq_true rfl⟩ (Nat.le_of_ble_eq_true rfl) rfl rfl dX7_readsOrder_11 (fun r1 μ2 => ?_)
  change Zw g ΛM enV RX7 cX7_readsOrder 3 none rX7_readsOrder 14 [(0, .ref (g.2.2.1 0)), (1, .int (μ.1 5 ((μ.1 0 17).toNatClampNeg)))] [.int r1] μ2 _
  refine z_istore_n (pc := 14) (lv2 := [(0, .ref (g.2.2.1 0)), (1, .int (μ.1 5 ((μ.1 0 17).toNatClampNeg))), (2, .int r1)]) [1, 2, 0] dX7_readsOrder_14 rfl (by decide) rfl ?_
  refine z_aload_n (pc := 15) 0 dX7_readsOrder_15 rfl rfl ?_
  refine z_iload_n (pc := 16) 2 dX7_readsOrder_16 rfl rfl ?_
  refine z_if_ge (pc := 17) (tgt := 24) dX7_readsOrder_17 (by decide) (fun h3 => ?_) (fun h3 => ?_)
  · refine z_iconst (pc := 24) (v := 0) dX7_readsOrder_24 rfl ?_
    refine z_puti (x := (0, 0)) (pc := 25) flX7_235 jnX7 tyX7 tyX7_ok nmX7 ltM_0 kdM_0 rfl (by decide) rfl foM_0_18 rfl (zb_n (by decide)) dX7_readsOrder_25 ?_
    refine z_aload_n (pc := 28) 0 dX7_readsOrder_28 rfl rfl ?_
    refine z_dup (pc := 29) dX7_readsOrder_29 rfl ?_
    refine z_get (pc := 30) (v := .int (μ2.1 0 17)) flX7_226 jnX7 ltM_0 kdM_0 rfl (by decide) rfl foM_0_17 rfl dX7_readsOrder_30 ?_
    refine z_aload_n (pc := 33) 0 dX7_readsOrder_33 rfl rfl ?_
    refine z_get (pc := 34) (v := .int (0 : Int32)) flX7_235 jnX7 ltM_0 kdM_0 rfl (by decide) rfl foM_0_18 rfl dX7_readsOrder_34 ?_
    refine z_if_eq_y (pc := 37) (tgt := 44) dX7_readsOrder_37 (by decide) (by decide +kernel) ?_
    refine z_iconst (pc := 44) (v := 1) dX7_readsOrder_44 rfl ?_
    refine z_iadd (pc := 45) dX7_readsOrder_45 ?_
    refine z_puti (x := (0, 0)) (pc := 46) flX7_226 jnX7 tyX7 tyX7_ok nmX7 ltM_0 kdM_0 rfl (by decide) rfl foM_0_17 rfl ⟨rfl, rfl⟩ dX7_readsOrder_46 ?_
    refine z_aload_n (pc := 49) 0 dX7_readsOrder_49 rfl rfl ?_
    refine z_iload_n (pc := 50) 1 dX7_readsOrder_50 rfl rfl ?_
    refine z_iload_n (pc := 51) 2 dX7_readsOrder_51 rfl rfl ?_
    refine z_callV (pc := 52) (b := 0) (As := [.int (μ.1 5 ((μ.1 0 17).toNatClampNeg)), .int r1]) (rest := []) kX7_250 (m_X7_readsParts g (si (si μ2 0 18 (0 : Int32)) 0 17 ((μ2.1 0 17) + (1 : Int32))) (μ.1 5 ((μ.1 0 17).toNatClampNeg)) r1) ltM_0 kdM_0 rfl rfl ⟨rfl, rfl⟩ ⟨Nat.le_of_ble_eq_true rfl, Nat.le_of_ble_eq_true rfl⟩ (Nat.le_of_ble_eq_true rfl) rfl rfl dX7_readsOrder_52 (fun r4 μ5 => ?_)
    change Zw g ΛM enV RX7 cX7_readsOrder 3 none rX7_readsOrder 55 [(0, .ref (g.2.2.1 0)), (1, .int (μ.1 5 ((μ.1 0 17).toNatClampNeg))), (2, .int r1)] [] μ5 _
    refine z_aload_n (pc := 55) 0 dX7_readsOrder_55 rfl rfl ?_
    refine z_get (pc := 56) (v := .int (μ5.1 0 18)) flX7_235 jnX7 ltM_0 kdM_0 rfl (by decide) rfl foM_0_18 rfl dX7_readsOrder_56 ?_
    refine z_if_ne (pc := 59) (tgt := 107) dX7_readsOrder_59 (by decide) (fun h6 => ?_) (fun h6 => ?_)
    · refine z_aload_n (pc := 107) 0 dX7_readsOrder_107 rfl rfl ?_
      refine z_get (pc := 108) (v := .int (μ5.1 0 18)) flX7_235 jnX7 ltM_0 kdM_0 rfl (by decide) rfl foM_0_18 rfl dX7_readsOrder_108 ?_
      refine z_if_ne (pc := 111) (tgt := 134) dX7_readsOrder_111 (by decide) (fun h7 => ?_) (fun h7 => ?_)
      · exact z_vret dX7_readsOrder_134
      · refine z_aload_n (pc := 114) 0 dX7_readsOrder_114 rfl rfl ?_
        refine z_get (pc := 115) (v := .ref (g.2.2.1 11)) flX7_41 jnX7 ltM_0 kdM_0 rfl (by decide) rfl foM_0_20 rfl dX7_readsOrder_115 ?_
        refine z_aload_n (pc := 118) 0 dX7_readsOrder_118 rfl rfl ?_
        refine z_get (pc := 119) (v := .int (μ5.1 0 19)) flX7_238 jnX7 ltM_0 kdM_0 rfl (by decide) rfl foM_0_19 rfl dX7_readsOrder_119 ?_
        refine z_iload_n (pc := 122) 1 dX7_readsOrder_122 rfl rfl ?_
        refine z_iastore_g (pc := 123) ltM_11 kdM_11 dX7_readsOrder_123 ?_
        refine z_aload_n (pc := 124) 0 dX7_readsOrder_124 rfl rfl ?_
        refine z_dup (pc := 125) dX7_readsOrder_125 rfl ?_
        refine z_get (pc := 126) (v := .int (μ5.1 0 19)) flX7_238 jnX7 ltM_0 kdM_0 rfl (by decide) rfl foM_0_19 rfl dX7_readsOrder_126 ?_
        refine z_iconst (pc := 129) (v := 1) dX7_readsOrder_129 rfl ?_
        refine z_iadd (pc := 130) dX7_readsOrder_130 ?_
        refine z_puti (x := (0, 0)) (pc := 131) flX7_238 jnX7 tyX7 tyX7_ok nmX7 ltM_0 kdM_0 rfl (by decide) rfl foM_0_19 rfl ⟨rfl, rfl⟩ dX7_readsOrder_131 ?_
        exact z_vret dX7_readsOrder_134
    · refine z_aload_n (pc := 62) 0 dX7_readsOrder_62 rfl rfl ?_
      refine z_callV (pc := 63) (b := 0) (As := []) (rest := []) kX7_232 (m_X7_blanks g μ5) ltM_0 kdM_0 rfl rfl ⟨rfl, rfl⟩ ⟨Nat.le_of_ble_eq_true rfl, Nat.le_of_ble_eq_true rfl⟩ (Nat.le_of_ble_eq_true rfl) rfl rfl dX7_readsOrder_63 (fun r8 μ9 => ?_)
      change Zw g ΛM enV RX7 cX7_readsOrder 3 none rX7_readsOrder 66 [(0, .ref (g.2.2.1 0)), (1, .int (μ.1 5 ((μ.1 0 17).toNatClampNeg))), (2, .int r1)] [] μ9 _
      refine z_aload_n (pc := 66) 0 dX7_readsOrder_66 rfl rfl ?_
      refine z_aload_n (pc := 67) 0 dX7_readsOrder_67 rfl rfl ?_
      refine z_bipush (pc := 68) (v := 59) dX7_readsOrder_68 (by decide +kernel) ?_
      refine z_bipush (pc := 70) (v := 59) dX7_readsOrder_70 (by decide +kernel) ?_
      refine z_callV (pc := 72) (b := 0) (As := [.int (59 : Int32), .int (59 : Int32)]) (rest := [.ref (g.2.2.1 0)]) kX7_229 (m_X7_isAt g μ9 (59 : Int32) (59 : Int32)) ltM_0 kdM_0 rfl rfl ⟨rfl, rfl⟩ ⟨Nat.le_of_ble_eq_true rfl, Nat.le_of_ble_eq_true rfl⟩ (Nat.le_of_ble_eq_true rfl) rfl rfl dX7_readsOrder_72 (fun r10 μ11 => ?_)
      change Zw g ΛM enV RX7 cX7_readsOrder 3 none rX7_readsOrder 75 [(0, .ref (g.2.2.1 0)), (1, .int (μ.1 5 ((μ.1 0 17).toNatClampNeg))), (2, .int r1)] [.int r10, .ref (g.2.2.1 0)] μ11 _
      refine z_if_ne (pc := 75) (tgt := 82) dX7_readsOrder_75 (by decide) (fun h12 => ?_) (fun h12 => ?_)
      · refine z_iconst (pc := 82) (v := 0) dX7_readsOrder_82 rfl ?_
        refine z_puti (x := (0, 0)) (pc := 83) flX7_235 jnX7 tyX7 tyX7_ok nmX7 ltM_0 kdM_0 rfl (by decide) rfl foM_0_18 rfl (zb_n (by decide)) dX7_readsOrder_83 ?_
        refine z_aload_n (pc := 86) 0 dX7_readsOrder_86 rfl rfl ?_
        refine z_dup (pc := 87) dX7_readsOrder_87 rfl ?_
        refine z_get (pc := 88) (v := .int (μ11.1 0 17)) flX7_226 jnX7 ltM_0 kdM_0 rfl (by decide) rfl foM_0_17 rfl dX7_readsOrder_88 ?_
        refine z_aload_n (pc := 91) 0 dX7_readsOrder_91 rfl rfl ?_
        refine z_get (pc := 92) (v := .int (0 : Int32)) flX7_235 jnX7 ltM_0 kdM_0 rfl (by decide) rfl foM_0_18 rfl dX7_readsOrder_92 ?_
        refine z_if_eq_y (pc := 95) (tgt := 102) dX7_readsOrder_95 (by decide) (by decide +kernel) ?_
        refine z_iconst (pc := 102) (v := 1) dX7_readsOrder_102 rfl ?_
        refine z_iadd (pc := 103) dX7_readsOrder_103 ?_
        refine z_puti (x := (0, 0)) (pc := 104) flX7_226 jnX7 tyX7 tyX7_ok nmX7 ltM_0 kdM_0 rfl (by decide) rfl foM_0_17 rfl ⟨rfl, rfl⟩ dX7_readsOrder_104 ?_
        refine z_aload_n (pc := 107) 0 dX7_readsOrder_107 rfl rfl ?_
        refine z_get (pc := 108) (v := .int (0 : Int32)) flX7_235 jnX7 ltM_0 kdM_0 rfl (by decide) rfl foM_0_18 rfl dX7_readsOrder_108 ?_
        refine z_if_ne_x (pc := 111) (tgt := 134) dX7_readsOrder_111 (by decide) (by decide +kernel) ?_
        refine z_aload_n (pc := 114) 0 dX7_readsOrder_114 rfl rfl ?_
        refine z_get (pc := 115) (v := .ref (g.2.2.1 11)) flX7_41 jnX7 ltM_0 kdM_0 rfl (by decide) rfl foM_0_20 rfl dX7_readsOrder_115 ?_
        refine z_aload_n (pc := 118) 0 dX7_readsOrder_118 rfl rfl ?_
        refine z_get (pc := 119) (v := .int (μ11.1 0 19)) flX7_238 jnX7 ltM_0 kdM_0 rfl (by decide) rfl foM_0_19 rfl dX7_readsOrder_119 ?_
        refine z_iload_n (pc := 122) 1 dX7_readsOrder_122 rfl rfl ?_
        refine z_iastore_g (pc := 123) ltM_11 kdM_11 dX7_readsOrder_123 ?_
        refine z_aload_n (pc := 124) 0 dX7_readsOrder_124 rfl rfl ?_
        refine z_dup (pc := 125) dX7_readsOrder_125 rfl ?_
        refine z_get (pc := 126) (v := .int (μ11.1 0 19)) flX7_238 jnX7 ltM_0 kdM_0 rfl (by decide) rfl foM_0_19 rfl dX7_readsOrder_126 ?_
        refine z_iconst (pc := 129) (v := 1) dX7_readsOrder_129 rfl ?_
        refine z_iadd (pc := 130) dX7_readsOrder_130 ?_
        refine z_puti (x := (0, 0)) (pc := 131) flX7_238 jnX7 tyX7 tyX7_ok nmX7 ltM_0 kdM_0 rfl (by decide) rfl foM_0_19 rfl ⟨rfl, rfl⟩ dX7_readsOrder_131 ?_
        exact z_vret dX7_readsOrder_134
      · refine z_iconst (pc := 78) (v := 1) dX7_readsOrder_78 rfl ?_
        refine z_goto (pc := 79) (tgt := 83) dX7_readsOrder_79 (by decide) ?_
        refine z_puti (x := (0, 0)) (pc := 83) flX7_235 jnX7 tyX7 tyX7_ok nmX7 ltM_0 kdM_0 rfl (by decide) rfl foM_0_18 rfl (zb_n (by decide)) dX7_readsOrder_83 ?_
        refine z_aload_n (pc := 86) 0 dX7_readsOrder_86 rfl rfl ?_
        refine z_dup (pc := 87) dX7_readsOrder_87 rfl ?_
        refine z_get (pc := 88) (v := .int (μ11.1 0 17)) flX7_226 jnX7 ltM_0 kdM_0 rfl (by decide) rfl foM_0_17 rfl dX7_readsOrder_88 ?_
        refine z_aload_n (pc := 91) 0 dX7_readsOrder_91 rfl rfl ?_
        refine z_get (pc := 92) (v := .int (1 : Int32)) flX7_235 jnX7 ltM_0 kdM_0 rfl (by decide) rfl foM_0_18 rfl dX7_readsOrder_92 ?_
        refine z_if_eq_x (pc := 95) (tgt := 102) dX7_readsOrder_95 (by decide) (by decide +kernel) ?_
        refine z_iconst (pc := 98) (v := 0) dX7_readsOrder_98 rfl ?_
        refine z_goto (pc := 99) (tgt := 103) dX7_readsOrder_99 (by decide) ?_
        refine z_iadd (pc := 103) dX7_readsOrder_103 ?_
        refine z_puti (x := (0, 0)) (pc := 104) flX7_226 jnX7 tyX7 tyX7_ok nmX7 ltM_0 kdM_0 rfl (by decide) rfl foM_0_17 rfl ⟨rfl, rfl⟩ dX7_readsOrder_104 ?_
        refine z_aload_n (pc := 107) 0 dX7_readsOrder_107 rfl rfl ?_
        refine z_get (pc := 108) (v := .int (1 : Int32)) flX7_235 jnX7 ltM_0 kdM_0 rfl (by decide) rfl foM_0_18 rfl dX7_readsOrder_108 ?_
        refine z_if_ne_y (pc := 111) (tgt := 134) dX7_readsOrder_111 (by decide) (by decide +kernel) ?_
        exact z_vret dX7_readsOrder_134
  · refine z_iconst (pc := 20) (v := 1) dX7_readsOrder_20 rfl ?_
    refine z_goto (pc := 21) (tgt := 25) dX7_readsOrder_21 (by decide) ?_
    refine z_puti (x := (0, 0)) (pc := 25) flX7_235 jnX7 tyX7 tyX7_ok nmX7 ltM_0 kdM_0 rfl (by decide) rfl foM_0_18 rfl (zb_n (by decide)) dX7_readsOrder_25 ?_
    refine z_aload_n (pc := 28) 0 dX7_readsOrder_28 rfl rfl ?_
    refine z_dup (pc := 29) dX7_readsOrder_29 rfl ?_
    refine z_get (pc := 30) (v := .int (μ2.1 0 17)) flX7_226 jnX7 ltM_0 kdM_0 rfl (by decide) rfl foM_0_17 rfl dX7_readsOrder_30 ?_
    refine z_aload_n (pc := 33) 0 dX7_readsOrder_33 rfl rfl ?_
    refine z_get (pc := 34) (v := .int (1 : Int32)) flX7_235 jnX7 ltM_0 kdM_0 rfl (by decide) rfl foM_0_18 rfl dX7_readsOrder_34 ?_
    refine z_if_eq_x (pc := 37) (tgt := 44) dX7_readsOrder_37 (by decide) (by decide +kernel) ?_
    refine z_iconst (pc := 40) (v := 0) dX7_readsOrder_40 rfl ?_
    refine z_goto (pc := 41) (tgt := 45) dX7_readsOrder_41 (by decide) ?_
    refine z_iadd (pc := 45) dX7_readsOrder_45 ?_
    refine z_puti (x := (0, 0)) (pc := 46) flX7_226 jnX7 tyX7 tyX7_ok nmX7 ltM_0 kdM_0 rfl (by decide) rfl foM_0_17 rfl ⟨rfl, rfl⟩ dX7_readsOrder_46 ?_
    refine z_aload_n (pc := 49) 0 dX7_readsOrder_49 rfl rfl ?_
    refine z_iload_n (pc := 50) 1 dX7_readsOrder_50 rfl rfl ?_
    refine z_iload_n (pc := 51) 2 dX7_readsOrder_51 rfl rfl ?_
    refine z_callV (pc := 52) (b := 0) (As := [.int (μ.1 5 ((μ.1 0 17).toNatClampNeg)), .int r1]) (rest := []) kX7_250 (m_X7_readsParts g (si (si μ2 0 18 (1 : Int32)) 0 17 ((μ2.1 0 17) + (0 : Int32))) (μ.1 5 ((μ.1 0 17).toNatClampNeg)) r1) ltM_0 kdM_0 rfl rfl ⟨rfl, rfl⟩ ⟨Nat.le_of_ble_eq_true rfl, Nat.le_of_ble_eq_true rfl⟩ (Nat.le_of_ble_eq_true rfl) rfl rfl dX7_readsOrder_52 (fun r13 μ14 => ?_)
    change Zw g ΛM enV RX7 cX7_readsOrder 3 none rX7_readsOrder 55 [(0, .ref (g.2.2.1 0)), (1, .int (μ.1 5 ((μ.1 0 17).toNatClampNeg))), (2, .int r1)] [] μ14 _
    refine z_aload_n (pc := 55) 0 dX7_readsOrder_55 rfl rfl ?_
    refine z_get (pc := 56) (v := .int (μ14.1 0 18)) flX7_235 jnX7 ltM_0 kdM_0 rfl (by decide) rfl foM_0_18 rfl dX7_readsOrder_56 ?_
    refine z_if_ne (pc := 59) (tgt := 107) dX7_readsOrder_59 (by decide) (fun h15 => ?_) (fun h15 => ?_)
    · refine z_aload_n (pc := 107) 0 dX7_readsOrder_107 rfl rfl ?_
      refine z_get (pc := 108) (v := .int (μ14.1 0 18)) flX7_235 jnX7 ltM_0 kdM_0 rfl (by decide) rfl foM_0_18 rfl dX7_readsOrder_108 ?_
      refine z_if_ne (pc := 111) (tgt := 134) dX7_readsOrder_111 (by decide) (fun h16 => ?_) (fun h16 => ?_)
      · exact z_vret dX7_readsOrder_134
      · refine z_aload_n (pc := 114) 0 dX7_readsOrder_114 rfl rfl ?_
        refine z_get (pc := 115) (v := .ref (g.2.2.1 11)) flX7_41 jnX7 ltM_0 kdM_0 rfl (by decide) rfl foM_0_20 rfl dX7_readsOrder_115 ?_
        refine z_aload_n (pc := 118) 0 dX7_readsOrder_118 rfl rfl ?_
        refine z_get (pc := 119) (v := .int (μ14.1 0 19)) flX7_238 jnX7 ltM_0 kdM_0 rfl (by decide) rfl foM_0_19 rfl dX7_readsOrder_119 ?_
        refine z_iload_n (pc := 122) 1 dX7_readsOrder_122 rfl rfl ?_
        refine z_iastore_g (pc := 123) ltM_11 kdM_11 dX7_readsOrder_123 ?_
        refine z_aload_n (pc := 124) 0 dX7_readsOrder_124 rfl rfl ?_
        refine z_dup (pc := 125) dX7_readsOrder_125 rfl ?_
        refine z_get (pc := 126) (v := .int (μ14.1 0 19)) flX7_238 jnX7 ltM_0 kdM_0 rfl (by decide) rfl foM_0_19 rfl dX7_readsOrder_126 ?_
        refine z_iconst (pc := 129) (v := 1) dX7_readsOrder_129 rfl ?_
        refine z_iadd (pc := 130) dX7_readsOrder_130 ?_
        refine z_puti (x := (0, 0)) (pc := 131) flX7_238 jnX7 tyX7 tyX7_ok nmX7 ltM_0 kdM_0 rfl (by decide) rfl foM_0_19 rfl ⟨rfl, rfl⟩ dX7_readsOrder_131 ?_
        exact z_vret dX7_readsOrder_134
    · refine z_aload_n (pc := 62) 0 dX7_readsOrder_62 rfl rfl ?_
      refine z_callV (pc := 63) (b := 0) (As := []) (rest := []) kX7_232 (m_X7_blanks g μ14) ltM_0 kdM_0 rfl rfl ⟨rfl, rfl⟩ ⟨Nat.le_of_ble_eq_true rfl, Nat.le_of_ble_eq_true rfl⟩ (Nat.le_of_ble_eq_true rfl) rfl rfl dX7_readsOrder_63 (fun r17 μ18 => ?_)
      change Zw g ΛM enV RX7 cX7_readsOrder 3 none rX7_readsOrder 66 [(0, .ref (g.2.2.1 0)), (1, .int (μ.1 5 ((μ.1 0 17).toNatClampNeg))), (2, .int r1)] [] μ18 _
      refine z_aload_n (pc := 66) 0 dX7_readsOrder_66 rfl rfl ?_
      refine z_aload_n (pc := 67) 0 dX7_readsOrder_67 rfl rfl ?_
      refine z_bipush (pc := 68) (v := 59) dX7_readsOrder_68 (by decide +kernel) ?_
      refine z_bipush (pc := 70) (v := 59) dX7_readsOrder_70 (by decide +kernel) ?_
      refine z_callV (pc := 72) (b := 0) (As := [.int (59 : Int32), .int (59 : Int32)]) (rest := [.ref (g.2.2.1 0)]) kX7_229 (m_X7_isAt g μ18 (59 : Int32) (59 : Int32)) ltM_0 kdM_0 rfl rfl ⟨rfl, rfl⟩ ⟨Nat.le_of_ble_eq_true rfl, Nat.le_of_ble_eq_true rfl⟩ (Nat.le_of_ble_eq_true rfl) rfl rfl dX7_readsOrder_72 (fun r19 μ20 => ?_)
      change Zw g ΛM enV RX7 cX7_readsOrder 3 none rX7_readsOrder 75 [(0, .ref (g.2.2.1 0)), (1, .int (μ.1 5 ((μ.1 0 17).toNatClampNeg))), (2, .int r1)] [.int r19, .ref (g.2.2.1 0)] μ20 _
      refine z_if_ne (pc := 75) (tgt := 82) dX7_readsOrder_75 (by decide) (fun h21 => ?_) (fun h21 => ?_)
      · refine z_iconst (pc := 82) (v := 0) dX7_readsOrder_82 rfl ?_
        refine z_puti (x := (0, 0)) (pc := 83) flX7_235 jnX7 tyX7 tyX7_ok nmX7 ltM_0 kdM_0 rfl (by decide) rfl foM_0_18 rfl (zb_n (by decide)) dX7_readsOrder_83 ?_
        refine z_aload_n (pc := 86) 0 dX7_readsOrder_86 rfl rfl ?_
        refine z_dup (pc := 87) dX7_readsOrder_87 rfl ?_
        refine z_get (pc := 88) (v := .int (μ20.1 0 17)) flX7_226 jnX7 ltM_0 kdM_0 rfl (by decide) rfl foM_0_17 rfl dX7_readsOrder_88 ?_
        refine z_aload_n (pc := 91) 0 dX7_readsOrder_91 rfl rfl ?_
        refine z_get (pc := 92) (v := .int (0 : Int32)) flX7_235 jnX7 ltM_0 kdM_0 rfl (by decide) rfl foM_0_18 rfl dX7_readsOrder_92 ?_
        refine z_if_eq_y (pc := 95) (tgt := 102) dX7_readsOrder_95 (by decide) (by decide +kernel) ?_
        refine z_iconst (pc := 102) (v := 1) dX7_readsOrder_102 rfl ?_
        refine z_iadd (pc := 103) dX7_readsOrder_103 ?_
        refine z_puti (x := (0, 0)) (pc := 104) flX7_226 jnX7 tyX7 tyX7_ok nmX7 ltM_0 kdM_0 rfl (by decide) rfl foM_0_17 rfl ⟨rfl, rfl⟩ dX7_readsOrder_104 ?_
        refine z_aload_n (pc := 107) 0 dX7_readsOrder_107 rfl rfl ?_
        refine z_get (pc := 108) (v := .int (0 : Int32)) flX7_235 jnX7 ltM_0 kdM_0 rfl (by decide) rfl foM_0_18 rfl dX7_readsOrder_108 ?_
        refine z_if_ne_x (pc := 111) (tgt := 134) dX7_readsOrder_111 (by decide) (by decide +kernel) ?_
        refine z_aload_n (pc := 114) 0 dX7_readsOrder_114 rfl rfl ?_
        refine z_get (pc := 115) (v := .ref (g.2.2.1 11)) flX7_41 jnX7 ltM_0 kdM_0 rfl (by decide) rfl foM_0_20 rfl dX7_readsOrder_115 ?_
        refine z_aload_n (pc := 118) 0 dX7_readsOrder_118 rfl rfl ?_
        refine z_get (pc := 119) (v := .int (μ20.1 0 19)) flX7_238 jnX7 ltM_0 kdM_0 rfl (by decide) rfl foM_0_19 rfl dX7_readsOrder_119 ?_
        refine z_iload_n (pc := 122) 1 dX7_readsOrder_122 rfl rfl ?_
        refine z_iastore_g (pc := 123) ltM_11 kdM_11 dX7_readsOrder_123 ?_
        refine z_aload_n (pc := 124) 0 dX7_readsOrder_124 rfl rfl ?_
        refine z_dup (pc := 125) dX7_readsOrder_125 rfl ?_
        refine z_get (pc := 126) (v := .int (μ20.1 0 19)) flX7_238 jnX7 ltM_0 kdM_0 rfl (by decide) rfl foM_0_19 rfl dX7_readsOrder_126 ?_
        refine z_iconst (pc := 129) (v := 1) dX7_readsOrder_129 rfl ?_
        refine z_iadd (pc := 130) dX7_readsOrder_130 ?_
        refine z_puti (x := (0, 0)) (pc := 131) flX7_238 jnX7 tyX7 tyX7_ok nmX7 ltM_0 kdM_0 rfl (by decide) rfl foM_0_19 rfl ⟨rfl, rfl⟩ dX7_readsOrder_131 ?_
        exact z_vret dX7_readsOrder_134
      · refine z_iconst (pc := 78) (v := 1) dX7_readsOrder_78 rfl ?_
        refine z_goto (pc := 79) (tgt := 83) dX7_readsOrder_79 (by decide) ?_
        refine z_puti (x := (0, 0)) (pc := 83) flX7_235 jnX7 tyX7 tyX7_ok nmX7 ltM_0 kdM_0 rfl (by decide) rfl foM_0_18 rfl (zb_n (by decide)) dX7_readsOrder_83 ?_
        refine z_aload_n (pc := 86) 0 dX7_readsOrder_86 rfl rfl ?_
        refine z_dup (pc := 87) dX7_readsOrder_87 rfl ?_
        refine z_get (pc := 88) (v := .int (μ20.1 0 17)) flX7_226 jnX7 ltM_0 kdM_0 rfl (by decide) rfl foM_0_17 rfl dX7_readsOrder_88 ?_
        refine z_aload_n (pc := 91) 0 dX7_readsOrder_91 rfl rfl ?_
        refine z_get (pc := 92) (v := .int (1 : Int32)) flX7_235 jnX7 ltM_0 kdM_0 rfl (by decide) rfl foM_0_18 rfl dX7_readsOrder_92 ?_
        refine z_if_eq_x (pc := 95) (tgt := 102) dX7_readsOrder_95 (by decide) (by decide +kernel) ?_
        refine z_iconst (pc := 98) (v := 0) dX7_readsOrder_98 rfl ?_
        refine z_goto (pc := 99) (tgt := 103) dX7_readsOrder_99 (by decide) ?_
        refine z_iadd (pc := 103) dX7_readsOrder_103 ?_
        refine z_puti (x := (0, 0)) (pc := 104) flX7_226 jnX7 tyX7 tyX7_ok nmX7 ltM_0 kdM_0 rfl (by decide) rfl foM_0_17 rfl ⟨rfl, rfl⟩ dX7_readsOrder_104 ?_
        refine z_aload_n (pc := 107) 0 dX7_readsOrder_107 rfl rfl ?_
        refine z_get (pc := 108) (v := .int (1 : Int32)) flX7_235 jnX7 ltM_0 kdM_0 rfl (by decide) rfl foM_0_18 rfl dX7_readsOrder_108 ?_
        refine z_if_ne_y (pc := 111) (tgt := 134) dX7_readsOrder_111 (by decide) (by decide +kernel) ?_
        exact z_vret dX7_readsOrder_134
