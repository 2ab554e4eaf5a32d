def lp_X5_readLetters_61 (c1 : Int32) (c2 : Int32) : Nat → Mm → (Mm → Option (Int32 × Mm)) → Option (Int32 × Mm)
  | 0, _, _ => none
  | n + 1, μ, k => bd (f_X5_byteHere μ) fun r6 μ7 => bd (f_X6_within r6 (97 : Int32) (104 : Int32) μ7) fun r8 μ9 => if r8 = 0 then (k  μ9) else (if c2 ≤ (μ9.1 78 6) then (k  μ9) else (bd (f_X5_byteHere (si μ9 78 6 ((μ9.1 78 6) + (1 : Int32)))) fun r12 μ13 => if zin (μ9.1 78 6) 40 then (lp_X5_readLetters_61 c1 c2 n  (si (si μ13 81 ((μ9.1 78 6).toNatClampNeg) ((r12 - (97 : Int32)) + (1 : Int32))) 78 2 ((μ13.1 78 2) + (1 : Int32))) k) else none))
theorem w_X5_readLetters_61 (g : Gx) (c1 : Int32) (c2 : Int32) : ∀ (n : Nat) (μ : Mm) (k : Mm → Option (Int32 × Mm)), (∀ (ν : Mm), Zw g ΛC enI RX5 cX5_readLetters 3 (some .boolean) rX5_readLetters 121 [(0, .ref (g.2.2.1 78)), (1, .int c1)] [] ν (k  ν)) → Zw g ΛC enI RX5 cX5_readLetters 3 (some .boolean) rX5_readLetters 61 [(0, .ref (g.2.2.1 78)), (1, .int c1), (2, .int c2)] [] μ (lp_X5_readLetters_61 c1 c2 n μ k) := by
  intro n
  induction n with
  | zero =>
    intro μ k hk
    exact z_none
  | succ n ih =>
    intro μ k hk
    rw [lp_X5_readLetters_61]
    refine z_aload_n (pc := 61) 0 dX5_readLetters_61 rfl rfl ?_
    refine z_callV (pc := 62) (b := 78) (As := []) (rest := []) kX5_43 (m_X5_byteHere g μ) ltC_78 kdC_78 rfl rfl ⟨rfl, rfl⟩ ⟨Nat.le_of_ble_eq_true rfl, Nat.le_of_ble_eq_true rfl⟩ (Nat.le_of_ble_eq_true rfl) rfl rfl dX5_readLetters_62 (fun r6 μ7 => ?_)
    change Zw g ΛC enI RX5 cX5_readLetters 3 (some .boolean) rX5_readLetters 65 [(0, .ref (g.2.2.1 78)), (1, .int c1), (2, .int c2)] [.int r6] μ7 _
    refine z_bipush (pc := 65) (v := 97) dX5_readLetters_65 (by decide +kernel) ?_
    refine z_bipush (pc := 67) (v := 104) dX5_readLetters_67 (by decide +kernel) ?_
    refine z_callSN (pc := 69) (As := [.int r6, .int (97 : Int32), .int (104 : Int32)]) (rest := []) kX5_22 (m_X6_within g μ7 r6 (97 : Int32) (104 : Int32)) ⟨rfl, rfl⟩ ⟨Nat.le_of_ble_eq_true rfl, Nat.le_of_ble_eq_true rfl⟩ (Nat.le_of_ble_eq_true rfl) rfl rfl dX5_readLetters_69 (fun r8 μ9 => ?_)
    change Zw g ΛC enI RX5 cX5_readLetters 3 (some .boolean) rX5_readLetters 72 [(0, .ref (g.2.2.1 78)), (1, .int c1), (2, .int c2)] [.int r8] μ9 _
    refine z_if_eq (pc := 72) (tgt := 121) dX5_readLetters_72 (by decide) (fun h10 => ?_) (fun h10 => ?_)
    · refine z_sub (lv2 := [(0, .ref (g.2.2.1 78)), (1, .int c1)]) [0, 1] rfl ?_
      exact hk _
    · refine z_aload_n (pc := 75) 0 dX5_readLetters_75 rfl rfl ?_
      refine z_get (pc := 76) (v := .int (μ9.1 78 6)) flX5_64 jnX5 ltC_78 kdC_78 rfl (by decide) rfl foC_78_6 rfl dX5_readLetters_76 ?_
      refine z_iload_n (pc := 79) 2 dX5_readLetters_79 rfl rfl ?_
      refine z_icmp_ge (pc := 80) (tgt := 121) dX5_readLetters_80 (by decide) (fun h11 => ?_) (fun h11 => ?_)
      · refine z_sub (lv2 := [(0, .ref (g.2.2.1 78)), (1, .int c1)]) [0, 1] rfl ?_
        exact hk _
      · refine z_aload_n (pc := 83) 0 dX5_readLetters_83 rfl rfl ?_
        refine z_get (pc := 84) (v := .ref (g.2.2.1 81)) flX5_19 jnX5 ltC_78 kdC_78 rfl (by decide) rfl foC_78_5 rfl dX5_readLetters_84 ?_
        refine z_aload_n (pc := 87) 0 dX5_readLetters_87 rfl rfl ?_
        refine z_dup (pc := 88) dX5_readLetters_88 rfl ?_
        refine z_get (pc := 89) (v := .int (μ9.1 78 6)) flX5_64 jnX5 ltC_78 kdC_78 rfl (by decide) rfl foC_78_6 rfl dX5_readLetters_89 ?_
        refine z_dup_x1 (pc := 92) dX5_readLetters_92 rfl rfl ?_
        refine z_iconst (pc := 93) (v := 1) dX5_readLetters_93 rfl ?_
        refine z_iadd (pc := 94) dX5_readLetters_94 ?_
        refine z_puti (x := (0, 0)) (pc := 95) flX5_64 jnX5 tyX5 tyX5_ok nmX5 ltC_78 kdC_78 rfl (by decide) rfl foC_78_6 rfl ⟨rfl, rfl⟩ dX5_readLetters_95 ?_
        refine z_aload_n (pc := 98) 0 dX5_readLetters_98 rfl rfl ?_
        refine z_callV (pc := 99) (b := 78) (As := []) (rest := [.int (μ9.1 78 6), .ref (g.2.2.1 81)]) kX5_43 (m_X5_byteHere g (si μ9 78 6 ((μ9.1 78 6) + (1 : Int32)))) ltC_78 kdC_78 rfl rfl ⟨rfl, rfl⟩ ⟨Nat.le_of_ble_eq_true rfl, Nat.le_of_ble_eq_true rfl⟩ (Nat.le_of_ble_eq_true rfl) rfl rfl dX5_readLetters_99 (fun r12 μ13 => ?_)
        change Zw g ΛC enI RX5 cX5_readLetters 3 (some .boolean) rX5_readLetters 102 [(0, .ref (g.2.2.1 78)), (1, .int c1), (2, .int c2)] [.int r12, .int (μ9.1 78 6), .ref (g.2.2.1 81)] μ13 _
        refine z_bipush (pc := 102) (v := 97) dX5_readLetters_102 (by decide +kernel) ?_
        refine z_isub (pc := 104) dX5_readLetters_104 ?_
        refine z_iconst (pc := 105) (v := 1) dX5_readLetters_105 rfl ?_
        refine z_iadd (pc := 106) dX5_readLetters_106 ?_
        refine z_iastore_g (pc := 107) ltC_81 kdC_81 dX5_readLetters_107 ?_
        refine z_aload_n (pc := 108) 0 dX5_readLetters_108 rfl rfl ?_
        refine z_dup (pc := 109) dX5_readLetters_109 rfl ?_
        refine z_get (pc := 110) (v := .int (μ13.1 78 2)) flX5_30 jnX5 ltC_78 kdC_78 rfl (by decide) rfl foC_78_2 rfl dX5_readLetters_110 ?_
        refine z_iconst (pc := 113) (v := 1) dX5_readLetters_113 rfl ?_
        refine z_iadd (pc := 114) dX5_readLetters_114 ?_
        refine z_puti (x := (0, 0)) (pc := 115) flX5_30 jnX5 tyX5 tyX5_ok nmX5 ltC_78 kdC_78 rfl (by decide) rfl foC_78_2 rfl ⟨rfl, rfl⟩ dX5_readLetters_115 ?_
        refine z_goto (pc := 118) (tgt := 61) dX5_readLetters_118 (by decide) ?_
        exact ih _ _ hk
def f_X5_readLetters (μ : Mm) : Option (Int32 × Mm) := if (μ.1 78 3) = (102 : Int32) then (if (μ.1 78 3) = (102 : Int32) then (if (μ.1 78 3) = (102 : Int32) then (bd (f_X5_skipBlanks (si μ 78 6 (0 : Int32))) fun r25 μ26 => lp_X5_readLetters_61 (1 : Int32) (6 : Int32) FU μ26 (fun  μ27 => if (μ27.1 78 6) < (1 : Int32) then (some ((0 : Int32), μ27)) else (some ((1 : Int32), μ27)))) else (bd (f_X5_skipBlanks (si μ 78 6 (0 : Int32))) fun r21 μ22 => lp_X5_readLetters_61 (1 : Int32) (40 : Int32) FU μ22 (fun  μ23 => if (μ23.1 78 6) < (1 : Int32) then (some ((0 : Int32), μ23)) else (some ((1 : Int32), μ23))))) else (if (μ.1 78 3) = (102 : Int32) then (bd (f_X5_skipBlanks (si μ 78 6 (0 : Int32))) fun r16 μ17 => lp_X5_readLetters_61 (0 : Int32) (6 : Int32) FU μ17 (fun  μ18 => if (μ18.1 78 6) < (0 : Int32) then (some ((0 : Int32), μ18)) else (some ((1 : Int32), μ18)))) else (bd (f_X5_skipBlanks (si μ 78 6 (0 : Int32))) fun r4 μ5 => lp_X5_readLetters_61 (0 : Int32) (40 : Int32) FU μ5 (fun  μ14 => if (μ14.1 78 6) < (0 : Int32) then (some ((0 : Int32), μ14)) else (some ((1 : Int32), μ14)))))) else (if (μ.1 78 3) = (108 : Int32) then (if (μ.1 78 3) = (102 : Int32) then (if (μ.1 78 3) = (102 : Int32) then (bd (f_X5_skipBlanks (si μ 78 6 (0 : Int32))) fun r45 μ46 => lp_X5_readLetters_61 (1 : Int32) (6 : Int32) FU μ46 (fun  μ47 => if (μ47.1 78 6) < (1 : Int32) then (some ((0 : Int32), μ47)) else (some ((1 : Int32), μ47)))) else (bd (f_X5_skipBlanks (si μ 78 6 (0 : Int32))) fun r41 μ42 => lp_X5_readLetters_61 (1 : Int32) (40 : Int32) FU μ42 (fun  μ43 => if (μ43.1 78 6) < (1 : Int32) then (some ((0 : Int32), μ43)) else (some ((1 : Int32), μ43))))) else (if (μ.1 78 3) = (102 : Int32) then (bd (f_X5_skipBlanks (si μ 78 6 (0 : Int32))) fun r36 μ37 => lp_X5_readLetters_61 (0 : Int32) (6 : Int32) FU μ37 (fun  μ38 => if (μ38.1 78 6) < (0 : Int32) then (some ((0 : Int32), μ38)) else (some ((1 : Int32), μ38)))) else (bd (f_X5_skipBlanks (si μ 78 6 (0 : Int32))) fun r32 μ33 => lp_X5_readLetters_61 (0 : Int32) (40 : Int32) FU μ33 (fun  μ34 => if (μ34.1 78 6) < (0 : Int32) then (some ((0 : Int32), μ34)) else (some ((1 : Int32), μ34)))))) else (some ((1 : Int32), (si μ 78 6 (0 : Int32)))))
theorem m_X5_readLetters (g : Gx) (μ : Mm) : Zm g ΛC enI yX5_readLetters cX5_readLetters 3 (some .boolean) rX5_readLetters [.ref (g.2.2.1 78)] μ (f_X5_readLetters μ) := by
  refine z_met (by decide +kernel) (Nat.le_of_ble_eq_true rfl) ?_
  change Zw g ΛC enI RX5 cX5_readLetters 3 (some .boolean) rX5_readLetters 0 [(0, .ref (g.2.2.1 78))] [] μ (f_X5_readLetters μ)
  rw [f_X5_readLetters]
  refine z_aload_n (pc := 0) 0 dX5_readLetters_0 rfl rfl ?_
  refine z_iconst (pc := 1) (v := 0) dX5_readLetters_1 rfl ?_
  refine z_puti (x := (0, 0)) (pc := 2) flX5_64 jnX5 tyX5 tyX5_ok nmX5 ltC_78 kdC_78 rfl (by decide) rfl foC_78_6 rfl ⟨rfl, rfl⟩ dX5_readLetters_2 ?_
  refine z_aload_n (pc := 5) 0 dX5_readLetters_5 rfl rfl ?_
  refine z_get (pc := 6) (v := .int (μ.1 78 3)) flX5_47 jnX5 ltC_78 kdC_78 rfl (by decide) rfl foC_78_3 rfl dX5_readLetters_6 ?_
  refine z_bipush (pc := 9) (v := 102) dX5_readLetters_9 (by decide +kernel) ?_
  refine z_icmp_eq (pc := 11) (tgt := 25) dX5_readLetters_11 (by decide) (fun h1 => ?_) (fun h1 => ?_)
  · refine z_aload_n (pc := 25) 0 dX5_readLetters_25 rfl rfl ?_
    refine z_get (pc := 26) (v := .int (μ.1 78 3)) flX5_47 jnX5 ltC_78 kdC_78 rfl (by decide) rfl foC_78_3 rfl dX5_readLetters_26 ?_
    refine z_bipush (pc := 29) (v := 102) dX5_readLetters_29 (by decide +kernel) ?_
    refine z_icmp_ne (pc := 31) (tgt := 38) dX5_readLetters_31 (by decide) (fun h2 => ?_) (fun h2 => ?_)
    · refine z_iconst (pc := 38) (v := 0) dX5_readLetters_38 rfl ?_
      refine z_istore_n (pc := 39) (lv2 := [(0, .ref (g.2.2.1 78)), (1, .int (0 : Int32))]) [1, 0] dX5_readLetters_39 rfl (by decide) rfl ?_
      refine z_aload_n (pc := 40) 0 dX5_readLetters_40 rfl rfl ?_
      refine z_get (pc := 41) (v := .int (μ.1 78 3)) flX5_47 jnX5 ltC_78 kdC_78 rfl (by decide) rfl foC_78_3 rfl dX5_readLetters_41 ?_
      refine z_bipush (pc := 44) (v := 102) dX5_readLetters_44 (by decide +kernel) ?_
      refine z_icmp_ne (pc := 46) (tgt := 54) dX5_readLetters_46 (by decide) (fun h3 => ?_) (fun h3 => ?_)
      · refine z_bipush (pc := 54) (v := 40) dX5_readLetters_54 (by decide +kernel) ?_
        refine z_istore_n (pc := 56) (lv2 := [(0, .ref (g.2.2.1 78)), (1, .int (0 : Int32)), (2, .int (40 : Int32))]) [1, 2, 0] dX5_readLetters_56 rfl (by decide) rfl ?_
        refine z_aload_n (pc := 57) 0 dX5_readLetters_57 rfl rfl ?_
        refine z_callV (pc := 58) (b := 78) (As := []) (rest := []) kX5_33 (m_X5_skipBlanks g (si μ 78 6 (0 : Int32))) ltC_78 kdC_78 rfl rfl ⟨rfl, rfl⟩ ⟨Nat.le_of_ble_eq_true rfl, Nat.le_of_ble_eq_true rfl⟩ (Nat.le_of_ble_eq_true rfl) rfl rfl dX5_readLetters_58 (fun r4 μ5 => ?_)
        change Zw g ΛC enI RX5 cX5_readLetters 3 (some .boolean) rX5_readLetters 61 [(0, .ref (g.2.2.1 78)), (1, .int (0 : Int32)), (2, .int (40 : Int32))] [] μ5 _
        refine w_X5_readLetters_61 g (0 : Int32) (40 : Int32) FU μ5 _ (fun  μ14 => ?_)
        refine z_aload_n (pc := 121) 0 dX5_readLetters_121 rfl rfl ?_
        refine z_get (pc := 122) (v := .int (μ14.1 78 6)) flX5_64 jnX5 ltC_78 kdC_78 rfl (by decide) rfl foC_78_6 rfl dX5_readLetters_122 ?_
        refine z_iload_n (pc := 125) 1 dX5_readLetters_125 rfl rfl ?_
        refine z_icmp_lt (pc := 126) (tgt := 133) dX5_readLetters_126 (by decide) (fun h15 => ?_) (fun h15 => ?_)
        · refine z_iconst (pc := 133) (v := 0) dX5_readLetters_133 rfl ?_
          exact z_zret dX5_readLetters_134 (by decide)
        · refine z_iconst (pc := 129) (v := 1) dX5_readLetters_129 rfl ?_
          refine z_goto (pc := 130) (tgt := 134) dX5_readLetters_130 (by decide) ?_
          exact z_zret dX5_readLetters_134 (by decide)
      · refine z_bipush (pc := 49) (v := 6) dX5_readLetters_49 (by decide +kernel) ?_
        refine z_goto (pc := 51) (tgt := 56) dX5_readLetters_51 (by decide) ?_
        refine z_istore_n (pc := 56) (lv2 := [(0, .ref (g.2.2.1 78)), (1, .int (0 : Int32)), (2, .int (6 : Int32))]) [1, 2, 0] dX5_readLetters_56 rfl (by decide) rfl ?_
        refine z_aload_n (pc := 57) 0 dX5_readLetters_57 rfl rfl ?_
        refine z_callV (pc := 58) (b := 78) (As := []) (rest := []) kX5_33 (m_X5_skipBlanks g (si μ 78 6 (0 : Int32))) ltC_78 kdC_78 rfl rfl ⟨rfl, rfl⟩ ⟨Nat.le_of_ble_eq_true rfl, Nat.le_of_ble_eq_true rfl⟩ (Nat.le_of_ble_eq_true rfl) rfl rfl dX5_readLetters_58 (fun r16 μ17 => ?_)
        change Zw g ΛC enI RX5 cX5_readLetters 3 (some .boolean) rX5_readLetters 61 [(0, .ref (g.2.2.1 78)), (1, .int (0 : Int32)), (2, .int (6 : Int32))] [] μ17 _
        refine w_X5_readLetters_61 g (0 : Int32) (6 : Int32) FU μ17 _ (fun  μ18 => ?_)
        refine z_aload_n (pc := 121) 0 dX5_readLetters_121 rfl rfl ?_
        refine z_get (pc := 122) (v := .int (μ18.1 78 6)) flX5_64 jnX5 ltC_78 kdC_78 rfl (by decide) rfl foC_78_6 rfl dX5_readLetters_122 ?_
        refine z_iload_n (pc := 125) 1 dX5_readLetters_125 rfl rfl ?_
        refine z_icmp_lt (pc := 126) (tgt := 133) dX5_readLetters_126 (by decide) (fun h19 => ?_) (fun h19 => ?_)
        · refine z_iconst (pc := 133) (v := 0) dX5_readLetters_133 rfl ?_
          exact z_zret dX5_readLetters_134 (by decide)
        · refine z_iconst (pc := 129) (v := 1) dX5_readLetters_129 rfl ?_
          refine z_goto (pc := 130) (tgt := 134) dX5_readLetters_130 (by decide) ?_
          exact z_zret dX5_readLetters_134 (by decide)
    · refine z_iconst (pc := 34) (v := 1) dX5_readLetters_34 rfl ?_
      refine z_goto (pc := 35) (tgt := 39) dX5_readLetters_35 (by decide) ?_
      refine z_istore_n (pc := 39) (lv2 := [(0, .ref (g.2.2.1 78)), (1, .int (1 : Int32))]) [1, 0] dX5_readLetters_39 rfl (by decide) rfl ?_
      refine z_aload_n (pc := 40) 0 dX5_readLetters_40 rfl rfl ?_
      refine z_get (pc := 41) (v := .int (μ.1 78 3)) flX5_47 jnX5 ltC_78 kdC_78 rfl (by decide) rfl foC_78_3 rfl dX5_readLetters_41 ?_
      refine z_bipush (pc := 44) (v := 102) dX5_readLetters_44 (by decide +kernel) ?_
      refine z_icmp_ne (pc := 46) (tgt := 54) dX5_readLetters_46 (by decide) (fun h20 => ?_) (fun h20 => ?_)
      · refine z_bipush (pc := 54) (v := 40) dX5_readLetters_54 (by decide +kernel) ?_
        refine z_istore_n (pc := 56) (lv2 := [(0, .ref (g.2.2.1 78)), (1, .int (1 : Int32)), (2, .int (40 : Int32))]) [1, 2, 0] dX5_readLetters_56 rfl (by decide) rfl ?_
        refine z_aload_n (pc := 57) 0 dX5_readLetters_57 rfl rfl ?_
        refine z_callV (pc := 58) (b := 78) (As := []) (rest := []) kX5_33 (m_X5_skipBlanks g (si μ 78 6 (0 : Int32))) ltC_78 kdC_78 rfl rfl ⟨rfl, rfl⟩ ⟨Nat.le_of_ble_eq_true rfl, Nat.le_of_ble_eq_true rfl⟩ (Nat.le_of_ble_eq_true rfl) rfl rfl dX5_readLetters_58 (fun r21 μ22 => ?_)
        change Zw g ΛC enI RX5 cX5_readLetters 3 (some .boolean) rX5_readLetters 61 [(0, .ref (g.2.2.1 78)), (1, .int (1 : Int32)), (2, .int (40 : Int32))] [] μ22 _
        refine w_X5_readLetters_61 g (1 : Int32) (40 : Int32) FU μ22 _ (fun  μ23 => ?_)
        refine z_aload_n (pc := 121) 0 dX5_readLetters_121 rfl rfl ?_
        refine z_get (pc := 122) (v := .int (μ23.1 78 6)) flX5_64 jnX5 ltC_78 kdC_78 rfl (by decide) rfl foC_78_6 rfl dX5_readLetters_122 ?_
        refine z_iload_n (pc := 125) 1 dX5_readLetters_125 rfl rfl ?_
        refine z_icmp_lt (pc := 126) (tgt := 133) dX5_readLetters_126 (by decide) (fun h24 => ?_) (fun h24 => ?_)
        · refine z_iconst (pc := 133) (v := 0) dX5_readLetters_133 rfl ?_
          exact z_zret dX5_readLetters_134 (by decide)
        · refine z_iconst (pc := 129) (v := 1) dX5_readLetters_129 rfl ?_
          refine z_goto (pc := 130) (tgt := 134) dX5_readLetters_130 (by decide) ?_
          exact z_zret dX5_readLetters_134 (by decide)
      · refine z_bipush (pc := 49) (v := 6) dX5_readLetters_49 (by decide +kernel) ?_
        refine z_goto (pc := 51) (tgt := 56) dX5_readLetters_51 (by decide) ?_
        refine z_istore_n (pc := 56) (lv2 := [(0, .ref (g.2.2.1 78)), (1, .int (1 : Int32)), (2, .int (6 : Int32))]) [1, 2, 0] dX5_readLetters_56 rfl (by decide) rfl ?_
        refine z_aload_n (pc := 57) 0 dX5_readLetters_57 rfl rfl ?_
        refine z_callV (pc := 58) (b := 78) (As := []) (rest := []) kX5_33 (m_X5_skipBlanks g (si μ 78 6 (0 : Int32))) ltC_78 kdC_78 rfl rfl ⟨rfl, rfl⟩ ⟨Nat.le_of_ble_eq_true rfl, Nat.le_of_ble_eq_true rfl⟩ (Nat.le_of_ble_eq_true rfl) rfl rfl dX5_readLetters_58 (fun r25 μ26 => ?_)
        change Zw g ΛC enI RX5 cX5_readLetters 3 (some .boolean) rX5_readLetters 61 [(0, .ref (g.2.2.1 78)), (1, .int (1 : Int32)), (2, .int (6 : Int32))] [] μ26 _
        refine w_X5_readLetters_61 g (1 : Int32) (6 : Int32) FU μ26 _ (fun  μ27 => ?_)
        refine z_aload_n (pc := 121) 0 dX5_readLetters_121 rfl rfl ?_
        refine z_get (pc := 122) (v := .int (μ27.1 78 6)) flX5_64 jnX5 ltC_78 kdC_78 rfl (by decide) rfl foC_78_6 rfl dX5_readLetters_122 ?_
        refine z_iload_n (pc := 125) 1 dX5_readLetters_125 rfl rfl ?_
        refine z_icmp_lt (pc := 126) (tgt := 133) dX5_readLetters_126 (by decide) (fun h28 => ?_) (fun h28 => ?_)
        · refine z_iconst (pc := 133) (v := 0) dX5_readLetters_133 rfl ?_
          exact z_zret dX5_readLetters_134 (by decide)
        · refine z_iconst (pc := 129) (v := 1) dX5_readLetters_129 rfl ?_
          refine z_goto (pc := 130) (tgt := 134) dX5_readLetters_130 (by decide) ?_
          exact z_zret dX5_readLetters_134 (by decide)
  · refine z_aload_n (pc := 14) 0 dX5_readLetters_14 rfl rfl ?_
    refine z_get (pc := 15) (v := .int (μ.1 78 3)) flX5_47 jnX5 ltC_78 kdC_78 rfl (by decide) rfl foC_78_3 rfl dX5_readLetters_15 ?_
    refine z_bipush (pc := 18) (v := 108) dX5_readLetters_18 (by decide +kernel) ?_
    refine z_icmp_eq (pc := 20) (tgt := 25) dX5_readLetters_20 (by decide) (fun h29 => ?_) (fun h29 => ?_)
    · refine z_aload_n (pc := 25) 0 dX5_readLetters_25 rfl rfl ?_
      refine z_get (pc := 26) (v := .int (μ.1 78 3)) flX5_47 jnX5 ltC_78 kdC_78 rfl (by decide) rfl foC_78_3 rfl dX5_readLetters_26 ?_
      refine z_bipush (pc := 29) (v := 102) dX5_readLetters_29 (by decide +kernel) ?_
      refine z_icmp_ne (pc := 31) (tgt := 38) dX5_readLetters_31 (by decide) (fun h30 => ?_) (fun h30 => ?_)
      · refine z_iconst (pc := 38) (v := 0) dX5_readLetters_38 rfl ?_
        refine z_istore_n (pc := 39) (lv2 := [(0, .ref (g.2.2.1 78)), (1, .int (0 : Int32))]) [1, 0] dX5_readLetters_39 rfl (by decide) rfl ?_
        refine z_aload_n (pc := 40) 0 dX5_readLetters_40 rfl rfl ?_
        refine z_get (pc := 41) (v := .int (μ.1 78 3)) flX5_47 jnX5 ltC_78 kdC_78 rfl (by decide) rfl foC_78_3 rfl dX5_readLetters_41 ?_
        refine z_bipush (pc := 44) (v := 102) dX5_readLetters_44 (by decide +kernel) ?_
        refine z_icmp_ne (pc := 46) (tgt := 54) dX5_readLetters_46 (by decide) (fun h31 => ?_) (fun h31 => ?_)
        · refine z_bipush (pc := 54) (v := 40) dX5_readLetters_54 (by decide +kernel) ?_
          refine z_istore_n (pc := 56) (lv2 := [(0, .ref (g.2.2.1 78)), (1, .int (0 : Int32)), (2, .int (40 : Int32))]) [1, 2, 0] dX5_readLetters_56 rfl (by decide) rfl ?_
          refine z_aload_n (pc := 57) 0 dX5_readLetters_57 rfl rfl ?_
          refine z_callV (pc := 58) (b := 78) (As := []) (rest := []) kX5_33 (m_X5_skipBlanks g (si μ 78 6 (0 : Int32))) ltC_78 kdC_78 rfl rfl ⟨rfl, rfl⟩ ⟨Nat.le_of_ble_eq_true rfl, Nat.le_of_ble_eq_true rfl⟩ (Nat.le_of_ble_eq_true rfl) rfl rfl dX5_readLetters_58 (fun r32 μ33 => ?_)
          change Zw g ΛC enI RX5 cX5_readLetters 3 (some .boolean) rX5_readLetters 61 [(0, .ref (g.2.2.1 78)), (1, .int (0 : Int32)), (2, .int (40 : Int32))] [] μ33 _
          refine w_X5_readLetters_61 g (0 : Int32) (40 : Int32) FU μ33 _ (fun  μ34 => ?_)
          refine z_aload_n (pc := 121) 0 dX5_readLetters_121 rfl rfl ?_
          refine z_get (pc := 122) (v := .int (μ34.1 78 6)) flX5_64 jnX5 ltC_78 kdC_78 rfl (by decide) rfl foC_78_6 rfl dX5_readLetters_122 ?_
          refine z_iload_n (pc := 125) 1 dX5_readLetters_125 rfl rfl ?_
          refine z_icmp_lt (pc := 126) (tgt := 133) dX5_readLetters_126 (by decide) (fun h35 => ?_) (fun h35 => ?_)
          · refine z_iconst (pc := 133) (v := 0) dX5_readLetters_133 rfl ?_
            exact z_zret dX5_readLetters_134 (by decide)
          · refine z_iconst (pc := 129) (v := 1) dX5_readLetters_129 rfl ?_
            refine z_goto (pc := 130) (tgt := 134) dX5_readLetters_130 (by decide) ?_
            exact z_zret dX5_readLetters_134 (by decide)
        · refine z_bipush (pc := 49) (v := 6) dX5_readLetters_49 (by decide +kernel) ?_
          refine z_goto (pc := 51) (tgt := 56) dX5_readLetters_51 (by decide) ?_
          refine z_istore_n (pc := 56) (lv2 := [(0, .ref (g.2.2.1 78)), (1, .int (0 : Int32)), (2, .int (6 : Int32))]) [1, 2, 0] dX5_readLetters_56 rfl (by decide) rfl ?_
          refine z_aload_n (pc := 57) 0 dX5_readLetters_57 rfl rfl ?_
          refine z_callV (pc := 58) (b := 78) (As := []) (rest := []) kX5_33 (m_X5_skipBlanks g (si μ 78 6 (0 : Int32))) ltC_78 kdC_78 rfl rfl ⟨rfl, rfl⟩ ⟨Nat.le_of_ble_eq_true rfl, Nat.le_of_ble_eq_true rfl⟩ (Nat.le_of_ble_eq_true rfl) rfl rfl dX5_readLetters_58 (fun r36 μ37 => ?_)
          change Zw g ΛC enI RX5 cX5_readLetters 3 (some .boolean) rX5_readLetters 61 [(0, .ref (g.2.2.1 78)), (1, .int (0 : Int32)), (2, .int (6 : Int32))] [] μ37 _
          refine w_X5_readLetters_61 g (0 : Int32) (6 : Int32) FU μ37 _ (fun  μ38 => ?_)
          refine z_aload_n (pc := 121) 0 dX5_readLetters_121 rfl rfl ?_
          refine z_get (pc := 122) (v := .int (μ38.1 78 6)) flX5_64 jnX5 ltC_78 kdC_78 rfl (by decide) rfl foC_78_6 rfl dX5_readLetters_122 ?_
          refine z_iload_n (pc := 125) 1 dX5_readLetters_125 rfl rfl ?_
          refine z_icmp_lt (pc := 126) (tgt := 133) dX5_readLetters_126 (by decide) (fun h39 => ?_) (fun h39 => ?_)
          · refine z_iconst (pc := 133) (v := 0) dX5_readLetters_133 rfl ?_
            exact z_zret dX5_readLetters_134 (by decide)
          · refine z_iconst (pc := 129) (v := 1) dX5_readLetters_129 rfl ?_
            refine z_goto (pc := 130) (tgt := 134) dX5_readLetters_130 (by decide) ?_
            exact z_zret dX5_readLetters_134 (by decide)
      · refine z_iconst (pc := 34) (v := 1) dX5_readLetters_34 rfl ?_
        refine z_goto (pc := 35) (tgt := 39) dX5_readLetters_35 (by decide) ?_
        refine z_istore_n (pc := 39) (lv2 := [(0, .ref (g.2.2.1 78)), (1, .int (1 : Int32))]) [1, 0] dX5_readLetters_39 rfl (by decide) rfl ?_
        refine z_aload_n (pc := 40) 0 dX5_readLetters_40 rfl rfl ?_
        refine z_get (pc := 41) (v := .int (μ.1 78 3)) flX5_47 jnX5 ltC_78 kdC_78 rfl (by decide) rfl foC_78_3 rfl dX5_readLetters_41 ?_
        refine z_bipush (pc := 44) (v := 102) dX5_readLetters_44 (by decide +kernel) ?_
        refine z_icmp_ne (pc := 46) (tgt := 54) dX5_readLetters_46 (by decide) (fun h40 => ?_) (fun h40 => ?_)
        · refine z_bipush (pc := 54) (v := 40) dX5_readLetters_54 (by decide +kernel) ?_
          refine z_istore_n (pc := 56) (lv2 := [(0, .ref (g.2.2.1 78)), (1, .int (1 : Int32)), (2, .int (40 : Int32))]) [1, 2, 0] dX5_readLetters_56 rfl (by decide) rfl ?_
          refine z_aload_n (pc := 57) 0 dX5_readLetters_57 rfl rfl ?_
          refine z_callV (pc := 58) (b := 78) (As := []) (rest := []) kX5_33 (m_X5_skipBlanks g (si μ 78 6 (0 : Int32))) ltC_78 kdC_78 rfl rfl ⟨rfl, rfl⟩ ⟨Nat.le_of_ble_eq_true rfl, Nat.le_of_ble_eq_true rfl⟩ (Nat.le_of_ble_eq_true rfl) rfl rfl dX5_readLetters_58 (fun r41 μ42 => ?_)
          change Zw g ΛC enI RX5 cX5_readLetters 3 (some .boolean) rX5_readLetters 61 [(0, .ref (g.2.2.1 78)), (1, .int (1 : Int32)), (2, .int (40 : Int32))] [] μ42 _
          refine w_X5_readLetters_61 g (1 : Int32) (40 : Int32) FU μ42 _ (fun  μ43 => ?_)
          refine z_aload_n (pc := 121) 0 dX5_readLetters_121 rfl rfl ?_
          refine z_get (pc := 122) (v := .int (μ43.1 78 6)) flX5_64 jnX5 ltC_78 kdC_78 rfl (by decide) rfl foC_78_6 rfl dX5_readLetters_122 ?_
          refine z_iload_n (pc := 125) 1 dX5_readLetters_125 rfl rfl ?_
          refine z_icmp_lt (pc := 126) (tgt := 133) dX5_readLetters_126 (by decide) (fun h44 => ?_) (fun h44 => ?_)
          · refine z_iconst (pc := 133) (v := 0) dX5_readLetters_133 rfl ?_
            exact z_zret dX5_readLetters_134 (by decide)
          · refine z_iconst (pc := 129) (v := 1) dX5_readLetters_129 rfl ?_
            refine z_goto (pc := 130) (tgt := 134) dX5_readLetters_130 (by decide) ?_
            exact z_zret dX5_readLetters_134 (by decide)
        · refine z_bipush (pc := 49) (v := 6) dX5_readLetters_49 (by decide +kernel) ?_
          refine z_goto (pc := 51) (tgt := 56) dX5_readLetters_51 (by decide) ?_
          refine z_istore_n (pc := 56) (lv2 := [(0, .ref (g.2.2.1 78)), (1, .int (1 : Int32)), (2, .int (6 : Int32))]) [1, 2, 0] dX5_readLetters_56 rfl (by decide) rfl ?_
          refine z_aload_n (pc := 57) 0 dX5_readLetters_57 rfl rfl ?_
          refine z_callV (pc := 58) (b := 78) (As := []) (rest := []) kX5_33 (m_X5_skipBlanks g (si μ 78 6 (0 : Int32))) ltC_78 kdC_78 rfl rfl ⟨rfl, rfl⟩ ⟨Nat.le_of_ble_eq_true rfl, Nat.le_of_ble_eq_true rfl⟩ (Nat.le_of_ble_eq_true rfl) rfl rfl dX5_readLetters_58 (fun r45 μ46 => ?_)
          change Zw g ΛC enI RX5 cX5_readLetters 3 (some .boolean) rX5_readLetters 61 [(0, .ref (g.2.2.1 78)), (1, .int (1 : Int32)), (2, .int (6 : Int32))] [] μ46 _
          refine w_X5_readLetters_61 g (1 : Int32) (6 : Int32) FU μ46 _ (fun  μ47 => ?_)
          refine z_aload_n (pc := 121) 0 dX5_readLetters_121 rfl rfl ?_
          refine z_get (pc := 122) (v := .int (μ47.1 78 6)) flX5_64 jnX5 ltC_78 kdC_78 rfl (by decide) rfl foC_78_6 rfl dX5_readLetters_122 ?_
          refine z_iload_n (pc := 125) 1 dX5_readLetters_125 rfl rfl ?_
          refine z_icmp_lt (pc := 126) (tgt := 133) dX5_readLetters_126 (by decide) (fun h48 => ?_) (fun h48 => ?_)
          · refine z_iconst (pc := 133) (v := 0) dX5_readLetters_133 rfl ?_
            exact z_zret dX5_readLetters_134 (by decide)
          · refine z_iconst (pc := 129) (v := 1) dX5_readLetters_129 rfl ?_
            refine z_goto (pc := 130) (tgt := 134) dX5_readLetters_130 (by decide) ?_
            exact z_zret dX5_readLetters_134 (by decide)
    · refine z_iconst (pc := 23) (v := 1) dX5_readLetters_23 rfl ?_
      exact z_zret dX5_readLetters_24 (by decide)
def lp_X5_readOrder_35 (c1 : Int32) : Nat → Int32 → Mm → (Mm → Option (Int32 × Mm)) → Option (Int32 × Mm)
  | 0, _, _, _ => none
  | n + 1, y2, μ, k => if c1 ≤ y2 then (k  μ) else (bd (f_X5_readNumber y2 μ) fun r7 μ8 => if r7 = 0 then (some ((0 : Int32), μ8)) else (lp_X5_readOrder_35 c1 n (y2 + 1) μ8 k))
theorem w_X5_readOrder_35 (g : Gx) (c1 : Int32) : ∀ (n : Nat) (y2 : Int32) (μ : Mm) (k : Mm → Option (Int32 × Mm)), (∀ (ν : Mm), Zw g ΛC enI RX5 cX5_readOrder 3 (some .boolean) rX5_readOrder 56 [(0, .ref (g.2.2.1 78))] [] ν (k  ν)) → Zw g ΛC enI RX5 cX5_readOrder 3 (some .boolean) rX5_readOrder 35 [(0, .ref (g.2.2.1 78)), (1, .int c1), (2, .int y2)] [] μ (lp_X5_readOrder_35 c1 n y2 μ k) := by
  intro n
  induction n with
  | zero =>
    intro y2 μ k hk
    exact z_none
  | succ n ih =>
    intro y2 μ k hk
    rw [lp_X5_readOrder_35]
    refine z_iload_n (pc := 35) 2 dX5_readOrder_35 rfl rfl ?_
    refine z_iload_n (pc := 36) 1 dX5_readOrder_36 rfl rfl ?_
    refine z_icmp_ge (pc := 37) (tgt := 56) dX5_readOrder_37 (by decide) (fun h6 => ?_) (fun h6 => ?_)
    · refine z_sub (lv2 := [(0, .ref (g.2.2.1 78))]) [0] rfl ?_
      exact hk _
    · refine z_aload_n (pc := 40) 0 dX5_readOrder_40 rfl rfl ?_
      refine z_iload_n (pc := 41) 2 dX5_readOrder_41 rfl rfl ?_
      refine z_callV (pc := 42) (b := 78) (As := [.int y2]) (rest := []) kX5_54 (m_X5_readNumber g μ y2) ltC_78 kdC_78 rfl rfl ⟨rfl, rfl⟩ ⟨Nat.le_of_ble_eq_true rfl, Nat.le_of_ble_eq_true rfl⟩ (Nat.le_of_ble_eq_true rfl) rfl rfl dX5_readOrder_42 (fun r7 μ8 => ?_)
      change Zw g ΛC enI RX5 cX5_readOrder 3 (some .boolean) rX5_readOrder 45 [(0, .ref (g.2.2.1 78)), (1, .int c1), (2, .int y2)] [.int r7] μ8 _
      refine z_if_ne (pc := 45) (tgt := 50) dX5_readOrder_45 (by decide) (fun h9 => ?_) (fun h9 => ?_)
      · refine z_iinc (pc := 50) (v := y2 + 1) (lv2 := [(0, .ref (g.2.2.1 78)), (1, .int c1), (2, .int (y2 + 1))]) 2 [1, 2, 0] dX5_readOrder_50 rfl (by rw [oi_1]) (by decide) rfl ?_
        refine z_goto (pc := 53) (tgt := 35) dX5_readOrder_53 (by decide) ?_
        exact ih _ _ _ hk
      · refine z_iconst (pc := 48) (v := 0) dX5_readOrder_48 rfl ?_
        exact z_zret dX5_readOrder_49 (by decide)
def f_X5_readOrder (μ : Mm) : Option (Int32 × Mm) := bd (f_X5_byteHere μ) fun r1 μ2 => bd (f_X5_numbersOf r1 (si μ2 78 3 r1)) fun r3 μ4 => if r3 = (-1 : Int32) then (some ((0 : Int32), μ4)) else (lp_X5_readOrder_35 r3 FU (0 : Int32) (si μ4 78 2 ((μ4.1 78 2) + (1 : Int32))) (fun  μ10 => bd (f_X5_readLetters μ10) fun r11 μ12 => if r11 = 0 then (some ((0 : Int32), μ12)) else (bd (f_X5_skipBlanks μ12) fun r14 μ15 => bd (f_X5_byteHere μ15) fun r16 μ17 => if r16 = (59 : Int32) then (bd (f_X5_skipBlanks (si μ17 78 2 ((μ17.1 78 2) + (1 : Int32)))) fun r19 μ20 => some ((1 : Int32), μ20)) else (some ((0 : Int32), μ17)))))
theorem m_X5_readOrder (g : Gx) (μ : Mm) : Zm g ΛC enI yX5_readOrder cX5_readOrder 3 (some .boolean) rX5_readOrder [.ref (g.2.2.1 78)] μ (f_X5_readOrder μ) := by
  refine z_met (by decide +kernel) (Nat.le_of_ble_eq_true rfl) ?_
  change Zw g ΛC enI RX5 cX5_readOrder 3 (some .boolean) rX5_readOrder 0 [(0, .ref (g.2.2.1 78))] [] μ (f_X5_readOrder μ)
  rw [f_X5_readOrder]
  refine z_aload_n (pc := 0) 0 dX5_readOrder_0 rfl rfl ?_
  refine z_aload_n (pc := 1) 0 dX5_readOrder_1 rfl rfl ?_
  refine z_callV (pc := 2) (b := 78) (As := []) (rest := [.ref (g.2.2.1 78)]) kX5_43 (m_X5_byteHere g μ) ltC_78 kdC_78 rfl rfl ⟨rfl, rfl⟩ ⟨Nat.le_of_ble_eq_true rfl, Nat.le_of_ble_eq_true rfl⟩ (Nat.le_of_ble_eq_true rfl) rfl rfl dX5_readOrder_2 (fun r1 μ2 => ?_)
  change Zw g ΛC enI RX5 cX5_readOrder 3 (some .boolean) rX5_readOrder 5 [(0, .ref (g.2.2.1 78))] [.int r1, .ref (g.2.2.1 78)] μ2 _
  refine z_puti (x := (0, 0)) (pc := 5) flX5_47 jnX5 tyX5 tyX5_ok nmX5 ltC_78 kdC_78 rfl (by decide) rfl foC_78_3 rfl ⟨rfl, rfl⟩ dX5_readOrder_5 ?_
  refine z_aload_n (pc := 8) 0 dX5_readOrder_8 rfl rfl ?_
  refine z_get (pc := 9) (v := .int r1) flX5_47 jnX5 ltC_78 kdC_78 rfl (by decide) rfl foC_78_3 rfl dX5_readOrder_9 ?_
  refine z_callS (pc := 12) (As := [.int r1]) (rest := []) kX5_50 (m_X5_numbersOf g (si μ2 78 3 r1) r1) ⟨rfl, rfl⟩ ⟨Nat.le_of_ble_eq_true rfl, Nat.le_of_ble_eq_true rfl⟩ (Nat.le_of_ble_eq_true rfl) rfl rfl dX5_readOrder_12 (fun r3 μ4 => ?_)
  change Zw g ΛC enI RX5 cX5_readOrder 3 (some .boolean) rX5_readOrder 15 [(0, .ref (g.2.2.1 78))] [.int r3] μ4 _
  refine z_istore_n (pc := 15) (lv2 := [(0, .ref (g.2.2.1 78)), (1, .int r3)]) [1, 0] dX5_readOrder_15 rfl (by decide) rfl ?_
  refine z_iload_n (pc := 16) 1 dX5_readOrder_16 rfl rfl ?_
  refine z_iconst (pc := 17) (v := -1) dX5_readOrder_17 rfl ?_
  refine z_icmp_ne (pc := 18) (tgt := 23) dX5_readOrder_18 (by decide) (fun h5 => ?_) (fun h5 => ?_)
  · refine z_aload_n (pc := 23) 0 dX5_readOrder_23 rfl rfl ?_
    refine z_dup (pc := 24) dX5_readOrder_24 rfl ?_
    refine z_get (pc := 25) (v := .int (μ4.1 78 2)) flX5_30 jnX5 ltC_78 kdC_78 rfl (by decide) rfl foC_78_2 rfl dX5_readOrder_25 ?_
    refine z_iconst (pc := 28) (v := 1) dX5_readOrder_28 rfl ?_
    refine z_iadd (pc := 29) dX5_readOrder_29 ?_
    refine z_puti (x := (0, 0)) (pc := 30) flX5_30 jnX5 tyX5 tyX5_ok nmX5 ltC_78 kdC_78 rfl (by decide) rfl foC_78_2 rfl ⟨rfl, rfl⟩ dX5_readOrder_30 ?_
    refine z_iconst (pc := 33) (v := 0) dX5_readOrder_33 rfl ?_
    refine z_istore_n (pc := 34) (lv2 := [(0, .ref (g.2.2.1 78)), (1, .int r3), (2, .int (0 : Int32))]) [1, 2, 0] dX5_readOrder_34 rfl (by decide) rfl ?_
    refine w_X5_readOrder_35 g r3 FU (0 : Int32) (si μ4 78 2 ((μ4.1 78 2) + (1 : Int32))) _ (fun  μ10 => ?_)
    refine z_aload_n (pc := 56) 0 dX5_readOrder_56 rfl rfl ?_
    refine z_callV (pc := 57) (b := 78) (As := []) (rest := []) kX5_58 (m_X5_readLetters g μ10) ltC_78 kdC_78 rfl rfl ⟨rfl, rfl⟩ ⟨Nat.le_of_ble_eq_true rfl, Nat.le_of_ble_eq_true rfl⟩ (Nat.le_of_ble_eq_true rfl) rfl rfl dX5_readOrder_57 (fun r11 μ12 => ?_)
    change Zw g ΛC enI RX5 cX5_readOrder 3 (some .boolean) rX5_readOrder 60 [(0, .ref (g.2.2.1 78))] [.int r11] μ12 _
    refine z_if_ne (pc := 60) (tgt := 65) dX5_readOrder_60 (by decide) (fun h13 => ?_) (fun h13 => ?_)
    · refine z_aload_n (pc := 65) 0 dX5_readOrder_65 rfl rfl ?_
      refine z_callV (pc := 66) (b := 78) (As := []) (rest := []) kX5_33 (m_X5_skipBlanks g μ12) ltC_78 kdC_78 rfl rfl ⟨rfl, rfl⟩ ⟨Nat.le_of_ble_eq_true rfl, Nat.le_of_ble_eq_true rfl⟩ (Nat.le_of_ble_eq_true rfl) rfl rfl dX5_readOrder_66 (fun r14 μ15 => ?_)
      change Zw g ΛC enI RX5 cX5_readOrder 3 (some .boolean) rX5_readOrder 69 [(0, .ref (g.2.2.1 78))] [] μ15 _
      refine z_aload_n (pc := 69) 0 dX5_readOrder_69 rfl rfl ?_
      refine z_callV (pc := 70) (b := 78) (As := []) (rest := []) kX5_43 (m_X5_byteHere g μ15) ltC_78 kdC_78 rfl rfl ⟨rfl, rfl⟩ ⟨Nat.le_of_ble_eq_true rfl, Nat.le_of_ble_eq_true rfl⟩ (Nat.le_of_ble_eq_true rfl) rfl rfl dX5_readOrder_70 (fun r16 μ17 => ?_)
      change Zw g ΛC enI RX5 cX5_readOrder 3 (some .boolean) rX5_readOrder 73 [(0, .ref (g.2.2.1 78))] [.int r16] μ17 _
      refine z_bipush (pc := 73) (v := 59) dX5_readOrder_73 (by decide +kernel) ?_
      refine z_icmp_eq (pc := 75) (tgt := 80) dX5_readOrder_75 (by decide) (fun h18 => ?_) (fun h18 => ?_)
      · refine z_aload_n (pc := 80) 0 dX5_readOrder_80 rfl rfl ?_
        refine z_dup (pc := 81) dX5_readOrder_81 rfl ?_
        refine z_get (pc := 82) (v := .int (μ17.1 78 2)) flX5_30 jnX5 ltC_78 kdC_78 rfl (by decide) rfl foC_78_2 rfl dX5_readOrder_82 ?_
        refine z_iconst (pc := 85) (v := 1) dX5_readOrder_85 rfl ?_
        refine z_iadd (pc := 86) dX5_readOrder_86 ?_
        refine z_puti (x := (0, 0)) (pc := 87) flX5_30 jnX5 tyX5 tyX5_ok nmX5 ltC_78 kdC_78 rfl (by decide) rfl foC_78_2 rfl ⟨rfl, rfl⟩ dX5_readOrder_87 ?_
        refine z_aload_n (pc := 90) 0 dX5_readOrder_90 rfl rfl ?_
        refine z_callV (pc := 91) (b := 78) (As := []) (rest := []) kX5_33 (m_X5_skipBlanks g (si μ17 78 2 ((μ17.1 78 2) + (1 : Int32)))) ltC_78 kdC_78 rfl rfl ⟨rfl, rfl⟩ ⟨Nat.le_of_ble_eq_true rfl, Nat.le_of_ble_eq_true rfl⟩ (Nat.le_of_ble_eq_true rfl) rfl rfl dX5_readOrder_91 (fun r19 μ20 => ?_)
        change Zw g ΛC enI RX5 cX5_readOrder 3 (some .boolean) rX5_readOrder 94 [(0, .ref (g.2.2.1 78))] [] μ20 _
        refine z_iconst (pc := 94) (v := 1) dX5_readOrder_94 rfl ?_
        exact z_zret dX5_readOrder_95 (by decide)
      · refine z_iconst (pc := 78) (v := 0) dX5_readOrder_78 rfl ?_
        exact z_zret dX5_readOrder_79 (by decide)
    · refine z_iconst (pc := 63) (v := 0) dX5_readOrder_63 rfl ?_
      exact z_zret dX5_readOrder_64 (by decide)
  · refine z_iconst (pc := 21) (v := 0) dX5_readOrder_21 rfl ?_
    exact z_zret dX5_readOrder_22 (by decide)
def lp_X5_findFault_23 : Nat → Int32 → Int32 → Mm → (Int32 → Mm → Option (Int32 × Mm)) → Option (Int32 × Mm)
  | 0, _, _, _, _ => none
  | n + 1, y1, y2, μ, k => if y1 = 0 then (k y1 μ) else (if (μ.1 78 1) ≤ (μ.1 78 2) then (k y1 μ) else (if (150 : Int32) ≤ y2 then (k y1 μ) else (bd (f_X5_readOrder μ) fun r7 μ8 => lp_X5_findFault_23 n r7 (y2 + 1) μ8 k)))
theorem w_X5_findFault_23 (g : Gx) : ∀ (n : Nat) (y1 : Int32) (y2 : Int32) (μ : Mm) (k : Int32 → Mm → Option (Int32 × Mm)), (∀ (z1 : Int32) (ν : Mm), Zw g ΛC enI RX5 cX5_findFault 3 (some .int) rX5_findFault 56 [(0, .ref (g.2.2.1 78)), (1, .int z1)] [] ν (k z1 ν)) → Zw g ΛC enI RX5 cX5_findFault 3 (some .int) rX5_findFault 23 [(0, .ref (g.2.2.1 78)), (1, .int y1), (2, .int y2)] [] μ (lp_X5_findFault_23 n y1 y2 μ k) := by
  intro n
  induction n with
  | zero =>
    intro y1 y2 μ k hk
    exact z_none
  | succ n ih =>
    intro y1 y2 μ k hk
    rw [lp_X5_findFault_23]
    refine z_iload_n (pc := 23) 1 dX5_findFault_23 rfl rfl ?_
    refine z_if_eq (pc := 24) (tgt := 56) dX5_findFault_24 (by decide) (fun h4 => ?_) (fun h4 => ?_)
    · refine z_sub (lv2 := [(0, .ref (g.2.2.1 78)), (1, .int y1)]) [0, 1] rfl ?_
      exact hk _ _
    · refine z_aload_n (pc := 27) 0 dX5_findFault_27 rfl rfl ?_
      refine z_get (pc := 28) (v := .int (μ.1 78 2)) flX5_30 jnX5 ltC_78 kdC_78 rfl (by decide) rfl foC_78_2 rfl dX5_findFault_28 ?_
      refine z_aload_n (pc := 31) 0 dX5_findFault_31 rfl rfl ?_
      refine z_get (pc := 32) (v := .int (μ.1 78 1)) flX5_26 jnX5 ltC_78 kdC_78 rfl (by decide) rfl foC_78_1 rfl dX5_findFault_32 ?_
      refine z_icmp_ge (pc := 35) (tgt := 56) dX5_findFault_35 (by decide) (fun h5 => ?_) (fun h5 => ?_)
      · refine z_sub (lv2 := [(0, .ref (g.2.2.1 78)), (1, .int y1)]) [0, 1] rfl ?_
        exact hk _ _
      · refine z_iload_n (pc := 38) 2 dX5_findFault_38 rfl rfl ?_
        refine z_sipush (pc := 39) (v := 150) dX5_findFault_39 (by decide +kernel) ?_
        refine z_icmp_ge (pc := 42) (tgt := 56) dX5_findFault_42 (by decide) (fun h6 => ?_) (fun h6 => ?_)
        · refine z_sub (lv2 := [(0, .ref (g.2.2.1 78)), (1, .int y1)]) [0, 1] rfl ?_
          exact hk _ _
        · refine z_aload_n (pc := 45) 0 dX5_findFault_45 rfl rfl ?_
          refine z_callV (pc := 46) (b := 78) (As := []) (rest := []) kX5_39 (m_X5_readOrder g μ) ltC_78 kdC_78 rfl rfl ⟨rfl, rfl⟩ ⟨Nat.le_of_ble_eq_true rfl, Nat.le_of_ble_eq_true rfl⟩ (Nat.le_of_ble_eq_true rfl) rfl rfl dX5_findFault_46 (fun r7 μ8 => ?_)
          change Zw g ΛC enI RX5 cX5_findFault 3 (some .int) rX5_findFault 49 [(0, .ref (g.2.2.1 78)), (1, .int y1), (2, .int y2)] [.int r7] μ8 _
          refine z_istore_n (pc := 49) (lv2 := [(0, .ref (g.2.2.1 78)), (1, .int r7), (2, .int y2)]) [1, 0, 2] dX5_findFault_49 rfl (by decide) rfl ?_
          refine z_iinc (pc := 50) (v := y2 + 1) (lv2 := [(0, .ref (g.2.2.1 78)), (1, .int r7), (2, .int (y2 + 1))]) 2 [1, 2, 0] dX5_findFault_50 rfl (by rw [oi_1]) (by decide) rfl ?_
          refine z_goto (pc := 53) (tgt := 23) dX5_findFault_53 (by decide) ?_
          exact ih _ _ _ _ hk
def f_X5_findFault (μ : Mm) : Option (Int32 × Mm) := bd (f_X5_rewind μ) fun r1 μ2 => if (μ2.1 78 1) ≤ (μ2.1 78 2) then (lp_X5_findFault_23 FU (0 : Int32) (0 : Int32) μ2 (fun x9 μ10 => if x9 = 0 then (some (μ10.1 78 2, μ10)) else (some ((-1 : Int32), μ10)))) else (lp_X5_findFault_23 FU (1 : Int32) (0 : Int32) μ2 (fun x12 μ13 => if x12 = 0 then (some (μ13.1 78 2, μ13)) else (some ((-1 : Int32), μ13))))
theorem m_X5_findFault (g : Gx) (μ : Mm) : Zm g ΛC enI yX5_findFault cX5_findFault 3 (some .int) rX5_findFault [.ref (g.2.2.1 78)] μ (f_X5_findFault μ) := by
  refine z_met (by decide +kernel) (Nat.le_of_ble_eq_true rfl) ?_
  change Zw g ΛC enI RX5 cX5_findFault 3 (some .int) rX5_findFault 0 [(0, .ref (g.2.2.1 78))] [] μ (f_X5_findFault μ)
  rw [f_X5_findFault]
  refine z_aload_n (pc := 0) 0 dX5_findFault_0 rfl rfl ?_
  refine z_callV (pc := 1) (b := 78) (As := []) (rest := []) kX5_36 (m_X5_rewind g μ) ltC_78 kdC_78 rfl rfl ⟨rfl, rfl⟩ ⟨Nat.le_of_ble_eq_true rfl, Nat.le_of_ble_eq_true rfl⟩ (Nat.le_of_ble_eq_true rfl) rfl rfl dX5_findFault_1 (fun r1 μ2 => ?_)
  change Zw g ΛC enI RX5 cX5_findFault 3 (some .int) rX5_findFault 4 [(0, .ref (g.2.2.1 78))] [] μ2 _
  refine z_aload_n (pc := 4) 0 dX5_findFault_4 rfl rfl ?_
  refine z_get (pc := 5) (v := .int (μ2.1 78 2)) flX5_30 jnX5 ltC_78 kdC_78 rfl (by decide) rfl foC_78_2 rfl dX5_findFault_5 ?_
  refine z_aload_n (pc := 8) 0 dX5_findFault_8 rfl rfl ?_
  refine z_get (pc := 9) (v := .int (μ2.1 78 1)) flX5_26 jnX5 ltC_78 kdC_78 rfl (by decide) rfl foC_78_1 rfl dX5_findFault_9 ?_
  refine z_icmp_ge (pc := 12) (tgt := 19) dX5_findFault_12 (by decide) (fun h3 => ?_) (fun h3 => ?_)
  · refine z_iconst (pc := 19) (v := 0) dX5_findFault_19 rfl ?_
    refine z_istore_n (pc := 20) (lv2 := [(0, .ref (g.2.2.1 78)), (1, .int (0 : Int32))]) [1, 0] dX5_findFault_20 rfl (by decide) rfl ?_
    refine z_iconst (pc := 21) (v := 0) dX5_findFault_21 rfl ?_
    refine z_istore_n (pc := 22) (lv2 := [(0, .ref (g.2.2.1 78)), (1, .int (0 : Int32)), (2, .int (0 : Int32))]) [1, 2, 0] dX5_findFault_22 rfl (by decide) rfl ?_
    refine w_X5_findFault_23 g FU (0 : Int32) (0 : Int32) μ2 _ (fun x9 μ10 => ?_)
    refine z_iload_n (pc := 56) 1 dX5_findFault_56 rfl rfl ?_
    refine z_if_eq (pc := 57) (tgt := 64) dX5_findFault_57 (by decide) (fun h11 => ?_) (fun h11 => ?_)
    · refine z_aload_n (pc := 64) 0 dX5_findFault_64 rfl rfl ?_
      refine z_get (pc := 65) (v := .int (μ10.1 78 2)) flX5_30 jnX5 ltC_78 kdC_78 rfl (by decide) rfl foC_78_2 rfl dX5_findFault_65 ?_
      exact z_iret dX5_findFault_68
    · refine z_iconst (pc := 60) (v := -1) dX5_findFault_60 rfl ?_
      refine z_goto (pc := 61) (tgt := 68) dX5_findFault_61 (by decide) ?_
      exact z_iret dX5_findFault_68
  · refine z_iconst (pc := 15) (v := 1) dX5_findFault_15 rfl ?_
    refine z_goto (pc := 16) (tgt := 20) dX5_findFault_16 (by decide) ?_
    refine z_istore_n (pc := 20) (lv2 := [(0, .ref (g.2.2.1 78)), (1, .int (1 : Int32))]) [1, 0] dX5_findFault_20 rfl (by decide) rfl ?_
    refine z_iconst (pc := 21) (v := 0) dX5_findFault_21 rfl ?_
    refine z_istore_n (pc := 22) (lv2 := [(0, .ref (g.2.2.1 78)), (1, .int (1 : Int32)), (2, .int (0 : Int32))]) [1, 2, 0] dX5_findFault_22 rfl (by decide) rfl ?_
    refine w_X5_findFault_23 g FU (1 : Int32) (0 : Int32) μ2 _ (fun x12 μ13 => ?_)
    refine z_iload_n (pc := 56) 1 dX5_findFault_56 rfl rfl ?_
    refine z_if_eq (pc := 57) (tgt := 64) dX5_findFault_57 (by decide) (fun h14 => ?_) (fun h14 => ?_)
    · refine z_aload_n (pc := 64) 0 dX5_findFault_64 rfl rfl ?_
      refine z_get (pc := 65) (v := .int (μ13.1 78 2)) flX5_30 jnX5 ltC_78 kdC_78 rfl (by decide) rfl foC_78_2 rfl dX5_findFault_65 ?_
      exact z_iret dX5_findFault_68
    · refine z_iconst (pc := 60) (v := -1) dX5_findFault_60 rfl ?_
      refine z_goto (pc := 61) (tgt := 68) dX5_findFault_61 (by decide) ?_
      exact z_iret dX5_findFault_68
def lp_X5_lettersAsCode_4 : Nat → Int32 → Int32 → Mm → (Int32 → Mm → Option (Int32 × Mm)) → Option (Int32 × Mm)
  | 0, _, _, _, _ => none
  | n + 1, y1, y2, μ, k => if (μ.1 78 6) ≤ y2 then (k y1 μ) else (if (6 : Int32) ≤ y2 then (k y1 μ) else (if zin y2 40 then (lp_X5_lettersAsCode_4 n ((y1 * (10 : Int32)) + (μ.1 81 y2.toNatClampNeg)) (y2 + 1) μ k) else none))
theorem w_X5_lettersAsCode_4 (g : Gx) : ∀ (n : Nat) (y1 : Int32) (y2 : Int32) (μ : Mm) (k : Int32 → Mm → Option (Int32 × Mm)), (∀ (z1 : Int32) (ν : Mm), Zw g ΛC enI RX5 cX5_lettersAsCode 3 (some .int) rX5_lettersAsCode 36 [(1, .int z1)] [] ν (k z1 ν)) → Zw g ΛC enI RX5 cX5_lettersAsCode 3 (some .int) rX5_lettersAsCode 4 [(0, .ref (g.2.2.1 78)), (1, .int y1), (2, .int y2)] [] μ (lp_X5_lettersAsCode_4 n y1 y2 μ k) := by
  intro n
  induction n with
  | zero =>
    intro y1 y2 μ k hk
    exact z_none
  | succ n ih =>
    intro y1 y2 μ k hk
    rw [lp_X5_lettersAsCode_4]
    refine z_iload_n (pc := 4) 2 dX5_lettersAsCode_4 rfl rfl ?_
    refine z_aload_n (pc := 5) 0 dX5_lettersAsCode_5 rfl rfl ?_
    refine z_get (pc := 6) (v := .int (μ.1 78 6)) flX5_64 jnX5 ltC_78 kdC_78 rfl (by decide) rfl foC_78_6 rfl dX5_lettersAsCode_6 ?_
    refine z_icmp_ge (pc := 9) (tgt := 36) dX5_lettersAsCode_9 (by decide) (fun h1 => ?_) (fun h1 => ?_)
    · refine z_sub (lv2 := [(1, .int y1)]) [1] rfl ?_
      exact hk _ _
    · refine z_iload_n (pc := 12) 2 dX5_lettersAsCode_12 rfl rfl ?_
      refine z_bipush (pc := 13) (v := 6) dX5_lettersAsCode_13 (by decide +kernel) ?_
      refine z_icmp_ge (pc := 15) (tgt := 36) dX5_lettersAsCode_15 (by decide) (fun h2 => ?_) (fun h2 => ?_)
      · refine z_sub (lv2 := [(1, .int y1)]) [1] rfl ?_
        exact hk _ _
      · refine z_iload_n (pc := 18) 1 dX5_lettersAsCode_18 rfl rfl ?_
        refine z_bipush (pc := 19) (v := 10) dX5_lettersAsCode_19 (by decide +kernel) ?_
        refine z_imul (pc := 21) dX5_lettersAsCode_21 ?_
        refine z_aload_n (pc := 22) 0 dX5_lettersAsCode_22 rfl rfl ?_
        refine z_get (pc := 23) (v := .ref (g.2.2.1 81)) flX5_19 jnX5 ltC_78 kdC_78 rfl (by decide) rfl foC_78_5 rfl dX5_lettersAsCode_23 ?_
        refine z_iload_n (pc := 26) 2 dX5_lettersAsCode_26 rfl rfl ?_
        refine z_iaload_g (pc := 27) ltC_81 kdC_81 dX5_lettersAsCode_27 ?_
        refine z_iadd (pc := 28) dX5_lettersAsCode_28 ?_
        refine z_istore_n (pc := 29) (lv2 := [(0, .ref (g.2.2.1 78)), (1, .int ((y1 * (10 : Int32)) + (μ.1 81 y2.toNatClampNeg))), (2, .int y2)]) [1, 0, 2] dX5_lettersAsCode_29 rfl (by decide) rfl ?_
        refine z_iinc (pc := 30) (v := y2 + 1) (lv2 := [(0, .ref (g.2.2.1 78)), (1, .int ((y1 * (10 : Int32)) + (μ.1 81 y2.toNatClampNeg))), (2, .int (y2 + 1))]) 2 [1, 2, 0] dX5_lettersAsCode_30 rfl (by rw [oi_1]) (by decide) rfl ?_
        refine z_goto (pc := 33) (tgt := 4) dX5_lettersAsCode_33 (by decide) ?_
        exact ih _ _ _ _ hk
def f_X5_lettersAsCode (μ : Mm) : Option (Int32 × Mm) := lp_X5_lettersAsCode_4 FU (0 : Int32) (0 : Int32) μ (fun x3 μ4 => some (x3, μ4))
theorem m_X5_lettersAsCode (g : Gx) (μ : Mm) : Zm g ΛC enI yX5_lettersAsCode cX5_lettersAsCode 3 (some .int) rX5_lettersAsCode [.ref (g.2.2.1 78)] μ (f_X5_lettersAsCode μ) := by
  refine z_met (by decide +kernel) (Nat.le_of_ble_eq_true rfl) ?_
  change Zw g ΛC enI RX5 cX5_lettersAsCode 3 (some .int) rX5_lettersAsCode 0 [(0, .ref (g.2.2.1 78))] [] μ (f_X5_lettersAsCode μ)
  rw [f_X5_lettersAsCode]
  refine z_iconst (pc := 0) (v := 0) dX5_lettersAsCode_0 rfl ?_
  refine z_istore_n (pc := 1) (lv2 := [(0, .ref (g.2.2.1 78)), (1, .int (0 : Int32))]) [1, 0] dX5_lettersAsCode_1 rfl (by decide) rfl ?_
  refine z_iconst (pc := 2) (v := 0) dX5_lettersAsCode_2 rfl ?_
  refine z_istore_n (pc := 3) (lv2 := [(0, .ref (g.2.2.1 78)), (1, .int (0 : Int32)), (2, .int (0 : Int32))]) [1, 2, 0] dX5_lettersAsCode_3 rfl (by decide) rfl ?_
  refine w_X5_lettersAsCode_4 g FU (0 : Int32) (0 : Int32) μ _ (fun x3 μ4 => ?_)
  refine z_iload_n (pc := 36) 0 dX5_lettersAsCode_36 rfl rfl ?_
  exact z_iret dX5_lettersAsCode_37
def f_X6_refusal (a1 : Int32) (μ : Mm) : Option (Int32 × Mm) := if a1 = (-2 : Int32) then (some (a1, (si μ 82 0 ((μ.1 82 0) + (1 : Int32))))) else (if a1 = (-3 : Int32) then (some (a1, (si μ 82 1 ((μ.1 82 1) + (1 : Int32))))) else (if a1 = (-4 : Int32) then (some (a1, (si μ 82 2 ((μ.1 82 2) + (1 : Int32))))) else (some (a1, (si μ 82 3 ((μ.1 82 3) + (1 : Int32)))))))
theorem m_X6_refusal (g : Gx) (μ : Mm) (a1 : Int32) : Zm g ΛC enI yX6_refusal cX6_refusal 3 (some .int) rX6_refusal [.ref (g.2.2.1 0), .int a1] μ (f_X6_refusal a1 μ) := by
  refine z_met (by decide +kernel) (Nat.le_of_ble_eq_true rfl) ?_
  change Zw g ΛC enI RX6 cX6_refusal 3 (some .int) rX6_refusal 0 [(0, .ref (g.2.2.1 0)), (1, .int a1)] [] μ (f_X6_refusal a1 μ)
  rw [f_X6_refusal]
  refine z_iload_n (pc := 0) 1 dX6_refusal_0 rfl rfl ?_
  refine z_bipush (pc := 1) (v := -2) dX6_refusal_1 (by decide +kernel) ?_
  refine z_icmp_ne (pc := 3) (tgt := 10) dX6_refusal_3 (by decide) (fun h1 => ?_) (fun h1 => ?_)
  · refine z_iload_n (pc := 10) 1 dX6_refusal_10 rfl rfl ?_
    refine z_bipush (pc := 11) (v := -3) dX6_refusal_11 (by decide +kernel) ?_
    refine z_icmp_ne (pc := 13) (tgt := 20) dX6_refusal_13 (by decide) (fun h2 => ?_) (fun h2 => ?_)
    · refine z_iload_n (pc := 20) 1 dX6_refusal_20 rfl rfl ?_
      refine z_bipush (pc := 21) (v := -4) dX6_refusal_21 (by decide +kernel) ?_
      refine z_icmp_ne (pc := 23) (tgt := 30) dX6_refusal_23 (by decide) (fun h3 => ?_) (fun h3 => ?_)
      · refine z_iconst (pc := 30) (v := 3) dX6_refusal_30 rfl ?_
        refine z_istore_n (pc := 31) (lv2 := [(0, .ref (g.2.2.1 0)), (1, .int a1), (2, .int (3 : Int32))]) [1, 2, 0] dX6_refusal_31 rfl (by decide) rfl ?_
        refine z_aload_n (pc := 32) 0 dX6_refusal_32 rfl rfl ?_
        refine z_get (pc := 33) (v := .ref (g.2.2.1 82)) flX6_55 jnX6 ltC_0 kdC_0 rfl (by decide) rfl foC_0_6 rfl dX6_refusal_33 ?_
        refine z_iload_n (pc := 36) 2 dX6_refusal_36 rfl rfl ?_
        refine z_dup2 (pc := 37) dX6_refusal_37 rfl rfl ?_
        refine z_iaload (pc := 38) (j := 3) ltC_82 kdC_82 (by decide +kernel) (by decide +kernel) dX6_refusal_38 ?_
        refine z_iconst (pc := 39) (v := 1) dX6_refusal_39 rfl ?_
        refine z_iadd (pc := 40) dX6_refusal_40 ?_
        refine z_iastore (pc := 41) (j := 3) ltC_82 kdC_82 (by decide +kernel) (by decide +kernel) dX6_refusal_41 ?_
        refine z_iload_n (pc := 42) 1 dX6_refusal_42 rfl rfl ?_
        exact z_iret dX6_refusal_43
      · refine z_iconst (pc := 26) (v := 2) dX6_refusal_26 rfl ?_
        refine z_goto (pc := 27) (tgt := 31) dX6_refusal_27 (by decide) ?_
        refine z_istore_n (pc := 31) (lv2 := [(0, .ref (g.2.2.1 0)), (1, .int a1), (2, .int (2 : Int32))]) [1, 2, 0] dX6_refusal_31 rfl (by decide) rfl ?_
        refine z_aload_n (pc := 32) 0 dX6_refusal_32 rfl rfl ?_
        refine z_get (pc := 33) (v := .ref (g.2.2.1 82)) flX6_55 jnX6 ltC_0 kdC_0 rfl (by decide) rfl foC_0_6 rfl dX6_refusal_33 ?_
        refine z_iload_n (pc := 36) 2 dX6_refusal_36 rfl rfl ?_
        refine z_dup2 (pc := 37) dX6_refusal_37 rfl rfl ?_
        refine z_iaload (pc := 38) (j := 2) ltC_82 kdC_82 (by decide +kernel) (by decide +kernel) dX6_refusal_38 ?_
        refine z_iconst (pc := 39) (v := 1) dX6_refusal_39 rfl ?_
        refine z_iadd (pc := 40) dX6_refusal_40 ?_
        refine z_iastore (pc := 41) (j := 2) ltC_82 kdC_82 (by decide +kernel) (by decide +kernel) dX6_refusal_41 ?_
        refine z_iload_n (pc := 42) 1 dX6_refusal_42 rfl rfl ?_
        exact z_iret dX6_refusal_43
    · refine z_iconst (pc := 16) (v := 1) dX6_refusal_16 rfl ?_
      refine z_goto (pc := 17) (tgt := 31) dX6_refusal_17 (by decide) ?_
      refine z_istore_n (pc := 31) (lv2 := [(0, .ref (g.2.2.1 0)), (1, .int a1), (2, .int (1 : Int32))]) [1, 2, 0] dX6_refusal_31 rfl (by decide) rfl ?_
      refine z_aload_n (pc := 32) 0 dX6_refusal_32 rfl rfl ?_
      refine z_get (pc := 33) (v := .ref (g.2.2.1 82)) flX6_55 jnX6 ltC_0 kdC_0 rfl (by decide) rfl foC_0_6 rfl dX6_refusal_33 ?_
      refine z_iload_n (pc := 36) 2 dX6_refusal_36 rfl rfl ?_
      refine z_dup2 (pc := 37) dX6_refusal_37 rfl rfl ?_
      refine z_iaload (pc := 38) (j := 1) ltC_82 kdC_82 (by decide +kernel) (by decide +kernel) dX6_refusal_38 ?_
      refine z_iconst (pc := 39) (v := 1) dX6_refusal_39 rfl ?_
      refine z_iadd (pc := 40) dX6_refusal_40 ?_
      refine z_iastore (pc := 41) (j := 1) ltC_82 kdC_82 (by decide +kernel) (by decide +kernel) dX6_refusal_41 ?_
      refine z_iload_n (pc := 42) 1 dX6_refusal_42 rfl rfl ?_
      exact z_iret dX6_refusal_43
  · refine z_iconst (pc := 6) (v := 0) dX6_refusal_6 rfl ?_
    refine z_goto (pc := 7) (tgt := 31) dX6_refusal_7 (by decide) ?_
    refine z_istore_n (pc := 31) (lv2 := [(0, .ref (g.2.2.1 0)), (1, .int a1), (2, .int (0 : Int32))]) [1, 2, 0] dX6_refusal_31 rfl (by decide) rfl ?_
    refine z_aload_n (pc := 32) 0 dX6_refusal_32 rfl rfl ?_
    refine z_get (pc := 33) (v := .ref (g.2.2.1 82)) flX6_55 jnX6 ltC_0 kdC_0 rfl (by decide) rfl foC_0_6 rfl dX6_refusal_33 ?_
    refine z_iload_n (pc := 36) 2 dX6_refusal_36 rfl rfl ?_
    refine z_dup2 (pc := 37) dX6_refusal_37 rfl rfl ?_
    refine z_iaload (pc := 38) (j := 0) ltC_82 kdC_82 (by decide +kernel) (by decide +kernel) dX6_refusal_38 ?_
    refine z_iconst (pc := 39) (v := 1) dX6_refusal_39 rfl ?_
    refine z_iadd (pc := 40) dX6_refusal_40 ?_
    refine z_iastore (pc := 41) (j := 0) ltC_82 kdC_82 (by decide +kernel) (by decide +kernel) dX6_refusal_41 ?_
    refine z_iload_n (pc := 42) 1 dX6_refusal_42 rfl rfl ?_
    exact z_iret dX6_refusal_43
def f_X6_settled (a1 : Int32) (μ : Mm) : Option (Int32 × Mm) := if 0 ≤ a1 then (bd (f_X3_keepStaged μ) fun r2 μ3 => some (a1, μ3)) else (bd (f_X6_refusal a1 μ) fun r4 μ5 => some (r4, μ5))
theorem m_X6_settled (g : Gx) (μ : Mm) (a1 : Int32) : Zm g ΛC enI yX6_settled cX6_settled 2 (some .int) rX6_settled [.ref (g.2.2.1 0), .int a1] μ (f_X6_settled a1 μ) := by
  refine z_met (by decide +kernel) (Nat.le_of_ble_eq_true rfl) ?_
  change Zw g ΛC enI RX6 cX6_settled 2 (some .int) rX6_settled 0 [(0, .ref (g.2.2.1 0)), (1, .int a1)] [] μ (f_X6_settled a1 μ)
  rw [f_X6_settled]
  refine z_iload_n (pc := 0) 1 dX6_settled_0 rfl rfl ?_
  refine z_if_ge (pc := 1) (tgt := 10) dX6_settled_1 (by decide) (fun h1 => ?_) (fun h1 => ?_)
  · refine z_aload_n (pc := 10) 0 dX6_settled_10 rfl rfl ?_
    refine z_get (pc := 11) (v := .ref (g.2.2.1 22)) flX6_44 jnX6 ltC_0 kdC_0 rfl (by decide) rfl foC_0_4 rfl dX6_settled_11 ?_
    refine z_callV (pc := 14) (b := 22) (As := []) (rest := []) kX6_189 (m_X3_keepStaged g μ) ltC_22 kdC_22 rfl rfl ⟨rfl, rfl⟩ ⟨Nat.le_of_ble_eq_true rfl, Nat.le_of_ble_eq_true rfl⟩ (Nat.le_of_ble_eq_true rfl) rfl rfl dX6_settled_14 (fun r2 μ3 => ?_)
    change Zw g ΛC enI RX6 cX6_settled 2 (some .int) rX6_settled 17 [(0, .ref (g.2.2.1 0)), (1, .int a1)] [] μ3 _
    refine z_iload_n (pc := 17) 1 dX6_settled_17 rfl rfl ?_
    exact z_iret dX6_settled_18
  · refine z_aload_n (pc := 4) 0 dX6_settled_4 rfl rfl ?_
    refine z_iload_n (pc := 5) 1 dX6_settled_5 rfl rfl ?_
    refine z_callV (pc := 6) (b := 0) (As := [.int a1]) (rest := []) kX6_90 (m_X6_refusal g μ a1) ltC_0 kdC_0 rfl rfl ⟨rfl, rfl⟩ ⟨Nat.le_of_ble_eq_true rfl, Nat.le_of_ble_eq_true rfl⟩ (Nat.le_of_ble_eq_true rfl) rfl rfl dX6_settled_6 (fun r4 μ5 => ?_)
    change Zw g ΛC enI RX6 cX6_settled 2 (some .int) rX6_settled 9 [(0, .ref (g.2.2.1 0)), (1, .int a1)] [.int r4] μ5 _
    exact z_iret dX6_settled_9
def f_X6_phrase (a1 : Int32) (a2 : Int32) (μ : Mm) : Option (Int32 × Mm) := bd (f_X3_stage μ) fun r1 μ2 => bd (f_X4_addPhrase a1 a2 μ2) fun r3 μ4 => bd (f_X6_settled r3 μ4) fun r5 μ6 => some (r5, μ6)
theorem m_X6_phrase (g : Gx) (μ : Mm) (a1 : Int32) (a2 : Int32) : Zm g ΛC enI yX6_phrase cX6_phrase 3 (some .int) rX6_phrase [.ref (g.2.2.1 0), .int a1, .int a2] μ (f_X6_phrase a1 a2 μ) := by
  refine z_met (by decide +kernel) (Nat.le_of_ble_eq_true rfl) ?_
  change Zw g ΛC enI RX6 cX6_phrase 3 (some .int) rX6_phrase 0 [(0, .ref (g.2.2.1 0)), (1, .int a1), (2, .int a2)] [] μ (f_X6_phrase a1 a2 μ)
  rw [f_X6_phrase]
  refine z_aload_n (pc := 0) 0 dX6_phrase_0 rfl rfl ?_
  refine z_get (pc := 1) (v := .ref (g.2.2.1 22)) flX6_44 jnX6 ltC_0 kdC_0 rfl (by decide) rfl foC_0_4 rfl dX6_phrase_1 ?_
  refine z_aload_n (pc := 4) 0 dX6_phrase_4 rfl rfl ?_
  refine z_get (pc := 5) (v := .ref (g.2.2.1 1)) flX6_15 jnX6 ltC_0 kdC_0 rfl (by decide) rfl foC_0_0 rfl dX6_phrase_5 ?_
  refine z_callV (pc := 8) (b := 22) (As := [.ref (g.2.2.1 1)]) (rest := []) kX6_59 (m_X3_stage g μ) ltC_22 kdC_22 rfl rfl ⟨rfl, rfl⟩ ⟨Nat.le_of_ble_eq_true rfl, Nat.le_of_ble_eq_true rfl⟩ (Nat.le_of_ble_eq_true rfl) rfl rfl dX6_phrase_8 (fun r1 μ2 => ?_)
  change Zw g ΛC enI RX6 cX6_phrase 3 (some .int) rX6_phrase 11 [(0, .ref (g.2.2.1 0)), (1, .int a1), (2, .int a2)] [] μ2 _
  refine z_aload_n (pc := 11) 0 dX6_phrase_11 rfl rfl ?_
  refine z_aload_n (pc := 12) 0 dX6_phrase_12 rfl rfl ?_
  refine z_get (pc := 13) (v := .ref (g.2.2.1 1)) flX6_15 jnX6 ltC_0 kdC_0 rfl (by decide) rfl foC_0_0 rfl dX6_phrase_13 ?_
  refine z_iload_n (pc := 16) 1 dX6_phrase_16 rfl rfl ?_
  refine z_iload_n (pc := 17) 2 dX6_phrase_17 rfl rfl ?_
  refine z_callV (pc := 18) (b := 1) (As := [.int a1, .int a2]) (rest := [.ref (g.2.2.1 0)]) kX6_62 (m_X4_addPhrase g μ2 a1 a2) ltC_1 kdC_1 rfl rfl ⟨rfl, rfl⟩ ⟨Nat.le_of_ble_eq_true rfl, Nat.le_of_ble_eq_true rfl⟩ (Nat.le_of_ble_eq_true rfl) rfl rfl dX6_phrase_18 (fun r3 μ4 => ?_)
  change Zw g ΛC enI RX6 cX6_phrase 3 (some .int) rX6_phrase 21 [(0, .ref (g.2.2.1 0)), (1, .int a1), (2, .int a2)] [.int r3, .ref (g.2.2.1 0)] μ4 _
  refine z_callV (pc := 21) (b := 0) (As := [.int r3]) (rest := []) kX6_66 (m_X6_settled g μ4 r3) ltC_0 kdC_0 rfl rfl ⟨rfl, rfl⟩ ⟨Nat.le_of_ble_eq_true rfl, Nat.le_of_ble_eq_true rfl⟩ (Nat.le_of_ble_eq_true rfl) rfl rfl dX6_phrase_21 (fun r5 μ6 => ?_)
  change Zw g ΛC enI RX6 cX6_phrase 3 (some .int) rX6_phrase 24 [(0, .ref (g.2.2.1 0)), (1, .int a1), (2, .int a2)] [.int r5] μ6 _
  exact z_iret dX6_phrase_24
def f_X6_drops (a1 : Int32) (μ : Mm) : Option (Int32 × Mm) := bd (f_X3_stage μ) fun r1 μ2 => bd (f_X4_dropPhrase a1 μ2) fun r3 μ4 => bd (f_X6_settled r3 μ4) fun r5 μ6 => some (r5, μ6)
theorem m_X6_drops (g : Gx) (μ : Mm) (a1 : Int32) : Zm g ΛC enI yX6_drops cX6_drops 2 (some .int) rX6_drops [.ref (g.2.2.1 0), .int a1] μ (f_X6_drops a1 μ) := by
  refine z_met (by decide +kernel) (Nat.le_of_ble_eq_true rfl) ?_
  change Zw g ΛC enI RX6 cX6_drops 2 (some .int) rX6_drops 0 [(0, .ref (g.2.2.1 0)), (1, .int a1)] [] μ (f_X6_drops a1 μ)
  rw [f_X6_drops]
  refine z_aload_n (pc := 0) 0 dX6_drops_0 rfl rfl ?_
  refine z_get (pc := 1) (v := .ref (g.2.2.1 22)) flX6_44 jnX6 ltC_0 kdC_0 rfl (by decide) rfl foC_0_4 rfl dX6_drops_1 ?_
  refine z_aload_n (pc := 4) 0 dX6_drops_4 rfl rfl ?_
  refine z_get (pc := 5) (v := .ref (g.2.2.1 1)) flX6_15 jnX6 ltC_0 kdC_0 rfl (by decide) rfl foC_0_0 rfl dX6_drops_5 ?_
  refine z_callV (pc := 8) (b := 22) (As := [.ref (g.2.2.1 1)]) (rest := []) kX6_59 (m_X3_stage g μ) ltC_22 kdC_22 rfl rfl ⟨rfl, rfl⟩ ⟨Nat.le_of_ble_eq_true rfl, Nat.le_of_ble_eq_true rfl⟩ (Nat.le_of_ble_eq_true rfl) rfl rfl dX6_drops_8 (fun r1 μ2 => ?_)
  change Zw g ΛC enI RX6 cX6_drops 2 (some .int) rX6_drops 11 [(0, .ref (g.2.2.1 0)), (1, .int a1)] [] μ2 _
  refine z_aload_n (pc := 11) 0 dX6_drops_11 rfl rfl ?_
  refine z_aload_n (pc := 12) 0 dX6_drops_12 rfl rfl ?_
  refine z_get (pc := 13) (v := .ref (g.2.2.1 1)) flX6_15 jnX6 ltC_0 kdC_0 rfl (by decide) rfl foC_0_0 rfl dX6_drops_13 ?_
  refine z_iload_n (pc := 16) 1 dX6_drops_16 rfl rfl ?_
  refine z_callV (pc := 17) (b := 1) (As := [.int a1]) (rest := [.ref (g.2.2.1 0)]) kX6_70 (m_X4_dropPhrase g μ2 a1) ltC_1 kdC_1 rfl rfl ⟨rfl, rfl⟩ ⟨Nat.le_of_ble_eq_true rfl, Nat.le_of_ble_eq_true rfl⟩ (Nat.le_of_ble_eq_true rfl) rfl rfl dX6_drops_17 (fun r3 μ4 => ?_)
  change Zw g ΛC enI RX6 cX6_drops 2 (some .int) rX6_drops 20 [(0, .ref (g.2.2.1 0)), (1, .int a1)] [.int r3, .ref (g.2.2.1 0)] μ4 _
  refine z_callV (pc := 20) (b := 0) (As := [.int r3]) (rest := []) kX6_66 (m_X6_settled g μ4 r3) ltC_0 kdC_0 rfl rfl ⟨rfl, rfl⟩ ⟨Nat.le_of_ble_eq_true rfl, Nat.le_of_ble_eq_true rfl⟩ (Nat.le_of_ble_eq_true rfl) rfl rfl dX6_drops_20 (fun r5 μ6 => ?_)
  change Zw g ΛC enI RX6 cX6_drops 2 (some .int) rX6_drops 23 [(0, .ref (g.2.2.1 0)), (1, .int a1)] [.int r5] μ6 _
  exact z_iret dX6_drops_23
def f_X6_begins (a1 : Int32) (μ : Mm) : Option (Int32 × Mm) := bd (f_X3_stage μ) fun r1 μ2 => bd (f_X4_setBegins a1 μ2) fun r3 μ4 => bd (f_X6_settled r3 μ4) fun r5 μ6 => some (r5, μ6)
theorem m_X6_begins (g : Gx) (μ : Mm) (a1 : Int32) : Zm g ΛC enI yX6_begins cX6_begins 2 (some .int) rX6_begins [.ref (g.2.2.1 0), .int a1] μ (f_X6_begins a1 μ) := by
  refine z_met (by decide +kernel) (Nat.le_of_ble_eq_true rfl) ?_
  change Zw g ΛC enI RX6 cX6_begins 2 (some .int) rX6_begins 0 [(0, .ref (g.2.2.1 0)), (1, .int a1)] [] μ (f_X6_begins a1 μ)
  rw [f_X6_begins]
  refine z_aload_n (pc := 0) 0 dX6_begins_0 rfl rfl ?_
  refine z_get (pc := 1) (v := .ref (g.2.2.1 22)) flX6_44 jnX6 ltC_0 kdC_0 rfl (by decide) rfl foC_0_4 rfl dX6_begins_1 ?_
  refine z_aload_n (pc := 4) 0 dX6_begins_4 rfl rfl ?_
  refine z_get (pc := 5) (v := .ref (g.2.2.1 1)) flX6_15 jnX6 ltC_0 kdC_0 rfl (by decide) rfl foC_0_0 rfl dX6_begins_5 ?_
  refine z_callV (pc := 8) (b := 22) (As := [.ref (g.2.2.1 1)]) (rest := []) kX6_59 (m_X3_stage g μ) ltC_22 kdC_22 rfl rfl ⟨rfl, rfl⟩ ⟨Nat.le_of_ble_eq_true rfl, Nat.le_of_ble_eq_true rfl⟩ (Nat.le_of_ble_eq_true rfl) rfl rfl dX6_begins_8 (fun r1 μ2 => ?_)
  change Zw g ΛC enI RX6 cX6_begins 2 (some .int) rX6_begins 11 [(0, .ref (g.2.2.1 0)), (1, .int a1)] [] μ2 _
  refine z_aload_n (pc := 11) 0 dX6_begins_11 rfl rfl ?_
  refine z_aload_n (pc := 12) 0 dX6_begins_12 rfl rfl ?_
  refine z_get (pc := 13) (v := .ref (g.2.2.1 1)) flX6_15 jnX6 ltC_0 kdC_0 rfl (by decide) rfl foC_0_0 rfl dX6_begins_13 ?_
  refine z_iload_n (pc := 16) 1 dX6_begins_16 rfl rfl ?_
  refine z_callV (pc := 17) (b := 1) (As := [.int a1]) (rest := [.ref (g.2.2.1 0)]) kX6_73 (m_X4_setBegins g μ2 a1) ltC_1 kdC_1 rfl rfl ⟨rfl, rfl⟩ ⟨Nat.le_of_ble_eq_true rfl, Nat.le_of_ble_eq_true rfl⟩ (Nat.le_of_ble_eq_true rfl) rfl rfl dX6_begins_17 (fun r3 μ4 => ?_)
  change Zw g ΛC enI RX6 cX6_begins 2 (some .int) rX6_begins 20 [(0, .ref (g.2.2.1 0)), (1, .int a1)] [.int r3, .ref (g.2.2.1 0)] μ4 _
  refine z_callV (pc := 20) (b := 0) (As := [.int r3]) (rest := []) kX6_66 (m_X6_settled g μ4 r3) ltC_0 kdC_0 rfl rfl ⟨rfl, rfl⟩ ⟨Nat.le_of_ble_eq_true rfl, Nat.le_of_ble_eq_true rfl⟩ (Nat.le_of_ble_eq_true rfl) rfl rfl dX6_begins_20 (fun r5 μ6 => ?_)
  change Zw g ΛC enI RX6 cX6_begins 2 (some .int) rX6_begins 23 [(0, .ref (g.2.2.1 0)), (1, .int a1)] [.int r5] μ6 _
  exact z_iret dX6_begins_23
def f_X6_ends (a1 : Int32) (μ : Mm) : Option (Int32 × Mm) := bd (f_X3_stage μ) fun r1 μ2 => bd (f_X4_setEnds a1 μ2) fun r3 μ4 => bd (f_X6_settled r3 μ4) fun r5 μ6 => some (r5, μ6)
theorem m_X6_ends (g : Gx) (μ : Mm) (a1 : Int32) : Zm g ΛC enI yX6_ends cX6_ends 2 (some .int) rX6_ends [.ref (g.2.2.1 0), .int a1] μ (f_X6_ends a1 μ) := by
  refine z_met (by decide +kernel) (Nat.le_of_ble_eq_true rfl) ?_
  change Zw g ΛC enI RX6 cX6_ends 2 (some .int) rX6_ends 0 [(0, .ref (g.2.2.1 0)), (1, .int a1)] [] μ (f_X6_ends a1 μ)
  rw [f_X6_ends]
  refine z_aload_n (pc := 0) 0 dX6_ends_0 rfl rfl ?_
  refine z_get (pc := 1) (v := .ref (g.2.2.1 22)) flX6_44 jnX6 ltC_0 kdC_0 rfl (by decide) rfl foC_0_4 rfl dX6_ends_1 ?_
  refine z_aload_n (pc := 4) 0 dX6_ends_4 rfl rfl ?_
  refine z_get (pc := 5) (v := .ref (g.2.2.1 1)) flX6_15 jnX6 ltC_0 kdC_0 rfl (by decide) rfl foC_0_0 rfl dX6_ends_5 ?_
  refine z_callV (pc := 8) (b := 22) (As := [.ref (g.2.2.1 1)]) (rest := []) kX6_59 (m_X3_stage g μ) ltC_22 kdC_22 rfl rfl ⟨rfl, rfl⟩ ⟨Nat.le_of_ble_eq_true rfl, Nat.le_of_ble_eq_true rfl⟩ (Nat.le_of_ble_eq_true rfl) rfl rfl dX6_ends_8 (fun r1 μ2 => ?_)
  change Zw g ΛC enI RX6 cX6_ends 2 (some .int) rX6_ends 11 [(0, .ref (g.2.2.1 0)), (1, .int a1)] [] μ2 _
  refine z_aload_n (pc := 11) 0 dX6_ends_11 rfl rfl ?_
  refine z_aload_n (pc := 12) 0 dX6_ends_12 rfl rfl ?_
  refine z_get (pc := 13) (v := .ref (g.2.2.1 1)) flX6_15 jnX6 ltC_0 kdC_0 rfl (by decide) rfl foC_0_0 rfl dX6_ends_13 ?_
  refine z_iload_n (pc := 16) 1 dX6_ends_16 rfl rfl ?_
  refine z_callV (pc := 17) (b := 1) (As := [.int a1]) (rest := [.ref (g.2.2.1 0)]) kX6_76 (m_X4_setEnds g μ2 a1) ltC_1 kdC_1 rfl rfl ⟨rfl, rfl⟩ ⟨Nat.le_of_ble_eq_true rfl, Nat.le_of_ble_eq_true rfl⟩ (Nat.le_of_ble_eq_true rfl) rfl rfl dX6_ends_17 (fun r3 μ4 => ?_)
  change Zw g ΛC enI RX6 cX6_ends 2 (some .int) rX6_ends 20 [(0, .ref (g.2.2.1 0)), (1, .int a1)] [.int r3, .ref (g.2.2.1 0)] μ4 _
  refine z_callV (pc := 20) (b := 0) (As := [.int r3]) (rest := []) kX6_66 (m_X6_settled g μ4 r3) ltC_0 kdC_0 rfl rfl ⟨rfl, rfl⟩ ⟨Nat.le_of_ble_eq_true rfl, Nat.le_of_ble_eq_true rfl⟩ (Nat.le_of_ble_eq_true rfl) rfl rfl dX6_ends_20 (fun r5 μ6 => ?_)
  change Zw g ΛC enI RX6 cX6_ends 2 (some .int) rX6_ends 23 [(0, .ref (g.2.2.1 0)), (1, .int a1)] [.int r5] μ6 _
  exact z_iret dX6_ends_23
def f_X6_follows (a1 : Int32) (a2 : Int32) (μ : Mm) : Option (Int32 × Mm) := bd (f_X3_stage μ) fun r1 μ2 => bd (f_X4_setFollows a1 a2 μ2) fun r3 μ4 => bd (f_X6_settled r3 μ4) fun r5 μ6 => some (r5, μ6)
theorem m_X6_follows (g : Gx) (μ : Mm) (a1 : Int32) (a2 : Int32) : Zm g ΛC enI yX6_follows cX6_follows 3 (some .int) rX6_follows [.ref (g.2.2.1 0), .int a1, .int a2] μ (f_X6_follows a1 a2 μ) := by
  refine z_met (by decide +kernel) (Nat.le_of_ble_eq_true rfl) ?_
  change Zw g ΛC enI RX6 cX6_follows 3 (some .int) rX6_follows 0 [(0, .ref (g.2.2.1 0)), (1, .int a1), (2, .int a2)] [] μ (f_X6_follows a1 a2 μ)
  rw [f_X6_follows]
  refine z_aload_n (pc := 0) 0 dX6_follows_0 rfl rfl ?_
  refine z_get (pc := 1) (v := .ref (g.2.2.1 22)) flX6_44 jnX6 ltC_0 kdC_0 rfl (by decide) rfl foC_0_4 rfl dX6_follows_1 ?_
  refine z_aload_n (pc := 4) 0 dX6_follows_4 rfl rfl ?_
  refine z_get (pc := 5) (v := .ref (g.2.2.1 1)) flX6_15 jnX6 ltC_0 kdC_0 rfl (by decide) rfl foC_0_0 rfl dX6_follows_5 ?_
  refine z_callV (pc := 8) (b := 22) (As := [.ref (g.2.2.1 1)]) (rest := []) kX6_59 (m_X3_stage g μ) ltC_22 kdC_22 rfl rfl ⟨rfl, rfl⟩ ⟨Nat.le_of_ble_eq_true rfl, Nat.le_of_ble_eq_true rfl⟩ (Nat.le_of_ble_eq_true rfl) rfl rfl dX6_follows_8 (fun r1 μ2 => ?_)
  change Zw g ΛC enI RX6 cX6_follows 3 (some .int) rX6_follows 11 [(0, .ref (g.2.2.1 0)), (1, .int a1), (2, .int a2)] [] μ2 _
  refine z_aload_n (pc := 11) 0 dX6_follows_11 rfl rfl ?_
  refine z_aload_n (pc := 12) 0 dX6_follows_12 rfl rfl ?_
  refine z_get (pc := 13) (v := .ref (g.2.2.1 1)) flX6_15 jnX6 ltC_0 kdC_0 rfl (by decide) rfl foC_0_0 rfl dX6_follows_13 ?_
  refine z_iload_n (pc := 16) 1 dX6_follows_16 rfl rfl ?_
  refine z_iload_n (pc := 17) 2 dX6_follows_17 rfl rfl ?_
  refine z_callV (pc := 18) (b := 1) (As := [.int a1, .int a2]) (rest := [.ref (g.2.2.1 0)]) kX6_79 (m_X4_setFollows g μ2 a1 a2) ltC_1 kdC_1 rfl rfl ⟨rfl, rfl⟩ ⟨Nat.le_of_ble_eq_true rfl, Nat.le_of_ble_eq_true rfl⟩ (Nat.le_of_ble_eq_true rfl) rfl rfl dX6_follows_18 (fun r3 μ4 => ?_)
  change Zw g ΛC enI RX6 cX6_follows 3 (some .int) rX6_follows 21 [(0, .ref (g.2.2.1 0)), (1, .int a1), (2, .int a2)] [.int r3, .ref (g.2.2.1 0)] μ4 _
  refine z_callV (pc := 21) (b := 0) (As := [.int r3]) (rest := []) kX6_66 (m_X6_settled g μ4 r3) ltC_0 kdC_0 rfl rfl ⟨rfl, rfl⟩ ⟨Nat.le_of_ble_eq_true rfl, Nat.le_of_ble_eq_true rfl⟩ (Nat.le_of_ble_eq_true rfl) rfl rfl dX6_follows_21 (fun r5 μ6 => ?_)
  change Zw g ΛC enI RX6 cX6_follows 3 (some .int) rX6_follows 24 [(0, .ref (g.2.2.1 0)), (1, .int a1), (2, .int a2)] [.int r5] μ6 _
  exact z_iret dX6_follows_24
def f_X6_of (a1 : Int32) (a2 : Int32) (μ : Mm) : Option (Int32 × Mm) := bd (f_X4_hasPhrase a1 μ) fun r1 μ2 => if r1 = 0 then (bd (f_X6_refusal (-2 : Int32) μ2) fun r4 μ5 => some (r4, μ5)) else (bd (f_X6_within a2 (0 : Int32) (6 : Int32) μ2) fun r6 μ7 => if r6 = 0 then (bd (f_X6_refusal (-2 : Int32) μ7) fun r11 μ12 => some (r11, μ12)) else (bd (f_X4_factOf a1 a2 μ7) fun r9 μ10 => some (r9, μ10)))
theorem m_X6_of (g : Gx) (μ : Mm) (a1 : Int32) (a2 : Int32) : Zm g ΛC enI yX6_of cX6_of 3 (some .int) rX6_of [.ref (g.2.2.1 0), .int a1, .int a2] μ (f_X6_of a1 a2 μ) := by
  refine z_met (by decide +kernel) (Nat.le_of_ble_eq_true rfl) ?_
  change Zw g ΛC enI RX6 cX6_of 3 (some .int) rX6_of 0 [(0, .ref (g.2.2.1 0)), (1, .int a1), (2, .int a2)] [] μ (f_X6_of a1 a2 μ)
  rw [f_X6_of]
  refine z_aload_n (pc := 0) 0 dX6_of_0 rfl rfl ?_
  refine z_get (pc := 1) (v := .ref (g.2.2.1 1)) flX6_15 jnX6 ltC_0 kdC_0 rfl (by decide) rfl foC_0_0 rfl dX6_of_1 ?_
  refine z_iload_n (pc := 4) 1 dX6_of_4 rfl rfl ?_
  refine z_callV (pc := 5) (b := 1) (As := [.int a1]) (rest := []) kX6_82 (m_X4_hasPhrase g μ a1) ltC_1 kdC_1 rfl rfl ⟨rfl, rfl⟩ ⟨Nat.le_of_ble_eq_true rfl, Nat.le_of_ble_eq_true rfl⟩ (Nat.le_of_ble_eq_true rfl) rfl rfl dX6_of_5 (fun r1 μ2 => ?_)
  change Zw g ΛC enI RX6 cX6_of 3 (some .int) rX6_of 8 [(0, .ref (g.2.2.1 0)), (1, .int a1), (2, .int a2)] [.int r1] μ2 _
  refine z_if_eq (pc := 8) (tgt := 21) dX6_of_8 (by decide) (fun h3 => ?_) (fun h3 => ?_)
  · refine z_aload_n (pc := 21) 0 dX6_of_21 rfl rfl ?_
    refine z_bipush (pc := 22) (v := -2) dX6_of_22 (by decide +kernel) ?_
    refine z_callV (pc := 24) (b := 0) (As := [.int (-2 : Int32)]) (rest := []) kX6_90 (m_X6_refusal g μ2 (-2 : Int32)) ltC_0 kdC_0 rfl rfl ⟨rfl, rfl⟩ ⟨Nat.le_of_ble_eq_true rfl, Nat.le_of_ble_eq_true rfl⟩ (Nat.le_of_ble_eq_true rfl) rfl rfl dX6_of_24 (fun r4 μ5 => ?_)
    change Zw g ΛC enI RX6 cX6_of 3 (some .int) rX6_of 27 [(0, .ref (g.2.2.1 0)), (1, .int a1), (2, .int a2)] [.int r4] μ5 _
    exact z_iret dX6_of_27
  · refine z_iload_n (pc := 11) 2 dX6_of_11 rfl rfl ?_
    refine z_iconst (pc := 12) (v := 0) dX6_of_12 rfl ?_
    refine z_bipush (pc := 13) (v := 6) dX6_of_13 (by decide +kernel) ?_
    refine z_callS (pc := 15) (As := [.int a2, .int (0 : Int32), .int (6 : Int32)]) (rest := []) kX6_86 (m_X6_within g μ2 a2 (0 : Int32) (6 : Int32)) ⟨rfl, rfl⟩ ⟨Nat.le_of_ble_eq_true rfl, Nat.le_of_ble_eq_true rfl⟩ (Nat.le_of_ble_eq_true rfl) rfl rfl dX6_of_15 (fun r6 μ7 => ?_)
    change Zw g ΛC enI RX6 cX6_of 3 (some .int) rX6_of 18 [(0, .ref (g.2.2.1 0)), (1, .int a1), (2, .int a2)] [.int r6] μ7 _
    refine z_if_ne (pc := 18) (tgt := 28) dX6_of_18 (by decide) (fun h8 => ?_) (fun h8 => ?_)
    · refine z_aload_n (pc := 28) 0 dX6_of_28 rfl rfl ?_
      refine z_get (pc := 29) (v := .ref (g.2.2.1 1)) flX6_15 jnX6 ltC_0 kdC_0 rfl (by decide) rfl foC_0_0 rfl dX6_of_29 ?_
      refine z_iload_n (pc := 32) 1 dX6_of_32 rfl rfl ?_
      refine z_iload_n (pc := 33) 2 dX6_of_33 rfl rfl ?_
      refine z_callV (pc := 34) (b := 1) (As := [.int a1, .int a2]) (rest := []) kX6_93 (m_X4_factOf g μ7 a1 a2) ltC_1 kdC_1 rfl rfl ⟨rfl, rfl⟩ ⟨Nat.le_of_ble_eq_true rfl, Nat.le_of_ble_eq_true rfl⟩ (Nat.le_of_ble_eq_true rfl) rfl rfl dX6_of_34 (fun r9 μ10 => ?_)
      change Zw g ΛC enI RX6 cX6_of 3 (some .int) rX6_of 37 [(0, .ref (g.2.2.1 0)), (1, .int a1), (2, .int a2)] [.int r9] μ10 _
      exact z_iret dX6_of_37
    · refine z_aload_n (pc := 21) 0 dX6_of_21 rfl rfl ?_
      refine z_bipush (pc := 22) (v := -2) dX6_of_22 (by decide +kernel) ?_
      refine z_callV (pc := 24) (b := 0) (As := [.int (-2 : Int32)]) (rest := []) kX6_90 (m_X6_refusal g μ7 (-2 : Int32)) ltC_0 kdC_0 rfl rfl ⟨rfl, rfl⟩ ⟨Nat.le_of_ble_eq_true rfl, Nat.le_of_ble_eq_true rfl⟩ (Nat.le_of_ble_eq_true rfl) rfl rfl dX6_of_24 (fun r11 μ12 => ?_)
      change Zw g ΛC enI RX6 cX6_of 3 (some .int) rX6_of 27 [(0, .ref (g.2.2.1 0)), (1, .int a1), (2, .int a2)] [.int r11] μ12 _
      exact z_iret dX6_of_27
def f_X6_letter (a1 : Int32) (μ : Mm) : Option (Int32 × Mm) := bd (f_X3_stage μ) fun r1 μ2 => bd (f_X4_addLetter a1 μ2) fun r3 μ4 => bd (f_X6_settled r3 μ4) fun r5 μ6 => some (r5, μ6)
theorem m_X6_letter (g : Gx) (μ : Mm) (a1 : Int32) : Zm g ΛC enI yX6_letter cX6_letter 2 (some .int) rX6_letter [.ref (g.2.2.1 0), .int a1] μ (f_X6_letter a1 μ) := by
  refine z_met (by decide +kernel) (Nat.le_of_ble_eq_true rfl) ?_
  change Zw g ΛC enI RX6 cX6_letter 2 (some .int) rX6_letter 0 [(0, .ref (g.2.2.1 0)), (1, .int a1)] [] μ (f_X6_letter a1 μ)
  rw [f_X6_letter]
  refine z_aload_n (pc := 0) 0 dX6_letter_0 rfl rfl ?_
  refine z_get (pc := 1) (v := .ref (g.2.2.1 22)) flX6_44 jnX6 ltC_0 kdC_0 rfl (by decide) rfl foC_0_4 rfl dX6_letter_1 ?_
  refine z_aload_n (pc := 4) 0 dX6_letter_4 rfl rfl ?_
  refine z_get (pc := 5) (v := .ref (g.2.2.1 1)) flX6_15 jnX6 ltC_0 kdC_0 rfl (by decide) rfl foC_0_0 rfl dX6_letter_5 ?_
  refine z_callV (pc := 8) (b := 22) (As := [.ref (g.2.2.1 1)]) (rest := []) kX6_59 (m_X3_stage g μ) ltC_22 kdC_22 rfl rfl ⟨rfl, rfl⟩ ⟨Nat.le_of_ble_eq_true rfl, Nat.le_of_ble_eq_true rfl⟩ (Nat.le_of_ble_eq_true rfl) rfl rfl dX6_letter_8 (fun r1 μ2 => ?_)
  change Zw g ΛC enI RX6 cX6_letter 2 (some .int) rX6_letter 11 [(0, .ref (g.2.2.1 0)), (1, .int a1)] [] μ2 _
  refine z_aload_n (pc := 11) 0 dX6_letter_11 rfl rfl ?_
  refine z_aload_n (pc := 12) 0 dX6_letter_12 rfl rfl ?_
  refine z_get (pc := 13) (v := .ref (g.2.2.1 1)) flX6_15 jnX6 ltC_0 kdC_0 rfl (by decide) rfl foC_0_0 rfl dX6_letter_13 ?_
  refine z_iload_n (pc := 16) 1 dX6_letter_16 rfl rfl ?_
  refine z_callV (pc := 17) (b := 1) (As := [.int a1]) (rest := [.ref (g.2.2.1 0)]) kX6_96 (m_X4_addLetter g μ2 a1) ltC_1 kdC_1 rfl rfl ⟨rfl, rfl⟩ ⟨Nat.le_of_ble_eq_true rfl, Nat.le_of_ble_eq_true rfl⟩ (Nat.le_of_ble_eq_true rfl) rfl rfl dX6_letter_17 (fun r3 μ4 => ?_)
  change Zw g ΛC enI RX6 cX6_letter 2 (some .int) rX6_letter 20 [(0, .ref (g.2.2.1 0)), (1, .int a1)] [.int r3, .ref (g.2.2.1 0)] μ4 _
  refine z_callV (pc := 20) (b := 0) (As := [.int r3]) (rest := []) kX6_66 (m_X6_settled g μ4 r3) ltC_0 kdC_0 rfl rfl ⟨rfl, rfl⟩ ⟨Nat.le_of_ble_eq_true rfl, Nat.le_of_ble_eq_true rfl⟩ (Nat.le_of_ble_eq_true rfl) rfl rfl dX6_letter_20 (fun r5 μ6 => ?_)
  change Zw g ΛC enI RX6 cX6_letter 2 (some .int) rX6_letter 23 [(0, .ref (g.2.2.1 0)), (1, .int a1)] [.int r5] μ6 _
  exact z_iret dX6_letter_23
def f_X6_wipes (μ : Mm) : Option (Int32 × Mm) := bd (f_X3_stage μ) fun r1 μ2 => bd (f_X4_wipeLine μ2) fun r3 μ4 => bd (f_X6_settled r3 μ4) fun r5 μ6 => some (r5, μ6)
theorem m_X6_wipes (g : Gx) (μ : Mm) : Zm g ΛC enI yX6_wipes cX6_wipes 1 (some .int) rX6_wipes [.ref (g.2.2.1 0)] μ (f_X6_wipes μ) := by
  refine z_met (by decide +kernel) (Nat.le_of_ble_eq_true rfl) ?_
  change Zw g ΛC enI RX6 cX6_wipes 1 (some .int) rX6_wipes 0 [(0, .ref (g.2.2.1 0))] [] μ (f_X6_wipes μ)
  rw [f_X6_wipes]
  refine z_aload_n (pc := 0) 0 dX6_wipes_0 rfl rfl ?_
  refine z_get (pc := 1) (v := .ref (g.2.2.1 22)) flX6_44 jnX6 ltC_0 kdC_0 rfl (by decide) rfl foC_0_4 rfl dX6_wipes_1 ?_
  refine z_aload_n (pc := 4) 0 dX6_wipes_4 rfl rfl ?_
  refine z_get (pc := 5) (v := .ref (g.2.2.1 1)) flX6_15 jnX6 ltC_0 kdC_0 rfl (by decide) rfl foC_0_0 rfl dX6_wipes_5 ?_
  refine z_callV (pc := 8) (b := 22) (As := [.ref (g.2.2.1 1)]) (rest := []) kX6_59 (m_X3_stage g μ) ltC_22 kdC_22 rfl rfl ⟨rfl, rfl⟩ ⟨Nat.le_of_ble_eq_true rfl, Nat.le_of_ble_eq_true rfl⟩ (Nat.le_of_ble_eq_true rfl) rfl rfl dX6_wipes_8 (fun r1 μ2 => ?_)
  change Zw g ΛC enI RX6 cX6_wipes 1 (some .int) rX6_wipes 11 [(0, .ref (g.2.2.1 0))] [] μ2 _
  refine z_aload_n (pc := 11) 0 dX6_wipes_11 rfl rfl ?_
  refine z_aload_n (pc := 12) 0 dX6_wipes_12 rfl rfl ?_
  refine z_get (pc := 13) (v := .ref (g.2.2.1 1)) flX6_15 jnX6 ltC_0 kdC_0 rfl (by decide) rfl foC_0_0 rfl dX6_wipes_13 ?_
  refine z_callV (pc := 16) (b := 1) (As := []) (rest := [.ref (g.2.2.1 0)]) kX6_99 (m_X4_wipeLine g μ2) ltC_1 kdC_1 rfl rfl ⟨rfl, rfl⟩ ⟨Nat.le_of_ble_eq_true rfl, Nat.le_of_ble_eq_true rfl⟩ (Nat.le_of_ble_eq_true rfl) rfl rfl dX6_wipes_16 (fun r3 μ4 => ?_)
  change Zw g ΛC enI RX6 cX6_wipes 1 (some .int) rX6_wipes 19 [(0, .ref (g.2.2.1 0))] [.int r3, .ref (g.2.2.1 0)] μ4 _
  refine z_callV (pc := 19) (b := 0) (As := [.int r3]) (rest := []) kX6_66 (m_X6_settled g μ4 r3) ltC_0 kdC_0 rfl rfl ⟨rfl, rfl⟩ ⟨Nat.le_of_ble_eq_true rfl, Nat.le_of_ble_eq_true rfl⟩ (Nat.le_of_ble_eq_true rfl) rfl rfl dX6_wipes_19 (fun r5 μ6 => ?_)
  change Zw g ΛC enI RX6 cX6_wipes 1 (some .int) rX6_wipes 22 [(0, .ref (g.2.2.1 0))] [.int r5] μ6 _
  exact z_iret dX6_wipes_22
def f_X6_countCuts (μ : Mm) : Option (Int64 × Mm) := bd (f_X0_layLine μ) fun r1 μ2 => bd (f_X2_countAll (-1 : Int32) μ2) fun r3 μ4 => some (r3, μ4)
theorem m_X6_countCuts (g : Gx) (μ : Mm) : Zm g ΛC enJ yX6_countCuts cX6_countCuts 1 (some .long) rX6_countCuts [.ref (g.2.2.1 0)] μ (f_X6_countCuts μ) := by
  refine z_met (by decide +kernel) (Nat.le_of_ble_eq_true rfl) ?_
  change Zw g ΛC enJ RX6 cX6_countCuts 1 (some .long) rX6_countCuts 0 [(0, .ref (g.2.2.1 0))] [] μ (f_X6_countCuts μ)
  rw [f_X6_countCuts]
  refine z_aload_n (pc := 0) 0 dX6_countCuts_0 rfl rfl ?_
  refine z_get (pc := 1) (v := .ref (g.2.2.1 10)) flX6_21 jnX6 ltC_0 kdC_0 rfl (by decide) rfl foC_0_1 rfl dX6_countCuts_1 ?_
  refine z_callV (pc := 4) (b := 10) (As := []) (rest := []) kX6_209 (m_X0_layLine g μ) ltC_10 kdC_10 rfl rfl ⟨rfl, rfl⟩ ⟨Nat.le_of_ble_eq_true rfl, Nat.le_of_ble_eq_true rfl⟩ (Nat.le_of_ble_eq_true rfl) rfl rfl dX6_countCuts_4 (fun r1 μ2 => ?_)
  change Zw g ΛC enJ RX6 cX6_countCuts 1 (some .long) rX6_countCuts 7 [(0, .ref (g.2.2.1 0))] [] μ2 _
  refine z_aload_n (pc := 7) 0 dX6_countCuts_7 rfl rfl ?_
  refine z_get (pc := 8) (v := .ref (g.2.2.1 13)) flX6_30 jnX6 ltC_0 kdC_0 rfl (by decide) rfl foC_0_2 rfl dX6_countCuts_8 ?_
  refine z_iconst (pc := 11) (v := -1) dX6_countCuts_11 rfl ?_
  refine z_callV (pc := 12) (b := 13) (As := [.int (-1 : Int32)]) (rest := []) kX6_212 (m_X2_countAll g μ2 (-1 : Int32)) ltC_13 kdC_13 rfl rfl ⟨rfl, rfl⟩ ⟨Nat.le_of_ble_eq_true rfl, Nat.le_of_ble_eq_true rfl⟩ (Nat.le_of_ble_eq_true rfl) rfl rfl dX6_countCuts_12 (fun r3 μ4 => ?_)
  change Zw g ΛC enJ RX6 cX6_countCuts 1 (some .long) rX6_countCuts 15 [(0, .ref (g.2.2.1 0))] [.long r3] μ4 _
  exact z_lret dX6_countCuts_15
def f_X6_cuts (μ : Mm) : Option (Int64 × Mm) := bd (f_X6_countCuts μ) fun r1 μ2 => if (0 : Int64) ≤ r1 then (some (r1, μ2)) else (bd (f_X6_refusal (-5 : Int32) μ2) fun r4 μ5 => some (r4.toInt64, μ5))
theorem m_X6_cuts (g : Gx) (μ : Mm) : Zm g ΛC enJ yX6_cuts cX6_cuts 3 (some .long) rX6_cuts [.ref (g.2.2.1 0)] μ (f_X6_cuts μ) := by
  refine z_met (by decide +kernel) (Nat.le_of_ble_eq_true rfl) ?_
  change Zw g ΛC enJ RX6 cX6_cuts 3 (some .long) rX6_cuts 0 [(0, .ref (g.2.2.1 0))] [] μ (f_X6_cuts μ)
  rw [f_X6_cuts]
  refine z_aload_n (pc := 0) 0 dX6_cuts_0 rfl rfl ?_
  refine z_callV (pc := 1) (b := 0) (As := []) (rest := []) kX6_103 (m_X6_countCuts g μ) ltC_0 kdC_0 rfl rfl ⟨rfl, rfl⟩ ⟨Nat.le_of_ble_eq_true rfl, Nat.le_of_ble_eq_true rfl⟩ (Nat.le_of_ble_eq_true rfl) rfl rfl dX6_cuts_1 (fun r1 μ2 => ?_)
  change Zw g ΛC enJ RX6 cX6_cuts 3 (some .long) rX6_cuts 4 [(0, .ref (g.2.2.1 0))] [.long r1] μ2 _
  refine z_lstore_n (pc := 4) (lv2 := [(0, .ref (g.2.2.1 0)), (1, .long r1)]) [1, 0] dX6_cuts_4 rfl (by decide) rfl ?_
  refine z_lload_n (pc := 5) 1 dX6_cuts_5 rfl rfl ?_
  refine z_lconst (pc := 6) (v := 0) dX6_cuts_6 (by decide +kernel) ?_
  refine z_lcmp_ge (pc := 7) (tgt := 21) dX6_cuts_7 dX6_cuts_8 (by decide) (fun h3 => ?_) (fun h3 => ?_)
  · refine z_lload_n (pc := 21) 1 dX6_cuts_21 rfl rfl ?_
    exact z_lret dX6_cuts_22
  · refine z_aload_n (pc := 11) 0 dX6_cuts_11 rfl rfl ?_
    refine z_bipush (pc := 12) (v := -5) dX6_cuts_12 (by decide +kernel) ?_
    refine z_callV (pc := 14) (b := 0) (As := [.int (-5 : Int32)]) (rest := []) kX6_90 (m_X6_refusal g μ2 (-5 : Int32)) ltC_0 kdC_0 rfl rfl ⟨rfl, rfl⟩ ⟨Nat.le_of_ble_eq_true rfl, Nat.le_of_ble_eq_true rfl⟩ (Nat.le_of_ble_eq_true rfl) rfl rfl dX6_cuts_14 (fun r4 μ5 => ?_)
    change Zw g ΛC enJ RX6 cX6_cuts 3 (some .long) rX6_cuts 17 [(0, .ref (g.2.2.1 0)), (1, .long r1)] [.int r4] μ5 _
    refine z_i2l (pc := 17) dX6_cuts_17 ?_
    refine z_goto (pc := 18) (tgt := 22) dX6_cuts_18 (by decide) ?_
    exact z_lret dX6_cuts_22
def f_X6_isMaker (a0 : Int32) (μ : Mm) : Option (Int32 × Mm) := bd (f_X6_within a0 (0 : Int32) (2 : Int32) μ) fun r1 μ2 => if r1 = 0 ∨ r1 = 1 then some (r1, μ2) else none
theorem m_X6_isMaker (g : Gx) (μ : Mm) (a0 : Int32) : Zm g ΛC enI yX6_isMaker cX6_isMaker 1 (some .boolean) rX6_isMaker [.int a0] μ (f_X6_isMaker a0 μ) := by
  refine z_met (by decide +kernel) (Nat.le_of_ble_eq_true rfl) ?_
  change Zw g ΛC enI RX6 cX6_isMaker 1 (some .boolean) rX6_isMaker 0 [(0, .int a0)] [] μ (f_X6_isMaker a0 μ)
  rw [f_X6_isMaker]
  refine z_iload_n (pc := 0) 0 dX6_isMaker_0 rfl rfl ?_
  refine z_iconst (pc := 1) (v := 0) dX6_isMaker_1 rfl ?_
  refine z_iconst (pc := 2) (v := 2) dX6_isMaker_2 rfl ?_
  refine z_callS (pc := 3) (As := [.int a0, .int (0 : Int32), .int (2 : Int32)]) (rest := []) kX6_86 (m_X6_within g μ a0 (0 : Int32) (2 : Int32)) ⟨rfl, rfl⟩ ⟨Nat.le_of_ble_eq_true rfl, Nat.le_of_ble_eq_true rfl⟩ (Nat.le_of_ble_eq_true rfl) rfl rfl dX6_isMaker_3 (fun r1 μ2 => ?_)
  change Zw g ΛC enI RX6 cX6_isMaker 1 (some .boolean) rX6_isMaker 6 [(0, .int a0)] [.int r1] μ2 _
  exact z_zret_g dX6_isMaker_6
def f_X6_partOf_21 (a1 : Int32) (a2 : Int32) (μ : Mm) : Option (Int32 × Mm) := if a2 = (-1 : Int32) then (some (a1, μ)) else (bd (f_X6_within a2 (0 : Int32) (a1 - (1 : Int32)) μ) fun r2 μ3 => if r2 = 0 then (some ((-10 : Int32), μ3)) else (if zin a2 40 then (some (μ3.1 21 a2.toNatClampNeg, μ3)) else none))
theorem m_X6_partOf_21 (g : Gx) (μ : Mm) (a1 : Int32) (a2 : Int32) : Zm g ΛC enI yX6_partOf cX6_partOf 3 (some .int) rX6_partOf [.ref (g.2.2.1 21), .int a1, .int a2] μ (f_X6_partOf_21 a1 a2 μ) := by
  refine z_met (by decide +kernel) (Nat.le_of_ble_eq_true rfl) ?_
  change Zw g ΛC enI RX6 cX6_partOf 3 (some .int) rX6_partOf 0 [(0, .ref (g.2.2.1 21)), (1, .int a1), (2, .int a2)] [] μ (f_X6_partOf_21 a1 a2 μ)
  rw [f_X6_partOf_21]
  refine z_iload_n (pc := 0) 2 dX6_partOf_0 rfl rfl ?_
  refine z_iconst (pc := 1) (v := -1) dX6_partOf_1 rfl ?_
  refine z_icmp_ne (pc := 2) (tgt := 7) dX6_partOf_2 (by decide) (fun h1 => ?_) (fun h1 => ?_)
  · refine z_iload_n (pc := 7) 2 dX6_partOf_7 rfl rfl ?_
    refine z_iconst (pc := 8) (v := 0) dX6_partOf_8 rfl ?_
    refine z_iload_n (pc := 9) 1 dX6_partOf_9 rfl rfl ?_
    refine z_iconst (pc := 10) (v := 1) dX6_partOf_10 rfl ?_
    refine z_isub (pc := 11) dX6_partOf_11 ?_
    refine z_callS (pc := 12) (As := [.int a2, .int (0 : Int32), .int (a1 - (1 : Int32))]) (rest := []) kX6_86 (m_X6_within g μ a2 (0 : Int32) (a1 - (1 : Int32))) ⟨rfl, rfl⟩ ⟨Nat.le_of_ble_eq_true rfl, Nat.le_of_ble_eq_true rfl⟩ (Nat.le_of_ble_eq_true rfl) rfl rfl dX6_partOf_12 (fun r2 μ3 => ?_)
    change Zw g ΛC enI RX6 cX6_partOf 3 (some .int) rX6_partOf 15 [(0, .ref (g.2.2.1 21)), (1, .int a1), (2, .int a2)] [.int r2] μ3 _
    refine z_if_eq (pc := 15) (tgt := 24) dX6_partOf_15 (by decide) (fun h4 => ?_) (fun h4 => ?_)
    · refine z_bipush (pc := 24) (v := -10) dX6_partOf_24 (by decide +kernel) ?_
      exact z_iret dX6_partOf_26
    · refine z_aload_n (pc := 18) 0 dX6_partOf_18 rfl rfl ?_
      refine z_iload_n (pc := 19) 2 dX6_partOf_19 rfl rfl ?_
      refine z_iaload_g (pc := 20) ltC_21 kdC_21 dX6_partOf_20 ?_
      refine z_goto (pc := 21) (tgt := 26) dX6_partOf_21 (by decide) ?_
      exact z_iret dX6_partOf_26
  · refine z_iload_n (pc := 5) 1 dX6_partOf_5 rfl rfl ?_
    exact z_iret dX6_partOf_6
def f_X6_partOf_16 (a1 : Int32) (a2 : Int32) (μ : Mm) : Option (Int32 × Mm) := if a2 = (-1 : Int32) then (some (a1, μ)) else (bd (f_X6_within a2 (0 : Int32) (a1 - (1 : Int32)) μ) fun r2 μ3 => if r2 = 0 then (some ((-10 : Int32), μ3)) else (if zin a2 40 then (some (μ3.1 16 a2.toNatClampNeg, μ3)) else none))
theorem m_X6_partOf_16 (g : Gx) (μ : Mm) (a1 : Int32) (a2 : Int32) : Zm g ΛC enI yX6_partOf cX6_partOf 3 (some .int) rX6_partOf [.ref (g.2.2.1 16), .int a1, .int a2] μ (f_X6_partOf_16 a1 a2 μ) := by
  refine z_met (by decide +kernel) (Nat.le_of_ble_eq_true rfl) ?_
  change Zw g ΛC enI RX6 cX6_partOf 3 (some .int) rX6_partOf 0 [(0, .ref (g.2.2.1 16)), (1, .int a1), (2, .int a2)] [] μ (f_X6_partOf_16 a1 a2 μ)
  rw [f_X6_partOf_16]
  refine z_iload_n (pc := 0) 2 dX6_partOf_0 rfl rfl ?_
  refine z_iconst (pc := 1) (v := -1) dX6_partOf_1 rfl ?_
  refine z_icmp_ne (pc := 2) (tgt := 7) dX6_partOf_2 (by decide) (fun h1 => ?_) (fun h1 => ?_)
  · refine z_iload_n (pc := 7) 2 dX6_partOf_7 rfl rfl ?_
    refine z_iconst (pc := 8) (v := 0) dX6_partOf_8 rfl ?_
    refine z_iload_n (pc := 9) 1 dX6_partOf_9 rfl rfl ?_
    refine z_iconst (pc := 10) (v := 1) dX6_partOf_10 rfl ?_
    refine z_isub (pc := 11) dX6_partOf_11 ?_
    refine z_callS (pc := 12) (As := [.int a2, .int (0 : Int32), .int (a1 - (1 : Int32))]) (rest := []) kX6_86 (m_X6_within g μ a2 (0 : Int32) (a1 - (1 : Int32))) ⟨rfl, rfl⟩ ⟨Nat.le_of_ble_eq_true rfl, Nat.le_of_ble_eq_true rfl⟩ (Nat.le_of_ble_eq_true rfl) rfl rfl dX6_partOf_12 (fun r2 μ3 => ?_)
    change Zw g ΛC enI RX6 cX6_partOf 3 (some .int) rX6_partOf 15 [(0, .ref (g.2.2.1 16)), (1, .int a1), (2, .int a2)] [.int r2] μ3 _
    refine z_if_eq (pc := 15) (tgt := 24) dX6_partOf_15 (by decide) (fun h4 => ?_) (fun h4 => ?_)
    · refine z_bipush (pc := 24) (v := -10) dX6_partOf_24 (by decide +kernel) ?_
      exact z_iret dX6_partOf_26
    · refine z_aload_n (pc := 18) 0 dX6_partOf_18 rfl rfl ?_
      refine z_iload_n (pc := 19) 2 dX6_partOf_19 rfl rfl ?_
      refine z_iaload_g (pc := 20) ltC_16 kdC_16 dX6_partOf_20 ?_
      refine z_goto (pc := 21) (tgt := 26) dX6_partOf_21 (by decide) ?_
      exact z_iret dX6_partOf_26
  · refine z_iload_n (pc := 5) 1 dX6_partOf_5 rfl rfl ?_
    exact z_iret dX6_partOf_6
def f_X6_best (a1 : Int32) (a2 : Int32) (μ : Mm) : Option (Int32 × Mm) := bd (f_X6_isMaker a1 μ) fun r1 μ2 => if r1 = 0 then (bd (f_X6_refusal (-2 : Int32) μ2) fun r4 μ5 => some (r4, μ5)) else (if (-2 : Int32) ≤ a2 then (bd (f_X1_findBest a1 μ2) fun r7 μ8 => if r7 = 0 then (bd (f_X6_refusal (-3 : Int32) μ8) fun r15 μ16 => some (r15, μ16)) else (if a2 = (-2 : Int32) then (bd (f_X1_bestSum μ8) fun r13 μ14 => some (r13, μ14)) else (bd (f_X6_partOf_21 (μ8.1 17 6) a2 μ8) fun r11 μ12 => some (r11, μ12)))) else (bd (f_X6_refusal (-2 : Int32) μ2) fun r17 μ18 => some (r17, μ18)))
theorem m_X6_best (g : Gx) (μ : Mm) (a1 : Int32) (a2 : Int32) : Zm g ΛC enI yX6_best cX6_best 3 (some .int) rX6_best [.ref (g.2.2.1 0), .int a1, .int a2] μ (f_X6_best a1 a2 μ) := by
  refine z_met (by decide +kernel) (Nat.le_of_ble_eq_true rfl) ?_
  change Zw g ΛC enI RX6 cX6_best 3 (some .int) rX6_best 0 [(0, .ref (g.2.2.1 0)), (1, .int a1), (2, .int a2)] [] μ (f_X6_best a1 a2 μ)
  rw [f_X6_best]
  refine z_iload_n (pc := 0) 1 dX6_best_0 rfl rfl ?_
  refine z_callS (pc := 1) (As := [.int a1]) (rest := []) kX6_107 (m_X6_isMaker g μ a1) ⟨rfl, rfl⟩ ⟨Nat.le_of_ble_eq_true rfl, Nat.le_of_ble_eq_true rfl⟩ (Nat.le_of_ble_eq_true rfl) rfl rfl dX6_best_1 (fun r1 μ2 => ?_)
  change Zw g ΛC enI RX6 cX6_best 3 (some .int) rX6_best 4 [(0, .ref (g.2.2.1 0)), (1, .int a1), (2, .int a2)] [.int r1] μ2 _
  refine z_if_eq (pc := 4) (tgt := 13) dX6_best_4 (by decide) (fun h3 => ?_) (fun h3 => ?_)
  · refine z_aload_n (pc := 13) 0 dX6_best_13 rfl rfl ?_
    refine z_bipush (pc := 14) (v := -2) dX6_best_14 (by decide +kernel) ?_
    refine z_callV (pc := 16) (b := 0) (As := [.int (-2 : Int32)]) (rest := []) kX6_90 (m_X6_refusal g μ2 (-2 : Int32)) ltC_0 kdC_0 rfl rfl ⟨rfl, rfl⟩ ⟨Nat.le_of_ble_eq_true rfl, Nat.le_of_ble_eq_true rfl⟩ (Nat.le_of_ble_eq_true rfl) rfl rfl dX6_best_16 (fun r4 μ5 => ?_)
    change Zw g ΛC enI RX6 cX6_best 3 (some .int) rX6_best 19 [(0, .ref (g.2.2.1 0)), (1, .int a1), (2, .int a2)] [.int r4] μ5 _
    exact z_iret dX6_best_19
  · refine z_iload_n (pc := 7) 2 dX6_best_7 rfl rfl ?_
    refine z_bipush (pc := 8) (v := -2) dX6_best_8 (by decide +kernel) ?_
    refine z_icmp_ge (pc := 10) (tgt := 20) dX6_best_10 (by decide) (fun h6 => ?_) (fun h6 => ?_)
    · refine z_aload_n (pc := 20) 0 dX6_best_20 rfl rfl ?_
      refine z_get (pc := 21) (v := .ref (g.2.2.1 17)) flX6_37 jnX6 ltC_0 kdC_0 rfl (by decide) rfl foC_0_3 rfl dX6_best_21 ?_
      refine z_iload_n (pc := 24) 1 dX6_best_24 rfl rfl ?_
      refine z_callV (pc := 25) (b := 17) (As := [.int a1]) (rest := []) kX6_110 (m_X1_findBest g μ2 a1) ltC_17 kdC_17 rfl rfl ⟨rfl, rfl⟩ ⟨Nat.le_of_ble_eq_true rfl, Nat.le_of_ble_eq_true rfl⟩ (Nat.le_of_ble_eq_true rfl) rfl rfl dX6_best_25 (fun r7 μ8 => ?_)
      change Zw g ΛC enI RX6 cX6_best 3 (some .int) rX6_best 28 [(0, .ref (g.2.2.1 0)), (1, .int a1), (2, .int a2)] [.int r7] μ8 _
      refine z_if_ne (pc := 28) (tgt := 38) dX6_best_28 (by decide) (fun h9 => ?_) (fun h9 => ?_)
      · refine z_iload_n (pc := 38) 2 dX6_best_38 rfl rfl ?_
        refine z_bipush (pc := 39) (v := -2) dX6_best_39 (by decide +kernel) ?_
        refine z_icmp_ne (pc := 41) (tgt := 52) dX6_best_41 (by decide) (fun h10 => ?_) (fun h10 => ?_)
        · refine z_aload_n (pc := 52) 0 dX6_best_52 rfl rfl ?_
          refine z_get (pc := 53) (v := .ref (g.2.2.1 17)) flX6_37 jnX6 ltC_0 kdC_0 rfl (by decide) rfl foC_0_3 rfl dX6_best_53 ?_
          refine z_get (pc := 56) (v := .ref (g.2.2.1 21)) flX6_116 jnX1 ltC_17 kdC_17 rfl (by decide) rfl foC_17_5 rfl dX6_best_56 ?_
          refine z_aload_n (pc := 59) 0 dX6_best_59 rfl rfl ?_
          refine z_get (pc := 60) (v := .ref (g.2.2.1 17)) flX6_37 jnX6 ltC_0 kdC_0 rfl (by decide) rfl foC_0_3 rfl dX6_best_60 ?_
          refine z_get (pc := 63) (v := .int (μ8.1 17 6)) flX6_119 jnX1 ltC_17 kdC_17 rfl (by decide) rfl foC_17_6 rfl dX6_best_63 ?_
          refine z_iload_n (pc := 66) 2 dX6_best_66 rfl rfl ?_
          refine z_callS (pc := 67) (As := [.ref (g.2.2.1 21), .int (μ8.1 17 6), .int a2]) (rest := []) kX6_123 (m_X6_partOf_21 g μ8 (μ8.1 17 6) a2) ⟨rfl, rfl⟩ ⟨Nat.le_of_ble_eq_true rfl, Nat.le_of_ble_eq_true rfl⟩ (Nat.le_of_ble_eq_true rfl) rfl rfl dX6_best_67 (fun r11 μ12 => ?_)
          change Zw g ΛC enI RX6 cX6_best 3 (some .int) rX6_best 70 [(0, .ref (g.2.2.1 0)), (1, .int a1), (2, .int a2)] [.int r11] μ12 _
          exact z_iret dX6_best_70
        · refine z_aload_n (pc := 44) 0 dX6_best_44 rfl rfl ?_
          refine z_get (pc := 45) (v := .ref (g.2.2.1 17)) flX6_37 jnX6 ltC_0 kdC_0 rfl (by decide) rfl foC_0_3 rfl dX6_best_45 ?_
          refine z_callV (pc := 48) (b := 17) (As := []) (rest := []) kX6_113 (m_X1_bestSum g μ8) ltC_17 kdC_17 rfl rfl ⟨rfl, rfl⟩ ⟨Nat.le_of_ble_eq_true rfl, Nat.le_of_ble_eq_true rfl⟩ (Nat.le_of_ble_eq_true rfl) rfl rfl dX6_best_48 (fun r13 μ14 => ?_)
          change Zw g ΛC enI RX6 cX6_best 3 (some .int) rX6_best 51 [(0, .ref (g.2.2.1 0)), (1, .int a1), (2, .int a2)] [.int r13] μ14 _
          exact z_iret dX6_best_51
      · refine z_aload_n (pc := 31) 0 dX6_best_31 rfl rfl ?_
        refine z_bipush (pc := 32) (v := -3) dX6_best_32 (by decide +kernel) ?_
        refine z_callV (pc := 34) (b := 0) (As := [.int (-3 : Int32)]) (rest := []) kX6_90 (m_X6_refusal g μ8 (-3 : Int32)) ltC_0 kdC_0 rfl rfl ⟨rfl, rfl⟩ ⟨Nat.le_of_ble_eq_true rfl, Nat.le_of_ble_eq_true rfl⟩ (Nat.le_of_ble_eq_true rfl) rfl rfl dX6_best_34 (fun r15 μ16 => ?_)
        change Zw g ΛC enI RX6 cX6_best 3 (some .int) rX6_best 37 [(0, .ref (g.2.2.1 0)), (1, .int a1), (2, .int a2)] [.int r15] μ16 _
        exact z_iret dX6_best_37
    · refine z_aload_n (pc := 13) 0 dX6_best_13 rfl rfl ?_
      refine z_bipush (pc := 14) (v := -2) dX6_best_14 (by decide +kernel) ?_
      refine z_callV (pc := 16) (b := 0) (As := [.int (-2 : Int32)]) (rest := []) kX6_90 (m_X6_refusal g μ2 (-2 : Int32)) ltC_0 kdC_0 rfl rfl ⟨rfl, rfl⟩ ⟨Nat.le_of_ble_eq_true rfl, Nat.le_of_ble_eq_true rfl⟩ (Nat.le_of_ble_eq_true rfl) rfl rfl dX6_best_16 (fun r17 μ18 => ?_)
      change Zw g ΛC enI RX6 cX6_best 3 (some .int) rX6_best 19 [(0, .ref (g.2.2.1 0)), (1, .int a1), (2, .int a2)] [.int r17] μ18 _
      exact z_iret dX6_best_19
def lp_X6_singBest_26 (c1 : Int32) : Nat → Int32 → Mm → (Mm → Option (Int32 × Mm)) → Option (Int32 × Mm)
  | 0, _, _, _ => none
  | n + 1, y2, μ, k => if (μ.1 17 6) ≤ y2 then (k  μ) else (if zin y2 40 then (bd (f_X4_raiseHabit c1 (μ.1 21 y2.toNatClampNeg) μ) fun r8 μ9 => lp_X6_singBest_26 c1 n (y2 + 1) μ9 k) else none)
theorem w_X6_singBest_26 (g : Gx) (c1 : Int32) : ∀ (n : Nat) (y2 : Int32) (μ : Mm) (k : Mm → Option (Int32 × Mm)), (∀ (ν : Mm), Zw g ΛC enI RX6 cX6_singBest 3 (some .int) rX6_singBest 60 [(0, .ref (g.2.2.1 0))] [] ν (k  ν)) → Zw g ΛC enI RX6 cX6_singBest 3 (some .int) rX6_singBest 26 [(0, .ref (g.2.2.1 0)), (1, .int c1), (2, .int y2)] [] μ (lp_X6_singBest_26 c1 n y2 μ k) := by
  intro n
  induction n with
  | zero =>
    intro y2 μ k hk
    exact z_none
  | succ n ih =>
    intro y2 μ k hk
    rw [lp_X6_singBest_26]
    refine z_iload_n (pc := 26) 2 dX6_singBest_26 rfl rfl ?_
    refine z_aload_n (pc := 27) 0 dX6_singBest_27 rfl rfl ?_
    refine z_get (pc := 28) (v := .ref (g.2.2.1 17)) flX6_37 jnX6 ltC_0 kdC_0 rfl (by decide) rfl foC_0_3 rfl dX6_singBest_28 ?_
    refine z_get (pc := 31) (v := .int (μ.1 17 6)) flX6_119 jnX1 ltC_17 kdC_17 rfl (by decide) rfl foC_17_6 rfl dX6_singBest_31 ?_
    refine z_icmp_ge (pc := 34) (tgt := 60) dX6_singBest_34 (by decide) (fun h7 => ?_) (fun h7 => ?_)
    · refine z_sub (lv2 := [(0, .ref (g.2.2.1 0))]) [0] rfl ?_
      exact hk _
    · refine z_aload_n (pc := 37) 0 dX6_singBest_37 rfl rfl ?_
      refine z_get (pc := 38) (v := .ref (g.2.2.1 1)) flX6_15 jnX6 ltC_0 kdC_0 rfl (by decide) rfl foC_0_0 rfl dX6_singBest_38 ?_
      refine z_iload_n (pc := 41) 1 dX6_singBest_41 rfl rfl ?_
      refine z_aload_n (pc := 42) 0 dX6_singBest_42 rfl rfl ?_
      refine z_get (pc := 43) (v := .ref (g.2.2.1 17)) flX6_37 jnX6 ltC_0 kdC_0 rfl (by decide) rfl foC_0_3 rfl dX6_singBest_43 ?_
      refine z_get (pc := 46) (v := .ref (g.2.2.1 21)) flX6_116 jnX1 ltC_17 kdC_17 rfl (by decide) rfl foC_17_5 rfl dX6_singBest_46 ?_
      refine z_iload_n (pc := 49) 2 dX6_singBest_49 rfl rfl ?_
      refine z_iaload_g (pc := 50) ltC_21 kdC_21 dX6_singBest_50 ?_
      refine z_callV (pc := 51) (b := 1) (As := [.int c1, .int (μ.1 21 y2.toNatClampNeg)]) (rest := []) kX6_218 (m_X4_raiseHabit g μ c1 (μ.1 21 y2.toNatClampNeg)) ltC_1 kdC_1 rfl rfl ⟨rfl, rfl⟩ ⟨Nat.le_of_ble_eq_true rfl, Nat.le_of_ble_eq_true rfl⟩ (Nat.le_of_ble_eq_true rfl) rfl rfl dX6_singBest_51 (fun r8 μ9 => ?_)
      change Zw g ΛC enI RX6 cX6_singBest 3 (some .int) rX6_singBest 54 [(0, .ref (g.2.2.1 0)), (1, .int c1), (2, .int y2)] [] μ9 _
      refine z_iinc (pc := 54) (v := y2 + 1) (lv2 := [(0, .ref (g.2.2.1 0)), (1, .int c1), (2, .int (y2 + 1))]) 2 [1, 2, 0] dX6_singBest_54 rfl (by rw [oi_1]) (by decide) rfl ?_
      refine z_goto (pc := 57) (tgt := 26) dX6_singBest_57 (by decide) ?_
      exact ih _ _ _ hk
def f_X6_singBest (a1 : Int32) (μ : Mm) : Option (Int32 × Mm) := bd (f_X6_isMaker a1 μ) fun r1 μ2 => if r1 = 0 then (some ((-2 : Int32), μ2)) else (bd (f_X1_findBest a1 μ2) fun r4 μ5 => if r4 = 0 then (some ((-3 : Int32), μ5)) else (lp_X6_singBest_26 a1 FU (0 : Int32) μ5 (fun  μ10 => some (μ10.1 17 6, μ10))))
theorem m_X6_singBest (g : Gx) (μ : Mm) (a1 : Int32) : Zm g ΛC enI yX6_singBest cX6_singBest 3 (some .int) rX6_singBest [.ref (g.2.2.1 0), .int a1] μ (f_X6_singBest a1 μ) := by
  refine z_met (by decide +kernel) (Nat.le_of_ble_eq_true rfl) ?_
  change Zw g ΛC enI RX6 cX6_singBest 3 (some .int) rX6_singBest 0 [(0, .ref (g.2.2.1 0)), (1, .int a1)] [] μ (f_X6_singBest a1 μ)
  rw [f_X6_singBest]
  refine z_iload_n (pc := 0) 1 dX6_singBest_0 rfl rfl ?_
  refine z_callS (pc := 1) (As := [.int a1]) (rest := []) kX6_107 (m_X6_isMaker g μ a1) ⟨rfl, rfl⟩ ⟨Nat.le_of_ble_eq_true rfl, Nat.le_of_ble_eq_true rfl⟩ (Nat.le_of_ble_eq_true rfl) rfl rfl dX6_singBest_1 (fun r1 μ2 => ?_)
  change Zw g ΛC enI RX6 cX6_singBest 3 (some .int) rX6_singBest 4 [(0, .ref (g.2.2.1 0)), (1, .int a1)] [.int r1] μ2 _
  refine z_if_ne (pc := 4) (tgt := 10) dX6_singBest_4 (by decide) (fun h3 => ?_) (fun h3 => ?_)
  · refine z_aload_n (pc := 10) 0 dX6_singBest_10 rfl rfl ?_
    refine z_get (pc := 11) (v := .ref (g.2.2.1 17)) flX6_37 jnX6 ltC_0 kdC_0 rfl (by decide) rfl foC_0_3 rfl dX6_singBest_11 ?_
    refine z_iload_n (pc := 14) 1 dX6_singBest_14 rfl rfl ?_
    refine z_callV (pc := 15) (b := 17) (As := [.int a1]) (rest := []) kX6_110 (m_X1_findBest g μ2 a1) ltC_17 kdC_17 rfl rfl ⟨rfl, rfl⟩ ⟨Nat.le_of_ble_eq_true rfl, Nat.le_of_ble_eq_true rfl⟩ (Nat.le_of_ble_eq_true rfl) rfl rfl dX6_singBest_15 (fun r4 μ5 => ?_)
    change Zw g ΛC enI RX6 cX6_singBest 3 (some .int) rX6_singBest 18 [(0, .ref (g.2.2.1 0)), (1, .int a1)] [.int r4] μ5 _
    refine z_if_ne (pc := 18) (tgt := 24) dX6_singBest_18 (by decide) (fun h6 => ?_) (fun h6 => ?_)
    · refine z_iconst (pc := 24) (v := 0) dX6_singBest_24 rfl ?_
      refine z_istore_n (pc := 25) (lv2 := [(0, .ref (g.2.2.1 0)), (1, .int a1), (2, .int (0 : Int32))]) [1, 2, 0] dX6_singBest_25 rfl (by decide) rfl ?_
      refine w_X6_singBest_26 g a1 FU (0 : Int32) μ5 _ (fun  μ10 => ?_)
      refine z_aload_n (pc := 60) 0 dX6_singBest_60 rfl rfl ?_
      refine z_get (pc := 61) (v := .ref (g.2.2.1 17)) flX6_37 jnX6 ltC_0 kdC_0 rfl (by decide) rfl foC_0_3 rfl dX6_singBest_61 ?_
      refine z_get (pc := 64) (v := .int (μ10.1 17 6)) flX6_119 jnX1 ltC_17 kdC_17 rfl (by decide) rfl foC_17_6 rfl dX6_singBest_64 ?_
      exact z_iret dX6_singBest_67
    · refine z_bipush (pc := 21) (v := -3) dX6_singBest_21 (by decide +kernel) ?_
      exact z_iret dX6_singBest_23
  · refine z_bipush (pc := 7) (v := -2) dX6_singBest_7 (by decide +kernel) ?_
    exact z_iret dX6_singBest_9
