def lp_X4_addPhrase_22 (c1 : Int32) (c2 : Int32) (c3 : Int32) : Nat → Int32 → Mm → (Mm → Option (Int32 × Mm)) → Option (Int32 × Mm)
  | 0, _, _, _ => none
  | n + 1, y4, μ, k => if (μ.1 1 8) ≤ y4 then (k  μ) else (if zin y4 12 then (if (μ.1 2 y4.toNatClampNeg) = c1 then (if zin y4 12 then (if (μ.1 3 y4.toNatClampNeg) = c2 then (some ((-3 : Int32), μ)) else (lp_X4_addPhrase_22 c1 c2 c3 n (y4 + 1) μ k)) else none) else (lp_X4_addPhrase_22 c1 c2 c3 n (y4 + 1) μ k)) else none)
theorem w_X4_addPhrase_22 (g : Gx) (c1 : Int32) (c2 : Int32) (c3 : Int32) : ∀ (n : Nat) (y4 : Int32) (μ : Mm) (k : Mm → Option (Int32 × Mm)), (∀ (ν : Mm), Zw g ΛC enI RX4 cX4_addPhrase 6 (some .int) rX4_addPhrase 62 [(0, .ref (g.2.2.1 1)), (1, .int c1), (2, .int c2), (3, .int c3)] [] ν (k  ν)) → Zw g ΛC enI RX4 cX4_addPhrase 6 (some .int) rX4_addPhrase 22 [(0, .ref (g.2.2.1 1)), (1, .int c1), (2, .int c2), (3, .int c3), (4, .int y4)] [] μ (lp_X4_addPhrase_22 c1 c2 c3 n y4 μ k) := by
  intro n
  induction n with
  | zero =>
    intro y4 μ k hk
    exact z_none
  | succ n ih =>
    intro y4 μ k hk
    rw [lp_X4_addPhrase_22]
    refine z_iload (pc := 22) 4 dX4_addPhrase_22 rfl ?_
    refine z_aload_n (pc := 24) 0 dX4_addPhrase_24 rfl rfl ?_
    refine z_get (pc := 25) (v := .int (μ.1 1 8)) flX4_56 jnX4 ltC_1 kdC_1 rfl (by decide) rfl foC_1_8 rfl dX4_addPhrase_25 ?_
    refine z_icmp_ge (pc := 28) (tgt := 62) dX4_addPhrase_28 (by decide) (fun h7 => ?_) (fun h7 => ?_)
    · refine z_sub (lv2 := [(0, .ref (g.2.2.1 1)), (1, .int c1), (2, .int c2), (3, .int c3)]) [0, 1, 2, 3] rfl ?_
      exact hk _
    · refine z_aload_n (pc := 31) 0 dX4_addPhrase_31 rfl rfl ?_
      refine z_get (pc := 32) (v := .ref (g.2.2.1 2)) flX4_9 jnX4 ltC_1 kdC_1 rfl (by decide) rfl foC_1_0 rfl dX4_addPhrase_32 ?_
      refine z_iload (pc := 35) 4 dX4_addPhrase_35 rfl ?_
      refine z_iaload_g (pc := 37) ltC_2 kdC_2 dX4_addPhrase_37 ?_
      refine z_iload_n (pc := 38) 1 dX4_addPhrase_38 rfl rfl ?_
      refine z_icmp_ne (pc := 39) (tgt := 56) dX4_addPhrase_39 (by decide) (fun h8 => ?_) (fun h8 => ?_)
      · refine z_iinc (pc := 56) (v := y4 + 1) (lv2 := [(0, .ref (g.2.2.1 1)), (1, .int c1), (2, .int c2), (3, .int c3), (4, .int (y4 + 1))]) 4 [1, 2, 3, 4, 0] dX4_addPhrase_56 rfl (by rw [oi_1]) (by decide) rfl ?_
        refine z_goto (pc := 59) (tgt := 22) dX4_addPhrase_59 (by decide) ?_
        exact ih _ _ _ hk
      · refine z_aload_n (pc := 42) 0 dX4_addPhrase_42 rfl rfl ?_
        refine z_get (pc := 43) (v := .ref (g.2.2.1 3)) flX4_15 jnX4 ltC_1 kdC_1 rfl (by decide) rfl foC_1_1 rfl dX4_addPhrase_43 ?_
        refine z_iload (pc := 46) 4 dX4_addPhrase_46 rfl ?_
        refine z_iaload_g (pc := 48) ltC_3 kdC_3 dX4_addPhrase_48 ?_
        refine z_iload_n (pc := 49) 2 dX4_addPhrase_49 rfl rfl ?_
        refine z_icmp_ne (pc := 50) (tgt := 56) dX4_addPhrase_50 (by decide) (fun h9 => ?_) (fun h9 => ?_)
        · refine z_iinc (pc := 56) (v := y4 + 1) (lv2 := [(0, .ref (g.2.2.1 1)), (1, .int c1), (2, .int c2), (3, .int c3), (4, .int (y4 + 1))]) 4 [1, 2, 3, 4, 0] dX4_addPhrase_56 rfl (by rw [oi_1]) (by decide) rfl ?_
          refine z_goto (pc := 59) (tgt := 22) dX4_addPhrase_59 (by decide) ?_
          exact ih _ _ _ hk
        · refine z_bipush (pc := 53) (v := -3) dX4_addPhrase_53 (by decide +kernel) ?_
          exact z_iret dX4_addPhrase_55
def lp_X4_addPhrase_126 (c4 : Int32) : Nat → Int32 → Mm → (Mm → Option (Int32 × Mm)) → Option (Int32 × Mm)
  | 0, _, _, _ => none
  | n + 1, y5, μ, k => if (3 : Int32) ≤ y5 then (k  μ) else (if zin ((y5 * (12 : Int32)) + c4) 36 then (lp_X4_addPhrase_126 c4 n (y5 + 1) (si μ 6 (((y5 * (12 : Int32)) + c4).toNatClampNeg) (0 : Int32)) k) else none)
theorem w_X4_addPhrase_126 (g : Gx) (c4 : Int32) : ∀ (n : Nat) (y5 : Int32) (μ : Mm) (k : Mm → Option (Int32 × Mm)), (∀ (ν : Mm), Zw g ΛC enI RX4 cX4_addPhrase 6 (some .int) rX4_addPhrase 152 [(4, .int c4)] [] ν (k  ν)) → Zw g ΛC enI RX4 cX4_addPhrase 6 (some .int) rX4_addPhrase 126 [(0, .ref (g.2.2.1 1)), (4, .int c4), (5, .int y5)] [] μ (lp_X4_addPhrase_126 c4 n y5 μ k) := by
  intro n
  induction n with
  | zero =>
    intro y5 μ k hk
    exact z_none
  | succ n ih =>
    intro y5 μ k hk
    rw [lp_X4_addPhrase_126]
    refine z_iload (pc := 126) 2 dX4_addPhrase_126 rfl ?_
    refine z_iconst (pc := 128) (v := 3) dX4_addPhrase_128 rfl ?_
    refine z_icmp_ge (pc := 129) (tgt := 152) dX4_addPhrase_129 (by decide) (fun h14 => ?_) (fun h14 => ?_)
    · refine z_sub (lv2 := [(4, .int c4)]) [1] rfl ?_
      exact hk _
    · refine z_aload_n (pc := 132) 0 dX4_addPhrase_132 rfl rfl ?_
      refine z_get (pc := 133) (v := .ref (g.2.2.1 6)) flX4_24 jnX4 ltC_1 kdC_1 rfl (by decide) rfl foC_1_4 rfl dX4_addPhrase_133 ?_
      refine z_iload (pc := 136) 2 dX4_addPhrase_136 rfl ?_
      refine z_bipush (pc := 138) (v := 12) dX4_addPhrase_138 (by decide +kernel) ?_
      refine z_imul (pc := 140) dX4_addPhrase_140 ?_
      refine z_iload (pc := 141) 1 dX4_addPhrase_141 rfl ?_
      refine z_iadd (pc := 143) dX4_addPhrase_143 ?_
      refine z_iconst (pc := 144) (v := 0) dX4_addPhrase_144 rfl ?_
      refine z_iastore_g (pc := 145) ltC_6 kdC_6 dX4_addPhrase_145 ?_
      refine z_iinc (pc := 146) (v := y5 + 1) (lv2 := [(0, .ref (g.2.2.1 1)), (4, .int c4), (5, .int (y5 + 1))]) 2 [1, 2, 0] dX4_addPhrase_146 rfl (by rw [oi_1]) (by decide) rfl ?_
      refine z_goto (pc := 149) (tgt := 126) dX4_addPhrase_149 (by decide) ?_
      exact ih _ _ _ hk
def f_X4_addPhrase (a1 : Int32) (a2 : Int32) (μ : Mm) : Option (Int32 × Mm) := bd (f_X6_lettersIn a2 μ) fun r1 μ2 => bd (f_X6_isSlot a1 μ2) fun r3 μ4 => if r3 = 0 then (some ((-2 : Int32), μ4)) else (if r1 = 0 then (some ((-2 : Int32), μ4)) else (lp_X4_addPhrase_22 a1 a2 r1 FU (0 : Int32) μ4 (fun  μ10 => if (μ10.1 1 8) < (12 : Int32) then (if zin (μ10.1 1 8) 12 then (if zin (μ10.1 1 8) 12 then (if zin (μ10.1 1 8) 12 then (bd (f_X6_moraeIn a2 r1 (si (si (si (si μ10 1 8 ((μ10.1 1 8) + (1 : Int32))) 2 ((μ10.1 1 8).toNatClampNeg) a1) 3 ((μ10.1 1 8).toNatClampNeg) a2) 4 ((μ10.1 1 8).toNatClampNeg) r1)) fun r12 μ13 => if zin (μ10.1 1 8) 12 then (lp_X4_addPhrase_126 (μ10.1 1 8) FU (0 : Int32) (si μ13 5 ((μ10.1 1 8).toNatClampNeg) r12) (fun  μ15 => some (μ10.1 1 8, μ15))) else none) else none) else none) else none) else (some ((-4 : Int32), μ10)))))
theorem m_X4_addPhrase (g : Gx) (μ : Mm) (a1 : Int32) (a2 : Int32) : Zm g ΛC enI yX4_addPhrase cX4_addPhrase 6 (some .int) rX4_addPhrase [.ref (g.2.2.1 1), .int a1, .int a2] μ (f_X4_addPhrase a1 a2 μ) := by
  refine z_met (by decide +kernel) (Nat.le_of_ble_eq_true rfl) ?_
  change Zw g ΛC enI RX4 cX4_addPhrase 6 (some .int) rX4_addPhrase 0 [(0, .ref (g.2.2.1 1)), (1, .int a1), (2, .int a2)] [] μ (f_X4_addPhrase a1 a2 μ)
  rw [f_X4_addPhrase]
  refine z_iload_n (pc := 0) 2 dX4_addPhrase_0 rfl rfl ?_
  refine z_callSN (pc := 1) (As := [.int a2]) (rest := []) kX4_78 (m_X6_lettersIn g μ a2) ⟨rfl, rfl⟩ ⟨Nat.le_of_ble_eq_true rfl, Nat.le_of_ble_eq_true rfl⟩ (Nat.le_of_ble_eq_true rfl) rfl rfl dX4_addPhrase_1 (fun r1 μ2 => ?_)
  change Zw g ΛC enI RX4 cX4_addPhrase 6 (some .int) rX4_addPhrase 4 [(0, .ref (g.2.2.1 1)), (1, .int a1), (2, .int a2)] [.int r1] μ2 _
  refine z_istore_n (pc := 4) (lv2 := [(0, .ref (g.2.2.1 1)), (1, .int a1), (2, .int a2), (3, .int r1)]) [1, 2, 3, 0] dX4_addPhrase_4 rfl (by decide) rfl ?_
  refine z_iload_n (pc := 5) 1 dX4_addPhrase_5 rfl rfl ?_
  refine z_callSN (pc := 6) (As := [.int a1]) (rest := []) kX4_82 (m_X6_isSlot g μ2 a1) ⟨rfl, rfl⟩ ⟨Nat.le_of_ble_eq_true rfl, Nat.le_of_ble_eq_true rfl⟩ (Nat.le_of_ble_eq_true rfl) rfl rfl dX4_addPhrase_6 (fun r3 μ4 => ?_)
  change Zw g ΛC enI RX4 cX4_addPhrase 6 (some .int) rX4_addPhrase 9 [(0, .ref (g.2.2.1 1)), (1, .int a1), (2, .int a2), (3, .int r1)] [.int r3] μ4 _
  refine z_if_eq (pc := 9) (tgt := 16) dX4_addPhrase_9 (by decide) (fun h5 => ?_) (fun h5 => ?_)
  · refine z_bipush (pc := 16) (v := -2) dX4_addPhrase_16 (by decide +kernel) ?_
    exact z_iret dX4_addPhrase_18
  · refine z_iload_n (pc := 12) 3 dX4_addPhrase_12 rfl rfl ?_
    refine z_if_ne (pc := 13) (tgt := 19) dX4_addPhrase_13 (by decide) (fun h6 => ?_) (fun h6 => ?_)
    · refine z_iconst (pc := 19) (v := 0) dX4_addPhrase_19 rfl ?_
      refine z_istore (pc := 20) (lv2 := [(0, .ref (g.2.2.1 1)), (1, .int a1), (2, .int a2), (3, .int r1), (4, .int (0 : Int32))]) [1, 2, 3, 4, 0] dX4_addPhrase_20 (by decide) rfl ?_
      refine w_X4_addPhrase_22 g a1 a2 r1 FU (0 : Int32) μ4 _ (fun  μ10 => ?_)
      refine z_aload_n (pc := 62) 0 dX4_addPhrase_62 rfl rfl ?_
      refine z_get (pc := 63) (v := .int (μ10.1 1 8)) flX4_56 jnX4 ltC_1 kdC_1 rfl (by decide) rfl foC_1_8 rfl dX4_addPhrase_63 ?_
      refine z_bipush (pc := 66) (v := 12) dX4_addPhrase_66 (by decide +kernel) ?_
      refine z_icmp_lt (pc := 68) (tgt := 74) dX4_addPhrase_68 (by decide) (fun h11 => ?_) (fun h11 => ?_)
      · refine z_aload_n (pc := 74) 0 dX4_addPhrase_74 rfl rfl ?_
        refine z_dup (pc := 75) dX4_addPhrase_75 rfl ?_
        refine z_get (pc := 76) (v := .int (μ10.1 1 8)) flX4_56 jnX4 ltC_1 kdC_1 rfl (by decide) rfl foC_1_8 rfl dX4_addPhrase_76 ?_
        refine z_dup_x1 (pc := 79) dX4_addPhrase_79 rfl rfl ?_
        refine z_iconst (pc := 80) (v := 1) dX4_addPhrase_80 rfl ?_
        refine z_iadd (pc := 81) dX4_addPhrase_81 ?_
        refine z_puti (x := (0, 0)) (pc := 82) flX4_56 jnX4 tyX4 tyX4_ok nmX4 ltC_1 kdC_1 rfl (by decide) rfl foC_1_8 rfl ⟨rfl, rfl⟩ dX4_addPhrase_82 ?_
        refine z_istore (pc := 85) (lv2 := [(0, .ref (g.2.2.1 1)), (1, .int a1), (2, .int a2), (3, .int r1), (4, .int (μ10.1 1 8))]) [1, 2, 3, 4, 0] dX4_addPhrase_85 (by decide) rfl ?_
        refine z_aload_n (pc := 87) 0 dX4_addPhrase_87 rfl rfl ?_
        refine z_get (pc := 88) (v := .ref (g.2.2.1 2)) flX4_9 jnX4 ltC_1 kdC_1 rfl (by decide) rfl foC_1_0 rfl dX4_addPhrase_88 ?_
        refine z_iload (pc := 91) 4 dX4_addPhrase_91 rfl ?_
        refine z_iload_n (pc := 93) 1 dX4_addPhrase_93 rfl rfl ?_
        refine z_iastore_g (pc := 94) ltC_2 kdC_2 dX4_addPhrase_94 ?_
        refine z_aload_n (pc := 95) 0 dX4_addPhrase_95 rfl rfl ?_
        refine z_get (pc := 96) (v := .ref (g.2.2.1 3)) flX4_15 jnX4 ltC_1 kdC_1 rfl (by decide) rfl foC_1_1 rfl dX4_addPhrase_96 ?_
        refine z_iload (pc := 99) 4 dX4_addPhrase_99 rfl ?_
        refine z_iload_n (pc := 101) 2 dX4_addPhrase_101 rfl rfl ?_
        refine z_iastore_g (pc := 102) ltC_3 kdC_3 dX4_addPhrase_102 ?_
        refine z_aload_n (pc := 103) 0 dX4_addPhrase_103 rfl rfl ?_
        refine z_get (pc := 104) (v := .ref (g.2.2.1 4)) flX4_18 jnX4 ltC_1 kdC_1 rfl (by decide) rfl foC_1_2 rfl dX4_addPhrase_104 ?_
        refine z_iload (pc := 107) 4 dX4_addPhrase_107 rfl ?_
        refine z_iload_n (pc := 109) 3 dX4_addPhrase_109 rfl rfl ?_
        refine z_iastore_g (pc := 110) ltC_4 kdC_4 dX4_addPhrase_110 ?_
        refine z_aload_n (pc := 111) 0 dX4_addPhrase_111 rfl rfl ?_
        refine z_get (pc := 112) (v := .ref (g.2.2.1 5)) flX4_21 jnX4 ltC_1 kdC_1 rfl (by decide) rfl foC_1_3 rfl dX4_addPhrase_112 ?_
        refine z_iload (pc := 115) 4 dX4_addPhrase_115 rfl ?_
        refine z_iload_n (pc := 117) 2 dX4_addPhrase_117 rfl rfl ?_
        refine z_iload_n (pc := 118) 3 dX4_addPhrase_118 rfl rfl ?_
        refine z_callSN (pc := 119) (As := [.int a2, .int r1]) (rest := [.int (μ10.1 1 8), .ref (g.2.2.1 5)]) kX4_86 (m_X6_moraeIn g (si (si (si (si μ10 1 8 ((μ10.1 1 8) + (1 : Int32))) 2 ((μ10.1 1 8).toNatClampNeg) a1) 3 ((μ10.1 1 8).toNatClampNeg) a2) 4 ((μ10.1 1 8).toNatClampNeg) r1) a2 r1) ⟨rfl, rfl⟩ ⟨Nat.le_of_ble_eq_true rfl, Nat.le_of_ble_eq_true rfl⟩ (Nat.le_of_ble_eq_true rfl) rfl rfl dX4_addPhrase_119 (fun r12 μ13 => ?_)
        change Zw g ΛC enI RX4 cX4_addPhrase 6 (some .int) rX4_addPhrase 122 [(0, .ref (g.2.2.1 1)), (1, .int a1), (2, .int a2), (3, .int r1), (4, .int (μ10.1 1 8))] [.int r12, .int (μ10.1 1 8), .ref (g.2.2.1 5)] μ13 _
        refine z_iastore_g (pc := 122) ltC_5 kdC_5 dX4_addPhrase_122 ?_
        refine z_iconst (pc := 123) (v := 0) dX4_addPhrase_123 rfl ?_
        refine z_istore (pc := 124) (lv2 := [(0, .ref (g.2.2.1 1)), (1, .int a1), (2, .int a2), (3, .int r1), (4, .int (μ10.1 1 8)), (5, .int (0 : Int32))]) [1, 2, 3, 4, 5, 0] dX4_addPhrase_124 (by decide) rfl ?_
        refine z_sub (lv2 := [(0, .ref (g.2.2.1 1)), (4, .int (μ10.1 1 8)), (5, .int (0 : Int32))]) [0, 4, 5] rfl ?_
        refine w_X4_addPhrase_126 g (μ10.1 1 8) FU (0 : Int32) (si μ13 5 ((μ10.1 1 8).toNatClampNeg) r12) _ (fun  μ15 => ?_)
        refine z_iload (pc := 152) 0 dX4_addPhrase_152 rfl ?_
        exact z_iret dX4_addPhrase_154
      · refine z_bipush (pc := 71) (v := -4) dX4_addPhrase_71 (by decide +kernel) ?_
        exact z_iret dX4_addPhrase_73
    · refine z_bipush (pc := 16) (v := -2) dX4_addPhrase_16 (by decide +kernel) ?_
      exact z_iret dX4_addPhrase_18
def lp_X4_movePhrase_50 (c1 : Int32) (c2 : Int32) : Nat → Int32 → Mm → (Mm → Option (Unit × Mm)) → Option (Unit × Mm)
  | 0, _, _, _ => none
  | n + 1, y3, μ, k => if (3 : Int32) ≤ y3 then (k  μ) else (if zin ((y3 * (12 : Int32)) + c1) 36 then (if zin ((y3 * (12 : Int32)) + c2) 36 then (lp_X4_movePhrase_50 c1 c2 n (y3 + 1) (si μ 6 (((y3 * (12 : Int32)) + c2).toNatClampNeg) (μ.1 6 (((y3 * (12 : Int32)) + c1).toNatClampNeg))) k) else none) else none)
theorem w_X4_movePhrase_50 (g : Gx) (c1 : Int32) (c2 : Int32) : ∀ (n : Nat) (y3 : Int32) (μ : Mm) (k : Mm → Option (Unit × Mm)), (∀ (ν : Mm), Zw g ΛC enV RX4 cX4_movePhrase 4 none rX4_movePhrase 83 [] [] ν (k  ν)) → Zw g ΛC enV RX4 cX4_movePhrase 4 none rX4_movePhrase 50 [(0, .ref (g.2.2.1 1)), (1, .int c1), (2, .int c2), (3, .int y3)] [] μ (lp_X4_movePhrase_50 c1 c2 n y3 μ k) := by
  intro n
  induction n with
  | zero =>
    intro y3 μ k hk
    exact z_none
  | succ n ih =>
    intro y3 μ k hk
    rw [lp_X4_movePhrase_50]
    refine z_iload_n (pc := 50) 3 dX4_movePhrase_50 rfl rfl ?_
    refine z_iconst (pc := 51) (v := 3) dX4_movePhrase_51 rfl ?_
    refine z_icmp_ge (pc := 52) (tgt := 83) dX4_movePhrase_52 (by decide) (fun h1 => ?_) (fun h1 => ?_)
    · refine z_sub (lv2 := []) [] rfl ?_
      exact hk _
    · refine z_aload_n (pc := 55) 0 dX4_movePhrase_55 rfl rfl ?_
      refine z_get (pc := 56) (v := .ref (g.2.2.1 6)) flX4_24 jnX4 ltC_1 kdC_1 rfl (by decide) rfl foC_1_4 rfl dX4_movePhrase_56 ?_
      refine z_iload_n (pc := 59) 3 dX4_movePhrase_59 rfl rfl ?_
      refine z_bipush (pc := 60) (v := 12) dX4_movePhrase_60 (by decide +kernel) ?_
      refine z_imul (pc := 62) dX4_movePhrase_62 ?_
      refine z_iload_n (pc := 63) 2 dX4_movePhrase_63 rfl rfl ?_
      refine z_iadd (pc := 64) dX4_movePhrase_64 ?_
      refine z_aload_n (pc := 65) 0 dX4_movePhrase_65 rfl rfl ?_
      refine z_get (pc := 66) (v := .ref (g.2.2.1 6)) flX4_24 jnX4 ltC_1 kdC_1 rfl (by decide) rfl foC_1_4 rfl dX4_movePhrase_66 ?_
      refine z_iload_n (pc := 69) 3 dX4_movePhrase_69 rfl rfl ?_
      refine z_bipush (pc := 70) (v := 12) dX4_movePhrase_70 (by decide +kernel) ?_
      refine z_imul (pc := 72) dX4_movePhrase_72 ?_
      refine z_iload_n (pc := 73) 1 dX4_movePhrase_73 rfl rfl ?_
      refine z_iadd (pc := 74) dX4_movePhrase_74 ?_
      refine z_iaload_g (pc := 75) ltC_6 kdC_6 dX4_movePhrase_75 ?_
      refine z_iastore_g (pc := 76) ltC_6 kdC_6 dX4_movePhrase_76 ?_
      refine z_iinc (pc := 77) (v := y3 + 1) (lv2 := [(0, .ref (g.2.2.1 1)), (1, .int c1), (2, .int c2), (3, .int (y3 + 1))]) 3 [1, 2, 3, 0] dX4_movePhrase_77 rfl (by rw [oi_1]) (by decide) rfl ?_
      refine z_goto (pc := 80) (tgt := 50) dX4_movePhrase_80 (by decide) ?_
      exact ih _ _ _ hk
def f_X4_movePhrase (a1 : Int32) (a2 : Int32) (μ : Mm) : Option (Unit × Mm) := if zin a1 12 then (if zin a2 12 then (if zin a1 12 then (if zin a2 12 then (if zin a1 12 then (if zin a2 12 then (if zin a1 12 then (if zin a2 12 then (lp_X4_movePhrase_50 a1 a2 FU (0 : Int32) (si (si (si (si μ 2 a2.toNatClampNeg (μ.1 2 a1.toNatClampNeg)) 3 a2.toNatClampNeg (μ.1 3 a1.toNatClampNeg)) 4 a2.toNatClampNeg (μ.1 4 a1.toNatClampNeg)) 5 a2.toNatClampNeg (μ.1 5 a1.toNatClampNeg)) (fun  μ2 => some ((), μ2))) else none) else none) else none) else none) else none) else none) else none) else none
theorem m_X4_movePhrase (g : Gx) (μ : Mm) (a1 : Int32) (a2 : Int32) : Zm g ΛC enV yX4_movePhrase cX4_movePhrase 4 none rX4_movePhrase [.ref (g.2.2.1 1), .int a1, .int a2] μ (f_X4_movePhrase a1 a2 μ) := by
  refine z_met (by decide +kernel) (Nat.le_of_ble_eq_true rfl) ?_
  change Zw g ΛC enV RX4 cX4_movePhrase 4 none rX4_movePhrase 0 [(0, .ref (g.2.2.1 1)), (1, .int a1), (2, .int a2)] [] μ (f_X4_movePhrase a1 a2 μ)
  rw [f_X4_movePhrase]
  refine z_aload_n (pc := 0) 0 dX4_movePhrase_0 rfl rfl ?_
  refine z_get (pc := 1) (v := .ref (g.2.2.1 2)) flX4_9 jnX4 ltC_1 kdC_1 rfl (by decide) rfl foC_1_0 rfl dX4_movePhrase_1 ?_
  refine z_iload_n (pc := 4) 2 dX4_movePhrase_4 rfl rfl ?_
  refine z_aload_n (pc := 5) 0 dX4_movePhrase_5 rfl rfl ?_
  refine z_get (pc := 6) (v := .ref (g.2.2.1 2)) flX4_9 jnX4 ltC_1 kdC_1 rfl (by decide) rfl foC_1_0 rfl dX4_movePhrase_6 ?_
  refine z_iload_n (pc := 9) 1 dX4_movePhrase_9 rfl rfl ?_
  refine z_iaload_g (pc := 10) ltC_2 kdC_2 dX4_movePhrase_10 ?_
  refine z_iastore_g (pc := 11) ltC_2 kdC_2 dX4_movePhrase_11 ?_
  refine z_aload_n (pc := 12) 0 dX4_movePhrase_12 rfl rfl ?_
  refine z_get (pc := 13) (v := .ref (g.2.2.1 3)) flX4_15 jnX4 ltC_1 kdC_1 rfl (by decide) rfl foC_1_1 rfl dX4_movePhrase_13 ?_
  refine z_iload_n (pc := 16) 2 dX4_movePhrase_16 rfl rfl ?_
  refine z_aload_n (pc := 17) 0 dX4_movePhrase_17 rfl rfl ?_
  refine z_get (pc := 18) (v := .ref (g.2.2.1 3)) flX4_15 jnX4 ltC_1 kdC_1 rfl (by decide) rfl foC_1_1 rfl dX4_movePhrase_18 ?_
  refine z_iload_n (pc := 21) 1 dX4_movePhrase_21 rfl rfl ?_
  refine z_iaload_g (pc := 22) ltC_3 kdC_3 dX4_movePhrase_22 ?_
  show Zw g ΛC enV RX4 cX4_movePhrase 4 none rX4_movePhrase 23 [(0, .ref (g.2.2.1 1)), (1, .int a1), (2, .int a2)] [.int (μ.1 3 a1.toNatClampNeg), .int a2, .ref (g.2.2.1 3)] (si μ 2 a2.toNatClampNeg (μ.1 2 a1.toNatClampNeg)) _
  refine z_iastore_g (pc := 23) ltC_3 kdC_3 dX4_movePhrase_23 ?_
  refine z_aload_n (pc := 24) 0 dX4_movePhrase_24 rfl rfl ?_
  refine z_get (pc := 25) (v := .ref (g.2.2.1 4)) flX4_18 jnX4 ltC_1 kdC_1 rfl (by decide) rfl foC_1_2 rfl dX4_movePhrase_25 ?_
  refine z_iload_n (pc := 28) 2 dX4_movePhrase_28 rfl rfl ?_
  refine z_aload_n (pc := 29) 0 dX4_movePhrase_29 rfl rfl ?_
  refine z_get (pc := 30) (v := .ref (g.2.2.1 4)) flX4_18 jnX4 ltC_1 kdC_1 rfl (by decide) rfl foC_1_2 rfl dX4_movePhrase_30 ?_
  refine z_iload_n (pc := 33) 1 dX4_movePhrase_33 rfl rfl ?_
  refine z_iaload_g (pc := 34) ltC_4 kdC_4 dX4_movePhrase_34 ?_
  show Zw g ΛC enV RX4 cX4_movePhrase 4 none rX4_movePhrase 35 [(0, .ref (g.2.2.1 1)), (1, .int a1), (2, .int a2)] [.int (μ.1 4 a1.toNatClampNeg), .int a2, .ref (g.2.2.1 4)] (si (si μ 2 a2.toNatClampNeg (μ.1 2 a1.toNatClampNeg)) 3 a2.toNatClampNeg (μ.1 3 a1.toNatClampNeg)) _
  refine z_iastore_g (pc := 35) ltC_4 kdC_4 dX4_movePhrase_35 ?_
  refine z_aload_n (pc := 36) 0 dX4_movePhrase_36 rfl rfl ?_
  refine z_get (pc := 37) (v := .ref (g.2.2.1 5)) flX4_21 jnX4 ltC_1 kdC_1 rfl (by decide) rfl foC_1_3 rfl dX4_movePhrase_37 ?_
  refine z_iload_n (pc := 40) 2 dX4_movePhrase_40 rfl rfl ?_
  refine z_aload_n (pc := 41) 0 dX4_movePhrase_41 rfl rfl ?_
  refine z_get (pc := 42) (v := .ref (g.2.2.1 5)) flX4_21 jnX4 ltC_1 kdC_1 rfl (by decide) rfl foC_1_3 rfl dX4_movePhrase_42 ?_
  refine z_iload_n (pc := 45) 1 dX4_movePhrase_45 rfl rfl ?_
  refine z_iaload_g (pc := 46) ltC_5 kdC_5 dX4_movePhrase_46 ?_
  show Zw g ΛC enV RX4 cX4_movePhrase 4 none rX4_movePhrase 47 [(0, .ref (g.2.2.1 1)), (1, .int a1), (2, .int a2)] [.int (μ.1 5 a1.toNatClampNeg), .int a2, .ref (g.2.2.1 5)] (si (si (si μ 2 a2.toNatClampNeg (μ.1 2 a1.toNatClampNeg)) 3 a2.toNatClampNeg (μ.1 3 a1.toNatClampNeg)) 4 a2.toNatClampNeg (μ.1 4 a1.toNatClampNeg)) _
  refine z_iastore_g (pc := 47) ltC_5 kdC_5 dX4_movePhrase_47 ?_
  refine z_iconst (pc := 48) (v := 0) dX4_movePhrase_48 rfl ?_
  refine z_istore_n (pc := 49) (lv2 := [(0, .ref (g.2.2.1 1)), (1, .int a1), (2, .int a2), (3, .int (0 : Int32))]) [1, 2, 3, 0] dX4_movePhrase_49 rfl (by decide) rfl ?_
  refine w_X4_movePhrase_50 g a1 a2 FU (0 : Int32) (si (si (si (si μ 2 a2.toNatClampNeg (μ.1 2 a1.toNatClampNeg)) 3 a2.toNatClampNeg (μ.1 3 a1.toNatClampNeg)) 4 a2.toNatClampNeg (μ.1 4 a1.toNatClampNeg)) 5 a2.toNatClampNeg (μ.1 5 a1.toNatClampNeg)) _ (fun  μ2 => ?_)
  exact z_vret dX4_movePhrase_83
def lp_X4_dropPhrase_23 : Nat → Int32 → Mm → (Mm → Option (Int32 × Mm)) → Option (Int32 × Mm)
  | 0, _, _, _ => none
  | n + 1, y2, μ, k => if (μ.1 1 8) ≤ y2 then (k  μ) else (bd (f_X4_movePhrase (y2 + (1 : Int32)) y2 μ) fun r5 μ6 => lp_X4_dropPhrase_23 n (y2 + 1) μ6 k)
theorem w_X4_dropPhrase_23 (g : Gx) : ∀ (n : Nat) (y2 : Int32) (μ : Mm) (k : Mm → Option (Int32 × Mm)), (∀ (ν : Mm), Zw g ΛC enI RX4 cX4_dropPhrase 3 (some .int) rX4_dropPhrase 45 [(0, .ref (g.2.2.1 1))] [] ν (k  ν)) → Zw g ΛC enI RX4 cX4_dropPhrase 3 (some .int) rX4_dropPhrase 23 [(0, .ref (g.2.2.1 1)), (2, .int y2)] [] μ (lp_X4_dropPhrase_23 n y2 μ k) := by
  intro n
  induction n with
  | zero =>
    intro y2 μ k hk
    exact z_none
  | succ n ih =>
    intro y2 μ k hk
    rw [lp_X4_dropPhrase_23]
    refine z_iload_n (pc := 23) 1 dX4_dropPhrase_23 rfl rfl ?_
    refine z_aload_n (pc := 24) 0 dX4_dropPhrase_24 rfl rfl ?_
    refine z_get (pc := 25) (v := .int (μ.1 1 8)) flX4_56 jnX4 ltC_1 kdC_1 rfl (by decide) rfl foC_1_8 rfl dX4_dropPhrase_25 ?_
    refine z_icmp_ge (pc := 28) (tgt := 45) dX4_dropPhrase_28 (by decide) (fun h4 => ?_) (fun h4 => ?_)
    · refine z_sub (lv2 := [(0, .ref (g.2.2.1 1))]) [0] rfl ?_
      exact hk _
    · refine z_aload_n (pc := 31) 0 dX4_dropPhrase_31 rfl rfl ?_
      refine z_iload_n (pc := 32) 1 dX4_dropPhrase_32 rfl rfl ?_
      refine z_iconst (pc := 33) (v := 1) dX4_dropPhrase_33 rfl ?_
      refine z_iadd (pc := 34) dX4_dropPhrase_34 ?_
      refine z_iload_n (pc := 35) 1 dX4_dropPhrase_35 rfl rfl ?_
      refine z_callV (pc := 36) (b := 1) (As := [.int (y2 + (1 : Int32)), .int y2]) (rest := []) kX4_92 (m_X4_movePhrase g μ (y2 + (1 : Int32)) y2) ltC_1 kdC_1 rfl rfl ⟨rfl, rfl⟩ ⟨Nat.le_of_ble_eq_true rfl, Nat.le_of_ble_eq_true rfl⟩ (Nat.le_of_ble_eq_true rfl) rfl rfl dX4_dropPhrase_36 (fun r5 μ6 => ?_)
      change Zw g ΛC enI RX4 cX4_dropPhrase 3 (some .int) rX4_dropPhrase 39 [(0, .ref (g.2.2.1 1)), (2, .int y2)] [] μ6 _
      refine z_iinc (pc := 39) (v := y2 + 1) (lv2 := [(0, .ref (g.2.2.1 1)), (2, .int (y2 + 1))]) 1 [1, 0] dX4_dropPhrase_39 rfl (by rw [oi_1]) (by decide) rfl ?_
      refine z_goto (pc := 42) (tgt := 23) dX4_dropPhrase_42 (by decide) ?_
      exact ih _ _ _ hk
def f_X4_dropPhrase (a1 : Int32) (μ : Mm) : Option (Int32 × Mm) := bd (f_X4_hasPhrase a1 μ) fun r1 μ2 => if r1 = 0 then (some ((-2 : Int32), μ2)) else (lp_X4_dropPhrase_23 FU a1 (si μ2 1 8 ((μ2.1 1 8) - (1 : Int32))) (fun  μ7 => some (μ7.1 1 8, μ7)))
theorem m_X4_dropPhrase (g : Gx) (μ : Mm) (a1 : Int32) : Zm g ΛC enI yX4_dropPhrase cX4_dropPhrase 3 (some .int) rX4_dropPhrase [.ref (g.2.2.1 1), .int a1] μ (f_X4_dropPhrase a1 μ) := by
  refine z_met (by decide +kernel) (Nat.le_of_ble_eq_true rfl) ?_
  change Zw g ΛC enI RX4 cX4_dropPhrase 3 (some .int) rX4_dropPhrase 0 [(0, .ref (g.2.2.1 1)), (1, .int a1)] [] μ (f_X4_dropPhrase a1 μ)
  rw [f_X4_dropPhrase]
  refine z_aload_n (pc := 0) 0 dX4_dropPhrase_0 rfl rfl ?_
  refine z_iload_n (pc := 1) 1 dX4_dropPhrase_1 rfl rfl ?_
  refine z_callV (pc := 2) (b := 1) (As := [.int a1]) (rest := []) kX4_89 (m_X4_hasPhrase g μ a1) ltC_1 kdC_1 rfl rfl ⟨rfl, rfl⟩ ⟨Nat.le_of_ble_eq_true rfl, Nat.le_of_ble_eq_true rfl⟩ (Nat.le_of_ble_eq_true rfl) rfl rfl dX4_dropPhrase_2 (fun r1 μ2 => ?_)
  change Zw g ΛC enI RX4 cX4_dropPhrase 3 (some .int) rX4_dropPhrase 5 [(0, .ref (g.2.2.1 1)), (1, .int a1)] [.int r1] μ2 _
  refine z_if_ne (pc := 5) (tgt := 11) dX4_dropPhrase_5 (by decide) (fun h3 => ?_) (fun h3 => ?_)
  · refine z_aload_n (pc := 11) 0 dX4_dropPhrase_11 rfl rfl ?_
    refine z_dup (pc := 12) dX4_dropPhrase_12 rfl ?_
    refine z_get (pc := 13) (v := .int (μ2.1 1 8)) flX4_56 jnX4 ltC_1 kdC_1 rfl (by decide) rfl foC_1_8 rfl dX4_dropPhrase_13 ?_
    refine z_iconst (pc := 16) (v := 1) dX4_dropPhrase_16 rfl ?_
    refine z_isub (pc := 17) dX4_dropPhrase_17 ?_
    refine z_puti (x := (0, 0)) (pc := 18) flX4_56 jnX4 tyX4 tyX4_ok nmX4 ltC_1 kdC_1 rfl (by decide) rfl foC_1_8 rfl ⟨rfl, rfl⟩ dX4_dropPhrase_18 ?_
    refine z_iload_n (pc := 21) 1 dX4_dropPhrase_21 rfl rfl ?_
    refine z_istore_n (pc := 22) (lv2 := [(0, .ref (g.2.2.1 1)), (1, .int a1), (2, .int a1)]) [1, 2, 0] dX4_dropPhrase_22 rfl (by decide) rfl ?_
    refine z_sub (lv2 := [(0, .ref (g.2.2.1 1)), (2, .int a1)]) [0, 2] rfl ?_
    refine w_X4_dropPhrase_23 g FU a1 (si μ2 1 8 ((μ2.1 1 8) - (1 : Int32))) _ (fun  μ7 => ?_)
    refine z_aload_n (pc := 45) 0 dX4_dropPhrase_45 rfl rfl ?_
    refine z_get (pc := 46) (v := .int (μ7.1 1 8)) flX4_56 jnX4 ltC_1 kdC_1 rfl (by decide) rfl foC_1_8 rfl dX4_dropPhrase_46 ?_
    exact z_iret dX4_dropPhrase_49
  · refine z_bipush (pc := 8) (v := -2) dX4_dropPhrase_8 (by decide +kernel) ?_
    exact z_iret dX4_dropPhrase_10
def f_X6_isSet (a0 : Int32) (μ : Mm) : Option (Int32 × Mm) := bd (f_X6_within a0 (0 : Int32) (15 : Int32) μ) fun r1 μ2 => if r1 = 0 ∨ r1 = 1 then some (r1, μ2) else none
theorem m_X6_isSet (g : Gx) (μ : Mm) (a0 : Int32) : Zm g ΛC enI yX6_isSet cX6_isSet 1 (some .boolean) rX6_isSet [.int a0] μ (f_X6_isSet a0 μ) := by
  refine z_met (by decide +kernel) (Nat.le_of_ble_eq_true rfl) ?_
  change Zw g ΛC enI RX6 cX6_isSet 1 (some .boolean) rX6_isSet 0 [(0, .int a0)] [] μ (f_X6_isSet a0 μ)
  rw [f_X6_isSet]
  refine z_iload_n (pc := 0) 0 dX6_isSet_0 rfl rfl ?_
  refine z_iconst (pc := 1) (v := 0) dX6_isSet_1 rfl ?_
  refine z_bipush (pc := 2) (v := 15) dX6_isSet_2 (by decide +kernel) ?_
  refine z_callS (pc := 4) (As := [.int a0, .int (0 : Int32), .int (15 : Int32)]) (rest := []) kX6_86 (m_X6_within g μ a0 (0 : Int32) (15 : Int32)) ⟨rfl, rfl⟩ ⟨Nat.le_of_ble_eq_true rfl, Nat.le_of_ble_eq_true rfl⟩ (Nat.le_of_ble_eq_true rfl) rfl rfl dX6_isSet_4 (fun r1 μ2 => ?_)
  change Zw g ΛC enI RX6 cX6_isSet 1 (some .boolean) rX6_isSet 7 [(0, .int a0)] [.int r1] μ2 _
  exact z_zret_g dX6_isSet_7
def f_X4_setBegins (a1 : Int32) (μ : Mm) : Option (Int32 × Mm) := bd (f_X6_isSet a1 μ) fun r1 μ2 => if r1 = 0 then (some ((-2 : Int32), μ2)) else (some (μ2.1 1 11, (si μ2 1 11 a1)))
theorem m_X4_setBegins (g : Gx) (μ : Mm) (a1 : Int32) : Zm g ΛC enI yX4_setBegins cX4_setBegins 3 (some .int) rX4_setBegins [.ref (g.2.2.1 1), .int a1] μ (f_X4_setBegins a1 μ) := by
  refine z_met (by decide +kernel) (Nat.le_of_ble_eq_true rfl) ?_
  change Zw g ΛC enI RX4 cX4_setBegins 3 (some .int) rX4_setBegins 0 [(0, .ref (g.2.2.1 1)), (1, .int a1)] [] μ (f_X4_setBegins a1 μ)
  rw [f_X4_setBegins]
  refine z_iload_n (pc := 0) 1 dX4_setBegins_0 rfl rfl ?_
  refine z_callSN (pc := 1) (As := [.int a1]) (rest := []) kX4_96 (m_X6_isSet g μ a1) ⟨rfl, rfl⟩ ⟨Nat.le_of_ble_eq_true rfl, Nat.le_of_ble_eq_true rfl⟩ (Nat.le_of_ble_eq_true rfl) rfl rfl dX4_setBegins_1 (fun r1 μ2 => ?_)
  change Zw g ΛC enI RX4 cX4_setBegins 3 (some .int) rX4_setBegins 4 [(0, .ref (g.2.2.1 1)), (1, .int a1)] [.int r1] μ2 _
  refine z_if_ne (pc := 4) (tgt := 10) dX4_setBegins_4 (by decide) (fun h3 => ?_) (fun h3 => ?_)
  · refine z_aload_n (pc := 10) 0 dX4_setBegins_10 rfl rfl ?_
    refine z_get (pc := 11) (v := .int (μ2.1 1 11)) flX4_40 jnX4 ltC_1 kdC_1 rfl (by decide) rfl foC_1_11 rfl dX4_setBegins_11 ?_
    refine z_istore_n (pc := 14) (lv2 := [(0, .ref (g.2.2.1 1)), (1, .int a1), (2, .int (μ2.1 1 11))]) [1, 2, 0] dX4_setBegins_14 rfl (by decide) rfl ?_
    refine z_aload_n (pc := 15) 0 dX4_setBegins_15 rfl rfl ?_
    refine z_iload_n (pc := 16) 1 dX4_setBegins_16 rfl rfl ?_
    refine z_puti (x := (0, 0)) (pc := 17) flX4_40 jnX4 tyX4 tyX4_ok nmX4 ltC_1 kdC_1 rfl (by decide) rfl foC_1_11 rfl ⟨rfl, rfl⟩ dX4_setBegins_17 ?_
    refine z_iload_n (pc := 20) 2 dX4_setBegins_20 rfl rfl ?_
    exact z_iret dX4_setBegins_21
  · refine z_bipush (pc := 7) (v := -2) dX4_setBegins_7 (by decide +kernel) ?_
    exact z_iret dX4_setBegins_9
def f_X4_setEnds (a1 : Int32) (μ : Mm) : Option (Int32 × Mm) := bd (f_X6_isSet a1 μ) fun r1 μ2 => if r1 = 0 then (some ((-2 : Int32), μ2)) else (some (μ2.1 1 12, (si μ2 1 12 a1)))
theorem m_X4_setEnds (g : Gx) (μ : Mm) (a1 : Int32) : Zm g ΛC enI yX4_setEnds cX4_setEnds 3 (some .int) rX4_setEnds [.ref (g.2.2.1 1), .int a1] μ (f_X4_setEnds a1 μ) := by
  refine z_met (by decide +kernel) (Nat.le_of_ble_eq_true rfl) ?_
  change Zw g ΛC enI RX4 cX4_setEnds 3 (some .int) rX4_setEnds 0 [(0, .ref (g.2.2.1 1)), (1, .int a1)] [] μ (f_X4_setEnds a1 μ)
  rw [f_X4_setEnds]
  refine z_iload_n (pc := 0) 1 dX4_setEnds_0 rfl rfl ?_
  refine z_callSN (pc := 1) (As := [.int a1]) (rest := []) kX4_96 (m_X6_isSet g μ a1) ⟨rfl, rfl⟩ ⟨Nat.le_of_ble_eq_true rfl, Nat.le_of_ble_eq_true rfl⟩ (Nat.le_of_ble_eq_true rfl) rfl rfl dX4_setEnds_1 (fun r1 μ2 => ?_)
  change Zw g ΛC enI RX4 cX4_setEnds 3 (some .int) rX4_setEnds 4 [(0, .ref (g.2.2.1 1)), (1, .int a1)] [.int r1] μ2 _
  refine z_if_ne (pc := 4) (tgt := 10) dX4_setEnds_4 (by decide) (fun h3 => ?_) (fun h3 => ?_)
  · refine z_aload_n (pc := 10) 0 dX4_setEnds_10 rfl rfl ?_
    refine z_get (pc := 11) (v := .int (μ2.1 1 12)) flX4_43 jnX4 ltC_1 kdC_1 rfl (by decide) rfl foC_1_12 rfl dX4_setEnds_11 ?_
    refine z_istore_n (pc := 14) (lv2 := [(0, .ref (g.2.2.1 1)), (1, .int a1), (2, .int (μ2.1 1 12))]) [1, 2, 0] dX4_setEnds_14 rfl (by decide) rfl ?_
    refine z_aload_n (pc := 15) 0 dX4_setEnds_15 rfl rfl ?_
    refine z_iload_n (pc := 16) 1 dX4_setEnds_16 rfl rfl ?_
    refine z_puti (x := (0, 0)) (pc := 17) flX4_43 jnX4 tyX4 tyX4_ok nmX4 ltC_1 kdC_1 rfl (by decide) rfl foC_1_12 rfl ⟨rfl, rfl⟩ dX4_setEnds_17 ?_
    refine z_iload_n (pc := 20) 2 dX4_setEnds_20 rfl rfl ?_
    exact z_iret dX4_setEnds_21
  · refine z_bipush (pc := 7) (v := -2) dX4_setEnds_7 (by decide +kernel) ?_
    exact z_iret dX4_setEnds_9
def f_X4_setFollows (a1 : Int32) (a2 : Int32) (μ : Mm) : Option (Int32 × Mm) := bd (f_X6_isSlot a1 μ) fun r1 μ2 => if r1 = 0 then (some ((-2 : Int32), μ2)) else (bd (f_X6_isSet a2 μ2) fun r4 μ5 => if r4 = 0 then (some ((-2 : Int32), μ5)) else (if zin a1 4 then (if zin a1 4 then (some (μ5.1 9 a1.toNatClampNeg, (si μ5 9 a1.toNatClampNeg a2))) else none) else none))
theorem m_X4_setFollows (g : Gx) (μ : Mm) (a1 : Int32) (a2 : Int32) : Zm g ΛC enI yX4_setFollows cX4_setFollows 4 (some .int) rX4_setFollows [.ref (g.2.2.1 1), .int a1, .int a2] μ (f_X4_setFollows a1 a2 μ) := by
  refine z_met (by decide +kernel) (Nat.le_of_ble_eq_true rfl) ?_
  change Zw g ΛC enI RX4 cX4_setFollows 4 (some .int) rX4_setFollows 0 [(0, .ref (g.2.2.1 1)), (1, .int a1), (2, .int a2)] [] μ (f_X4_setFollows a1 a2 μ)
  rw [f_X4_setFollows]
  refine z_iload_n (pc := 0) 1 dX4_setFollows_0 rfl rfl ?_
  refine z_callSN (pc := 1) (As := [.int a1]) (rest := []) kX4_82 (m_X6_isSlot g μ a1) ⟨rfl, rfl⟩ ⟨Nat.le_of_ble_eq_true rfl, Nat.le_of_ble_eq_true rfl⟩ (Nat.le_of_ble_eq_true rfl) rfl rfl dX4_setFollows_1 (fun r1 μ2 => ?_)
  change Zw g ΛC enI RX4 cX4_setFollows 4 (some .int) rX4_setFollows 4 [(0, .ref (g.2.2.1 1)), (1, .int a1), (2, .int a2)] [.int r1] μ2 _
  refine z_if_eq (pc := 4) (tgt := 14) dX4_setFollows_4 (by decide) (fun h3 => ?_) (fun h3 => ?_)
  · refine z_bipush (pc := 14) (v := -2) dX4_setFollows_14 (by decide +kernel) ?_
    exact z_iret dX4_setFollows_16
  · refine z_iload_n (pc := 7) 2 dX4_setFollows_7 rfl rfl ?_
    refine z_callSN (pc := 8) (As := [.int a2]) (rest := []) kX4_96 (m_X6_isSet g μ2 a2) ⟨rfl, rfl⟩ ⟨Nat.le_of_ble_eq_true rfl, Nat.le_of_ble_eq_true rfl⟩ (Nat.le_of_ble_eq_true rfl) rfl rfl dX4_setFollows_8 (fun r4 μ5 => ?_)
    change Zw g ΛC enI RX4 cX4_setFollows 4 (some .int) rX4_setFollows 11 [(0, .ref (g.2.2.1 1)), (1, .int a1), (2, .int a2)] [.int r4] μ5 _
    refine z_if_ne (pc := 11) (tgt := 17) dX4_setFollows_11 (by decide) (fun h6 => ?_) (fun h6 => ?_)
    · refine z_aload_n (pc := 17) 0 dX4_setFollows_17 rfl rfl ?_
      refine z_get (pc := 18) (v := .ref (g.2.2.1 9)) flX4_33 jnX4 ltC_1 kdC_1 rfl (by decide) rfl foC_1_7 rfl dX4_setFollows_18 ?_
      refine z_iload_n (pc := 21) 1 dX4_setFollows_21 rfl rfl ?_
      refine z_iaload_g (pc := 22) ltC_9 kdC_9 dX4_setFollows_22 ?_
      refine z_istore_n (pc := 23) (lv2 := [(0, .ref (g.2.2.1 1)), (1, .int a1), (2, .int a2), (3, .int (μ5.1 9 a1.toNatClampNeg))]) [1, 2, 3, 0] dX4_setFollows_23 rfl (by decide) rfl ?_
      refine z_aload_n (pc := 24) 0 dX4_setFollows_24 rfl rfl ?_
      refine z_get (pc := 25) (v := .ref (g.2.2.1 9)) flX4_33 jnX4 ltC_1 kdC_1 rfl (by decide) rfl foC_1_7 rfl dX4_setFollows_25 ?_
      refine z_iload_n (pc := 28) 1 dX4_setFollows_28 rfl rfl ?_
      refine z_iload_n (pc := 29) 2 dX4_setFollows_29 rfl rfl ?_
      refine z_iastore_g (pc := 30) ltC_9 kdC_9 dX4_setFollows_30 ?_
      refine z_iload_n (pc := 31) 3 dX4_setFollows_31 rfl rfl ?_
      exact z_iret dX4_setFollows_32
    · refine z_bipush (pc := 14) (v := -2) dX4_setFollows_14 (by decide +kernel) ?_
      exact z_iret dX4_setFollows_16
def f_X4_addLetter (a1 : Int32) (μ : Mm) : Option (Int32 × Mm) := bd (f_X6_within a1 (1 : Int32) (8 : Int32) μ) fun r1 μ2 => if r1 = 0 then (some ((-2 : Int32), μ2)) else (if (μ2.1 1 9) < (40 : Int32) then (if zin (μ2.1 1 9) 40 then (some ((μ2.1 1 9) + (1 : Int32), (si (si μ2 1 9 ((μ2.1 1 9) + (1 : Int32))) 7 ((μ2.1 1 9).toNatClampNeg) a1))) else none) else (some ((-4 : Int32), μ2)))
theorem m_X4_addLetter (g : Gx) (μ : Mm) (a1 : Int32) : Zm g ΛC enI yX4_addLetter cX4_addLetter 2 (some .int) rX4_addLetter [.ref (g.2.2.1 1), .int a1] μ (f_X4_addLetter a1 μ) := by
  refine z_met (by decide +kernel) (Nat.le_of_ble_eq_true rfl) ?_
  change Zw g ΛC enI RX4 cX4_addLetter 2 (some .int) rX4_addLetter 0 [(0, .ref (g.2.2.1 1)), (1, .int a1)] [] μ (f_X4_addLetter a1 μ)
  rw [f_X4_addLetter]
  refine z_iload_n (pc := 0) 1 dX4_addLetter_0 rfl rfl ?_
  refine z_iconst (pc := 1) (v := 1) dX4_addLetter_1 rfl ?_
  refine z_bipush (pc := 2) (v := 8) dX4_addLetter_2 (by decide +kernel) ?_
  refine z_callSN (pc := 4) (As := [.int a1, .int (1 : Int32), .int (8 : Int32)]) (rest := []) kX4_74 (m_X6_within g μ a1 (1 : Int32) (8 : Int32)) ⟨rfl, rfl⟩ ⟨Nat.le_of_ble_eq_true rfl, Nat.le_of_ble_eq_true rfl⟩ (Nat.le_of_ble_eq_true rfl) rfl rfl dX4_addLetter_4 (fun r1 μ2 => ?_)
  change Zw g ΛC enI RX4 cX4_addLetter 2 (some .int) rX4_addLetter 7 [(0, .ref (g.2.2.1 1)), (1, .int a1)] [.int r1] μ2 _
  refine z_if_ne (pc := 7) (tgt := 13) dX4_addLetter_7 (by decide) (fun h3 => ?_) (fun h3 => ?_)
  · refine z_aload_n (pc := 13) 0 dX4_addLetter_13 rfl rfl ?_
    refine z_get (pc := 14) (v := .int (μ2.1 1 9)) flX4_59 jnX4 ltC_1 kdC_1 rfl (by decide) rfl foC_1_9 rfl dX4_addLetter_14 ?_
    refine z_bipush (pc := 17) (v := 40) dX4_addLetter_17 (by decide +kernel) ?_
    refine z_icmp_lt (pc := 19) (tgt := 25) dX4_addLetter_19 (by decide) (fun h4 => ?_) (fun h4 => ?_)
    · refine z_aload_n (pc := 25) 0 dX4_addLetter_25 rfl rfl ?_
      refine z_get (pc := 26) (v := .ref (g.2.2.1 7)) flX4_27 jnX4 ltC_1 kdC_1 rfl (by decide) rfl foC_1_5 rfl dX4_addLetter_26 ?_
      refine z_aload_n (pc := 29) 0 dX4_addLetter_29 rfl rfl ?_
      refine z_dup (pc := 30) dX4_addLetter_30 rfl ?_
      refine z_get (pc := 31) (v := .int (μ2.1 1 9)) flX4_59 jnX4 ltC_1 kdC_1 rfl (by decide) rfl foC_1_9 rfl dX4_addLetter_31 ?_
      refine z_dup_x1 (pc := 34) dX4_addLetter_34 rfl rfl ?_
      refine z_iconst (pc := 35) (v := 1) dX4_addLetter_35 rfl ?_
      refine z_iadd (pc := 36) dX4_addLetter_36 ?_
      refine z_puti (x := (0, 0)) (pc := 37) flX4_59 jnX4 tyX4 tyX4_ok nmX4 ltC_1 kdC_1 rfl (by decide) rfl foC_1_9 rfl ⟨rfl, rfl⟩ dX4_addLetter_37 ?_
      refine z_iload_n (pc := 40) 1 dX4_addLetter_40 rfl rfl ?_
      refine z_iastore_g (pc := 41) ltC_7 kdC_7 dX4_addLetter_41 ?_
      refine z_aload_n (pc := 42) 0 dX4_addLetter_42 rfl rfl ?_
      refine z_get (pc := 43) (v := .int ((μ2.1 1 9) + (1 : Int32))) flX4_59 jnX4 ltC_1 kdC_1 rfl (by decide) rfl foC_1_9 rfl dX4_addLetter_43 ?_
      exact z_iret dX4_addLetter_46
    · refine z_bipush (pc := 22) (v := -4) dX4_addLetter_22 (by decide +kernel) ?_
      exact z_iret dX4_addLetter_24
  · refine z_bipush (pc := 10) (v := -2) dX4_addLetter_10 (by decide +kernel) ?_
    exact z_iret dX4_addLetter_12
def f_X4_wipeLine (μ : Mm) : Option (Int32 × Mm) := some (μ.1 1 9, (si μ 1 9 (0 : Int32)))
theorem m_X4_wipeLine (g : Gx) (μ : Mm) : Zm g ΛC enI yX4_wipeLine cX4_wipeLine 2 (some .int) rX4_wipeLine [.ref (g.2.2.1 1)] μ (f_X4_wipeLine μ) := by
  refine z_met (by decide +kernel) (Nat.le_of_ble_eq_true rfl) ?_
  change Zw g ΛC enI RX4 cX4_wipeLine 2 (some .int) rX4_wipeLine 0 [(0, .ref (g.2.2.1 1))] [] μ (f_X4_wipeLine μ)
  rw [f_X4_wipeLine]
  refine z_aload_n (pc := 0) 0 dX4_wipeLine_0 rfl rfl ?_
  refine z_get (pc := 1) (v := .int (μ.1 1 9)) flX4_59 jnX4 ltC_1 kdC_1 rfl (by decide) rfl foC_1_9 rfl dX4_wipeLine_1 ?_
  refine z_istore_n (pc := 4) (lv2 := [(0, .ref (g.2.2.1 1)), (1, .int (μ.1 1 9))]) [1, 0] dX4_wipeLine_4 rfl (by decide) rfl ?_
  refine z_aload_n (pc := 5) 0 dX4_wipeLine_5 rfl rfl ?_
  refine z_iconst (pc := 6) (v := 0) dX4_wipeLine_6 rfl ?_
  refine z_puti (x := (0, 0)) (pc := 7) flX4_59 jnX4 tyX4 tyX4_ok nmX4 ltC_1 kdC_1 rfl (by decide) rfl foC_1_9 rfl ⟨rfl, rfl⟩ dX4_wipeLine_7 ?_
  refine z_iload_n (pc := 10) 1 dX4_wipeLine_10 rfl rfl ?_
  exact z_iret dX4_wipeLine_11
def f_X4_setLine (a2 : Int32) (μ : Mm) : Option (Int32 × Mm) := if ¬ (0 : Int32) < 0 ∧ ¬ (0 : Int32) < 0 ∧ ¬ (if (40 : Int32) < a2 then (40 : Int32) else a2) < 0 ∧ (0 : Int32).toNatClampNeg + (if (40 : Int32) < a2 then (40 : Int32) else a2).toNatClampNeg ≤ 40 ∧ (0 : Int32).toNatClampNeg + (if (40 : Int32) < a2 then (40 : Int32) else a2).toNatClampNeg ≤ 40 then (some ((sc (si μ 1 9 (if (40 : Int32) < a2 then (40 : Int32) else a2)) 81 7 ((0 : Int32).toNatClampNeg) ((0 : Int32).toNatClampNeg) ((if (40 : Int32) < a2 then (40 : Int32) else a2).toNatClampNeg)).1 1 9, (sc (si μ 1 9 (if (40 : Int32) < a2 then (40 : Int32) else a2)) 81 7 ((0 : Int32).toNatClampNeg) ((0 : Int32).toNatClampNeg) ((if (40 : Int32) < a2 then (40 : Int32) else a2).toNatClampNeg)))) else none
theorem m_X4_setLine (g : Gx) (μ : Mm) (a2 : Int32) : Zm g ΛC enI yX4_setLine cX4_setLine 3 (some .int) rX4_setLine [.ref (g.2.2.1 1), .ref (g.2.2.1 81), .int a2] μ (f_X4_setLine a2 μ) := by
  refine z_met (by decide +kernel) (Nat.le_of_ble_eq_true rfl) ?_
  change Zw g ΛC enI RX4 cX4_setLine 3 (some .int) rX4_setLine 0 [(0, .ref (g.2.2.1 1)), (1, .ref (g.2.2.1 81)), (2, .int a2)] [] μ (f_X4_setLine a2 μ)
  rw [f_X4_setLine]
  refine z_aload_n (pc := 0) 0 dX4_setLine_0 rfl rfl ?_
  refine z_iload_n (pc := 1) 2 dX4_setLine_1 rfl rfl ?_
  refine z_bipush (pc := 2) (v := 40) dX4_setLine_2 (by decide +kernel) ?_
  refine z_min (pc := 4) kX4_62 (Nat.le_of_ble_eq_true rfl) (Nat.le_of_ble_eq_true rfl) (Nat.le_of_ble_eq_true rfl) dX4_setLine_4 ?_
  refine z_puti (x := (0, 0)) (pc := 7) flX4_59 jnX4 tyX4 tyX4_ok nmX4 ltC_1 kdC_1 rfl (by decide) rfl foC_1_9 rfl ⟨rfl, rfl⟩ dX4_setLine_7 ?_
  refine z_aload_n (pc := 10) 1 dX4_setLine_10 rfl rfl ?_
  refine z_iconst (pc := 11) (v := 0) dX4_setLine_11 rfl ?_
  refine z_aload_n (pc := 12) 0 dX4_setLine_12 rfl rfl ?_
  refine z_get (pc := 13) (v := .ref (g.2.2.1 7)) flX4_27 jnX4 ltC_1 kdC_1 rfl (by decide) rfl foC_1_5 rfl dX4_setLine_13 ?_
  refine z_iconst (pc := 16) (v := 0) dX4_setLine_16 rfl ?_
  refine z_aload_n (pc := 17) 0 dX4_setLine_17 rfl rfl ?_
  refine z_get (pc := 18) (v := .int (if (40 : Int32) < a2 then (40 : Int32) else a2)) flX4_59 jnX4 ltC_1 kdC_1 rfl (by decide) rfl foC_1_9 rfl dX4_setLine_18 ?_
  refine z_copy (pc := 21) kX4_68 ltC_81 kdC_81 ltC_7 kdC_7 (Nat.le_of_ble_eq_true rfl) (by decide +kernel) (Nat.le_of_ble_eq_true rfl) dX4_setLine_21 ?_
  refine z_aload_n (pc := 24) 0 dX4_setLine_24 rfl rfl ?_
  refine z_get (pc := 25) (v := .int ((sc (si μ 1 9 (if (40 : Int32) < a2 then (40 : Int32) else a2)) 81 7 ((0 : Int32).toNatClampNeg) ((0 : Int32).toNatClampNeg) ((if (40 : Int32) < a2 then (40 : Int32) else a2).toNatClampNeg)).1 1 9)) flX4_59 jnX4 ltC_1 kdC_1 rfl (by decide) rfl foC_1_9 rfl dX4_setLine_25 ?_
  exact z_iret dX4_setLine_28
def f_X4_setMetre (a1 : Int32) (μ : Mm) : Option (Int32 × Mm) := bd (f_X6_within a1 (1 : Int32) (40 : Int32) μ) fun r1 μ2 => if r1 = 0 then (some ((-2 : Int32), μ2)) else (some (μ2.1 1 10, (si μ2 1 10 a1)))
theorem m_X4_setMetre (g : Gx) (μ : Mm) (a1 : Int32) : Zm g ΛC enI yX4_setMetre cX4_setMetre 3 (some .int) rX4_setMetre [.ref (g.2.2.1 1), .int a1] μ (f_X4_setMetre a1 μ) := by
  refine z_met (by decide +kernel) (Nat.le_of_ble_eq_true rfl) ?_
  change Zw g ΛC enI RX4 cX4_setMetre 3 (some .int) rX4_setMetre 0 [(0, .ref (g.2.2.1 1)), (1, .int a1)] [] μ (f_X4_setMetre a1 μ)
  rw [f_X4_setMetre]
  refine z_iload_n (pc := 0) 1 dX4_setMetre_0 rfl rfl ?_
  refine z_iconst (pc := 1) (v := 1) dX4_setMetre_1 rfl ?_
  refine z_bipush (pc := 2) (v := 40) dX4_setMetre_2 (by decide +kernel) ?_
  refine z_callSN (pc := 4) (As := [.int a1, .int (1 : Int32), .int (40 : Int32)]) (rest := []) kX4_74 (m_X6_within g μ a1 (1 : Int32) (40 : Int32)) ⟨rfl, rfl⟩ ⟨Nat.le_of_ble_eq_true rfl, Nat.le_of_ble_eq_true rfl⟩ (Nat.le_of_ble_eq_true rfl) rfl rfl dX4_setMetre_4 (fun r1 μ2 => ?_)
  change Zw g ΛC enI RX4 cX4_setMetre 3 (some .int) rX4_setMetre 7 [(0, .ref (g.2.2.1 1)), (1, .int a1)] [.int r1] μ2 _
  refine z_if_ne (pc := 7) (tgt := 13) dX4_setMetre_7 (by decide) (fun h3 => ?_) (fun h3 => ?_)
  · refine z_aload_n (pc := 13) 0 dX4_setMetre_13 rfl rfl ?_
    refine z_get (pc := 14) (v := .int (μ2.1 1 10)) flX4_36 jnX4 ltC_1 kdC_1 rfl (by decide) rfl foC_1_10 rfl dX4_setMetre_14 ?_
    refine z_istore_n (pc := 17) (lv2 := [(0, .ref (g.2.2.1 1)), (1, .int a1), (2, .int (μ2.1 1 10))]) [1, 2, 0] dX4_setMetre_17 rfl (by decide) rfl ?_
    refine z_aload_n (pc := 18) 0 dX4_setMetre_18 rfl rfl ?_
    refine z_iload_n (pc := 19) 1 dX4_setMetre_19 rfl rfl ?_
    refine z_puti (x := (0, 0)) (pc := 20) flX4_36 jnX4 tyX4 tyX4_ok nmX4 ltC_1 kdC_1 rfl (by decide) rfl foC_1_10 rfl ⟨rfl, rfl⟩ dX4_setMetre_20 ?_
    refine z_iload_n (pc := 23) 2 dX4_setMetre_23 rfl rfl ?_
    exact z_iret dX4_setMetre_24
  · refine z_bipush (pc := 10) (v := -2) dX4_setMetre_10 (by decide +kernel) ?_
    exact z_iret dX4_setMetre_12
def f_X4_setMark (a1 : Int32) (a2 : Int32) (μ : Mm) : Option (Int32 × Mm) := bd (f_X6_within a1 (1 : Int32) (39 : Int32) μ) fun r1 μ2 => if r1 = 0 then (some ((-2 : Int32), μ2)) else (bd (f_X6_within a2 (0 : Int32) (2 : Int32) μ2) fun r4 μ5 => if r4 = 0 then (some ((-2 : Int32), μ5)) else (if zin a1 40 then (if zin a1 40 then (some (μ5.1 8 a1.toNatClampNeg, (si μ5 8 a1.toNatClampNeg a2))) else none) else none))
theorem m_X4_setMark (g : Gx) (μ : Mm) (a1 : Int32) (a2 : Int32) : Zm g ΛC enI yX4_setMark cX4_setMark 4 (some .int) rX4_setMark [.ref (g.2.2.1 1), .int a1, .int a2] μ (f_X4_setMark a1 a2 μ) := by
  refine z_met (by decide +kernel) (Nat.le_of_ble_eq_true rfl) ?_
  change Zw g ΛC enI RX4 cX4_setMark 4 (some .int) rX4_setMark 0 [(0, .ref (g.2.2.1 1)), (1, .int a1), (2, .int a2)] [] μ (f_X4_setMark a1 a2 μ)
  rw [f_X4_setMark]
  refine z_iload_n (pc := 0) 1 dX4_setMark_0 rfl rfl ?_
  refine z_iconst (pc := 1) (v := 1) dX4_setMark_1 rfl ?_
  refine z_bipush (pc := 2) (v := 39) dX4_setMark_2 (by decide +kernel) ?_
  refine z_callSN (pc := 4) (As := [.int a1, .int (1 : Int32), .int (39 : Int32)]) (rest := []) kX4_74 (m_X6_within g μ a1 (1 : Int32) (39 : Int32)) ⟨rfl, rfl⟩ ⟨Nat.le_of_ble_eq_true rfl, Nat.le_of_ble_eq_true rfl⟩ (Nat.le_of_ble_eq_true rfl) rfl rfl dX4_setMark_4 (fun r1 μ2 => ?_)
  change Zw g ΛC enI RX4 cX4_setMark 4 (some .int) rX4_setMark 7 [(0, .ref (g.2.2.1 1)), (1, .int a1), (2, .int a2)] [.int r1] μ2 _
  refine z_if_eq (pc := 7) (tgt := 19) dX4_setMark_7 (by decide) (fun h3 => ?_) (fun h3 => ?_)
  · refine z_bipush (pc := 19) (v := -2) dX4_setMark_19 (by decide +kernel) ?_
    exact z_iret dX4_setMark_21
  · refine z_iload_n (pc := 10) 2 dX4_setMark_10 rfl rfl ?_
    refine z_iconst (pc := 11) (v := 0) dX4_setMark_11 rfl ?_
    refine z_iconst (pc := 12) (v := 2) dX4_setMark_12 rfl ?_
    refine z_callSN (pc := 13) (As := [.int a2, .int (0 : Int32), .int (2 : Int32)]) (rest := []) kX4_74 (m_X6_within g μ2 a2 (0 : Int32) (2 : Int32)) ⟨rfl, rfl⟩ ⟨Nat.le_of_ble_eq_true rfl, Nat.le_of_ble_eq_true rfl⟩ (Nat.le_of_ble_eq_true rfl) rfl rfl dX4_setMark_13 (fun r4 μ5 => ?_)
    change Zw g ΛC enI RX4 cX4_setMark 4 (some .int) rX4_setMark 16 [(0, .ref (g.2.2.1 1)), (1, .int a1), (2, .int a2)] [.int r4] μ5 _
    refine z_if_ne (pc := 16) (tgt := 22) dX4_setMark_16 (by decide) (fun h6 => ?_) (fun h6 => ?_)
    · refine z_aload_n (pc := 22) 0 dX4_setMark_22 rfl rfl ?_
      refine z_get (pc := 23) (v := .ref (g.2.2.1 8)) flX4_30 jnX4 ltC_1 kdC_1 rfl (by decide) rfl foC_1_6 rfl dX4_setMark_23 ?_
      refine z_iload_n (pc := 26) 1 dX4_setMark_26 rfl rfl ?_
      refine z_iaload_g (pc := 27) ltC_8 kdC_8 dX4_setMark_27 ?_
      refine z_istore_n (pc := 28) (lv2 := [(0, .ref (g.2.2.1 1)), (1, .int a1), (2, .int a2), (3, .int (μ5.1 8 a1.toNatClampNeg))]) [1, 2, 3, 0] dX4_setMark_28 rfl (by decide) rfl ?_
      refine z_aload_n (pc := 29) 0 dX4_setMark_29 rfl rfl ?_
      refine z_get (pc := 30) (v := .ref (g.2.2.1 8)) flX4_30 jnX4 ltC_1 kdC_1 rfl (by decide) rfl foC_1_6 rfl dX4_setMark_30 ?_
      refine z_iload_n (pc := 33) 1 dX4_setMark_33 rfl rfl ?_
      refine z_iload_n (pc := 34) 2 dX4_setMark_34 rfl rfl ?_
      refine z_iastore_g (pc := 35) ltC_8 kdC_8 dX4_setMark_35 ?_
      refine z_iload_n (pc := 36) 3 dX4_setMark_36 rfl rfl ?_
      exact z_iret dX4_setMark_37
    · refine z_bipush (pc := 19) (v := -2) dX4_setMark_19 (by decide +kernel) ?_
      exact z_iret dX4_setMark_21
def f_X4_raiseHabit (a1 : Int32) (a2 : Int32) (μ : Mm) : Option (Unit × Mm) := if ((a1 * (12 : Int32)) + a2) < 0 then (some ((), μ)) else (if (36 : Int32) ≤ ((a1 * (12 : Int32)) + a2) then (some ((), μ)) else (if zin ((a1 * (12 : Int32)) + a2) 36 then (if zin ((a1 * (12 : Int32)) + a2) 36 then (some ((), (si μ 6 (((a1 * (12 : Int32)) + a2).toNatClampNeg) ((μ.1 6 (((a1 * (12 : Int32)) + a2).toNatClampNeg)) + (1 : Int32))))) else none) else none))
theorem m_X4_raiseHabit (g : Gx) (μ : Mm) (a1 : Int32) (a2 : Int32) : Zm g ΛC enV yX4_raiseHabit cX4_raiseHabit 4 none rX4_raiseHabit [.ref (g.2.2.1 1), .int a1, .int a2] μ (f_X4_raiseHabit a1 a2 μ) := by
  refine z_met (by decide +kernel) (Nat.le_of_ble_eq_true rfl) ?_
  change Zw g ΛC enV RX4 cX4_raiseHabit 4 none rX4_raiseHabit 0 [(0, .ref (g.2.2.1 1)), (1, .int a1), (2, .int a2)] [] μ (f_X4_raiseHabit a1 a2 μ)
  rw [f_X4_raiseHabit]
  refine z_iload_n (pc := 0) 1 dX4_raiseHabit_0 rfl rfl ?_
  refine z_bipush (pc := 1) (v := 12) dX4_raiseHabit_1 (by decide +kernel) ?_
  refine z_imul (pc := 3) dX4_raiseHabit_3 ?_
  refine z_iload_n (pc := 4) 2 dX4_raiseHabit_4 rfl rfl ?_
  refine z_iadd (pc := 5) dX4_raiseHabit_5 ?_
  refine z_istore_n (pc := 6) (lv2 := [(0, .ref (g.2.2.1 1)), (1, .int a1), (2, .int a2), (3, .int ((a1 * (12 : Int32)) + a2))]) [1, 2, 3, 0] dX4_raiseHabit_6 rfl (by decide) rfl ?_
  refine z_iload_n (pc := 7) 3 dX4_raiseHabit_7 rfl rfl ?_
  refine z_if_lt (pc := 8) (tgt := 30) dX4_raiseHabit_8 (by decide) (fun h1 => ?_) (fun h1 => ?_)
  · exact z_vret dX4_raiseHabit_30
  · refine z_iload_n (pc := 11) 3 dX4_raiseHabit_11 rfl rfl ?_
    refine z_aload_n (pc := 12) 0 dX4_raiseHabit_12 rfl rfl ?_
    refine z_get (pc := 13) (v := .ref (g.2.2.1 6)) flX4_24 jnX4 ltC_1 kdC_1 rfl (by decide) rfl foC_1_4 rfl dX4_raiseHabit_13 ?_
    refine z_alen_i (pc := 16) (v := 36) ltC_6 kdC_6 (by decide +kernel) dX4_raiseHabit_16 ?_
    refine z_icmp_ge (pc := 17) (tgt := 30) dX4_raiseHabit_17 (by decide) (fun h2 => ?_) (fun h2 => ?_)
    · exact z_vret dX4_raiseHabit_30
    · refine z_aload_n (pc := 20) 0 dX4_raiseHabit_20 rfl rfl ?_
      refine z_get (pc := 21) (v := .ref (g.2.2.1 6)) flX4_24 jnX4 ltC_1 kdC_1 rfl (by decide) rfl foC_1_4 rfl dX4_raiseHabit_21 ?_
      refine z_iload_n (pc := 24) 3 dX4_raiseHabit_24 rfl rfl ?_
      refine z_dup2 (pc := 25) dX4_raiseHabit_25 rfl rfl ?_
      refine z_iaload_g (pc := 26) ltC_6 kdC_6 dX4_raiseHabit_26 ?_
      refine z_iconst (pc := 27) (v := 1) dX4_raiseHabit_27 rfl ?_
      refine z_iadd (pc := 28) dX4_raiseHabit_28 ?_
      refine z_iastore_g (pc := 29) ltC_6 kdC_6 dX4_raiseHabit_29 ?_
      exact z_vret dX4_raiseHabit_30
def f_X4_factOf (a1 : Int32) (a2 : Int32) (μ : Mm) : Option (Int32 × Mm) := if a2 = 0 then (if zin a1 12 then (some (μ.1 2 a1.toNatClampNeg, μ)) else none) else (if a2 = 1 then (if zin a1 12 then (some (μ.1 4 a1.toNatClampNeg, μ)) else none) else (if a2 = 2 then (if zin a1 12 then (some (μ.1 5 a1.toNatClampNeg, μ)) else none) else (if a2 = 3 then (if zin a1 12 then (some (μ.1 3 a1.toNatClampNeg, μ)) else none) else (bd (f_X4_habitOf (a2 - (4 : Int32)) a1 μ) fun r5 μ6 => some (r5, μ6)))))
theorem m_X4_factOf (g : Gx) (μ : Mm) (a1 : Int32) (a2 : Int32) : Zm g ΛC enI yX4_factOf cX4_factOf 3 (some .int) rX4_factOf [.ref (g.2.2.1 1), .int a1, .int a2] μ (f_X4_factOf a1 a2 μ) := by
  refine z_met (by decide +kernel) (Nat.le_of_ble_eq_true rfl) ?_
  change Zw g ΛC enI RX4 cX4_factOf 3 (some .int) rX4_factOf 0 [(0, .ref (g.2.2.1 1)), (1, .int a1), (2, .int a2)] [] μ (f_X4_factOf a1 a2 μ)
  rw [f_X4_factOf]
  refine z_iload_n (pc := 0) 2 dX4_factOf_0 rfl rfl ?_
  refine z_ite (fun h1 => ?_) (fun h1 => ?_)
  · refine z_tabIn (pc := 1) (tgt := 32) dX4_factOf_1 (by rw [h1]; decide +kernel) (by rw [h1]; decide +kernel) (off := 31) (by rw [h1]; decide +kernel) (by decide) ?_
    refine z_aload_n (pc := 32) 0 dX4_factOf_32 rfl rfl ?_
    refine z_get (pc := 33) (v := .ref (g.2.2.1 2)) flX4_9 jnX4 ltC_1 kdC_1 rfl (by decide) rfl foC_1_0 rfl dX4_factOf_33 ?_
    refine z_iload_n (pc := 36) 1 dX4_factOf_36 rfl rfl ?_
    refine z_iaload_g (pc := 37) ltC_2 kdC_2 dX4_factOf_37 ?_
    exact z_iret dX4_factOf_38
  refine z_ite (fun h2 => ?_) (fun h2 => ?_)
  · refine z_tabIn (pc := 1) (tgt := 39) dX4_factOf_1 (by rw [h2]; decide +kernel) (by rw [h2]; decide +kernel) (off := 38) (by rw [h2]; decide +kernel) (by decide) ?_
    refine z_aload_n (pc := 39) 0 dX4_factOf_39 rfl rfl ?_
    refine z_get (pc := 40) (v := .ref (g.2.2.1 4)) flX4_18 jnX4 ltC_1 kdC_1 rfl (by decide) rfl foC_1_2 rfl dX4_factOf_40 ?_
    refine z_iload_n (pc := 43) 1 dX4_factOf_43 rfl rfl ?_
    refine z_iaload_g (pc := 44) ltC_4 kdC_4 dX4_factOf_44 ?_
    exact z_iret dX4_factOf_45
  refine z_ite (fun h3 => ?_) (fun h3 => ?_)
  · refine z_tabIn (pc := 1) (tgt := 46) dX4_factOf_1 (by rw [h3]; decide +kernel) (by rw [h3]; decide +kernel) (off := 45) (by rw [h3]; decide +kernel) (by decide) ?_
    refine z_aload_n (pc := 46) 0 dX4_factOf_46 rfl rfl ?_
    refine z_get (pc := 47) (v := .ref (g.2.2.1 5)) flX4_21 jnX4 ltC_1 kdC_1 rfl (by decide) rfl foC_1_3 rfl dX4_factOf_47 ?_
    refine z_iload_n (pc := 50) 1 dX4_factOf_50 rfl rfl ?_
    refine z_iaload_g (pc := 51) ltC_5 kdC_5 dX4_factOf_51 ?_
    exact z_iret dX4_factOf_52
  refine z_ite (fun h4 => ?_) (fun h4 => ?_)
  · refine z_tabIn (pc := 1) (tgt := 53) dX4_factOf_1 (by rw [h4]; decide +kernel) (by rw [h4]; decide +kernel) (off := 52) (by rw [h4]; decide +kernel) (by decide) ?_
    refine z_aload_n (pc := 53) 0 dX4_factOf_53 rfl rfl ?_
    refine z_get (pc := 54) (v := .ref (g.2.2.1 3)) flX4_15 jnX4 ltC_1 kdC_1 rfl (by decide) rfl foC_1_1 rfl dX4_factOf_54 ?_
    refine z_iload_n (pc := 57) 1 dX4_factOf_57 rfl rfl ?_
    refine z_iaload_g (pc := 58) ltC_3 kdC_3 dX4_factOf_58 ?_
    exact z_iret dX4_factOf_59
  have eh1 : a2.toInt ≠ 0 := fun q => h1 (Int32.toInt_inj.mp (q.trans (by decide +kernel)))
  have eh2 : a2.toInt ≠ 1 := fun q => h2 (Int32.toInt_inj.mp (q.trans (by decide +kernel)))
  have eh3 : a2.toInt ≠ 2 := fun q => h3 (Int32.toInt_inj.mp (q.trans (by decide +kernel)))
  have eh4 : a2.toInt ≠ 3 := fun q => h4 (Int32.toInt_inj.mp (q.trans (by decide +kernel)))
  refine z_tabOut (pc := 1) (tgt := 60) dX4_factOf_1 (by omega) (by decide) ?_
  refine z_aload_n (pc := 60) 0 dX4_factOf_60 rfl rfl ?_
  refine z_iload_n (pc := 61) 2 dX4_factOf_61 rfl rfl ?_
  refine z_iconst (pc := 62) (v := 4) dX4_factOf_62 rfl ?_
  refine z_isub (pc := 63) dX4_factOf_63 ?_
  refine z_iload_n (pc := 64) 1 dX4_factOf_64 rfl rfl ?_
  refine z_callV (pc := 65) (b := 1) (As := [.int (a2 - (4 : Int32)), .int a1]) (rest := []) kX4_99 (m_X4_habitOf g μ (a2 - (4 : Int32)) a1) ltC_1 kdC_1 rfl rfl ⟨rfl, rfl⟩ ⟨Nat.le_of_ble_eq_true rfl, Nat.le_of_ble_eq_true rfl⟩ (Nat.le_of_ble_eq_true rfl) rfl rfl dX4_factOf_65 (fun r5 μ6 => ?_)
  change Zw g ΛC enI RX4 cX4_factOf 3 (some .int) rX4_factOf 68 [(0, .ref (g.2.2.1 1)), (1, .int a1), (2, .int a2)] [.int r5] μ6 _
  exact z_iret dX4_factOf_68
def lp_X4_fixedPhrase_5 (c1 : Int32) (c2 : Int32) : Nat → Int32 → Int32 → Mm → (Int32 → Mm → Option (Int32 × Mm)) → Option (Int32 × Mm)
  | 0, _, _, _, _ => none
  | n + 1, y3, y4, μ, k => if (μ.1 1 8) ≤ y4 then (k y3 μ) else (if zin y4 12 then (if (μ.1 2 y4.toNatClampNeg) = c2 then (bd (f_X4_habitOf c1 y4 μ) fun r3 μ4 => if r3 ≤ 0 then (lp_X4_fixedPhrase_5 c1 c2 n y3 (y4 + 1) μ4 k) else (if y3 = (-1 : Int32) then (lp_X4_fixedPhrase_5 c1 c2 n y4 (y4 + 1) μ4 k) else (some ((-1 : Int32), μ4)))) else (lp_X4_fixedPhrase_5 c1 c2 n y3 (y4 + 1) μ k)) else none)
theorem w_X4_fixedPhrase_5 (g : Gx) (c1 : Int32) (c2 : Int32) : ∀ (n : Nat) (y3 : Int32) (y4 : Int32) (μ : Mm) (k : Int32 → Mm → Option (Int32 × Mm)), (∀ (z3 : Int32) (ν : Mm), Zw g ΛC enI RX4 cX4_fixedPhrase 5 (some .int) rX4_fixedPhrase 51 [(3, .int z3)] [] ν (k z3 ν)) → Zw g ΛC enI RX4 cX4_fixedPhrase 5 (some .int) rX4_fixedPhrase 5 [(0, .ref (g.2.2.1 1)), (1, .int c1), (2, .int c2), (3, .int y3), (4, .int y4)] [] μ (lp_X4_fixedPhrase_5 c1 c2 n y3 y4 μ k) := by
  intro n
  induction n with
  | zero =>
    intro y3 y4 μ k hk
    exact z_none
  | succ n ih =>
    intro y3 y4 μ k hk
    rw [lp_X4_fixedPhrase_5]
    refine z_iload (pc := 5) 4 dX4_fixedPhrase_5 rfl ?_
    refine z_aload_n (pc := 7) 0 dX4_fixedPhrase_7 rfl rfl ?_
    refine z_get (pc := 8) (v := .int (μ.1 1 8)) flX4_56 jnX4 ltC_1 kdC_1 rfl (by decide) rfl foC_1_8 rfl dX4_fixedPhrase_8 ?_
    refine z_icmp_ge (pc := 11) (tgt := 51) dX4_fixedPhrase_11 (by decide) (fun h1 => ?_) (fun h1 => ?_)
    · refine z_sub (lv2 := [(3, .int y3)]) [3] rfl ?_
      exact hk _ _
    · refine z_aload_n (pc := 14) 0 dX4_fixedPhrase_14 rfl rfl ?_
      refine z_get (pc := 15) (v := .ref (g.2.2.1 2)) flX4_9 jnX4 ltC_1 kdC_1 rfl (by decide) rfl foC_1_0 rfl dX4_fixedPhrase_15 ?_
      refine z_iload (pc := 18) 4 dX4_fixedPhrase_18 rfl ?_
      refine z_iaload_g (pc := 20) ltC_2 kdC_2 dX4_fixedPhrase_20 ?_
      refine z_iload_n (pc := 21) 2 dX4_fixedPhrase_21 rfl rfl ?_
      refine z_icmp_ne (pc := 22) (tgt := 45) dX4_fixedPhrase_22 (by decide) (fun h2 => ?_) (fun h2 => ?_)
      · refine z_iinc (pc := 45) (v := y4 + 1) (lv2 := [(0, .ref (g.2.2.1 1)), (1, .int c1), (2, .int c2), (3, .int y3), (4, .int (y4 + 1))]) 4 [1, 2, 3, 4, 0] dX4_fixedPhrase_45 rfl (by rw [oi_1]) (by decide) rfl ?_
        refine z_goto (pc := 48) (tgt := 5) dX4_fixedPhrase_48 (by decide) ?_
        exact ih _ _ _ _ hk
      · refine z_aload_n (pc := 25) 0 dX4_fixedPhrase_25 rfl rfl ?_
        refine z_iload_n (pc := 26) 1 dX4_fixedPhrase_26 rfl rfl ?_
        refine z_iload (pc := 27) 4 dX4_fixedPhrase_27 rfl ?_
        refine z_callV (pc := 29) (b := 1) (As := [.int c1, .int y4]) (rest := []) kX4_99 (m_X4_habitOf g μ c1 y4) ltC_1 kdC_1 rfl rfl ⟨rfl, rfl⟩ ⟨Nat.le_of_ble_eq_true rfl, Nat.le_of_ble_eq_true rfl⟩ (Nat.le_of_ble_eq_true rfl) rfl rfl dX4_fixedPhrase_29 (fun r3 μ4 => ?_)
        change Zw g ΛC enI RX4 cX4_fixedPhrase 5 (some .int) rX4_fixedPhrase 32 [(0, .ref (g.2.2.1 1)), (1, .int c1), (2, .int c2), (3, .int y3), (4, .int y4)] [.int r3] μ4 _
        refine z_if_le (pc := 32) (tgt := 45) dX4_fixedPhrase_32 (by decide) (fun h5 => ?_) (fun h5 => ?_)
        · refine z_iinc (pc := 45) (v := y4 + 1) (lv2 := [(0, .ref (g.2.2.1 1)), (1, .int c1), (2, .int c2), (3, .int y3), (4, .int (y4 + 1))]) 4 [1, 2, 3, 4, 0] dX4_fixedPhrase_45 rfl (by rw [oi_1]) (by decide) rfl ?_
          refine z_goto (pc := 48) (tgt := 5) dX4_fixedPhrase_48 (by decide) ?_
          exact ih _ _ _ _ hk
        · refine z_iload_n (pc := 35) 3 dX4_fixedPhrase_35 rfl rfl ?_
          refine z_iconst (pc := 36) (v := -1) dX4_fixedPhrase_36 rfl ?_
          refine z_icmp_eq (pc := 37) (tgt := 42) dX4_fixedPhrase_37 (by decide) (fun h6 => ?_) (fun h6 => ?_)
          · refine z_iload (pc := 42) 4 dX4_fixedPhrase_42 rfl ?_
            refine z_istore_n (pc := 44) (lv2 := [(0, .ref (g.2.2.1 1)), (1, .int c1), (2, .int c2), (3, .int y4), (4, .int y4)]) [1, 2, 3, 0, 4] dX4_fixedPhrase_44 rfl (by decide) rfl ?_
            refine z_iinc (pc := 45) (v := y4 + 1) (lv2 := [(0, .ref (g.2.2.1 1)), (1, .int c1), (2, .int c2), (3, .int y4), (4, .int (y4 + 1))]) 4 [1, 2, 3, 4, 0] dX4_fixedPhrase_45 rfl (by rw [oi_1]) (by decide) rfl ?_
            refine z_goto (pc := 48) (tgt := 5) dX4_fixedPhrase_48 (by decide) ?_
            exact ih _ _ _ _ hk
          · refine z_iconst (pc := 40) (v := -1) dX4_fixedPhrase_40 rfl ?_
            exact z_iret dX4_fixedPhrase_41
def f_X4_fixedPhrase (a1 : Int32) (a2 : Int32) (μ : Mm) : Option (Int32 × Mm) := lp_X4_fixedPhrase_5 a1 a2 FU (-1 : Int32) (0 : Int32) μ (fun x7 μ8 => some (x7, μ8))
theorem m_X4_fixedPhrase (g : Gx) (μ : Mm) (a1 : Int32) (a2 : Int32) : Zm g ΛC enI yX4_fixedPhrase cX4_fixedPhrase 5 (some .int) rX4_fixedPhrase [.ref (g.2.2.1 1), .int a1, .int a2] μ (f_X4_fixedPhrase a1 a2 μ) := by
  refine z_met (by decide +kernel) (Nat.le_of_ble_eq_true rfl) ?_
  change Zw g ΛC enI RX4 cX4_fixedPhrase 5 (some .int) rX4_fixedPhrase 0 [(0, .ref (g.2.2.1 1)), (1, .int a1), (2, .int a2)] [] μ (f_X4_fixedPhrase a1 a2 μ)
  rw [f_X4_fixedPhrase]
  refine z_iconst (pc := 0) (v := -1) dX4_fixedPhrase_0 rfl ?_
  refine z_istore_n (pc := 1) (lv2 := [(0, .ref (g.2.2.1 1)), (1, .int a1), (2, .int a2), (3, .int (-1 : Int32))]) [1, 2, 3, 0] dX4_fixedPhrase_1 rfl (by decide) rfl ?_
  refine z_iconst (pc := 2) (v := 0) dX4_fixedPhrase_2 rfl ?_
  refine z_istore (pc := 3) (lv2 := [(0, .ref (g.2.2.1 1)), (1, .int a1), (2, .int a2), (3, .int (-1 : Int32)), (4, .int (0 : Int32))]) [1, 2, 3, 4, 0] dX4_fixedPhrase_3 (by decide) rfl ?_
  refine w_X4_fixedPhrase_5 g a1 a2 FU (-1 : Int32) (0 : Int32) μ _ (fun x7 μ8 => ?_)
  refine z_iload_n (pc := 51) 0 dX4_fixedPhrase_51 rfl rfl ?_
  exact z_iret dX4_fixedPhrase_52
def lp_X4_digestOn_17 (c5 : Int32) : Nat → Int64 → Int32 → Mm → (Int64 → Mm → Option (Int64 × Mm)) → Option (Int64 × Mm)
  | 0, _, _, _, _ => none
  | n + 1, y3, y6, μ, k => if (7 : Int32) ≤ y6 then (k y3 μ) else (bd (f_X4_factOf c5 y6 μ) fun r3 μ4 => lp_X4_digestOn_17 c5 n (((31 : Int64) * y3) + r3.toInt64) (y6 + 1) μ4 k)
theorem w_X4_digestOn_17 (g : Gx) (c5 : Int32) : ∀ (n : Nat) (y3 : Int64) (y6 : Int32) (μ : Mm) (k : Int64 → Mm → Option (Int64 × Mm)), (∀ (z3 : Int64) (ν : Mm), Zw g ΛC enJ RX4 cX4_digestOn 7 (some .long) rX4_digestOn 46 [(0, .ref (g.2.2.1 1)), (3, .long z3), (5, .int c5)] [] ν (k z3 ν)) → Zw g ΛC enJ RX4 cX4_digestOn 7 (some .long) rX4_digestOn 17 [(0, .ref (g.2.2.1 1)), (3, .long y3), (5, .int c5), (6, .int y6)] [] μ (lp_X4_digestOn_17 c5 n y3 y6 μ k) := by
  intro n
  induction n with
  | zero =>
    intro y3 y6 μ k hk
    exact z_none
  | succ n ih =>
    intro y3 y6 μ k hk
    rw [lp_X4_digestOn_17]
    refine z_iload (pc := 17) 3 dX4_digestOn_17 rfl ?_
    refine z_bipush (pc := 19) (v := 7) dX4_digestOn_19 (by decide +kernel) ?_
    refine z_icmp_ge (pc := 21) (tgt := 46) dX4_digestOn_21 (by decide) (fun h2 => ?_) (fun h2 => ?_)
    · refine z_sub (lv2 := [(0, .ref (g.2.2.1 1)), (3, .long y3), (5, .int c5)]) [0, 1, 2] rfl ?_
      exact hk _ _
    · refine z_ldc2 (pc := 24) (v := 31) klX4_102 dX4_digestOn_24 ?_
      refine z_lload_n (pc := 27) 1 dX4_digestOn_27 rfl rfl ?_
      refine z_lmul (pc := 28) dX4_digestOn_28 ?_
      refine z_aload_n (pc := 29) 0 dX4_digestOn_29 rfl rfl ?_
      refine z_iload (pc := 30) 2 dX4_digestOn_30 rfl ?_
      refine z_iload (pc := 32) 3 dX4_digestOn_32 rfl ?_
      refine z_callV (pc := 34) (b := 1) (As := [.int c5, .int y6]) (rest := [.long ((31 : Int64) * y3)]) kX4_104 (m_X4_factOf g μ c5 y6) ltC_1 kdC_1 rfl rfl ⟨rfl, rfl⟩ ⟨Nat.le_of_ble_eq_true rfl, Nat.le_of_ble_eq_true rfl⟩ (Nat.le_of_ble_eq_true rfl) rfl rfl dX4_digestOn_34 (fun r3 μ4 => ?_)
      change Zw g ΛC enJ RX4 cX4_digestOn 7 (some .long) rX4_digestOn 37 [(0, .ref (g.2.2.1 1)), (3, .long y3), (5, .int c5), (6, .int y6)] [.int r3, .long ((31 : Int64) * y3)] μ4 _
      refine z_i2l (pc := 37) dX4_digestOn_37 ?_
      refine z_ladd (pc := 38) dX4_digestOn_38 ?_
      refine z_lstore_n (pc := 39) (lv2 := [(0, .ref (g.2.2.1 1)), (3, .long (((31 : Int64) * y3) + r3.toInt64)), (5, .int c5), (6, .int y6)]) [1, 0, 2, 3] dX4_digestOn_39 rfl (by decide) rfl ?_
      refine z_iinc (pc := 40) (v := y6 + 1) (lv2 := [(0, .ref (g.2.2.1 1)), (3, .long (((31 : Int64) * y3) + r3.toInt64)), (5, .int c5), (6, .int (y6 + 1))]) 3 [1, 2, 3, 0] dX4_digestOn_40 rfl (by rw [oi_1]) (by decide) rfl ?_
      refine z_goto (pc := 43) (tgt := 17) dX4_digestOn_43 (by decide) ?_
      exact ih _ _ _ _ hk
def lp_X4_digestOn_5 : Nat → Int64 → Int32 → Mm → (Int64 → Mm → Option (Int64 × Mm)) → Option (Int64 × Mm)
  | 0, _, _, _, _ => none
  | n + 1, y3, y5, μ, k => if (μ.1 1 8) ≤ y5 then (k y3 μ) else (lp_X4_digestOn_17 y5 FU y3 (0 : Int32) μ (fun x5 μ6 => lp_X4_digestOn_5 n x5 (y5 + 1) μ6 k))
theorem w_X4_digestOn_5 (g : Gx) : ∀ (n : Nat) (y3 : Int64) (y5 : Int32) (μ : Mm) (k : Int64 → Mm → Option (Int64 × Mm)), (∀ (z3 : Int64) (ν : Mm), Zw g ΛC enJ RX4 cX4_digestOn 7 (some .long) rX4_digestOn 52 [(0, .ref (g.2.2.1 1)), (3, .long z3)] [] ν (k z3 ν)) → Zw g ΛC enJ RX4 cX4_digestOn 7 (some .long) rX4_digestOn 5 [(0, .ref (g.2.2.1 1)), (3, .long y3), (5, .int y5)] [] μ (lp_X4_digestOn_5 n y3 y5 μ k) := by
  intro n
  induction n with
  | zero =>
    intro y3 y5 μ k hk
    exact z_none
  | succ n ih =>
    intro y3 y5 μ k hk
    rw [lp_X4_digestOn_5]
    refine z_iload (pc := 5) 2 dX4_digestOn_5 rfl ?_
    refine z_aload_n (pc := 7) 0 dX4_digestOn_7 rfl rfl ?_
    refine z_get (pc := 8) (v := .int (μ.1 1 8)) flX4_56 jnX4 ltC_1 kdC_1 rfl (by decide) rfl foC_1_8 rfl dX4_digestOn_8 ?_
    refine z_icmp_ge (pc := 11) (tgt := 52) dX4_digestOn_11 (by decide) (fun h1 => ?_) (fun h1 => ?_)
    · refine z_sub (lv2 := [(0, .ref (g.2.2.1 1)), (3, .long y3)]) [0, 1] rfl ?_
      exact hk _ _
    · refine z_iconst (pc := 14) (v := 0) dX4_digestOn_14 rfl ?_
      refine z_istore (pc := 15) (lv2 := [(0, .ref (g.2.2.1 1)), (3, .long y3), (5, .int y5), (6, .int (0 : Int32))]) [1, 2, 3, 0] dX4_digestOn_15 (by decide) rfl ?_
      refine w_X4_digestOn_17 g y5 FU y3 (0 : Int32) μ _ (fun x5 μ6 => ?_)
      refine z_iinc (pc := 46) (v := y5 + 1) (lv2 := [(0, .ref (g.2.2.1 1)), (3, .long x5), (5, .int (y5 + 1))]) 2 [1, 2, 0] dX4_digestOn_46 rfl (by rw [oi_1]) (by decide) rfl ?_
      refine z_goto (pc := 49) (tgt := 5) dX4_digestOn_49 (by decide) ?_
      exact ih _ _ _ _ hk
def lp_X4_digestOn_55 : Nat → Int64 → Int32 → Mm → (Int64 → Mm → Option (Int64 × Mm)) → Option (Int64 × Mm)
  | 0, _, _, _, _ => none
  | n + 1, y3, y5, μ, k => if (μ.1 1 9) ≤ y5 then (k y3 μ) else (if zin y5 40 then (lp_X4_digestOn_55 n (((31 : Int64) * y3) + ((μ.1 7 y5.toNatClampNeg).toInt64)) (y5 + 1) μ k) else none)
theorem w_X4_digestOn_55 (g : Gx) : ∀ (n : Nat) (y3 : Int64) (y5 : Int32) (μ : Mm) (k : Int64 → Mm → Option (Int64 × Mm)), (∀ (z3 : Int64) (ν : Mm), Zw g ΛC enJ RX4 cX4_digestOn 7 (some .long) rX4_digestOn 85 [(0, .ref (g.2.2.1 1)), (3, .long z3)] [] ν (k z3 ν)) → Zw g ΛC enJ RX4 cX4_digestOn 7 (some .long) rX4_digestOn 55 [(0, .ref (g.2.2.1 1)), (3, .long y3), (5, .int y5)] [] μ (lp_X4_digestOn_55 n y3 y5 μ k) := by
  intro n
  induction n with
  | zero =>
    intro y3 y5 μ k hk
    exact z_none
  | succ n ih =>
    intro y3 y5 μ k hk
    rw [lp_X4_digestOn_55]
    refine z_iload (pc := 55) 2 dX4_digestOn_55 rfl ?_
    refine z_aload_n (pc := 57) 0 dX4_digestOn_57 rfl rfl ?_
    refine z_get (pc := 58) (v := .int (μ.1 1 9)) flX4_59 jnX4 ltC_1 kdC_1 rfl (by decide) rfl foC_1_9 rfl dX4_digestOn_58 ?_
    refine z_icmp_ge (pc := 61) (tgt := 85) dX4_digestOn_61 (by decide) (fun h9 => ?_) (fun h9 => ?_)
    · refine z_sub (lv2 := [(0, .ref (g.2.2.1 1)), (3, .long y3)]) [0, 1] rfl ?_
      exact hk _ _
    · refine z_ldc2 (pc := 64) (v := 31) klX4_102 dX4_digestOn_64 ?_
      refine z_lload_n (pc := 67) 1 dX4_digestOn_67 rfl rfl ?_
      refine z_lmul (pc := 68) dX4_digestOn_68 ?_
      refine z_aload_n (pc := 69) 0 dX4_digestOn_69 rfl rfl ?_
      refine z_get (pc := 70) (v := .ref (g.2.2.1 7)) flX4_27 jnX4 ltC_1 kdC_1 rfl (by decide) rfl foC_1_5 rfl dX4_digestOn_70 ?_
      refine z_iload (pc := 73) 2 dX4_digestOn_73 rfl ?_
      refine z_iaload_g (pc := 75) ltC_7 kdC_7 dX4_digestOn_75 ?_
      refine z_i2l (pc := 76) dX4_digestOn_76 ?_
      refine z_ladd (pc := 77) dX4_digestOn_77 ?_
      refine z_lstore_n (pc := 78) (lv2 := [(0, .ref (g.2.2.1 1)), (3, .long (((31 : Int64) * y3) + ((μ.1 7 y5.toNatClampNeg).toInt64))), (5, .int y5)]) [1, 0, 2] dX4_digestOn_78 rfl (by decide) rfl ?_
      refine z_iinc (pc := 79) (v := y5 + 1) (lv2 := [(0, .ref (g.2.2.1 1)), (3, .long (((31 : Int64) * y3) + ((μ.1 7 y5.toNatClampNeg).toInt64))), (5, .int (y5 + 1))]) 2 [1, 2, 0] dX4_digestOn_79 rfl (by rw [oi_1]) (by decide) rfl ?_
      refine z_goto (pc := 82) (tgt := 55) dX4_digestOn_82 (by decide) ?_
      exact ih _ _ _ _ hk
def lp_X4_digestOn_88 : Nat → Int64 → Int32 → Mm → (Int64 → Mm → Option (Int64 × Mm)) → Option (Int64 × Mm)
  | 0, _, _, _, _ => none
  | n + 1, y3, y5, μ, k => if (40 : Int32) ≤ y5 then (k y3 μ) else (if zin y5 40 then (lp_X4_digestOn_88 n (((31 : Int64) * y3) + ((μ.1 8 y5.toNatClampNeg).toInt64)) (y5 + 1) μ k) else none)
theorem w_X4_digestOn_88 (g : Gx) : ∀ (n : Nat) (y3 : Int64) (y5 : Int32) (μ : Mm) (k : Int64 → Mm → Option (Int64 × Mm)), (∀ (z3 : Int64) (ν : Mm), Zw g ΛC enJ RX4 cX4_digestOn 7 (some .long) rX4_digestOn 116 [(3, .long z3)] [] ν (k z3 ν)) → Zw g ΛC enJ RX4 cX4_digestOn 7 (some .long) rX4_digestOn 88 [(0, .ref (g.2.2.1 1)), (3, .long y3), (5, .int y5)] [] μ (lp_X4_digestOn_88 n y3 y5 μ k) := by
  intro n
  induction n with
  | zero =>
    intro y3 y5 μ k hk
    exact z_none
  | succ n ih =>
    intro y3 y5 μ k hk
    rw [lp_X4_digestOn_88]
    refine z_iload (pc := 88) 2 dX4_digestOn_88 rfl ?_
    refine z_bipush (pc := 90) (v := 40) dX4_digestOn_90 (by decide +kernel) ?_
    refine z_icmp_ge (pc := 92) (tgt := 116) dX4_digestOn_92 (by decide) (fun h12 => ?_) (fun h12 => ?_)
    · refine z_sub (lv2 := [(3, .long y3)]) [1] rfl ?_
      exact hk _ _
    · refine z_ldc2 (pc := 95) (v := 31) klX4_102 dX4_digestOn_95 ?_
      refine z_lload_n (pc := 98) 1 dX4_digestOn_98 rfl rfl ?_
      refine z_lmul (pc := 99) dX4_digestOn_99 ?_
      refine z_aload_n (pc := 100) 0 dX4_digestOn_100 rfl rfl ?_
      refine z_get (pc := 101) (v := .ref (g.2.2.1 8)) flX4_30 jnX4 ltC_1 kdC_1 rfl (by decide) rfl foC_1_6 rfl dX4_digestOn_101 ?_
      refine z_iload (pc := 104) 2 dX4_digestOn_104 rfl ?_
      refine z_iaload_g (pc := 106) ltC_8 kdC_8 dX4_digestOn_106 ?_
      refine z_i2l (pc := 107) dX4_digestOn_107 ?_
      refine z_ladd (pc := 108) dX4_digestOn_108 ?_
      refine z_lstore_n (pc := 109) (lv2 := [(0, .ref (g.2.2.1 1)), (3, .long (((31 : Int64) * y3) + ((μ.1 8 y5.toNatClampNeg).toInt64))), (5, .int y5)]) [1, 0, 2] dX4_digestOn_109 rfl (by decide) rfl ?_
      refine z_iinc (pc := 110) (v := y5 + 1) (lv2 := [(0, .ref (g.2.2.1 1)), (3, .long (((31 : Int64) * y3) + ((μ.1 8 y5.toNatClampNeg).toInt64))), (5, .int (y5 + 1))]) 2 [1, 2, 0] dX4_digestOn_110 rfl (by rw [oi_1]) (by decide) rfl ?_
      refine z_goto (pc := 113) (tgt := 88) dX4_digestOn_113 (by decide) ?_
      exact ih _ _ _ _ hk
def f_X4_digestOn (a1 : Int64) (μ : Mm) : Option (Int64 × Mm) := lp_X4_digestOn_5 FU a1 (0 : Int32) μ (fun x7 μ8 => lp_X4_digestOn_55 FU x7 (0 : Int32) μ8 (fun x10 μ11 => lp_X4_digestOn_88 FU x10 (1 : Int32) μ11 (fun x13 μ14 => some (x13, μ14))))
theorem m_X4_digestOn (g : Gx) (μ : Mm) (a1 : Int64) : Zm g ΛC enJ yX4_digestOn cX4_digestOn 7 (some .long) rX4_digestOn [.ref (g.2.2.1 1), .long a1] μ (f_X4_digestOn a1 μ) := by
  refine z_met (by decide +kernel) (Nat.le_of_ble_eq_true rfl) ?_
  change Zw g ΛC enJ RX4 cX4_digestOn 7 (some .long) rX4_digestOn 0 [(0, .ref (g.2.2.1 1)), (1, .long a1)] [] μ (f_X4_digestOn a1 μ)
  rw [f_X4_digestOn]
  refine z_lload_n (pc := 0) 1 dX4_digestOn_0 rfl rfl ?_
  refine z_lstore_n (pc := 1) (lv2 := [(0, .ref (g.2.2.1 1)), (1, .long a1), (3, .long a1)]) [1, 2, 0] dX4_digestOn_1 rfl (by decide) rfl ?_
  refine z_iconst (pc := 2) (v := 0) dX4_digestOn_2 rfl ?_
  refine z_istore (pc := 3) (lv2 := [(0, .ref (g.2.2.1 1)), (1, .long a1), (3, .long a1), (5, .int (0 : Int32))]) [1, 2, 3, 0] dX4_digestOn_3 (by decide) rfl ?_
  refine z_sub (lv2 := [(0, .ref (g.2.2.1 1)), (3, .long a1), (5, .int (0 : Int32))]) [0, 2, 3] rfl ?_
  refine w_X4_digestOn_5 g FU a1 (0 : Int32) μ _ (fun x7 μ8 => ?_)
  refine z_iconst (pc := 52) (v := 0) dX4_digestOn_52 rfl ?_
  refine z_istore (pc := 53) (lv2 := [(0, .ref (g.2.2.1 1)), (3, .long x7), (5, .int (0 : Int32))]) [1, 2, 0] dX4_digestOn_53 (by decide) rfl ?_
  refine w_X4_digestOn_55 g FU x7 (0 : Int32) μ8 _ (fun x10 μ11 => ?_)
  refine z_iconst (pc := 85) (v := 1) dX4_digestOn_85 rfl ?_
  refine z_istore (pc := 86) (lv2 := [(0, .ref (g.2.2.1 1)), (3, .long x10), (5, .int (1 : Int32))]) [1, 2, 0] dX4_digestOn_86 (by decide) rfl ?_
  refine w_X4_digestOn_88 g FU x10 (1 : Int32) μ11 _ (fun x13 μ14 => ?_)
  refine z_lload_n (pc := 116) 0 dX4_digestOn_116 rfl rfl ?_
  exact z_lret dX4_digestOn_117
def f_X5_addByte (a1 : Int32) (μ : Mm) : Option (Int32 × Mm) := bd (f_X6_within a1 (0 : Int32) (127 : Int32) μ) fun r1 μ2 => if r1 = 0 then (some ((-2 : Int32), μ2)) else (if (μ2.1 78 1) < (150 : Int32) then (if zin (μ2.1 78 1) 150 then (some ((μ2.1 78 1) + (1 : Int32), (si (si μ2 78 1 ((μ2.1 78 1) + (1 : Int32))) 79 ((μ2.1 78 1).toNatClampNeg) (vp_nar .byte a1.toInt8.toInt32)))) else none) else (some ((-4 : Int32), μ2)))
theorem m_X5_addByte (g : Gx) (μ : Mm) (a1 : Int32) : Zm g ΛC enI yX5_addByte cX5_addByte 2 (some .int) rX5_addByte [.ref (g.2.2.1 78), .int a1] μ (f_X5_addByte a1 μ) := by
  refine z_met (by decide +kernel) (Nat.le_of_ble_eq_true rfl) ?_
  change Zw g ΛC enI RX5 cX5_addByte 2 (some .int) rX5_addByte 0 [(0, .ref (g.2.2.1 78)), (1, .int a1)] [] μ (f_X5_addByte a1 μ)
  rw [f_X5_addByte]
  refine z_iload_n (pc := 0) 1 dX5_addByte_0 rfl rfl ?_
  refine z_iconst (pc := 1) (v := 0) dX5_addByte_1 rfl ?_
  refine z_bipush (pc := 2) (v := 127) dX5_addByte_2 (by decide +kernel) ?_
  refine z_callSN (pc := 4) (As := [.int a1, .int (0 : Int32), .int (127 : Int32)]) (rest := []) kX5_22 (m_X6_within g μ a1 (0 : Int32) (127 : Int32)) ⟨rfl, rfl⟩ ⟨Nat.le_of_ble_eq_true rfl, Nat.le_of_ble_eq_true rfl⟩ (Nat.le_of_ble_eq_true rfl) rfl rfl dX5_addByte_4 (fun r1 μ2 => ?_)
  change Zw g ΛC enI RX5 cX5_addByte 2 (some .int) rX5_addByte 7 [(0, .ref (g.2.2.1 78)), (1, .int a1)] [.int r1] μ2 _
  refine z_if_ne (pc := 7) (tgt := 13) dX5_addByte_7 (by decide) (fun h3 => ?_) (fun h3 => ?_)
  · refine z_aload_n (pc := 13) 0 dX5_addByte_13 rfl rfl ?_
    refine z_get (pc := 14) (v := .int (μ2.1 78 1)) flX5_26 jnX5 ltC_78 kdC_78 rfl (by decide) rfl foC_78_1 rfl dX5_addByte_14 ?_
    refine z_sipush (pc := 17) (v := 150) dX5_addByte_17 (by decide +kernel) ?_
    refine z_icmp_lt (pc := 20) (tgt := 26) dX5_addByte_20 (by decide) (fun h4 => ?_) (fun h4 => ?_)
    · refine z_aload_n (pc := 26) 0 dX5_addByte_26 rfl rfl ?_
      refine z_get (pc := 27) (v := .ref (g.2.2.1 79)) flX5_9 jnX5 ltC_78 kdC_78 rfl (by decide) rfl foC_78_0 rfl dX5_addByte_27 ?_
      refine z_aload_n (pc := 30) 0 dX5_addByte_30 rfl rfl ?_
      refine z_dup (pc := 31) dX5_addByte_31 rfl ?_
      refine z_get (pc := 32) (v := .int (μ2.1 78 1)) flX5_26 jnX5 ltC_78 kdC_78 rfl (by decide) rfl foC_78_1 rfl dX5_addByte_32 ?_
      refine z_dup_x1 (pc := 35) dX5_addByte_35 rfl rfl ?_
      refine z_iconst (pc := 36) (v := 1) dX5_addByte_36 rfl ?_
      refine z_iadd (pc := 37) dX5_addByte_37 ?_
      refine z_puti (x := (0, 0)) (pc := 38) flX5_26 jnX5 tyX5 tyX5_ok nmX5 ltC_78 kdC_78 rfl (by decide) rfl foC_78_1 rfl ⟨rfl, rfl⟩ dX5_addByte_38 ?_
      refine z_iload_n (pc := 41) 1 dX5_addByte_41 rfl rfl ?_
      refine z_i2b (pc := 42) dX5_addByte_42 ?_
      refine z_bastore_g (pc := 43) ltC_79 kdC_79 dX5_addByte_43 ?_
      refine z_aload_n (pc := 44) 0 dX5_addByte_44 rfl rfl ?_
      refine z_get (pc := 45) (v := .int ((μ2.1 78 1) + (1 : Int32))) flX5_26 jnX5 ltC_78 kdC_78 rfl (by decide) rfl foC_78_1 rfl dX5_addByte_45 ?_
      exact z_iret dX5_addByte_48
    · refine z_bipush (pc := 23) (v := -4) dX5_addByte_23 (by decide +kernel) ?_
      exact z_iret dX5_addByte_25
  · refine z_bipush (pc := 10) (v := -2) dX5_addByte_10 (by decide +kernel) ?_
    exact z_iret dX5_addByte_12
def f_X5_wipeBytes (μ : Mm) : Option (Int32 × Mm) := some (μ.1 78 1, (si μ 78 1 (0 : Int32)))
theorem m_X5_wipeBytes (g : Gx) (μ : Mm) : Zm g ΛC enI yX5_wipeBytes cX5_wipeBytes 2 (some .int) rX5_wipeBytes [.ref (g.2.2.1 78)] μ (f_X5_wipeBytes μ) := by
  refine z_met (by decide +kernel) (Nat.le_of_ble_eq_true rfl) ?_
  change Zw g ΛC enI RX5 cX5_wipeBytes 2 (some .int) rX5_wipeBytes 0 [(0, .ref (g.2.2.1 78))] [] μ (f_X5_wipeBytes μ)
  rw [f_X5_wipeBytes]
  refine z_aload_n (pc := 0) 0 dX5_wipeBytes_0 rfl rfl ?_
  refine z_get (pc := 1) (v := .int (μ.1 78 1)) flX5_26 jnX5 ltC_78 kdC_78 rfl (by decide) rfl foC_78_1 rfl dX5_wipeBytes_1 ?_
  refine z_istore_n (pc := 4) (lv2 := [(0, .ref (g.2.2.1 78)), (1, .int (μ.1 78 1))]) [1, 0] dX5_wipeBytes_4 rfl (by decide) rfl ?_
  refine z_aload_n (pc := 5) 0 dX5_wipeBytes_5 rfl rfl ?_
  refine z_iconst (pc := 6) (v := 0) dX5_wipeBytes_6 rfl ?_
  refine z_puti (x := (0, 0)) (pc := 7) flX5_26 jnX5 tyX5 tyX5_ok nmX5 ltC_78 kdC_78 rfl (by decide) rfl foC_78_1 rfl ⟨rfl, rfl⟩ dX5_wipeBytes_7 ?_
  refine z_iload_n (pc := 10) 1 dX5_wipeBytes_10 rfl rfl ?_
  exact z_iret dX5_wipeBytes_11
def lp_X5_skipBlanks_0 : Nat → Mm → (Mm → Option (Unit × Mm)) → Option (Unit × Mm)
  | 0, _, _ => none
  | n + 1, μ, k => if (μ.1 78 1) ≤ (μ.1 78 2) then (k  μ) else (if zin (μ.1 78 2) 150 then (if (μ.1 79 ((μ.1 78 2).toNatClampNeg)) = (32 : Int32) then (lp_X5_skipBlanks_0 n  (si μ 78 2 ((μ.1 78 2) + (1 : Int32))) k) else (k  μ)) else none)
theorem w_X5_skipBlanks_0 (g : Gx) : ∀ (n : Nat) (μ : Mm) (k : Mm → Option (Unit × Mm)), (∀ (ν : Mm), Zw g ΛC enV RX5 cX5_skipBlanks 1 none rX5_skipBlanks 38 [] [] ν (k  ν)) → Zw g ΛC enV RX5 cX5_skipBlanks 1 none rX5_skipBlanks 0 [(0, .ref (g.2.2.1 78))] [] μ (lp_X5_skipBlanks_0 n μ k) := by
  intro n
  induction n with
  | zero =>
    intro μ k hk
    exact z_none
  | succ n ih =>
    intro μ k hk
    rw [lp_X5_skipBlanks_0]
    refine z_aload_n (pc := 0) 0 dX5_skipBlanks_0 rfl rfl ?_
    refine z_get (pc := 1) (v := .int (μ.1 78 2)) flX5_30 jnX5 ltC_78 kdC_78 rfl (by decide) rfl foC_78_2 rfl dX5_skipBlanks_1 ?_
    refine z_aload_n (pc := 4) 0 dX5_skipBlanks_4 rfl rfl ?_
    refine z_get (pc := 5) (v := .int (μ.1 78 1)) flX5_26 jnX5 ltC_78 kdC_78 rfl (by decide) rfl foC_78_1 rfl dX5_skipBlanks_5 ?_
    refine z_icmp_ge (pc := 8) (tgt := 38) dX5_skipBlanks_8 (by decide) (fun h1 => ?_) (fun h1 => ?_)
    · refine z_sub (lv2 := []) [] rfl ?_
      exact hk _
    · refine z_aload_n (pc := 11) 0 dX5_skipBlanks_11 rfl rfl ?_
      refine z_get (pc := 12) (v := .ref (g.2.2.1 79)) flX5_9 jnX5 ltC_78 kdC_78 rfl (by decide) rfl foC_78_0 rfl dX5_skipBlanks_12 ?_
      refine z_aload_n (pc := 15) 0 dX5_skipBlanks_15 rfl rfl ?_
      refine z_get (pc := 16) (v := .int (μ.1 78 2)) flX5_30 jnX5 ltC_78 kdC_78 rfl (by decide) rfl foC_78_2 rfl dX5_skipBlanks_16 ?_
      refine z_baload_g (pc := 19) ltC_79 kdC_79 dX5_skipBlanks_19 ?_
      refine z_bipush (pc := 20) (v := 32) dX5_skipBlanks_20 (by decide +kernel) ?_
      refine z_icmp_ne (pc := 22) (tgt := 38) dX5_skipBlanks_22 (by decide) (fun h2 => ?_) (fun h2 => ?_)
      · refine z_sub (lv2 := []) [] rfl ?_
        exact hk _
      · refine z_aload_n (pc := 25) 0 dX5_skipBlanks_25 rfl rfl ?_
        refine z_dup (pc := 26) dX5_skipBlanks_26 rfl ?_
        refine z_get (pc := 27) (v := .int (μ.1 78 2)) flX5_30 jnX5 ltC_78 kdC_78 rfl (by decide) rfl foC_78_2 rfl dX5_skipBlanks_27 ?_
        refine z_iconst (pc := 30) (v := 1) dX5_skipBlanks_30 rfl ?_
        refine z_iadd (pc := 31) dX5_skipBlanks_31 ?_
        refine z_puti (x := (0, 0)) (pc := 32) flX5_30 jnX5 tyX5 tyX5_ok nmX5 ltC_78 kdC_78 rfl (by decide) rfl foC_78_2 rfl ⟨rfl, rfl⟩ dX5_skipBlanks_32 ?_
        refine z_goto (pc := 35) (tgt := 0) dX5_skipBlanks_35 (by decide) ?_
        exact ih _ _ hk
def f_X5_skipBlanks (μ : Mm) : Option (Unit × Mm) := lp_X5_skipBlanks_0 FU μ (fun  μ3 => some ((), μ3))
theorem m_X5_skipBlanks (g : Gx) (μ : Mm) : Zm g ΛC enV yX5_skipBlanks cX5_skipBlanks 1 none rX5_skipBlanks [.ref (g.2.2.1 78)] μ (f_X5_skipBlanks μ) := by
  refine z_met (by decide +kernel) (Nat.le_of_ble_eq_true rfl) ?_
  change Zw g ΛC enV RX5 cX5_skipBlanks 1 none rX5_skipBlanks 0 [(0, .ref (g.2.2.1 78))] [] μ (f_X5_skipBlanks μ)
  rw [f_X5_skipBlanks]
  refine w_X5_skipBlanks_0 g FU μ _ (fun  μ3 => ?_)
  exact z_vret dX5_skipBlanks_38
def f_X5_rewind (μ : Mm) : Option (Unit × Mm) := bd (f_X5_skipBlanks (si μ 78 2 (0 : Int32))) fun r1 μ2 => some ((), μ2)
theorem m_X5_rewind (g : Gx) (μ : Mm) : Zm g ΛC enV yX5_rewind cX5_rewind 1 none rX5_rewind [.ref (g.2.2.1 78)] μ (f_X5_rewind μ) := by
  refine z_met (by decide +kernel) (Nat.le_of_ble_eq_true rfl) ?_
  change Zw g ΛC enV RX5 cX5_rewind 1 none rX5_rewind 0 [(0, .ref (g.2.2.1 78))] [] μ (f_X5_rewind μ)
  rw [f_X5_rewind]
  refine z_aload_n (pc := 0) 0 dX5_rewind_0 rfl rfl ?_
  refine z_iconst (pc := 1) (v := 0) dX5_rewind_1 rfl ?_
  refine z_puti (x := (0, 0)) (pc := 2) flX5_30 jnX5 tyX5 tyX5_ok nmX5 ltC_78 kdC_78 rfl (by decide) rfl foC_78_2 rfl ⟨rfl, rfl⟩ dX5_rewind_2 ?_
  refine z_aload_n (pc := 5) 0 dX5_rewind_5 rfl rfl ?_
  refine z_callV (pc := 6) (b := 78) (As := []) (rest := []) kX5_33 (m_X5_skipBlanks g (si μ 78 2 (0 : Int32))) ltC_78 kdC_78 rfl rfl ⟨rfl, rfl⟩ ⟨Nat.le_of_ble_eq_true rfl, Nat.le_of_ble_eq_true rfl⟩ (Nat.le_of_ble_eq_true rfl) rfl rfl dX5_rewind_6 (fun r1 μ2 => ?_)
  change Zw g ΛC enV RX5 cX5_rewind 1 none rX5_rewind 9 [(0, .ref (g.2.2.1 78))] [] μ2 _
  exact z_vret dX5_rewind_9
def f_X5_byteHere (μ : Mm) : Option (Int32 × Mm) := if (μ.1 78 2) < 0 then (some ((-1 : Int32), μ)) else (if (μ.1 78 1) ≤ (μ.1 78 2) then (some ((-1 : Int32), μ)) else (if zin (μ.1 78 2) 150 then (some (μ.1 79 ((μ.1 78 2).toNatClampNeg), μ)) else none))
theorem m_X5_byteHere (g : Gx) (μ : Mm) : Zm g ΛC enI yX5_byteHere cX5_byteHere 1 (some .int) rX5_byteHere [.ref (g.2.2.1 78)] μ (f_X5_byteHere μ) := by
  refine z_met (by decide +kernel) (Nat.le_of_ble_eq_true rfl) ?_
  change Zw g ΛC enI RX5 cX5_byteHere 1 (some .int) rX5_byteHere 0 [(0, .ref (g.2.2.1 78))] [] μ (f_X5_byteHere μ)
  rw [f_X5_byteHere]
  refine z_aload_n (pc := 0) 0 dX5_byteHere_0 rfl rfl ?_
  refine z_get (pc := 1) (v := .int (μ.1 78 2)) flX5_30 jnX5 ltC_78 kdC_78 rfl (by decide) rfl foC_78_2 rfl dX5_byteHere_1 ?_
  refine z_if_lt (pc := 4) (tgt := 30) dX5_byteHere_4 (by decide) (fun h1 => ?_) (fun h1 => ?_)
  · refine z_iconst (pc := 30) (v := -1) dX5_byteHere_30 rfl ?_
    exact z_iret dX5_byteHere_31
  · refine z_aload_n (pc := 7) 0 dX5_byteHere_7 rfl rfl ?_
    refine z_get (pc := 8) (v := .int (μ.1 78 2)) flX5_30 jnX5 ltC_78 kdC_78 rfl (by decide) rfl foC_78_2 rfl dX5_byteHere_8 ?_
    refine z_aload_n (pc := 11) 0 dX5_byteHere_11 rfl rfl ?_
    refine z_get (pc := 12) (v := .int (μ.1 78 1)) flX5_26 jnX5 ltC_78 kdC_78 rfl (by decide) rfl foC_78_1 rfl dX5_byteHere_12 ?_
    refine z_icmp_ge (pc := 15) (tgt := 30) dX5_byteHere_15 (by decide) (fun h2 => ?_) (fun h2 => ?_)
    · refine z_iconst (pc := 30) (v := -1) dX5_byteHere_30 rfl ?_
      exact z_iret dX5_byteHere_31
    · refine z_aload_n (pc := 18) 0 dX5_byteHere_18 rfl rfl ?_
      refine z_get (pc := 19) (v := .ref (g.2.2.1 79)) flX5_9 jnX5 ltC_78 kdC_78 rfl (by decide) rfl foC_78_0 rfl dX5_byteHere_19 ?_
      refine z_aload_n (pc := 22) 0 dX5_byteHere_22 rfl rfl ?_
      refine z_get (pc := 23) (v := .int (μ.1 78 2)) flX5_30 jnX5 ltC_78 kdC_78 rfl (by decide) rfl foC_78_2 rfl dX5_byteHere_23 ?_
      refine z_baload_g (pc := 26) ltC_79 kdC_79 dX5_byteHere_26 ?_
      refine z_goto (pc := 27) (tgt := 31) dX5_byteHere_27 (by decide) ?_
      exact z_iret dX5_byteHere_31
def f_X5_numbersOf (a0 : Int32) (μ : Mm) : Option (Int32 × Mm) := if a0 = 98 then (some ((1 : Int32), μ)) else (if a0 = 101 then (some ((1 : Int32), μ)) else (if a0 = 102 then (some ((1 : Int32), μ)) else (if a0 = 107 then (some ((2 : Int32), μ)) else (if a0 = 108 then (some ((0 : Int32), μ)) else (if a0 = 115 then (some ((1 : Int32), μ)) else (if a0 = 116 then (some ((1 : Int32), μ)) else (if a0 = 119 then (some ((2 : Int32), μ)) else (if a0 = 120 then (some ((1 : Int32), μ)) else (some ((-1 : Int32), μ))))))))))
theorem m_X5_numbersOf (g : Gx) (μ : Mm) (a0 : Int32) : Zm g ΛC enI yX5_numbersOf cX5_numbersOf 1 (some .int) rX5_numbersOf [.int a0] μ (f_X5_numbersOf a0 μ) := by
  refine z_met (by decide +kernel) (Nat.le_of_ble_eq_true rfl) ?_
  change Zw g ΛC enI RX5 cX5_numbersOf 1 (some .int) rX5_numbersOf 0 [(0, .int a0)] [] μ (f_X5_numbersOf a0 μ)
  rw [f_X5_numbersOf]
  refine z_iload_n (pc := 0) 0 dX5_numbersOf_0 rfl rfl ?_
  refine z_ite (fun h1 => ?_) (fun h1 => ?_)
  · refine z_tabIn (pc := 1) (tgt := 110) dX5_numbersOf_1 (by rw [h1]; decide +kernel) (by rw [h1]; decide +kernel) (off := 109) (by rw [h1]; decide +kernel) (by decide) ?_
    refine z_iconst (pc := 110) (v := 1) dX5_numbersOf_110 rfl ?_
    exact z_iret dX5_numbersOf_111
  refine z_ite (fun h2 => ?_) (fun h2 => ?_)
  · refine z_tabIn (pc := 1) (tgt := 110) dX5_numbersOf_1 (by rw [h2]; decide +kernel) (by rw [h2]; decide +kernel) (off := 109) (by rw [h2]; decide +kernel) (by decide) ?_
    refine z_iconst (pc := 110) (v := 1) dX5_numbersOf_110 rfl ?_
    exact z_iret dX5_numbersOf_111
  refine z_ite (fun h3 => ?_) (fun h3 => ?_)
  · refine z_tabIn (pc := 1) (tgt := 110) dX5_numbersOf_1 (by rw [h3]; decide +kernel) (by rw [h3]; decide +kernel) (off := 109) (by rw [h3]; decide +kernel) (by decide) ?_
    refine z_iconst (pc := 110) (v := 1) dX5_numbersOf_110 rfl ?_
    exact z_iret dX5_numbersOf_111
  refine z_ite (fun h4 => ?_) (fun h4 => ?_)
  · refine z_tabIn (pc := 1) (tgt := 112) dX5_numbersOf_1 (by rw [h4]; decide +kernel) (by rw [h4]; decide +kernel) (off := 111) (by rw [h4]; decide +kernel) (by decide) ?_
    refine z_iconst (pc := 112) (v := 2) dX5_numbersOf_112 rfl ?_
    exact z_iret dX5_numbersOf_113
  refine z_ite (fun h5 => ?_) (fun h5 => ?_)
  · refine z_tabIn (pc := 1) (tgt := 108) dX5_numbersOf_1 (by rw [h5]; decide +kernel) (by rw [h5]; decide +kernel) (off := 107) (by rw [h5]; decide +kernel) (by decide) ?_
    refine z_iconst (pc := 108) (v := 0) dX5_numbersOf_108 rfl ?_
    exact z_iret dX5_numbersOf_109
  refine z_ite (fun h6 => ?_) (fun h6 => ?_)
  · refine z_tabIn (pc := 1) (tgt := 110) dX5_numbersOf_1 (by rw [h6]; decide +kernel) (by rw [h6]; decide +kernel) (off := 109) (by rw [h6]; decide +kernel) (by decide) ?_
    refine z_iconst (pc := 110) (v := 1) dX5_numbersOf_110 rfl ?_
    exact z_iret dX5_numbersOf_111
  refine z_ite (fun h7 => ?_) (fun h7 => ?_)
  · refine z_tabIn (pc := 1) (tgt := 110) dX5_numbersOf_1 (by rw [h7]; decide +kernel) (by rw [h7]; decide +kernel) (off := 109) (by rw [h7]; decide +kernel) (by decide) ?_
    refine z_iconst (pc := 110) (v := 1) dX5_numbersOf_110 rfl ?_
    exact z_iret dX5_numbersOf_111
  refine z_ite (fun h8 => ?_) (fun h8 => ?_)
  · refine z_tabIn (pc := 1) (tgt := 112) dX5_numbersOf_1 (by rw [h8]; decide +kernel) (by rw [h8]; decide +kernel) (off := 111) (by rw [h8]; decide +kernel) (by decide) ?_
    refine z_iconst (pc := 112) (v := 2) dX5_numbersOf_112 rfl ?_
    exact z_iret dX5_numbersOf_113
  refine z_ite (fun h9 => ?_) (fun h9 => ?_)
  · refine z_tabIn (pc := 1) (tgt := 110) dX5_numbersOf_1 (by rw [h9]; decide +kernel) (by rw [h9]; decide +kernel) (off := 109) (by rw [h9]; decide +kernel) (by decide) ?_
    refine z_iconst (pc := 110) (v := 1) dX5_numbersOf_110 rfl ?_
    exact z_iret dX5_numbersOf_111
  have eh1 : a0.toInt ≠ 98 := fun q => h1 (Int32.toInt_inj.mp (q.trans (by decide +kernel)))
  have eh2 : a0.toInt ≠ 101 := fun q => h2 (Int32.toInt_inj.mp (q.trans (by decide +kernel)))
  have eh3 : a0.toInt ≠ 102 := fun q => h3 (Int32.toInt_inj.mp (q.trans (by decide +kernel)))
  have eh4 : a0.toInt ≠ 107 := fun q => h4 (Int32.toInt_inj.mp (q.trans (by decide +kernel)))
  have eh5 : a0.toInt ≠ 108 := fun q => h5 (Int32.toInt_inj.mp (q.trans (by decide +kernel)))
  have eh6 : a0.toInt ≠ 115 := fun q => h6 (Int32.toInt_inj.mp (q.trans (by decide +kernel)))
  have eh7 : a0.toInt ≠ 116 := fun q => h7 (Int32.toInt_inj.mp (q.trans (by decide +kernel)))
  have eh8 : a0.toInt ≠ 119 := fun q => h8 (Int32.toInt_inj.mp (q.trans (by decide +kernel)))
  have eh9 : a0.toInt ≠ 120 := fun q => h9 (Int32.toInt_inj.mp (q.trans (by decide +kernel)))
  by_cases h10 : a0.toInt < 98 ∨ 120 < a0.toInt
  · refine z_tabOut (pc := 1) (tgt := 114) dX5_numbersOf_1 h10 (by decide) ?_
    refine z_iconst (pc := 114) (v := -1) dX5_numbersOf_114 rfl ?_
    exact z_iret dX5_numbersOf_115
  · have h11 : a0.toInt = 99 ∨ a0.toInt = 100 ∨ a0.toInt = 103 ∨ a0.toInt = 104 ∨ a0.toInt = 105 ∨ a0.toInt = 106 ∨ a0.toInt = 109 ∨ a0.toInt = 110 ∨ a0.toInt = 111 ∨ a0.toInt = 112 ∨ a0.toInt = 113 ∨ a0.toInt = 114 ∨ a0.toInt = 117 ∨ a0.toInt = 118 := by omega
    refine z_tabIn (pc := 1) (tgt := 114) dX5_numbersOf_1 (fun q => h10 (Or.inl q)) (fun q => h10 (Or.inr q)) (off := 113) (by rcases h11 with q | q | q | q | q | q | q | q | q | q | q | q | q | q <;> (rw [q]; decide +kernel)) (by decide) ?_
    refine z_iconst (pc := 114) (v := -1) dX5_numbersOf_114 rfl ?_
    exact z_iret dX5_numbersOf_115
def f_X5_isFigure (a0 : Int32) (μ : Mm) : Option (Int32 × Mm) := bd (f_X6_within a0 (48 : Int32) (57 : Int32) μ) fun r1 μ2 => if r1 = 0 ∨ r1 = 1 then some (r1, μ2) else none
theorem m_X5_isFigure (g : Gx) (μ : Mm) (a0 : Int32) : Zm g ΛC enI yX5_isFigure cX5_isFigure 1 (some .boolean) rX5_isFigure [.int a0] μ (f_X5_isFigure a0 μ) := by
  refine z_met (by decide +kernel) (Nat.le_of_ble_eq_true rfl) ?_
  change Zw g ΛC enI RX5 cX5_isFigure 1 (some .boolean) rX5_isFigure 0 [(0, .int a0)] [] μ (f_X5_isFigure a0 μ)
  rw [f_X5_isFigure]
  refine z_iload_n (pc := 0) 0 dX5_isFigure_0 rfl rfl ?_
  refine z_bipush (pc := 1) (v := 48) dX5_isFigure_1 (by decide +kernel) ?_
  refine z_bipush (pc := 3) (v := 57) dX5_isFigure_3 (by decide +kernel) ?_
  refine z_callSN (pc := 5) (As := [.int a0, .int (48 : Int32), .int (57 : Int32)]) (rest := []) kX5_22 (m_X6_within g μ a0 (48 : Int32) (57 : Int32)) ⟨rfl, rfl⟩ ⟨Nat.le_of_ble_eq_true rfl, Nat.le_of_ble_eq_true rfl⟩ (Nat.le_of_ble_eq_true rfl) rfl rfl dX5_isFigure_5 (fun r1 μ2 => ?_)
  change Zw g ΛC enI RX5 cX5_isFigure 1 (some .boolean) rX5_isFigure 8 [(0, .int a0)] [.int r1] μ2 _
  exact z_zret_g dX5_isFigure_8
def f_X5_readNumber (a1 : Int32) (μ : Mm) : Option (Int32 × Mm) := bd (f_X5_skipBlanks μ) fun r1 μ2 => bd (f_X5_byteHere μ2) fun r3 μ4 => bd (f_X5_isFigure r3 μ4) fun r5 μ6 => if r5 = 0 then (some ((0 : Int32), μ6)) else (bd (f_X6_within a1 (0 : Int32) ((2 : Int32) - (1 : Int32)) μ6) fun r8 μ9 => if r8 = 0 then (some ((0 : Int32), μ9)) else (bd (f_X5_byteHere μ9) fun r11 μ12 => bd (f_X5_byteHere (si μ12 78 2 ((μ12.1 78 2) + (1 : Int32)))) fun r13 μ14 => bd (f_X5_isFigure r13 μ14) fun r15 μ16 => if r15 = 0 then (if zin a1 2 then (bd (f_X5_byteHere (si μ16 80 a1.toNatClampNeg (r11 - (48 : Int32)))) fun r18 μ19 => bd (f_X5_isFigure r18 μ19) fun r20 μ21 => if r20 = 0 then (some ((1 : Int32), μ21)) else (some ((0 : Int32), μ21))) else none) else (bd (f_X5_byteHere μ16) fun r23 μ24 => if zin a1 2 then (bd (f_X5_byteHere (si (si μ24 78 2 ((μ24.1 78 2) + (1 : Int32))) 80 a1.toNatClampNeg ((((r11 - (48 : Int32)) * (10 : Int32)) + r23) - (48 : Int32)))) fun r25 μ26 => bd (f_X5_isFigure r25 μ26) fun r27 μ28 => if r27 = 0 then (some ((1 : Int32), μ28)) else (some ((0 : Int32), μ28))) else none)))
theorem m_X5_readNumber (g : Gx) (μ : Mm) (a1 : Int32) : Zm g ΛC enI yX5_readNumber cX5_readNumber 3 (some .boolean) rX5_readNumber [.ref (g.2.2.1 78), .int a1] μ (f_X5_readNumber a1 μ) := by
  refine z_met (by decide +kernel) (Nat.le_of_ble_eq_true rfl) ?_
  change Zw g ΛC enI RX5 cX5_readNumber 3 (some .boolean) rX5_readNumber 0 [(0, .ref (g.2.2.1 78)), (1, .int a1)] [] μ (f_X5_readNumber a1 μ)
  rw [f_X5_readNumber]
  refine z_aload_n (pc := 0) 0 dX5_readNumber_0 rfl rfl ?_
  refine z_callV (pc := 1) (b := 78) (As := []) (rest := []) kX5_33 (m_X5_skipBlanks g μ) ltC_78 kdC_78 rfl rfl ⟨rfl, rfl⟩ ⟨Nat.le_of_ble_eq_true rfl, Nat.le_of_ble_eq_true rfl⟩ (Nat.le_of_ble_eq_true rfl) rfl rfl dX5_readNumber_1 (fun r1 μ2 => ?_)
  change Zw g ΛC enI RX5 cX5_readNumber 3 (some .boolean) rX5_readNumber 4 [(0, .ref (g.2.2.1 78)), (1, .int a1)] [] μ2 _
  refine z_aload_n (pc := 4) 0 dX5_readNumber_4 rfl rfl ?_
  refine z_callV (pc := 5) (b := 78) (As := []) (rest := []) kX5_43 (m_X5_byteHere g μ2) ltC_78 kdC_78 rfl rfl ⟨rfl, rfl⟩ ⟨Nat.le_of_ble_eq_true rfl, Nat.le_of_ble_eq_true rfl⟩ (Nat.le_of_ble_eq_true rfl) rfl rfl dX5_readNumber_5 (fun r3 μ4 => ?_)
  change Zw g ΛC enI RX5 cX5_readNumber 3 (some .boolean) rX5_readNumber 8 [(0, .ref (g.2.2.1 78)), (1, .int a1)] [.int r3] μ4 _
  refine z_callS (pc := 8) (As := [.int r3]) (rest := []) kX5_61 (m_X5_isFigure g μ4 r3) ⟨rfl, rfl⟩ ⟨Nat.le_of_ble_eq_true rfl, Nat.le_of_ble_eq_true rfl⟩ (Nat.le_of_ble_eq_true rfl) rfl rfl dX5_readNumber_8 (fun r5 μ6 => ?_)
  change Zw g ΛC enI RX5 cX5_readNumber 3 (some .boolean) rX5_readNumber 11 [(0, .ref (g.2.2.1 78)), (1, .int a1)] [.int r5] μ6 _
  refine z_if_eq (pc := 11) (tgt := 29) dX5_readNumber_11 (by decide) (fun h7 => ?_) (fun h7 => ?_)
  · refine z_iconst (pc := 29) (v := 0) dX5_readNumber_29 rfl ?_
    exact z_zret dX5_readNumber_30 (by decide)
  · refine z_iload_n (pc := 14) 1 dX5_readNumber_14 rfl rfl ?_
    refine z_iconst (pc := 15) (v := 0) dX5_readNumber_15 rfl ?_
    refine z_aload_n (pc := 16) 0 dX5_readNumber_16 rfl rfl ?_
    refine z_get (pc := 17) (v := .ref (g.2.2.1 80)) flX5_15 jnX5 ltC_78 kdC_78 rfl (by decide) rfl foC_78_4 rfl dX5_readNumber_17 ?_
    refine z_alen_i (pc := 20) (v := 2) ltC_80 kdC_80 (by decide +kernel) dX5_readNumber_20 ?_
    refine z_iconst (pc := 21) (v := 1) dX5_readNumber_21 rfl ?_
    refine z_isub (pc := 22) dX5_readNumber_22 ?_
    refine z_callSN (pc := 23) (As := [.int a1, .int (0 : Int32), .int ((2 : Int32) - (1 : Int32))]) (rest := []) kX5_22 (m_X6_within g μ6 a1 (0 : Int32) ((2 : Int32) - (1 : Int32))) ⟨rfl, rfl⟩ ⟨Nat.le_of_ble_eq_true rfl, Nat.le_of_ble_eq_true rfl⟩ (Nat.le_of_ble_eq_true rfl) rfl rfl dX5_readNumber_23 (fun r8 μ9 => ?_)
    change Zw g ΛC enI RX5 cX5_readNumber 3 (some .boolean) rX5_readNumber 26 [(0, .ref (g.2.2.1 78)), (1, .int a1)] [.int r8] μ9 _
    refine z_if_ne (pc := 26) (tgt := 31) dX5_readNumber_26 (by decide) (fun h10 => ?_) (fun h10 => ?_)
    · refine z_aload_n (pc := 31) 0 dX5_readNumber_31 rfl rfl ?_
      refine z_callV (pc := 32) (b := 78) (As := []) (rest := []) kX5_43 (m_X5_byteHere g μ9) ltC_78 kdC_78 rfl rfl ⟨rfl, rfl⟩ ⟨Nat.le_of_ble_eq_true rfl, Nat.le_of_ble_eq_true rfl⟩ (Nat.le_of_ble_eq_true rfl) rfl rfl dX5_readNumber_32 (fun r11 μ12 => ?_)
      change Zw g ΛC enI RX5 cX5_readNumber 3 (some .boolean) rX5_readNumber 35 [(0, .ref (g.2.2.1 78)), (1, .int a1)] [.int r11] μ12 _
      refine z_bipush (pc := 35) (v := 48) dX5_readNumber_35 (by decide +kernel) ?_
      refine z_isub (pc := 37) dX5_readNumber_37 ?_
      refine z_istore_n (pc := 38) (lv2 := [(0, .ref (g.2.2.1 78)), (1, .int a1), (2, .int (r11 - (48 : Int32)))]) [1, 2, 0] dX5_readNumber_38 rfl (by decide) rfl ?_
      refine z_aload_n (pc := 39) 0 dX5_readNumber_39 rfl rfl ?_
      refine z_dup (pc := 40) dX5_readNumber_40 rfl ?_
      refine z_get (pc := 41) (v := .int (μ12.1 78 2)) flX5_30 jnX5 ltC_78 kdC_78 rfl (by decide) rfl foC_78_2 rfl dX5_readNumber_41 ?_
      refine z_iconst (pc := 44) (v := 1) dX5_readNumber_44 rfl ?_
      refine z_iadd (pc := 45) dX5_readNumber_45 ?_
      refine z_puti (x := (0, 0)) (pc := 46) flX5_30 jnX5 tyX5 tyX5_ok nmX5 ltC_78 kdC_78 rfl (by decide) rfl foC_78_2 rfl ⟨rfl, rfl⟩ dX5_readNumber_46 ?_
      refine z_aload_n (pc := 49) 0 dX5_readNumber_49 rfl rfl ?_
      refine z_callV (pc := 50) (b := 78) (As := []) (rest := []) kX5_43 (m_X5_byteHere g (si μ12 78 2 ((μ12.1 78 2) + (1 : Int32)))) ltC_78 kdC_78 rfl rfl ⟨rfl, rfl⟩ ⟨Nat.le_of_ble_eq_true rfl, Nat.le_of_ble_eq_true rfl⟩ (Nat.le_of_ble_eq_true rfl) rfl rfl dX5_readNumber_50 (fun r13 μ14 => ?_)
      change Zw g ΛC enI RX5 cX5_readNumber 3 (some .boolean) rX5_readNumber 53 [(0, .ref (g.2.2.1 78)), (1, .int a1), (2, .int (r11 - (48 : Int32)))] [.int r13] μ14 _
      refine z_callS (pc := 53) (As := [.int r13]) (rest := []) kX5_61 (m_X5_isFigure g μ14 r13) ⟨rfl, rfl⟩ ⟨Nat.le_of_ble_eq_true rfl, Nat.le_of_ble_eq_true rfl⟩ (Nat.le_of_ble_eq_true rfl) rfl rfl dX5_readNumber_53 (fun r15 μ16 => ?_)
      change Zw g ΛC enI RX5 cX5_readNumber 3 (some .boolean) rX5_readNumber 56 [(0, .ref (g.2.2.1 78)), (1, .int a1), (2, .int (r11 - (48 : Int32)))] [.int r15] μ16 _
      refine z_if_eq (pc := 56) (tgt := 82) dX5_readNumber_56 (by decide) (fun h17 => ?_) (fun h17 => ?_)
      · refine z_aload_n (pc := 82) 0 dX5_readNumber_82 rfl rfl ?_
        refine z_get (pc := 83) (v := .ref (g.2.2.1 80)) flX5_15 jnX5 ltC_78 kdC_78 rfl (by decide) rfl foC_78_4 rfl dX5_readNumber_83 ?_
        refine z_iload_n (pc := 86) 1 dX5_readNumber_86 rfl rfl ?_
        refine z_iload_n (pc := 87) 2 dX5_readNumber_87 rfl rfl ?_
        refine z_iastore_g (pc := 88) ltC_80 kdC_80 dX5_readNumber_88 ?_
        refine z_aload_n (pc := 89) 0 dX5_readNumber_89 rfl rfl ?_
        refine z_callV (pc := 90) (b := 78) (As := []) (rest := []) kX5_43 (m_X5_byteHere g (si μ16 80 a1.toNatClampNeg (r11 - (48 : Int32)))) ltC_78 kdC_78 rfl rfl ⟨rfl, rfl⟩ ⟨Nat.le_of_ble_eq_true rfl, Nat.le_of_ble_eq_true rfl⟩ (Nat.le_of_ble_eq_true rfl) rfl rfl dX5_readNumber_90 (fun r18 μ19 => ?_)
        change Zw g ΛC enI RX5 cX5_readNumber 3 (some .boolean) rX5_readNumber 93 [(0, .ref (g.2.2.1 78)), (1, .int a1), (2, .int (r11 - (48 : Int32)))] [.int r18] μ19 _
        refine z_callS (pc := 93) (As := [.int r18]) (rest := []) kX5_61 (m_X5_isFigure g μ19 r18) ⟨rfl, rfl⟩ ⟨Nat.le_of_ble_eq_true rfl, Nat.le_of_ble_eq_true rfl⟩ (Nat.le_of_ble_eq_true rfl) rfl rfl dX5_readNumber_93 (fun r20 μ21 => ?_)
        change Zw g ΛC enI RX5 cX5_readNumber 3 (some .boolean) rX5_readNumber 96 [(0, .ref (g.2.2.1 78)), (1, .int a1), (2, .int (r11 - (48 : Int32)))] [.int r20] μ21 _
        refine z_if_ne (pc := 96) (tgt := 103) dX5_readNumber_96 (by decide) (fun h22 => ?_) (fun h22 => ?_)
        · refine z_iconst (pc := 103) (v := 0) dX5_readNumber_103 rfl ?_
          exact z_zret dX5_readNumber_104 (by decide)
        · refine z_iconst (pc := 99) (v := 1) dX5_readNumber_99 rfl ?_
          refine z_goto (pc := 100) (tgt := 104) dX5_readNumber_100 (by decide) ?_
          exact z_zret dX5_readNumber_104 (by decide)
      · refine z_iload_n (pc := 59) 2 dX5_readNumber_59 rfl rfl ?_
        refine z_bipush (pc := 60) (v := 10) dX5_readNumber_60 (by decide +kernel) ?_
        refine z_imul (pc := 62) dX5_readNumber_62 ?_
        refine z_aload_n (pc := 63) 0 dX5_readNumber_63 rfl rfl ?_
        refine z_callV (pc := 64) (b := 78) (As := []) (rest := [.int ((r11 - (48 : Int32)) * (10 : Int32))]) kX5_43 (m_X5_byteHere g μ16) ltC_78 kdC_78 rfl rfl ⟨rfl, rfl⟩ ⟨Nat.le_of_ble_eq_true rfl, Nat.le_of_ble_eq_true rfl⟩ (Nat.le_of_ble_eq_true rfl) rfl rfl dX5_readNumber_64 (fun r23 μ24 => ?_)
        change Zw g ΛC enI RX5 cX5_readNumber 3 (some .boolean) rX5_readNumber 67 [(0, .ref (g.2.2.1 78)), (1, .int a1), (2, .int (r11 - (48 : Int32)))] [.int r23, .int ((r11 - (48 : Int32)) * (10 : Int32))] μ24 _
        refine z_iadd (pc := 67) dX5_readNumber_67 ?_
        refine z_bipush (pc := 68) (v := 48) dX5_readNumber_68 (by decide +kernel) ?_
        refine z_isub (pc := 70) dX5_readNumber_70 ?_
        refine z_istore_n (pc := 71) (lv2 := [(0, .ref (g.2.2.1 78)), (1, .int a1), (2, .int ((((r11 - (48 : Int32)) * (10 : Int32)) + r23) - (48 : Int32)))]) [1, 2, 0] dX5_readNumber_71 rfl (by decide) rfl ?_
        refine z_aload_n (pc := 72) 0 dX5_readNumber_72 rfl rfl ?_
        refine z_dup (pc := 73) dX5_readNumber_73 rfl ?_
        refine z_get (pc := 74) (v := .int (μ24.1 78 2)) flX5_30 jnX5 ltC_78 kdC_78 rfl (by decide) rfl foC_78_2 rfl dX5_readNumber_74 ?_
        refine z_iconst (pc := 77) (v := 1) dX5_readNumber_77 rfl ?_
        refine z_iadd (pc := 78) dX5_readNumber_78 ?_
        refine z_puti (x := (0, 0)) (pc := 79) flX5_30 jnX5 tyX5 tyX5_ok nmX5 ltC_78 kdC_78 rfl (by decide) rfl foC_78_2 rfl ⟨rfl, rfl⟩ dX5_readNumber_79 ?_
        refine z_aload_n (pc := 82) 0 dX5_readNumber_82 rfl rfl ?_
        refine z_get (pc := 83) (v := .ref (g.2.2.1 80)) flX5_15 jnX5 ltC_78 kdC_78 rfl (by decide) rfl foC_78_4 rfl dX5_readNumber_83 ?_
        refine z_iload_n (pc := 86) 1 dX5_readNumber_86 rfl rfl ?_
        refine z_iload_n (pc := 87) 2 dX5_readNumber_87 rfl rfl ?_
        refine z_iastore_g (pc := 88) ltC_80 kdC_80 dX5_readNumber_88 ?_
        refine z_aload_n (pc := 89) 0 dX5_readNumber_89 rfl rfl ?_
        refine z_callV (pc := 90) (b := 78) (As := []) (rest := []) kX5_43 (m_X5_byteHere g (si (si μ24 78 2 ((μ24.1 78 2) + (1 : Int32))) 80 a1.toNatClampNeg ((((r11 - (48 : Int32)) * (10 : Int32)) + r23) - (48 : Int32)))) ltC_78 kdC_78 rfl rfl ⟨rfl, rfl⟩ ⟨Nat.le_of_ble_eq_true rfl, Nat.le_of_ble_eq_true rfl⟩ (Nat.le_of_ble_eq_true rfl) rfl rfl dX5_readNumber_90 (fun r25 μ26 => ?_)
        change Zw g ΛC enI RX5 cX5_readNumber 3 (some .boolean) rX5_readNumber 93 [(0, .ref (g.2.2.1 78)), (1, .int a1), (2, .int ((((r11 - (48 : Int32)) * (10 : Int32)) + r23) - (48 : Int32)))] [.int r25] μ26 _
        refine z_callS (pc := 93) (As := [.int r25]) (rest := []) kX5_61 (m_X5_isFigure g μ26 r25) ⟨rfl, rfl⟩ ⟨Nat.le_of_ble_eq_true rfl, Nat.le_of_ble_eq_true rfl⟩ (Nat.le_of_ble_eq_true rfl) rfl rfl dX5_readNumber_93 (fun r27 μ28 => ?_)
        change Zw g ΛC enI RX5 cX5_readNumber 3 (some .boolean) rX5_readNumber 96 [(0, .ref (g.2.2.1 78)), (1, .int a1), (2, .int ((((r11 - (48 : Int32)) * (10 : Int32)) + r23) - (48 : Int32)))] [.int r27] μ28 _
        refine z_if_ne (pc := 96) (tgt := 103) dX5_readNumber_96 (by decide) (fun h29 => ?_) (fun h29 => ?_)
        · refine z_iconst (pc := 103) (v := 0) dX5_readNumber_103 rfl ?_
          exact z_zret dX5_readNumber_104 (by decide)
        · refine z_iconst (pc := 99) (v := 1) dX5_readNumber_99 rfl ?_
          refine z_goto (pc := 100) (tgt := 104) dX5_readNumber_100 (by decide) ?_
          exact z_zret dX5_readNumber_104 (by decide)
    · refine z_iconst (pc := 29) (v := 0) dX5_readNumber_29 rfl ?_
      exact z_zret dX5_readNumber_30 (by decide)
