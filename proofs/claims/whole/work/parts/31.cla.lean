def f_X0_landingOf (a1 : Int32) (a2 : Int32) (μ : Mm) : Option (Int32 × Mm) := if ((a1 * (12 : Int32)) + a2) < 0 then (some ((0 : Int32), μ)) else (if (492 : Int32) ≤ ((a1 * (12 : Int32)) + a2) then (some ((0 : Int32), μ)) else (if zin ((a1 * (12 : Int32)) + a2) 492 then (some (μ.1 11 (((a1 * (12 : Int32)) + a2).toNatClampNeg), μ)) else none))
theorem m_X0_landingOf (g : Gx) (μ : Mm) (a1 : Int32) (a2 : Int32) : Zm g ΛC enI yX0_landingOf cX0_landingOf 4 (some .int) rX0_landingOf [.ref (g.2.2.1 10), .int a1, .int a2] μ (f_X0_landingOf a1 a2 μ) := by
  refine z_met (by decide +kernel) (Nat.le_of_ble_eq_true rfl) ?_
  change Zw g ΛC enI RX0 cX0_landingOf 4 (some .int) rX0_landingOf 0 [(0, .ref (g.2.2.1 10)), (1, .int a1), (2, .int a2)] [] μ (f_X0_landingOf a1 a2 μ)
  rw [f_X0_landingOf]
  refine z_iload_n (pc := 0) 1 dX0_landingOf_0 rfl rfl ?_
  refine z_bipush (pc := 1) (v := 12) dX0_landingOf_1 (by decide +kernel) ?_
  refine z_imul (pc := 3) dX0_landingOf_3 ?_
  refine z_iload_n (pc := 4) 2 dX0_landingOf_4 rfl rfl ?_
  refine z_iadd (pc := 5) dX0_landingOf_5 ?_
  refine z_istore_n (pc := 6) (lv2 := [(0, .ref (g.2.2.1 10)), (1, .int a1), (2, .int a2), (3, .int ((a1 * (12 : Int32)) + a2))]) [1, 2, 3, 0] dX0_landingOf_6 rfl (by decide) rfl ?_
  refine z_iload_n (pc := 7) 3 dX0_landingOf_7 rfl rfl ?_
  refine z_if_lt (pc := 8) (tgt := 29) dX0_landingOf_8 (by decide) (fun h1 => ?_) (fun h1 => ?_)
  · refine z_iconst (pc := 29) (v := 0) dX0_landingOf_29 rfl ?_
    exact z_iret dX0_landingOf_30
  · refine z_iload_n (pc := 11) 3 dX0_landingOf_11 rfl rfl ?_
    refine z_aload_n (pc := 12) 0 dX0_landingOf_12 rfl rfl ?_
    refine z_get (pc := 13) (v := .ref (g.2.2.1 11)) flX0_9 jnX0 ltC_10 kdC_10 rfl (by decide) rfl foC_10_1 rfl dX0_landingOf_13 ?_
    refine z_alen_i (pc := 16) (v := 492) ltC_11 kdC_11 (by decide +kernel) dX0_landingOf_16 ?_
    refine z_icmp_ge (pc := 17) (tgt := 29) dX0_landingOf_17 (by decide) (fun h2 => ?_) (fun h2 => ?_)
    · refine z_iconst (pc := 29) (v := 0) dX0_landingOf_29 rfl ?_
      exact z_iret dX0_landingOf_30
    · refine z_aload_n (pc := 20) 0 dX0_landingOf_20 rfl rfl ?_
      refine z_get (pc := 21) (v := .ref (g.2.2.1 11)) flX0_9 jnX0 ltC_10 kdC_10 rfl (by decide) rfl foC_10_1 rfl dX0_landingOf_21 ?_
      refine z_iload_n (pc := 24) 3 dX0_landingOf_24 rfl rfl ?_
      refine z_iaload_g (pc := 25) ltC_11 kdC_11 dX0_landingOf_25 ?_
      refine z_goto (pc := 26) (tgt := 30) dX0_landingOf_26 (by decide) ?_
      exact z_iret dX0_landingOf_30
def lp_X0_cutPieces_4 (c1 : Int32) : Nat → Int32 → Int32 → Mm → (Mm → Option (Unit × Mm)) → Option (Unit × Mm)
  | 0, _, _, _, _ => none
  | n + 1, y2, y3, μ, k => if (6 : Int32) < y3 then (k  μ) else (if (μ.1 10 3) ≤ ((c1 + y3) - (1 : Int32)) then (if zin y3 7 then (lp_X0_cutPieces_4 c1 n (0 : Int32) (y3 + 1) (si μ 12 y3.toNatClampNeg (0 : Int32)) k) else none) else (if zin ((c1 + y3) - (1 : Int32)) 40 then (if zin y3 7 then (lp_X0_cutPieces_4 c1 n ((y2 * (10 : Int32)) + (μ.1 7 (((c1 + y3) - (1 : Int32)).toNatClampNeg))) (y3 + 1) (si μ 12 y3.toNatClampNeg ((y2 * (10 : Int32)) + (μ.1 7 (((c1 + y3) - (1 : Int32)).toNatClampNeg)))) k) else none) else none))
theorem w_X0_cutPieces_4 (g : Gx) (c1 : Int32) : ∀ (n : Nat) (y2 : Int32) (y3 : Int32) (μ : Mm) (k : Mm → Option (Unit × Mm)), (∀ (ν : Mm), Zw g ΛC enV RX0 cX0_cutPieces 5 none rX0_cutPieces 59 [] [] ν (k  ν)) → Zw g ΛC enV RX0 cX0_cutPieces 5 none rX0_cutPieces 4 [(0, .ref (g.2.2.1 10)), (1, .int c1), (2, .int y2), (3, .int y3)] [] μ (lp_X0_cutPieces_4 c1 n y2 y3 μ k) := by
  intro n
  induction n with
  | zero =>
    intro y2 y3 μ k hk
    exact z_none
  | succ n ih =>
    intro y2 y3 μ k hk
    rw [lp_X0_cutPieces_4]
    refine z_iload_n (pc := 4) 3 dX0_cutPieces_4 rfl rfl ?_
    refine z_bipush (pc := 5) (v := 6) dX0_cutPieces_5 (by decide +kernel) ?_
    refine z_icmp_gt (pc := 7) (tgt := 59) dX0_cutPieces_7 (by decide) (fun h1 => ?_) (fun h1 => ?_)
    · refine z_sub (lv2 := []) [] rfl ?_
      exact hk _
    · refine z_iload_n (pc := 10) 1 dX0_cutPieces_10 rfl rfl ?_
      refine z_iload_n (pc := 11) 3 dX0_cutPieces_11 rfl rfl ?_
      refine z_iadd (pc := 12) dX0_cutPieces_12 ?_
      refine z_iconst (pc := 13) (v := 1) dX0_cutPieces_13 rfl ?_
      refine z_isub (pc := 14) dX0_cutPieces_14 ?_
      refine z_istore (pc := 15) (lv2 := [(0, .ref (g.2.2.1 10)), (1, .int c1), (2, .int y2), (3, .int y3), (4, .int ((c1 + y3) - (1 : Int32)))]) [1, 2, 3, 4, 0] dX0_cutPieces_15 (by decide) rfl ?_
      refine z_iload (pc := 17) 4 dX0_cutPieces_17 rfl ?_
      refine z_aload_n (pc := 19) 0 dX0_cutPieces_19 rfl rfl ?_
      refine z_get (pc := 20) (v := .int (μ.1 10 3)) flX0_28 jnX0 ltC_10 kdC_10 rfl (by decide) rfl foC_10_3 rfl dX0_cutPieces_20 ?_
      refine z_icmp_ge (pc := 23) (tgt := 44) dX0_cutPieces_23 (by decide) (fun h2 => ?_) (fun h2 => ?_)
      · refine z_iconst (pc := 44) (v := 0) dX0_cutPieces_44 rfl ?_
        refine z_istore_n (pc := 45) (lv2 := [(0, .ref (g.2.2.1 10)), (1, .int c1), (2, .int (0 : Int32)), (3, .int y3), (4, .int ((c1 + y3) - (1 : Int32)))]) [1, 2, 0, 3, 4] dX0_cutPieces_45 rfl (by decide) rfl ?_
        refine z_aload_n (pc := 46) 0 dX0_cutPieces_46 rfl rfl ?_
        refine z_get (pc := 47) (v := .ref (g.2.2.1 12)) flX0_15 jnX0 ltC_10 kdC_10 rfl (by decide) rfl foC_10_2 rfl dX0_cutPieces_47 ?_
        refine z_iload_n (pc := 50) 3 dX0_cutPieces_50 rfl rfl ?_
        refine z_iload_n (pc := 51) 2 dX0_cutPieces_51 rfl rfl ?_
        refine z_iastore_g (pc := 52) ltC_12 kdC_12 dX0_cutPieces_52 ?_
        refine z_iinc (pc := 53) (v := y3 + 1) (lv2 := [(0, .ref (g.2.2.1 10)), (1, .int c1), (2, .int (0 : Int32)), (3, .int (y3 + 1)), (4, .int ((c1 + y3) - (1 : Int32)))]) 3 [1, 2, 3, 0, 4] dX0_cutPieces_53 rfl (by rw [oi_1]) (by decide) rfl ?_
        refine z_goto (pc := 56) (tgt := 4) dX0_cutPieces_56 (by decide) ?_
        refine z_sub (lv2 := [(0, .ref (g.2.2.1 10)), (1, .int c1), (2, .int (0 : Int32)), (3, .int (y3 + 1))]) [0, 1, 2, 3] rfl ?_
        exact ih _ _ _ _ hk
      · refine z_iload_n (pc := 26) 2 dX0_cutPieces_26 rfl rfl ?_
        refine z_bipush (pc := 27) (v := 10) dX0_cutPieces_27 (by decide +kernel) ?_
        refine z_imul (pc := 29) dX0_cutPieces_29 ?_
        refine z_aload_n (pc := 30) 0 dX0_cutPieces_30 rfl rfl ?_
        refine z_get (pc := 31) (v := .ref (g.2.2.1 1)) flX0_18 jnX0 ltC_10 kdC_10 rfl (by decide) rfl foC_10_0 rfl dX0_cutPieces_31 ?_
        refine z_get (pc := 34) (v := .ref (g.2.2.1 7)) flX0_44 jnX4 ltC_1 kdC_1 rfl (by decide) rfl foC_1_5 rfl dX0_cutPieces_34 ?_
        refine z_iload (pc := 37) 4 dX0_cutPieces_37 rfl ?_
        refine z_iaload_g (pc := 39) ltC_7 kdC_7 dX0_cutPieces_39 ?_
        refine z_iadd (pc := 40) dX0_cutPieces_40 ?_
        refine z_goto (pc := 41) (tgt := 45) dX0_cutPieces_41 (by decide) ?_
        refine z_istore_n (pc := 45) (lv2 := [(0, .ref (g.2.2.1 10)), (1, .int c1), (2, .int ((y2 * (10 : Int32)) + (μ.1 7 (((c1 + y3) - (1 : Int32)).toNatClampNeg)))), (3, .int y3), (4, .int ((c1 + y3) - (1 : Int32)))]) [1, 2, 0, 3, 4] dX0_cutPieces_45 rfl (by decide) rfl ?_
        refine z_aload_n (pc := 46) 0 dX0_cutPieces_46 rfl rfl ?_
        refine z_get (pc := 47) (v := .ref (g.2.2.1 12)) flX0_15 jnX0 ltC_10 kdC_10 rfl (by decide) rfl foC_10_2 rfl dX0_cutPieces_47 ?_
        refine z_iload_n (pc := 50) 3 dX0_cutPieces_50 rfl rfl ?_
        refine z_iload_n (pc := 51) 2 dX0_cutPieces_51 rfl rfl ?_
        refine z_iastore_g (pc := 52) ltC_12 kdC_12 dX0_cutPieces_52 ?_
        refine z_iinc (pc := 53) (v := y3 + 1) (lv2 := [(0, .ref (g.2.2.1 10)), (1, .int c1), (2, .int ((y2 * (10 : Int32)) + (μ.1 7 (((c1 + y3) - (1 : Int32)).toNatClampNeg)))), (3, .int (y3 + 1)), (4, .int ((c1 + y3) - (1 : Int32)))]) 3 [1, 2, 3, 0, 4] dX0_cutPieces_53 rfl (by rw [oi_1]) (by decide) rfl ?_
        refine z_goto (pc := 56) (tgt := 4) dX0_cutPieces_56 (by decide) ?_
        refine z_sub (lv2 := [(0, .ref (g.2.2.1 10)), (1, .int c1), (2, .int ((y2 * (10 : Int32)) + (μ.1 7 (((c1 + y3) - (1 : Int32)).toNatClampNeg)))), (3, .int (y3 + 1))]) [0, 1, 2, 3] rfl ?_
        exact ih _ _ _ _ hk
def f_X0_cutPieces (a1 : Int32) (μ : Mm) : Option (Unit × Mm) := lp_X0_cutPieces_4 a1 FU (0 : Int32) (1 : Int32) μ (fun  μ3 => some ((), μ3))
theorem m_X0_cutPieces (g : Gx) (μ : Mm) (a1 : Int32) : Zm g ΛC enV yX0_cutPieces cX0_cutPieces 5 none rX0_cutPieces [.ref (g.2.2.1 10), .int a1] μ (f_X0_cutPieces a1 μ) := by
  refine z_met (by decide +kernel) (Nat.le_of_ble_eq_true rfl) ?_
  change Zw g ΛC enV RX0 cX0_cutPieces 5 none rX0_cutPieces 0 [(0, .ref (g.2.2.1 10)), (1, .int a1)] [] μ (f_X0_cutPieces a1 μ)
  rw [f_X0_cutPieces]
  refine z_iconst (pc := 0) (v := 0) dX0_cutPieces_0 rfl ?_
  refine z_istore_n (pc := 1) (lv2 := [(0, .ref (g.2.2.1 10)), (1, .int a1), (2, .int (0 : Int32))]) [1, 2, 0] dX0_cutPieces_1 rfl (by decide) rfl ?_
  refine z_iconst (pc := 2) (v := 1) dX0_cutPieces_2 rfl ?_
  refine z_istore_n (pc := 3) (lv2 := [(0, .ref (g.2.2.1 10)), (1, .int a1), (2, .int (0 : Int32)), (3, .int (1 : Int32))]) [1, 2, 3, 0] dX0_cutPieces_3 rfl (by decide) rfl ?_
  refine w_X0_cutPieces_4 g a1 FU (0 : Int32) (1 : Int32) μ _ (fun  μ3 => ?_)
  exact z_vret dX0_cutPieces_59
def lp_X0_layLine_28 (c1 : Int32) : Nat → Int32 → Mm → (Mm → Option (Unit × Mm)) → Option (Unit × Mm)
  | 0, _, _, _ => none
  | n + 1, y2, μ, k => if (μ.1 1 8) ≤ y2 then (k  μ) else (if zin y2 12 then (if zin (μ.1 4 y2.toNatClampNeg) 7 then (if zin y2 12 then (if (μ.1 12 ((μ.1 4 y2.toNatClampNeg).toNatClampNeg)) = (μ.1 3 y2.toNatClampNeg) then (if zin ((c1 * (12 : Int32)) + y2) 492 then (lp_X0_layLine_28 c1 n (y2 + 1) (si μ 11 (((c1 * (12 : Int32)) + y2).toNatClampNeg) (c1 + (μ.1 4 y2.toNatClampNeg))) k) else none) else (if zin ((c1 * (12 : Int32)) + y2) 492 then (lp_X0_layLine_28 c1 n (y2 + 1) (si μ 11 (((c1 * (12 : Int32)) + y2).toNatClampNeg) (0 : Int32)) k) else none)) else none) else none) else none)
theorem w_X0_layLine_28 (g : Gx) (c1 : Int32) : ∀ (n : Nat) (y2 : Int32) (μ : Mm) (k : Mm → Option (Unit × Mm)), (∀ (ν : Mm), Zw g ΛC enV RX0 cX0_layLine 5 none rX0_layLine 103 [(0, .ref (g.2.2.1 10)), (1, .int c1)] [] ν (k  ν)) → Zw g ΛC enV RX0 cX0_layLine 5 none rX0_layLine 28 [(0, .ref (g.2.2.1 10)), (1, .int c1), (2, .int y2)] [] μ (lp_X0_layLine_28 c1 n y2 μ k) := by
  intro n
  induction n with
  | zero =>
    intro y2 μ k hk
    exact z_none
  | succ n ih =>
    intro y2 μ k hk
    rw [lp_X0_layLine_28]
    refine z_iload_n (pc := 28) 2 dX0_layLine_28 rfl rfl ?_
    refine z_aload_n (pc := 29) 0 dX0_layLine_29 rfl rfl ?_
    refine z_get (pc := 30) (v := .ref (g.2.2.1 1)) flX0_18 jnX0 ltC_10 kdC_10 rfl (by decide) rfl foC_10_0 rfl dX0_layLine_30 ?_
    refine z_get (pc := 33) (v := .int (μ.1 1 8)) flX0_35 jnX4 ltC_1 kdC_1 rfl (by decide) rfl foC_1_8 rfl dX0_layLine_33 ?_
    refine z_icmp_ge (pc := 36) (tgt := 103) dX0_layLine_36 (by decide) (fun h4 => ?_) (fun h4 => ?_)
    · refine z_sub (lv2 := [(0, .ref (g.2.2.1 10)), (1, .int c1)]) [0, 1] rfl ?_
      exact hk _
    · refine z_aload_n (pc := 39) 0 dX0_layLine_39 rfl rfl ?_
      refine z_get (pc := 40) (v := .ref (g.2.2.1 1)) flX0_18 jnX0 ltC_10 kdC_10 rfl (by decide) rfl foC_10_0 rfl dX0_layLine_40 ?_
      refine z_get (pc := 43) (v := .ref (g.2.2.1 4)) flX0_38 jnX4 ltC_1 kdC_1 rfl (by decide) rfl foC_1_2 rfl dX0_layLine_43 ?_
      refine z_iload_n (pc := 46) 2 dX0_layLine_46 rfl rfl ?_
      refine z_iaload_g (pc := 47) ltC_4 kdC_4 dX0_layLine_47 ?_
      refine z_istore_n (pc := 48) (lv2 := [(0, .ref (g.2.2.1 10)), (1, .int c1), (2, .int y2), (3, .int (μ.1 4 y2.toNatClampNeg))]) [1, 2, 3, 0] dX0_layLine_48 rfl (by decide) rfl ?_
      refine z_aload_n (pc := 49) 0 dX0_layLine_49 rfl rfl ?_
      refine z_get (pc := 50) (v := .ref (g.2.2.1 12)) flX0_15 jnX0 ltC_10 kdC_10 rfl (by decide) rfl foC_10_2 rfl dX0_layLine_50 ?_
      refine z_iload_n (pc := 53) 3 dX0_layLine_53 rfl rfl ?_
      refine z_iaload_g (pc := 54) ltC_12 kdC_12 dX0_layLine_54 ?_
      refine z_aload_n (pc := 55) 0 dX0_layLine_55 rfl rfl ?_
      refine z_get (pc := 56) (v := .ref (g.2.2.1 1)) flX0_18 jnX0 ltC_10 kdC_10 rfl (by decide) rfl foC_10_0 rfl dX0_layLine_56 ?_
      refine z_get (pc := 59) (v := .ref (g.2.2.1 3)) flX0_41 jnX4 ltC_1 kdC_1 rfl (by decide) rfl foC_1_1 rfl dX0_layLine_59 ?_
      refine z_iload_n (pc := 62) 2 dX0_layLine_62 rfl rfl ?_
      refine z_iaload_g (pc := 63) ltC_3 kdC_3 dX0_layLine_63 ?_
      refine z_icmp_ne (pc := 64) (tgt := 71) dX0_layLine_64 (by decide) (fun h5 => ?_) (fun h5 => ?_)
      · refine z_iconst (pc := 71) (v := 0) dX0_layLine_71 rfl ?_
        refine z_istore (pc := 72) (lv2 := [(0, .ref (g.2.2.1 10)), (1, .int c1), (2, .int y2), (3, .int (μ.1 4 y2.toNatClampNeg)), (4, .int (0 : Int32))]) [1, 2, 3, 4, 0] dX0_layLine_72 (by decide) rfl ?_
        refine z_aload_n (pc := 74) 0 dX0_layLine_74 rfl rfl ?_
        refine z_get (pc := 75) (v := .ref (g.2.2.1 11)) flX0_9 jnX0 ltC_10 kdC_10 rfl (by decide) rfl foC_10_1 rfl dX0_layLine_75 ?_
        refine z_iload_n (pc := 78) 1 dX0_layLine_78 rfl rfl ?_
        refine z_bipush (pc := 79) (v := 12) dX0_layLine_79 (by decide +kernel) ?_
        refine z_imul (pc := 81) dX0_layLine_81 ?_
        refine z_iload_n (pc := 82) 2 dX0_layLine_82 rfl rfl ?_
        refine z_iadd (pc := 83) dX0_layLine_83 ?_
        refine z_iload (pc := 84) 4 dX0_layLine_84 rfl ?_
        refine z_if_eq_y (pc := 86) (tgt := 95) dX0_layLine_86 (by decide) (by decide +kernel) ?_
        refine z_iconst (pc := 95) (v := 0) dX0_layLine_95 rfl ?_
        refine z_iastore_g (pc := 96) ltC_11 kdC_11 dX0_layLine_96 ?_
        refine z_iinc (pc := 97) (v := y2 + 1) (lv2 := [(0, .ref (g.2.2.1 10)), (1, .int c1), (2, .int (y2 + 1)), (3, .int (μ.1 4 y2.toNatClampNeg)), (4, .int (0 : Int32))]) 2 [1, 2, 0, 3, 4] dX0_layLine_97 rfl (by rw [oi_1]) (by decide) rfl ?_
        refine z_goto (pc := 100) (tgt := 28) dX0_layLine_100 (by decide) ?_
        refine z_sub (lv2 := [(0, .ref (g.2.2.1 10)), (1, .int c1), (2, .int (y2 + 1))]) [0, 1, 2] rfl ?_
        exact ih _ _ _ hk
      · refine z_iconst (pc := 67) (v := 1) dX0_layLine_67 rfl ?_
        refine z_goto (pc := 68) (tgt := 72) dX0_layLine_68 (by decide) ?_
        refine z_istore (pc := 72) (lv2 := [(0, .ref (g.2.2.1 10)), (1, .int c1), (2, .int y2), (3, .int (μ.1 4 y2.toNatClampNeg)), (4, .int (1 : Int32))]) [1, 2, 3, 4, 0] dX0_layLine_72 (by decide) rfl ?_
        refine z_aload_n (pc := 74) 0 dX0_layLine_74 rfl rfl ?_
        refine z_get (pc := 75) (v := .ref (g.2.2.1 11)) flX0_9 jnX0 ltC_10 kdC_10 rfl (by decide) rfl foC_10_1 rfl dX0_layLine_75 ?_
        refine z_iload_n (pc := 78) 1 dX0_layLine_78 rfl rfl ?_
        refine z_bipush (pc := 79) (v := 12) dX0_layLine_79 (by decide +kernel) ?_
        refine z_imul (pc := 81) dX0_layLine_81 ?_
        refine z_iload_n (pc := 82) 2 dX0_layLine_82 rfl rfl ?_
        refine z_iadd (pc := 83) dX0_layLine_83 ?_
        refine z_iload (pc := 84) 4 dX0_layLine_84 rfl ?_
        refine z_if_eq_x (pc := 86) (tgt := 95) dX0_layLine_86 (by decide) (by decide +kernel) ?_
        refine z_iload_n (pc := 89) 1 dX0_layLine_89 rfl rfl ?_
        refine z_iload_n (pc := 90) 3 dX0_layLine_90 rfl rfl ?_
        refine z_iadd (pc := 91) dX0_layLine_91 ?_
        refine z_goto (pc := 92) (tgt := 96) dX0_layLine_92 (by decide) ?_
        refine z_iastore_g (pc := 96) ltC_11 kdC_11 dX0_layLine_96 ?_
        refine z_iinc (pc := 97) (v := y2 + 1) (lv2 := [(0, .ref (g.2.2.1 10)), (1, .int c1), (2, .int (y2 + 1)), (3, .int (μ.1 4 y2.toNatClampNeg)), (4, .int (1 : Int32))]) 2 [1, 2, 0, 3, 4] dX0_layLine_97 rfl (by rw [oi_1]) (by decide) rfl ?_
        refine z_goto (pc := 100) (tgt := 28) dX0_layLine_100 (by decide) ?_
        refine z_sub (lv2 := [(0, .ref (g.2.2.1 10)), (1, .int c1), (2, .int (y2 + 1))]) [0, 1, 2] rfl ?_
        exact ih _ _ _ hk
def lp_X0_layLine_13 : Nat → Int32 → Mm → (Mm → Option (Unit × Mm)) → Option (Unit × Mm)
  | 0, _, _, _ => none
  | n + 1, y1, μ, k => if (μ.1 10 3) ≤ y1 then (k  μ) else (bd (f_X0_cutPieces y1 μ) fun r2 μ3 => lp_X0_layLine_28 y1 FU (0 : Int32) μ3 (fun  μ6 => lp_X0_layLine_13 n (y1 + 1) μ6 k))
theorem w_X0_layLine_13 (g : Gx) : ∀ (n : Nat) (y1 : Int32) (μ : Mm) (k : Mm → Option (Unit × Mm)), (∀ (ν : Mm), Zw g ΛC enV RX0 cX0_layLine 5 none rX0_layLine 109 [] [] ν (k  ν)) → Zw g ΛC enV RX0 cX0_layLine 5 none rX0_layLine 13 [(0, .ref (g.2.2.1 10)), (1, .int y1)] [] μ (lp_X0_layLine_13 n y1 μ k) := by
  intro n
  induction n with
  | zero =>
    intro y1 μ k hk
    exact z_none
  | succ n ih =>
    intro y1 μ k hk
    rw [lp_X0_layLine_13]
    refine z_iload_n (pc := 13) 1 dX0_layLine_13 rfl rfl ?_
    refine z_aload_n (pc := 14) 0 dX0_layLine_14 rfl rfl ?_
    refine z_get (pc := 15) (v := .int (μ.1 10 3)) flX0_28 jnX0 ltC_10 kdC_10 rfl (by decide) rfl foC_10_3 rfl dX0_layLine_15 ?_
    refine z_icmp_ge (pc := 18) (tgt := 109) dX0_layLine_18 (by decide) (fun h1 => ?_) (fun h1 => ?_)
    · refine z_sub (lv2 := []) [] rfl ?_
      exact hk _
    · refine z_aload_n (pc := 21) 0 dX0_layLine_21 rfl rfl ?_
      refine z_iload_n (pc := 22) 1 dX0_layLine_22 rfl rfl ?_
      refine z_callV (pc := 23) (b := 10) (As := [.int y1]) (rest := []) kX0_31 (m_X0_cutPieces g μ y1) ltC_10 kdC_10 rfl rfl ⟨rfl, rfl⟩ ⟨Nat.le_of_ble_eq_true rfl, Nat.le_of_ble_eq_true rfl⟩ (Nat.le_of_ble_eq_true rfl) rfl rfl dX0_layLine_23 (fun r2 μ3 => ?_)
      change Zw g ΛC enV RX0 cX0_layLine 5 none rX0_layLine 26 [(0, .ref (g.2.2.1 10)), (1, .int y1)] [] μ3 _
      refine z_iconst (pc := 26) (v := 0) dX0_layLine_26 rfl ?_
      refine z_istore_n (pc := 27) (lv2 := [(0, .ref (g.2.2.1 10)), (1, .int y1), (2, .int (0 : Int32))]) [1, 2, 0] dX0_layLine_27 rfl (by decide) rfl ?_
      refine w_X0_layLine_28 g y1 FU (0 : Int32) μ3 _ (fun  μ6 => ?_)
      refine z_iinc (pc := 103) (v := y1 + 1) (lv2 := [(0, .ref (g.2.2.1 10)), (1, .int (y1 + 1))]) 1 [1, 0] dX0_layLine_103 rfl (by rw [oi_1]) (by decide) rfl ?_
      refine z_goto (pc := 106) (tgt := 13) dX0_layLine_106 (by decide) ?_
      exact ih _ _ _ hk
def f_X0_layLine (μ : Mm) : Option (Unit × Mm) := lp_X0_layLine_13 FU (0 : Int32) (si μ 10 3 (μ.1 1 9)) (fun  μ7 => some ((), μ7))
theorem m_X0_layLine (g : Gx) (μ : Mm) : Zm g ΛC enV yX0_layLine cX0_layLine 5 none rX0_layLine [.ref (g.2.2.1 10)] μ (f_X0_layLine μ) := by
  refine z_met (by decide +kernel) (Nat.le_of_ble_eq_true rfl) ?_
  change Zw g ΛC enV RX0 cX0_layLine 5 none rX0_layLine 0 [(0, .ref (g.2.2.1 10))] [] μ (f_X0_layLine μ)
  rw [f_X0_layLine]
  refine z_aload_n (pc := 0) 0 dX0_layLine_0 rfl rfl ?_
  refine z_aload_n (pc := 1) 0 dX0_layLine_1 rfl rfl ?_
  refine z_get (pc := 2) (v := .ref (g.2.2.1 1)) flX0_18 jnX0 ltC_10 kdC_10 rfl (by decide) rfl foC_10_0 rfl dX0_layLine_2 ?_
  refine z_get (pc := 5) (v := .int (μ.1 1 9)) flX0_22 jnX4 ltC_1 kdC_1 rfl (by decide) rfl foC_1_9 rfl dX0_layLine_5 ?_
  refine z_puti (x := (0, 0)) (pc := 8) flX0_28 jnX0 tyX0 tyX0_ok nmX0 ltC_10 kdC_10 rfl (by decide) rfl foC_10_3 rfl ⟨rfl, rfl⟩ dX0_layLine_8 ?_
  refine z_iconst (pc := 11) (v := 0) dX0_layLine_11 rfl ?_
  refine z_istore_n (pc := 12) (lv2 := [(0, .ref (g.2.2.1 10)), (1, .int (0 : Int32))]) [1, 0] dX0_layLine_12 rfl (by decide) rfl ?_
  refine w_X0_layLine_13 g FU (0 : Int32) (si μ 10 3 (μ.1 1 9)) _ (fun  μ7 => ?_)
  exact z_vret dX0_layLine_109
def lp_X0_layMetre_78 (c1 : Int32) (c2 : Int32) (c3 : Int32) : Nat → Int32 → Mm → (Mm → Option (Unit × Mm)) → Option (Unit × Mm)
  | 0, _, _, _ => none
  | n + 1, y4, μ, k => if (μ.1 1 8) ≤ y4 then (k  μ) else (if zin y4 12 then (if c3 = 0 then (if (c2 + (μ.1 5 y4.toNatClampNeg)) ≤ c1 then (if zin ((c2 * (12 : Int32)) + y4) 492 then (lp_X0_layMetre_78 c1 c2 c3 n (y4 + 1) (si μ 11 (((c2 * (12 : Int32)) + y4).toNatClampNeg) (c2 + (μ.1 5 y4.toNatClampNeg))) k) else none) else (if zin ((c2 * (12 : Int32)) + y4) 492 then (lp_X0_layMetre_78 c1 c2 c3 n (y4 + 1) (si μ 11 (((c2 * (12 : Int32)) + y4).toNatClampNeg) (0 : Int32)) k) else none)) else (if zin ((c2 * (12 : Int32)) + y4) 492 then (lp_X0_layMetre_78 c1 c2 c3 n (y4 + 1) (si μ 11 (((c2 * (12 : Int32)) + y4).toNatClampNeg) (0 : Int32)) k) else none)) else none)
theorem w_X0_layMetre_78 (g : Gx) (c1 : Int32) (c2 : Int32) (c3 : Int32) : ∀ (n : Nat) (y4 : Int32) (μ : Mm) (k : Mm → Option (Unit × Mm)), (∀ (ν : Mm), Zw g ΛC enV RX0 cX0_layMetre 6 none rX0_layMetre 138 [(0, .ref (g.2.2.1 10)), (1, .int c1), (2, .int c2)] [] ν (k  ν)) → Zw g ΛC enV RX0 cX0_layMetre 6 none rX0_layMetre 78 [(0, .ref (g.2.2.1 10)), (1, .int c1), (2, .int c2), (3, .int c3), (4, .int y4)] [] μ (lp_X0_layMetre_78 c1 c2 c3 n y4 μ k) := by
  intro n
  induction n with
  | zero =>
    intro y4 μ k hk
    exact z_none
  | succ n ih =>
    intro y4 μ k hk
    rw [lp_X0_layMetre_78]
    refine z_iload (pc := 78) 4 dX0_layMetre_78 rfl ?_
    refine z_aload_n (pc := 80) 0 dX0_layMetre_80 rfl rfl ?_
    refine z_get (pc := 81) (v := .ref (g.2.2.1 1)) flX0_18 jnX0 ltC_10 kdC_10 rfl (by decide) rfl foC_10_0 rfl dX0_layMetre_81 ?_
    refine z_get (pc := 84) (v := .int (μ.1 1 8)) flX0_35 jnX4 ltC_1 kdC_1 rfl (by decide) rfl foC_1_8 rfl dX0_layMetre_84 ?_
    refine z_icmp_ge (pc := 87) (tgt := 138) dX0_layMetre_87 (by decide) (fun h4 => ?_) (fun h4 => ?_)
    · refine z_sub (lv2 := [(0, .ref (g.2.2.1 10)), (1, .int c1), (2, .int c2)]) [0, 1, 2] rfl ?_
      exact hk _
    · refine z_iload_n (pc := 90) 2 dX0_layMetre_90 rfl rfl ?_
      refine z_aload_n (pc := 91) 0 dX0_layMetre_91 rfl rfl ?_
      refine z_get (pc := 92) (v := .ref (g.2.2.1 1)) flX0_18 jnX0 ltC_10 kdC_10 rfl (by decide) rfl foC_10_0 rfl dX0_layMetre_92 ?_
      refine z_get (pc := 95) (v := .ref (g.2.2.1 5)) flX0_53 jnX4 ltC_1 kdC_1 rfl (by decide) rfl foC_1_3 rfl dX0_layMetre_95 ?_
      refine z_iload (pc := 98) 4 dX0_layMetre_98 rfl ?_
      refine z_iaload_g (pc := 100) ltC_5 kdC_5 dX0_layMetre_100 ?_
      refine z_iadd (pc := 101) dX0_layMetre_101 ?_
      refine z_istore (pc := 102) (lv2 := [(0, .ref (g.2.2.1 10)), (1, .int c1), (2, .int c2), (3, .int c3), (4, .int y4), (5, .int (c2 + (μ.1 5 y4.toNatClampNeg)))]) [1, 2, 3, 4, 5, 0] dX0_layMetre_102 (by decide) rfl ?_
      refine z_aload_n (pc := 104) 0 dX0_layMetre_104 rfl rfl ?_
      refine z_get (pc := 105) (v := .ref (g.2.2.1 11)) flX0_9 jnX0 ltC_10 kdC_10 rfl (by decide) rfl foC_10_1 rfl dX0_layMetre_105 ?_
      refine z_iload_n (pc := 108) 2 dX0_layMetre_108 rfl rfl ?_
      refine z_bipush (pc := 109) (v := 12) dX0_layMetre_109 (by decide +kernel) ?_
      refine z_imul (pc := 111) dX0_layMetre_111 ?_
      refine z_iload (pc := 112) 4 dX0_layMetre_112 rfl ?_
      refine z_iadd (pc := 114) dX0_layMetre_114 ?_
      refine z_iload_n (pc := 115) 3 dX0_layMetre_115 rfl rfl ?_
      refine z_if_ne (pc := 116) (tgt := 125) dX0_layMetre_116 (by decide) (fun h5 => ?_) (fun h5 => ?_)
      · refine z_iconst (pc := 125) (v := 0) dX0_layMetre_125 rfl ?_
        refine z_goto (pc := 126) (tgt := 131) dX0_layMetre_126 (by decide) ?_
        refine z_iastore_g (pc := 131) ltC_11 kdC_11 dX0_layMetre_131 ?_
        refine z_iinc (pc := 132) (v := y4 + 1) (lv2 := [(0, .ref (g.2.2.1 10)), (1, .int c1), (2, .int c2), (3, .int c3), (4, .int (y4 + 1)), (5, .int (c2 + (μ.1 5 y4.toNatClampNeg)))]) 4 [1, 2, 3, 4, 0, 5] dX0_layMetre_132 rfl (by rw [oi_1]) (by decide) rfl ?_
        refine z_goto (pc := 135) (tgt := 78) dX0_layMetre_135 (by decide) ?_
        refine z_sub (lv2 := [(0, .ref (g.2.2.1 10)), (1, .int c1), (2, .int c2), (3, .int c3), (4, .int (y4 + 1))]) [0, 1, 2, 3, 4] rfl ?_
        exact ih _ _ _ hk
      · refine z_iload (pc := 119) 5 dX0_layMetre_119 rfl ?_
        refine z_iload_n (pc := 121) 1 dX0_layMetre_121 rfl rfl ?_
        refine z_icmp_le (pc := 122) (tgt := 129) dX0_layMetre_122 (by decide) (fun h6 => ?_) (fun h6 => ?_)
        · refine z_iload (pc := 129) 5 dX0_layMetre_129 rfl ?_
          refine z_iastore_g (pc := 131) ltC_11 kdC_11 dX0_layMetre_131 ?_
          refine z_iinc (pc := 132) (v := y4 + 1) (lv2 := [(0, .ref (g.2.2.1 10)), (1, .int c1), (2, .int c2), (3, .int c3), (4, .int (y4 + 1)), (5, .int (c2 + (μ.1 5 y4.toNatClampNeg)))]) 4 [1, 2, 3, 4, 0, 5] dX0_layMetre_132 rfl (by rw [oi_1]) (by decide) rfl ?_
          refine z_goto (pc := 135) (tgt := 78) dX0_layMetre_135 (by decide) ?_
          refine z_sub (lv2 := [(0, .ref (g.2.2.1 10)), (1, .int c1), (2, .int c2), (3, .int c3), (4, .int (y4 + 1))]) [0, 1, 2, 3, 4] rfl ?_
          exact ih _ _ _ hk
        · refine z_iconst (pc := 125) (v := 0) dX0_layMetre_125 rfl ?_
          refine z_goto (pc := 126) (tgt := 131) dX0_layMetre_126 (by decide) ?_
          refine z_iastore_g (pc := 131) ltC_11 kdC_11 dX0_layMetre_131 ?_
          refine z_iinc (pc := 132) (v := y4 + 1) (lv2 := [(0, .ref (g.2.2.1 10)), (1, .int c1), (2, .int c2), (3, .int c3), (4, .int (y4 + 1)), (5, .int (c2 + (μ.1 5 y4.toNatClampNeg)))]) 4 [1, 2, 3, 4, 0, 5] dX0_layMetre_132 rfl (by rw [oi_1]) (by decide) rfl ?_
          refine z_goto (pc := 135) (tgt := 78) dX0_layMetre_135 (by decide) ?_
          refine z_sub (lv2 := [(0, .ref (g.2.2.1 10)), (1, .int c1), (2, .int c2), (3, .int c3), (4, .int (y4 + 1))]) [0, 1, 2, 3, 4] rfl ?_
          exact ih _ _ _ hk
def lp_X0_layMetre_23 : Nat → Int32 → Int32 → Mm → (Mm → Option (Unit × Mm)) → Option (Unit × Mm)
  | 0, _, _, _, _ => none
  | n + 1, y1, y2, μ, k => if y2 < 0 then (k  μ) else (if (μ.1 10 3) ≤ (y2 + (1 : Int32)) then (if zin y2 40 then (if (μ.1 8 y2.toNatClampNeg) = (2 : Int32) then (lp_X0_layMetre_78 y1 y2 (1 : Int32) FU (0 : Int32) μ (fun  μ8 => lp_X0_layMetre_23 n y1 (y2 + -1) μ8 k)) else (lp_X0_layMetre_78 y1 y2 (0 : Int32) FU (0 : Int32) μ (fun  μ7 => lp_X0_layMetre_23 n y1 (y2 + -1) μ7 k))) else none) else (if zin (y2 + (1 : Int32)) 40 then (if (μ.1 8 ((y2 + (1 : Int32)).toNatClampNeg)) = (1 : Int32) then (if zin y2 40 then (if (μ.1 8 y2.toNatClampNeg) = (2 : Int32) then (lp_X0_layMetre_78 (y2 + (1 : Int32)) y2 (1 : Int32) FU (0 : Int32) μ (fun  μ15 => lp_X0_layMetre_23 n (y2 + (1 : Int32)) (y2 + -1) μ15 k)) else (lp_X0_layMetre_78 (y2 + (1 : Int32)) y2 (0 : Int32) FU (0 : Int32) μ (fun  μ14 => lp_X0_layMetre_23 n (y2 + (1 : Int32)) (y2 + -1) μ14 k))) else none) else (if zin y2 40 then (if (μ.1 8 y2.toNatClampNeg) = (2 : Int32) then (lp_X0_layMetre_78 y1 y2 (1 : Int32) FU (0 : Int32) μ (fun  μ12 => lp_X0_layMetre_23 n y1 (y2 + -1) μ12 k)) else (lp_X0_layMetre_78 y1 y2 (0 : Int32) FU (0 : Int32) μ (fun  μ11 => lp_X0_layMetre_23 n y1 (y2 + -1) μ11 k))) else none)) else none))
theorem w_X0_layMetre_23 (g : Gx) : ∀ (n : Nat) (y1 : Int32) (y2 : Int32) (μ : Mm) (k : Mm → Option (Unit × Mm)), (∀ (ν : Mm), Zw g ΛC enV RX0 cX0_layMetre 6 none rX0_layMetre 144 [] [] ν (k  ν)) → Zw g ΛC enV RX0 cX0_layMetre 6 none rX0_layMetre 23 [(0, .ref (g.2.2.1 10)), (1, .int y1), (2, .int y2)] [] μ (lp_X0_layMetre_23 n y1 y2 μ k) := by
  intro n
  induction n with
  | zero =>
    intro y1 y2 μ k hk
    exact z_none
  | succ n ih =>
    intro y1 y2 μ k hk
    rw [lp_X0_layMetre_23]
    refine z_iload_n (pc := 23) 2 dX0_layMetre_23 rfl rfl ?_
    refine z_if_lt (pc := 24) (tgt := 144) dX0_layMetre_24 (by decide) (fun h1 => ?_) (fun h1 => ?_)
    · refine z_sub (lv2 := []) [] rfl ?_
      exact hk _
    · refine z_iload_n (pc := 27) 2 dX0_layMetre_27 rfl rfl ?_
      refine z_iconst (pc := 28) (v := 1) dX0_layMetre_28 rfl ?_
      refine z_iadd (pc := 29) dX0_layMetre_29 ?_
      refine z_aload_n (pc := 30) 0 dX0_layMetre_30 rfl rfl ?_
      refine z_get (pc := 31) (v := .int (μ.1 10 3)) flX0_28 jnX0 ltC_10 kdC_10 rfl (by decide) rfl foC_10_3 rfl dX0_layMetre_31 ?_
      refine z_icmp_ge (pc := 34) (tgt := 56) dX0_layMetre_34 (by decide) (fun h2 => ?_) (fun h2 => ?_)
      · refine z_aload_n (pc := 56) 0 dX0_layMetre_56 rfl rfl ?_
        refine z_get (pc := 57) (v := .ref (g.2.2.1 1)) flX0_18 jnX0 ltC_10 kdC_10 rfl (by decide) rfl foC_10_0 rfl dX0_layMetre_57 ?_
        refine z_get (pc := 60) (v := .ref (g.2.2.1 8)) flX0_50 jnX4 ltC_1 kdC_1 rfl (by decide) rfl foC_1_6 rfl dX0_layMetre_60 ?_
        refine z_iload_n (pc := 63) 2 dX0_layMetre_63 rfl rfl ?_
        refine z_iaload_g (pc := 64) ltC_8 kdC_8 dX0_layMetre_64 ?_
        refine z_iconst (pc := 65) (v := 2) dX0_layMetre_65 rfl ?_
        refine z_icmp_ne (pc := 66) (tgt := 73) dX0_layMetre_66 (by decide) (fun h3 => ?_) (fun h3 => ?_)
        · refine z_iconst (pc := 73) (v := 0) dX0_layMetre_73 rfl ?_
          refine z_istore_n (pc := 74) (lv2 := [(0, .ref (g.2.2.1 10)), (1, .int y1), (2, .int y2), (3, .int (0 : Int32))]) [1, 2, 3, 0] dX0_layMetre_74 rfl (by decide) rfl ?_
          refine z_iconst (pc := 75) (v := 0) dX0_layMetre_75 rfl ?_
          refine z_istore (pc := 76) (lv2 := [(0, .ref (g.2.2.1 10)), (1, .int y1), (2, .int y2), (3, .int (0 : Int32)), (4, .int (0 : Int32))]) [1, 2, 3, 4, 0] dX0_layMetre_76 (by decide) rfl ?_
          refine w_X0_layMetre_78 g y1 y2 (0 : Int32) FU (0 : Int32) μ _ (fun  μ7 => ?_)
          refine z_iinc (pc := 138) (v := y2 + -1) (lv2 := [(0, .ref (g.2.2.1 10)), (1, .int y1), (2, .int (y2 + -1))]) 2 [1, 2, 0] dX0_layMetre_138 rfl (by rw [oi_n1]) (by decide) rfl ?_
          refine z_goto (pc := 141) (tgt := 23) dX0_layMetre_141 (by decide) ?_
          exact ih _ _ _ _ hk
        · refine z_iconst (pc := 69) (v := 1) dX0_layMetre_69 rfl ?_
          refine z_goto (pc := 70) (tgt := 74) dX0_layMetre_70 (by decide) ?_
          refine z_istore_n (pc := 74) (lv2 := [(0, .ref (g.2.2.1 10)), (1, .int y1), (2, .int y2), (3, .int (1 : Int32))]) [1, 2, 3, 0] dX0_layMetre_74 rfl (by decide) rfl ?_
          refine z_iconst (pc := 75) (v := 0) dX0_layMetre_75 rfl ?_
          refine z_istore (pc := 76) (lv2 := [(0, .ref (g.2.2.1 10)), (1, .int y1), (2, .int y2), (3, .int (1 : Int32)), (4, .int (0 : Int32))]) [1, 2, 3, 4, 0] dX0_layMetre_76 (by decide) rfl ?_
          refine w_X0_layMetre_78 g y1 y2 (1 : Int32) FU (0 : Int32) μ _ (fun  μ8 => ?_)
          refine z_iinc (pc := 138) (v := y2 + -1) (lv2 := [(0, .ref (g.2.2.1 10)), (1, .int y1), (2, .int (y2 + -1))]) 2 [1, 2, 0] dX0_layMetre_138 rfl (by rw [oi_n1]) (by decide) rfl ?_
          refine z_goto (pc := 141) (tgt := 23) dX0_layMetre_141 (by decide) ?_
          exact ih _ _ _ _ hk
      · refine z_aload_n (pc := 37) 0 dX0_layMetre_37 rfl rfl ?_
        refine z_get (pc := 38) (v := .ref (g.2.2.1 1)) flX0_18 jnX0 ltC_10 kdC_10 rfl (by decide) rfl foC_10_0 rfl dX0_layMetre_38 ?_
        refine z_get (pc := 41) (v := .ref (g.2.2.1 8)) flX0_50 jnX4 ltC_1 kdC_1 rfl (by decide) rfl foC_1_6 rfl dX0_layMetre_41 ?_
        refine z_iload_n (pc := 44) 2 dX0_layMetre_44 rfl rfl ?_
        refine z_iconst (pc := 45) (v := 1) dX0_layMetre_45 rfl ?_
        refine z_iadd (pc := 46) dX0_layMetre_46 ?_
        refine z_iaload_g (pc := 47) ltC_8 kdC_8 dX0_layMetre_47 ?_
        refine z_iconst (pc := 48) (v := 1) dX0_layMetre_48 rfl ?_
        refine z_icmp_ne (pc := 49) (tgt := 56) dX0_layMetre_49 (by decide) (fun h9 => ?_) (fun h9 => ?_)
        · refine z_aload_n (pc := 56) 0 dX0_layMetre_56 rfl rfl ?_
          refine z_get (pc := 57) (v := .ref (g.2.2.1 1)) flX0_18 jnX0 ltC_10 kdC_10 rfl (by decide) rfl foC_10_0 rfl dX0_layMetre_57 ?_
          refine z_get (pc := 60) (v := .ref (g.2.2.1 8)) flX0_50 jnX4 ltC_1 kdC_1 rfl (by decide) rfl foC_1_6 rfl dX0_layMetre_60 ?_
          refine z_iload_n (pc := 63) 2 dX0_layMetre_63 rfl rfl ?_
          refine z_iaload_g (pc := 64) ltC_8 kdC_8 dX0_layMetre_64 ?_
          refine z_iconst (pc := 65) (v := 2) dX0_layMetre_65 rfl ?_
          refine z_icmp_ne (pc := 66) (tgt := 73) dX0_layMetre_66 (by decide) (fun h10 => ?_) (fun h10 => ?_)
          · refine z_iconst (pc := 73) (v := 0) dX0_layMetre_73 rfl ?_
            refine z_istore_n (pc := 74) (lv2 := [(0, .ref (g.2.2.1 10)), (1, .int y1), (2, .int y2), (3, .int (0 : Int32))]) [1, 2, 3, 0] dX0_layMetre_74 rfl (by decide) rfl ?_
            refine z_iconst (pc := 75) (v := 0) dX0_layMetre_75 rfl ?_
            refine z_istore (pc := 76) (lv2 := [(0, .ref (g.2.2.1 10)), (1, .int y1), (2, .int y2), (3, .int (0 : Int32)), (4, .int (0 : Int32))]) [1, 2, 3, 4, 0] dX0_layMetre_76 (by decide) rfl ?_
            refine w_X0_layMetre_78 g y1 y2 (0 : Int32) FU (0 : Int32) μ _ (fun  μ11 => ?_)
            refine z_iinc (pc := 138) (v := y2 + -1) (lv2 := [(0, .ref (g.2.2.1 10)), (1, .int y1), (2, .int (y2 + -1))]) 2 [1, 2, 0] dX0_layMetre_138 rfl (by rw [oi_n1]) (by decide) rfl ?_
            refine z_goto (pc := 141) (tgt := 23) dX0_layMetre_141 (by decide) ?_
            exact ih _ _ _ _ hk
          · refine z_iconst (pc := 69) (v := 1) dX0_layMetre_69 rfl ?_
            refine z_goto (pc := 70) (tgt := 74) dX0_layMetre_70 (by decide) ?_
            refine z_istore_n (pc := 74) (lv2 := [(0, .ref (g.2.2.1 10)), (1, .int y1), (2, .int y2), (3, .int (1 : Int32))]) [1, 2, 3, 0] dX0_layMetre_74 rfl (by decide) rfl ?_
            refine z_iconst (pc := 75) (v := 0) dX0_layMetre_75 rfl ?_
            refine z_istore (pc := 76) (lv2 := [(0, .ref (g.2.2.1 10)), (1, .int y1), (2, .int y2), (3, .int (1 : Int32)), (4, .int (0 : Int32))]) [1, 2, 3, 4, 0] dX0_layMetre_76 (by decide) rfl ?_
            refine w_X0_layMetre_78 g y1 y2 (1 : Int32) FU (0 : Int32) μ _ (fun  μ12 => ?_)
            refine z_iinc (pc := 138) (v := y2 + -1) (lv2 := [(0, .ref (g.2.2.1 10)), (1, .int y1), (2, .int (y2 + -1))]) 2 [1, 2, 0] dX0_layMetre_138 rfl (by rw [oi_n1]) (by decide) rfl ?_
            refine z_goto (pc := 141) (tgt := 23) dX0_layMetre_141 (by decide) ?_
            exact ih _ _ _ _ hk
        · refine z_iload_n (pc := 52) 2 dX0_layMetre_52 rfl rfl ?_
          refine z_iconst (pc := 53) (v := 1) dX0_layMetre_53 rfl ?_
          refine z_iadd (pc := 54) dX0_layMetre_54 ?_
          refine z_istore_n (pc := 55) (lv2 := [(0, .ref (g.2.2.1 10)), (1, .int (y2 + (1 : Int32))), (2, .int y2)]) [1, 0, 2] dX0_layMetre_55 rfl (by decide) rfl ?_
          refine z_aload_n (pc := 56) 0 dX0_layMetre_56 rfl rfl ?_
          refine z_get (pc := 57) (v := .ref (g.2.2.1 1)) flX0_18 jnX0 ltC_10 kdC_10 rfl (by decide) rfl foC_10_0 rfl dX0_layMetre_57 ?_
          refine z_get (pc := 60) (v := .ref (g.2.2.1 8)) flX0_50 jnX4 ltC_1 kdC_1 rfl (by decide) rfl foC_1_6 rfl dX0_layMetre_60 ?_
          refine z_iload_n (pc := 63) 2 dX0_layMetre_63 rfl rfl ?_
          refine z_iaload_g (pc := 64) ltC_8 kdC_8 dX0_layMetre_64 ?_
          refine z_iconst (pc := 65) (v := 2) dX0_layMetre_65 rfl ?_
          refine z_icmp_ne (pc := 66) (tgt := 73) dX0_layMetre_66 (by decide) (fun h13 => ?_) (fun h13 => ?_)
          · refine z_iconst (pc := 73) (v := 0) dX0_layMetre_73 rfl ?_
            refine z_istore_n (pc := 74) (lv2 := [(0, .ref (g.2.2.1 10)), (1, .int (y2 + (1 : Int32))), (2, .int y2), (3, .int (0 : Int32))]) [1, 2, 3, 0] dX0_layMetre_74 rfl (by decide) rfl ?_
            refine z_iconst (pc := 75) (v := 0) dX0_layMetre_75 rfl ?_
            refine z_istore (pc := 76) (lv2 := [(0, .ref (g.2.2.1 10)), (1, .int (y2 + (1 : Int32))), (2, .int y2), (3, .int (0 : Int32)), (4, .int (0 : Int32))]) [1, 2, 3, 4, 0] dX0_layMetre_76 (by decide) rfl ?_
            refine w_X0_layMetre_78 g (y2 + (1 : Int32)) y2 (0 : Int32) FU (0 : Int32) μ _ (fun  μ14 => ?_)
            refine z_iinc (pc := 138) (v := y2 + -1) (lv2 := [(0, .ref (g.2.2.1 10)), (1, .int (y2 + (1 : Int32))), (2, .int (y2 + -1))]) 2 [1, 2, 0] dX0_layMetre_138 rfl (by rw [oi_n1]) (by decide) rfl ?_
            refine z_goto (pc := 141) (tgt := 23) dX0_layMetre_141 (by decide) ?_
            exact ih _ _ _ _ hk
          · refine z_iconst (pc := 69) (v := 1) dX0_layMetre_69 rfl ?_
            refine z_goto (pc := 70) (tgt := 74) dX0_layMetre_70 (by decide) ?_
            refine z_istore_n (pc := 74) (lv2 := [(0, .ref (g.2.2.1 10)), (1, .int (y2 + (1 : Int32))), (2, .int y2), (3, .int (1 : Int32))]) [1, 2, 3, 0] dX0_layMetre_74 rfl (by decide) rfl ?_
            refine z_iconst (pc := 75) (v := 0) dX0_layMetre_75 rfl ?_
            refine z_istore (pc := 76) (lv2 := [(0, .ref (g.2.2.1 10)), (1, .int (y2 + (1 : Int32))), (2, .int y2), (3, .int (1 : Int32)), (4, .int (0 : Int32))]) [1, 2, 3, 4, 0] dX0_layMetre_76 (by decide) rfl ?_
            refine w_X0_layMetre_78 g (y2 + (1 : Int32)) y2 (1 : Int32) FU (0 : Int32) μ _ (fun  μ15 => ?_)
            refine z_iinc (pc := 138) (v := y2 + -1) (lv2 := [(0, .ref (g.2.2.1 10)), (1, .int (y2 + (1 : Int32))), (2, .int (y2 + -1))]) 2 [1, 2, 0] dX0_layMetre_138 rfl (by rw [oi_n1]) (by decide) rfl ?_
            refine z_goto (pc := 141) (tgt := 23) dX0_layMetre_141 (by decide) ?_
            exact ih _ _ _ _ hk
def f_X0_layMetre (μ : Mm) : Option (Unit × Mm) := lp_X0_layMetre_23 FU (μ.1 1 10) ((μ.1 1 10) - (1 : Int32)) (si μ 10 3 (μ.1 1 10)) (fun  μ16 => some ((), μ16))
theorem m_X0_layMetre (g : Gx) (μ : Mm) : Zm g ΛC enV yX0_layMetre cX0_layMetre 6 none rX0_layMetre [.ref (g.2.2.1 10)] μ (f_X0_layMetre μ) := by
  refine z_met (by decide +kernel) (Nat.le_of_ble_eq_true rfl) ?_
  change Zw g ΛC enV RX0 cX0_layMetre 6 none rX0_layMetre 0 [(0, .ref (g.2.2.1 10))] [] μ (f_X0_layMetre μ)
  rw [f_X0_layMetre]
  refine z_aload_n (pc := 0) 0 dX0_layMetre_0 rfl rfl ?_
  refine z_aload_n (pc := 1) 0 dX0_layMetre_1 rfl rfl ?_
  refine z_get (pc := 2) (v := .ref (g.2.2.1 1)) flX0_18 jnX0 ltC_10 kdC_10 rfl (by decide) rfl foC_10_0 rfl dX0_layMetre_2 ?_
  refine z_get (pc := 5) (v := .int (μ.1 1 10)) flX0_47 jnX4 ltC_1 kdC_1 rfl (by decide) rfl foC_1_10 rfl dX0_layMetre_5 ?_
  refine z_puti (x := (0, 0)) (pc := 8) flX0_28 jnX0 tyX0 tyX0_ok nmX0 ltC_10 kdC_10 rfl (by decide) rfl foC_10_3 rfl ⟨rfl, rfl⟩ dX0_layMetre_8 ?_
  refine z_aload_n (pc := 11) 0 dX0_layMetre_11 rfl rfl ?_
  refine z_get (pc := 12) (v := .int (μ.1 1 10)) flX0_28 jnX0 ltC_10 kdC_10 rfl (by decide) rfl foC_10_3 rfl dX0_layMetre_12 ?_
  refine z_istore_n (pc := 15) (lv2 := [(0, .ref (g.2.2.1 10)), (1, .int (μ.1 1 10))]) [1, 0] dX0_layMetre_15 rfl (by decide) rfl ?_
  refine z_aload_n (pc := 16) 0 dX0_layMetre_16 rfl rfl ?_
  refine z_get (pc := 17) (v := .int (μ.1 1 10)) flX0_28 jnX0 ltC_10 kdC_10 rfl (by decide) rfl foC_10_3 rfl dX0_layMetre_17 ?_
  refine z_iconst (pc := 20) (v := 1) dX0_layMetre_20 rfl ?_
  refine z_isub (pc := 21) dX0_layMetre_21 ?_
  refine z_istore_n (pc := 22) (lv2 := [(0, .ref (g.2.2.1 10)), (1, .int (μ.1 1 10)), (2, .int ((μ.1 1 10) - (1 : Int32)))]) [1, 2, 0] dX0_layMetre_22 rfl (by decide) rfl ?_
  refine w_X0_layMetre_23 g FU (μ.1 1 10) ((μ.1 1 10) - (1 : Int32)) (si μ 10 3 (μ.1 1 10)) _ (fun  μ16 => ?_)
  exact z_vret dX0_layMetre_144
def f_X6_holds (a0 : Int32) (a1 : Int32) (μ : Mm) : Option (Int32 × Mm) := if ((a0 >>> (a1 &&& 31)) &&& (1 : Int32)) = (1 : Int32) then (some ((1 : Int32), μ)) else (some ((0 : Int32), μ))
theorem m_X6_holds (g : Gx) (μ : Mm) (a0 : Int32) (a1 : Int32) : Zm g ΛC enI yX6_holds cX6_holds 2 (some .boolean) rX6_holds [.int a0, .int a1] μ (f_X6_holds a0 a1 μ) := by
  refine z_met (by decide +kernel) (Nat.le_of_ble_eq_true rfl) ?_
  change Zw g ΛC enI RX6 cX6_holds 2 (some .boolean) rX6_holds 0 [(0, .int a0), (1, .int a1)] [] μ (f_X6_holds a0 a1 μ)
  rw [f_X6_holds]
  refine z_iload_n (pc := 0) 0 dX6_holds_0 rfl rfl ?_
  refine z_iload_n (pc := 1) 1 dX6_holds_1 rfl rfl ?_
  refine z_ishr (pc := 2) dX6_holds_2 ?_
  refine z_iconst (pc := 3) (v := 1) dX6_holds_3 rfl ?_
  refine z_iand (pc := 4) dX6_holds_4 ?_
  refine z_iconst (pc := 5) (v := 1) dX6_holds_5 rfl ?_
  refine z_icmp_ne (pc := 6) (tgt := 13) dX6_holds_6 (by decide) (fun h1 => ?_) (fun h1 => ?_)
  · refine z_iconst (pc := 13) (v := 0) dX6_holds_13 rfl ?_
    exact z_zret dX6_holds_14 (by decide)
  · refine z_iconst (pc := 9) (v := 1) dX6_holds_9 rfl ?_
    refine z_goto (pc := 10) (tgt := 14) dX6_holds_10 (by decide) ?_
    exact z_zret dX6_holds_14 (by decide)
def f_X4_habitOf (a1 : Int32) (a2 : Int32) (μ : Mm) : Option (Int32 × Mm) := if ((a1 * (12 : Int32)) + a2) < 0 then (some ((0 : Int32), μ)) else (if (36 : Int32) ≤ ((a1 * (12 : Int32)) + a2) then (some ((0 : Int32), μ)) else (if zin ((a1 * (12 : Int32)) + a2) 36 then (some (μ.1 6 (((a1 * (12 : Int32)) + a2).toNatClampNeg), μ)) else none))
theorem m_X4_habitOf (g : Gx) (μ : Mm) (a1 : Int32) (a2 : Int32) : Zm g ΛC enI yX4_habitOf cX4_habitOf 4 (some .int) rX4_habitOf [.ref (g.2.2.1 1), .int a1, .int a2] μ (f_X4_habitOf a1 a2 μ) := by
  refine z_met (by decide +kernel) (Nat.le_of_ble_eq_true rfl) ?_
  change Zw g ΛC enI RX4 cX4_habitOf 4 (some .int) rX4_habitOf 0 [(0, .ref (g.2.2.1 1)), (1, .int a1), (2, .int a2)] [] μ (f_X4_habitOf a1 a2 μ)
  rw [f_X4_habitOf]
  refine z_iload_n (pc := 0) 1 dX4_habitOf_0 rfl rfl ?_
  refine z_bipush (pc := 1) (v := 12) dX4_habitOf_1 (by decide +kernel) ?_
  refine z_imul (pc := 3) dX4_habitOf_3 ?_
  refine z_iload_n (pc := 4) 2 dX4_habitOf_4 rfl rfl ?_
  refine z_iadd (pc := 5) dX4_habitOf_5 ?_
  refine z_istore_n (pc := 6) (lv2 := [(0, .ref (g.2.2.1 1)), (1, .int a1), (2, .int a2), (3, .int ((a1 * (12 : Int32)) + a2))]) [1, 2, 3, 0] dX4_habitOf_6 rfl (by decide) rfl ?_
  refine z_iload_n (pc := 7) 3 dX4_habitOf_7 rfl rfl ?_
  refine z_if_lt (pc := 8) (tgt := 29) dX4_habitOf_8 (by decide) (fun h1 => ?_) (fun h1 => ?_)
  · refine z_iconst (pc := 29) (v := 0) dX4_habitOf_29 rfl ?_
    exact z_iret dX4_habitOf_30
  · refine z_iload_n (pc := 11) 3 dX4_habitOf_11 rfl rfl ?_
    refine z_aload_n (pc := 12) 0 dX4_habitOf_12 rfl rfl ?_
    refine z_get (pc := 13) (v := .ref (g.2.2.1 6)) flX4_24 jnX4 ltC_1 kdC_1 rfl (by decide) rfl foC_1_4 rfl dX4_habitOf_13 ?_
    refine z_alen_i (pc := 16) (v := 36) ltC_6 kdC_6 (by decide +kernel) dX4_habitOf_16 ?_
    refine z_icmp_ge (pc := 17) (tgt := 29) dX4_habitOf_17 (by decide) (fun h2 => ?_) (fun h2 => ?_)
    · refine z_iconst (pc := 29) (v := 0) dX4_habitOf_29 rfl ?_
      exact z_iret dX4_habitOf_30
    · refine z_aload_n (pc := 20) 0 dX4_habitOf_20 rfl rfl ?_
      refine z_get (pc := 21) (v := .ref (g.2.2.1 6)) flX4_24 jnX4 ltC_1 kdC_1 rfl (by decide) rfl foC_1_4 rfl dX4_habitOf_21 ?_
      refine z_iload_n (pc := 24) 3 dX4_habitOf_24 rfl rfl ?_
      refine z_iaload_g (pc := 25) ltC_6 kdC_6 dX4_habitOf_25 ?_
      refine z_goto (pc := 26) (tgt := 30) dX4_habitOf_26 (by decide) ?_
      exact z_iret dX4_habitOf_30
def f_X4_setAfter (a1 : Int32) (a2 : Int32) (μ : Mm) : Option (Int32 × Mm) := if a1 = 0 then (some (μ.1 1 11, μ)) else (if a2 < 0 then (some ((0 : Int32), μ)) else (if (4 : Int32) ≤ a2 then (some ((0 : Int32), μ)) else (if zin a2 4 then (some (μ.1 9 a2.toNatClampNeg, μ)) else none)))
theorem m_X4_setAfter (g : Gx) (μ : Mm) (a1 : Int32) (a2 : Int32) : Zm g ΛC enI yX4_setAfter cX4_setAfter 3 (some .int) rX4_setAfter [.ref (g.2.2.1 1), .int a1, .int a2] μ (f_X4_setAfter a1 a2 μ) := by
  refine z_met (by decide +kernel) (Nat.le_of_ble_eq_true rfl) ?_
  change Zw g ΛC enI RX4 cX4_setAfter 3 (some .int) rX4_setAfter 0 [(0, .ref (g.2.2.1 1)), (1, .int a1), (2, .int a2)] [] μ (f_X4_setAfter a1 a2 μ)
  rw [f_X4_setAfter]
  refine z_iload_n (pc := 0) 1 dX4_setAfter_0 rfl rfl ?_
  refine z_if_ne (pc := 1) (tgt := 9) dX4_setAfter_1 (by decide) (fun h1 => ?_) (fun h1 => ?_)
  · refine z_iload_n (pc := 9) 2 dX4_setAfter_9 rfl rfl ?_
    refine z_if_lt (pc := 10) (tgt := 27) dX4_setAfter_10 (by decide) (fun h2 => ?_) (fun h2 => ?_)
    · refine z_iconst (pc := 27) (v := 0) dX4_setAfter_27 rfl ?_
      exact z_iret dX4_setAfter_28
    · refine z_iload_n (pc := 13) 2 dX4_setAfter_13 rfl rfl ?_
      refine z_iconst (pc := 14) (v := 4) dX4_setAfter_14 rfl ?_
      refine z_icmp_ge (pc := 15) (tgt := 27) dX4_setAfter_15 (by decide) (fun h3 => ?_) (fun h3 => ?_)
      · refine z_iconst (pc := 27) (v := 0) dX4_setAfter_27 rfl ?_
        exact z_iret dX4_setAfter_28
      · refine z_aload_n (pc := 18) 0 dX4_setAfter_18 rfl rfl ?_
        refine z_get (pc := 19) (v := .ref (g.2.2.1 9)) flX4_33 jnX4 ltC_1 kdC_1 rfl (by decide) rfl foC_1_7 rfl dX4_setAfter_19 ?_
        refine z_iload_n (pc := 22) 2 dX4_setAfter_22 rfl rfl ?_
        refine z_iaload_g (pc := 23) ltC_9 kdC_9 dX4_setAfter_23 ?_
        refine z_goto (pc := 24) (tgt := 28) dX4_setAfter_24 (by decide) ?_
        exact z_iret dX4_setAfter_28
  · refine z_aload_n (pc := 4) 0 dX4_setAfter_4 rfl rfl ?_
    refine z_get (pc := 5) (v := .int (μ.1 1 11)) flX4_40 jnX4 ltC_1 kdC_1 rfl (by decide) rfl foC_1_11 rfl dX4_setAfter_5 ?_
    exact z_iret dX4_setAfter_8
def lp_X1_offerPhrase_34 (c1 : Int32) (c2 : Int32) (c4 : Int32) (c5 : Int32) : Nat → Int32 → Mm → (Mm → Option (Unit × Mm)) → Option (Unit × Mm)
  | 0, _, _, _ => none
  | n + 1, y6, μ, k => if (4 : Int32) ≤ y6 then (k  μ) else (if zin ((c1 * (4 : Int32)) + y6) 164 then (if (μ.1 19 (((c1 * (4 : Int32)) + y6).toNatClampNeg)) = (-1 : Int32) then (bd (f_X4_setAfter c1 y6 μ) fun r5 μ6 => if zin c2 12 then (bd (f_X6_holds r5 (μ6.1 2 c2.toNatClampNeg) μ6) fun r7 μ8 => if r7 = 0 then (lp_X1_offerPhrase_34 c1 c2 c4 c5 n (y6 + 1) μ8 k) else (if zin ((c1 * (4 : Int32)) + y6) 164 then (if zin ((c1 * (4 : Int32)) + y6) 164 then (if zin ((c1 * (4 : Int32)) + y6) 164 then (lp_X1_offerPhrase_34 c1 c2 c4 c5 n (y6 + 1) (si (si (si μ8 18 (((c1 * (4 : Int32)) + y6).toNatClampNeg) c4) 19 (((c1 * (4 : Int32)) + y6).toNatClampNeg) c5) 20 (((c1 * (4 : Int32)) + y6).toNatClampNeg) c2) k) else none) else none) else none)) else none) else (if zin ((c1 * (4 : Int32)) + y6) 164 then (if (μ.1 18 (((c1 * (4 : Int32)) + y6).toNatClampNeg)) < c4 then (bd (f_X4_setAfter c1 y6 μ) fun r11 μ12 => if zin c2 12 then (bd (f_X6_holds r11 (μ12.1 2 c2.toNatClampNeg) μ12) fun r13 μ14 => if r13 = 0 then (lp_X1_offerPhrase_34 c1 c2 c4 c5 n (y6 + 1) μ14 k) else (if zin ((c1 * (4 : Int32)) + y6) 164 then (if zin ((c1 * (4 : Int32)) + y6) 164 then (if zin ((c1 * (4 : Int32)) + y6) 164 then (lp_X1_offerPhrase_34 c1 c2 c4 c5 n (y6 + 1) (si (si (si μ14 18 (((c1 * (4 : Int32)) + y6).toNatClampNeg) c4) 19 (((c1 * (4 : Int32)) + y6).toNatClampNeg) c5) 20 (((c1 * (4 : Int32)) + y6).toNatClampNeg) c2) k) else none) else none) else none)) else none) else (if zin ((c1 * (4 : Int32)) + y6) 164 then (if c4 = (μ.1 18 (((c1 * (4 : Int32)) + y6).toNatClampNeg)) then (if zin ((c1 * (4 : Int32)) + y6) 164 then (if (μ.1 19 (((c1 * (4 : Int32)) + y6).toNatClampNeg)) ≤ c5 then (lp_X1_offerPhrase_34 c1 c2 c4 c5 n (y6 + 1) μ k) else (bd (f_X4_setAfter c1 y6 μ) fun r18 μ19 => if zin c2 12 then (bd (f_X6_holds r18 (μ19.1 2 c2.toNatClampNeg) μ19) fun r20 μ21 => if r20 = 0 then (lp_X1_offerPhrase_34 c1 c2 c4 c5 n (y6 + 1) μ21 k) else (if zin ((c1 * (4 : Int32)) + y6) 164 then (if zin ((c1 * (4 : Int32)) + y6) 164 then (if zin ((c1 * (4 : Int32)) + y6) 164 then (lp_X1_offerPhrase_34 c1 c2 c4 c5 n (y6 + 1) (si (si (si μ21 18 (((c1 * (4 : Int32)) + y6).toNatClampNeg) c4) 19 (((c1 * (4 : Int32)) + y6).toNatClampNeg) c5) 20 (((c1 * (4 : Int32)) + y6).toNatClampNeg) c2) k) else none) else none) else none)) else none)) else none) else (lp_X1_offerPhrase_34 c1 c2 c4 c5 n (y6 + 1) μ k)) else none)) else none)) else none)
theorem w_X1_offerPhrase_34 (g : Gx) (c1 : Int32) (c2 : Int32) (c4 : Int32) (c5 : Int32) : ∀ (n : Nat) (y6 : Int32) (μ : Mm) (k : Mm → Option (Unit × Mm)), (∀ (ν : Mm), Zw g ΛC enV RX1 cX1_offerPhrase 9 none rX1_offerPhrase 164 [] [] ν (k  ν)) → Zw g ΛC enV RX1 cX1_offerPhrase 9 none rX1_offerPhrase 34 [(0, .ref (g.2.2.1 17)), (1, .int c1), (2, .int c2), (4, .int c4), (5, .int c5), (6, .int y6)] [] μ (lp_X1_offerPhrase_34 c1 c2 c4 c5 n y6 μ k) := by
  intro n
  induction n with
  | zero =>
    intro y6 μ k hk
    exact z_none
  | succ n ih =>
    intro y6 μ k hk
    rw [lp_X1_offerPhrase_34]
    refine z_iload (pc := 34) 5 dX1_offerPhrase_34 rfl ?_
    refine z_iconst (pc := 36) (v := 4) dX1_offerPhrase_36 rfl ?_
    refine z_icmp_ge (pc := 37) (tgt := 164) dX1_offerPhrase_37 (by decide) (fun h3 => ?_) (fun h3 => ?_)
    · refine z_sub (lv2 := []) [] rfl ?_
      exact hk _
    · refine z_iload_n (pc := 40) 1 dX1_offerPhrase_40 rfl rfl ?_
      refine z_iconst (pc := 41) (v := 4) dX1_offerPhrase_41 rfl ?_
      refine z_imul (pc := 42) dX1_offerPhrase_42 ?_
      refine z_iload (pc := 43) 5 dX1_offerPhrase_43 rfl ?_
      refine z_iadd (pc := 45) dX1_offerPhrase_45 ?_
      refine z_istore (pc := 46) (lv2 := [(0, .ref (g.2.2.1 17)), (1, .int c1), (2, .int c2), (4, .int c4), (5, .int c5), (6, .int y6), (7, .int ((c1 * (4 : Int32)) + y6))]) [1, 2, 3, 4, 5, 6, 0] dX1_offerPhrase_46 (by decide) rfl ?_
      refine z_aload_n (pc := 48) 0 dX1_offerPhrase_48 rfl rfl ?_
      refine z_get (pc := 49) (v := .ref (g.2.2.1 19)) flX1_15 jnX1 ltC_17 kdC_17 rfl (by decide) rfl foC_17_3 rfl dX1_offerPhrase_49 ?_
      refine z_iload (pc := 52) 6 dX1_offerPhrase_52 rfl ?_
      refine z_iaload_g (pc := 54) ltC_19 kdC_19 dX1_offerPhrase_54 ?_
      refine z_iconst (pc := 55) (v := -1) dX1_offerPhrase_55 rfl ?_
      refine z_icmp_eq (pc := 56) (tgt := 95) dX1_offerPhrase_56 (by decide) (fun h4 => ?_) (fun h4 => ?_)
      · refine z_iconst (pc := 95) (v := 1) dX1_offerPhrase_95 rfl ?_
        refine z_goto (pc := 96) (tgt := 100) dX1_offerPhrase_96 (by decide) ?_
        refine z_istore (pc := 100) (lv2 := [(0, .ref (g.2.2.1 17)), (1, .int c1), (2, .int c2), (4, .int c4), (5, .int c5), (6, .int y6), (7, .int ((c1 * (4 : Int32)) + y6)), (8, .int (1 : Int32))]) [1, 2, 3, 4, 5, 6, 7, 0] dX1_offerPhrase_100 (by decide) rfl ?_
        refine z_iload (pc := 102) 7 dX1_offerPhrase_102 rfl ?_
        refine z_if_eq_x (pc := 104) (tgt := 158) dX1_offerPhrase_104 (by decide) (by decide +kernel) ?_
        refine z_aload_n (pc := 107) 0 dX1_offerPhrase_107 rfl rfl ?_
        refine z_get (pc := 108) (v := .ref (g.2.2.1 1)) flX1_24 jnX1 ltC_17 kdC_17 rfl (by decide) rfl foC_17_0 rfl dX1_offerPhrase_108 ?_
        refine z_iload_n (pc := 111) 1 dX1_offerPhrase_111 rfl rfl ?_
        refine z_iload (pc := 112) 5 dX1_offerPhrase_112 rfl ?_
        refine z_callV (pc := 114) (b := 1) (As := [.int c1, .int y6]) (rest := []) kX1_80 (m_X4_setAfter g μ c1 y6) ltC_1 kdC_1 rfl rfl ⟨rfl, rfl⟩ ⟨Nat.le_of_ble_eq_true rfl, Nat.le_of_ble_eq_true rfl⟩ (Nat.le_of_ble_eq_true rfl) rfl rfl dX1_offerPhrase_114 (fun r5 μ6 => ?_)
        change Zw g ΛC enV RX1 cX1_offerPhrase 9 none rX1_offerPhrase 117 [(0, .ref (g.2.2.1 17)), (1, .int c1), (2, .int c2), (4, .int c4), (5, .int c5), (6, .int y6), (7, .int ((c1 * (4 : Int32)) + y6)), (8, .int (1 : Int32))] [.int r5] μ6 _
        refine z_aload_n (pc := 117) 0 dX1_offerPhrase_117 rfl rfl ?_
        refine z_get (pc := 118) (v := .ref (g.2.2.1 1)) flX1_24 jnX1 ltC_17 kdC_17 rfl (by decide) rfl foC_17_0 rfl dX1_offerPhrase_118 ?_
        refine z_get (pc := 121) (v := .ref (g.2.2.1 2)) flX1_70 jnX4 ltC_1 kdC_1 rfl (by decide) rfl foC_1_0 rfl dX1_offerPhrase_121 ?_
        refine z_iload_n (pc := 124) 2 dX1_offerPhrase_124 rfl rfl ?_
        refine z_iaload_g (pc := 125) ltC_2 kdC_2 dX1_offerPhrase_125 ?_
        refine z_callSN (pc := 126) (As := [.int r5, .int (μ6.1 2 c2.toNatClampNeg)]) (rest := []) kX1_52 (m_X6_holds g μ6 r5 (μ6.1 2 c2.toNatClampNeg)) ⟨rfl, rfl⟩ ⟨Nat.le_of_ble_eq_true rfl, Nat.le_of_ble_eq_true rfl⟩ (Nat.le_of_ble_eq_true rfl) rfl rfl dX1_offerPhrase_126 (fun r7 μ8 => ?_)
        change Zw g ΛC enV RX1 cX1_offerPhrase 9 none rX1_offerPhrase 129 [(0, .ref (g.2.2.1 17)), (1, .int c1), (2, .int c2), (4, .int c4), (5, .int c5), (6, .int y6), (7, .int ((c1 * (4 : Int32)) + y6)), (8, .int (1 : Int32))] [.int r7] μ8 _
        refine z_if_eq (pc := 129) (tgt := 158) dX1_offerPhrase_129 (by decide) (fun h9 => ?_) (fun h9 => ?_)
        · refine z_iinc (pc := 158) (v := y6 + 1) (lv2 := [(0, .ref (g.2.2.1 17)), (1, .int c1), (2, .int c2), (4, .int c4), (5, .int c5), (6, .int (y6 + 1)), (7, .int ((c1 * (4 : Int32)) + y6)), (8, .int (1 : Int32))]) 5 [1, 2, 3, 4, 5, 0, 6, 7] dX1_offerPhrase_158 rfl (by rw [oi_1]) (by decide) rfl ?_
          refine z_goto (pc := 161) (tgt := 34) dX1_offerPhrase_161 (by decide) ?_
          refine z_sub (lv2 := [(0, .ref (g.2.2.1 17)), (1, .int c1), (2, .int c2), (4, .int c4), (5, .int c5), (6, .int (y6 + 1))]) [0, 1, 2, 3, 4, 5] rfl ?_
          exact ih _ _ _ hk
        · refine z_aload_n (pc := 132) 0 dX1_offerPhrase_132 rfl rfl ?_
          refine z_get (pc := 133) (v := .ref (g.2.2.1 18)) flX1_9 jnX1 ltC_17 kdC_17 rfl (by decide) rfl foC_17_2 rfl dX1_offerPhrase_133 ?_
          refine z_iload (pc := 136) 6 dX1_offerPhrase_136 rfl ?_
          refine z_iload (pc := 138) 3 dX1_offerPhrase_138 rfl ?_
          refine z_iastore_g (pc := 140) ltC_18 kdC_18 dX1_offerPhrase_140 ?_
          refine z_aload_n (pc := 141) 0 dX1_offerPhrase_141 rfl rfl ?_
          refine z_get (pc := 142) (v := .ref (g.2.2.1 19)) flX1_15 jnX1 ltC_17 kdC_17 rfl (by decide) rfl foC_17_3 rfl dX1_offerPhrase_142 ?_
          refine z_iload (pc := 145) 6 dX1_offerPhrase_145 rfl ?_
          refine z_iload (pc := 147) 4 dX1_offerPhrase_147 rfl ?_
          refine z_iastore_g (pc := 149) ltC_19 kdC_19 dX1_offerPhrase_149 ?_
          refine z_aload_n (pc := 150) 0 dX1_offerPhrase_150 rfl rfl ?_
          refine z_get (pc := 151) (v := .ref (g.2.2.1 20)) flX1_18 jnX1 ltC_17 kdC_17 rfl (by decide) rfl foC_17_4 rfl dX1_offerPhrase_151 ?_
          refine z_iload (pc := 154) 6 dX1_offerPhrase_154 rfl ?_
          refine z_iload_n (pc := 156) 2 dX1_offerPhrase_156 rfl rfl ?_
          refine z_iastore_g (pc := 157) ltC_20 kdC_20 dX1_offerPhrase_157 ?_
          refine z_iinc (pc := 158) (v := y6 + 1) (lv2 := [(0, .ref (g.2.2.1 17)), (1, .int c1), (2, .int c2), (4, .int c4), (5, .int c5), (6, .int (y6 + 1)), (7, .int ((c1 * (4 : Int32)) + y6)), (8, .int (1 : Int32))]) 5 [1, 2, 3, 4, 5, 0, 6, 7] dX1_offerPhrase_158 rfl (by rw [oi_1]) (by decide) rfl ?_
          refine z_goto (pc := 161) (tgt := 34) dX1_offerPhrase_161 (by decide) ?_
          refine z_sub (lv2 := [(0, .ref (g.2.2.1 17)), (1, .int c1), (2, .int c2), (4, .int c4), (5, .int c5), (6, .int (y6 + 1))]) [0, 1, 2, 3, 4, 5] rfl ?_
          exact ih _ _ _ hk
      · refine z_iload (pc := 59) 3 dX1_offerPhrase_59 rfl ?_
        refine z_aload_n (pc := 61) 0 dX1_offerPhrase_61 rfl rfl ?_
        refine z_get (pc := 62) (v := .ref (g.2.2.1 18)) flX1_9 jnX1 ltC_17 kdC_17 rfl (by decide) rfl foC_17_2 rfl dX1_offerPhrase_62 ?_
        refine z_iload (pc := 65) 6 dX1_offerPhrase_65 rfl ?_
        refine z_iaload_g (pc := 67) ltC_18 kdC_18 dX1_offerPhrase_67 ?_
        refine z_icmp_gt (pc := 68) (tgt := 95) dX1_offerPhrase_68 (by decide) (fun h10 => ?_) (fun h10 => ?_)
        · refine z_iconst (pc := 95) (v := 1) dX1_offerPhrase_95 rfl ?_
          refine z_goto (pc := 96) (tgt := 100) dX1_offerPhrase_96 (by decide) ?_
          refine z_istore (pc := 100) (lv2 := [(0, .ref (g.2.2.1 17)), (1, .int c1), (2, .int c2), (4, .int c4), (5, .int c5), (6, .int y6), (7, .int ((c1 * (4 : Int32)) + y6)), (8, .int (1 : Int32))]) [1, 2, 3, 4, 5, 6, 7, 0] dX1_offerPhrase_100 (by decide) rfl ?_
          refine z_iload (pc := 102) 7 dX1_offerPhrase_102 rfl ?_
          refine z_if_eq_x (pc := 104) (tgt := 158) dX1_offerPhrase_104 (by decide) (by decide +kernel) ?_
          refine z_aload_n (pc := 107) 0 dX1_offerPhrase_107 rfl rfl ?_
          refine z_get (pc := 108) (v := .ref (g.2.2.1 1)) flX1_24 jnX1 ltC_17 kdC_17 rfl (by decide) rfl foC_17_0 rfl dX1_offerPhrase_108 ?_
          refine z_iload_n (pc := 111) 1 dX1_offerPhrase_111 rfl rfl ?_
          refine z_iload (pc := 112) 5 dX1_offerPhrase_112 rfl ?_
          refine z_callV (pc := 114) (b := 1) (As := [.int c1, .int y6]) (rest := []) kX1_80 (m_X4_setAfter g μ c1 y6) ltC_1 kdC_1 rfl rfl ⟨rfl, rfl⟩ ⟨Nat.le_of_ble_eq_true rfl, Nat.le_of_ble_eq_true rfl⟩ (Nat.le_of_ble_eq_true rfl) rfl rfl dX1_offerPhrase_114 (fun r11 μ12 => ?_)
          change Zw g ΛC enV RX1 cX1_offerPhrase 9 none rX1_offerPhrase 117 [(0, .ref (g.2.2.1 17)), (1, .int c1), (2, .int c2), (4, .int c4), (5, .int c5), (6, .int y6), (7, .int ((c1 * (4 : Int32)) + y6)), (8, .int (1 : Int32))] [.int r11] μ12 _
          refine z_aload_n (pc := 117) 0 dX1_offerPhrase_117 rfl rfl ?_
          refine z_get (pc := 118) (v := .ref (g.2.2.1 1)) flX1_24 jnX1 ltC_17 kdC_17 rfl (by decide) rfl foC_17_0 rfl dX1_offerPhrase_118 ?_
          refine z_get (pc := 121) (v := .ref (g.2.2.1 2)) flX1_70 jnX4 ltC_1 kdC_1 rfl (by decide) rfl foC_1_0 rfl dX1_offerPhrase_121 ?_
          refine z_iload_n (pc := 124) 2 dX1_offerPhrase_124 rfl rfl ?_
          refine z_iaload_g (pc := 125) ltC_2 kdC_2 dX1_offerPhrase_125 ?_
          refine z_callSN (pc := 126) (As := [.int r11, .int (μ12.1 2 c2.toNatClampNeg)]) (rest := []) kX1_52 (m_X6_holds g μ12 r11 (μ12.1 2 c2.toNatClampNeg)) ⟨rfl, rfl⟩ ⟨Nat.le_of_ble_eq_true rfl, Nat.le_of_ble_eq_true rfl⟩ (Nat.le_of_ble_eq_true rfl) rfl rfl dX1_offerPhrase_126 (fun r13 μ14 => ?_)
          change Zw g ΛC enV RX1 cX1_offerPhrase 9 none rX1_offerPhrase 129 [(0, .ref (g.2.2.1 17)), (1, .int c1), (2, .int c2), (4, .int c4), (5, .int c5), (6, .int y6), (7, .int ((c1 * (4 : Int32)) + y6)), (8, .int (1 : Int32))] [.int r13] μ14 _
          refine z_if_eq (pc := 129) (tgt := 158) dX1_offerPhrase_129 (by decide) (fun h15 => ?_) (fun h15 => ?_)
          · refine z_iinc (pc := 158) (v := y6 + 1) (lv2 := [(0, .ref (g.2.2.1 17)), (1, .int c1), (2, .int c2), (4, .int c4), (5, .int c5), (6, .int (y6 + 1)), (7, .int ((c1 * (4 : Int32)) + y6)), (8, .int (1 : Int32))]) 5 [1, 2, 3, 4, 5, 0, 6, 7] dX1_offerPhrase_158 rfl (by rw [oi_1]) (by decide) rfl ?_
            refine z_goto (pc := 161) (tgt := 34) dX1_offerPhrase_161 (by decide) ?_
            refine z_sub (lv2 := [(0, .ref (g.2.2.1 17)), (1, .int c1), (2, .int c2), (4, .int c4), (5, .int c5), (6, .int (y6 + 1))]) [0, 1, 2, 3, 4, 5] rfl ?_
            exact ih _ _ _ hk
          · refine z_aload_n (pc := 132) 0 dX1_offerPhrase_132 rfl rfl ?_
            refine z_get (pc := 133) (v := .ref (g.2.2.1 18)) flX1_9 jnX1 ltC_17 kdC_17 rfl (by decide) rfl foC_17_2 rfl dX1_offerPhrase_133 ?_
            refine z_iload (pc := 136) 6 dX1_offerPhrase_136 rfl ?_
            refine z_iload (pc := 138) 3 dX1_offerPhrase_138 rfl ?_
            refine z_iastore_g (pc := 140) ltC_18 kdC_18 dX1_offerPhrase_140 ?_
            refine z_aload_n (pc := 141) 0 dX1_offerPhrase_141 rfl rfl ?_
            refine z_get (pc := 142) (v := .ref (g.2.2.1 19)) flX1_15 jnX1 ltC_17 kdC_17 rfl (by decide) rfl foC_17_3 rfl dX1_offerPhrase_142 ?_
            refine z_iload (pc := 145) 6 dX1_offerPhrase_145 rfl ?_
            refine z_iload (pc := 147) 4 dX1_offerPhrase_147 rfl ?_
            refine z_iastore_g (pc := 149) ltC_19 kdC_19 dX1_offerPhrase_149 ?_
            refine z_aload_n (pc := 150) 0 dX1_offerPhrase_150 rfl rfl ?_
            refine z_get (pc := 151) (v := .ref (g.2.2.1 20)) flX1_18 jnX1 ltC_17 kdC_17 rfl (by decide) rfl foC_17_4 rfl dX1_offerPhrase_151 ?_
            refine z_iload (pc := 154) 6 dX1_offerPhrase_154 rfl ?_
            refine z_iload_n (pc := 156) 2 dX1_offerPhrase_156 rfl rfl ?_
            refine z_iastore_g (pc := 157) ltC_20 kdC_20 dX1_offerPhrase_157 ?_
            refine z_iinc (pc := 158) (v := y6 + 1) (lv2 := [(0, .ref (g.2.2.1 17)), (1, .int c1), (2, .int c2), (4, .int c4), (5, .int c5), (6, .int (y6 + 1)), (7, .int ((c1 * (4 : Int32)) + y6)), (8, .int (1 : Int32))]) 5 [1, 2, 3, 4, 5, 0, 6, 7] dX1_offerPhrase_158 rfl (by rw [oi_1]) (by decide) rfl ?_
            refine z_goto (pc := 161) (tgt := 34) dX1_offerPhrase_161 (by decide) ?_
            refine z_sub (lv2 := [(0, .ref (g.2.2.1 17)), (1, .int c1), (2, .int c2), (4, .int c4), (5, .int c5), (6, .int (y6 + 1))]) [0, 1, 2, 3, 4, 5] rfl ?_
            exact ih _ _ _ hk
        · refine z_iload (pc := 71) 3 dX1_offerPhrase_71 rfl ?_
          refine z_aload_n (pc := 73) 0 dX1_offerPhrase_73 rfl rfl ?_
          refine z_get (pc := 74) (v := .ref (g.2.2.1 18)) flX1_9 jnX1 ltC_17 kdC_17 rfl (by decide) rfl foC_17_2 rfl dX1_offerPhrase_74 ?_
          refine z_iload (pc := 77) 6 dX1_offerPhrase_77 rfl ?_
          refine z_iaload_g (pc := 79) ltC_18 kdC_18 dX1_offerPhrase_79 ?_
          refine z_icmp_ne (pc := 80) (tgt := 99) dX1_offerPhrase_80 (by decide) (fun h16 => ?_) (fun h16 => ?_)
          · refine z_iconst (pc := 99) (v := 0) dX1_offerPhrase_99 rfl ?_
            refine z_istore (pc := 100) (lv2 := [(0, .ref (g.2.2.1 17)), (1, .int c1), (2, .int c2), (4, .int c4), (5, .int c5), (6, .int y6), (7, .int ((c1 * (4 : Int32)) + y6)), (8, .int (0 : Int32))]) [1, 2, 3, 4, 5, 6, 7, 0] dX1_offerPhrase_100 (by decide) rfl ?_
            refine z_iload (pc := 102) 7 dX1_offerPhrase_102 rfl ?_
            refine z_if_eq_y (pc := 104) (tgt := 158) dX1_offerPhrase_104 (by decide) (by decide +kernel) ?_
            refine z_iinc (pc := 158) (v := y6 + 1) (lv2 := [(0, .ref (g.2.2.1 17)), (1, .int c1), (2, .int c2), (4, .int c4), (5, .int c5), (6, .int (y6 + 1)), (7, .int ((c1 * (4 : Int32)) + y6)), (8, .int (0 : Int32))]) 5 [1, 2, 3, 4, 5, 0, 6, 7] dX1_offerPhrase_158 rfl (by rw [oi_1]) (by decide) rfl ?_
            refine z_goto (pc := 161) (tgt := 34) dX1_offerPhrase_161 (by decide) ?_
            refine z_sub (lv2 := [(0, .ref (g.2.2.1 17)), (1, .int c1), (2, .int c2), (4, .int c4), (5, .int c5), (6, .int (y6 + 1))]) [0, 1, 2, 3, 4, 5] rfl ?_
            exact ih _ _ _ hk
          · refine z_iload (pc := 83) 4 dX1_offerPhrase_83 rfl ?_
            refine z_aload_n (pc := 85) 0 dX1_offerPhrase_85 rfl rfl ?_
            refine z_get (pc := 86) (v := .ref (g.2.2.1 19)) flX1_15 jnX1 ltC_17 kdC_17 rfl (by decide) rfl foC_17_3 rfl dX1_offerPhrase_86 ?_
            refine z_iload (pc := 89) 6 dX1_offerPhrase_89 rfl ?_
            refine z_iaload_g (pc := 91) ltC_19 kdC_19 dX1_offerPhrase_91 ?_
            refine z_icmp_ge (pc := 92) (tgt := 99) dX1_offerPhrase_92 (by decide) (fun h17 => ?_) (fun h17 => ?_)
            · refine z_iconst (pc := 99) (v := 0) dX1_offerPhrase_99 rfl ?_
              refine z_istore (pc := 100) (lv2 := [(0, .ref (g.2.2.1 17)), (1, .int c1), (2, .int c2), (4, .int c4), (5, .int c5), (6, .int y6), (7, .int ((c1 * (4 : Int32)) + y6)), (8, .int (0 : Int32))]) [1, 2, 3, 4, 5, 6, 7, 0] dX1_offerPhrase_100 (by decide) rfl ?_
              refine z_iload (pc := 102) 7 dX1_offerPhrase_102 rfl ?_
              refine z_if_eq_y (pc := 104) (tgt := 158) dX1_offerPhrase_104 (by decide) (by decide +kernel) ?_
              refine z_iinc (pc := 158) (v := y6 + 1) (lv2 := [(0, .ref (g.2.2.1 17)), (1, .int c1), (2, .int c2), (4, .int c4), (5, .int c5), (6, .int (y6 + 1)), (7, .int ((c1 * (4 : Int32)) + y6)), (8, .int (0 : Int32))]) 5 [1, 2, 3, 4, 5, 0, 6, 7] dX1_offerPhrase_158 rfl (by rw [oi_1]) (by decide) rfl ?_
              refine z_goto (pc := 161) (tgt := 34) dX1_offerPhrase_161 (by decide) ?_
              refine z_sub (lv2 := [(0, .ref (g.2.2.1 17)), (1, .int c1), (2, .int c2), (4, .int c4), (5, .int c5), (6, .int (y6 + 1))]) [0, 1, 2, 3, 4, 5] rfl ?_
              exact ih _ _ _ hk
            · refine z_iconst (pc := 95) (v := 1) dX1_offerPhrase_95 rfl ?_
              refine z_goto (pc := 96) (tgt := 100) dX1_offerPhrase_96 (by decide) ?_
              refine z_istore (pc := 100) (lv2 := [(0, .ref (g.2.2.1 17)), (1, .int c1), (2, .int c2), (4, .int c4), (5, .int c5), (6, .int y6), (7, .int ((c1 * (4 : Int32)) + y6)), (8, .int (1 : Int32))]) [1, 2, 3, 4, 5, 6, 7, 0] dX1_offerPhrase_100 (by decide) rfl ?_
              refine z_iload (pc := 102) 7 dX1_offerPhrase_102 rfl ?_
              refine z_if_eq_x (pc := 104) (tgt := 158) dX1_offerPhrase_104 (by decide) (by decide +kernel) ?_
              refine z_aload_n (pc := 107) 0 dX1_offerPhrase_107 rfl rfl ?_
              refine z_get (pc := 108) (v := .ref (g.2.2.1 1)) flX1_24 jnX1 ltC_17 kdC_17 rfl (by decide) rfl foC_17_0 rfl dX1_offerPhrase_108 ?_
              refine z_iload_n (pc := 111) 1 dX1_offerPhrase_111 rfl rfl ?_
              refine z_iload (pc := 112) 5 dX1_offerPhrase_112 rfl ?_
              refine z_callV (pc := 114) (b := 1) (As := [.int c1, .int y6]) (rest := []) kX1_80 (m_X4_setAfter g μ c1 y6) ltC_1 kdC_1 rfl rfl ⟨rfl, rfl⟩ ⟨Nat.le_of_ble_eq_true rfl, Nat.le_of_ble_eq_true rfl⟩ (Nat.le_of_ble_eq_true rfl) rfl rfl dX1_offerPhrase_114 (fun r18 μ19 => ?_)
              change Zw g ΛC enV RX1 cX1_offerPhrase 9 none rX1_offerPhrase 117 [(0, .ref (g.2.2.1 17)), (1, .int c1), (2, .int c2), (4, .int c4), (5, .int c5), (6, .int y6), (7, .int ((c1 * (4 : Int32)) + y6)), (8, .int (1 : Int32))] [.int r18] μ19 _
              refine z_aload_n (pc := 117) 0 dX1_offerPhrase_117 rfl rfl ?_
              refine z_get (pc := 118) (v := .ref (g.2.2.1 1)) flX1_24 jnX1 ltC_17 kdC_17 rfl (by decide) rfl foC_17_0 rfl dX1_offerPhrase_118 ?_
              refine z_get (pc := 121) (v := .ref (g.2.2.1 2)) flX1_70 jnX4 ltC_1 kdC_1 rfl (by decide) rfl foC_1_0 rfl dX1_offerPhrase_121 ?_
              refine z_iload_n (pc := 124) 2 dX1_offerPhrase_124 rfl rfl ?_
              refine z_iaload_g (pc := 125) ltC_2 kdC_2 dX1_offerPhrase_125 ?_
              refine z_callSN (pc := 126) (As := [.int r18, .int (μ19.1 2 c2.toNatClampNeg)]) (rest := []) kX1_52 (m_X6_holds g μ19 r18 (μ19.1 2 c2.toNatClampNeg)) ⟨rfl, rfl⟩ ⟨Nat.le_of_ble_eq_true rfl, Nat.le_of_ble_eq_true rfl⟩ (Nat.le_of_ble_eq_true rfl) rfl rfl dX1_offerPhrase_126 (fun r20 μ21 => ?_)
              change Zw g ΛC enV RX1 cX1_offerPhrase 9 none rX1_offerPhrase 129 [(0, .ref (g.2.2.1 17)), (1, .int c1), (2, .int c2), (4, .int c4), (5, .int c5), (6, .int y6), (7, .int ((c1 * (4 : Int32)) + y6)), (8, .int (1 : Int32))] [.int r20] μ21 _
              refine z_if_eq (pc := 129) (tgt := 158) dX1_offerPhrase_129 (by decide) (fun h22 => ?_) (fun h22 => ?_)
              · refine z_iinc (pc := 158) (v := y6 + 1) (lv2 := [(0, .ref (g.2.2.1 17)), (1, .int c1), (2, .int c2), (4, .int c4), (5, .int c5), (6, .int (y6 + 1)), (7, .int ((c1 * (4 : Int32)) + y6)), (8, .int (1 : Int32))]) 5 [1, 2, 3, 4, 5, 0, 6, 7] dX1_offerPhrase_158 rfl (by rw [oi_1]) (by decide) rfl ?_
                refine z_goto (pc := 161) (tgt := 34) dX1_offerPhrase_161 (by decide) ?_
                refine z_sub (lv2 := [(0, .ref (g.2.2.1 17)), (1, .int c1), (2, .int c2), (4, .int c4), (5, .int c5), (6, .int (y6 + 1))]) [0, 1, 2, 3, 4, 5] rfl ?_
                exact ih _ _ _ hk
              · refine z_aload_n (pc := 132) 0 dX1_offerPhrase_132 rfl rfl ?_
                refine z_get (pc := 133) (v := .ref (g.2.2.1 18)) flX1_9 jnX1 ltC_17 kdC_17 rfl (by decide) rfl foC_17_2 rfl dX1_offerPhrase_133 ?_
                refine z_iload (pc := 136) 6 dX1_offerPhrase_136 rfl ?_
                refine z_iload (pc := 138) 3 dX1_offerPhrase_138 rfl ?_
                refine z_iastore_g (pc := 140) ltC_18 kdC_18 dX1_offerPhrase_140 ?_
                refine z_aload_n (pc := 141) 0 dX1_offerPhrase_141 rfl rfl ?_
                refine z_get (pc := 142) (v := .ref (g.2.2.1 19)) flX1_15 jnX1 ltC_17 kdC_17 rfl (by decide) rfl foC_17_3 rfl dX1_offerPhrase_142 ?_
                refine z_iload (pc := 145) 6 dX1_offerPhrase_145 rfl ?_
                refine z_iload (pc := 147) 4 dX1_offerPhrase_147 rfl ?_
                refine z_iastore_g (pc := 149) ltC_19 kdC_19 dX1_offerPhrase_149 ?_
                refine z_aload_n (pc := 150) 0 dX1_offerPhrase_150 rfl rfl ?_
                refine z_get (pc := 151) (v := .ref (g.2.2.1 20)) flX1_18 jnX1 ltC_17 kdC_17 rfl (by decide) rfl foC_17_4 rfl dX1_offerPhrase_151 ?_
                refine z_iload (pc := 154) 6 dX1_offerPhrase_154 rfl ?_
                refine z_iload_n (pc := 156) 2 dX1_offerPhrase_156 rfl rfl ?_
                refine z_iastore_g (pc := 157) ltC_20 kdC_20 dX1_offerPhrase_157 ?_
                refine z_iinc (pc := 158) (v := y6 + 1) (lv2 := [(0, .ref (g.2.2.1 17)), (1, .int c1), (2, .int c2), (4, .int c4), (5, .int c5), (6, .int (y6 + 1)), (7, .int ((c1 * (4 : Int32)) + y6)), (8, .int (1 : Int32))]) 5 [1, 2, 3, 4, 5, 0, 6, 7] dX1_offerPhrase_158 rfl (by rw [oi_1]) (by decide) rfl ?_
                refine z_goto (pc := 161) (tgt := 34) dX1_offerPhrase_161 (by decide) ?_
                refine z_sub (lv2 := [(0, .ref (g.2.2.1 17)), (1, .int c1), (2, .int c2), (4, .int c4), (5, .int c5), (6, .int (y6 + 1))]) [0, 1, 2, 3, 4, 5] rfl ?_
                exact ih _ _ _ hk
def f_X1_offerPhrase (a1 : Int32) (a2 : Int32) (a3 : Int32) (μ : Mm) : Option (Unit × Mm) := bd (f_X4_habitOf (μ.1 17 7) a2 μ) fun r1 μ2 => if zin a3 164 then (if zin a3 164 then (lp_X1_offerPhrase_34 a1 a2 (r1 + (μ2.1 18 a3.toNatClampNeg)) ((1 : Int32) + (μ2.1 19 a3.toNatClampNeg)) FU (0 : Int32) μ2 (fun  μ23 => some ((), μ23))) else none) else none
theorem m_X1_offerPhrase (g : Gx) (μ : Mm) (a1 : Int32) (a2 : Int32) (a3 : Int32) : Zm g ΛC enV yX1_offerPhrase cX1_offerPhrase 9 none rX1_offerPhrase [.ref (g.2.2.1 17), .int a1, .int a2, .int a3] μ (f_X1_offerPhrase a1 a2 a3 μ) := by
  refine z_met (by decide +kernel) (Nat.le_of_ble_eq_true rfl) ?_
  change Zw g ΛC enV RX1 cX1_offerPhrase 9 none rX1_offerPhrase 0 [(0, .ref (g.2.2.1 17)), (1, .int a1), (2, .int a2), (3, .int a3)] [] μ (f_X1_offerPhrase a1 a2 a3 μ)
  rw [f_X1_offerPhrase]
  refine z_aload_n (pc := 0) 0 dX1_offerPhrase_0 rfl rfl ?_
  refine z_get (pc := 1) (v := .ref (g.2.2.1 1)) flX1_24 jnX1 ltC_17 kdC_17 rfl (by decide) rfl foC_17_0 rfl dX1_offerPhrase_1 ?_
  refine z_aload_n (pc := 4) 0 dX1_offerPhrase_4 rfl rfl ?_
  refine z_get (pc := 5) (v := .int (μ.1 17 7)) flX1_32 jnX1 ltC_17 kdC_17 rfl (by decide) rfl foC_17_7 rfl dX1_offerPhrase_5 ?_
  refine z_iload_n (pc := 8) 2 dX1_offerPhrase_8 rfl rfl ?_
  refine z_callV (pc := 9) (b := 1) (As := [.int (μ.1 17 7), .int a2]) (rest := []) kX1_77 (m_X4_habitOf g μ (μ.1 17 7) a2) ltC_1 kdC_1 rfl rfl ⟨rfl, rfl⟩ ⟨Nat.le_of_ble_eq_true rfl, Nat.le_of_ble_eq_true rfl⟩ (Nat.le_of_ble_eq_true rfl) rfl rfl dX1_offerPhrase_9 (fun r1 μ2 => ?_)
  change Zw g ΛC enV RX1 cX1_offerPhrase 9 none rX1_offerPhrase 12 [(0, .ref (g.2.2.1 17)), (1, .int a1), (2, .int a2), (3, .int a3)] [.int r1] μ2 _
  refine z_aload_n (pc := 12) 0 dX1_offerPhrase_12 rfl rfl ?_
  refine z_get (pc := 13) (v := .ref (g.2.2.1 18)) flX1_9 jnX1 ltC_17 kdC_17 rfl (by decide) rfl foC_17_2 rfl dX1_offerPhrase_13 ?_
  refine z_iload_n (pc := 16) 3 dX1_offerPhrase_16 rfl rfl ?_
  refine z_iaload_g (pc := 17) ltC_18 kdC_18 dX1_offerPhrase_17 ?_
  refine z_iadd (pc := 18) dX1_offerPhrase_18 ?_
  refine z_istore (pc := 19) (lv2 := [(0, .ref (g.2.2.1 17)), (1, .int a1), (2, .int a2), (3, .int a3), (4, .int (r1 + (μ2.1 18 a3.toNatClampNeg)))]) [1, 2, 3, 4, 0] dX1_offerPhrase_19 (by decide) rfl ?_
  refine z_iconst (pc := 21) (v := 1) dX1_offerPhrase_21 rfl ?_
  refine z_aload_n (pc := 22) 0 dX1_offerPhrase_22 rfl rfl ?_
  refine z_get (pc := 23) (v := .ref (g.2.2.1 19)) flX1_15 jnX1 ltC_17 kdC_17 rfl (by decide) rfl foC_17_3 rfl dX1_offerPhrase_23 ?_
  refine z_iload_n (pc := 26) 3 dX1_offerPhrase_26 rfl rfl ?_
  refine z_iaload_g (pc := 27) ltC_19 kdC_19 dX1_offerPhrase_27 ?_
  refine z_iadd (pc := 28) dX1_offerPhrase_28 ?_
  refine z_istore (pc := 29) (lv2 := [(0, .ref (g.2.2.1 17)), (1, .int a1), (2, .int a2), (3, .int a3), (4, .int (r1 + (μ2.1 18 a3.toNatClampNeg))), (5, .int ((1 : Int32) + (μ2.1 19 a3.toNatClampNeg)))]) [1, 2, 3, 4, 5, 0] dX1_offerPhrase_29 (by decide) rfl ?_
  refine z_iconst (pc := 31) (v := 0) dX1_offerPhrase_31 rfl ?_
  refine z_istore (pc := 32) (lv2 := [(0, .ref (g.2.2.1 17)), (1, .int a1), (2, .int a2), (3, .int a3), (4, .int (r1 + (μ2.1 18 a3.toNatClampNeg))), (5, .int ((1 : Int32) + (μ2.1 19 a3.toNatClampNeg))), (6, .int (0 : Int32))]) [1, 2, 3, 4, 5, 6, 0] dX1_offerPhrase_32 (by decide) rfl ?_
  refine z_sub (lv2 := [(0, .ref (g.2.2.1 17)), (1, .int a1), (2, .int a2), (4, .int (r1 + (μ2.1 18 a3.toNatClampNeg))), (5, .int ((1 : Int32) + (μ2.1 19 a3.toNatClampNeg))), (6, .int (0 : Int32))]) [0, 1, 2, 4, 5, 6] rfl ?_
  refine w_X1_offerPhrase_34 g a1 a2 (r1 + (μ2.1 18 a3.toNatClampNeg)) ((1 : Int32) + (μ2.1 19 a3.toNatClampNeg)) FU (0 : Int32) μ2 _ (fun  μ23 => ?_)
  exact z_vret dX1_offerPhrase_164
def lp_X1_fillPlace_2 (c1 : Int32) : Nat → Int32 → Mm → (Mm → Option (Unit × Mm)) → Option (Unit × Mm)
  | 0, _, _, _ => none
  | n + 1, y2, μ, k => if (4 : Int32) ≤ y2 then (k  μ) else (if zin ((c1 * (4 : Int32)) + y2) 164 then (if zin ((c1 * (4 : Int32)) + y2) 164 then (if zin ((c1 * (4 : Int32)) + y2) 164 then (lp_X1_fillPlace_2 c1 n (y2 + 1) (si (si (si μ 18 (((c1 * (4 : Int32)) + y2).toNatClampNeg) (0 : Int32)) 19 (((c1 * (4 : Int32)) + y2).toNatClampNeg) (-1 : Int32)) 20 (((c1 * (4 : Int32)) + y2).toNatClampNeg) (-1 : Int32)) k) else none) else none) else none)
theorem w_X1_fillPlace_2 (g : Gx) (c1 : Int32) : ∀ (n : Nat) (y2 : Int32) (μ : Mm) (k : Mm → Option (Unit × Mm)), (∀ (ν : Mm), Zw g ΛC enV RX1 cX1_fillPlace 4 none rX1_fillPlace 46 [(0, .ref (g.2.2.1 17)), (1, .int c1)] [] ν (k  ν)) → Zw g ΛC enV RX1 cX1_fillPlace 4 none rX1_fillPlace 2 [(0, .ref (g.2.2.1 17)), (1, .int c1), (2, .int y2)] [] μ (lp_X1_fillPlace_2 c1 n y2 μ k) := by
  intro n
  induction n with
  | zero =>
    intro y2 μ k hk
    exact z_none
  | succ n ih =>
    intro y2 μ k hk
    rw [lp_X1_fillPlace_2]
    refine z_iload_n (pc := 2) 2 dX1_fillPlace_2 rfl rfl ?_
    refine z_iconst (pc := 3) (v := 4) dX1_fillPlace_3 rfl ?_
    refine z_icmp_ge (pc := 4) (tgt := 46) dX1_fillPlace_4 (by decide) (fun h1 => ?_) (fun h1 => ?_)
    · refine z_sub (lv2 := [(0, .ref (g.2.2.1 17)), (1, .int c1)]) [0, 1] rfl ?_
      exact hk _
    · refine z_aload_n (pc := 7) 0 dX1_fillPlace_7 rfl rfl ?_
      refine z_get (pc := 8) (v := .ref (g.2.2.1 18)) flX1_9 jnX1 ltC_17 kdC_17 rfl (by decide) rfl foC_17_2 rfl dX1_fillPlace_8 ?_
      refine z_iload_n (pc := 11) 1 dX1_fillPlace_11 rfl rfl ?_
      refine z_iconst (pc := 12) (v := 4) dX1_fillPlace_12 rfl ?_
      refine z_imul (pc := 13) dX1_fillPlace_13 ?_
      refine z_iload_n (pc := 14) 2 dX1_fillPlace_14 rfl rfl ?_
      refine z_iadd (pc := 15) dX1_fillPlace_15 ?_
      refine z_iconst (pc := 16) (v := 0) dX1_fillPlace_16 rfl ?_
      refine z_iastore_g (pc := 17) ltC_18 kdC_18 dX1_fillPlace_17 ?_
      refine z_aload_n (pc := 18) 0 dX1_fillPlace_18 rfl rfl ?_
      refine z_get (pc := 19) (v := .ref (g.2.2.1 19)) flX1_15 jnX1 ltC_17 kdC_17 rfl (by decide) rfl foC_17_3 rfl dX1_fillPlace_19 ?_
      refine z_iload_n (pc := 22) 1 dX1_fillPlace_22 rfl rfl ?_
      refine z_iconst (pc := 23) (v := 4) dX1_fillPlace_23 rfl ?_
      refine z_imul (pc := 24) dX1_fillPlace_24 ?_
      refine z_iload_n (pc := 25) 2 dX1_fillPlace_25 rfl rfl ?_
      refine z_iadd (pc := 26) dX1_fillPlace_26 ?_
      refine z_iconst (pc := 27) (v := -1) dX1_fillPlace_27 rfl ?_
      refine z_iastore_g (pc := 28) ltC_19 kdC_19 dX1_fillPlace_28 ?_
      refine z_aload_n (pc := 29) 0 dX1_fillPlace_29 rfl rfl ?_
      refine z_get (pc := 30) (v := .ref (g.2.2.1 20)) flX1_18 jnX1 ltC_17 kdC_17 rfl (by decide) rfl foC_17_4 rfl dX1_fillPlace_30 ?_
      refine z_iload_n (pc := 33) 1 dX1_fillPlace_33 rfl rfl ?_
      refine z_iconst (pc := 34) (v := 4) dX1_fillPlace_34 rfl ?_
      refine z_imul (pc := 35) dX1_fillPlace_35 ?_
      refine z_iload_n (pc := 36) 2 dX1_fillPlace_36 rfl rfl ?_
      refine z_iadd (pc := 37) dX1_fillPlace_37 ?_
      refine z_iconst (pc := 38) (v := -1) dX1_fillPlace_38 rfl ?_
      refine z_iastore_g (pc := 39) ltC_20 kdC_20 dX1_fillPlace_39 ?_
      refine z_iinc (pc := 40) (v := y2 + 1) (lv2 := [(0, .ref (g.2.2.1 17)), (1, .int c1), (2, .int (y2 + 1))]) 2 [1, 2, 0] dX1_fillPlace_40 rfl (by rw [oi_1]) (by decide) rfl ?_
      refine z_goto (pc := 43) (tgt := 2) dX1_fillPlace_43 (by decide) ?_
      exact ih _ _ _ hk
def lp_X1_fillPlace_48 (c1 : Int32) : Nat → Int32 → Mm → (Mm → Option (Unit × Mm)) → Option (Unit × Mm)
  | 0, _, _, _ => none
  | n + 1, y2, μ, k => if (μ.1 1 8) ≤ y2 then (k  μ) else (bd (f_X0_landingOf c1 y2 μ) fun r4 μ5 => if r4 ≤ 0 then (lp_X1_fillPlace_48 c1 n (y2 + 1) μ5 k) else (if zin y2 12 then (if zin ((r4 * (4 : Int32)) + (μ5.1 2 y2.toNatClampNeg)) 164 then (if (μ5.1 19 (((r4 * (4 : Int32)) + (μ5.1 2 y2.toNatClampNeg)).toNatClampNeg)) = (-1 : Int32) then (lp_X1_fillPlace_48 c1 n (y2 + 1) μ5 k) else (if zin y2 12 then (bd (f_X1_offerPhrase c1 y2 ((r4 * (4 : Int32)) + (μ5.1 2 y2.toNatClampNeg)) μ5) fun r8 μ9 => lp_X1_fillPlace_48 c1 n (y2 + 1) μ9 k) else none)) else none) else none))
theorem w_X1_fillPlace_48 (g : Gx) (c1 : Int32) : ∀ (n : Nat) (y2 : Int32) (μ : Mm) (k : Mm → Option (Unit × Mm)), (∀ (ν : Mm), Zw g ΛC enV RX1 cX1_fillPlace 4 none rX1_fillPlace 120 [] [] ν (k  ν)) → Zw g ΛC enV RX1 cX1_fillPlace 4 none rX1_fillPlace 48 [(0, .ref (g.2.2.1 17)), (1, .int c1), (2, .int y2)] [] μ (lp_X1_fillPlace_48 c1 n y2 μ k) := by
  intro n
  induction n with
  | zero =>
    intro y2 μ k hk
    exact z_none
  | succ n ih =>
    intro y2 μ k hk
    rw [lp_X1_fillPlace_48]
    refine z_iload_n (pc := 48) 2 dX1_fillPlace_48 rfl rfl ?_
    refine z_aload_n (pc := 49) 0 dX1_fillPlace_49 rfl rfl ?_
    refine z_get (pc := 50) (v := .ref (g.2.2.1 1)) flX1_24 jnX1 ltC_17 kdC_17 rfl (by decide) rfl foC_17_0 rfl dX1_fillPlace_50 ?_
    refine z_get (pc := 53) (v := .int (μ.1 1 8)) flX1_63 jnX4 ltC_1 kdC_1 rfl (by decide) rfl foC_1_8 rfl dX1_fillPlace_53 ?_
    refine z_icmp_ge (pc := 56) (tgt := 120) dX1_fillPlace_56 (by decide) (fun h3 => ?_) (fun h3 => ?_)
    · refine z_sub (lv2 := []) [] rfl ?_
      exact hk _
    · refine z_aload_n (pc := 59) 0 dX1_fillPlace_59 rfl rfl ?_
      refine z_get (pc := 60) (v := .ref (g.2.2.1 10)) flX1_28 jnX1 ltC_17 kdC_17 rfl (by decide) rfl foC_17_1 rfl dX1_fillPlace_60 ?_
      refine z_iload_n (pc := 63) 1 dX1_fillPlace_63 rfl rfl ?_
      refine z_iload_n (pc := 64) 2 dX1_fillPlace_64 rfl rfl ?_
      refine z_callV (pc := 65) (b := 10) (As := [.int c1, .int y2]) (rest := []) kX1_66 (m_X0_landingOf g μ c1 y2) ltC_10 kdC_10 rfl rfl ⟨rfl, rfl⟩ ⟨Nat.le_of_ble_eq_true rfl, Nat.le_of_ble_eq_true rfl⟩ (Nat.le_of_ble_eq_true rfl) rfl rfl dX1_fillPlace_65 (fun r4 μ5 => ?_)
      change Zw g ΛC enV RX1 cX1_fillPlace 4 none rX1_fillPlace 68 [(0, .ref (g.2.2.1 17)), (1, .int c1), (2, .int y2)] [.int r4] μ5 _
      refine z_istore_n (pc := 68) (lv2 := [(0, .ref (g.2.2.1 17)), (1, .int c1), (2, .int y2), (3, .int r4)]) [1, 2, 3, 0] dX1_fillPlace_68 rfl (by decide) rfl ?_
      refine z_iload_n (pc := 69) 3 dX1_fillPlace_69 rfl rfl ?_
      refine z_if_le (pc := 70) (tgt := 114) dX1_fillPlace_70 (by decide) (fun h6 => ?_) (fun h6 => ?_)
      · refine z_iinc (pc := 114) (v := y2 + 1) (lv2 := [(0, .ref (g.2.2.1 17)), (1, .int c1), (2, .int (y2 + 1)), (3, .int r4)]) 2 [1, 2, 0, 3] dX1_fillPlace_114 rfl (by rw [oi_1]) (by decide) rfl ?_
        refine z_goto (pc := 117) (tgt := 48) dX1_fillPlace_117 (by decide) ?_
        refine z_sub (lv2 := [(0, .ref (g.2.2.1 17)), (1, .int c1), (2, .int (y2 + 1))]) [0, 1, 2] rfl ?_
        exact ih _ _ _ hk
      · refine z_aload_n (pc := 73) 0 dX1_fillPlace_73 rfl rfl ?_
        refine z_get (pc := 74) (v := .ref (g.2.2.1 19)) flX1_15 jnX1 ltC_17 kdC_17 rfl (by decide) rfl foC_17_3 rfl dX1_fillPlace_74 ?_
        refine z_iload_n (pc := 77) 3 dX1_fillPlace_77 rfl rfl ?_
        refine z_iconst (pc := 78) (v := 4) dX1_fillPlace_78 rfl ?_
        refine z_imul (pc := 79) dX1_fillPlace_79 ?_
        refine z_aload_n (pc := 80) 0 dX1_fillPlace_80 rfl rfl ?_
        refine z_get (pc := 81) (v := .ref (g.2.2.1 1)) flX1_24 jnX1 ltC_17 kdC_17 rfl (by decide) rfl foC_17_0 rfl dX1_fillPlace_81 ?_
        refine z_get (pc := 84) (v := .ref (g.2.2.1 2)) flX1_70 jnX4 ltC_1 kdC_1 rfl (by decide) rfl foC_1_0 rfl dX1_fillPlace_84 ?_
        refine z_iload_n (pc := 87) 2 dX1_fillPlace_87 rfl rfl ?_
        refine z_iaload_g (pc := 88) ltC_2 kdC_2 dX1_fillPlace_88 ?_
        refine z_iadd (pc := 89) dX1_fillPlace_89 ?_
        refine z_iaload_g (pc := 90) ltC_19 kdC_19 dX1_fillPlace_90 ?_
        refine z_iconst (pc := 91) (v := -1) dX1_fillPlace_91 rfl ?_
        refine z_icmp_eq (pc := 92) (tgt := 114) dX1_fillPlace_92 (by decide) (fun h7 => ?_) (fun h7 => ?_)
        · refine z_iinc (pc := 114) (v := y2 + 1) (lv2 := [(0, .ref (g.2.2.1 17)), (1, .int c1), (2, .int (y2 + 1)), (3, .int r4)]) 2 [1, 2, 0, 3] dX1_fillPlace_114 rfl (by rw [oi_1]) (by decide) rfl ?_
          refine z_goto (pc := 117) (tgt := 48) dX1_fillPlace_117 (by decide) ?_
          refine z_sub (lv2 := [(0, .ref (g.2.2.1 17)), (1, .int c1), (2, .int (y2 + 1))]) [0, 1, 2] rfl ?_
          exact ih _ _ _ hk
        · refine z_aload_n (pc := 95) 0 dX1_fillPlace_95 rfl rfl ?_
          refine z_iload_n (pc := 96) 1 dX1_fillPlace_96 rfl rfl ?_
          refine z_iload_n (pc := 97) 2 dX1_fillPlace_97 rfl rfl ?_
          refine z_iload_n (pc := 98) 3 dX1_fillPlace_98 rfl rfl ?_
          refine z_iconst (pc := 99) (v := 4) dX1_fillPlace_99 rfl ?_
          refine z_imul (pc := 100) dX1_fillPlace_100 ?_
          refine z_aload_n (pc := 101) 0 dX1_fillPlace_101 rfl rfl ?_
          refine z_get (pc := 102) (v := .ref (g.2.2.1 1)) flX1_24 jnX1 ltC_17 kdC_17 rfl (by decide) rfl foC_17_0 rfl dX1_fillPlace_102 ?_
          refine z_get (pc := 105) (v := .ref (g.2.2.1 2)) flX1_70 jnX4 ltC_1 kdC_1 rfl (by decide) rfl foC_1_0 rfl dX1_fillPlace_105 ?_
          refine z_iload_n (pc := 108) 2 dX1_fillPlace_108 rfl rfl ?_
          refine z_iaload_g (pc := 109) ltC_2 kdC_2 dX1_fillPlace_109 ?_
          refine z_iadd (pc := 110) dX1_fillPlace_110 ?_
          refine z_callV (pc := 111) (b := 17) (As := [.int c1, .int y2, .int ((r4 * (4 : Int32)) + (μ5.1 2 y2.toNatClampNeg))]) (rest := []) kX1_73 (m_X1_offerPhrase g μ5 c1 y2 ((r4 * (4 : Int32)) + (μ5.1 2 y2.toNatClampNeg))) ltC_17 kdC_17 rfl rfl ⟨rfl, rfl⟩ ⟨Nat.le_of_ble_eq_true rfl, Nat.le_of_ble_eq_true rfl⟩ (Nat.le_of_ble_eq_true rfl) rfl rfl dX1_fillPlace_111 (fun r8 μ9 => ?_)
          change Zw g ΛC enV RX1 cX1_fillPlace 4 none rX1_fillPlace 114 [(0, .ref (g.2.2.1 17)), (1, .int c1), (2, .int y2), (3, .int r4)] [] μ9 _
          refine z_iinc (pc := 114) (v := y2 + 1) (lv2 := [(0, .ref (g.2.2.1 17)), (1, .int c1), (2, .int (y2 + 1)), (3, .int r4)]) 2 [1, 2, 0, 3] dX1_fillPlace_114 rfl (by rw [oi_1]) (by decide) rfl ?_
          refine z_goto (pc := 117) (tgt := 48) dX1_fillPlace_117 (by decide) ?_
          refine z_sub (lv2 := [(0, .ref (g.2.2.1 17)), (1, .int c1), (2, .int (y2 + 1))]) [0, 1, 2] rfl ?_
          exact ih _ _ _ hk
def f_X1_fillPlace (a1 : Int32) (μ : Mm) : Option (Unit × Mm) := lp_X1_fillPlace_2 a1 FU (0 : Int32) μ (fun  μ2 => lp_X1_fillPlace_48 a1 FU (0 : Int32) μ2 (fun  μ10 => some ((), μ10)))
theorem m_X1_fillPlace (g : Gx) (μ : Mm) (a1 : Int32) : Zm g ΛC enV yX1_fillPlace cX1_fillPlace 4 none rX1_fillPlace [.ref (g.2.2.1 17), .int a1] μ (f_X1_fillPlace a1 μ) := by
  refine z_met (by decide +kernel) (Nat.le_of_ble_eq_true rfl) ?_
  change Zw g ΛC enV RX1 cX1_fillPlace 4 none rX1_fillPlace 0 [(0, .ref (g.2.2.1 17)), (1, .int a1)] [] μ (f_X1_fillPlace a1 μ)
  rw [f_X1_fillPlace]
  refine z_iconst (pc := 0) (v := 0) dX1_fillPlace_0 rfl ?_
  refine z_istore_n (pc := 1) (lv2 := [(0, .ref (g.2.2.1 17)), (1, .int a1), (2, .int (0 : Int32))]) [1, 2, 0] dX1_fillPlace_1 rfl (by decide) rfl ?_
  refine w_X1_fillPlace_2 g a1 FU (0 : Int32) μ _ (fun  μ2 => ?_)
  refine z_iconst (pc := 46) (v := 0) dX1_fillPlace_46 rfl ?_
  refine z_istore_n (pc := 47) (lv2 := [(0, .ref (g.2.2.1 17)), (1, .int a1), (2, .int (0 : Int32))]) [1, 2, 0] dX1_fillPlace_47 rfl (by decide) rfl ?_
  refine w_X1_fillPlace_48 g a1 FU (0 : Int32) μ2 _ (fun  μ10 => ?_)
  exact z_vret dX1_fillPlace_120
def lp_X1_traceChosen_4 : Nat → Int32 → Int32 → Mm → (Mm → Option (Unit × Mm)) → Option (Unit × Mm)
  | 0, _, _, _, _ => none
  | n + 1, y1, y2, μ, k => if (μ.1 10 3) ≤ y1 then (k  μ) else (if (40 : Int32) ≤ (μ.1 17 6) then (k  μ) else (if zin ((y1 * (4 : Int32)) + y2) 164 then (if (μ.1 20 (((y1 * (4 : Int32)) + y2).toNatClampNeg)) = (-1 : Int32) then (some ((), μ)) else (if zin (μ.1 17 6) 40 then (bd (f_X0_landingOf y1 (μ.1 20 (((y1 * (4 : Int32)) + y2).toNatClampNeg)) (si (si μ 17 6 ((μ.1 17 6) + (1 : Int32))) 21 ((μ.1 17 6).toNatClampNeg) (μ.1 20 (((y1 * (4 : Int32)) + y2).toNatClampNeg)))) fun r4 μ5 => if zin (μ.1 20 (((y1 * (4 : Int32)) + y2).toNatClampNeg)) 12 then (lp_X1_traceChosen_4 n r4 (μ5.1 2 ((μ.1 20 (((y1 * (4 : Int32)) + y2).toNatClampNeg)).toNatClampNeg)) μ5 k) else none) else none)) else none))
theorem w_X1_traceChosen_4 (g : Gx) : ∀ (n : Nat) (y1 : Int32) (y2 : Int32) (μ : Mm) (k : Mm → Option (Unit × Mm)), (∀ (ν : Mm), Zw g ΛC enV RX1 cX1_traceChosen 4 none rX1_traceChosen 84 [] [] ν (k  ν)) → Zw g ΛC enV RX1 cX1_traceChosen 4 none rX1_traceChosen 4 [(0, .ref (g.2.2.1 17)), (1, .int y1), (2, .int y2)] [] μ (lp_X1_traceChosen_4 n y1 y2 μ k) := by
  intro n
  induction n with
  | zero =>
    intro y1 y2 μ k hk
    exact z_none
  | succ n ih =>
    intro y1 y2 μ k hk
    rw [lp_X1_traceChosen_4]
    refine z_iload_n (pc := 4) 1 dX1_traceChosen_4 rfl rfl ?_
    refine z_aload_n (pc := 5) 0 dX1_traceChosen_5 rfl rfl ?_
    refine z_get (pc := 6) (v := .ref (g.2.2.1 10)) flX1_28 jnX1 ltC_17 kdC_17 rfl (by decide) rfl foC_17_1 rfl dX1_traceChosen_6 ?_
    refine z_get (pc := 9) (v := .int (μ.1 10 3)) flX1_44 jnX0 ltC_10 kdC_10 rfl (by decide) rfl foC_10_3 rfl dX1_traceChosen_9 ?_
    refine z_icmp_ge (pc := 12) (tgt := 84) dX1_traceChosen_12 (by decide) (fun h1 => ?_) (fun h1 => ?_)
    · refine z_sub (lv2 := []) [] rfl ?_
      exact hk _
    · refine z_aload_n (pc := 15) 0 dX1_traceChosen_15 rfl rfl ?_
      refine z_get (pc := 16) (v := .int (μ.1 17 6)) flX1_36 jnX1 ltC_17 kdC_17 rfl (by decide) rfl foC_17_6 rfl dX1_traceChosen_16 ?_
      refine z_aload_n (pc := 19) 0 dX1_traceChosen_19 rfl rfl ?_
      refine z_get (pc := 20) (v := .ref (g.2.2.1 21)) flX1_21 jnX1 ltC_17 kdC_17 rfl (by decide) rfl foC_17_5 rfl dX1_traceChosen_20 ?_
      refine z_alen_i (pc := 23) (v := 40) ltC_21 kdC_21 (by decide +kernel) dX1_traceChosen_23 ?_
      refine z_icmp_ge (pc := 24) (tgt := 84) dX1_traceChosen_24 (by decide) (fun h2 => ?_) (fun h2 => ?_)
      · refine z_sub (lv2 := []) [] rfl ?_
        exact hk _
      · refine z_aload_n (pc := 27) 0 dX1_traceChosen_27 rfl rfl ?_
        refine z_get (pc := 28) (v := .ref (g.2.2.1 20)) flX1_18 jnX1 ltC_17 kdC_17 rfl (by decide) rfl foC_17_4 rfl dX1_traceChosen_28 ?_
        refine z_iload_n (pc := 31) 1 dX1_traceChosen_31 rfl rfl ?_
        refine z_iconst (pc := 32) (v := 4) dX1_traceChosen_32 rfl ?_
        refine z_imul (pc := 33) dX1_traceChosen_33 ?_
        refine z_iload_n (pc := 34) 2 dX1_traceChosen_34 rfl rfl ?_
        refine z_iadd (pc := 35) dX1_traceChosen_35 ?_
        refine z_iaload_g (pc := 36) ltC_20 kdC_20 dX1_traceChosen_36 ?_
        refine z_istore_n (pc := 37) (lv2 := [(0, .ref (g.2.2.1 17)), (1, .int y1), (2, .int y2), (3, .int (μ.1 20 (((y1 * (4 : Int32)) + y2).toNatClampNeg)))]) [1, 2, 3, 0] dX1_traceChosen_37 rfl (by decide) rfl ?_
        refine z_iload_n (pc := 38) 3 dX1_traceChosen_38 rfl rfl ?_
        refine z_iconst (pc := 39) (v := -1) dX1_traceChosen_39 rfl ?_
        refine z_icmp_ne (pc := 40) (tgt := 44) dX1_traceChosen_40 (by decide) (fun h3 => ?_) (fun h3 => ?_)
        · refine z_aload_n (pc := 44) 0 dX1_traceChosen_44 rfl rfl ?_
          refine z_get (pc := 45) (v := .ref (g.2.2.1 21)) flX1_21 jnX1 ltC_17 kdC_17 rfl (by decide) rfl foC_17_5 rfl dX1_traceChosen_45 ?_
          refine z_aload_n (pc := 48) 0 dX1_traceChosen_48 rfl rfl ?_
          refine z_dup (pc := 49) dX1_traceChosen_49 rfl ?_
          refine z_get (pc := 50) (v := .int (μ.1 17 6)) flX1_36 jnX1 ltC_17 kdC_17 rfl (by decide) rfl foC_17_6 rfl dX1_traceChosen_50 ?_
          refine z_dup_x1 (pc := 53) dX1_traceChosen_53 rfl rfl ?_
          refine z_iconst (pc := 54) (v := 1) dX1_traceChosen_54 rfl ?_
          refine z_iadd (pc := 55) dX1_traceChosen_55 ?_
          refine z_puti (x := (0, 0)) (pc := 56) flX1_36 jnX1 tyX1 tyX1_ok nmX1 ltC_17 kdC_17 rfl (by decide) rfl foC_17_6 rfl ⟨rfl, rfl⟩ dX1_traceChosen_56 ?_
          refine z_iload_n (pc := 59) 3 dX1_traceChosen_59 rfl rfl ?_
          refine z_iastore_g (pc := 60) ltC_21 kdC_21 dX1_traceChosen_60 ?_
          refine z_aload_n (pc := 61) 0 dX1_traceChosen_61 rfl rfl ?_
          refine z_get (pc := 62) (v := .ref (g.2.2.1 10)) flX1_28 jnX1 ltC_17 kdC_17 rfl (by decide) rfl foC_17_1 rfl dX1_traceChosen_62 ?_
          refine z_iload_n (pc := 65) 1 dX1_traceChosen_65 rfl rfl ?_
          refine z_iload_n (pc := 66) 3 dX1_traceChosen_66 rfl rfl ?_
          refine z_callV (pc := 67) (b := 10) (As := [.int y1, .int (μ.1 20 (((y1 * (4 : Int32)) + y2).toNatClampNeg))]) (rest := []) kX1_66 (m_X0_landingOf g (si (si μ 17 6 ((μ.1 17 6) + (1 : Int32))) 21 ((μ.1 17 6).toNatClampNeg) (μ.1 20 (((y1 * (4 : Int32)) + y2).toNatClampNeg))) y1 (μ.1 20 (((y1 * (4 : Int32)) + y2).toNatClampNeg))) ltC_10 kdC_10 rfl rfl ⟨rfl, rfl⟩ ⟨Nat.le_of_ble_eq_true rfl, Nat.le_of_ble_eq_true rfl⟩ (Nat.le_of_ble_eq_true rfl) rfl rfl dX1_traceChosen_67 (fun r4 μ5 => ?_)
          change Zw g ΛC enV RX1 cX1_traceChosen 4 none rX1_traceChosen 70 [(0, .ref (g.2.2.1 17)), (1, .int y1), (2, .int y2), (3, .int (μ.1 20 (((y1 * (4 : Int32)) + y2).toNatClampNeg)))] [.int r4] μ5 _
          refine z_istore_n (pc := 70) (lv2 := [(0, .ref (g.2.2.1 17)), (1, .int r4), (2, .int y2), (3, .int (μ.1 20 (((y1 * (4 : Int32)) + y2).toNatClampNeg)))]) [1, 0, 2, 3] dX1_traceChosen_70 rfl (by decide) rfl ?_
          refine z_aload_n (pc := 71) 0 dX1_traceChosen_71 rfl rfl ?_
          refine z_get (pc := 72) (v := .ref (g.2.2.1 1)) flX1_24 jnX1 ltC_17 kdC_17 rfl (by decide) rfl foC_17_0 rfl dX1_traceChosen_72 ?_
          refine z_get (pc := 75) (v := .ref (g.2.2.1 2)) flX1_70 jnX4 ltC_1 kdC_1 rfl (by decide) rfl foC_1_0 rfl dX1_traceChosen_75 ?_
          refine z_iload_n (pc := 78) 3 dX1_traceChosen_78 rfl rfl ?_
          refine z_iaload_g (pc := 79) ltC_2 kdC_2 dX1_traceChosen_79 ?_
          refine z_istore_n (pc := 80) (lv2 := [(0, .ref (g.2.2.1 17)), (1, .int r4), (2, .int (μ5.1 2 ((μ.1 20 (((y1 * (4 : Int32)) + y2).toNatClampNeg)).toNatClampNeg))), (3, .int (μ.1 20 (((y1 * (4 : Int32)) + y2).toNatClampNeg)))]) [1, 2, 0, 3] dX1_traceChosen_80 rfl (by decide) rfl ?_
          refine z_goto (pc := 81) (tgt := 4) dX1_traceChosen_81 (by decide) ?_
          refine z_sub (lv2 := [(0, .ref (g.2.2.1 17)), (1, .int r4), (2, .int (μ5.1 2 ((μ.1 20 (((y1 * (4 : Int32)) + y2).toNatClampNeg)).toNatClampNeg)))]) [0, 1, 2] rfl ?_
          exact ih _ _ _ _ hk
        · exact z_vret dX1_traceChosen_43
def f_X1_traceChosen (μ : Mm) : Option (Unit × Mm) := lp_X1_traceChosen_4 FU (0 : Int32) (0 : Int32) μ (fun  μ6 => some ((), μ6))
theorem m_X1_traceChosen (g : Gx) (μ : Mm) : Zm g ΛC enV yX1_traceChosen cX1_traceChosen 4 none rX1_traceChosen [.ref (g.2.2.1 17)] μ (f_X1_traceChosen μ) := by
  refine z_met (by decide +kernel) (Nat.le_of_ble_eq_true rfl) ?_
  change Zw g ΛC enV RX1 cX1_traceChosen 4 none rX1_traceChosen 0 [(0, .ref (g.2.2.1 17))] [] μ (f_X1_traceChosen μ)
  rw [f_X1_traceChosen]
  refine z_iconst (pc := 0) (v := 0) dX1_traceChosen_0 rfl ?_
  refine z_istore_n (pc := 1) (lv2 := [(0, .ref (g.2.2.1 17)), (1, .int (0 : Int32))]) [1, 0] dX1_traceChosen_1 rfl (by decide) rfl ?_
  refine z_iconst (pc := 2) (v := 0) dX1_traceChosen_2 rfl ?_
  refine z_istore_n (pc := 3) (lv2 := [(0, .ref (g.2.2.1 17)), (1, .int (0 : Int32)), (2, .int (0 : Int32))]) [1, 2, 0] dX1_traceChosen_3 rfl (by decide) rfl ?_
  refine w_X1_traceChosen_4 g FU (0 : Int32) (0 : Int32) μ _ (fun  μ6 => ?_)
  exact z_vret dX1_traceChosen_84
