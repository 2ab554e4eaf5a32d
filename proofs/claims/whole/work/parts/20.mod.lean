def f_X7_bad (μ : Mm) : Option (Int32 × Mm) := some ((-2 : Int32), (si μ 4 0 ((μ.1 4 0) + (1 : Int32))))
theorem m_X7_bad (g : Gx) (μ : Mm) : Zm g ΛM enI yX7_bad cX7_bad 1 (some .int) rX7_bad [.ref (g.2.2.1 0)] μ (f_X7_bad μ) := by
  refine z_met (by decide +kernel) (Nat.le_of_ble_eq_true rfl) ?_
  change Zw g ΛM enI RX7 cX7_bad 1 (some .int) rX7_bad 0 [(0, .ref (g.2.2.1 0))] [] μ (f_X7_bad μ)
  rw [f_X7_bad]
  refine z_aload_n (pc := 0) 0 dX7_bad_0 rfl rfl ?_
  refine z_get (pc := 1) (v := .ref (g.2.2.1 4)) flX7_19 jnX7 ltM_0 kdM_0 rfl (by decide) rfl foM_0_4 rfl dX7_bad_1 ?_
  refine z_iconst (pc := 4) (v := 0) dX7_bad_4 rfl ?_
  refine z_dup2 (pc := 5) dX7_bad_5 rfl rfl ?_
  refine z_iaload (pc := 6) (j := 0) ltM_4 kdM_4 (by decide +kernel) (by decide +kernel) dX7_bad_6 ?_
  refine z_iconst (pc := 7) (v := 1) dX7_bad_7 rfl ?_
  refine z_iadd (pc := 8) dX7_bad_8 ?_
  refine z_iastore (pc := 9) (j := 0) ltM_4 kdM_4 (by decide +kernel) (by decide +kernel) dX7_bad_9 ?_
  refine z_bipush (pc := 10) (v := -2) dX7_bad_10 (by decide +kernel) ?_
  exact z_iret dX7_bad_12
def f_X7_no (μ : Mm) : Option (Int32 × Mm) := some ((-3 : Int32), (si μ 4 1 ((μ.1 4 1) + (1 : Int32))))
theorem m_X7_no (g : Gx) (μ : Mm) : Zm g ΛM enI yX7_no cX7_no 1 (some .int) rX7_no [.ref (g.2.2.1 0)] μ (f_X7_no μ) := by
  refine z_met (by decide +kernel) (Nat.le_of_ble_eq_true rfl) ?_
  change Zw g ΛM enI RX7 cX7_no 1 (some .int) rX7_no 0 [(0, .ref (g.2.2.1 0))] [] μ (f_X7_no μ)
  rw [f_X7_no]
  refine z_aload_n (pc := 0) 0 dX7_no_0 rfl rfl ?_
  refine z_get (pc := 1) (v := .ref (g.2.2.1 4)) flX7_19 jnX7 ltM_0 kdM_0 rfl (by decide) rfl foM_0_4 rfl dX7_no_1 ?_
  refine z_iconst (pc := 4) (v := 1) dX7_no_4 rfl ?_
  refine z_dup2 (pc := 5) dX7_no_5 rfl rfl ?_
  refine z_iaload (pc := 6) (j := 1) ltM_4 kdM_4 (by decide +kernel) (by decide +kernel) dX7_no_6 ?_
  refine z_iconst (pc := 7) (v := 1) dX7_no_7 rfl ?_
  refine z_iadd (pc := 8) dX7_no_8 ?_
  refine z_iastore (pc := 9) (j := 1) ltM_4 kdM_4 (by decide +kernel) (by decide +kernel) dX7_no_9 ?_
  refine z_bipush (pc := 10) (v := -3) dX7_no_10 (by decide +kernel) ?_
  exact z_iret dX7_no_12
def f_X7_full (μ : Mm) : Option (Int32 × Mm) := some ((-4 : Int32), (si μ 4 2 ((μ.1 4 2) + (1 : Int32))))
theorem m_X7_full (g : Gx) (μ : Mm) : Zm g ΛM enI yX7_full cX7_full 1 (some .int) rX7_full [.ref (g.2.2.1 0)] μ (f_X7_full μ) := by
  refine z_met (by decide +kernel) (Nat.le_of_ble_eq_true rfl) ?_
  change Zw g ΛM enI RX7 cX7_full 1 (some .int) rX7_full 0 [(0, .ref (g.2.2.1 0))] [] μ (f_X7_full μ)
  rw [f_X7_full]
  refine z_aload_n (pc := 0) 0 dX7_full_0 rfl rfl ?_
  refine z_get (pc := 1) (v := .ref (g.2.2.1 4)) flX7_19 jnX7 ltM_0 kdM_0 rfl (by decide) rfl foM_0_4 rfl dX7_full_1 ?_
  refine z_iconst (pc := 4) (v := 2) dX7_full_4 rfl ?_
  refine z_dup2 (pc := 5) dX7_full_5 rfl rfl ?_
  refine z_iaload (pc := 6) (j := 2) ltM_4 kdM_4 (by decide +kernel) (by decide +kernel) dX7_full_6 ?_
  refine z_iconst (pc := 7) (v := 1) dX7_full_7 rfl ?_
  refine z_iadd (pc := 8) dX7_full_8 ?_
  refine z_iastore (pc := 9) (j := 2) ltM_4 kdM_4 (by decide +kernel) (by decide +kernel) dX7_full_9 ?_
  refine z_bipush (pc := 10) (v := -4) dX7_full_10 (by decide +kernel) ?_
  exact z_iret dX7_full_12
def f_X7_much (μ : Mm) : Option (Int32 × Mm) := some ((-5 : Int32), (si μ 4 3 ((μ.1 4 3) + (1 : Int32))))
theorem m_X7_much (g : Gx) (μ : Mm) : Zm g ΛM enI yX7_much cX7_much 1 (some .int) rX7_much [.ref (g.2.2.1 0)] μ (f_X7_much μ) := by
  refine z_met (by decide +kernel) (Nat.le_of_ble_eq_true rfl) ?_
  change Zw g ΛM enI RX7 cX7_much 1 (some .int) rX7_much 0 [(0, .ref (g.2.2.1 0))] [] μ (f_X7_much μ)
  rw [f_X7_much]
  refine z_aload_n (pc := 0) 0 dX7_much_0 rfl rfl ?_
  refine z_get (pc := 1) (v := .ref (g.2.2.1 4)) flX7_19 jnX7 ltM_0 kdM_0 rfl (by decide) rfl foM_0_4 rfl dX7_much_1 ?_
  refine z_iconst (pc := 4) (v := 3) dX7_much_4 rfl ?_
  refine z_dup2 (pc := 5) dX7_much_5 rfl rfl ?_
  refine z_iaload (pc := 6) (j := 3) ltM_4 kdM_4 (by decide +kernel) (by decide +kernel) dX7_much_6 ?_
  refine z_iconst (pc := 7) (v := 1) dX7_much_7 rfl ?_
  refine z_iadd (pc := 8) dX7_much_8 ?_
  refine z_iastore (pc := 9) (j := 3) ltM_4 kdM_4 (by decide +kernel) (by decide +kernel) dX7_much_9 ?_
  refine z_bipush (pc := 10) (v := -5) dX7_much_10 (by decide +kernel) ?_
  exact z_iret dX7_much_12
def f_X7_within (a0 : Int64) (a2 : Int64) (a4 : Int64) (μ : Mm) : Option (Int32 × Mm) := if a0 < a2 then (some ((0 : Int32), μ)) else (if a4 < a0 then (some ((0 : Int32), μ)) else (some ((1 : Int32), μ)))
theorem m_X7_within (g : Gx) (μ : Mm) (a0 : Int64) (a2 : Int64) (a4 : Int64) : Zm g ΛM enI yX7_within cX7_within 6 (some .boolean) rX7_within [.long a0, .long a2, .long a4] μ (f_X7_within a0 a2 a4 μ) := by
  refine z_met (by decide +kernel) (Nat.le_of_ble_eq_true rfl) ?_
  change Zw g ΛM enI RX7 cX7_within 6 (some .boolean) rX7_within 0 [(0, .long a0), (2, .long a2), (4, .long a4)] [] μ (f_X7_within a0 a2 a4 μ)
  rw [f_X7_within]
  refine z_lload_n (pc := 0) 0 dX7_within_0 rfl rfl ?_
  refine z_lload_n (pc := 1) 1 dX7_within_1 rfl rfl ?_
  refine z_lcmp_lt (pc := 2) (tgt := 17) dX7_within_2 dX7_within_3 (by decide) (fun h1 => ?_) (fun h1 => ?_)
  · refine z_iconst (pc := 17) (v := 0) dX7_within_17 rfl ?_
    exact z_zret dX7_within_18 (by decide)
  · refine z_lload_n (pc := 6) 0 dX7_within_6 rfl rfl ?_
    refine z_lload (pc := 7) 2 dX7_within_7 rfl ?_
    refine z_lcmp_gt (pc := 9) (tgt := 17) dX7_within_9 dX7_within_10 (by decide) (fun h2 => ?_) (fun h2 => ?_)
    · refine z_iconst (pc := 17) (v := 0) dX7_within_17 rfl ?_
      exact z_zret dX7_within_18 (by decide)
    · refine z_iconst (pc := 13) (v := 1) dX7_within_13 rfl ?_
      refine z_goto (pc := 14) (tgt := 18) dX7_within_14 (by decide) ?_
      exact z_zret dX7_within_18 (by decide)
def f_X7_has (a0 : Int32) (a1 : Int32) (μ : Mm) : Option (Int32 × Mm) := if ((a0 >>> (a1 &&& 31)) &&& (1 : Int32)) = (1 : Int32) then (some ((1 : Int32), μ)) else (some ((0 : Int32), μ))
theorem m_X7_has (g : Gx) (μ : Mm) (a0 : Int32) (a1 : Int32) : Zm g ΛM enI yX7_has cX7_has 2 (some .boolean) rX7_has [.int a0, .int a1] μ (f_X7_has a0 a1 μ) := by
  refine z_met (by decide +kernel) (Nat.le_of_ble_eq_true rfl) ?_
  change Zw g ΛM enI RX7 cX7_has 2 (some .boolean) rX7_has 0 [(0, .int a0), (1, .int a1)] [] μ (f_X7_has a0 a1 μ)
  rw [f_X7_has]
  refine z_iload_n (pc := 0) 0 dX7_has_0 rfl rfl ?_
  refine z_iload_n (pc := 1) 1 dX7_has_1 rfl rfl ?_
  refine z_ishr (pc := 2) dX7_has_2 ?_
  refine z_iconst (pc := 3) (v := 1) dX7_has_3 rfl ?_
  refine z_iand (pc := 4) dX7_has_4 ?_
  refine z_iconst (pc := 5) (v := 1) dX7_has_5 rfl ?_
  refine z_icmp_ne (pc := 6) (tgt := 13) dX7_has_6 (by decide) (fun h1 => ?_) (fun h1 => ?_)
  · refine z_iconst (pc := 13) (v := 0) dX7_has_13 rfl ?_
    exact z_zret dX7_has_14 (by decide)
  · refine z_iconst (pc := 9) (v := 1) dX7_has_9 rfl ?_
    refine z_goto (pc := 10) (tgt := 14) dX7_has_10 (by decide) ?_
    exact z_zret dX7_has_14 (by decide)
def f_X7_isPhrase (a1 : Int32) (μ : Mm) : Option (Int32 × Mm) := bd (f_X7_within a1.toInt64 (0 : Int64) (((μ.1 1 0) - (1 : Int32)).toInt64) μ) fun r1 μ2 => if r1 = 0 ∨ r1 = 1 then some (r1, μ2) else none
theorem m_X7_isPhrase (g : Gx) (μ : Mm) (a1 : Int32) : Zm g ΛM enI yX7_isPhrase cX7_isPhrase 2 (some .boolean) rX7_isPhrase [.ref (g.2.2.1 0), .int a1] μ (f_X7_isPhrase a1 μ) := by
  refine z_met (by decide +kernel) (Nat.le_of_ble_eq_true rfl) ?_
  change Zw g ΛM enI RX7 cX7_isPhrase 2 (some .boolean) rX7_isPhrase 0 [(0, .ref (g.2.2.1 0)), (1, .int a1)] [] μ (f_X7_isPhrase a1 μ)
  rw [f_X7_isPhrase]
  refine z_iload_n (pc := 0) 1 dX7_isPhrase_0 rfl rfl ?_
  refine z_i2l (pc := 1) dX7_isPhrase_1 ?_
  refine z_lconst (pc := 2) (v := 0) dX7_isPhrase_2 (by decide +kernel) ?_
  refine z_aload_n (pc := 3) 0 dX7_isPhrase_3 rfl rfl ?_
  refine z_get (pc := 4) (v := .ref (g.2.2.1 1)) flX7_7 jnX7 ltM_0 kdM_0 rfl (by decide) rfl foM_0_0 rfl dX7_isPhrase_4 ?_
  refine z_iconst (pc := 7) (v := 0) dX7_isPhrase_7 rfl ?_
  refine z_iaload (pc := 8) (j := 0) ltM_1 kdM_1 (by decide +kernel) (by decide +kernel) dX7_isPhrase_8 ?_
  refine z_iconst (pc := 9) (v := 1) dX7_isPhrase_9 rfl ?_
  refine z_isub (pc := 10) dX7_isPhrase_10 ?_
  refine z_i2l (pc := 11) dX7_isPhrase_11 ?_
  refine z_callS (pc := 12) (As := [.long a1.toInt64, .long (0 : Int64), .long (((μ.1 1 0) - (1 : Int32)).toInt64)]) (rest := []) kX7_47 (m_X7_within g μ a1.toInt64 (0 : Int64) (((μ.1 1 0) - (1 : Int32)).toInt64)) ⟨rfl, rfl⟩ ⟨Nat.le_of_ble_eq_true rfl, Nat.le_of_ble_eq_true rfl⟩ (Nat.le_of_ble_eq_true rfl) rfl rfl dX7_isPhrase_12 (fun r1 μ2 => ?_)
  change Zw g ΛM enI RX7 cX7_isPhrase 2 (some .boolean) rX7_isPhrase 15 [(0, .ref (g.2.2.1 0)), (1, .int a1)] [.int r1] μ2 _
  exact z_zret_g dX7_isPhrase_15
def lp_X7_laysAside_2 : Nat → Int32 → Mm → (Mm → Option (Unit × Mm)) → Option (Unit × Mm)
  | 0, _, _, _ => none
  | n + 1, y1, μ, k => if (148 : Int32) ≤ y1 then (k  μ) else (if zin y1 148 then (if zin y1 148 then (lp_X7_laysAside_2 n (y1 + 1) (si μ 2 y1.toNatClampNeg (μ.1 1 y1.toNatClampNeg)) k) else none) else none)
theorem w_X7_laysAside_2 (g : Gx) : ∀ (n : Nat) (y1 : Int32) (μ : Mm) (k : Mm → Option (Unit × Mm)), (∀ (ν : Mm), Zw g ΛM enV RX7 cX7_laysAside 2 none rX7_laysAside 27 [] [] ν (k  ν)) → Zw g ΛM enV RX7 cX7_laysAside 2 none rX7_laysAside 2 [(0, .ref (g.2.2.1 0)), (1, .int y1)] [] μ (lp_X7_laysAside_2 n y1 μ k) := by
  intro n
  induction n with
  | zero =>
    intro y1 μ k hk
    exact z_none
  | succ n ih =>
    intro y1 μ k hk
    rw [lp_X7_laysAside_2]
    refine z_iload_n (pc := 2) 1 dX7_laysAside_2 rfl rfl ?_
    refine z_sipush (pc := 3) (v := 148) dX7_laysAside_3 (by decide +kernel) ?_
    refine z_icmp_ge (pc := 6) (tgt := 27) dX7_laysAside_6 (by decide) (fun h1 => ?_) (fun h1 => ?_)
    · refine z_sub (lv2 := []) [] rfl ?_
      exact hk _
    · refine z_aload_n (pc := 9) 0 dX7_laysAside_9 rfl rfl ?_
      refine z_get (pc := 10) (v := .ref (g.2.2.1 2)) flX7_13 jnX7 ltM_0 kdM_0 rfl (by decide) rfl foM_0_1 rfl dX7_laysAside_10 ?_
      refine z_iload_n (pc := 13) 1 dX7_laysAside_13 rfl rfl ?_
      refine z_aload_n (pc := 14) 0 dX7_laysAside_14 rfl rfl ?_
      refine z_get (pc := 15) (v := .ref (g.2.2.1 1)) flX7_7 jnX7 ltM_0 kdM_0 rfl (by decide) rfl foM_0_0 rfl dX7_laysAside_15 ?_
      refine z_iload_n (pc := 18) 1 dX7_laysAside_18 rfl rfl ?_
      refine z_iaload_g (pc := 19) ltM_1 kdM_1 dX7_laysAside_19 ?_
      refine z_iastore_g (pc := 20) ltM_2 kdM_2 dX7_laysAside_20 ?_
      refine z_iinc (pc := 21) (v := y1 + 1) (lv2 := [(0, .ref (g.2.2.1 0)), (1, .int (y1 + 1))]) 1 [1, 0] dX7_laysAside_21 rfl (by rw [oi_1]) (by decide) rfl ?_
      refine z_goto (pc := 24) (tgt := 2) dX7_laysAside_24 (by decide) ?_
      exact ih _ _ _ hk
def f_X7_laysAside (μ : Mm) : Option (Unit × Mm) := lp_X7_laysAside_2 FU (0 : Int32) μ (fun  μ2 => some ((), μ2))
theorem m_X7_laysAside (g : Gx) (μ : Mm) : Zm g ΛM enV yX7_laysAside cX7_laysAside 2 none rX7_laysAside [.ref (g.2.2.1 0)] μ (f_X7_laysAside μ) := by
  refine z_met (by decide +kernel) (Nat.le_of_ble_eq_true rfl) ?_
  change Zw g ΛM enV RX7 cX7_laysAside 2 none rX7_laysAside 0 [(0, .ref (g.2.2.1 0))] [] μ (f_X7_laysAside μ)
  rw [f_X7_laysAside]
  refine z_iconst (pc := 0) (v := 0) dX7_laysAside_0 rfl ?_
  refine z_istore_n (pc := 1) (lv2 := [(0, .ref (g.2.2.1 0)), (1, .int (0 : Int32))]) [1, 0] dX7_laysAside_1 rfl (by decide) rfl ?_
  refine w_X7_laysAside_2 g FU (0 : Int32) μ _ (fun  μ2 => ?_)
  exact z_vret dX7_laysAside_27
def lp_X7_leaves_51 : Nat → Int32 → Mm → (Mm → Option (Unit × Mm)) → Option (Unit × Mm)
  | 0, _, _, _ => none
  | n + 1, y1, μ, k => if (148 : Int32) ≤ y1 then (k  μ) else (if zin y1 148 then (if zin (((148 : Int32) * (μ.1 0 3)) + y1) 740 then (lp_X7_leaves_51 n (y1 + 1) (si μ 3 ((((148 : Int32) * (μ.1 0 3)) + y1).toNatClampNeg) (μ.1 2 y1.toNatClampNeg)) k) else none) else none)
theorem w_X7_leaves_51 (g : Gx) : ∀ (n : Nat) (y1 : Int32) (μ : Mm) (k : Mm → Option (Unit × Mm)), (∀ (ν : Mm), Zw g ΛM enV RX7 cX7_leaves 2 none rX7_leaves 85 [(0, .ref (g.2.2.1 0))] [] ν (k  ν)) → Zw g ΛM enV RX7 cX7_leaves 2 none rX7_leaves 51 [(0, .ref (g.2.2.1 0)), (1, .int y1)] [] μ (lp_X7_leaves_51 n y1 μ k) := by
  intro n
  induction n with
  | zero =>
    intro y1 μ k hk
    exact z_none
  | succ n ih =>
    intro y1 μ k hk
    rw [lp_X7_leaves_51]
    refine z_iload_n (pc := 51) 1 dX7_leaves_51 rfl rfl ?_
    refine z_sipush (pc := 52) (v := 148) dX7_leaves_52 (by decide +kernel) ?_
    refine z_icmp_ge (pc := 55) (tgt := 85) dX7_leaves_55 (by decide) (fun h2 => ?_) (fun h2 => ?_)
    · refine z_sub (lv2 := [(0, .ref (g.2.2.1 0))]) [0] rfl ?_
      exact hk _
    · refine z_aload_n (pc := 58) 0 dX7_leaves_58 rfl rfl ?_
      refine z_get (pc := 59) (v := .ref (g.2.2.1 3)) flX7_16 jnX7 ltM_0 kdM_0 rfl (by decide) rfl foM_0_2 rfl dX7_leaves_59 ?_
      refine z_sipush (pc := 62) (v := 148) dX7_leaves_62 (by decide +kernel) ?_
      refine z_aload_n (pc := 65) 0 dX7_leaves_65 rfl rfl ?_
      refine z_get (pc := 66) (v := .int (μ.1 0 3)) flX7_51 jnX7 ltM_0 kdM_0 rfl (by decide) rfl foM_0_3 rfl dX7_leaves_66 ?_
      refine z_imul (pc := 69) dX7_leaves_69 ?_
      refine z_iload_n (pc := 70) 1 dX7_leaves_70 rfl rfl ?_
      refine z_iadd (pc := 71) dX7_leaves_71 ?_
      refine z_aload_n (pc := 72) 0 dX7_leaves_72 rfl rfl ?_
      refine z_get (pc := 73) (v := .ref (g.2.2.1 2)) flX7_13 jnX7 ltM_0 kdM_0 rfl (by decide) rfl foM_0_1 rfl dX7_leaves_73 ?_
      refine z_iload_n (pc := 76) 1 dX7_leaves_76 rfl rfl ?_
      refine z_iaload_g (pc := 77) ltM_2 kdM_2 dX7_leaves_77 ?_
      refine z_iastore_g (pc := 78) ltM_3 kdM_3 dX7_leaves_78 ?_
      refine z_iinc (pc := 79) (v := y1 + 1) (lv2 := [(0, .ref (g.2.2.1 0)), (1, .int (y1 + 1))]) 1 [1, 0] dX7_leaves_79 rfl (by rw [oi_1]) (by decide) rfl ?_
      refine z_goto (pc := 82) (tgt := 51) dX7_leaves_82 (by decide) ?_
      exact ih _ _ _ hk
def lp_X7_leaves_10 : Nat → Int32 → Mm → (Mm → Option (Unit × Mm)) → Option (Unit × Mm)
  | 0, _, _, _ => none
  | n + 1, y1, μ, k => if (592 : Int32) ≤ y1 then (k  μ) else (if zin (y1 + (148 : Int32)) 740 then (if zin y1 740 then (lp_X7_leaves_10 n (y1 + 1) (si μ 3 y1.toNatClampNeg (μ.1 3 ((y1 + (148 : Int32)).toNatClampNeg))) k) else none) else none)
theorem w_X7_leaves_10 (g : Gx) : ∀ (n : Nat) (y1 : Int32) (μ : Mm) (k : Mm → Option (Unit × Mm)), (∀ (ν : Mm), Zw g ΛM enV RX7 cX7_leaves 2 none rX7_leaves 39 [(0, .ref (g.2.2.1 0))] [] ν (k  ν)) → Zw g ΛM enV RX7 cX7_leaves 2 none rX7_leaves 10 [(0, .ref (g.2.2.1 0)), (1, .int y1)] [] μ (lp_X7_leaves_10 n y1 μ k) := by
  intro n
  induction n with
  | zero =>
    intro y1 μ k hk
    exact z_none
  | succ n ih =>
    intro y1 μ k hk
    rw [lp_X7_leaves_10]
    refine z_iload_n (pc := 10) 1 dX7_leaves_10 rfl rfl ?_
    refine z_sipush (pc := 11) (v := 592) dX7_leaves_11 (by decide +kernel) ?_
    refine z_icmp_ge (pc := 14) (tgt := 39) dX7_leaves_14 (by decide) (fun h4 => ?_) (fun h4 => ?_)
    · refine z_sub (lv2 := [(0, .ref (g.2.2.1 0))]) [0] rfl ?_
      exact hk _
    · refine z_aload_n (pc := 17) 0 dX7_leaves_17 rfl rfl ?_
      refine z_get (pc := 18) (v := .ref (g.2.2.1 3)) flX7_16 jnX7 ltM_0 kdM_0 rfl (by decide) rfl foM_0_2 rfl dX7_leaves_18 ?_
      refine z_iload_n (pc := 21) 1 dX7_leaves_21 rfl rfl ?_
      refine z_aload_n (pc := 22) 0 dX7_leaves_22 rfl rfl ?_
      refine z_get (pc := 23) (v := .ref (g.2.2.1 3)) flX7_16 jnX7 ltM_0 kdM_0 rfl (by decide) rfl foM_0_2 rfl dX7_leaves_23 ?_
      refine z_iload_n (pc := 26) 1 dX7_leaves_26 rfl rfl ?_
      refine z_sipush (pc := 27) (v := 148) dX7_leaves_27 (by decide +kernel) ?_
      refine z_iadd (pc := 30) dX7_leaves_30 ?_
      refine z_iaload_g (pc := 31) ltM_3 kdM_3 dX7_leaves_31 ?_
      refine z_iastore_g (pc := 32) ltM_3 kdM_3 dX7_leaves_32 ?_
      refine z_iinc (pc := 33) (v := y1 + 1) (lv2 := [(0, .ref (g.2.2.1 0)), (1, .int (y1 + 1))]) 1 [1, 0] dX7_leaves_33 rfl (by rw [oi_1]) (by decide) rfl ?_
      refine z_goto (pc := 36) (tgt := 10) dX7_leaves_36 (by decide) ?_
      exact ih _ _ _ hk
def f_X7_leaves (μ : Mm) : Option (Unit × Mm) := if (μ.1 0 3) = (5 : Int32) then (lp_X7_leaves_10 FU (0 : Int32) μ (fun  μ5 => lp_X7_leaves_51 FU (0 : Int32) (si μ5 0 3 ((μ5.1 0 3) - (1 : Int32))) (fun  μ6 => some ((), (si μ6 0 3 ((μ6.1 0 3) + (1 : Int32))))))) else (lp_X7_leaves_51 FU (0 : Int32) μ (fun  μ3 => some ((), (si μ3 0 3 ((μ3.1 0 3) + (1 : Int32))))))
theorem m_X7_leaves (g : Gx) (μ : Mm) : Zm g ΛM enV yX7_leaves cX7_leaves 2 none rX7_leaves [.ref (g.2.2.1 0)] μ (f_X7_leaves μ) := by
  refine z_met (by decide +kernel) (Nat.le_of_ble_eq_true rfl) ?_
  change Zw g ΛM enV RX7 cX7_leaves 2 none rX7_leaves 0 [(0, .ref (g.2.2.1 0))] [] μ (f_X7_leaves μ)
  rw [f_X7_leaves]
  refine z_aload_n (pc := 0) 0 dX7_leaves_0 rfl rfl ?_
  refine z_get (pc := 1) (v := .int (μ.1 0 3)) flX7_51 jnX7 ltM_0 kdM_0 rfl (by decide) rfl foM_0_3 rfl dX7_leaves_1 ?_
  refine z_iconst (pc := 4) (v := 5) dX7_leaves_4 rfl ?_
  refine z_icmp_ne (pc := 5) (tgt := 49) dX7_leaves_5 (by decide) (fun h1 => ?_) (fun h1 => ?_)
  · refine z_iconst (pc := 49) (v := 0) dX7_leaves_49 rfl ?_
    refine z_istore_n (pc := 50) (lv2 := [(0, .ref (g.2.2.1 0)), (1, .int (0 : Int32))]) [1, 0] dX7_leaves_50 rfl (by decide) rfl ?_
    refine w_X7_leaves_51 g FU (0 : Int32) μ _ (fun  μ3 => ?_)
    refine z_aload_n (pc := 85) 0 dX7_leaves_85 rfl rfl ?_
    refine z_dup (pc := 86) dX7_leaves_86 rfl ?_
    refine z_get (pc := 87) (v := .int (μ3.1 0 3)) flX7_51 jnX7 ltM_0 kdM_0 rfl (by decide) rfl foM_0_3 rfl dX7_leaves_87 ?_
    refine z_iconst (pc := 90) (v := 1) dX7_leaves_90 rfl ?_
    refine z_iadd (pc := 91) dX7_leaves_91 ?_
    refine z_puti (x := (0, 0)) (pc := 92) flX7_51 jnX7 tyX7 tyX7_ok nmX7 ltM_0 kdM_0 rfl (by decide) rfl foM_0_3 rfl ⟨rfl, rfl⟩ dX7_leaves_92 ?_
    exact z_vret dX7_leaves_95
  · refine z_iconst (pc := 8) (v := 0) dX7_leaves_8 rfl ?_
    refine z_istore_n (pc := 9) (lv2 := [(0, .ref (g.2.2.1 0)), (1, .int (0 : Int32))]) [1, 0] dX7_leaves_9 rfl (by decide) rfl ?_
    refine w_X7_leaves_10 g FU (0 : Int32) μ _ (fun  μ5 => ?_)
    refine z_aload_n (pc := 39) 0 dX7_leaves_39 rfl rfl ?_
    refine z_dup (pc := 40) dX7_leaves_40 rfl ?_
    refine z_get (pc := 41) (v := .int (μ5.1 0 3)) flX7_51 jnX7 ltM_0 kdM_0 rfl (by decide) rfl foM_0_3 rfl dX7_leaves_41 ?_
    refine z_iconst (pc := 44) (v := 1) dX7_leaves_44 rfl ?_
    refine z_isub (pc := 45) dX7_leaves_45 ?_
    refine z_puti (x := (0, 0)) (pc := 46) flX7_51 jnX7 tyX7 tyX7_ok nmX7 ltM_0 kdM_0 rfl (by decide) rfl foM_0_3 rfl ⟨rfl, rfl⟩ dX7_leaves_46 ?_
    refine z_iconst (pc := 49) (v := 0) dX7_leaves_49 rfl ?_
    refine z_istore_n (pc := 50) (lv2 := [(0, .ref (g.2.2.1 0)), (1, .int (0 : Int32))]) [1, 0] dX7_leaves_50 rfl (by decide) rfl ?_
    refine w_X7_leaves_51 g FU (0 : Int32) (si μ5 0 3 ((μ5.1 0 3) - (1 : Int32))) _ (fun  μ6 => ?_)
    refine z_aload_n (pc := 85) 0 dX7_leaves_85 rfl rfl ?_
    refine z_dup (pc := 86) dX7_leaves_86 rfl ?_
    refine z_get (pc := 87) (v := .int (μ6.1 0 3)) flX7_51 jnX7 ltM_0 kdM_0 rfl (by decide) rfl foM_0_3 rfl dX7_leaves_87 ?_
    refine z_iconst (pc := 90) (v := 1) dX7_leaves_90 rfl ?_
    refine z_iadd (pc := 91) dX7_leaves_91 ?_
    refine z_puti (x := (0, 0)) (pc := 92) flX7_51 jnX7 tyX7 tyX7_ok nmX7 ltM_0 kdM_0 rfl (by decide) rfl foM_0_3 rfl ⟨rfl, rfl⟩ dX7_leaves_92 ?_
    exact z_vret dX7_leaves_95
def lp_X7_back_24 : Nat → Int32 → Mm → (Mm → Option (Int32 × Mm)) → Option (Int32 × Mm)
  | 0, _, _, _ => none
  | n + 1, y1, μ, k => if (148 : Int32) ≤ y1 then (k  μ) else (if zin (((148 : Int32) * (μ.1 0 3)) + y1) 740 then (if zin y1 148 then (lp_X7_back_24 n (y1 + 1) (si μ 1 y1.toNatClampNeg (μ.1 3 ((((148 : Int32) * (μ.1 0 3)) + y1).toNatClampNeg))) k) else none) else none)
theorem w_X7_back_24 (g : Gx) : ∀ (n : Nat) (y1 : Int32) (μ : Mm) (k : Mm → Option (Int32 × Mm)), (∀ (ν : Mm), Zw g ΛM enI RX7 cX7_back 2 (some .int) rX7_back 58 [(0, .ref (g.2.2.1 0))] [] ν (k  ν)) → Zw g ΛM enI RX7 cX7_back 2 (some .int) rX7_back 24 [(0, .ref (g.2.2.1 0)), (1, .int y1)] [] μ (lp_X7_back_24 n y1 μ k) := by
  intro n
  induction n with
  | zero =>
    intro y1 μ k hk
    exact z_none
  | succ n ih =>
    intro y1 μ k hk
    rw [lp_X7_back_24]
    refine z_iload_n (pc := 24) 1 dX7_back_24 rfl rfl ?_
    refine z_sipush (pc := 25) (v := 148) dX7_back_25 (by decide +kernel) ?_
    refine z_icmp_ge (pc := 28) (tgt := 58) dX7_back_28 (by decide) (fun h2 => ?_) (fun h2 => ?_)
    · refine z_sub (lv2 := [(0, .ref (g.2.2.1 0))]) [0] rfl ?_
      exact hk _
    · refine z_aload_n (pc := 31) 0 dX7_back_31 rfl rfl ?_
      refine z_get (pc := 32) (v := .ref (g.2.2.1 1)) flX7_7 jnX7 ltM_0 kdM_0 rfl (by decide) rfl foM_0_0 rfl dX7_back_32 ?_
      refine z_iload_n (pc := 35) 1 dX7_back_35 rfl rfl ?_
      refine z_aload_n (pc := 36) 0 dX7_back_36 rfl rfl ?_
      refine z_get (pc := 37) (v := .ref (g.2.2.1 3)) flX7_16 jnX7 ltM_0 kdM_0 rfl (by decide) rfl foM_0_2 rfl dX7_back_37 ?_
      refine z_sipush (pc := 40) (v := 148) dX7_back_40 (by decide +kernel) ?_
      refine z_aload_n (pc := 43) 0 dX7_back_43 rfl rfl ?_
      refine z_get (pc := 44) (v := .int (μ.1 0 3)) flX7_51 jnX7 ltM_0 kdM_0 rfl (by decide) rfl foM_0_3 rfl dX7_back_44 ?_
      refine z_imul (pc := 47) dX7_back_47 ?_
      refine z_iload_n (pc := 48) 1 dX7_back_48 rfl rfl ?_
      refine z_iadd (pc := 49) dX7_back_49 ?_
      refine z_iaload_g (pc := 50) ltM_3 kdM_3 dX7_back_50 ?_
      refine z_iastore_g (pc := 51) ltM_1 kdM_1 dX7_back_51 ?_
      refine z_iinc (pc := 52) (v := y1 + 1) (lv2 := [(0, .ref (g.2.2.1 0)), (1, .int (y1 + 1))]) 1 [1, 0] dX7_back_52 rfl (by rw [oi_1]) (by decide) rfl ?_
      refine z_goto (pc := 55) (tgt := 24) dX7_back_55 (by decide) ?_
      exact ih _ _ _ hk
def f_X7_back (μ : Mm) : Option (Int32 × Mm) := if (μ.1 0 3) = 0 then (bd (f_X7_no μ) fun r4 μ5 => some (r4, μ5)) else (lp_X7_back_24 FU (0 : Int32) (si μ 0 3 ((μ.1 0 3) - (1 : Int32))) (fun  μ3 => some (μ3.1 0 3, μ3)))
theorem m_X7_back (g : Gx) (μ : Mm) : Zm g ΛM enI yX7_back cX7_back 2 (some .int) rX7_back [.ref (g.2.2.1 0)] μ (f_X7_back μ) := by
  refine z_met (by decide +kernel) (Nat.le_of_ble_eq_true rfl) ?_
  change Zw g ΛM enI RX7 cX7_back 2 (some .int) rX7_back 0 [(0, .ref (g.2.2.1 0))] [] μ (f_X7_back μ)
  rw [f_X7_back]
  refine z_aload_n (pc := 0) 0 dX7_back_0 rfl rfl ?_
  refine z_get (pc := 1) (v := .int (μ.1 0 3)) flX7_51 jnX7 ltM_0 kdM_0 rfl (by decide) rfl foM_0_3 rfl dX7_back_1 ?_
  refine z_if_ne (pc := 4) (tgt := 12) dX7_back_4 (by decide) (fun h1 => ?_) (fun h1 => ?_)
  · refine z_aload_n (pc := 12) 0 dX7_back_12 rfl rfl ?_
    refine z_dup (pc := 13) dX7_back_13 rfl ?_
    refine z_get (pc := 14) (v := .int (μ.1 0 3)) flX7_51 jnX7 ltM_0 kdM_0 rfl (by decide) rfl foM_0_3 rfl dX7_back_14 ?_
    refine z_iconst (pc := 17) (v := 1) dX7_back_17 rfl ?_
    refine z_isub (pc := 18) dX7_back_18 ?_
    refine z_puti (x := (0, 0)) (pc := 19) flX7_51 jnX7 tyX7 tyX7_ok nmX7 ltM_0 kdM_0 rfl (by decide) rfl foM_0_3 rfl ⟨rfl, rfl⟩ dX7_back_19 ?_
    refine z_iconst (pc := 22) (v := 0) dX7_back_22 rfl ?_
    refine z_istore_n (pc := 23) (lv2 := [(0, .ref (g.2.2.1 0)), (1, .int (0 : Int32))]) [1, 0] dX7_back_23 rfl (by decide) rfl ?_
    refine w_X7_back_24 g FU (0 : Int32) (si μ 0 3 ((μ.1 0 3) - (1 : Int32))) _ (fun  μ3 => ?_)
    refine z_aload_n (pc := 58) 0 dX7_back_58 rfl rfl ?_
    refine z_get (pc := 59) (v := .int (μ3.1 0 3)) flX7_51 jnX7 ltM_0 kdM_0 rfl (by decide) rfl foM_0_3 rfl dX7_back_59 ?_
    exact z_iret dX7_back_62
  · refine z_aload_n (pc := 7) 0 dX7_back_7 rfl rfl ?_
    refine z_callV (pc := 8) (b := 0) (As := []) (rest := []) kX7_55 (m_X7_no g μ) ltM_0 kdM_0 rfl rfl ⟨rfl, rfl⟩ ⟨Nat.le_of_ble_eq_true rfl, Nat.le_of_ble_eq_true rfl⟩ (Nat.le_of_ble_eq_true rfl) rfl rfl dX7_back_8 (fun r4 μ5 => ?_)
    change Zw g ΛM enI RX7 cX7_back 2 (some .int) rX7_back 11 [(0, .ref (g.2.2.1 0))] [.int r4] μ5 _
    exact z_iret dX7_back_11
def f_X7_answers (a1 : Int32) (μ : Mm) : Option (Int32 × Mm) := if a1 < 0 then (if a1 = (-3 : Int32) then (bd (f_X7_no μ) fun r8 μ9 => some (r8, μ9)) else (if a1 = (-4 : Int32) then (bd (f_X7_full μ) fun r6 μ7 => some (r6, μ7)) else (bd (f_X7_bad μ) fun r4 μ5 => some (r4, μ5)))) else (bd (f_X7_leaves μ) fun r10 μ11 => some (a1, μ11))
theorem m_X7_answers (g : Gx) (μ : Mm) (a1 : Int32) : Zm g ΛM enI yX7_answers cX7_answers 2 (some .int) rX7_answers [.ref (g.2.2.1 0), .int a1] μ (f_X7_answers a1 μ) := by
  refine z_met (by decide +kernel) (Nat.le_of_ble_eq_true rfl) ?_
  change Zw g ΛM enI RX7 cX7_answers 2 (some .int) rX7_answers 0 [(0, .ref (g.2.2.1 0)), (1, .int a1)] [] μ (f_X7_answers a1 μ)
  rw [f_X7_answers]
  refine z_iload_n (pc := 0) 1 dX7_answers_0 rfl rfl ?_
  refine z_if_lt (pc := 1) (tgt := 10) dX7_answers_1 (by decide) (fun h1 => ?_) (fun h1 => ?_)
  · refine z_iload_n (pc := 10) 1 dX7_answers_10 rfl rfl ?_
    refine z_bipush (pc := 11) (v := -3) dX7_answers_11 (by decide +kernel) ?_
    refine z_icmp_ne (pc := 13) (tgt := 23) dX7_answers_13 (by decide) (fun h2 => ?_) (fun h2 => ?_)
    · refine z_iload_n (pc := 23) 1 dX7_answers_23 rfl rfl ?_
      refine z_bipush (pc := 24) (v := -4) dX7_answers_24 (by decide +kernel) ?_
      refine z_icmp_ne (pc := 26) (tgt := 36) dX7_answers_26 (by decide) (fun h3 => ?_) (fun h3 => ?_)
      · refine z_aload_n (pc := 36) 0 dX7_answers_36 rfl rfl ?_
        refine z_callV (pc := 37) (b := 0) (As := []) (rest := []) kX7_65 (m_X7_bad g μ) ltM_0 kdM_0 rfl rfl ⟨rfl, rfl⟩ ⟨Nat.le_of_ble_eq_true rfl, Nat.le_of_ble_eq_true rfl⟩ (Nat.le_of_ble_eq_true rfl) rfl rfl dX7_answers_37 (fun r4 μ5 => ?_)
        change Zw g ΛM enI RX7 cX7_answers 2 (some .int) rX7_answers 40 [(0, .ref (g.2.2.1 0)), (1, .int a1)] [.int r4] μ5 _
        exact z_iret dX7_answers_40
      · refine z_aload_n (pc := 29) 0 dX7_answers_29 rfl rfl ?_
        refine z_callV (pc := 30) (b := 0) (As := []) (rest := []) kX7_62 (m_X7_full g μ) ltM_0 kdM_0 rfl rfl ⟨rfl, rfl⟩ ⟨Nat.le_of_ble_eq_true rfl, Nat.le_of_ble_eq_true rfl⟩ (Nat.le_of_ble_eq_true rfl) rfl rfl dX7_answers_30 (fun r6 μ7 => ?_)
        change Zw g ΛM enI RX7 cX7_answers 2 (some .int) rX7_answers 33 [(0, .ref (g.2.2.1 0)), (1, .int a1)] [.int r6] μ7 _
        refine z_goto (pc := 33) (tgt := 40) dX7_answers_33 (by decide) ?_
        exact z_iret dX7_answers_40
    · refine z_aload_n (pc := 16) 0 dX7_answers_16 rfl rfl ?_
      refine z_callV (pc := 17) (b := 0) (As := []) (rest := []) kX7_55 (m_X7_no g μ) ltM_0 kdM_0 rfl rfl ⟨rfl, rfl⟩ ⟨Nat.le_of_ble_eq_true rfl, Nat.le_of_ble_eq_true rfl⟩ (Nat.le_of_ble_eq_true rfl) rfl rfl dX7_answers_17 (fun r8 μ9 => ?_)
      change Zw g ΛM enI RX7 cX7_answers 2 (some .int) rX7_answers 20 [(0, .ref (g.2.2.1 0)), (1, .int a1)] [.int r8] μ9 _
      refine z_goto (pc := 20) (tgt := 40) dX7_answers_20 (by decide) ?_
      exact z_iret dX7_answers_40
  · refine z_aload_n (pc := 4) 0 dX7_answers_4 rfl rfl ?_
    refine z_callV (pc := 5) (b := 0) (As := []) (rest := []) kX7_59 (m_X7_leaves g μ) ltM_0 kdM_0 rfl rfl ⟨rfl, rfl⟩ ⟨Nat.le_of_ble_eq_true rfl, Nat.le_of_ble_eq_true rfl⟩ (Nat.le_of_ble_eq_true rfl) rfl rfl dX7_answers_5 (fun r10 μ11 => ?_)
    change Zw g ΛM enI RX7 cX7_answers 2 (some .int) rX7_answers 8 [(0, .ref (g.2.2.1 0)), (1, .int a1)] [] μ11 _
    refine z_iload_n (pc := 8) 1 dX7_answers_8 rfl rfl ?_
    exact z_iret dX7_answers_9
def lp_X7_sizeOf_4 : Nat → Int32 → Int32 → Mm → (Int32 → Mm → Option (Int32 × Mm)) → Option (Int32 × Mm)
  | 0, _, _, _, _ => none
  | n + 1, y1, y2, μ, k => if y2 ≤ 0 then (k y1 μ) else (lp_X7_sizeOf_4 n (y1 + 1) (y2 / (10 : Int32)) μ k)
theorem w_X7_sizeOf_4 (g : Gx) : ∀ (n : Nat) (y1 : Int32) (y2 : Int32) (μ : Mm) (k : Int32 → Mm → Option (Int32 × Mm)), (∀ (z1 : Int32) (ν : Mm), Zw g ΛM enI RX7 cX7_sizeOf 3 (some .int) rX7_sizeOf 19 [(1, .int z1)] [] ν (k z1 ν)) → Zw g ΛM enI RX7 cX7_sizeOf 3 (some .int) rX7_sizeOf 4 [(1, .int y1), (2, .int y2)] [] μ (lp_X7_sizeOf_4 n y1 y2 μ k) := by
  intro n
  induction n with
  | zero =>
    intro y1 y2 μ k hk
    exact z_none
  | succ n ih =>
    intro y1 y2 μ k hk
    rw [lp_X7_sizeOf_4]
    refine z_iload_n (pc := 4) 1 dX7_sizeOf_4 rfl rfl ?_
    refine z_if_le (pc := 5) (tgt := 19) dX7_sizeOf_5 (by decide) (fun h1 => ?_) (fun h1 => ?_)
    · refine z_sub (lv2 := [(1, .int y1)]) [0] rfl ?_
      exact hk _ _
    · refine z_iinc (pc := 8) (v := y1 + 1) (lv2 := [(1, .int (y1 + 1)), (2, .int y2)]) 0 [0, 1] dX7_sizeOf_8 rfl (by rw [oi_1]) (by decide) rfl ?_
      refine z_iload_n (pc := 11) 1 dX7_sizeOf_11 rfl rfl ?_
      refine z_bipush (pc := 12) (v := 10) dX7_sizeOf_12 (by decide +kernel) ?_
      refine z_idiv (pc := 14) dX7_sizeOf_14 (by decide +kernel) ?_
      refine z_istore_n (pc := 15) (lv2 := [(1, .int (y1 + 1)), (2, .int (y2 / (10 : Int32)))]) [1, 0] dX7_sizeOf_15 rfl (by decide) rfl ?_
      refine z_goto (pc := 16) (tgt := 4) dX7_sizeOf_16 (by decide) ?_
      exact ih _ _ _ _ hk
def f_X7_sizeOf (a0 : Int32) (μ : Mm) : Option (Int32 × Mm) := lp_X7_sizeOf_4 FU (0 : Int32) a0 μ (fun x2 μ3 => some (x2, μ3))
theorem m_X7_sizeOf (g : Gx) (μ : Mm) (a0 : Int32) : Zm g ΛM enI yX7_sizeOf cX7_sizeOf 3 (some .int) rX7_sizeOf [.int a0] μ (f_X7_sizeOf a0 μ) := by
  refine z_met (by decide +kernel) (Nat.le_of_ble_eq_true rfl) ?_
  change Zw g ΛM enI RX7 cX7_sizeOf 3 (some .int) rX7_sizeOf 0 [(0, .int a0)] [] μ (f_X7_sizeOf a0 μ)
  rw [f_X7_sizeOf]
  refine z_iconst (pc := 0) (v := 0) dX7_sizeOf_0 rfl ?_
  refine z_istore_n (pc := 1) (lv2 := [(0, .int a0), (1, .int (0 : Int32))]) [1, 0] dX7_sizeOf_1 rfl (by decide) rfl ?_
  refine z_iload_n (pc := 2) 0 dX7_sizeOf_2 rfl rfl ?_
  refine z_istore_n (pc := 3) (lv2 := [(0, .int a0), (1, .int (0 : Int32)), (2, .int a0)]) [1, 2, 0] dX7_sizeOf_3 rfl (by decide) rfl ?_
  refine z_sub (lv2 := [(1, .int (0 : Int32)), (2, .int a0)]) [1, 2] rfl ?_
  refine w_X7_sizeOf_4 g FU (0 : Int32) a0 μ _ (fun x2 μ3 => ?_)
  refine z_iload_n (pc := 19) 0 dX7_sizeOf_19 rfl rfl ?_
  exact z_iret dX7_sizeOf_20
def lp_X7_moraeOf_4 : Nat → Int32 → Int32 → Mm → (Int32 → Mm → Option (Int32 × Mm)) → Option (Int32 × Mm)
  | 0, _, _, _, _ => none
  | n + 1, y1, y2, μ, k => if y2 ≤ 0 then (k y1 μ) else (if (y2 - y2 / (10 : Int32) * (10 : Int32)) ≤ (4 : Int32) then (lp_X7_moraeOf_4 n (y1 + (1 : Int32)) (y2 / (10 : Int32)) μ k) else (lp_X7_moraeOf_4 n (y1 + (2 : Int32)) (y2 / (10 : Int32)) μ k))
theorem w_X7_moraeOf_4 (g : Gx) : ∀ (n : Nat) (y1 : Int32) (y2 : Int32) (μ : Mm) (k : Int32 → Mm → Option (Int32 × Mm)), (∀ (z1 : Int32) (ν : Mm), Zw g ΛM enI RX7 cX7_moraeOf 3 (some .int) rX7_moraeOf 32 [(1, .int z1)] [] ν (k z1 ν)) → Zw g ΛM enI RX7 cX7_moraeOf 3 (some .int) rX7_moraeOf 4 [(1, .int y1), (2, .int y2)] [] μ (lp_X7_moraeOf_4 n y1 y2 μ k) := by
  intro n
  induction n with
  | zero =>
    intro y1 y2 μ k hk
    exact z_none
  | succ n ih =>
    intro y1 y2 μ k hk
    rw [lp_X7_moraeOf_4]
    refine z_iload_n (pc := 4) 1 dX7_moraeOf_4 rfl rfl ?_
    refine z_if_le (pc := 5) (tgt := 32) dX7_moraeOf_5 (by decide) (fun h1 => ?_) (fun h1 => ?_)
    · refine z_sub (lv2 := [(1, .int y1)]) [0] rfl ?_
      exact hk _ _
    · refine z_iload_n (pc := 8) 0 dX7_moraeOf_8 rfl rfl ?_
      refine z_iload_n (pc := 9) 1 dX7_moraeOf_9 rfl rfl ?_
      refine z_bipush (pc := 10) (v := 10) dX7_moraeOf_10 (by decide +kernel) ?_
      refine z_irem (pc := 12) dX7_moraeOf_12 (by decide +kernel) ?_
      refine z_iconst (pc := 13) (v := 4) dX7_moraeOf_13 rfl ?_
      refine z_icmp_le (pc := 14) (tgt := 21) dX7_moraeOf_14 (by decide) (fun h2 => ?_) (fun h2 => ?_)
      · refine z_iconst (pc := 21) (v := 1) dX7_moraeOf_21 rfl ?_
        refine z_iadd (pc := 22) dX7_moraeOf_22 ?_
        refine z_istore_n (pc := 23) (lv2 := [(1, .int (y1 + (1 : Int32))), (2, .int y2)]) [0, 1] dX7_moraeOf_23 rfl (by decide) rfl ?_
        refine z_iload_n (pc := 24) 1 dX7_moraeOf_24 rfl rfl ?_
        refine z_bipush (pc := 25) (v := 10) dX7_moraeOf_25 (by decide +kernel) ?_
        refine z_idiv (pc := 27) dX7_moraeOf_27 (by decide +kernel) ?_
        refine z_istore_n (pc := 28) (lv2 := [(1, .int (y1 + (1 : Int32))), (2, .int (y2 / (10 : Int32)))]) [1, 0] dX7_moraeOf_28 rfl (by decide) rfl ?_
        refine z_goto (pc := 29) (tgt := 4) dX7_moraeOf_29 (by decide) ?_
        exact ih _ _ _ _ hk
      · refine z_iconst (pc := 17) (v := 2) dX7_moraeOf_17 rfl ?_
        refine z_goto (pc := 18) (tgt := 22) dX7_moraeOf_18 (by decide) ?_
        refine z_iadd (pc := 22) dX7_moraeOf_22 ?_
        refine z_istore_n (pc := 23) (lv2 := [(1, .int (y1 + (2 : Int32))), (2, .int y2)]) [0, 1] dX7_moraeOf_23 rfl (by decide) rfl ?_
        refine z_iload_n (pc := 24) 1 dX7_moraeOf_24 rfl rfl ?_
        refine z_bipush (pc := 25) (v := 10) dX7_moraeOf_25 (by decide +kernel) ?_
        refine z_idiv (pc := 27) dX7_moraeOf_27 (by decide +kernel) ?_
        refine z_istore_n (pc := 28) (lv2 := [(1, .int (y1 + (2 : Int32))), (2, .int (y2 / (10 : Int32)))]) [1, 0] dX7_moraeOf_28 rfl (by decide) rfl ?_
        refine z_goto (pc := 29) (tgt := 4) dX7_moraeOf_29 (by decide) ?_
        exact ih _ _ _ _ hk
def f_X7_moraeOf (a0 : Int32) (μ : Mm) : Option (Int32 × Mm) := lp_X7_moraeOf_4 FU (0 : Int32) a0 μ (fun x3 μ4 => some (x3, μ4))
theorem m_X7_moraeOf (g : Gx) (μ : Mm) (a0 : Int32) : Zm g ΛM enI yX7_moraeOf cX7_moraeOf 3 (some .int) rX7_moraeOf [.int a0] μ (f_X7_moraeOf a0 μ) := by
  refine z_met (by decide +kernel) (Nat.le_of_ble_eq_true rfl) ?_
  change Zw g ΛM enI RX7 cX7_moraeOf 3 (some .int) rX7_moraeOf 0 [(0, .int a0)] [] μ (f_X7_moraeOf a0 μ)
  rw [f_X7_moraeOf]
  refine z_iconst (pc := 0) (v := 0) dX7_moraeOf_0 rfl ?_
  refine z_istore_n (pc := 1) (lv2 := [(0, .int a0), (1, .int (0 : Int32))]) [1, 0] dX7_moraeOf_1 rfl (by decide) rfl ?_
  refine z_iload_n (pc := 2) 0 dX7_moraeOf_2 rfl rfl ?_
  refine z_istore_n (pc := 3) (lv2 := [(0, .int a0), (1, .int (0 : Int32)), (2, .int a0)]) [1, 2, 0] dX7_moraeOf_3 rfl (by decide) rfl ?_
  refine z_sub (lv2 := [(1, .int (0 : Int32)), (2, .int a0)]) [1, 2] rfl ?_
  refine w_X7_moraeOf_4 g FU (0 : Int32) a0 μ _ (fun x3 μ4 => ?_)
  refine z_iload_n (pc := 32) 0 dX7_moraeOf_32 rfl rfl ?_
  exact z_iret dX7_moraeOf_33
def lp_X7_isCode_12 : Nat → Int32 → Int32 → Mm → (Int32 → Mm → Option (Int32 × Mm)) → Option (Int32 × Mm)
  | 0, _, _, _, _ => none
  | n + 1, y1, y2, μ, k => if y2 ≤ 0 then (k y1 μ) else (if y1 = 0 then (k y1 μ) else (bd (f_X7_within ((y2 - y2 / (10 : Int32) * (10 : Int32)).toInt64) (1 : Int64) (8 : Int64) μ) fun r5 μ6 => lp_X7_isCode_12 n r5 (y2 / (10 : Int32)) μ6 k))
theorem w_X7_isCode_12 (g : Gx) : ∀ (n : Nat) (y1 : Int32) (y2 : Int32) (μ : Mm) (k : Int32 → Mm → Option (Int32 × Mm)), (∀ (z1 : Int32) (ν : Mm), Zw g ΛM enI RX7 cX7_isCode 3 (some .boolean) rX7_isCode 41 [(1, .int z1)] [] ν (k z1 ν)) → Zw g ΛM enI RX7 cX7_isCode 3 (some .boolean) rX7_isCode 12 [(1, .int y1), (2, .int y2)] [] μ (lp_X7_isCode_12 n y1 y2 μ k) := by
  intro n
  induction n with
  | zero =>
    intro y1 y2 μ k hk
    exact z_none
  | succ n ih =>
    intro y1 y2 μ k hk
    rw [lp_X7_isCode_12]
    refine z_iload_n (pc := 12) 1 dX7_isCode_12 rfl rfl ?_
    refine z_if_le (pc := 13) (tgt := 41) dX7_isCode_13 (by decide) (fun h3 => ?_) (fun h3 => ?_)
    · refine z_sub (lv2 := [(1, .int y1)]) [0] rfl ?_
      exact hk _ _
    · refine z_iload_n (pc := 16) 0 dX7_isCode_16 rfl rfl ?_
      refine z_if_eq (pc := 17) (tgt := 41) dX7_isCode_17 (by decide) (fun h4 => ?_) (fun h4 => ?_)
      · refine z_sub (lv2 := [(1, .int y1)]) [0] rfl ?_
        exact hk _ _
      · refine z_iload_n (pc := 20) 1 dX7_isCode_20 rfl rfl ?_
        refine z_bipush (pc := 21) (v := 10) dX7_isCode_21 (by decide +kernel) ?_
        refine z_irem (pc := 23) dX7_isCode_23 (by decide +kernel) ?_
        refine z_i2l (pc := 24) dX7_isCode_24 ?_
        refine z_lconst (pc := 25) (v := 1) dX7_isCode_25 (by decide +kernel) ?_
        refine z_ldc2 (pc := 26) (v := 8) klX7_70 dX7_isCode_26 ?_
        refine z_callS (pc := 29) (As := [.long ((y2 - y2 / (10 : Int32) * (10 : Int32)).toInt64), .long (1 : Int64), .long (8 : Int64)]) (rest := []) kX7_47 (m_X7_within g μ ((y2 - y2 / (10 : Int32) * (10 : Int32)).toInt64) (1 : Int64) (8 : Int64)) ⟨rfl, rfl⟩ ⟨Nat.le_of_ble_eq_true rfl, Nat.le_of_ble_eq_true rfl⟩ (Nat.le_of_ble_eq_true rfl) rfl rfl dX7_isCode_29 (fun r5 μ6 => ?_)
        change Zw g ΛM enI RX7 cX7_isCode 3 (some .boolean) rX7_isCode 32 [(1, .int y1), (2, .int y2)] [.int r5] μ6 _
        refine z_istore_n (pc := 32) (lv2 := [(1, .int r5), (2, .int y2)]) [0, 1] dX7_isCode_32 rfl (by decide) rfl ?_
        refine z_iload_n (pc := 33) 1 dX7_isCode_33 rfl rfl ?_
        refine z_bipush (pc := 34) (v := 10) dX7_isCode_34 (by decide +kernel) ?_
        refine z_idiv (pc := 36) dX7_isCode_36 (by decide +kernel) ?_
        refine z_istore_n (pc := 37) (lv2 := [(1, .int r5), (2, .int (y2 / (10 : Int32)))]) [1, 0] dX7_isCode_37 rfl (by decide) rfl ?_
        refine z_goto (pc := 38) (tgt := 12) dX7_isCode_38 (by decide) ?_
        exact ih _ _ _ _ hk
def f_X7_isCode (a0 : Int32) (μ : Mm) : Option (Int32 × Mm) := bd (f_X7_within a0.toInt64 (1 : Int64) (888888 : Int64) μ) fun r1 μ2 => lp_X7_isCode_12 FU r1 a0 μ2 (fun x7 μ8 => if x7 = 0 ∨ x7 = 1 then some (x7, μ8) else none)
theorem m_X7_isCode (g : Gx) (μ : Mm) (a0 : Int32) : Zm g ΛM enI yX7_isCode cX7_isCode 3 (some .boolean) rX7_isCode [.int a0] μ (f_X7_isCode a0 μ) := by
  refine z_met (by decide +kernel) (Nat.le_of_ble_eq_true rfl) ?_
  change Zw g ΛM enI RX7 cX7_isCode 3 (some .boolean) rX7_isCode 0 [(0, .int a0)] [] μ (f_X7_isCode a0 μ)
  rw [f_X7_isCode]
  refine z_iload_n (pc := 0) 0 dX7_isCode_0 rfl rfl ?_
  refine z_i2l (pc := 1) dX7_isCode_1 ?_
  refine z_lconst (pc := 2) (v := 1) dX7_isCode_2 (by decide +kernel) ?_
  refine z_ldc2 (pc := 3) (v := 888888) klX7_68 dX7_isCode_3 ?_
  refine z_callS (pc := 6) (As := [.long a0.toInt64, .long (1 : Int64), .long (888888 : Int64)]) (rest := []) kX7_47 (m_X7_within g μ a0.toInt64 (1 : Int64) (888888 : Int64)) ⟨rfl, rfl⟩ ⟨Nat.le_of_ble_eq_true rfl, Nat.le_of_ble_eq_true rfl⟩ (Nat.le_of_ble_eq_true rfl) rfl rfl dX7_isCode_6 (fun r1 μ2 => ?_)
  change Zw g ΛM enI RX7 cX7_isCode 3 (some .boolean) rX7_isCode 9 [(0, .int a0)] [.int r1] μ2 _
  refine z_istore_n (pc := 9) (lv2 := [(0, .int a0), (1, .int r1)]) [1, 0] dX7_isCode_9 rfl (by decide) rfl ?_
  refine z_iload_n (pc := 10) 0 dX7_isCode_10 rfl rfl ?_
  refine z_istore_n (pc := 11) (lv2 := [(0, .int a0), (1, .int r1), (2, .int a0)]) [1, 2, 0] dX7_isCode_11 rfl (by decide) rfl ?_
  refine z_sub (lv2 := [(1, .int r1), (2, .int a0)]) [1, 2] rfl ?_
  refine w_X7_isCode_12 g FU r1 a0 μ2 _ (fun x7 μ8 => ?_)
  refine z_iload_n (pc := 41) 0 dX7_isCode_41 rfl rfl ?_
  exact z_zret_g dX7_isCode_42
def lp_X7_addsPhrase_32 (c1 : Int32) (c2 : Int32) (c3 : Int32) : Nat → Int32 → Mm → (Mm → Option (Int32 × Mm)) → Option (Int32 × Mm)
  | 0, _, _, _ => none
  | n + 1, y4, μ, k => if c3 ≤ y4 then (k  μ) else (if zin ((9 : Int32) + y4) 148 then (if (μ.1 1 (((9 : Int32) + y4).toNatClampNeg)) = c1 then (if zin ((21 : Int32) + y4) 148 then (if (μ.1 1 (((21 : Int32) + y4).toNatClampNeg)) = c2 then (some ((-3 : Int32), μ)) else (lp_X7_addsPhrase_32 c1 c2 c3 n (y4 + 1) μ k)) else none) else (lp_X7_addsPhrase_32 c1 c2 c3 n (y4 + 1) μ k)) else none)
theorem w_X7_addsPhrase_32 (g : Gx) (c1 : Int32) (c2 : Int32) (c3 : Int32) : ∀ (n : Nat) (y4 : Int32) (μ : Mm) (k : Mm → Option (Int32 × Mm)), (∀ (ν : Mm), Zw g ΛM enI RX7 cX7_addsPhrase 5 (some .int) rX7_addsPhrase 75 [(0, .ref (g.2.2.1 0)), (1, .int c1), (2, .int c2), (3, .int c3)] [] ν (k  ν)) → Zw g ΛM enI RX7 cX7_addsPhrase 5 (some .int) rX7_addsPhrase 32 [(0, .ref (g.2.2.1 0)), (1, .int c1), (2, .int c2), (3, .int c3), (4, .int y4)] [] μ (lp_X7_addsPhrase_32 c1 c2 c3 n y4 μ k) := by
  intro n
  induction n with
  | zero =>
    intro y4 μ k hk
    exact z_none
  | succ n ih =>
    intro y4 μ k hk
    rw [lp_X7_addsPhrase_32]
    refine z_iload (pc := 32) 4 dX7_addsPhrase_32 rfl ?_
    refine z_iload_n (pc := 34) 3 dX7_addsPhrase_34 rfl rfl ?_
    refine z_icmp_ge (pc := 35) (tgt := 75) dX7_addsPhrase_35 (by decide) (fun h7 => ?_) (fun h7 => ?_)
    · refine z_sub (lv2 := [(0, .ref (g.2.2.1 0)), (1, .int c1), (2, .int c2), (3, .int c3)]) [0, 1, 2, 3] rfl ?_
      exact hk _
    · refine z_aload_n (pc := 38) 0 dX7_addsPhrase_38 rfl rfl ?_
      refine z_get (pc := 39) (v := .ref (g.2.2.1 1)) flX7_7 jnX7 ltM_0 kdM_0 rfl (by decide) rfl foM_0_0 rfl dX7_addsPhrase_39 ?_
      refine z_bipush (pc := 42) (v := 9) dX7_addsPhrase_42 (by decide +kernel) ?_
      refine z_iload (pc := 44) 4 dX7_addsPhrase_44 rfl ?_
      refine z_iadd (pc := 46) dX7_addsPhrase_46 ?_
      refine z_iaload_g (pc := 47) ltM_1 kdM_1 dX7_addsPhrase_47 ?_
      refine z_iload_n (pc := 48) 1 dX7_addsPhrase_48 rfl rfl ?_
      refine z_icmp_ne (pc := 49) (tgt := 69) dX7_addsPhrase_49 (by decide) (fun h8 => ?_) (fun h8 => ?_)
      · refine z_iinc (pc := 69) (v := y4 + 1) (lv2 := [(0, .ref (g.2.2.1 0)), (1, .int c1), (2, .int c2), (3, .int c3), (4, .int (y4 + 1))]) 4 [1, 2, 3, 4, 0] dX7_addsPhrase_69 rfl (by rw [oi_1]) (by decide) rfl ?_
        refine z_goto (pc := 72) (tgt := 32) dX7_addsPhrase_72 (by decide) ?_
        exact ih _ _ _ hk
      · refine z_aload_n (pc := 52) 0 dX7_addsPhrase_52 rfl rfl ?_
        refine z_get (pc := 53) (v := .ref (g.2.2.1 1)) flX7_7 jnX7 ltM_0 kdM_0 rfl (by decide) rfl foM_0_0 rfl dX7_addsPhrase_53 ?_
        refine z_bipush (pc := 56) (v := 21) dX7_addsPhrase_56 (by decide +kernel) ?_
        refine z_iload (pc := 58) 4 dX7_addsPhrase_58 rfl ?_
        refine z_iadd (pc := 60) dX7_addsPhrase_60 ?_
        refine z_iaload_g (pc := 61) ltM_1 kdM_1 dX7_addsPhrase_61 ?_
        refine z_iload_n (pc := 62) 2 dX7_addsPhrase_62 rfl rfl ?_
        refine z_icmp_ne (pc := 63) (tgt := 69) dX7_addsPhrase_63 (by decide) (fun h9 => ?_) (fun h9 => ?_)
        · refine z_iinc (pc := 69) (v := y4 + 1) (lv2 := [(0, .ref (g.2.2.1 0)), (1, .int c1), (2, .int c2), (3, .int c3), (4, .int (y4 + 1))]) 4 [1, 2, 3, 4, 0] dX7_addsPhrase_69 rfl (by rw [oi_1]) (by decide) rfl ?_
          refine z_goto (pc := 72) (tgt := 32) dX7_addsPhrase_72 (by decide) ?_
          exact ih _ _ _ hk
        · refine z_bipush (pc := 66) (v := -3) dX7_addsPhrase_66 (by decide +kernel) ?_
          exact z_iret dX7_addsPhrase_68
def lp_X7_addsPhrase_107 (c3 : Int32) : Nat → Int32 → Mm → (Mm → Option (Int32 × Mm)) → Option (Int32 × Mm)
  | 0, _, _, _ => none
  | n + 1, y4, μ, k => if (3 : Int32) ≤ y4 then (k  μ) else (if zin (((33 : Int32) + ((12 : Int32) * y4)) + c3) 148 then (lp_X7_addsPhrase_107 c3 n (y4 + 1) (si μ 1 ((((33 : Int32) + ((12 : Int32) * y4)) + c3).toNatClampNeg) (0 : Int32)) k) else none)
theorem w_X7_addsPhrase_107 (g : Gx) (c3 : Int32) : ∀ (n : Nat) (y4 : Int32) (μ : Mm) (k : Mm → Option (Int32 × Mm)), (∀ (ν : Mm), Zw g ΛM enI RX7 cX7_addsPhrase 5 (some .int) rX7_addsPhrase 135 [(0, .ref (g.2.2.1 0)), (3, .int c3)] [] ν (k  ν)) → Zw g ΛM enI RX7 cX7_addsPhrase 5 (some .int) rX7_addsPhrase 107 [(0, .ref (g.2.2.1 0)), (3, .int c3), (4, .int y4)] [] μ (lp_X7_addsPhrase_107 c3 n y4 μ k) := by
  intro n
  induction n with
  | zero =>
    intro y4 μ k hk
    exact z_none
  | succ n ih =>
    intro y4 μ k hk
    rw [lp_X7_addsPhrase_107]
    refine z_iload (pc := 107) 2 dX7_addsPhrase_107 rfl ?_
    refine z_iconst (pc := 109) (v := 3) dX7_addsPhrase_109 rfl ?_
    refine z_icmp_ge (pc := 110) (tgt := 135) dX7_addsPhrase_110 (by decide) (fun h12 => ?_) (fun h12 => ?_)
    · refine z_sub (lv2 := [(0, .ref (g.2.2.1 0)), (3, .int c3)]) [0, 1] rfl ?_
      exact hk _
    · refine z_aload_n (pc := 113) 0 dX7_addsPhrase_113 rfl rfl ?_
      refine z_get (pc := 114) (v := .ref (g.2.2.1 1)) flX7_7 jnX7 ltM_0 kdM_0 rfl (by decide) rfl foM_0_0 rfl dX7_addsPhrase_114 ?_
      refine z_bipush (pc := 117) (v := 33) dX7_addsPhrase_117 (by decide +kernel) ?_
      refine z_bipush (pc := 119) (v := 12) dX7_addsPhrase_119 (by decide +kernel) ?_
      refine z_iload (pc := 121) 2 dX7_addsPhrase_121 rfl ?_
      refine z_imul (pc := 123) dX7_addsPhrase_123 ?_
      refine z_iadd (pc := 124) dX7_addsPhrase_124 ?_
      refine z_iload_n (pc := 125) 1 dX7_addsPhrase_125 rfl rfl ?_
      refine z_iadd (pc := 126) dX7_addsPhrase_126 ?_
      refine z_iconst (pc := 127) (v := 0) dX7_addsPhrase_127 rfl ?_
      refine z_iastore_g (pc := 128) ltM_1 kdM_1 dX7_addsPhrase_128 ?_
      refine z_iinc (pc := 129) (v := y4 + 1) (lv2 := [(0, .ref (g.2.2.1 0)), (3, .int c3), (4, .int (y4 + 1))]) 2 [1, 2, 0] dX7_addsPhrase_129 rfl (by rw [oi_1]) (by decide) rfl ?_
      refine z_goto (pc := 132) (tgt := 107) dX7_addsPhrase_132 (by decide) ?_
      exact ih _ _ _ hk
def f_X7_addsPhrase (a1 : Int32) (a2 : Int32) (μ : Mm) : Option (Int32 × Mm) := bd (f_X7_within a1.toInt64 (0 : Int64) (3 : Int64) μ) fun r1 μ2 => if r1 = 0 then (some ((-2 : Int32), μ2)) else (bd (f_X7_isCode a2 μ2) fun r4 μ5 => if r4 = 0 then (some ((-2 : Int32), μ5)) else (lp_X7_addsPhrase_32 a1 a2 (μ5.1 1 0) FU (0 : Int32) μ5 (fun  μ10 => if (μ5.1 1 0) = (12 : Int32) then (some ((-4 : Int32), μ10)) else (if zin ((9 : Int32) + (μ5.1 1 0)) 148 then (if zin ((21 : Int32) + (μ5.1 1 0)) 148 then (lp_X7_addsPhrase_107 (μ5.1 1 0) FU (0 : Int32) (si (si μ10 1 (((9 : Int32) + (μ5.1 1 0)).toNatClampNeg) a1) 1 (((21 : Int32) + (μ5.1 1 0)).toNatClampNeg) a2) (fun  μ13 => some (μ5.1 1 0, (si μ13 1 0 ((μ13.1 1 0) + (1 : Int32)))))) else none) else none))))
theorem m_X7_addsPhrase (g : Gx) (μ : Mm) (a1 : Int32) (a2 : Int32) : Zm g ΛM enI yX7_addsPhrase cX7_addsPhrase 5 (some .int) rX7_addsPhrase [.ref (g.2.2.1 0), .int a1, .int a2] μ (f_X7_addsPhrase a1 a2 μ) := by
  refine z_met (by decide +kernel) (Nat.le_of_ble_eq_true rfl) ?_
  change Zw g ΛM enI RX7 cX7_addsPhrase 5 (some .int) rX7_addsPhrase 0 [(0, .ref (g.2.2.1 0)), (1, .int a1), (2, .int a2)] [] μ (f_X7_addsPhrase a1 a2 μ)
  rw [f_X7_addsPhrase]
  refine z_iload_n (pc := 0) 1 dX7_addsPhrase_0 rfl rfl ?_
  refine z_i2l (pc := 1) dX7_addsPhrase_1 ?_
  refine z_lconst (pc := 2) (v := 0) dX7_addsPhrase_2 (by decide +kernel) ?_
  refine z_ldc2 (pc := 3) (v := 3) klX7_72 dX7_addsPhrase_3 ?_
  refine z_callS (pc := 6) (As := [.long a1.toInt64, .long (0 : Int64), .long (3 : Int64)]) (rest := []) kX7_47 (m_X7_within g μ a1.toInt64 (0 : Int64) (3 : Int64)) ⟨rfl, rfl⟩ ⟨Nat.le_of_ble_eq_true rfl, Nat.le_of_ble_eq_true rfl⟩ (Nat.le_of_ble_eq_true rfl) rfl rfl dX7_addsPhrase_6 (fun r1 μ2 => ?_)
  change Zw g ΛM enI RX7 cX7_addsPhrase 5 (some .int) rX7_addsPhrase 9 [(0, .ref (g.2.2.1 0)), (1, .int a1), (2, .int a2)] [.int r1] μ2 _
  refine z_if_eq (pc := 9) (tgt := 19) dX7_addsPhrase_9 (by decide) (fun h3 => ?_) (fun h3 => ?_)
  · refine z_bipush (pc := 19) (v := -2) dX7_addsPhrase_19 (by decide +kernel) ?_
    exact z_iret dX7_addsPhrase_21
  · refine z_iload_n (pc := 12) 2 dX7_addsPhrase_12 rfl rfl ?_
    refine z_callS (pc := 13) (As := [.int a2]) (rest := []) kX7_74 (m_X7_isCode g μ2 a2) ⟨rfl, rfl⟩ ⟨Nat.le_of_ble_eq_true rfl, Nat.le_of_ble_eq_true rfl⟩ (Nat.le_of_ble_eq_true rfl) rfl rfl dX7_addsPhrase_13 (fun r4 μ5 => ?_)
    change Zw g ΛM enI RX7 cX7_addsPhrase 5 (some .int) rX7_addsPhrase 16 [(0, .ref (g.2.2.1 0)), (1, .int a1), (2, .int a2)] [.int r4] μ5 _
    refine z_if_ne (pc := 16) (tgt := 22) dX7_addsPhrase_16 (by decide) (fun h6 => ?_) (fun h6 => ?_)
    · refine z_aload_n (pc := 22) 0 dX7_addsPhrase_22 rfl rfl ?_
      refine z_get (pc := 23) (v := .ref (g.2.2.1 1)) flX7_7 jnX7 ltM_0 kdM_0 rfl (by decide) rfl foM_0_0 rfl dX7_addsPhrase_23 ?_
      refine z_iconst (pc := 26) (v := 0) dX7_addsPhrase_26 rfl ?_
      refine z_iaload (pc := 27) (j := 0) ltM_1 kdM_1 (by decide +kernel) (by decide +kernel) dX7_addsPhrase_27 ?_
      refine z_istore_n (pc := 28) (lv2 := [(0, .ref (g.2.2.1 0)), (1, .int a1), (2, .int a2), (3, .int (μ5.1 1 0))]) [1, 2, 3, 0] dX7_addsPhrase_28 rfl (by decide) rfl ?_
      refine z_iconst (pc := 29) (v := 0) dX7_addsPhrase_29 rfl ?_
      refine z_istore (pc := 30) (lv2 := [(0, .ref (g.2.2.1 0)), (1, .int a1), (2, .int a2), (3, .int (μ5.1 1 0)), (4, .int (0 : Int32))]) [1, 2, 3, 4, 0] dX7_addsPhrase_30 (by decide) rfl ?_
      refine w_X7_addsPhrase_32 g a1 a2 (μ5.1 1 0) FU (0 : Int32) μ5 _ (fun  μ10 => ?_)
      refine z_iload_n (pc := 75) 3 dX7_addsPhrase_75 rfl rfl ?_
      refine z_bipush (pc := 76) (v := 12) dX7_addsPhrase_76 (by decide +kernel) ?_
      refine z_icmp_ne (pc := 78) (tgt := 84) dX7_addsPhrase_78 (by decide) (fun h11 => ?_) (fun h11 => ?_)
      · refine z_aload_n (pc := 84) 0 dX7_addsPhrase_84 rfl rfl ?_
        refine z_get (pc := 85) (v := .ref (g.2.2.1 1)) flX7_7 jnX7 ltM_0 kdM_0 rfl (by decide) rfl foM_0_0 rfl dX7_addsPhrase_85 ?_
        refine z_bipush (pc := 88) (v := 9) dX7_addsPhrase_88 (by decide +kernel) ?_
        refine z_iload_n (pc := 90) 3 dX7_addsPhrase_90 rfl rfl ?_
        refine z_iadd (pc := 91) dX7_addsPhrase_91 ?_
        refine z_iload_n (pc := 92) 1 dX7_addsPhrase_92 rfl rfl ?_
        refine z_iastore_g (pc := 93) ltM_1 kdM_1 dX7_addsPhrase_93 ?_
        refine z_aload_n (pc := 94) 0 dX7_addsPhrase_94 rfl rfl ?_
        refine z_get (pc := 95) (v := .ref (g.2.2.1 1)) flX7_7 jnX7 ltM_0 kdM_0 rfl (by decide) rfl foM_0_0 rfl dX7_addsPhrase_95 ?_
        refine z_bipush (pc := 98) (v := 21) dX7_addsPhrase_98 (by decide +kernel) ?_
        refine z_iload_n (pc := 100) 3 dX7_addsPhrase_100 rfl rfl ?_
        refine z_iadd (pc := 101) dX7_addsPhrase_101 ?_
        refine z_iload_n (pc := 102) 2 dX7_addsPhrase_102 rfl rfl ?_
        refine z_iastore_g (pc := 103) ltM_1 kdM_1 dX7_addsPhrase_103 ?_
        refine z_iconst (pc := 104) (v := 0) dX7_addsPhrase_104 rfl ?_
        refine z_istore (pc := 105) (lv2 := [(0, .ref (g.2.2.1 0)), (1, .int a1), (2, .int a2), (3, .int (μ5.1 1 0)), (4, .int (0 : Int32))]) [1, 2, 3, 4, 0] dX7_addsPhrase_105 (by decide) rfl ?_
        refine z_sub (lv2 := [(0, .ref (g.2.2.1 0)), (3, .int (μ5.1 1 0)), (4, .int (0 : Int32))]) [0, 3, 4] rfl ?_
        refine w_X7_addsPhrase_107 g (μ5.1 1 0) FU (0 : Int32) (si (si μ10 1 (((9 : Int32) + (μ5.1 1 0)).toNatClampNeg) a1) 1 (((21 : Int32) + (μ5.1 1 0)).toNatClampNeg) a2) _ (fun  μ13 => ?_)
        refine z_aload_n (pc := 135) 0 dX7_addsPhrase_135 rfl rfl ?_
        refine z_get (pc := 136) (v := .ref (g.2.2.1 1)) flX7_7 jnX7 ltM_0 kdM_0 rfl (by decide) rfl foM_0_0 rfl dX7_addsPhrase_136 ?_
        refine z_iconst (pc := 139) (v := 0) dX7_addsPhrase_139 rfl ?_
        refine z_dup2 (pc := 140) dX7_addsPhrase_140 rfl rfl ?_
        refine z_iaload (pc := 141) (j := 0) ltM_1 kdM_1 (by decide +kernel) (by decide +kernel) dX7_addsPhrase_141 ?_
        refine z_iconst (pc := 142) (v := 1) dX7_addsPhrase_142 rfl ?_
        refine z_iadd (pc := 143) dX7_addsPhrase_143 ?_
        refine z_iastore (pc := 144) (j := 0) ltM_1 kdM_1 (by decide +kernel) (by decide +kernel) dX7_addsPhrase_144 ?_
        refine z_iload_n (pc := 145) 1 dX7_addsPhrase_145 rfl rfl ?_
        exact z_iret dX7_addsPhrase_146
      · refine z_bipush (pc := 81) (v := -4) dX7_addsPhrase_81 (by decide +kernel) ?_
        exact z_iret dX7_addsPhrase_83
    · refine z_bipush (pc := 19) (v := -2) dX7_addsPhrase_19 (by decide +kernel) ?_
      exact z_iret dX7_addsPhrase_21
def lp_X7_dropsPhrase_75 (c2 : Int32) : Nat → Int32 → Mm → (Mm → Option (Int32 × Mm)) → Option (Int32 × Mm)
  | 0, _, _, _ => none
  | n + 1, y3, μ, k => if (3 : Int32) ≤ y3 then (k  μ) else (if zin ((((33 : Int32) + ((12 : Int32) * y3)) + c2) + (1 : Int32)) 148 then (if zin (((33 : Int32) + ((12 : Int32) * y3)) + c2) 148 then (lp_X7_dropsPhrase_75 c2 n (y3 + 1) (si μ 1 ((((33 : Int32) + ((12 : Int32) * y3)) + c2).toNatClampNeg) (μ.1 1 (((((33 : Int32) + ((12 : Int32) * y3)) + c2) + (1 : Int32)).toNatClampNeg))) k) else none) else none)
theorem w_X7_dropsPhrase_75 (g : Gx) (c2 : Int32) : ∀ (n : Nat) (y3 : Int32) (μ : Mm) (k : Mm → Option (Int32 × Mm)), (∀ (ν : Mm), Zw g ΛM enI RX7 cX7_dropsPhrase 4 (some .int) rX7_dropsPhrase 116 [(0, .ref (g.2.2.1 0)), (2, .int c2)] [] ν (k  ν)) → Zw g ΛM enI RX7 cX7_dropsPhrase 4 (some .int) rX7_dropsPhrase 75 [(0, .ref (g.2.2.1 0)), (2, .int c2), (3, .int y3)] [] μ (lp_X7_dropsPhrase_75 c2 n y3 μ k) := by
  intro n
  induction n with
  | zero =>
    intro y3 μ k hk
    exact z_none
  | succ n ih =>
    intro y3 μ k hk
    rw [lp_X7_dropsPhrase_75]
    refine z_iload_n (pc := 75) 2 dX7_dropsPhrase_75 rfl rfl ?_
    refine z_iconst (pc := 76) (v := 3) dX7_dropsPhrase_76 rfl ?_
    refine z_icmp_ge (pc := 77) (tgt := 116) dX7_dropsPhrase_77 (by decide) (fun h5 => ?_) (fun h5 => ?_)
    · refine z_sub (lv2 := [(0, .ref (g.2.2.1 0)), (2, .int c2)]) [0, 1] rfl ?_
      exact hk _
    · refine z_aload_n (pc := 80) 0 dX7_dropsPhrase_80 rfl rfl ?_
      refine z_get (pc := 81) (v := .ref (g.2.2.1 1)) flX7_7 jnX7 ltM_0 kdM_0 rfl (by decide) rfl foM_0_0 rfl dX7_dropsPhrase_81 ?_
      refine z_bipush (pc := 84) (v := 33) dX7_dropsPhrase_84 (by decide +kernel) ?_
      refine z_bipush (pc := 86) (v := 12) dX7_dropsPhrase_86 (by decide +kernel) ?_
      refine z_iload_n (pc := 88) 2 dX7_dropsPhrase_88 rfl rfl ?_
      refine z_imul (pc := 89) dX7_dropsPhrase_89 ?_
      refine z_iadd (pc := 90) dX7_dropsPhrase_90 ?_
      refine z_iload_n (pc := 91) 1 dX7_dropsPhrase_91 rfl rfl ?_
      refine z_iadd (pc := 92) dX7_dropsPhrase_92 ?_
      refine z_aload_n (pc := 93) 0 dX7_dropsPhrase_93 rfl rfl ?_
      refine z_get (pc := 94) (v := .ref (g.2.2.1 1)) flX7_7 jnX7 ltM_0 kdM_0 rfl (by decide) rfl foM_0_0 rfl dX7_dropsPhrase_94 ?_
      refine z_bipush (pc := 97) (v := 33) dX7_dropsPhrase_97 (by decide +kernel) ?_
      refine z_bipush (pc := 99) (v := 12) dX7_dropsPhrase_99 (by decide +kernel) ?_
      refine z_iload_n (pc := 101) 2 dX7_dropsPhrase_101 rfl rfl ?_
      refine z_imul (pc := 102) dX7_dropsPhrase_102 ?_
      refine z_iadd (pc := 103) dX7_dropsPhrase_103 ?_
      refine z_iload_n (pc := 104) 1 dX7_dropsPhrase_104 rfl rfl ?_
      refine z_iadd (pc := 105) dX7_dropsPhrase_105 ?_
      refine z_iconst (pc := 106) (v := 1) dX7_dropsPhrase_106 rfl ?_
      refine z_iadd (pc := 107) dX7_dropsPhrase_107 ?_
      refine z_iaload_g (pc := 108) ltM_1 kdM_1 dX7_dropsPhrase_108 ?_
      refine z_iastore_g (pc := 109) ltM_1 kdM_1 dX7_dropsPhrase_109 ?_
      refine z_iinc (pc := 110) (v := y3 + 1) (lv2 := [(0, .ref (g.2.2.1 0)), (2, .int c2), (3, .int (y3 + 1))]) 2 [1, 2, 0] dX7_dropsPhrase_110 rfl (by rw [oi_1]) (by decide) rfl ?_
      refine z_goto (pc := 113) (tgt := 75) dX7_dropsPhrase_113 (by decide) ?_
      exact ih _ _ _ hk
def lp_X7_dropsPhrase_23 : Nat → Int32 → Mm → (Mm → Option (Int32 × Mm)) → Option (Int32 × Mm)
  | 0, _, _, _ => none
  | n + 1, y2, μ, k => if (μ.1 1 0) ≤ y2 then (k  μ) else (if zin (((9 : Int32) + y2) + (1 : Int32)) 148 then (if zin ((9 : Int32) + y2) 148 then (if zin (((21 : Int32) + y2) + (1 : Int32)) 148 then (if zin ((21 : Int32) + y2) 148 then (lp_X7_dropsPhrase_75 y2 FU (0 : Int32) (si (si μ 1 (((9 : Int32) + y2).toNatClampNeg) (μ.1 1 ((((9 : Int32) + y2) + (1 : Int32)).toNatClampNeg))) 1 (((21 : Int32) + y2).toNatClampNeg) ((si μ 1 (((9 : Int32) + y2).toNatClampNeg) (μ.1 1 ((((9 : Int32) + y2) + (1 : Int32)).toNatClampNeg))).1 1 ((((21 : Int32) + y2) + (1 : Int32)).toNatClampNeg))) (fun  μ6 => lp_X7_dropsPhrase_23 n (y2 + 1) μ6 k)) else none) else none) else none) else none)
theorem w_X7_dropsPhrase_23 (g : Gx) : ∀ (n : Nat) (y2 : Int32) (μ : Mm) (k : Mm → Option (Int32 × Mm)), (∀ (ν : Mm), Zw g ΛM enI RX7 cX7_dropsPhrase 4 (some .int) rX7_dropsPhrase 122 [(0, .ref (g.2.2.1 0))] [] ν (k  ν)) → Zw g ΛM enI RX7 cX7_dropsPhrase 4 (some .int) rX7_dropsPhrase 23 [(0, .ref (g.2.2.1 0)), (2, .int y2)] [] μ (lp_X7_dropsPhrase_23 n y2 μ k) := by
  intro n
  induction n with
  | zero =>
    intro y2 μ k hk
    exact z_none
  | succ n ih =>
    intro y2 μ k hk
    rw [lp_X7_dropsPhrase_23]
    refine z_iload_n (pc := 23) 1 dX7_dropsPhrase_23 rfl rfl ?_
    refine z_aload_n (pc := 24) 0 dX7_dropsPhrase_24 rfl rfl ?_
    refine z_get (pc := 25) (v := .ref (g.2.2.1 1)) flX7_7 jnX7 ltM_0 kdM_0 rfl (by decide) rfl foM_0_0 rfl dX7_dropsPhrase_25 ?_
    refine z_iconst (pc := 28) (v := 0) dX7_dropsPhrase_28 rfl ?_
    refine z_iaload (pc := 29) (j := 0) ltM_1 kdM_1 (by decide +kernel) (by decide +kernel) dX7_dropsPhrase_29 ?_
    refine z_icmp_ge (pc := 30) (tgt := 122) dX7_dropsPhrase_30 (by decide) (fun h4 => ?_) (fun h4 => ?_)
    · refine z_sub (lv2 := [(0, .ref (g.2.2.1 0))]) [0] rfl ?_
      exact hk _
    · refine z_aload_n (pc := 33) 0 dX7_dropsPhrase_33 rfl rfl ?_
      refine z_get (pc := 34) (v := .ref (g.2.2.1 1)) flX7_7 jnX7 ltM_0 kdM_0 rfl (by decide) rfl foM_0_0 rfl dX7_dropsPhrase_34 ?_
      refine z_bipush (pc := 37) (v := 9) dX7_dropsPhrase_37 (by decide +kernel) ?_
      refine z_iload_n (pc := 39) 1 dX7_dropsPhrase_39 rfl rfl ?_
      refine z_iadd (pc := 40) dX7_dropsPhrase_40 ?_
      refine z_aload_n (pc := 41) 0 dX7_dropsPhrase_41 rfl rfl ?_
      refine z_get (pc := 42) (v := .ref (g.2.2.1 1)) flX7_7 jnX7 ltM_0 kdM_0 rfl (by decide) rfl foM_0_0 rfl dX7_dropsPhrase_42 ?_
      refine z_bipush (pc := 45) (v := 9) dX7_dropsPhrase_45 (by decide +kernel) ?_
      refine z_iload_n (pc := 47) 1 dX7_dropsPhrase_47 rfl rfl ?_
      refine z_iadd (pc := 48) dX7_dropsPhrase_48 ?_
      refine z_iconst (pc := 49) (v := 1) dX7_dropsPhrase_49 rfl ?_
      refine z_iadd (pc := 50) dX7_dropsPhrase_50 ?_
      refine z_iaload_g (pc := 51) ltM_1 kdM_1 dX7_dropsPhrase_51 ?_
      refine z_iastore_g (pc := 52) ltM_1 kdM_1 dX7_dropsPhrase_52 ?_
      refine z_aload_n (pc := 53) 0 dX7_dropsPhrase_53 rfl rfl ?_
      refine z_get (pc := 54) (v := .ref (g.2.2.1 1)) flX7_7 jnX7 ltM_0 kdM_0 rfl (by decide) rfl foM_0_0 rfl dX7_dropsPhrase_54 ?_
      refine z_bipush (pc := 57) (v := 21) dX7_dropsPhrase_57 (by decide +kernel) ?_
      refine z_iload_n (pc := 59) 1 dX7_dropsPhrase_59 rfl rfl ?_
      refine z_iadd (pc := 60) dX7_dropsPhrase_60 ?_
      refine z_aload_n (pc := 61) 0 dX7_dropsPhrase_61 rfl rfl ?_
      refine z_get (pc := 62) (v := .ref (g.2.2.1 1)) flX7_7 jnX7 ltM_0 kdM_0 rfl (by decide) rfl foM_0_0 rfl dX7_dropsPhrase_62 ?_
      refine z_bipush (pc := 65) (v := 21) dX7_dropsPhrase_65 (by decide +kernel) ?_
      refine z_iload_n (pc := 67) 1 dX7_dropsPhrase_67 rfl rfl ?_
      refine z_iadd (pc := 68) dX7_dropsPhrase_68 ?_
      refine z_iconst (pc := 69) (v := 1) dX7_dropsPhrase_69 rfl ?_
      refine z_iadd (pc := 70) dX7_dropsPhrase_70 ?_
      refine z_iaload_g (pc := 71) ltM_1 kdM_1 dX7_dropsPhrase_71 ?_
      refine z_iastore_g (pc := 72) ltM_1 kdM_1 dX7_dropsPhrase_72 ?_
      refine z_iconst (pc := 73) (v := 0) dX7_dropsPhrase_73 rfl ?_
      refine z_istore_n (pc := 74) (lv2 := [(0, .ref (g.2.2.1 0)), (2, .int y2), (3, .int (0 : Int32))]) [1, 2, 0] dX7_dropsPhrase_74 rfl (by decide) rfl ?_
      refine w_X7_dropsPhrase_75 g y2 FU (0 : Int32) (si (si μ 1 (((9 : Int32) + y2).toNatClampNeg) (μ.1 1 ((((9 : Int32) + y2) + (1 : Int32)).toNatClampNeg))) 1 (((21 : Int32) + y2).toNatClampNeg) ((si μ 1 (((9 : Int32) + y2).toNatClampNeg) (μ.1 1 ((((9 : Int32) + y2) + (1 : Int32)).toNatClampNeg))).1 1 ((((21 : Int32) + y2) + (1 : Int32)).toNatClampNeg))) _ (fun  μ6 => ?_)
      refine z_iinc (pc := 116) (v := y2 + 1) (lv2 := [(0, .ref (g.2.2.1 0)), (2, .int (y2 + 1))]) 1 [1, 0] dX7_dropsPhrase_116 rfl (by rw [oi_1]) (by decide) rfl ?_
      refine z_goto (pc := 119) (tgt := 23) dX7_dropsPhrase_119 (by decide) ?_
      exact ih _ _ _ hk
def f_X7_dropsPhrase (a1 : Int32) (μ : Mm) : Option (Int32 × Mm) := bd (f_X7_isPhrase a1 μ) fun r1 μ2 => if r1 = 0 then (some ((-2 : Int32), μ2)) else (lp_X7_dropsPhrase_23 FU a1 (si μ2 1 0 ((μ2.1 1 0) - (1 : Int32))) (fun  μ7 => some (μ7.1 1 0, μ7)))
theorem m_X7_dropsPhrase (g : Gx) (μ : Mm) (a1 : Int32) : Zm g ΛM enI yX7_dropsPhrase cX7_dropsPhrase 4 (some .int) rX7_dropsPhrase [.ref (g.2.2.1 0), .int a1] μ (f_X7_dropsPhrase a1 μ) := by
  refine z_met (by decide +kernel) (Nat.le_of_ble_eq_true rfl) ?_
  change Zw g ΛM enI RX7 cX7_dropsPhrase 4 (some .int) rX7_dropsPhrase 0 [(0, .ref (g.2.2.1 0)), (1, .int a1)] [] μ (f_X7_dropsPhrase a1 μ)
  rw [f_X7_dropsPhrase]
  refine z_aload_n (pc := 0) 0 dX7_dropsPhrase_0 rfl rfl ?_
  refine z_iload_n (pc := 1) 1 dX7_dropsPhrase_1 rfl rfl ?_
  refine z_callV (pc := 2) (b := 0) (As := [.int a1]) (rest := []) kX7_78 (m_X7_isPhrase g μ a1) ltM_0 kdM_0 rfl rfl ⟨rfl, rfl⟩ ⟨Nat.le_of_ble_eq_true rfl, Nat.le_of_ble_eq_true rfl⟩ (Nat.le_of_ble_eq_true rfl) rfl rfl dX7_dropsPhrase_2 (fun r1 μ2 => ?_)
  change Zw g ΛM enI RX7 cX7_dropsPhrase 4 (some .int) rX7_dropsPhrase 5 [(0, .ref (g.2.2.1 0)), (1, .int a1)] [.int r1] μ2 _
  refine z_if_ne (pc := 5) (tgt := 11) dX7_dropsPhrase_5 (by decide) (fun h3 => ?_) (fun h3 => ?_)
  · refine z_aload_n (pc := 11) 0 dX7_dropsPhrase_11 rfl rfl ?_
    refine z_get (pc := 12) (v := .ref (g.2.2.1 1)) flX7_7 jnX7 ltM_0 kdM_0 rfl (by decide) rfl foM_0_0 rfl dX7_dropsPhrase_12 ?_
    refine z_iconst (pc := 15) (v := 0) dX7_dropsPhrase_15 rfl ?_
    refine z_dup2 (pc := 16) dX7_dropsPhrase_16 rfl rfl ?_
    refine z_iaload (pc := 17) (j := 0) ltM_1 kdM_1 (by decide +kernel) (by decide +kernel) dX7_dropsPhrase_17 ?_
    refine z_iconst (pc := 18) (v := 1) dX7_dropsPhrase_18 rfl ?_
    refine z_isub (pc := 19) dX7_dropsPhrase_19 ?_
    refine z_iastore (pc := 20) (j := 0) ltM_1 kdM_1 (by decide +kernel) (by decide +kernel) dX7_dropsPhrase_20 ?_
    refine z_iload_n (pc := 21) 1 dX7_dropsPhrase_21 rfl rfl ?_
    refine z_istore_n (pc := 22) (lv2 := [(0, .ref (g.2.2.1 0)), (1, .int a1), (2, .int a1)]) [1, 2, 0] dX7_dropsPhrase_22 rfl (by decide) rfl ?_
    refine z_sub (lv2 := [(0, .ref (g.2.2.1 0)), (2, .int a1)]) [0, 2] rfl ?_
    refine w_X7_dropsPhrase_23 g FU a1 (si μ2 1 0 ((μ2.1 1 0) - (1 : Int32))) _ (fun  μ7 => ?_)
    refine z_aload_n (pc := 122) 0 dX7_dropsPhrase_122 rfl rfl ?_
    refine z_get (pc := 123) (v := .ref (g.2.2.1 1)) flX7_7 jnX7 ltM_0 kdM_0 rfl (by decide) rfl foM_0_0 rfl dX7_dropsPhrase_123 ?_
    refine z_iconst (pc := 126) (v := 0) dX7_dropsPhrase_126 rfl ?_
    refine z_iaload (pc := 127) (j := 0) ltM_1 kdM_1 (by decide +kernel) (by decide +kernel) dX7_dropsPhrase_127 ?_
    exact z_iret dX7_dropsPhrase_128
  · refine z_bipush (pc := 8) (v := -2) dX7_dropsPhrase_8 (by decide +kernel) ?_
    exact z_iret dX7_dropsPhrase_10
def f_X7_sets (a1 : Int32) (a2 : Int32) (a3 : Int32) (a4 : Int32) (μ : Mm) : Option (Int32 × Mm) := bd (f_X7_within a2.toInt64 a3.toInt64 a4.toInt64 μ) fun r1 μ2 => if r1 = 0 then (some ((-2 : Int32), μ2)) else (if zin a1 148 then (if zin a1 148 then (some (μ2.1 1 a1.toNatClampNeg, (si μ2 1 a1.toNatClampNeg a2))) else none) else none)
theorem m_X7_sets (g : Gx) (μ : Mm) (a1 : Int32) (a2 : Int32) (a3 : Int32) (a4 : Int32) : Zm g ΛM enI yX7_sets cX7_sets 6 (some .int) rX7_sets [.ref (g.2.2.1 0), .int a1, .int a2, .int a3, .int a4] μ (f_X7_sets a1 a2 a3 a4 μ) := by
  refine z_met (by decide +kernel) (Nat.le_of_ble_eq_true rfl) ?_
  change Zw g ΛM enI RX7 cX7_sets 6 (some .int) rX7_sets 0 [(0, .ref (g.2.2.1 0)), (1, .int a1), (2, .int a2), (3, .int a3), (4, .int a4)] [] μ (f_X7_sets a1 a2 a3 a4 μ)
  rw [f_X7_sets]
  refine z_iload_n (pc := 0) 2 dX7_sets_0 rfl rfl ?_
  refine z_i2l (pc := 1) dX7_sets_1 ?_
  refine z_iload_n (pc := 2) 3 dX7_sets_2 rfl rfl ?_
  refine z_i2l (pc := 3) dX7_sets_3 ?_
  refine z_iload (pc := 4) 4 dX7_sets_4 rfl ?_
  refine z_i2l (pc := 6) dX7_sets_6 ?_
  refine z_callS (pc := 7) (As := [.long a2.toInt64, .long a3.toInt64, .long a4.toInt64]) (rest := []) kX7_47 (m_X7_within g μ a2.toInt64 a3.toInt64 a4.toInt64) ⟨rfl, rfl⟩ ⟨Nat.le_of_ble_eq_true rfl, Nat.le_of_ble_eq_true rfl⟩ (Nat.le_of_ble_eq_true rfl) rfl rfl dX7_sets_7 (fun r1 μ2 => ?_)
  change Zw g ΛM enI RX7 cX7_sets 6 (some .int) rX7_sets 10 [(0, .ref (g.2.2.1 0)), (1, .int a1), (2, .int a2), (3, .int a3), (4, .int a4)] [.int r1] μ2 _
  refine z_if_ne (pc := 10) (tgt := 16) dX7_sets_10 (by decide) (fun h3 => ?_) (fun h3 => ?_)
  · refine z_aload_n (pc := 16) 0 dX7_sets_16 rfl rfl ?_
    refine z_get (pc := 17) (v := .ref (g.2.2.1 1)) flX7_7 jnX7 ltM_0 kdM_0 rfl (by decide) rfl foM_0_0 rfl dX7_sets_17 ?_
    refine z_iload_n (pc := 20) 1 dX7_sets_20 rfl rfl ?_
    refine z_iaload_g (pc := 21) ltM_1 kdM_1 dX7_sets_21 ?_
    refine z_istore (pc := 22) (lv2 := [(0, .ref (g.2.2.1 0)), (1, .int a1), (2, .int a2), (3, .int a3), (4, .int a4), (5, .int (μ2.1 1 a1.toNatClampNeg))]) [1, 2, 3, 4, 5, 0] dX7_sets_22 (by decide) rfl ?_
    refine z_aload_n (pc := 24) 0 dX7_sets_24 rfl rfl ?_
    refine z_get (pc := 25) (v := .ref (g.2.2.1 1)) flX7_7 jnX7 ltM_0 kdM_0 rfl (by decide) rfl foM_0_0 rfl dX7_sets_25 ?_
    refine z_iload_n (pc := 28) 1 dX7_sets_28 rfl rfl ?_
    refine z_iload_n (pc := 29) 2 dX7_sets_29 rfl rfl ?_
    refine z_iastore_g (pc := 30) ltM_1 kdM_1 dX7_sets_30 ?_
    refine z_iload (pc := 31) 5 dX7_sets_31 rfl ?_
    exact z_iret dX7_sets_33
  · refine z_bipush (pc := 13) (v := -2) dX7_sets_13 (by decide +kernel) ?_
    exact z_iret dX7_sets_15
def f_X7_setsFollows (a1 : Int32) (a2 : Int32) (μ : Mm) : Option (Int32 × Mm) := bd (f_X7_within a1.toInt64 (0 : Int64) (3 : Int64) μ) fun r1 μ2 => if r1 = 0 then (some ((-2 : Int32), μ2)) else (bd (f_X7_sets ((5 : Int32) + a1) a2 (0 : Int32) (15 : Int32) μ2) fun r4 μ5 => some (r4, μ5))
theorem m_X7_setsFollows (g : Gx) (μ : Mm) (a1 : Int32) (a2 : Int32) : Zm g ΛM enI yX7_setsFollows cX7_setsFollows 3 (some .int) rX7_setsFollows [.ref (g.2.2.1 0), .int a1, .int a2] μ (f_X7_setsFollows a1 a2 μ) := by
  refine z_met (by decide +kernel) (Nat.le_of_ble_eq_true rfl) ?_
  change Zw g ΛM enI RX7 cX7_setsFollows 3 (some .int) rX7_setsFollows 0 [(0, .ref (g.2.2.1 0)), (1, .int a1), (2, .int a2)] [] μ (f_X7_setsFollows a1 a2 μ)
  rw [f_X7_setsFollows]
  refine z_iload_n (pc := 0) 1 dX7_setsFollows_0 rfl rfl ?_
  refine z_i2l (pc := 1) dX7_setsFollows_1 ?_
  refine z_lconst (pc := 2) (v := 0) dX7_setsFollows_2 (by decide +kernel) ?_
  refine z_ldc2 (pc := 3) (v := 3) klX7_72 dX7_setsFollows_3 ?_
  refine z_callS (pc := 6) (As := [.long a1.toInt64, .long (0 : Int64), .long (3 : Int64)]) (rest := []) kX7_47 (m_X7_within g μ a1.toInt64 (0 : Int64) (3 : Int64)) ⟨rfl, rfl⟩ ⟨Nat.le_of_ble_eq_true rfl, Nat.le_of_ble_eq_true rfl⟩ (Nat.le_of_ble_eq_true rfl) rfl rfl dX7_setsFollows_6 (fun r1 μ2 => ?_)
  change Zw g ΛM enI RX7 cX7_setsFollows 3 (some .int) rX7_setsFollows 9 [(0, .ref (g.2.2.1 0)), (1, .int a1), (2, .int a2)] [.int r1] μ2 _
  refine z_if_eq (pc := 9) (tgt := 26) dX7_setsFollows_9 (by decide) (fun h3 => ?_) (fun h3 => ?_)
  · refine z_bipush (pc := 26) (v := -2) dX7_setsFollows_26 (by decide +kernel) ?_
    exact z_iret dX7_setsFollows_28
  · refine z_aload_n (pc := 12) 0 dX7_setsFollows_12 rfl rfl ?_
    refine z_iconst (pc := 13) (v := 5) dX7_setsFollows_13 rfl ?_
    refine z_iload_n (pc := 14) 1 dX7_setsFollows_14 rfl rfl ?_
    refine z_iadd (pc := 15) dX7_setsFollows_15 ?_
    refine z_iload_n (pc := 16) 2 dX7_setsFollows_16 rfl rfl ?_
    refine z_iconst (pc := 17) (v := 0) dX7_setsFollows_17 rfl ?_
    refine z_bipush (pc := 18) (v := 15) dX7_setsFollows_18 (by decide +kernel) ?_
    refine z_callV (pc := 20) (b := 0) (As := [.int ((5 : Int32) + a1), .int a2, .int (0 : Int32), .int (15 : Int32)]) (rest := []) kX7_81 (m_X7_sets g μ2 ((5 : Int32) + a1) a2 (0 : Int32) (15 : Int32)) ltM_0 kdM_0 rfl rfl ⟨rfl, rfl⟩ ⟨Nat.le_of_ble_eq_true rfl, Nat.le_of_ble_eq_true rfl⟩ (Nat.le_of_ble_eq_true rfl) rfl rfl dX7_setsFollows_20 (fun r4 μ5 => ?_)
    change Zw g ΛM enI RX7 cX7_setsFollows 3 (some .int) rX7_setsFollows 23 [(0, .ref (g.2.2.1 0)), (1, .int a1), (2, .int a2)] [.int r4] μ5 _
    refine z_goto (pc := 23) (tgt := 28) dX7_setsFollows_23 (by decide) ?_
    exact z_iret dX7_setsFollows_28
def f_X7_setsMark (a1 : Int32) (a2 : Int32) (μ : Mm) : Option (Int32 × Mm) := bd (f_X7_within a1.toInt64 (1 : Int64) (39 : Int64) μ) fun r1 μ2 => if r1 = 0 then (some ((-2 : Int32), μ2)) else (bd (f_X7_sets ((108 : Int32) + a1) a2 (0 : Int32) (2 : Int32) μ2) fun r4 μ5 => some (r4, μ5))
theorem m_X7_setsMark (g : Gx) (μ : Mm) (a1 : Int32) (a2 : Int32) : Zm g ΛM enI yX7_setsMark cX7_setsMark 3 (some .int) rX7_setsMark [.ref (g.2.2.1 0), .int a1, .int a2] μ (f_X7_setsMark a1 a2 μ) := by
  refine z_met (by decide +kernel) (Nat.le_of_ble_eq_true rfl) ?_
  change Zw g ΛM enI RX7 cX7_setsMark 3 (some .int) rX7_setsMark 0 [(0, .ref (g.2.2.1 0)), (1, .int a1), (2, .int a2)] [] μ (f_X7_setsMark a1 a2 μ)
  rw [f_X7_setsMark]
  refine z_iload_n (pc := 0) 1 dX7_setsMark_0 rfl rfl ?_
  refine z_i2l (pc := 1) dX7_setsMark_1 ?_
  refine z_lconst (pc := 2) (v := 1) dX7_setsMark_2 (by decide +kernel) ?_
  refine z_ldc2 (pc := 3) (v := 39) klX7_85 dX7_setsMark_3 ?_
  refine z_callS (pc := 6) (As := [.long a1.toInt64, .long (1 : Int64), .long (39 : Int64)]) (rest := []) kX7_47 (m_X7_within g μ a1.toInt64 (1 : Int64) (39 : Int64)) ⟨rfl, rfl⟩ ⟨Nat.le_of_ble_eq_true rfl, Nat.le_of_ble_eq_true rfl⟩ (Nat.le_of_ble_eq_true rfl) rfl rfl dX7_setsMark_6 (fun r1 μ2 => ?_)
  change Zw g ΛM enI RX7 cX7_setsMark 3 (some .int) rX7_setsMark 9 [(0, .ref (g.2.2.1 0)), (1, .int a1), (2, .int a2)] [.int r1] μ2 _
  refine z_if_eq (pc := 9) (tgt := 26) dX7_setsMark_9 (by decide) (fun h3 => ?_) (fun h3 => ?_)
  · refine z_bipush (pc := 26) (v := -2) dX7_setsMark_26 (by decide +kernel) ?_
    exact z_iret dX7_setsMark_28
  · refine z_aload_n (pc := 12) 0 dX7_setsMark_12 rfl rfl ?_
    refine z_bipush (pc := 13) (v := 108) dX7_setsMark_13 (by decide +kernel) ?_
    refine z_iload_n (pc := 15) 1 dX7_setsMark_15 rfl rfl ?_
    refine z_iadd (pc := 16) dX7_setsMark_16 ?_
    refine z_iload_n (pc := 17) 2 dX7_setsMark_17 rfl rfl ?_
    refine z_iconst (pc := 18) (v := 0) dX7_setsMark_18 rfl ?_
    refine z_iconst (pc := 19) (v := 2) dX7_setsMark_19 rfl ?_
    refine z_callV (pc := 20) (b := 0) (As := [.int ((108 : Int32) + a1), .int a2, .int (0 : Int32), .int (2 : Int32)]) (rest := []) kX7_81 (m_X7_sets g μ2 ((108 : Int32) + a1) a2 (0 : Int32) (2 : Int32)) ltM_0 kdM_0 rfl rfl ⟨rfl, rfl⟩ ⟨Nat.le_of_ble_eq_true rfl, Nat.le_of_ble_eq_true rfl⟩ (Nat.le_of_ble_eq_true rfl) rfl rfl dX7_setsMark_20 (fun r4 μ5 => ?_)
    change Zw g ΛM enI RX7 cX7_setsMark 3 (some .int) rX7_setsMark 23 [(0, .ref (g.2.2.1 0)), (1, .int a1), (2, .int a2)] [.int r4] μ5 _
    refine z_goto (pc := 23) (tgt := 28) dX7_setsMark_23 (by decide) ?_
    exact z_iret dX7_setsMark_28
def f_X7_phrase (a1 : Int32) (a2 : Int32) (μ : Mm) : Option (Int32 × Mm) := bd (f_X7_laysAside μ) fun r1 μ2 => bd (f_X7_addsPhrase a1 a2 μ2) fun r3 μ4 => bd (f_X7_answers r3 μ4) fun r5 μ6 => some (r5, μ6)
theorem m_X7_phrase (g : Gx) (μ : Mm) (a1 : Int32) (a2 : Int32) : Zm g ΛM enI yX7_phrase cX7_phrase 3 (some .int) rX7_phrase [.ref (g.2.2.1 0), .int a1, .int a2] μ (f_X7_phrase a1 a2 μ) := by
  refine z_met (by decide +kernel) (Nat.le_of_ble_eq_true rfl) ?_
  change Zw g ΛM enI RX7 cX7_phrase 3 (some .int) rX7_phrase 0 [(0, .ref (g.2.2.1 0)), (1, .int a1), (2, .int a2)] [] μ (f_X7_phrase a1 a2 μ)
  rw [f_X7_phrase]
  refine z_aload_n (pc := 0) 0 dX7_phrase_0 rfl rfl ?_
  refine z_callV (pc := 1) (b := 0) (As := []) (rest := []) kX7_87 (m_X7_laysAside g μ) ltM_0 kdM_0 rfl rfl ⟨rfl, rfl⟩ ⟨Nat.le_of_ble_eq_true rfl, Nat.le_of_ble_eq_true rfl⟩ (Nat.le_of_ble_eq_true rfl) rfl rfl dX7_phrase_1 (fun r1 μ2 => ?_)
  change Zw g ΛM enI RX7 cX7_phrase 3 (some .int) rX7_phrase 4 [(0, .ref (g.2.2.1 0)), (1, .int a1), (2, .int a2)] [] μ2 _
  refine z_aload_n (pc := 4) 0 dX7_phrase_4 rfl rfl ?_
  refine z_aload_n (pc := 5) 0 dX7_phrase_5 rfl rfl ?_
  refine z_iload_n (pc := 6) 1 dX7_phrase_6 rfl rfl ?_
  refine z_iload_n (pc := 7) 2 dX7_phrase_7 rfl rfl ?_
  refine z_callV (pc := 8) (b := 0) (As := [.int a1, .int a2]) (rest := [.ref (g.2.2.1 0)]) kX7_90 (m_X7_addsPhrase g μ2 a1 a2) ltM_0 kdM_0 rfl rfl ⟨rfl, rfl⟩ ⟨Nat.le_of_ble_eq_true rfl, Nat.le_of_ble_eq_true rfl⟩ (Nat.le_of_ble_eq_true rfl) rfl rfl dX7_phrase_8 (fun r3 μ4 => ?_)
  change Zw g ΛM enI RX7 cX7_phrase 3 (some .int) rX7_phrase 11 [(0, .ref (g.2.2.1 0)), (1, .int a1), (2, .int a2)] [.int r3, .ref (g.2.2.1 0)] μ4 _
  refine z_callV (pc := 11) (b := 0) (As := [.int r3]) (rest := []) kX7_94 (m_X7_answers g μ4 r3) ltM_0 kdM_0 rfl rfl ⟨rfl, rfl⟩ ⟨Nat.le_of_ble_eq_true rfl, Nat.le_of_ble_eq_true rfl⟩ (Nat.le_of_ble_eq_true rfl) rfl rfl dX7_phrase_11 (fun r5 μ6 => ?_)
  change Zw g ΛM enI RX7 cX7_phrase 3 (some .int) rX7_phrase 14 [(0, .ref (g.2.2.1 0)), (1, .int a1), (2, .int a2)] [.int r5] μ6 _
  exact z_iret dX7_phrase_14
def f_X7_drops (a1 : Int32) (μ : Mm) : Option (Int32 × Mm) := bd (f_X7_laysAside μ) fun r1 μ2 => bd (f_X7_dropsPhrase a1 μ2) fun r3 μ4 => bd (f_X7_answers r3 μ4) fun r5 μ6 => some (r5, μ6)
theorem m_X7_drops (g : Gx) (μ : Mm) (a1 : Int32) : Zm g ΛM enI yX7_drops cX7_drops 2 (some .int) rX7_drops [.ref (g.2.2.1 0), .int a1] μ (f_X7_drops a1 μ) := by
  refine z_met (by decide +kernel) (Nat.le_of_ble_eq_true rfl) ?_
  change Zw g ΛM enI RX7 cX7_drops 2 (some .int) rX7_drops 0 [(0, .ref (g.2.2.1 0)), (1, .int a1)] [] μ (f_X7_drops a1 μ)
  rw [f_X7_drops]
  refine z_aload_n (pc := 0) 0 dX7_drops_0 rfl rfl ?_
  refine z_callV (pc := 1) (b := 0) (As := []) (rest := []) kX7_87 (m_X7_laysAside g μ) ltM_0 kdM_0 rfl rfl ⟨rfl, rfl⟩ ⟨Nat.le_of_ble_eq_true rfl, Nat.le_of_ble_eq_true rfl⟩ (Nat.le_of_ble_eq_true rfl) rfl rfl dX7_drops_1 (fun r1 μ2 => ?_)
  change Zw g ΛM enI RX7 cX7_drops 2 (some .int) rX7_drops 4 [(0, .ref (g.2.2.1 0)), (1, .int a1)] [] μ2 _
  refine z_aload_n (pc := 4) 0 dX7_drops_4 rfl rfl ?_
  refine z_aload_n (pc := 5) 0 dX7_drops_5 rfl rfl ?_
  refine z_iload_n (pc := 6) 1 dX7_drops_6 rfl rfl ?_
  refine z_callV (pc := 7) (b := 0) (As := [.int a1]) (rest := [.ref (g.2.2.1 0)]) kX7_98 (m_X7_dropsPhrase g μ2 a1) ltM_0 kdM_0 rfl rfl ⟨rfl, rfl⟩ ⟨Nat.le_of_ble_eq_true rfl, Nat.le_of_ble_eq_true rfl⟩ (Nat.le_of_ble_eq_true rfl) rfl rfl dX7_drops_7 (fun r3 μ4 => ?_)
  change Zw g ΛM enI RX7 cX7_drops 2 (some .int) rX7_drops 10 [(0, .ref (g.2.2.1 0)), (1, .int a1)] [.int r3, .ref (g.2.2.1 0)] μ4 _
  refine z_callV (pc := 10) (b := 0) (As := [.int r3]) (rest := []) kX7_94 (m_X7_answers g μ4 r3) ltM_0 kdM_0 rfl rfl ⟨rfl, rfl⟩ ⟨Nat.le_of_ble_eq_true rfl, Nat.le_of_ble_eq_true rfl⟩ (Nat.le_of_ble_eq_true rfl) rfl rfl dX7_drops_10 (fun r5 μ6 => ?_)
  change Zw g ΛM enI RX7 cX7_drops 2 (some .int) rX7_drops 13 [(0, .ref (g.2.2.1 0)), (1, .int a1)] [.int r5] μ6 _
  exact z_iret dX7_drops_13
def f_X7_begins (a1 : Int32) (μ : Mm) : Option (Int32 × Mm) := bd (f_X7_laysAside μ) fun r1 μ2 => bd (f_X7_sets (3 : Int32) a1 (0 : Int32) (15 : Int32) μ2) fun r3 μ4 => bd (f_X7_answers r3 μ4) fun r5 μ6 => some (r5, μ6)
theorem m_X7_begins (g : Gx) (μ : Mm) (a1 : Int32) : Zm g ΛM enI yX7_begins cX7_begins 2 (some .int) rX7_begins [.ref (g.2.2.1 0), .int a1] μ (f_X7_begins a1 μ) := by
  refine z_met (by decide +kernel) (Nat.le_of_ble_eq_true rfl) ?_
  change Zw g ΛM enI RX7 cX7_begins 2 (some .int) rX7_begins 0 [(0, .ref (g.2.2.1 0)), (1, .int a1)] [] μ (f_X7_begins a1 μ)
  rw [f_X7_begins]
  refine z_aload_n (pc := 0) 0 dX7_begins_0 rfl rfl ?_
  refine z_callV (pc := 1) (b := 0) (As := []) (rest := []) kX7_87 (m_X7_laysAside g μ) ltM_0 kdM_0 rfl rfl ⟨rfl, rfl⟩ ⟨Nat.le_of_ble_eq_true rfl, Nat.le_of_ble_eq_true rfl⟩ (Nat.le_of_ble_eq_true rfl) rfl rfl dX7_begins_1 (fun r1 μ2 => ?_)
  change Zw g ΛM enI RX7 cX7_begins 2 (some .int) rX7_begins 4 [(0, .ref (g.2.2.1 0)), (1, .int a1)] [] μ2 _
  refine z_aload_n (pc := 4) 0 dX7_begins_4 rfl rfl ?_
  refine z_aload_n (pc := 5) 0 dX7_begins_5 rfl rfl ?_
  refine z_iconst (pc := 6) (v := 3) dX7_begins_6 rfl ?_
  refine z_iload_n (pc := 7) 1 dX7_begins_7 rfl rfl ?_
  refine z_iconst (pc := 8) (v := 0) dX7_begins_8 rfl ?_
  refine z_bipush (pc := 9) (v := 15) dX7_begins_9 (by decide +kernel) ?_
  refine z_callV (pc := 11) (b := 0) (As := [.int (3 : Int32), .int a1, .int (0 : Int32), .int (15 : Int32)]) (rest := [.ref (g.2.2.1 0)]) kX7_81 (m_X7_sets g μ2 (3 : Int32) a1 (0 : Int32) (15 : Int32)) ltM_0 kdM_0 rfl rfl ⟨rfl, rfl⟩ ⟨Nat.le_of_ble_eq_true rfl, Nat.le_of_ble_eq_true rfl⟩ (Nat.le_of_ble_eq_true rfl) rfl rfl dX7_begins_11 (fun r3 μ4 => ?_)
  change Zw g ΛM enI RX7 cX7_begins 2 (some .int) rX7_begins 14 [(0, .ref (g.2.2.1 0)), (1, .int a1)] [.int r3, .ref (g.2.2.1 0)] μ4 _
  refine z_callV (pc := 14) (b := 0) (As := [.int r3]) (rest := []) kX7_94 (m_X7_answers g μ4 r3) ltM_0 kdM_0 rfl rfl ⟨rfl, rfl⟩ ⟨Nat.le_of_ble_eq_true rfl, Nat.le_of_ble_eq_true rfl⟩ (Nat.le_of_ble_eq_true rfl) rfl rfl dX7_begins_14 (fun r5 μ6 => ?_)
  change Zw g ΛM enI RX7 cX7_begins 2 (some .int) rX7_begins 17 [(0, .ref (g.2.2.1 0)), (1, .int a1)] [.int r5] μ6 _
  exact z_iret dX7_begins_17
def f_X7_ends (a1 : Int32) (μ : Mm) : Option (Int32 × Mm) := bd (f_X7_laysAside μ) fun r1 μ2 => bd (f_X7_sets (4 : Int32) a1 (0 : Int32) (15 : Int32) μ2) fun r3 μ4 => bd (f_X7_answers r3 μ4) fun r5 μ6 => some (r5, μ6)
theorem m_X7_ends (g : Gx) (μ : Mm) (a1 : Int32) : Zm g ΛM enI yX7_ends cX7_ends 2 (some .int) rX7_ends [.ref (g.2.2.1 0), .int a1] μ (f_X7_ends a1 μ) := by
  refine z_met (by decide +kernel) (Nat.le_of_ble_eq_true rfl) ?_
  change Zw g ΛM enI RX7 cX7_ends 2 (some .int) rX7_ends 0 [(0, .ref (g.2.2.1 0)), (1, .int a1)] [] μ (f_X7_ends a1 μ)
  rw [f_X7_ends]
  refine z_aload_n (pc := 0) 0 dX7_ends_0 rfl rfl ?_
  refine z_callV (pc := 1) (b := 0) (As := []) (rest := []) kX7_87 (m_X7_laysAside g μ) ltM_0 kdM_0 rfl rfl ⟨rfl, rfl⟩ ⟨Nat.le_of_ble_eq_true rfl, Nat.le_of_ble_eq_true rfl⟩ (Nat.le_of_ble_eq_true rfl) rfl rfl dX7_ends_1 (fun r1 μ2 => ?_)
  change Zw g ΛM enI RX7 cX7_ends 2 (some .int) rX7_ends 4 [(0, .ref (g.2.2.1 0)), (1, .int a1)] [] μ2 _
  refine z_aload_n (pc := 4) 0 dX7_ends_4 rfl rfl ?_
  refine z_aload_n (pc := 5) 0 dX7_ends_5 rfl rfl ?_
  refine z_iconst (pc := 6) (v := 4) dX7_ends_6 rfl ?_
  refine z_iload_n (pc := 7) 1 dX7_ends_7 rfl rfl ?_
  refine z_iconst (pc := 8) (v := 0) dX7_ends_8 rfl ?_
  refine z_bipush (pc := 9) (v := 15) dX7_ends_9 (by decide +kernel) ?_
  refine z_callV (pc := 11) (b := 0) (As := [.int (4 : Int32), .int a1, .int (0 : Int32), .int (15 : Int32)]) (rest := [.ref (g.2.2.1 0)]) kX7_81 (m_X7_sets g μ2 (4 : Int32) a1 (0 : Int32) (15 : Int32)) ltM_0 kdM_0 rfl rfl ⟨rfl, rfl⟩ ⟨Nat.le_of_ble_eq_true rfl, Nat.le_of_ble_eq_true rfl⟩ (Nat.le_of_ble_eq_true rfl) rfl rfl dX7_ends_11 (fun r3 μ4 => ?_)
  change Zw g ΛM enI RX7 cX7_ends 2 (some .int) rX7_ends 14 [(0, .ref (g.2.2.1 0)), (1, .int a1)] [.int r3, .ref (g.2.2.1 0)] μ4 _
  refine z_callV (pc := 14) (b := 0) (As := [.int r3]) (rest := []) kX7_94 (m_X7_answers g μ4 r3) ltM_0 kdM_0 rfl rfl ⟨rfl, rfl⟩ ⟨Nat.le_of_ble_eq_true rfl, Nat.le_of_ble_eq_true rfl⟩ (Nat.le_of_ble_eq_true rfl) rfl rfl dX7_ends_14 (fun r5 μ6 => ?_)
  change Zw g ΛM enI RX7 cX7_ends 2 (some .int) rX7_ends 17 [(0, .ref (g.2.2.1 0)), (1, .int a1)] [.int r5] μ6 _
  exact z_iret dX7_ends_17
def f_X7_follows (a1 : Int32) (a2 : Int32) (μ : Mm) : Option (Int32 × Mm) := bd (f_X7_laysAside μ) fun r1 μ2 => bd (f_X7_setsFollows a1 a2 μ2) fun r3 μ4 => bd (f_X7_answers r3 μ4) fun r5 μ6 => some (r5, μ6)
theorem m_X7_follows (g : Gx) (μ : Mm) (a1 : Int32) (a2 : Int32) : Zm g ΛM enI yX7_follows cX7_follows 3 (some .int) rX7_follows [.ref (g.2.2.1 0), .int a1, .int a2] μ (f_X7_follows a1 a2 μ) := by
  refine z_met (by decide +kernel) (Nat.le_of_ble_eq_true rfl) ?_
  change Zw g ΛM enI RX7 cX7_follows 3 (some .int) rX7_follows 0 [(0, .ref (g.2.2.1 0)), (1, .int a1), (2, .int a2)] [] μ (f_X7_follows a1 a2 μ)
  rw [f_X7_follows]
  refine z_aload_n (pc := 0) 0 dX7_follows_0 rfl rfl ?_
  refine z_callV (pc := 1) (b := 0) (As := []) (rest := []) kX7_87 (m_X7_laysAside g μ) ltM_0 kdM_0 rfl rfl ⟨rfl, rfl⟩ ⟨Nat.le_of_ble_eq_true rfl, Nat.le_of_ble_eq_true rfl⟩ (Nat.le_of_ble_eq_true rfl) rfl rfl dX7_follows_1 (fun r1 μ2 => ?_)
  change Zw g ΛM enI RX7 cX7_follows 3 (some .int) rX7_follows 4 [(0, .ref (g.2.2.1 0)), (1, .int a1), (2, .int a2)] [] μ2 _
  refine z_aload_n (pc := 4) 0 dX7_follows_4 rfl rfl ?_
  refine z_aload_n (pc := 5) 0 dX7_follows_5 rfl rfl ?_
  refine z_iload_n (pc := 6) 1 dX7_follows_6 rfl rfl ?_
  refine z_iload_n (pc := 7) 2 dX7_follows_7 rfl rfl ?_
  refine z_callV (pc := 8) (b := 0) (As := [.int a1, .int a2]) (rest := [.ref (g.2.2.1 0)]) kX7_101 (m_X7_setsFollows g μ2 a1 a2) ltM_0 kdM_0 rfl rfl ⟨rfl, rfl⟩ ⟨Nat.le_of_ble_eq_true rfl, Nat.le_of_ble_eq_true rfl⟩ (Nat.le_of_ble_eq_true rfl) rfl rfl dX7_follows_8 (fun r3 μ4 => ?_)
  change Zw g ΛM enI RX7 cX7_follows 3 (some .int) rX7_follows 11 [(0, .ref (g.2.2.1 0)), (1, .int a1), (2, .int a2)] [.int r3, .ref (g.2.2.1 0)] μ4 _
  refine z_callV (pc := 11) (b := 0) (As := [.int r3]) (rest := []) kX7_94 (m_X7_answers g μ4 r3) ltM_0 kdM_0 rfl rfl ⟨rfl, rfl⟩ ⟨Nat.le_of_ble_eq_true rfl, Nat.le_of_ble_eq_true rfl⟩ (Nat.le_of_ble_eq_true rfl) rfl rfl dX7_follows_11 (fun r5 μ6 => ?_)
  change Zw g ΛM enI RX7 cX7_follows 3 (some .int) rX7_follows 14 [(0, .ref (g.2.2.1 0)), (1, .int a1), (2, .int a2)] [.int r5] μ6 _
  exact z_iret dX7_follows_14
def f_X7_metre (a1 : Int32) (μ : Mm) : Option (Int32 × Mm) := bd (f_X7_laysAside μ) fun r1 μ2 => bd (f_X7_sets (2 : Int32) a1 (1 : Int32) (40 : Int32) μ2) fun r3 μ4 => bd (f_X7_answers r3 μ4) fun r5 μ6 => some (r5, μ6)
theorem m_X7_metre (g : Gx) (μ : Mm) (a1 : Int32) : Zm g ΛM enI yX7_metre cX7_metre 2 (some .int) rX7_metre [.ref (g.2.2.1 0), .int a1] μ (f_X7_metre a1 μ) := by
  refine z_met (by decide +kernel) (Nat.le_of_ble_eq_true rfl) ?_
  change Zw g ΛM enI RX7 cX7_metre 2 (some .int) rX7_metre 0 [(0, .ref (g.2.2.1 0)), (1, .int a1)] [] μ (f_X7_metre a1 μ)
  rw [f_X7_metre]
  refine z_aload_n (pc := 0) 0 dX7_metre_0 rfl rfl ?_
  refine z_callV (pc := 1) (b := 0) (As := []) (rest := []) kX7_87 (m_X7_laysAside g μ) ltM_0 kdM_0 rfl rfl ⟨rfl, rfl⟩ ⟨Nat.le_of_ble_eq_true rfl, Nat.le_of_ble_eq_true rfl⟩ (Nat.le_of_ble_eq_true rfl) rfl rfl dX7_metre_1 (fun r1 μ2 => ?_)
  change Zw g ΛM enI RX7 cX7_metre 2 (some .int) rX7_metre 4 [(0, .ref (g.2.2.1 0)), (1, .int a1)] [] μ2 _
  refine z_aload_n (pc := 4) 0 dX7_metre_4 rfl rfl ?_
  refine z_aload_n (pc := 5) 0 dX7_metre_5 rfl rfl ?_
  refine z_iconst (pc := 6) (v := 2) dX7_metre_6 rfl ?_
  refine z_iload_n (pc := 7) 1 dX7_metre_7 rfl rfl ?_
  refine z_iconst (pc := 8) (v := 1) dX7_metre_8 rfl ?_
  refine z_bipush (pc := 9) (v := 40) dX7_metre_9 (by decide +kernel) ?_
  refine z_callV (pc := 11) (b := 0) (As := [.int (2 : Int32), .int a1, .int (1 : Int32), .int (40 : Int32)]) (rest := [.ref (g.2.2.1 0)]) kX7_81 (m_X7_sets g μ2 (2 : Int32) a1 (1 : Int32) (40 : Int32)) ltM_0 kdM_0 rfl rfl ⟨rfl, rfl⟩ ⟨Nat.le_of_ble_eq_true rfl, Nat.le_of_ble_eq_true rfl⟩ (Nat.le_of_ble_eq_true rfl) rfl rfl dX7_metre_11 (fun r3 μ4 => ?_)
  change Zw g ΛM enI RX7 cX7_metre 2 (some .int) rX7_metre 14 [(0, .ref (g.2.2.1 0)), (1, .int a1)] [.int r3, .ref (g.2.2.1 0)] μ4 _
  refine z_callV (pc := 14) (b := 0) (As := [.int r3]) (rest := []) kX7_94 (m_X7_answers g μ4 r3) ltM_0 kdM_0 rfl rfl ⟨rfl, rfl⟩ ⟨Nat.le_of_ble_eq_true rfl, Nat.le_of_ble_eq_true rfl⟩ (Nat.le_of_ble_eq_true rfl) rfl rfl dX7_metre_14 (fun r5 μ6 => ?_)
  change Zw g ΛM enI RX7 cX7_metre 2 (some .int) rX7_metre 17 [(0, .ref (g.2.2.1 0)), (1, .int a1)] [.int r5] μ6 _
  exact z_iret dX7_metre_17
def f_X7_marks (a1 : Int32) (a2 : Int32) (μ : Mm) : Option (Int32 × Mm) := bd (f_X7_laysAside μ) fun r1 μ2 => bd (f_X7_setsMark a1 a2 μ2) fun r3 μ4 => bd (f_X7_answers r3 μ4) fun r5 μ6 => some (r5, μ6)
theorem m_X7_marks (g : Gx) (μ : Mm) (a1 : Int32) (a2 : Int32) : Zm g ΛM enI yX7_marks cX7_marks 3 (some .int) rX7_marks [.ref (g.2.2.1 0), .int a1, .int a2] μ (f_X7_marks a1 a2 μ) := by
  refine z_met (by decide +kernel) (Nat.le_of_ble_eq_true rfl) ?_
  change Zw g ΛM enI RX7 cX7_marks 3 (some .int) rX7_marks 0 [(0, .ref (g.2.2.1 0)), (1, .int a1), (2, .int a2)] [] μ (f_X7_marks a1 a2 μ)
  rw [f_X7_marks]
  refine z_aload_n (pc := 0) 0 dX7_marks_0 rfl rfl ?_
  refine z_callV (pc := 1) (b := 0) (As := []) (rest := []) kX7_87 (m_X7_laysAside g μ) ltM_0 kdM_0 rfl rfl ⟨rfl, rfl⟩ ⟨Nat.le_of_ble_eq_true rfl, Nat.le_of_ble_eq_true rfl⟩ (Nat.le_of_ble_eq_true rfl) rfl rfl dX7_marks_1 (fun r1 μ2 => ?_)
  change Zw g ΛM enI RX7 cX7_marks 3 (some .int) rX7_marks 4 [(0, .ref (g.2.2.1 0)), (1, .int a1), (2, .int a2)] [] μ2 _
  refine z_aload_n (pc := 4) 0 dX7_marks_4 rfl rfl ?_
  refine z_aload_n (pc := 5) 0 dX7_marks_5 rfl rfl ?_
  refine z_iload_n (pc := 6) 1 dX7_marks_6 rfl rfl ?_
  refine z_iload_n (pc := 7) 2 dX7_marks_7 rfl rfl ?_
  refine z_callV (pc := 8) (b := 0) (As := [.int a1, .int a2]) (rest := [.ref (g.2.2.1 0)]) kX7_104 (m_X7_setsMark g μ2 a1 a2) ltM_0 kdM_0 rfl rfl ⟨rfl, rfl⟩ ⟨Nat.le_of_ble_eq_true rfl, Nat.le_of_ble_eq_true rfl⟩ (Nat.le_of_ble_eq_true rfl) rfl rfl dX7_marks_8 (fun r3 μ4 => ?_)
  change Zw g ΛM enI RX7 cX7_marks 3 (some .int) rX7_marks 11 [(0, .ref (g.2.2.1 0)), (1, .int a1), (2, .int a2)] [.int r3, .ref (g.2.2.1 0)] μ4 _
  refine z_callV (pc := 11) (b := 0) (As := [.int r3]) (rest := []) kX7_94 (m_X7_answers g μ4 r3) ltM_0 kdM_0 rfl rfl ⟨rfl, rfl⟩ ⟨Nat.le_of_ble_eq_true rfl, Nat.le_of_ble_eq_true rfl⟩ (Nat.le_of_ble_eq_true rfl) rfl rfl dX7_marks_11 (fun r5 μ6 => ?_)
  change Zw g ΛM enI RX7 cX7_marks 3 (some .int) rX7_marks 14 [(0, .ref (g.2.2.1 0)), (1, .int a1), (2, .int a2)] [.int r5] μ6 _
  exact z_iret dX7_marks_14
def f_X7_habitOf (a1 : Int32) (a2 : Int32) (μ : Mm) : Option (Int32 × Mm) := if zin (((33 : Int32) + ((12 : Int32) * a1)) + a2) 148 then (some (μ.1 1 ((((33 : Int32) + ((12 : Int32) * a1)) + a2).toNatClampNeg), μ)) else none
theorem m_X7_habitOf (g : Gx) (μ : Mm) (a1 : Int32) (a2 : Int32) : Zm g ΛM enI yX7_habitOf cX7_habitOf 3 (some .int) rX7_habitOf [.ref (g.2.2.1 0), .int a1, .int a2] μ (f_X7_habitOf a1 a2 μ) := by
  refine z_met (by decide +kernel) (Nat.le_of_ble_eq_true rfl) ?_
  change Zw g ΛM enI RX7 cX7_habitOf 3 (some .int) rX7_habitOf 0 [(0, .ref (g.2.2.1 0)), (1, .int a1), (2, .int a2)] [] μ (f_X7_habitOf a1 a2 μ)
  rw [f_X7_habitOf]
  refine z_aload_n (pc := 0) 0 dX7_habitOf_0 rfl rfl ?_
  refine z_get (pc := 1) (v := .ref (g.2.2.1 1)) flX7_7 jnX7 ltM_0 kdM_0 rfl (by decide) rfl foM_0_0 rfl dX7_habitOf_1 ?_
  refine z_bipush (pc := 4) (v := 33) dX7_habitOf_4 (by decide +kernel) ?_
  refine z_bipush (pc := 6) (v := 12) dX7_habitOf_6 (by decide +kernel) ?_
  refine z_iload_n (pc := 8) 1 dX7_habitOf_8 rfl rfl ?_
  refine z_imul (pc := 9) dX7_habitOf_9 ?_
  refine z_iadd (pc := 10) dX7_habitOf_10 ?_
  refine z_iload_n (pc := 11) 2 dX7_habitOf_11 rfl rfl ?_
  refine z_iadd (pc := 12) dX7_habitOf_12 ?_
  refine z_iaload_g (pc := 13) ltM_1 kdM_1 dX7_habitOf_13 ?_
  exact z_iret dX7_habitOf_14
def f_X7_tellPhrase (a1 : Int32) (a2 : Int32) (μ : Mm) : Option (Int32 × Mm) := if a2 = 0 then (if zin ((9 : Int32) + a1) 148 then (some (μ.1 1 (((9 : Int32) + a1).toNatClampNeg), μ)) else none) else (if a2 = 1 then (if zin ((21 : Int32) + a1) 148 then (bd (f_X7_sizeOf (μ.1 1 (((21 : Int32) + a1).toNatClampNeg)) μ) fun r3 μ4 => some (r3, μ4)) else none) else (if a2 = 2 then (if zin ((21 : Int32) + a1) 148 then (bd (f_X7_moraeOf (μ.1 1 (((21 : Int32) + a1).toNatClampNeg)) μ) fun r6 μ7 => some (r6, μ7)) else none) else (if a2 = 3 then (if zin ((21 : Int32) + a1) 148 then (some (μ.1 1 (((21 : Int32) + a1).toNatClampNeg), μ)) else none) else (bd (f_X7_habitOf (a2 - (4 : Int32)) a1 μ) fun r9 μ10 => some (r9, μ10)))))
theorem m_X7_tellPhrase (g : Gx) (μ : Mm) (a1 : Int32) (a2 : Int32) : Zm g ΛM enI yX7_tellPhrase cX7_tellPhrase 3 (some .int) rX7_tellPhrase [.ref (g.2.2.1 0), .int a1, .int a2] μ (f_X7_tellPhrase a1 a2 μ) := by
  refine z_met (by decide +kernel) (Nat.le_of_ble_eq_true rfl) ?_
  change Zw g ΛM enI RX7 cX7_tellPhrase 3 (some .int) rX7_tellPhrase 0 [(0, .ref (g.2.2.1 0)), (1, .int a1), (2, .int a2)] [] μ (f_X7_tellPhrase a1 a2 μ)
  rw [f_X7_tellPhrase]
  refine z_iload_n (pc := 0) 2 dX7_tellPhrase_0 rfl rfl ?_
  refine z_ite (fun h1 => ?_) (fun h1 => ?_)
  · refine z_tabIn (pc := 1) (tgt := 32) dX7_tellPhrase_1 (by rw [h1]; decide +kernel) (by rw [h1]; decide +kernel) (off := 31) (by rw [h1]; decide +kernel) (by decide) ?_
    refine z_aload_n (pc := 32) 0 dX7_tellPhrase_32 rfl rfl ?_
    refine z_get (pc := 33) (v := .ref (g.2.2.1 1)) flX7_7 jnX7 ltM_0 kdM_0 rfl (by decide) rfl foM_0_0 rfl dX7_tellPhrase_33 ?_
    refine z_bipush (pc := 36) (v := 9) dX7_tellPhrase_36 (by decide +kernel) ?_
    refine z_iload_n (pc := 38) 1 dX7_tellPhrase_38 rfl rfl ?_
    refine z_iadd (pc := 39) dX7_tellPhrase_39 ?_
    refine z_iaload_g (pc := 40) ltM_1 kdM_1 dX7_tellPhrase_40 ?_
    exact z_iret dX7_tellPhrase_41
  refine z_ite (fun h2 => ?_) (fun h2 => ?_)
  · refine z_tabIn (pc := 1) (tgt := 42) dX7_tellPhrase_1 (by rw [h2]; decide +kernel) (by rw [h2]; decide +kernel) (off := 41) (by rw [h2]; decide +kernel) (by decide) ?_
    refine z_aload_n (pc := 42) 0 dX7_tellPhrase_42 rfl rfl ?_
    refine z_get (pc := 43) (v := .ref (g.2.2.1 1)) flX7_7 jnX7 ltM_0 kdM_0 rfl (by decide) rfl foM_0_0 rfl dX7_tellPhrase_43 ?_
    refine z_bipush (pc := 46) (v := 21) dX7_tellPhrase_46 (by decide +kernel) ?_
    refine z_iload_n (pc := 48) 1 dX7_tellPhrase_48 rfl rfl ?_
    refine z_iadd (pc := 49) dX7_tellPhrase_49 ?_
    refine z_iaload_g (pc := 50) ltM_1 kdM_1 dX7_tellPhrase_50 ?_
    refine z_callS (pc := 51) (As := [.int (μ.1 1 (((21 : Int32) + a1).toNatClampNeg))]) (rest := []) kX7_107 (m_X7_sizeOf g μ (μ.1 1 (((21 : Int32) + a1).toNatClampNeg))) ⟨rfl, rfl⟩ ⟨Nat.le_of_ble_eq_true rfl, Nat.le_of_ble_eq_true rfl⟩ (Nat.le_of_ble_eq_true rfl) rfl rfl dX7_tellPhrase_51 (fun r3 μ4 => ?_)
    change Zw g ΛM enI RX7 cX7_tellPhrase 3 (some .int) rX7_tellPhrase 54 [(0, .ref (g.2.2.1 0)), (1, .int a1), (2, .int a2)] [.int r3] μ4 _
    exact z_iret dX7_tellPhrase_54
  refine z_ite (fun h5 => ?_) (fun h5 => ?_)
  · refine z_tabIn (pc := 1) (tgt := 55) dX7_tellPhrase_1 (by rw [h5]; decide +kernel) (by rw [h5]; decide +kernel) (off := 54) (by rw [h5]; decide +kernel) (by decide) ?_
    refine z_aload_n (pc := 55) 0 dX7_tellPhrase_55 rfl rfl ?_
    refine z_get (pc := 56) (v := .ref (g.2.2.1 1)) flX7_7 jnX7 ltM_0 kdM_0 rfl (by decide) rfl foM_0_0 rfl dX7_tellPhrase_56 ?_
    refine z_bipush (pc := 59) (v := 21) dX7_tellPhrase_59 (by decide +kernel) ?_
    refine z_iload_n (pc := 61) 1 dX7_tellPhrase_61 rfl rfl ?_
    refine z_iadd (pc := 62) dX7_tellPhrase_62 ?_
    refine z_iaload_g (pc := 63) ltM_1 kdM_1 dX7_tellPhrase_63 ?_
    refine z_callS (pc := 64) (As := [.int (μ.1 1 (((21 : Int32) + a1).toNatClampNeg))]) (rest := []) kX7_110 (m_X7_moraeOf g μ (μ.1 1 (((21 : Int32) + a1).toNatClampNeg))) ⟨rfl, rfl⟩ ⟨Nat.le_of_ble_eq_true rfl, Nat.le_of_ble_eq_true rfl⟩ (Nat.le_of_ble_eq_true rfl) rfl rfl dX7_tellPhrase_64 (fun r6 μ7 => ?_)
    change Zw g ΛM enI RX7 cX7_tellPhrase 3 (some .int) rX7_tellPhrase 67 [(0, .ref (g.2.2.1 0)), (1, .int a1), (2, .int a2)] [.int r6] μ7 _
    exact z_iret dX7_tellPhrase_67
  refine z_ite (fun h8 => ?_) (fun h8 => ?_)
  · refine z_tabIn (pc := 1) (tgt := 68) dX7_tellPhrase_1 (by rw [h8]; decide +kernel) (by rw [h8]; decide +kernel) (off := 67) (by rw [h8]; decide +kernel) (by decide) ?_
    refine z_aload_n (pc := 68) 0 dX7_tellPhrase_68 rfl rfl ?_
    refine z_get (pc := 69) (v := .ref (g.2.2.1 1)) flX7_7 jnX7 ltM_0 kdM_0 rfl (by decide) rfl foM_0_0 rfl dX7_tellPhrase_69 ?_
    refine z_bipush (pc := 72) (v := 21) dX7_tellPhrase_72 (by decide +kernel) ?_
    refine z_iload_n (pc := 74) 1 dX7_tellPhrase_74 rfl rfl ?_
    refine z_iadd (pc := 75) dX7_tellPhrase_75 ?_
    refine z_iaload_g (pc := 76) ltM_1 kdM_1 dX7_tellPhrase_76 ?_
    exact z_iret dX7_tellPhrase_77
  have eh1 : a2.toInt ≠ 0 := fun q => h1 (Int32.toInt_inj.mp (q.trans (by decide +kernel)))
  have eh2 : a2.toInt ≠ 1 := fun q => h2 (Int32.toInt_inj.mp (q.trans (by decide +kernel)))
  have eh5 : a2.toInt ≠ 2 := fun q => h5 (Int32.toInt_inj.mp (q.trans (by decide +kernel)))
  have eh8 : a2.toInt ≠ 3 := fun q => h8 (Int32.toInt_inj.mp (q.trans (by decide +kernel)))
  refine z_tabOut (pc := 1) (tgt := 78) dX7_tellPhrase_1 (by omega) (by decide) ?_
  refine z_aload_n (pc := 78) 0 dX7_tellPhrase_78 rfl rfl ?_
  refine z_iload_n (pc := 79) 2 dX7_tellPhrase_79 rfl rfl ?_
  refine z_iconst (pc := 80) (v := 4) dX7_tellPhrase_80 rfl ?_
  refine z_isub (pc := 81) dX7_tellPhrase_81 ?_
  refine z_iload_n (pc := 82) 1 dX7_tellPhrase_82 rfl rfl ?_
  refine z_callV (pc := 83) (b := 0) (As := [.int (a2 - (4 : Int32)), .int a1]) (rest := []) kX7_113 (m_X7_habitOf g μ (a2 - (4 : Int32)) a1) ltM_0 kdM_0 rfl rfl ⟨rfl, rfl⟩ ⟨Nat.le_of_ble_eq_true rfl, Nat.le_of_ble_eq_true rfl⟩ (Nat.le_of_ble_eq_true rfl) rfl rfl dX7_tellPhrase_83 (fun r9 μ10 => ?_)
  change Zw g ΛM enI RX7 cX7_tellPhrase 3 (some .int) rX7_tellPhrase 86 [(0, .ref (g.2.2.1 0)), (1, .int a1), (2, .int a2)] [.int r9] μ10 _
  exact z_iret dX7_tellPhrase_86
