def lp_X7_isRead_34 : Nat → Mm → (Mm → Option (Int32 × Mm)) → Option (Int32 × Mm)
  | 0, _, _ => none
  | n + 1, μ, k => if (μ.1 0 18) = 0 then (if (μ.1 0 6) ≤ (μ.1 0 17) then (k  μ) else (bd (f_X7_readsOrder μ) fun r6 μ7 => if (μ7.1 0 18) = 0 then (bd (f_X7_blanks μ7) fun r9 μ10 => lp_X7_isRead_34 n  μ10 k) else (lp_X7_isRead_34 n  μ7 k))) else (k  μ)
theorem w_X7_isRead_34 (g : Gx) : ∀ (n : Nat) (μ : Mm) (k : Mm → Option (Int32 × Mm)), (∀ (ν : Mm), Zw g ΛM enI RX7 cX7_isRead 1 (some .boolean) rX7_isRead 70 [(0, .ref (g.2.2.1 0))] [] ν (k  ν)) → Zw g ΛM enI RX7 cX7_isRead 1 (some .boolean) rX7_isRead 34 [(0, .ref (g.2.2.1 0))] [] μ (lp_X7_isRead_34 n μ k) := by
  intro n
  induction n with
  | zero =>
    intro μ k hk
    exact z_none
  | succ n ih =>
    intro μ k hk
    rw [lp_X7_isRead_34]
    refine z_aload_n (pc := 34) 0 dX7_isRead_34 rfl rfl ?_
    refine z_get (pc := 35) (v := .int (μ.1 0 18)) flX7_235 jnX7 ltM_0 kdM_0 rfl (by decide) rfl foM_0_18 rfl dX7_isRead_35 ?_
    refine z_if_ne (pc := 38) (tgt := 70) dX7_isRead_38 (by decide) (fun h4 => ?_) (fun h4 => ?_)
    · exact hk _
    · refine z_aload_n (pc := 41) 0 dX7_isRead_41 rfl rfl ?_
      refine z_get (pc := 42) (v := .int (μ.1 0 17)) flX7_226 jnX7 ltM_0 kdM_0 rfl (by decide) rfl foM_0_17 rfl dX7_isRead_42 ?_
      refine z_aload_n (pc := 45) 0 dX7_isRead_45 rfl rfl ?_
      refine z_get (pc := 46) (v := .int (μ.1 0 6)) flX7_223 jnX7 ltM_0 kdM_0 rfl (by decide) rfl foM_0_6 rfl dX7_isRead_46 ?_
      refine z_icmp_ge (pc := 49) (tgt := 70) dX7_isRead_49 (by decide) (fun h5 => ?_) (fun h5 => ?_)
      · exact hk _
      · refine z_aload_n (pc := 52) 0 dX7_isRead_52 rfl rfl ?_
        refine z_callV (pc := 53) (b := 0) (As := []) (rest := []) kX7_254 (m_X7_readsOrder g μ) ltM_0 kdM_0 rfl rfl ⟨rfl, rfl⟩ ⟨Nat.le_of_ble_eq_true rfl, Nat.le_of_ble_eq_true rfl⟩ (Nat.le_of_ble_eq_true rfl) rfl rfl dX7_isRead_53 (fun r6 μ7 => ?_)
        change Zw g ΛM enI RX7 cX7_isRead 1 (some .boolean) rX7_isRead 56 [(0, .ref (g.2.2.1 0))] [] μ7 _
        refine z_aload_n (pc := 56) 0 dX7_isRead_56 rfl rfl ?_
        refine z_get (pc := 57) (v := .int (μ7.1 0 18)) flX7_235 jnX7 ltM_0 kdM_0 rfl (by decide) rfl foM_0_18 rfl dX7_isRead_57 ?_
        refine z_if_ne (pc := 60) (tgt := 34) dX7_isRead_60 (by decide) (fun h8 => ?_) (fun h8 => ?_)
        · exact ih _ _ hk
        · refine z_aload_n (pc := 63) 0 dX7_isRead_63 rfl rfl ?_
          refine z_callV (pc := 64) (b := 0) (As := []) (rest := []) kX7_232 (m_X7_blanks g μ7) ltM_0 kdM_0 rfl rfl ⟨rfl, rfl⟩ ⟨Nat.le_of_ble_eq_true rfl, Nat.le_of_ble_eq_true rfl⟩ (Nat.le_of_ble_eq_true rfl) rfl rfl dX7_isRead_64 (fun r9 μ10 => ?_)
          change Zw g ΛM enI RX7 cX7_isRead 1 (some .boolean) rX7_isRead 67 [(0, .ref (g.2.2.1 0))] [] μ10 _
          refine z_goto (pc := 67) (tgt := 34) dX7_isRead_67 (by decide) ?_
          exact ih _ _ hk
def f_X7_isRead (μ : Mm) : Option (Int32 × Mm) := bd (f_X7_blanks (si (si μ 0 17 (0 : Int32)) 0 19 (0 : Int32))) fun r1 μ2 => if (μ2.1 0 17) = (μ2.1 0 6) then (lp_X7_isRead_34 FU (si μ2 0 18 (1 : Int32)) (fun  μ13 => if (μ13.1 0 18) = 0 then (some ((1 : Int32), μ13)) else (some ((0 : Int32), μ13)))) else (lp_X7_isRead_34 FU (si μ2 0 18 (0 : Int32)) (fun  μ11 => if (μ11.1 0 18) = 0 then (some ((1 : Int32), μ11)) else (some ((0 : Int32), μ11))))
theorem m_X7_isRead (g : Gx) (μ : Mm) : Zm g ΛM enI yX7_isRead cX7_isRead 1 (some .boolean) rX7_isRead [.ref (g.2.2.1 0)] μ (f_X7_isRead μ) := by
  refine z_met (by decide +kernel) (Nat.le_of_ble_eq_true rfl) ?_
  change Zw g ΛM enI RX7 cX7_isRead 1 (some .boolean) rX7_isRead 0 [(0, .ref (g.2.2.1 0))] [] μ (f_X7_isRead μ)
  rw [f_X7_isRead]
  refine z_aload_n (pc := 0) 0 dX7_isRead_0 rfl rfl ?_
  refine z_iconst (pc := 1) (v := 0) dX7_isRead_1 rfl ?_
  refine z_puti (x := (0, 0)) (pc := 2) flX7_226 jnX7 tyX7 tyX7_ok nmX7 ltM_0 kdM_0 rfl (by decide) rfl foM_0_17 rfl ⟨rfl, rfl⟩ dX7_isRead_2 ?_
  refine z_aload_n (pc := 5) 0 dX7_isRead_5 rfl rfl ?_
  refine z_iconst (pc := 6) (v := 0) dX7_isRead_6 rfl ?_
  refine z_puti (x := (0, 0)) (pc := 7) flX7_238 jnX7 tyX7 tyX7_ok nmX7 ltM_0 kdM_0 rfl (by decide) rfl foM_0_19 rfl ⟨rfl, rfl⟩ dX7_isRead_7 ?_
  refine z_aload_n (pc := 10) 0 dX7_isRead_10 rfl rfl ?_
  refine z_callV (pc := 11) (b := 0) (As := []) (rest := []) kX7_232 (m_X7_blanks g (si (si μ 0 17 (0 : Int32)) 0 19 (0 : Int32))) ltM_0 kdM_0 rfl rfl ⟨rfl, rfl⟩ ⟨Nat.le_of_ble_eq_true rfl, Nat.le_of_ble_eq_true rfl⟩ (Nat.le_of_ble_eq_true rfl) rfl rfl dX7_isRead_11 (fun r1 μ2 => ?_)
  change Zw g ΛM enI RX7 cX7_isRead 1 (some .boolean) rX7_isRead 14 [(0, .ref (g.2.2.1 0))] [] μ2 _
  refine z_aload_n (pc := 14) 0 dX7_isRead_14 rfl rfl ?_
  refine z_aload_n (pc := 15) 0 dX7_isRead_15 rfl rfl ?_
  refine z_get (pc := 16) (v := .int (μ2.1 0 17)) flX7_226 jnX7 ltM_0 kdM_0 rfl (by decide) rfl foM_0_17 rfl dX7_isRead_16 ?_
  refine z_aload_n (pc := 19) 0 dX7_isRead_19 rfl rfl ?_
  refine z_get (pc := 20) (v := .int (μ2.1 0 6)) flX7_223 jnX7 ltM_0 kdM_0 rfl (by decide) rfl foM_0_6 rfl dX7_isRead_20 ?_
  refine z_icmp_ne (pc := 23) (tgt := 30) dX7_isRead_23 (by decide) (fun h3 => ?_) (fun h3 => ?_)
  · refine z_iconst (pc := 30) (v := 0) dX7_isRead_30 rfl ?_
    refine z_puti (x := (0, 0)) (pc := 31) flX7_235 jnX7 tyX7 tyX7_ok nmX7 ltM_0 kdM_0 rfl (by decide) rfl foM_0_18 rfl (zb_n (by decide)) dX7_isRead_31 ?_
    refine w_X7_isRead_34 g FU (si μ2 0 18 (0 : Int32)) _ (fun  μ11 => ?_)
    refine z_aload_n (pc := 70) 0 dX7_isRead_70 rfl rfl ?_
    refine z_get (pc := 71) (v := .int (μ11.1 0 18)) flX7_235 jnX7 ltM_0 kdM_0 rfl (by decide) rfl foM_0_18 rfl dX7_isRead_71 ?_
    refine z_if_ne (pc := 74) (tgt := 81) dX7_isRead_74 (by decide) (fun h12 => ?_) (fun h12 => ?_)
    · refine z_iconst (pc := 81) (v := 0) dX7_isRead_81 rfl ?_
      exact z_zret dX7_isRead_82 (by decide)
    · refine z_iconst (pc := 77) (v := 1) dX7_isRead_77 rfl ?_
      refine z_goto (pc := 78) (tgt := 82) dX7_isRead_78 (by decide) ?_
      exact z_zret dX7_isRead_82 (by decide)
  · refine z_iconst (pc := 26) (v := 1) dX7_isRead_26 rfl ?_
    refine z_goto (pc := 27) (tgt := 31) dX7_isRead_27 (by decide) ?_
    refine z_puti (x := (0, 0)) (pc := 31) flX7_235 jnX7 tyX7 tyX7_ok nmX7 ltM_0 kdM_0 rfl (by decide) rfl foM_0_18 rfl (zb_n (by decide)) dX7_isRead_31 ?_
    refine w_X7_isRead_34 g FU (si μ2 0 18 (1 : Int32)) _ (fun  μ13 => ?_)
    refine z_aload_n (pc := 70) 0 dX7_isRead_70 rfl rfl ?_
    refine z_get (pc := 71) (v := .int (μ13.1 0 18)) flX7_235 jnX7 ltM_0 kdM_0 rfl (by decide) rfl foM_0_18 rfl dX7_isRead_71 ?_
    refine z_if_ne (pc := 74) (tgt := 81) dX7_isRead_74 (by decide) (fun h14 => ?_) (fun h14 => ?_)
    · refine z_iconst (pc := 81) (v := 0) dX7_isRead_81 rfl ?_
      exact z_zret dX7_isRead_82 (by decide)
    · refine z_iconst (pc := 77) (v := 1) dX7_isRead_77 rfl ?_
      refine z_goto (pc := 78) (tgt := 82) dX7_isRead_78 (by decide) ?_
      exact z_zret dX7_isRead_82 (by decide)
def f_X7_isLetter (a1 : Int32) (μ : Mm) : Option (Int32 × Mm) := if (μ.1 0 6) ≤ a1 then (some ((0 : Int32), μ)) else (if zin a1 150 then (bd (f_X7_within ((μ.1 5 a1.toNatClampNeg).toInt64) (97 : Int64) (104 : Int64) μ) fun r2 μ3 => if r2 = 0 then (some ((0 : Int32), μ3)) else (some ((1 : Int32), μ3))) else none)
theorem m_X7_isLetter (g : Gx) (μ : Mm) (a1 : Int32) : Zm g ΛM enI yX7_isLetter cX7_isLetter 2 (some .boolean) rX7_isLetter [.ref (g.2.2.1 0), .int a1] μ (f_X7_isLetter a1 μ) := by
  refine z_met (by decide +kernel) (Nat.le_of_ble_eq_true rfl) ?_
  change Zw g ΛM enI RX7 cX7_isLetter 2 (some .boolean) rX7_isLetter 0 [(0, .ref (g.2.2.1 0)), (1, .int a1)] [] μ (f_X7_isLetter a1 μ)
  rw [f_X7_isLetter]
  refine z_iload_n (pc := 0) 1 dX7_isLetter_0 rfl rfl ?_
  refine z_aload_n (pc := 1) 0 dX7_isLetter_1 rfl rfl ?_
  refine z_get (pc := 2) (v := .int (μ.1 0 6)) flX7_223 jnX7 ltM_0 kdM_0 rfl (by decide) rfl foM_0_6 rfl dX7_isLetter_2 ?_
  refine z_icmp_ge (pc := 5) (tgt := 31) dX7_isLetter_5 (by decide) (fun h1 => ?_) (fun h1 => ?_)
  · refine z_iconst (pc := 31) (v := 0) dX7_isLetter_31 rfl ?_
    exact z_zret dX7_isLetter_32 (by decide)
  · refine z_aload_n (pc := 8) 0 dX7_isLetter_8 rfl rfl ?_
    refine z_get (pc := 9) (v := .ref (g.2.2.1 5)) flX7_22 jnX7 ltM_0 kdM_0 rfl (by decide) rfl foM_0_5 rfl dX7_isLetter_9 ?_
    refine z_iload_n (pc := 12) 1 dX7_isLetter_12 rfl rfl ?_
    refine z_iaload_g (pc := 13) ltM_5 kdM_5 dX7_isLetter_13 ?_
    refine z_i2l (pc := 14) dX7_isLetter_14 ?_
    refine z_ldc2 (pc := 15) (v := 97) klX7_257 dX7_isLetter_15 ?_
    refine z_ldc2 (pc := 18) (v := 104) klX7_259 dX7_isLetter_18 ?_
    refine z_callS (pc := 21) (As := [.long ((μ.1 5 a1.toNatClampNeg).toInt64), .long (97 : Int64), .long (104 : Int64)]) (rest := []) kX7_47 (m_X7_within g μ ((μ.1 5 a1.toNatClampNeg).toInt64) (97 : Int64) (104 : Int64)) ⟨rfl, rfl⟩ ⟨Nat.le_of_ble_eq_true rfl, Nat.le_of_ble_eq_true rfl⟩ (Nat.le_of_ble_eq_true rfl) rfl rfl dX7_isLetter_21 (fun r2 μ3 => ?_)
    change Zw g ΛM enI RX7 cX7_isLetter 2 (some .boolean) rX7_isLetter 24 [(0, .ref (g.2.2.1 0)), (1, .int a1)] [.int r2] μ3 _
    refine z_if_eq (pc := 24) (tgt := 31) dX7_isLetter_24 (by decide) (fun h4 => ?_) (fun h4 => ?_)
    · refine z_iconst (pc := 31) (v := 0) dX7_isLetter_31 rfl ?_
      exact z_zret dX7_isLetter_32 (by decide)
    · refine z_iconst (pc := 27) (v := 1) dX7_isLetter_27 rfl ?_
      refine z_goto (pc := 28) (tgt := 32) dX7_isLetter_28 (by decide) ?_
      exact z_zret dX7_isLetter_32 (by decide)
def lp_X7_codeFrom_4 : Nat → Int32 → Int32 → Mm → (Int32 → Mm → Option (Int32 × Mm)) → Option (Int32 × Mm)
  | 0, _, _, _, _ => none
  | n + 1, y2, y3, μ, k => bd (f_X7_isLetter y3 μ) fun r1 μ2 => if r1 = 0 then (k y2 μ2) else (if zin y3 150 then (lp_X7_codeFrom_4 n (((((10 : Int32) * y2) + (μ2.1 5 y3.toNatClampNeg)) - (97 : Int32)) + (1 : Int32)) (y3 + 1) μ2 k) else none)
theorem w_X7_codeFrom_4 (g : Gx) : ∀ (n : Nat) (y2 : Int32) (y3 : Int32) (μ : Mm) (k : Int32 → Mm → Option (Int32 × Mm)), (∀ (z2 : Int32) (ν : Mm), Zw g ΛM enI RX7 cX7_codeFrom 4 (some .int) rX7_codeFrom 35 [(2, .int z2)] [] ν (k z2 ν)) → Zw g ΛM enI RX7 cX7_codeFrom 4 (some .int) rX7_codeFrom 4 [(0, .ref (g.2.2.1 0)), (2, .int y2), (3, .int y3)] [] μ (lp_X7_codeFrom_4 n y2 y3 μ k) := by
  intro n
  induction n with
  | zero =>
    intro y2 y3 μ k hk
    exact z_none
  | succ n ih =>
    intro y2 y3 μ k hk
    rw [lp_X7_codeFrom_4]
    refine z_aload_n (pc := 4) 0 dX7_codeFrom_4 rfl rfl ?_
    refine z_iload_n (pc := 5) 2 dX7_codeFrom_5 rfl rfl ?_
    refine z_callV (pc := 6) (b := 0) (As := [.int y3]) (rest := []) kX7_261 (m_X7_isLetter g μ y3) ltM_0 kdM_0 rfl rfl ⟨rfl, rfl⟩ ⟨Nat.le_of_ble_eq_true rfl, Nat.le_of_ble_eq_true rfl⟩ (Nat.le_of_ble_eq_true rfl) rfl rfl dX7_codeFrom_6 (fun r1 μ2 => ?_)
    change Zw g ΛM enI RX7 cX7_codeFrom 4 (some .int) rX7_codeFrom 9 [(0, .ref (g.2.2.1 0)), (2, .int y2), (3, .int y3)] [.int r1] μ2 _
    refine z_if_eq (pc := 9) (tgt := 35) dX7_codeFrom_9 (by decide) (fun h3 => ?_) (fun h3 => ?_)
    · refine z_sub (lv2 := [(2, .int y2)]) [1] rfl ?_
      exact hk _ _
    · refine z_bipush (pc := 12) (v := 10) dX7_codeFrom_12 (by decide +kernel) ?_
      refine z_iload_n (pc := 14) 1 dX7_codeFrom_14 rfl rfl ?_
      refine z_imul (pc := 15) dX7_codeFrom_15 ?_
      refine z_aload_n (pc := 16) 0 dX7_codeFrom_16 rfl rfl ?_
      refine z_get (pc := 17) (v := .ref (g.2.2.1 5)) flX7_22 jnX7 ltM_0 kdM_0 rfl (by decide) rfl foM_0_5 rfl dX7_codeFrom_17 ?_
      refine z_iload_n (pc := 20) 2 dX7_codeFrom_20 rfl rfl ?_
      refine z_iaload_g (pc := 21) ltM_5 kdM_5 dX7_codeFrom_21 ?_
      refine z_iadd (pc := 22) dX7_codeFrom_22 ?_
      refine z_bipush (pc := 23) (v := 97) dX7_codeFrom_23 (by decide +kernel) ?_
      refine z_isub (pc := 25) dX7_codeFrom_25 ?_
      refine z_iconst (pc := 26) (v := 1) dX7_codeFrom_26 rfl ?_
      refine z_iadd (pc := 27) dX7_codeFrom_27 ?_
      refine z_istore_n (pc := 28) (lv2 := [(0, .ref (g.2.2.1 0)), (2, .int (((((10 : Int32) * y2) + (μ2.1 5 y3.toNatClampNeg)) - (97 : Int32)) + (1 : Int32))), (3, .int y3)]) [1, 0, 2] dX7_codeFrom_28 rfl (by decide) rfl ?_
      refine z_iinc (pc := 29) (v := y3 + 1) (lv2 := [(0, .ref (g.2.2.1 0)), (2, .int (((((10 : Int32) * y2) + (μ2.1 5 y3.toNatClampNeg)) - (97 : Int32)) + (1 : Int32))), (3, .int (y3 + 1))]) 2 [1, 2, 0] dX7_codeFrom_29 rfl (by rw [oi_1]) (by decide) rfl ?_
      refine z_goto (pc := 32) (tgt := 4) dX7_codeFrom_32 (by decide) ?_
      exact ih _ _ _ _ hk
def f_X7_codeFrom (a1 : Int32) (μ : Mm) : Option (Int32 × Mm) := lp_X7_codeFrom_4 FU (0 : Int32) a1 μ (fun x4 μ5 => some (x4, μ5))
theorem m_X7_codeFrom (g : Gx) (μ : Mm) (a1 : Int32) : Zm g ΛM enI yX7_codeFrom cX7_codeFrom 4 (some .int) rX7_codeFrom [.ref (g.2.2.1 0), .int a1] μ (f_X7_codeFrom a1 μ) := by
  refine z_met (by decide +kernel) (Nat.le_of_ble_eq_true rfl) ?_
  change Zw g ΛM enI RX7 cX7_codeFrom 4 (some .int) rX7_codeFrom 0 [(0, .ref (g.2.2.1 0)), (1, .int a1)] [] μ (f_X7_codeFrom a1 μ)
  rw [f_X7_codeFrom]
  refine z_iconst (pc := 0) (v := 0) dX7_codeFrom_0 rfl ?_
  refine z_istore_n (pc := 1) (lv2 := [(0, .ref (g.2.2.1 0)), (1, .int a1), (2, .int (0 : Int32))]) [1, 2, 0] dX7_codeFrom_1 rfl (by decide) rfl ?_
  refine z_iload_n (pc := 2) 1 dX7_codeFrom_2 rfl rfl ?_
  refine z_istore_n (pc := 3) (lv2 := [(0, .ref (g.2.2.1 0)), (1, .int a1), (2, .int (0 : Int32)), (3, .int a1)]) [1, 2, 3, 0] dX7_codeFrom_3 rfl (by decide) rfl ?_
  refine z_sub (lv2 := [(0, .ref (g.2.2.1 0)), (2, .int (0 : Int32)), (3, .int a1)]) [0, 2, 3] rfl ?_
  refine w_X7_codeFrom_4 g FU (0 : Int32) a1 μ _ (fun x4 μ5 => ?_)
  refine z_iload_n (pc := 35) 0 dX7_codeFrom_35 rfl rfl ?_
  exact z_iret dX7_codeFrom_36
def lp_X7_setsLine_9 : Nat → Int32 → Mm → (Mm → Option (Int32 × Mm)) → Option (Int32 × Mm)
  | 0, _, _, _ => none
  | n + 1, y2, μ, k => bd (f_X7_isLetter y2 μ) fun r1 μ2 => if r1 = 0 then (k  μ2) else (if zin y2 150 then (if zin ((69 : Int32) + (μ2.1 1 1)) 148 then (lp_X7_setsLine_9 n (y2 + 1) (si (si μ2 1 (((69 : Int32) + (μ2.1 1 1)).toNatClampNeg) (((μ2.1 5 y2.toNatClampNeg) - (97 : Int32)) + (1 : Int32))) 1 1 (((si μ2 1 (((69 : Int32) + (μ2.1 1 1)).toNatClampNeg) (((μ2.1 5 y2.toNatClampNeg) - (97 : Int32)) + (1 : Int32))).1 1 1) + (1 : Int32))) k) else none) else none)
theorem w_X7_setsLine_9 (g : Gx) : ∀ (n : Nat) (y2 : Int32) (μ : Mm) (k : Mm → Option (Int32 × Mm)), (∀ (ν : Mm), Zw g ΛM enI RX7 cX7_setsLine 3 (some .int) rX7_setsLine 58 [(0, .ref (g.2.2.1 0))] [] ν (k  ν)) → Zw g ΛM enI RX7 cX7_setsLine 3 (some .int) rX7_setsLine 9 [(0, .ref (g.2.2.1 0)), (2, .int y2)] [] μ (lp_X7_setsLine_9 n y2 μ k) := by
  intro n
  induction n with
  | zero =>
    intro y2 μ k hk
    exact z_none
  | succ n ih =>
    intro y2 μ k hk
    rw [lp_X7_setsLine_9]
    refine z_aload_n (pc := 9) 0 dX7_setsLine_9 rfl rfl ?_
    refine z_iload_n (pc := 10) 1 dX7_setsLine_10 rfl rfl ?_
    refine z_callV (pc := 11) (b := 0) (As := [.int y2]) (rest := []) kX7_261 (m_X7_isLetter g μ y2) ltM_0 kdM_0 rfl rfl ⟨rfl, rfl⟩ ⟨Nat.le_of_ble_eq_true rfl, Nat.le_of_ble_eq_true rfl⟩ (Nat.le_of_ble_eq_true rfl) rfl rfl dX7_setsLine_11 (fun r1 μ2 => ?_)
    change Zw g ΛM enI RX7 cX7_setsLine 3 (some .int) rX7_setsLine 14 [(0, .ref (g.2.2.1 0)), (2, .int y2)] [.int r1] μ2 _
    refine z_if_eq (pc := 14) (tgt := 58) dX7_setsLine_14 (by decide) (fun h3 => ?_) (fun h3 => ?_)
    · refine z_sub (lv2 := [(0, .ref (g.2.2.1 0))]) [0] rfl ?_
      exact hk _
    · refine z_aload_n (pc := 17) 0 dX7_setsLine_17 rfl rfl ?_
      refine z_get (pc := 18) (v := .ref (g.2.2.1 1)) flX7_7 jnX7 ltM_0 kdM_0 rfl (by decide) rfl foM_0_0 rfl dX7_setsLine_18 ?_
      refine z_bipush (pc := 21) (v := 69) dX7_setsLine_21 (by decide +kernel) ?_
      refine z_aload_n (pc := 23) 0 dX7_setsLine_23 rfl rfl ?_
      refine z_get (pc := 24) (v := .ref (g.2.2.1 1)) flX7_7 jnX7 ltM_0 kdM_0 rfl (by decide) rfl foM_0_0 rfl dX7_setsLine_24 ?_
      refine z_iconst (pc := 27) (v := 1) dX7_setsLine_27 rfl ?_
      refine z_iaload (pc := 28) (j := 1) ltM_1 kdM_1 (by decide +kernel) (by decide +kernel) dX7_setsLine_28 ?_
      refine z_iadd (pc := 29) dX7_setsLine_29 ?_
      refine z_aload_n (pc := 30) 0 dX7_setsLine_30 rfl rfl ?_
      refine z_get (pc := 31) (v := .ref (g.2.2.1 5)) flX7_22 jnX7 ltM_0 kdM_0 rfl (by decide) rfl foM_0_5 rfl dX7_setsLine_31 ?_
      refine z_iload_n (pc := 34) 1 dX7_setsLine_34 rfl rfl ?_
      refine z_iaload_g (pc := 35) ltM_5 kdM_5 dX7_setsLine_35 ?_
      refine z_bipush (pc := 36) (v := 97) dX7_setsLine_36 (by decide +kernel) ?_
      refine z_isub (pc := 38) dX7_setsLine_38 ?_
      refine z_iconst (pc := 39) (v := 1) dX7_setsLine_39 rfl ?_
      refine z_iadd (pc := 40) dX7_setsLine_40 ?_
      refine z_iastore_g (pc := 41) ltM_1 kdM_1 dX7_setsLine_41 ?_
      refine z_aload_n (pc := 42) 0 dX7_setsLine_42 rfl rfl ?_
      refine z_get (pc := 43) (v := .ref (g.2.2.1 1)) flX7_7 jnX7 ltM_0 kdM_0 rfl (by decide) rfl foM_0_0 rfl dX7_setsLine_43 ?_
      refine z_iconst (pc := 46) (v := 1) dX7_setsLine_46 rfl ?_
      refine z_dup2 (pc := 47) dX7_setsLine_47 rfl rfl ?_
      refine z_iaload (pc := 48) (j := 1) ltM_1 kdM_1 (by decide +kernel) (by decide +kernel) dX7_setsLine_48 ?_
      refine z_iconst (pc := 49) (v := 1) dX7_setsLine_49 rfl ?_
      refine z_iadd (pc := 50) dX7_setsLine_50 ?_
      refine z_iastore (pc := 51) (j := 1) ltM_1 kdM_1 (by decide +kernel) (by decide +kernel) dX7_setsLine_51 ?_
      refine z_iinc (pc := 52) (v := y2 + 1) (lv2 := [(0, .ref (g.2.2.1 0)), (2, .int (y2 + 1))]) 1 [1, 0] dX7_setsLine_52 rfl (by rw [oi_1]) (by decide) rfl ?_
      refine z_goto (pc := 55) (tgt := 9) dX7_setsLine_55 (by decide) ?_
      exact ih _ _ _ hk
def f_X7_setsLine (a1 : Int32) (μ : Mm) : Option (Int32 × Mm) := lp_X7_setsLine_9 FU a1 (si μ 1 1 (0 : Int32)) (fun  μ4 => some (μ4.1 1 1, μ4))
theorem m_X7_setsLine (g : Gx) (μ : Mm) (a1 : Int32) : Zm g ΛM enI yX7_setsLine cX7_setsLine 3 (some .int) rX7_setsLine [.ref (g.2.2.1 0), .int a1] μ (f_X7_setsLine a1 μ) := by
  refine z_met (by decide +kernel) (Nat.le_of_ble_eq_true rfl) ?_
  change Zw g ΛM enI RX7 cX7_setsLine 3 (some .int) rX7_setsLine 0 [(0, .ref (g.2.2.1 0)), (1, .int a1)] [] μ (f_X7_setsLine a1 μ)
  rw [f_X7_setsLine]
  refine z_aload_n (pc := 0) 0 dX7_setsLine_0 rfl rfl ?_
  refine z_get (pc := 1) (v := .ref (g.2.2.1 1)) flX7_7 jnX7 ltM_0 kdM_0 rfl (by decide) rfl foM_0_0 rfl dX7_setsLine_1 ?_
  refine z_iconst (pc := 4) (v := 1) dX7_setsLine_4 rfl ?_
  refine z_iconst (pc := 5) (v := 0) dX7_setsLine_5 rfl ?_
  refine z_iastore (pc := 6) (j := 1) ltM_1 kdM_1 (by decide +kernel) (by decide +kernel) dX7_setsLine_6 ?_
  refine z_iload_n (pc := 7) 1 dX7_setsLine_7 rfl rfl ?_
  refine z_istore_n (pc := 8) (lv2 := [(0, .ref (g.2.2.1 0)), (1, .int a1), (2, .int a1)]) [1, 2, 0] dX7_setsLine_8 rfl (by decide) rfl ?_
  refine z_sub (lv2 := [(0, .ref (g.2.2.1 0)), (2, .int a1)]) [0, 2] rfl ?_
  refine w_X7_setsLine_9 g FU a1 (si μ 1 1 (0 : Int32)) _ (fun  μ4 => ?_)
  refine z_aload_n (pc := 58) 0 dX7_setsLine_58 rfl rfl ?_
  refine z_get (pc := 59) (v := .ref (g.2.2.1 1)) flX7_7 jnX7 ltM_0 kdM_0 rfl (by decide) rfl foM_0_0 rfl dX7_setsLine_59 ?_
  refine z_iconst (pc := 62) (v := 1) dX7_setsLine_62 rfl ?_
  refine z_iaload (pc := 63) (j := 1) ltM_1 kdM_1 (by decide +kernel) (by decide +kernel) dX7_setsLine_63 ?_
  exact z_iret dX7_setsLine_64
def f_X7_doesOrder (a1 : Int32) (μ : Mm) : Option (Int32 × Mm) := if zin ((2 : Int32) * a1) 152 then (if zin (((2 : Int32) * a1) + (1 : Int32)) 152 then (if zin a1 76 then (if (μ.1 11 a1.toNatClampNeg) = 98 then (bd (f_X7_sets (3 : Int32) (μ.1 12 (((2 : Int32) * a1).toNatClampNeg)) (0 : Int32) (15 : Int32) μ) fun r2 μ3 => some (r2, μ3)) else (if (μ.1 11 a1.toNatClampNeg) = 101 then (bd (f_X7_sets (4 : Int32) (μ.1 12 (((2 : Int32) * a1).toNatClampNeg)) (0 : Int32) (15 : Int32) μ) fun r5 μ6 => some (r5, μ6)) else (if (μ.1 11 a1.toNatClampNeg) = 102 then (bd (f_X7_codeFrom (μ.1 12 ((((2 : Int32) * a1) + (1 : Int32)).toNatClampNeg)) μ) fun r8 μ9 => bd (f_X7_addsPhrase (μ.1 12 (((2 : Int32) * a1).toNatClampNeg)) r8 μ9) fun r10 μ11 => some (r10, μ11)) else (if (μ.1 11 a1.toNatClampNeg) = 107 then (bd (f_X7_setsMark (μ.1 12 (((2 : Int32) * a1).toNatClampNeg)) (μ.1 12 ((((2 : Int32) * a1) + (1 : Int32)).toNatClampNeg)) μ) fun r13 μ14 => some (r13, μ14)) else (if (μ.1 11 a1.toNatClampNeg) = 108 then (bd (f_X7_setsLine (μ.1 12 (((2 : Int32) * a1).toNatClampNeg)) μ) fun r16 μ17 => some (r16, μ17)) else (if (μ.1 11 a1.toNatClampNeg) = 115 then (bd (f_X7_singsOne (μ.1 12 (((2 : Int32) * a1).toNatClampNeg)) μ) fun r19 μ20 => some (r19, μ20)) else (if (μ.1 11 a1.toNatClampNeg) = 116 then (bd (f_X7_sets (2 : Int32) (μ.1 12 (((2 : Int32) * a1).toNatClampNeg)) (1 : Int32) (40 : Int32) μ) fun r22 μ23 => some (r22, μ23)) else (if (μ.1 11 a1.toNatClampNeg) = 119 then (bd (f_X7_setsFollows (μ.1 12 (((2 : Int32) * a1).toNatClampNeg)) (μ.1 12 ((((2 : Int32) * a1) + (1 : Int32)).toNatClampNeg)) μ) fun r25 μ26 => some (r25, μ26)) else (bd (f_X7_dropsPhrase (μ.1 12 (((2 : Int32) * a1).toNatClampNeg)) μ) fun r27 μ28 => some (r27, μ28)))))))))) else none) else none) else none
theorem m_X7_doesOrder (g : Gx) (μ : Mm) (a1 : Int32) : Zm g ΛM enI yX7_doesOrder cX7_doesOrder 4 (some .int) rX7_doesOrder [.ref (g.2.2.1 0), .int a1] μ (f_X7_doesOrder a1 μ) := by
  refine z_met (by decide +kernel) (Nat.le_of_ble_eq_true rfl) ?_
  change Zw g ΛM enI RX7 cX7_doesOrder 4 (some .int) rX7_doesOrder 0 [(0, .ref (g.2.2.1 0)), (1, .int a1)] [] μ (f_X7_doesOrder a1 μ)
  rw [f_X7_doesOrder]
  refine z_aload_n (pc := 0) 0 dX7_doesOrder_0 rfl rfl ?_
  refine z_get (pc := 1) (v := .ref (g.2.2.1 12)) flX7_44 jnX7 ltM_0 kdM_0 rfl (by decide) rfl foM_0_21 rfl dX7_doesOrder_1 ?_
  refine z_iconst (pc := 4) (v := 2) dX7_doesOrder_4 rfl ?_
  refine z_iload_n (pc := 5) 1 dX7_doesOrder_5 rfl rfl ?_
  refine z_imul (pc := 6) dX7_doesOrder_6 ?_
  refine z_iaload_g (pc := 7) ltM_12 kdM_12 dX7_doesOrder_7 ?_
  refine z_istore_n (pc := 8) (lv2 := [(0, .ref (g.2.2.1 0)), (1, .int a1), (2, .int (μ.1 12 (((2 : Int32) * a1).toNatClampNeg)))]) [1, 2, 0] dX7_doesOrder_8 rfl (by decide) rfl ?_
  refine z_aload_n (pc := 9) 0 dX7_doesOrder_9 rfl rfl ?_
  refine z_get (pc := 10) (v := .ref (g.2.2.1 12)) flX7_44 jnX7 ltM_0 kdM_0 rfl (by decide) rfl foM_0_21 rfl dX7_doesOrder_10 ?_
  refine z_iconst (pc := 13) (v := 2) dX7_doesOrder_13 rfl ?_
  refine z_iload_n (pc := 14) 1 dX7_doesOrder_14 rfl rfl ?_
  refine z_imul (pc := 15) dX7_doesOrder_15 ?_
  refine z_iconst (pc := 16) (v := 1) dX7_doesOrder_16 rfl ?_
  refine z_iadd (pc := 17) dX7_doesOrder_17 ?_
  refine z_iaload_g (pc := 18) ltM_12 kdM_12 dX7_doesOrder_18 ?_
  refine z_istore_n (pc := 19) (lv2 := [(0, .ref (g.2.2.1 0)), (1, .int a1), (2, .int (μ.1 12 (((2 : Int32) * a1).toNatClampNeg))), (3, .int (μ.1 12 ((((2 : Int32) * a1) + (1 : Int32)).toNatClampNeg)))]) [1, 2, 3, 0] dX7_doesOrder_19 rfl (by decide) rfl ?_
  refine z_aload_n (pc := 20) 0 dX7_doesOrder_20 rfl rfl ?_
  refine z_get (pc := 21) (v := .ref (g.2.2.1 11)) flX7_41 jnX7 ltM_0 kdM_0 rfl (by decide) rfl foM_0_20 rfl dX7_doesOrder_21 ?_
  refine z_iload_n (pc := 24) 1 dX7_doesOrder_24 rfl rfl ?_
  refine z_iaload_g (pc := 25) ltM_11 kdM_11 dX7_doesOrder_25 ?_
  refine z_ite (fun h1 => ?_) (fun h1 => ?_)
  · refine z_tabIn (pc := 26) (tgt := 145) dX7_doesOrder_26 (by rw [h1]; decide +kernel) (by rw [h1]; decide +kernel) (off := 119) (by rw [h1]; decide +kernel) (by decide) ?_
    refine z_aload_n (pc := 145) 0 dX7_doesOrder_145 rfl rfl ?_
    refine z_iconst (pc := 146) (v := 3) dX7_doesOrder_146 rfl ?_
    refine z_iload_n (pc := 147) 2 dX7_doesOrder_147 rfl rfl ?_
    refine z_iconst (pc := 148) (v := 0) dX7_doesOrder_148 rfl ?_
    refine z_bipush (pc := 149) (v := 15) dX7_doesOrder_149 (by decide +kernel) ?_
    refine z_callV (pc := 151) (b := 0) (As := [.int (3 : Int32), .int (μ.1 12 (((2 : Int32) * a1).toNatClampNeg)), .int (0 : Int32), .int (15 : Int32)]) (rest := []) kX7_81 (m_X7_sets g μ (3 : Int32) (μ.1 12 (((2 : Int32) * a1).toNatClampNeg)) (0 : Int32) (15 : Int32)) ltM_0 kdM_0 rfl rfl ⟨rfl, rfl⟩ ⟨Nat.le_of_ble_eq_true rfl, Nat.le_of_ble_eq_true rfl⟩ (Nat.le_of_ble_eq_true rfl) rfl rfl dX7_doesOrder_151 (fun r2 μ3 => ?_)
    change Zw g ΛM enI RX7 cX7_doesOrder 4 (some .int) rX7_doesOrder 154 [(0, .ref (g.2.2.1 0)), (1, .int a1), (2, .int (μ.1 12 (((2 : Int32) * a1).toNatClampNeg))), (3, .int (μ.1 12 ((((2 : Int32) * a1) + (1 : Int32)).toNatClampNeg)))] [.int r2] μ3 _
    exact z_iret dX7_doesOrder_154
  refine z_ite (fun h4 => ?_) (fun h4 => ?_)
  · refine z_tabIn (pc := 26) (tgt := 155) dX7_doesOrder_26 (by rw [h4]; decide +kernel) (by rw [h4]; decide +kernel) (off := 129) (by rw [h4]; decide +kernel) (by decide) ?_
    refine z_aload_n (pc := 155) 0 dX7_doesOrder_155 rfl rfl ?_
    refine z_iconst (pc := 156) (v := 4) dX7_doesOrder_156 rfl ?_
    refine z_iload_n (pc := 157) 2 dX7_doesOrder_157 rfl rfl ?_
    refine z_iconst (pc := 158) (v := 0) dX7_doesOrder_158 rfl ?_
    refine z_bipush (pc := 159) (v := 15) dX7_doesOrder_159 (by decide +kernel) ?_
    refine z_callV (pc := 161) (b := 0) (As := [.int (4 : Int32), .int (μ.1 12 (((2 : Int32) * a1).toNatClampNeg)), .int (0 : Int32), .int (15 : Int32)]) (rest := []) kX7_81 (m_X7_sets g μ (4 : Int32) (μ.1 12 (((2 : Int32) * a1).toNatClampNeg)) (0 : Int32) (15 : Int32)) ltM_0 kdM_0 rfl rfl ⟨rfl, rfl⟩ ⟨Nat.le_of_ble_eq_true rfl, Nat.le_of_ble_eq_true rfl⟩ (Nat.le_of_ble_eq_true rfl) rfl rfl dX7_doesOrder_161 (fun r5 μ6 => ?_)
    change Zw g ΛM enI RX7 cX7_doesOrder 4 (some .int) rX7_doesOrder 164 [(0, .ref (g.2.2.1 0)), (1, .int a1), (2, .int (μ.1 12 (((2 : Int32) * a1).toNatClampNeg))), (3, .int (μ.1 12 ((((2 : Int32) * a1) + (1 : Int32)).toNatClampNeg)))] [.int r5] μ6 _
    exact z_iret dX7_doesOrder_164
  refine z_ite (fun h7 => ?_) (fun h7 => ?_)
  · refine z_tabIn (pc := 26) (tgt := 128) dX7_doesOrder_26 (by rw [h7]; decide +kernel) (by rw [h7]; decide +kernel) (off := 102) (by rw [h7]; decide +kernel) (by decide) ?_
    refine z_aload_n (pc := 128) 0 dX7_doesOrder_128 rfl rfl ?_
    refine z_iload_n (pc := 129) 2 dX7_doesOrder_129 rfl rfl ?_
    refine z_aload_n (pc := 130) 0 dX7_doesOrder_130 rfl rfl ?_
    refine z_iload_n (pc := 131) 3 dX7_doesOrder_131 rfl rfl ?_
    refine z_callV (pc := 132) (b := 0) (As := [.int (μ.1 12 ((((2 : Int32) * a1) + (1 : Int32)).toNatClampNeg))]) (rest := [.int (μ.1 12 (((2 : Int32) * a1).toNatClampNeg)), .ref (g.2.2.1 0)]) kX7_264 (m_X7_codeFrom g μ (μ.1 12 ((((2 : Int32) * a1) + (1 : Int32)).toNatClampNeg))) ltM_0 kdM_0 rfl rfl ⟨rfl, rfl⟩ ⟨Nat.le_of_ble_eq_true rfl, Nat.le_of_ble_eq_true rfl⟩ (Nat.le_of_ble_eq_true rfl) rfl rfl dX7_doesOrder_132 (fun r8 μ9 => ?_)
    change Zw g ΛM enI RX7 cX7_doesOrder 4 (some .int) rX7_doesOrder 135 [(0, .ref (g.2.2.1 0)), (1, .int a1), (2, .int (μ.1 12 (((2 : Int32) * a1).toNatClampNeg))), (3, .int (μ.1 12 ((((2 : Int32) * a1) + (1 : Int32)).toNatClampNeg)))] [.int r8, .int (μ.1 12 (((2 : Int32) * a1).toNatClampNeg)), .ref (g.2.2.1 0)] μ9 _
    refine z_callV (pc := 135) (b := 0) (As := [.int (μ.1 12 (((2 : Int32) * a1).toNatClampNeg)), .int r8]) (rest := []) kX7_90 (m_X7_addsPhrase g μ9 (μ.1 12 (((2 : Int32) * a1).toNatClampNeg)) r8) ltM_0 kdM_0 rfl rfl ⟨rfl, rfl⟩ ⟨Nat.le_of_ble_eq_true rfl, Nat.le_of_ble_eq_true rfl⟩ (Nat.le_of_ble_eq_true rfl) rfl rfl dX7_doesOrder_135 (fun r10 μ11 => ?_)
    change Zw g ΛM enI RX7 cX7_doesOrder 4 (some .int) rX7_doesOrder 138 [(0, .ref (g.2.2.1 0)), (1, .int a1), (2, .int (μ.1 12 (((2 : Int32) * a1).toNatClampNeg))), (3, .int (μ.1 12 ((((2 : Int32) * a1) + (1 : Int32)).toNatClampNeg)))] [.int r10] μ11 _
    exact z_iret dX7_doesOrder_138
  refine z_ite (fun h12 => ?_) (fun h12 => ?_)
  · refine z_tabIn (pc := 26) (tgt := 182) dX7_doesOrder_26 (by rw [h12]; decide +kernel) (by rw [h12]; decide +kernel) (off := 156) (by rw [h12]; decide +kernel) (by decide) ?_
    refine z_aload_n (pc := 182) 0 dX7_doesOrder_182 rfl rfl ?_
    refine z_iload_n (pc := 183) 2 dX7_doesOrder_183 rfl rfl ?_
    refine z_iload_n (pc := 184) 3 dX7_doesOrder_184 rfl rfl ?_
    refine z_callV (pc := 185) (b := 0) (As := [.int (μ.1 12 (((2 : Int32) * a1).toNatClampNeg)), .int (μ.1 12 ((((2 : Int32) * a1) + (1 : Int32)).toNatClampNeg))]) (rest := []) kX7_104 (m_X7_setsMark g μ (μ.1 12 (((2 : Int32) * a1).toNatClampNeg)) (μ.1 12 ((((2 : Int32) * a1) + (1 : Int32)).toNatClampNeg))) ltM_0 kdM_0 rfl rfl ⟨rfl, rfl⟩ ⟨Nat.le_of_ble_eq_true rfl, Nat.le_of_ble_eq_true rfl⟩ (Nat.le_of_ble_eq_true rfl) rfl rfl dX7_doesOrder_185 (fun r13 μ14 => ?_)
    change Zw g ΛM enI RX7 cX7_doesOrder 4 (some .int) rX7_doesOrder 188 [(0, .ref (g.2.2.1 0)), (1, .int a1), (2, .int (μ.1 12 (((2 : Int32) * a1).toNatClampNeg))), (3, .int (μ.1 12 ((((2 : Int32) * a1) + (1 : Int32)).toNatClampNeg)))] [.int r13] μ14 _
    exact z_iret dX7_doesOrder_188
  refine z_ite (fun h15 => ?_) (fun h15 => ?_)
  · refine z_tabIn (pc := 26) (tgt := 139) dX7_doesOrder_26 (by rw [h15]; decide +kernel) (by rw [h15]; decide +kernel) (off := 113) (by rw [h15]; decide +kernel) (by decide) ?_
    refine z_aload_n (pc := 139) 0 dX7_doesOrder_139 rfl rfl ?_
    refine z_iload_n (pc := 140) 2 dX7_doesOrder_140 rfl rfl ?_
    refine z_callV (pc := 141) (b := 0) (As := [.int (μ.1 12 (((2 : Int32) * a1).toNatClampNeg))]) (rest := []) kX7_267 (m_X7_setsLine g μ (μ.1 12 (((2 : Int32) * a1).toNatClampNeg))) ltM_0 kdM_0 rfl rfl ⟨rfl, rfl⟩ ⟨Nat.le_of_ble_eq_true rfl, Nat.le_of_ble_eq_true rfl⟩ (Nat.le_of_ble_eq_true rfl) rfl rfl dX7_doesOrder_141 (fun r16 μ17 => ?_)
    change Zw g ΛM enI RX7 cX7_doesOrder 4 (some .int) rX7_doesOrder 144 [(0, .ref (g.2.2.1 0)), (1, .int a1), (2, .int (μ.1 12 (((2 : Int32) * a1).toNatClampNeg))), (3, .int (μ.1 12 ((((2 : Int32) * a1) + (1 : Int32)).toNatClampNeg)))] [.int r16] μ17 _
    exact z_iret dX7_doesOrder_144
  refine z_ite (fun h18 => ?_) (fun h18 => ?_)
  · refine z_tabIn (pc := 26) (tgt := 189) dX7_doesOrder_26 (by rw [h18]; decide +kernel) (by rw [h18]; decide +kernel) (off := 163) (by rw [h18]; decide +kernel) (by decide) ?_
    refine z_aload_n (pc := 189) 0 dX7_doesOrder_189 rfl rfl ?_
    refine z_iload_n (pc := 190) 2 dX7_doesOrder_190 rfl rfl ?_
    refine z_callV (pc := 191) (b := 0) (As := [.int (μ.1 12 (((2 : Int32) * a1).toNatClampNeg))]) (rest := []) kX7_215 (m_X7_singsOne g μ (μ.1 12 (((2 : Int32) * a1).toNatClampNeg))) ltM_0 kdM_0 rfl rfl ⟨rfl, rfl⟩ ⟨Nat.le_of_ble_eq_true rfl, Nat.le_of_ble_eq_true rfl⟩ (Nat.le_of_ble_eq_true rfl) rfl rfl dX7_doesOrder_191 (fun r19 μ20 => ?_)
    change Zw g ΛM enI RX7 cX7_doesOrder 4 (some .int) rX7_doesOrder 194 [(0, .ref (g.2.2.1 0)), (1, .int a1), (2, .int (μ.1 12 (((2 : Int32) * a1).toNatClampNeg))), (3, .int (μ.1 12 ((((2 : Int32) * a1) + (1 : Int32)).toNatClampNeg)))] [.int r19] μ20 _
    exact z_iret dX7_doesOrder_194
  refine z_ite (fun h21 => ?_) (fun h21 => ?_)
  · refine z_tabIn (pc := 26) (tgt := 172) dX7_doesOrder_26 (by rw [h21]; decide +kernel) (by rw [h21]; decide +kernel) (off := 146) (by rw [h21]; decide +kernel) (by decide) ?_
    refine z_aload_n (pc := 172) 0 dX7_doesOrder_172 rfl rfl ?_
    refine z_iconst (pc := 173) (v := 2) dX7_doesOrder_173 rfl ?_
    refine z_iload_n (pc := 174) 2 dX7_doesOrder_174 rfl rfl ?_
    refine z_iconst (pc := 175) (v := 1) dX7_doesOrder_175 rfl ?_
    refine z_bipush (pc := 176) (v := 40) dX7_doesOrder_176 (by decide +kernel) ?_
    refine z_callV (pc := 178) (b := 0) (As := [.int (2 : Int32), .int (μ.1 12 (((2 : Int32) * a1).toNatClampNeg)), .int (1 : Int32), .int (40 : Int32)]) (rest := []) kX7_81 (m_X7_sets g μ (2 : Int32) (μ.1 12 (((2 : Int32) * a1).toNatClampNeg)) (1 : Int32) (40 : Int32)) ltM_0 kdM_0 rfl rfl ⟨rfl, rfl⟩ ⟨Nat.le_of_ble_eq_true rfl, Nat.le_of_ble_eq_true rfl⟩ (Nat.le_of_ble_eq_true rfl) rfl rfl dX7_doesOrder_178 (fun r22 μ23 => ?_)
    change Zw g ΛM enI RX7 cX7_doesOrder 4 (some .int) rX7_doesOrder 181 [(0, .ref (g.2.2.1 0)), (1, .int a1), (2, .int (μ.1 12 (((2 : Int32) * a1).toNatClampNeg))), (3, .int (μ.1 12 ((((2 : Int32) * a1) + (1 : Int32)).toNatClampNeg)))] [.int r22] μ23 _
    exact z_iret dX7_doesOrder_181
  refine z_ite (fun h24 => ?_) (fun h24 => ?_)
  · refine z_tabIn (pc := 26) (tgt := 165) dX7_doesOrder_26 (by rw [h24]; decide +kernel) (by rw [h24]; decide +kernel) (off := 139) (by rw [h24]; decide +kernel) (by decide) ?_
    refine z_aload_n (pc := 165) 0 dX7_doesOrder_165 rfl rfl ?_
    refine z_iload_n (pc := 166) 2 dX7_doesOrder_166 rfl rfl ?_
    refine z_iload_n (pc := 167) 3 dX7_doesOrder_167 rfl rfl ?_
    refine z_callV (pc := 168) (b := 0) (As := [.int (μ.1 12 (((2 : Int32) * a1).toNatClampNeg)), .int (μ.1 12 ((((2 : Int32) * a1) + (1 : Int32)).toNatClampNeg))]) (rest := []) kX7_101 (m_X7_setsFollows g μ (μ.1 12 (((2 : Int32) * a1).toNatClampNeg)) (μ.1 12 ((((2 : Int32) * a1) + (1 : Int32)).toNatClampNeg))) ltM_0 kdM_0 rfl rfl ⟨rfl, rfl⟩ ⟨Nat.le_of_ble_eq_true rfl, Nat.le_of_ble_eq_true rfl⟩ (Nat.le_of_ble_eq_true rfl) rfl rfl dX7_doesOrder_168 (fun r25 μ26 => ?_)
    change Zw g ΛM enI RX7 cX7_doesOrder 4 (some .int) rX7_doesOrder 171 [(0, .ref (g.2.2.1 0)), (1, .int a1), (2, .int (μ.1 12 (((2 : Int32) * a1).toNatClampNeg))), (3, .int (μ.1 12 ((((2 : Int32) * a1) + (1 : Int32)).toNatClampNeg)))] [.int r25] μ26 _
    exact z_iret dX7_doesOrder_171
  have eh1 : (μ.1 11 a1.toNatClampNeg).toInt ≠ 98 := fun q => h1 (Int32.toInt_inj.mp (q.trans (by decide +kernel)))
  have eh4 : (μ.1 11 a1.toNatClampNeg).toInt ≠ 101 := fun q => h4 (Int32.toInt_inj.mp (q.trans (by decide +kernel)))
  have eh7 : (μ.1 11 a1.toNatClampNeg).toInt ≠ 102 := fun q => h7 (Int32.toInt_inj.mp (q.trans (by decide +kernel)))
  have eh12 : (μ.1 11 a1.toNatClampNeg).toInt ≠ 107 := fun q => h12 (Int32.toInt_inj.mp (q.trans (by decide +kernel)))
  have eh15 : (μ.1 11 a1.toNatClampNeg).toInt ≠ 108 := fun q => h15 (Int32.toInt_inj.mp (q.trans (by decide +kernel)))
  have eh18 : (μ.1 11 a1.toNatClampNeg).toInt ≠ 115 := fun q => h18 (Int32.toInt_inj.mp (q.trans (by decide +kernel)))
  have eh21 : (μ.1 11 a1.toNatClampNeg).toInt ≠ 116 := fun q => h21 (Int32.toInt_inj.mp (q.trans (by decide +kernel)))
  have eh24 : (μ.1 11 a1.toNatClampNeg).toInt ≠ 119 := fun q => h24 (Int32.toInt_inj.mp (q.trans (by decide +kernel)))
  by_cases h29 : (μ.1 11 a1.toNatClampNeg).toInt < 98 ∨ 119 < (μ.1 11 a1.toNatClampNeg).toInt
  · refine z_tabOut (pc := 26) (tgt := 195) dX7_doesOrder_26 h29 (by decide) ?_
    refine z_aload_n (pc := 195) 0 dX7_doesOrder_195 rfl rfl ?_
    refine z_iload_n (pc := 196) 2 dX7_doesOrder_196 rfl rfl ?_
    refine z_callV (pc := 197) (b := 0) (As := [.int (μ.1 12 (((2 : Int32) * a1).toNatClampNeg))]) (rest := []) kX7_98 (m_X7_dropsPhrase g μ (μ.1 12 (((2 : Int32) * a1).toNatClampNeg))) ltM_0 kdM_0 rfl rfl ⟨rfl, rfl⟩ ⟨Nat.le_of_ble_eq_true rfl, Nat.le_of_ble_eq_true rfl⟩ (Nat.le_of_ble_eq_true rfl) rfl rfl dX7_doesOrder_197 (fun r27 μ28 => ?_)
    change Zw g ΛM enI RX7 cX7_doesOrder 4 (some .int) rX7_doesOrder 200 [(0, .ref (g.2.2.1 0)), (1, .int a1), (2, .int (μ.1 12 (((2 : Int32) * a1).toNatClampNeg))), (3, .int (μ.1 12 ((((2 : Int32) * a1) + (1 : Int32)).toNatClampNeg)))] [.int r27] μ28 _
    exact z_iret dX7_doesOrder_200
  · have h30 : (μ.1 11 a1.toNatClampNeg).toInt = 99 ∨ (μ.1 11 a1.toNatClampNeg).toInt = 100 ∨ (μ.1 11 a1.toNatClampNeg).toInt = 103 ∨ (μ.1 11 a1.toNatClampNeg).toInt = 104 ∨ (μ.1 11 a1.toNatClampNeg).toInt = 105 ∨ (μ.1 11 a1.toNatClampNeg).toInt = 106 ∨ (μ.1 11 a1.toNatClampNeg).toInt = 109 ∨ (μ.1 11 a1.toNatClampNeg).toInt = 110 ∨ (μ.1 11 a1.toNatClampNeg).toInt = 111 ∨ (μ.1 11 a1.toNatClampNeg).toInt = 112 ∨ (μ.1 11 a1.toNatClampNeg).toInt = 113 ∨ (μ.1 11 a1.toNatClampNeg).toInt = 114 ∨ (μ.1 11 a1.toNatClampNeg).toInt = 117 ∨ (μ.1 11 a1.toNatClampNeg).toInt = 118 := by omega
    refine z_tabIn (pc := 26) (tgt := 195) dX7_doesOrder_26 (fun q => h29 (Or.inl q)) (fun q => h29 (Or.inr q)) (off := 169) (by rcases h30 with q | q | q | q | q | q | q | q | q | q | q | q | q | q <;> (rw [q]; decide +kernel)) (by decide) ?_
    refine z_aload_n (pc := 195) 0 dX7_doesOrder_195 rfl rfl ?_
    refine z_iload_n (pc := 196) 2 dX7_doesOrder_196 rfl rfl ?_
    refine z_callV (pc := 197) (b := 0) (As := [.int (μ.1 12 (((2 : Int32) * a1).toNatClampNeg))]) (rest := []) kX7_98 (m_X7_dropsPhrase g μ (μ.1 12 (((2 : Int32) * a1).toNatClampNeg))) ltM_0 kdM_0 rfl rfl ⟨rfl, rfl⟩ ⟨Nat.le_of_ble_eq_true rfl, Nat.le_of_ble_eq_true rfl⟩ (Nat.le_of_ble_eq_true rfl) rfl rfl dX7_doesOrder_197 (fun r27 μ28 => ?_)
    change Zw g ΛM enI RX7 cX7_doesOrder 4 (some .int) rX7_doesOrder 200 [(0, .ref (g.2.2.1 0)), (1, .int a1), (2, .int (μ.1 12 (((2 : Int32) * a1).toNatClampNeg))), (3, .int (μ.1 12 ((((2 : Int32) * a1) + (1 : Int32)).toNatClampNeg)))] [.int r27] μ28 _
    exact z_iret dX7_doesOrder_200
def lp_X7_reads_39 (c1 : Int32) : Nat → Int32 → Mm → (Mm → Option (Int32 × Mm)) → Option (Int32 × Mm)
  | 0, _, _, _ => none
  | n + 1, y2, μ, k => if (148 : Int32) ≤ y2 then (k  μ) else (if zin y2 148 then (if zin y2 148 then (lp_X7_reads_39 c1 n (y2 + 1) (si μ 1 y2.toNatClampNeg (μ.1 2 y2.toNatClampNeg)) k) else none) else none)
theorem w_X7_reads_39 (g : Gx) (c1 : Int32) : ∀ (n : Nat) (y2 : Int32) (μ : Mm) (k : Mm → Option (Int32 × Mm)), (∀ (ν : Mm), Zw g ΛM enI RX7 cX7_reads 3 (some .int) rX7_reads 64 [(1, .int c1)] [] ν (k  ν)) → Zw g ΛM enI RX7 cX7_reads 3 (some .int) rX7_reads 39 [(0, .ref (g.2.2.1 0)), (1, .int c1), (2, .int y2)] [] μ (lp_X7_reads_39 c1 n y2 μ k) := by
  intro n
  induction n with
  | zero =>
    intro y2 μ k hk
    exact z_none
  | succ n ih =>
    intro y2 μ k hk
    rw [lp_X7_reads_39]
    refine z_iload_n (pc := 39) 2 dX7_reads_39 rfl rfl ?_
    refine z_sipush (pc := 40) (v := 148) dX7_reads_40 (by decide +kernel) ?_
    refine z_icmp_ge (pc := 43) (tgt := 64) dX7_reads_43 (by decide) (fun h10 => ?_) (fun h10 => ?_)
    · refine z_sub (lv2 := [(1, .int c1)]) [1] rfl ?_
      exact hk _
    · refine z_aload_n (pc := 46) 0 dX7_reads_46 rfl rfl ?_
      refine z_get (pc := 47) (v := .ref (g.2.2.1 1)) flX7_7 jnX7 ltM_0 kdM_0 rfl (by decide) rfl foM_0_0 rfl dX7_reads_47 ?_
      refine z_iload_n (pc := 50) 2 dX7_reads_50 rfl rfl ?_
      refine z_aload_n (pc := 51) 0 dX7_reads_51 rfl rfl ?_
      refine z_get (pc := 52) (v := .ref (g.2.2.1 2)) flX7_13 jnX7 ltM_0 kdM_0 rfl (by decide) rfl foM_0_1 rfl dX7_reads_52 ?_
      refine z_iload_n (pc := 55) 2 dX7_reads_55 rfl rfl ?_
      refine z_iaload_g (pc := 56) ltM_2 kdM_2 dX7_reads_56 ?_
      refine z_iastore_g (pc := 57) ltM_1 kdM_1 dX7_reads_57 ?_
      refine z_iinc (pc := 58) (v := y2 + 1) (lv2 := [(0, .ref (g.2.2.1 0)), (1, .int c1), (2, .int (y2 + 1))]) 2 [1, 2, 0] dX7_reads_58 rfl (by rw [oi_1]) (by decide) rfl ?_
      refine z_goto (pc := 61) (tgt := 39) dX7_reads_61 (by decide) ?_
      exact ih _ _ _ hk
def lp_X7_reads_21 : Nat → Int32 → Mm → (Mm → Option (Int32 × Mm)) → Option (Int32 × Mm)
  | 0, _, _, _ => none
  | n + 1, y1, μ, k => if (μ.1 0 19) ≤ y1 then (k  μ) else (bd (f_X7_doesOrder y1 μ) fun r7 μ8 => if 0 ≤ r7 then (lp_X7_reads_21 n (y1 + 1) μ8 k) else (lp_X7_reads_39 y1 FU (0 : Int32) μ8 (fun  μ11 => some ((-1000 : Int32) - y1, μ11))))
theorem w_X7_reads_21 (g : Gx) : ∀ (n : Nat) (y1 : Int32) (μ : Mm) (k : Mm → Option (Int32 × Mm)), (∀ (ν : Mm), Zw g ΛM enI RX7 cX7_reads 3 (some .int) rX7_reads 76 [(0, .ref (g.2.2.1 0))] [] ν (k  ν)) → Zw g ΛM enI RX7 cX7_reads 3 (some .int) rX7_reads 21 [(0, .ref (g.2.2.1 0)), (1, .int y1)] [] μ (lp_X7_reads_21 n y1 μ k) := by
  intro n
  induction n with
  | zero =>
    intro y1 μ k hk
    exact z_none
  | succ n ih =>
    intro y1 μ k hk
    rw [lp_X7_reads_21]
    refine z_iload_n (pc := 21) 1 dX7_reads_21 rfl rfl ?_
    refine z_aload_n (pc := 22) 0 dX7_reads_22 rfl rfl ?_
    refine z_get (pc := 23) (v := .int (μ.1 0 19)) flX7_238 jnX7 ltM_0 kdM_0 rfl (by decide) rfl foM_0_19 rfl dX7_reads_23 ?_
    refine z_icmp_ge (pc := 26) (tgt := 76) dX7_reads_26 (by decide) (fun h6 => ?_) (fun h6 => ?_)
    · refine z_sub (lv2 := [(0, .ref (g.2.2.1 0))]) [0] rfl ?_
      exact hk _
    · refine z_aload_n (pc := 29) 0 dX7_reads_29 rfl rfl ?_
      refine z_iload_n (pc := 30) 1 dX7_reads_30 rfl rfl ?_
      refine z_callV (pc := 31) (b := 0) (As := [.int y1]) (rest := []) kX7_274 (m_X7_doesOrder g μ y1) ltM_0 kdM_0 rfl rfl ⟨rfl, rfl⟩ ⟨Nat.le_of_ble_eq_true rfl, Nat.le_of_ble_eq_true rfl⟩ (Nat.le_of_ble_eq_true rfl) rfl rfl dX7_reads_31 (fun r7 μ8 => ?_)
      change Zw g ΛM enI RX7 cX7_reads 3 (some .int) rX7_reads 34 [(0, .ref (g.2.2.1 0)), (1, .int y1)] [.int r7] μ8 _
      refine z_if_ge (pc := 34) (tgt := 70) dX7_reads_34 (by decide) (fun h9 => ?_) (fun h9 => ?_)
      · refine z_iinc (pc := 70) (v := y1 + 1) (lv2 := [(0, .ref (g.2.2.1 0)), (1, .int (y1 + 1))]) 1 [1, 0] dX7_reads_70 rfl (by rw [oi_1]) (by decide) rfl ?_
        refine z_goto (pc := 73) (tgt := 21) dX7_reads_73 (by decide) ?_
        exact ih _ _ _ hk
      · refine z_iconst (pc := 37) (v := 0) dX7_reads_37 rfl ?_
        refine z_istore_n (pc := 38) (lv2 := [(0, .ref (g.2.2.1 0)), (1, .int y1), (2, .int (0 : Int32))]) [1, 2, 0] dX7_reads_38 rfl (by decide) rfl ?_
        refine w_X7_reads_39 g y1 FU (0 : Int32) μ8 _ (fun  μ11 => ?_)
        refine z_sipush (pc := 64) (v := -1000) dX7_reads_64 (by decide +kernel) ?_
        refine z_iload_n (pc := 67) 0 dX7_reads_67 rfl rfl ?_
        refine z_isub (pc := 68) dX7_reads_68 ?_
        exact z_iret dX7_reads_69
def f_X7_reads (μ : Mm) : Option (Int32 × Mm) := bd (f_X7_isRead μ) fun r1 μ2 => if r1 = 0 then (some ((-10 : Int32) - (μ2.1 0 17), μ2)) else (bd (f_X7_laysAside μ2) fun r4 μ5 => lp_X7_reads_21 FU (0 : Int32) μ5 (fun  μ12 => bd (f_X7_leaves μ12) fun r13 μ14 => some (μ14.1 0 19, μ14)))
theorem m_X7_reads (g : Gx) (μ : Mm) : Zm g ΛM enI yX7_reads cX7_reads 3 (some .int) rX7_reads [.ref (g.2.2.1 0)] μ (f_X7_reads μ) := by
  refine z_met (by decide +kernel) (Nat.le_of_ble_eq_true rfl) ?_
  change Zw g ΛM enI RX7 cX7_reads 3 (some .int) rX7_reads 0 [(0, .ref (g.2.2.1 0))] [] μ (f_X7_reads μ)
  rw [f_X7_reads]
  refine z_aload_n (pc := 0) 0 dX7_reads_0 rfl rfl ?_
  refine z_callV (pc := 1) (b := 0) (As := []) (rest := []) kX7_270 (m_X7_isRead g μ) ltM_0 kdM_0 rfl rfl ⟨rfl, rfl⟩ ⟨Nat.le_of_ble_eq_true rfl, Nat.le_of_ble_eq_true rfl⟩ (Nat.le_of_ble_eq_true rfl) rfl rfl dX7_reads_1 (fun r1 μ2 => ?_)
  change Zw g ΛM enI RX7 cX7_reads 3 (some .int) rX7_reads 4 [(0, .ref (g.2.2.1 0))] [.int r1] μ2 _
  refine z_if_ne (pc := 4) (tgt := 15) dX7_reads_4 (by decide) (fun h3 => ?_) (fun h3 => ?_)
  · refine z_aload_n (pc := 15) 0 dX7_reads_15 rfl rfl ?_
    refine z_callV (pc := 16) (b := 0) (As := []) (rest := []) kX7_87 (m_X7_laysAside g μ2) ltM_0 kdM_0 rfl rfl ⟨rfl, rfl⟩ ⟨Nat.le_of_ble_eq_true rfl, Nat.le_of_ble_eq_true rfl⟩ (Nat.le_of_ble_eq_true rfl) rfl rfl dX7_reads_16 (fun r4 μ5 => ?_)
    change Zw g ΛM enI RX7 cX7_reads 3 (some .int) rX7_reads 19 [(0, .ref (g.2.2.1 0))] [] μ5 _
    refine z_iconst (pc := 19) (v := 0) dX7_reads_19 rfl ?_
    refine z_istore_n (pc := 20) (lv2 := [(0, .ref (g.2.2.1 0)), (1, .int (0 : Int32))]) [1, 0] dX7_reads_20 rfl (by decide) rfl ?_
    refine w_X7_reads_21 g FU (0 : Int32) μ5 _ (fun  μ12 => ?_)
    refine z_aload_n (pc := 76) 0 dX7_reads_76 rfl rfl ?_
    refine z_callV (pc := 77) (b := 0) (As := []) (rest := []) kX7_59 (m_X7_leaves g μ12) ltM_0 kdM_0 rfl rfl ⟨rfl, rfl⟩ ⟨Nat.le_of_ble_eq_true rfl, Nat.le_of_ble_eq_true rfl⟩ (Nat.le_of_ble_eq_true rfl) rfl rfl dX7_reads_77 (fun r13 μ14 => ?_)
    change Zw g ΛM enI RX7 cX7_reads 3 (some .int) rX7_reads 80 [(0, .ref (g.2.2.1 0))] [] μ14 _
    refine z_aload_n (pc := 80) 0 dX7_reads_80 rfl rfl ?_
    refine z_get (pc := 81) (v := .int (μ14.1 0 19)) flX7_238 jnX7 ltM_0 kdM_0 rfl (by decide) rfl foM_0_19 rfl dX7_reads_81 ?_
    exact z_iret dX7_reads_84
  · refine z_bipush (pc := 7) (v := -10) dX7_reads_7 (by decide +kernel) ?_
    refine z_aload_n (pc := 9) 0 dX7_reads_9 rfl rfl ?_
    refine z_get (pc := 10) (v := .int (μ2.1 0 17)) flX7_226 jnX7 ltM_0 kdM_0 rfl (by decide) rfl foM_0_17 rfl dX7_reads_10 ?_
    refine z_isub (pc := 13) dX7_reads_13 ?_
    exact z_iret dX7_reads_14
def f_X7_toldOf (a1 : Int32) (μ : Mm) : Option (Int32 × Mm) := if (4 : Int32) ≤ a1 then (if a1 = 4 then (some (μ.1 0 6, μ)) else (if a1 = 5 then (some (μ.1 1 0, μ)) else (if a1 = 6 then (some (μ.1 1 1, μ)) else (if a1 = 7 then (some (μ.1 1 2, μ)) else (if a1 = 14 then (some (μ.1 0 3, μ)) else (if zin (((3 : Int32) + a1) - (8 : Int32)) 148 then (some (μ.1 1 ((((3 : Int32) + a1) - (8 : Int32)).toNatClampNeg), μ)) else none)))))) else (if zin a1 4 then (some (μ.1 4 a1.toNatClampNeg, μ)) else none)
theorem m_X7_toldOf (g : Gx) (μ : Mm) (a1 : Int32) : Zm g ΛM enI yX7_toldOf cX7_toldOf 2 (some .int) rX7_toldOf [.ref (g.2.2.1 0), .int a1] μ (f_X7_toldOf a1 μ) := by
  refine z_met (by decide +kernel) (Nat.le_of_ble_eq_true rfl) ?_
  change Zw g ΛM enI RX7 cX7_toldOf 2 (some .int) rX7_toldOf 0 [(0, .ref (g.2.2.1 0)), (1, .int a1)] [] μ (f_X7_toldOf a1 μ)
  rw [f_X7_toldOf]
  refine z_iload_n (pc := 0) 1 dX7_toldOf_0 rfl rfl ?_
  refine z_iconst (pc := 1) (v := 4) dX7_toldOf_1 rfl ?_
  refine z_icmp_ge (pc := 2) (tgt := 12) dX7_toldOf_2 (by decide) (fun h1 => ?_) (fun h1 => ?_)
  · refine z_iload_n (pc := 12) 1 dX7_toldOf_12 rfl rfl ?_
    refine z_ite (fun h2 => ?_) (fun h2 => ?_)
    · refine z_tabIn (pc := 13) (tgt := 72) dX7_toldOf_13 (by rw [h2]; decide +kernel) (by rw [h2]; decide +kernel) (off := 59) (by rw [h2]; decide +kernel) (by decide) ?_
      refine z_aload_n (pc := 72) 0 dX7_toldOf_72 rfl rfl ?_
      refine z_get (pc := 73) (v := .int (μ.1 0 6)) flX7_223 jnX7 ltM_0 kdM_0 rfl (by decide) rfl foM_0_6 rfl dX7_toldOf_73 ?_
      exact z_iret dX7_toldOf_76
    refine z_ite (fun h3 => ?_) (fun h3 => ?_)
    · refine z_tabIn (pc := 13) (tgt := 77) dX7_toldOf_13 (by rw [h3]; decide +kernel) (by rw [h3]; decide +kernel) (off := 64) (by rw [h3]; decide +kernel) (by decide) ?_
      refine z_aload_n (pc := 77) 0 dX7_toldOf_77 rfl rfl ?_
      refine z_get (pc := 78) (v := .ref (g.2.2.1 1)) flX7_7 jnX7 ltM_0 kdM_0 rfl (by decide) rfl foM_0_0 rfl dX7_toldOf_78 ?_
      refine z_iconst (pc := 81) (v := 0) dX7_toldOf_81 rfl ?_
      refine z_iaload (pc := 82) (j := 0) ltM_1 kdM_1 (by decide +kernel) (by decide +kernel) dX7_toldOf_82 ?_
      exact z_iret dX7_toldOf_83
    refine z_ite (fun h4 => ?_) (fun h4 => ?_)
    · refine z_tabIn (pc := 13) (tgt := 84) dX7_toldOf_13 (by rw [h4]; decide +kernel) (by rw [h4]; decide +kernel) (off := 71) (by rw [h4]; decide +kernel) (by decide) ?_
      refine z_aload_n (pc := 84) 0 dX7_toldOf_84 rfl rfl ?_
      refine z_get (pc := 85) (v := .ref (g.2.2.1 1)) flX7_7 jnX7 ltM_0 kdM_0 rfl (by decide) rfl foM_0_0 rfl dX7_toldOf_85 ?_
      refine z_iconst (pc := 88) (v := 1) dX7_toldOf_88 rfl ?_
      refine z_iaload (pc := 89) (j := 1) ltM_1 kdM_1 (by decide +kernel) (by decide +kernel) dX7_toldOf_89 ?_
      exact z_iret dX7_toldOf_90
    refine z_ite (fun h5 => ?_) (fun h5 => ?_)
    · refine z_tabIn (pc := 13) (tgt := 91) dX7_toldOf_13 (by rw [h5]; decide +kernel) (by rw [h5]; decide +kernel) (off := 78) (by rw [h5]; decide +kernel) (by decide) ?_
      refine z_aload_n (pc := 91) 0 dX7_toldOf_91 rfl rfl ?_
      refine z_get (pc := 92) (v := .ref (g.2.2.1 1)) flX7_7 jnX7 ltM_0 kdM_0 rfl (by decide) rfl foM_0_0 rfl dX7_toldOf_92 ?_
      refine z_iconst (pc := 95) (v := 2) dX7_toldOf_95 rfl ?_
      refine z_iaload (pc := 96) (j := 2) ltM_1 kdM_1 (by decide +kernel) (by decide +kernel) dX7_toldOf_96 ?_
      exact z_iret dX7_toldOf_97
    refine z_ite (fun h6 => ?_) (fun h6 => ?_)
    · refine z_tabIn (pc := 13) (tgt := 98) dX7_toldOf_13 (by rw [h6]; decide +kernel) (by rw [h6]; decide +kernel) (off := 85) (by rw [h6]; decide +kernel) (by decide) ?_
      refine z_aload_n (pc := 98) 0 dX7_toldOf_98 rfl rfl ?_
      refine z_get (pc := 99) (v := .int (μ.1 0 3)) flX7_51 jnX7 ltM_0 kdM_0 rfl (by decide) rfl foM_0_3 rfl dX7_toldOf_99 ?_
      exact z_iret dX7_toldOf_102
    have eh2 : a1.toInt ≠ 4 := fun q => h2 (Int32.toInt_inj.mp (q.trans (by decide +kernel)))
    have eh3 : a1.toInt ≠ 5 := fun q => h3 (Int32.toInt_inj.mp (q.trans (by decide +kernel)))
    have eh4 : a1.toInt ≠ 6 := fun q => h4 (Int32.toInt_inj.mp (q.trans (by decide +kernel)))
    have eh5 : a1.toInt ≠ 7 := fun q => h5 (Int32.toInt_inj.mp (q.trans (by decide +kernel)))
    have eh6 : a1.toInt ≠ 14 := fun q => h6 (Int32.toInt_inj.mp (q.trans (by decide +kernel)))
    by_cases h7 : a1.toInt < 4 ∨ 14 < a1.toInt
    · refine z_tabOut (pc := 13) (tgt := 103) dX7_toldOf_13 h7 (by decide) ?_
      refine z_aload_n (pc := 103) 0 dX7_toldOf_103 rfl rfl ?_
      refine z_get (pc := 104) (v := .ref (g.2.2.1 1)) flX7_7 jnX7 ltM_0 kdM_0 rfl (by decide) rfl foM_0_0 rfl dX7_toldOf_104 ?_
      refine z_iconst (pc := 107) (v := 3) dX7_toldOf_107 rfl ?_
      refine z_iload_n (pc := 108) 1 dX7_toldOf_108 rfl rfl ?_
      refine z_iadd (pc := 109) dX7_toldOf_109 ?_
      refine z_bipush (pc := 110) (v := 8) dX7_toldOf_110 (by decide +kernel) ?_
      refine z_isub (pc := 112) dX7_toldOf_112 ?_
      refine z_iaload_g (pc := 113) ltM_1 kdM_1 dX7_toldOf_113 ?_
      exact z_iret dX7_toldOf_114
    · have h8 : a1.toInt = 8 ∨ a1.toInt = 9 ∨ a1.toInt = 10 ∨ a1.toInt = 11 ∨ a1.toInt = 12 ∨ a1.toInt = 13 := by omega
      refine z_tabIn (pc := 13) (tgt := 103) dX7_toldOf_13 (fun q => h7 (Or.inl q)) (fun q => h7 (Or.inr q)) (off := 90) (by rcases h8 with q | q | q | q | q | q <;> (rw [q]; decide +kernel)) (by decide) ?_
      refine z_aload_n (pc := 103) 0 dX7_toldOf_103 rfl rfl ?_
      refine z_get (pc := 104) (v := .ref (g.2.2.1 1)) flX7_7 jnX7 ltM_0 kdM_0 rfl (by decide) rfl foM_0_0 rfl dX7_toldOf_104 ?_
      refine z_iconst (pc := 107) (v := 3) dX7_toldOf_107 rfl ?_
      refine z_iload_n (pc := 108) 1 dX7_toldOf_108 rfl rfl ?_
      refine z_iadd (pc := 109) dX7_toldOf_109 ?_
      refine z_bipush (pc := 110) (v := 8) dX7_toldOf_110 (by decide +kernel) ?_
      refine z_isub (pc := 112) dX7_toldOf_112 ?_
      refine z_iaload_g (pc := 113) ltM_1 kdM_1 dX7_toldOf_113 ?_
      exact z_iret dX7_toldOf_114
  · refine z_aload_n (pc := 5) 0 dX7_toldOf_5 rfl rfl ?_
    refine z_get (pc := 6) (v := .ref (g.2.2.1 4)) flX7_19 jnX7 ltM_0 kdM_0 rfl (by decide) rfl foM_0_4 rfl dX7_toldOf_6 ?_
    refine z_iload_n (pc := 9) 1 dX7_toldOf_9 rfl rfl ?_
    refine z_iaload_g (pc := 10) ltM_4 kdM_4 dX7_toldOf_10 ?_
    exact z_iret dX7_toldOf_11
def f_X7_told (a1 : Int32) (μ : Mm) : Option (Int32 × Mm) := bd (f_X7_within a1.toInt64 (0 : Int64) (14 : Int64) μ) fun r1 μ2 => if r1 = 0 then (bd (f_X7_bad μ2) fun r4 μ5 => some (r4, μ5)) else (bd (f_X7_toldOf a1 μ2) fun r6 μ7 => some (r6, μ7))
theorem m_X7_told (g : Gx) (μ : Mm) (a1 : Int32) : Zm g ΛM enI yX7_told cX7_told 2 (some .int) rX7_told [.ref (g.2.2.1 0), .int a1] μ (f_X7_told a1 μ) := by
  refine z_met (by decide +kernel) (Nat.le_of_ble_eq_true rfl) ?_
  change Zw g ΛM enI RX7 cX7_told 2 (some .int) rX7_told 0 [(0, .ref (g.2.2.1 0)), (1, .int a1)] [] μ (f_X7_told a1 μ)
  rw [f_X7_told]
  refine z_iload_n (pc := 0) 1 dX7_told_0 rfl rfl ?_
  refine z_i2l (pc := 1) dX7_told_1 ?_
  refine z_lconst (pc := 2) (v := 0) dX7_told_2 (by decide +kernel) ?_
  refine z_ldc2 (pc := 3) (v := 14) klX7_277 dX7_told_3 ?_
  refine z_callS (pc := 6) (As := [.long a1.toInt64, .long (0 : Int64), .long (14 : Int64)]) (rest := []) kX7_47 (m_X7_within g μ a1.toInt64 (0 : Int64) (14 : Int64)) ⟨rfl, rfl⟩ ⟨Nat.le_of_ble_eq_true rfl, Nat.le_of_ble_eq_true rfl⟩ (Nat.le_of_ble_eq_true rfl) rfl rfl dX7_told_6 (fun r1 μ2 => ?_)
  change Zw g ΛM enI RX7 cX7_told 2 (some .int) rX7_told 9 [(0, .ref (g.2.2.1 0)), (1, .int a1)] [.int r1] μ2 _
  refine z_if_eq (pc := 9) (tgt := 20) dX7_told_9 (by decide) (fun h3 => ?_) (fun h3 => ?_)
  · refine z_aload_n (pc := 20) 0 dX7_told_20 rfl rfl ?_
    refine z_callV (pc := 21) (b := 0) (As := []) (rest := []) kX7_65 (m_X7_bad g μ2) ltM_0 kdM_0 rfl rfl ⟨rfl, rfl⟩ ⟨Nat.le_of_ble_eq_true rfl, Nat.le_of_ble_eq_true rfl⟩ (Nat.le_of_ble_eq_true rfl) rfl rfl dX7_told_21 (fun r4 μ5 => ?_)
    change Zw g ΛM enI RX7 cX7_told 2 (some .int) rX7_told 24 [(0, .ref (g.2.2.1 0)), (1, .int a1)] [.int r4] μ5 _
    exact z_iret dX7_told_24
  · refine z_aload_n (pc := 12) 0 dX7_told_12 rfl rfl ?_
    refine z_iload_n (pc := 13) 1 dX7_told_13 rfl rfl ?_
    refine z_callV (pc := 14) (b := 0) (As := [.int a1]) (rest := []) kX7_279 (m_X7_toldOf g μ2 a1) ltM_0 kdM_0 rfl rfl ⟨rfl, rfl⟩ ⟨Nat.le_of_ble_eq_true rfl, Nat.le_of_ble_eq_true rfl⟩ (Nat.le_of_ble_eq_true rfl) rfl rfl dX7_told_14 (fun r6 μ7 => ?_)
    change Zw g ΛM enI RX7 cX7_told 2 (some .int) rX7_told 17 [(0, .ref (g.2.2.1 0)), (1, .int a1)] [.int r6] μ7 _
    refine z_goto (pc := 17) (tgt := 24) dX7_told_17 (by decide) ?_
    exact z_iret dX7_told_24
def f_X7_mix (a1 : Int64) (μ : Mm) : Option (Unit × Mm) := some ((), (sj μ 0 22 (((31 : Int64) * (μ.2 0 22)) + a1)))
theorem m_X7_mix (g : Gx) (μ : Mm) (a1 : Int64) : Zm g ΛM enV yX7_mix cX7_mix 3 none rX7_mix [.ref (g.2.2.1 0), .long a1] μ (f_X7_mix a1 μ) := by
  refine z_met (by decide +kernel) (Nat.le_of_ble_eq_true rfl) ?_
  change Zw g ΛM enV RX7 cX7_mix 3 none rX7_mix 0 [(0, .ref (g.2.2.1 0)), (1, .long a1)] [] μ (f_X7_mix a1 μ)
  rw [f_X7_mix]
  refine z_aload_n (pc := 0) 0 dX7_mix_0 rfl rfl ?_
  refine z_ldc2 (pc := 1) (v := 31) klX7_282 dX7_mix_1 ?_
  refine z_aload_n (pc := 4) 0 dX7_mix_4 rfl rfl ?_
  refine z_get (pc := 5) (v := .long (μ.2 0 22)) flX7_284 jnX7 ltM_0 kdM_0 rfl (by decide) rfl foM_0_22 rfl dX7_mix_5 ?_
  refine z_lmul (pc := 8) dX7_mix_8 ?_
  refine z_lload_n (pc := 9) 1 dX7_mix_9 rfl rfl ?_
  refine z_ladd (pc := 10) dX7_mix_10 ?_
  refine z_putj (x := (0, 0)) (pc := 11) flX7_284 jnX7 tyX7 tyX7_ok nmX7 ltM_0 kdM_0 rfl (by decide) rfl foM_0_22 rfl ⟨rfl, rfl⟩ dX7_mix_11 ?_
  exact z_vret dX7_mix_14
def lp_X7_digest_9 : Nat → Int32 → Mm → (Mm → Option (Int64 × Mm)) → Option (Int64 × Mm)
  | 0, _, _, _ => none
  | n + 1, y1, μ, k => if (15 : Int32) ≤ y1 then (k  μ) else (bd (f_X7_toldOf y1 μ) fun r2 μ3 => bd (f_X7_mix r2.toInt64 μ3) fun r4 μ5 => lp_X7_digest_9 n (y1 + 1) μ5 k)
theorem w_X7_digest_9 (g : Gx) : ∀ (n : Nat) (y1 : Int32) (μ : Mm) (k : Mm → Option (Int64 × Mm)), (∀ (ν : Mm), Zw g ΛM enJ RX7 cX7_digest 3 (some .long) rX7_digest 31 [(0, .ref (g.2.2.1 0))] [] ν (k  ν)) → Zw g ΛM enJ RX7 cX7_digest 3 (some .long) rX7_digest 9 [(0, .ref (g.2.2.1 0)), (1, .int y1)] [] μ (lp_X7_digest_9 n y1 μ k) := by
  intro n
  induction n with
  | zero =>
    intro y1 μ k hk
    exact z_none
  | succ n ih =>
    intro y1 μ k hk
    rw [lp_X7_digest_9]
    refine z_iload_n (pc := 9) 1 dX7_digest_9 rfl rfl ?_
    refine z_bipush (pc := 10) (v := 15) dX7_digest_10 (by decide +kernel) ?_
    refine z_icmp_ge (pc := 12) (tgt := 31) dX7_digest_12 (by decide) (fun h1 => ?_) (fun h1 => ?_)
    · refine z_sub (lv2 := [(0, .ref (g.2.2.1 0))]) [0] rfl ?_
      exact hk _
    · refine z_aload_n (pc := 15) 0 dX7_digest_15 rfl rfl ?_
      refine z_aload_n (pc := 16) 0 dX7_digest_16 rfl rfl ?_
      refine z_iload_n (pc := 17) 1 dX7_digest_17 rfl rfl ?_
      refine z_callV (pc := 18) (b := 0) (As := [.int y1]) (rest := [.ref (g.2.2.1 0)]) kX7_279 (m_X7_toldOf g μ y1) ltM_0 kdM_0 rfl rfl ⟨rfl, rfl⟩ ⟨Nat.le_of_ble_eq_true rfl, Nat.le_of_ble_eq_true rfl⟩ (Nat.le_of_ble_eq_true rfl) rfl rfl dX7_digest_18 (fun r2 μ3 => ?_)
      change Zw g ΛM enJ RX7 cX7_digest 3 (some .long) rX7_digest 21 [(0, .ref (g.2.2.1 0)), (1, .int y1)] [.int r2, .ref (g.2.2.1 0)] μ3 _
      refine z_i2l (pc := 21) dX7_digest_21 ?_
      refine z_callV (pc := 22) (b := 0) (As := [.long r2.toInt64]) (rest := []) kX7_290 (m_X7_mix g μ3 r2.toInt64) ltM_0 kdM_0 rfl rfl ⟨rfl, rfl⟩ ⟨Nat.le_of_ble_eq_true rfl, Nat.le_of_ble_eq_true rfl⟩ (Nat.le_of_ble_eq_true rfl) rfl rfl dX7_digest_22 (fun r4 μ5 => ?_)
      change Zw g ΛM enJ RX7 cX7_digest 3 (some .long) rX7_digest 25 [(0, .ref (g.2.2.1 0)), (1, .int y1)] [] μ5 _
      refine z_iinc (pc := 25) (v := y1 + 1) (lv2 := [(0, .ref (g.2.2.1 0)), (1, .int (y1 + 1))]) 1 [1, 0] dX7_digest_25 rfl (by rw [oi_1]) (by decide) rfl ?_
      refine z_goto (pc := 28) (tgt := 9) dX7_digest_28 (by decide) ?_
      exact ih _ _ _ hk
def lp_X7_digest_33 : Nat → Int32 → Mm → (Mm → Option (Int64 × Mm)) → Option (Int64 × Mm)
  | 0, _, _, _ => none
  | n + 1, y1, μ, k => if ((7 : Int32) * (μ.1 1 0)) ≤ y1 then (k  μ) else (bd (f_X7_tellPhrase (y1 / (7 : Int32)) (y1 - y1 / (7 : Int32) * (7 : Int32)) μ) fun r8 μ9 => bd (f_X7_mix r8.toInt64 μ9) fun r10 μ11 => lp_X7_digest_33 n (y1 + 1) μ11 k)
theorem w_X7_digest_33 (g : Gx) : ∀ (n : Nat) (y1 : Int32) (μ : Mm) (k : Mm → Option (Int64 × Mm)), (∀ (ν : Mm), Zw g ΛM enJ RX7 cX7_digest 3 (some .long) rX7_digest 69 [(0, .ref (g.2.2.1 0))] [] ν (k  ν)) → Zw g ΛM enJ RX7 cX7_digest 3 (some .long) rX7_digest 33 [(0, .ref (g.2.2.1 0)), (1, .int y1)] [] μ (lp_X7_digest_33 n y1 μ k) := by
  intro n
  induction n with
  | zero =>
    intro y1 μ k hk
    exact z_none
  | succ n ih =>
    intro y1 μ k hk
    rw [lp_X7_digest_33]
    refine z_iload_n (pc := 33) 1 dX7_digest_33 rfl rfl ?_
    refine z_bipush (pc := 34) (v := 7) dX7_digest_34 (by decide +kernel) ?_
    refine z_aload_n (pc := 36) 0 dX7_digest_36 rfl rfl ?_
    refine z_get (pc := 37) (v := .ref (g.2.2.1 1)) flX7_7 jnX7 ltM_0 kdM_0 rfl (by decide) rfl foM_0_0 rfl dX7_digest_37 ?_
    refine z_iconst (pc := 40) (v := 0) dX7_digest_40 rfl ?_
    refine z_iaload (pc := 41) (j := 0) ltM_1 kdM_1 (by decide +kernel) (by decide +kernel) dX7_digest_41 ?_
    refine z_imul (pc := 42) dX7_digest_42 ?_
    refine z_icmp_ge (pc := 43) (tgt := 69) dX7_digest_43 (by decide) (fun h7 => ?_) (fun h7 => ?_)
    · refine z_sub (lv2 := [(0, .ref (g.2.2.1 0))]) [0] rfl ?_
      exact hk _
    · refine z_aload_n (pc := 46) 0 dX7_digest_46 rfl rfl ?_
      refine z_aload_n (pc := 47) 0 dX7_digest_47 rfl rfl ?_
      refine z_iload_n (pc := 48) 1 dX7_digest_48 rfl rfl ?_
      refine z_bipush (pc := 49) (v := 7) dX7_digest_49 (by decide +kernel) ?_
      refine z_idiv (pc := 51) dX7_digest_51 (by decide +kernel) ?_
      refine z_iload_n (pc := 52) 1 dX7_digest_52 rfl rfl ?_
      refine z_bipush (pc := 53) (v := 7) dX7_digest_53 (by decide +kernel) ?_
      refine z_irem (pc := 55) dX7_digest_55 (by decide +kernel) ?_
      refine z_callV (pc := 56) (b := 0) (As := [.int (y1 / (7 : Int32)), .int (y1 - y1 / (7 : Int32) * (7 : Int32))]) (rest := [.ref (g.2.2.1 0)]) kX7_118 (m_X7_tellPhrase g μ (y1 / (7 : Int32)) (y1 - y1 / (7 : Int32) * (7 : Int32))) ltM_0 kdM_0 rfl rfl ⟨rfl, rfl⟩ ⟨Nat.le_of_ble_eq_true rfl, Nat.le_of_ble_eq_true rfl⟩ (Nat.le_of_ble_eq_true rfl) rfl rfl dX7_digest_56 (fun r8 μ9 => ?_)
      change Zw g ΛM enJ RX7 cX7_digest 3 (some .long) rX7_digest 59 [(0, .ref (g.2.2.1 0)), (1, .int y1)] [.int r8, .ref (g.2.2.1 0)] μ9 _
      refine z_i2l (pc := 59) dX7_digest_59 ?_
      refine z_callV (pc := 60) (b := 0) (As := [.long r8.toInt64]) (rest := []) kX7_290 (m_X7_mix g μ9 r8.toInt64) ltM_0 kdM_0 rfl rfl ⟨rfl, rfl⟩ ⟨Nat.le_of_ble_eq_true rfl, Nat.le_of_ble_eq_true rfl⟩ (Nat.le_of_ble_eq_true rfl) rfl rfl dX7_digest_60 (fun r10 μ11 => ?_)
      change Zw g ΛM enJ RX7 cX7_digest 3 (some .long) rX7_digest 63 [(0, .ref (g.2.2.1 0)), (1, .int y1)] [] μ11 _
      refine z_iinc (pc := 63) (v := y1 + 1) (lv2 := [(0, .ref (g.2.2.1 0)), (1, .int (y1 + 1))]) 1 [1, 0] dX7_digest_63 rfl (by rw [oi_1]) (by decide) rfl ?_
      refine z_goto (pc := 66) (tgt := 33) dX7_digest_66 (by decide) ?_
      exact ih _ _ _ hk
def lp_X7_digest_71 : Nat → Int32 → Mm → (Mm → Option (Int64 × Mm)) → Option (Int64 × Mm)
  | 0, _, _, _ => none
  | n + 1, y1, μ, k => if (μ.1 1 1) ≤ y1 then (k  μ) else (if zin ((69 : Int32) + y1) 148 then (bd (f_X7_mix ((μ.1 1 (((69 : Int32) + y1).toNatClampNeg)).toInt64) μ) fun r14 μ15 => lp_X7_digest_71 n (y1 + 1) μ15 k) else none)
theorem w_X7_digest_71 (g : Gx) : ∀ (n : Nat) (y1 : Int32) (μ : Mm) (k : Mm → Option (Int64 × Mm)), (∀ (ν : Mm), Zw g ΛM enJ RX7 cX7_digest 3 (some .long) rX7_digest 101 [(0, .ref (g.2.2.1 0))] [] ν (k  ν)) → Zw g ΛM enJ RX7 cX7_digest 3 (some .long) rX7_digest 71 [(0, .ref (g.2.2.1 0)), (1, .int y1)] [] μ (lp_X7_digest_71 n y1 μ k) := by
  intro n
  induction n with
  | zero =>
    intro y1 μ k hk
    exact z_none
  | succ n ih =>
    intro y1 μ k hk
    rw [lp_X7_digest_71]
    refine z_iload_n (pc := 71) 1 dX7_digest_71 rfl rfl ?_
    refine z_aload_n (pc := 72) 0 dX7_digest_72 rfl rfl ?_
    refine z_get (pc := 73) (v := .ref (g.2.2.1 1)) flX7_7 jnX7 ltM_0 kdM_0 rfl (by decide) rfl foM_0_0 rfl dX7_digest_73 ?_
    refine z_iconst (pc := 76) (v := 1) dX7_digest_76 rfl ?_
    refine z_iaload (pc := 77) (j := 1) ltM_1 kdM_1 (by decide +kernel) (by decide +kernel) dX7_digest_77 ?_
    refine z_icmp_ge (pc := 78) (tgt := 101) dX7_digest_78 (by decide) (fun h13 => ?_) (fun h13 => ?_)
    · refine z_sub (lv2 := [(0, .ref (g.2.2.1 0))]) [0] rfl ?_
      exact hk _
    · refine z_aload_n (pc := 81) 0 dX7_digest_81 rfl rfl ?_
      refine z_aload_n (pc := 82) 0 dX7_digest_82 rfl rfl ?_
      refine z_get (pc := 83) (v := .ref (g.2.2.1 1)) flX7_7 jnX7 ltM_0 kdM_0 rfl (by decide) rfl foM_0_0 rfl dX7_digest_83 ?_
      refine z_bipush (pc := 86) (v := 69) dX7_digest_86 (by decide +kernel) ?_
      refine z_iload_n (pc := 88) 1 dX7_digest_88 rfl rfl ?_
      refine z_iadd (pc := 89) dX7_digest_89 ?_
      refine z_iaload_g (pc := 90) ltM_1 kdM_1 dX7_digest_90 ?_
      refine z_i2l (pc := 91) dX7_digest_91 ?_
      refine z_callV (pc := 92) (b := 0) (As := [.long ((μ.1 1 (((69 : Int32) + y1).toNatClampNeg)).toInt64)]) (rest := []) kX7_290 (m_X7_mix g μ ((μ.1 1 (((69 : Int32) + y1).toNatClampNeg)).toInt64)) ltM_0 kdM_0 rfl rfl ⟨rfl, rfl⟩ ⟨Nat.le_of_ble_eq_true rfl, Nat.le_of_ble_eq_true rfl⟩ (Nat.le_of_ble_eq_true rfl) rfl rfl dX7_digest_92 (fun r14 μ15 => ?_)
      change Zw g ΛM enJ RX7 cX7_digest 3 (some .long) rX7_digest 95 [(0, .ref (g.2.2.1 0)), (1, .int y1)] [] μ15 _
      refine z_iinc (pc := 95) (v := y1 + 1) (lv2 := [(0, .ref (g.2.2.1 0)), (1, .int (y1 + 1))]) 1 [1, 0] dX7_digest_95 rfl (by rw [oi_1]) (by decide) rfl ?_
      refine z_goto (pc := 98) (tgt := 71) dX7_digest_98 (by decide) ?_
      exact ih _ _ _ hk
def lp_X7_digest_103 : Nat → Int32 → Mm → (Mm → Option (Int64 × Mm)) → Option (Int64 × Mm)
  | 0, _, _, _ => none
  | n + 1, y1, μ, k => if (40 : Int32) ≤ y1 then (k  μ) else (if zin ((108 : Int32) + y1) 148 then (bd (f_X7_mix ((μ.1 1 (((108 : Int32) + y1).toNatClampNeg)).toInt64) μ) fun r18 μ19 => lp_X7_digest_103 n (y1 + 1) μ19 k) else none)
theorem w_X7_digest_103 (g : Gx) : ∀ (n : Nat) (y1 : Int32) (μ : Mm) (k : Mm → Option (Int64 × Mm)), (∀ (ν : Mm), Zw g ΛM enJ RX7 cX7_digest 3 (some .long) rX7_digest 129 [(0, .ref (g.2.2.1 0))] [] ν (k  ν)) → Zw g ΛM enJ RX7 cX7_digest 3 (some .long) rX7_digest 103 [(0, .ref (g.2.2.1 0)), (1, .int y1)] [] μ (lp_X7_digest_103 n y1 μ k) := by
  intro n
  induction n with
  | zero =>
    intro y1 μ k hk
    exact z_none
  | succ n ih =>
    intro y1 μ k hk
    rw [lp_X7_digest_103]
    refine z_iload_n (pc := 103) 1 dX7_digest_103 rfl rfl ?_
    refine z_bipush (pc := 104) (v := 40) dX7_digest_104 (by decide +kernel) ?_
    refine z_icmp_ge (pc := 106) (tgt := 129) dX7_digest_106 (by decide) (fun h17 => ?_) (fun h17 => ?_)
    · refine z_sub (lv2 := [(0, .ref (g.2.2.1 0))]) [0] rfl ?_
      exact hk _
    · refine z_aload_n (pc := 109) 0 dX7_digest_109 rfl rfl ?_
      refine z_aload_n (pc := 110) 0 dX7_digest_110 rfl rfl ?_
      refine z_get (pc := 111) (v := .ref (g.2.2.1 1)) flX7_7 jnX7 ltM_0 kdM_0 rfl (by decide) rfl foM_0_0 rfl dX7_digest_111 ?_
      refine z_bipush (pc := 114) (v := 108) dX7_digest_114 (by decide +kernel) ?_
      refine z_iload_n (pc := 116) 1 dX7_digest_116 rfl rfl ?_
      refine z_iadd (pc := 117) dX7_digest_117 ?_
      refine z_iaload_g (pc := 118) ltM_1 kdM_1 dX7_digest_118 ?_
      refine z_i2l (pc := 119) dX7_digest_119 ?_
      refine z_callV (pc := 120) (b := 0) (As := [.long ((μ.1 1 (((108 : Int32) + y1).toNatClampNeg)).toInt64)]) (rest := []) kX7_290 (m_X7_mix g μ ((μ.1 1 (((108 : Int32) + y1).toNatClampNeg)).toInt64)) ltM_0 kdM_0 rfl rfl ⟨rfl, rfl⟩ ⟨Nat.le_of_ble_eq_true rfl, Nat.le_of_ble_eq_true rfl⟩ (Nat.le_of_ble_eq_true rfl) rfl rfl dX7_digest_120 (fun r18 μ19 => ?_)
      change Zw g ΛM enJ RX7 cX7_digest 3 (some .long) rX7_digest 123 [(0, .ref (g.2.2.1 0)), (1, .int y1)] [] μ19 _
      refine z_iinc (pc := 123) (v := y1 + 1) (lv2 := [(0, .ref (g.2.2.1 0)), (1, .int (y1 + 1))]) 1 [1, 0] dX7_digest_123 rfl (by rw [oi_1]) (by decide) rfl ?_
      refine z_goto (pc := 126) (tgt := 103) dX7_digest_126 (by decide) ?_
      exact ih _ _ _ hk
def lp_X7_digest_168 (c1 : Int32) : Nat → Int32 → Mm → (Mm → Option (Int64 × Mm)) → Option (Int64 × Mm)
  | 0, _, _, _ => none
  | n + 1, y2, μ, k => if (4 : Int32) ≤ y2 then (k  μ) else (bd (f_X7_fixesTo c1 y2 μ) fun r35 μ36 => bd (f_X7_mix r35.toInt64 μ36) fun r37 μ38 => lp_X7_digest_168 c1 n (y2 + 1) μ38 k)
theorem w_X7_digest_168 (g : Gx) (c1 : Int32) : ∀ (n : Nat) (y2 : Int32) (μ : Mm) (k : Mm → Option (Int64 × Mm)), (∀ (ν : Mm), Zw g ΛM enJ RX7 cX7_digest 3 (some .long) rX7_digest 190 [(0, .ref (g.2.2.1 0)), (1, .int c1)] [] ν (k  ν)) → Zw g ΛM enJ RX7 cX7_digest 3 (some .long) rX7_digest 168 [(0, .ref (g.2.2.1 0)), (1, .int c1), (2, .int y2)] [] μ (lp_X7_digest_168 c1 n y2 μ k) := by
  intro n
  induction n with
  | zero =>
    intro y2 μ k hk
    exact z_none
  | succ n ih =>
    intro y2 μ k hk
    rw [lp_X7_digest_168]
    refine z_iload_n (pc := 168) 2 dX7_digest_168 rfl rfl ?_
    refine z_iconst (pc := 169) (v := 4) dX7_digest_169 rfl ?_
    refine z_icmp_ge (pc := 170) (tgt := 190) dX7_digest_170 (by decide) (fun h34 => ?_) (fun h34 => ?_)
    · refine z_sub (lv2 := [(0, .ref (g.2.2.1 0)), (1, .int c1)]) [0, 1] rfl ?_
      exact hk _
    · refine z_aload_n (pc := 173) 0 dX7_digest_173 rfl rfl ?_
      refine z_aload_n (pc := 174) 0 dX7_digest_174 rfl rfl ?_
      refine z_iload_n (pc := 175) 1 dX7_digest_175 rfl rfl ?_
      refine z_iload_n (pc := 176) 2 dX7_digest_176 rfl rfl ?_
      refine z_callV (pc := 177) (b := 0) (As := [.int c1, .int y2]) (rest := [.ref (g.2.2.1 0)]) kX7_218 (m_X7_fixesTo g μ c1 y2) ltM_0 kdM_0 rfl rfl ⟨rfl, rfl⟩ ⟨Nat.le_of_ble_eq_true rfl, Nat.le_of_ble_eq_true rfl⟩ (Nat.le_of_ble_eq_true rfl) rfl rfl dX7_digest_177 (fun r35 μ36 => ?_)
      change Zw g ΛM enJ RX7 cX7_digest 3 (some .long) rX7_digest 180 [(0, .ref (g.2.2.1 0)), (1, .int c1), (2, .int y2)] [.int r35, .ref (g.2.2.1 0)] μ36 _
      refine z_i2l (pc := 180) dX7_digest_180 ?_
      refine z_callV (pc := 181) (b := 0) (As := [.long r35.toInt64]) (rest := []) kX7_290 (m_X7_mix g μ36 r35.toInt64) ltM_0 kdM_0 rfl rfl ⟨rfl, rfl⟩ ⟨Nat.le_of_ble_eq_true rfl, Nat.le_of_ble_eq_true rfl⟩ (Nat.le_of_ble_eq_true rfl) rfl rfl dX7_digest_181 (fun r37 μ38 => ?_)
      change Zw g ΛM enJ RX7 cX7_digest 3 (some .long) rX7_digest 184 [(0, .ref (g.2.2.1 0)), (1, .int c1), (2, .int y2)] [] μ38 _
      refine z_iinc (pc := 184) (v := y2 + 1) (lv2 := [(0, .ref (g.2.2.1 0)), (1, .int c1), (2, .int (y2 + 1))]) 2 [1, 2, 0] dX7_digest_184 rfl (by rw [oi_1]) (by decide) rfl ?_
      refine z_goto (pc := 187) (tgt := 168) dX7_digest_187 (by decide) ?_
      exact ih _ _ _ hk
def lp_X7_digest_151 : Nat → Int32 → Mm → (Mm → Option (Int64 × Mm)) → Option (Int64 × Mm)
  | 0, _, _, _ => none
  | n + 1, y1, μ, k => if (3 : Int32) ≤ y1 then (k  μ) else (bd (f_X7_waysOr (0 : Int32) y1 μ) fun r30 μ31 => bd (f_X7_mix r30 μ31) fun r32 μ33 => lp_X7_digest_168 y1 FU (0 : Int32) μ33 (fun  μ39 => lp_X7_digest_151 n (y1 + 1) μ39 k))
theorem w_X7_digest_151 (g : Gx) : ∀ (n : Nat) (y1 : Int32) (μ : Mm) (k : Mm → Option (Int64 × Mm)), (∀ (ν : Mm), Zw g ΛM enJ RX7 cX7_digest 3 (some .long) rX7_digest 196 [(0, .ref (g.2.2.1 0))] [] ν (k  ν)) → Zw g ΛM enJ RX7 cX7_digest 3 (some .long) rX7_digest 151 [(0, .ref (g.2.2.1 0)), (1, .int y1)] [] μ (lp_X7_digest_151 n y1 μ k) := by
  intro n
  induction n with
  | zero =>
    intro y1 μ k hk
    exact z_none
  | succ n ih =>
    intro y1 μ k hk
    rw [lp_X7_digest_151]
    refine z_iload_n (pc := 151) 1 dX7_digest_151 rfl rfl ?_
    refine z_iconst (pc := 152) (v := 3) dX7_digest_152 rfl ?_
    refine z_icmp_ge (pc := 153) (tgt := 196) dX7_digest_153 (by decide) (fun h29 => ?_) (fun h29 => ?_)
    · refine z_sub (lv2 := [(0, .ref (g.2.2.1 0))]) [0] rfl ?_
      exact hk _
    · refine z_aload_n (pc := 156) 0 dX7_digest_156 rfl rfl ?_
      refine z_aload_n (pc := 157) 0 dX7_digest_157 rfl rfl ?_
      refine z_iconst (pc := 158) (v := 0) dX7_digest_158 rfl ?_
      refine z_iload_n (pc := 159) 1 dX7_digest_159 rfl rfl ?_
      refine z_callV (pc := 160) (b := 0) (As := [.int (0 : Int32), .int y1]) (rest := [.ref (g.2.2.1 0)]) kX7_163 (m_X7_waysOr g μ (0 : Int32) y1) ltM_0 kdM_0 rfl rfl ⟨rfl, rfl⟩ ⟨Nat.le_of_ble_eq_true rfl, Nat.le_of_ble_eq_true rfl⟩ (Nat.le_of_ble_eq_true rfl) rfl rfl dX7_digest_160 (fun r30 μ31 => ?_)
      change Zw g ΛM enJ RX7 cX7_digest 3 (some .long) rX7_digest 163 [(0, .ref (g.2.2.1 0)), (1, .int y1)] [.long r30, .ref (g.2.2.1 0)] μ31 _
      refine z_callV (pc := 163) (b := 0) (As := [.long r30]) (rest := []) kX7_290 (m_X7_mix g μ31 r30) ltM_0 kdM_0 rfl rfl ⟨rfl, rfl⟩ ⟨Nat.le_of_ble_eq_true rfl, Nat.le_of_ble_eq_true rfl⟩ (Nat.le_of_ble_eq_true rfl) rfl rfl dX7_digest_163 (fun r32 μ33 => ?_)
      change Zw g ΛM enJ RX7 cX7_digest 3 (some .long) rX7_digest 166 [(0, .ref (g.2.2.1 0)), (1, .int y1)] [] μ33 _
      refine z_iconst (pc := 166) (v := 0) dX7_digest_166 rfl ?_
      refine z_istore_n (pc := 167) (lv2 := [(0, .ref (g.2.2.1 0)), (1, .int y1), (2, .int (0 : Int32))]) [1, 2, 0] dX7_digest_167 rfl (by decide) rfl ?_
      refine w_X7_digest_168 g y1 FU (0 : Int32) μ33 _ (fun  μ39 => ?_)
      refine z_iinc (pc := 190) (v := y1 + 1) (lv2 := [(0, .ref (g.2.2.1 0)), (1, .int (y1 + 1))]) 1 [1, 0] dX7_digest_190 rfl (by rw [oi_1]) (by decide) rfl ?_
      refine z_goto (pc := 193) (tgt := 151) dX7_digest_193 (by decide) ?_
      exact ih _ _ _ hk
def f_X7_digest (μ : Mm) : Option (Int64 × Mm) := lp_X7_digest_9 FU (0 : Int32) (sj μ 0 22 (2399 : Int64)) (fun  μ6 => lp_X7_digest_33 FU (0 : Int32) μ6 (fun  μ12 => lp_X7_digest_71 FU (0 : Int32) μ12 (fun  μ16 => lp_X7_digest_103 FU (1 : Int32) μ16 (fun  μ20 => bd (f_X7_waysOr (1 : Int32) (-1 : Int32) μ20) fun r21 μ22 => bd (f_X7_mix r21 μ22) fun r23 μ24 => bd (f_X7_waysOr (0 : Int32) (-1 : Int32) μ24) fun r25 μ26 => bd (f_X7_mix r25 μ26) fun r27 μ28 => lp_X7_digest_151 FU (0 : Int32) μ28 (fun  μ40 => some (μ40.2 0 22, μ40))))))
theorem m_X7_digest (g : Gx) (μ : Mm) : Zm g ΛM enJ yX7_digest cX7_digest 3 (some .long) rX7_digest [.ref (g.2.2.1 0)] μ (f_X7_digest μ) := by
  refine z_met (by decide +kernel) (Nat.le_of_ble_eq_true rfl) ?_
  change Zw g ΛM enJ RX7 cX7_digest 3 (some .long) rX7_digest 0 [(0, .ref (g.2.2.1 0))] [] μ (f_X7_digest μ)
  rw [f_X7_digest]
  refine z_aload_n (pc := 0) 0 dX7_digest_0 rfl rfl ?_
  refine z_ldc2 (pc := 1) (v := 2399) klX7_288 dX7_digest_1 ?_
  refine z_putj (x := (0, 0)) (pc := 4) flX7_284 jnX7 tyX7 tyX7_ok nmX7 ltM_0 kdM_0 rfl (by decide) rfl foM_0_22 rfl ⟨rfl, rfl⟩ dX7_digest_4 ?_
  refine z_iconst (pc := 7) (v := 0) dX7_digest_7 rfl ?_
  refine z_istore_n (pc := 8) (lv2 := [(0, .ref (g.2.2.1 0)), (1, .int (0 : Int32))]) [1, 0] dX7_digest_8 rfl (by decide) rfl ?_
  refine w_X7_digest_9 g FU (0 : Int32) (sj μ 0 22 (2399 : Int64)) _ (fun  μ6 => ?_)
  refine z_iconst (pc := 31) (v := 0) dX7_digest_31 rfl ?_
  refine z_istore_n (pc := 32) (lv2 := [(0, .ref (g.2.2.1 0)), (1, .int (0 : Int32))]) [1, 0] dX7_digest_32 rfl (by decide) rfl ?_
  refine w_X7_digest_33 g FU (0 : Int32) μ6 _ (fun  μ12 => ?_)
  refine z_iconst (pc := 69) (v := 0) dX7_digest_69 rfl ?_
  refine z_istore_n (pc := 70) (lv2 := [(0, .ref (g.2.2.1 0)), (1, .int (0 : Int32))]) [1, 0] dX7_digest_70 rfl (by decide) rfl ?_
  refine w_X7_digest_71 g FU (0 : Int32) μ12 _ (fun  μ16 => ?_)
  refine z_iconst (pc := 101) (v := 1) dX7_digest_101 rfl ?_
  refine z_istore_n (pc := 102) (lv2 := [(0, .ref (g.2.2.1 0)), (1, .int (1 : Int32))]) [1, 0] dX7_digest_102 rfl (by decide) rfl ?_
  refine w_X7_digest_103 g FU (1 : Int32) μ16 _ (fun  μ20 => ?_)
  refine z_aload_n (pc := 129) 0 dX7_digest_129 rfl rfl ?_
  refine z_aload_n (pc := 130) 0 dX7_digest_130 rfl rfl ?_
  refine z_iconst (pc := 131) (v := 1) dX7_digest_131 rfl ?_
  refine z_iconst (pc := 132) (v := -1) dX7_digest_132 rfl ?_
  refine z_callV (pc := 133) (b := 0) (As := [.int (1 : Int32), .int (-1 : Int32)]) (rest := [.ref (g.2.2.1 0)]) kX7_163 (m_X7_waysOr g μ20 (1 : Int32) (-1 : Int32)) ltM_0 kdM_0 rfl rfl ⟨rfl, rfl⟩ ⟨Nat.le_of_ble_eq_true rfl, Nat.le_of_ble_eq_true rfl⟩ (Nat.le_of_ble_eq_true rfl) rfl rfl dX7_digest_133 (fun r21 μ22 => ?_)
  change Zw g ΛM enJ RX7 cX7_digest 3 (some .long) rX7_digest 136 [(0, .ref (g.2.2.1 0))] [.long r21, .ref (g.2.2.1 0)] μ22 _
  refine z_callV (pc := 136) (b := 0) (As := [.long r21]) (rest := []) kX7_290 (m_X7_mix g μ22 r21) ltM_0 kdM_0 rfl rfl ⟨rfl, rfl⟩ ⟨Nat.le_of_ble_eq_true rfl, Nat.le_of_ble_eq_true rfl⟩ (Nat.le_of_ble_eq_true rfl) rfl rfl dX7_digest_136 (fun r23 μ24 => ?_)
  change Zw g ΛM enJ RX7 cX7_digest 3 (some .long) rX7_digest 139 [(0, .ref (g.2.2.1 0))] [] μ24 _
  refine z_aload_n (pc := 139) 0 dX7_digest_139 rfl rfl ?_
  refine z_aload_n (pc := 140) 0 dX7_digest_140 rfl rfl ?_
  refine z_iconst (pc := 141) (v := 0) dX7_digest_141 rfl ?_
  refine z_iconst (pc := 142) (v := -1) dX7_digest_142 rfl ?_
  refine z_callV (pc := 143) (b := 0) (As := [.int (0 : Int32), .int (-1 : Int32)]) (rest := [.ref (g.2.2.1 0)]) kX7_163 (m_X7_waysOr g μ24 (0 : Int32) (-1 : Int32)) ltM_0 kdM_0 rfl rfl ⟨rfl, rfl⟩ ⟨Nat.le_of_ble_eq_true rfl, Nat.le_of_ble_eq_true rfl⟩ (Nat.le_of_ble_eq_true rfl) rfl rfl dX7_digest_143 (fun r25 μ26 => ?_)
  change Zw g ΛM enJ RX7 cX7_digest 3 (some .long) rX7_digest 146 [(0, .ref (g.2.2.1 0))] [.long r25, .ref (g.2.2.1 0)] μ26 _
  refine z_callV (pc := 146) (b := 0) (As := [.long r25]) (rest := []) kX7_290 (m_X7_mix g μ26 r25) ltM_0 kdM_0 rfl rfl ⟨rfl, rfl⟩ ⟨Nat.le_of_ble_eq_true rfl, Nat.le_of_ble_eq_true rfl⟩ (Nat.le_of_ble_eq_true rfl) rfl rfl dX7_digest_146 (fun r27 μ28 => ?_)
  change Zw g ΛM enJ RX7 cX7_digest 3 (some .long) rX7_digest 149 [(0, .ref (g.2.2.1 0))] [] μ28 _
  refine z_iconst (pc := 149) (v := 0) dX7_digest_149 rfl ?_
  refine z_istore_n (pc := 150) (lv2 := [(0, .ref (g.2.2.1 0)), (1, .int (0 : Int32))]) [1, 0] dX7_digest_150 rfl (by decide) rfl ?_
  refine w_X7_digest_151 g FU (0 : Int32) μ28 _ (fun  μ40 => ?_)
  refine z_aload_n (pc := 196) 0 dX7_digest_196 rfl rfl ?_
  refine z_get (pc := 197) (v := .long (μ40.2 0 22)) flX7_284 jnX7 ltM_0 kdM_0 rfl (by decide) rfl foM_0_22 rfl dX7_digest_197 ?_
  exact z_lret dX7_digest_200
