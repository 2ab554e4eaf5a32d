def Sp {α : Type} (Inv : Nat → Mm → Mm → Prop) (n : Nat) (fC fM : Mm → Option (α × Mm)) : Prop := ∀ μC μM, Inv n μC μM → ∃ r μC2 μM2, fC μC = some (r, μC2) ∧ fM μM = some (r, μM2) ∧ Inv (n + 1) μC2 μM2
theorem kL_13 : ZcV R_law 13 yX6_phrase cX6_phrase 3 (some .int) 2 := ⟨⟨coX6_phrase, iniX6, by decide +kernel, by decide +kernel, by decide +kernel⟩, zt_of 317 (by decide +kernel) rfl, imX6_phrase, seX6_phrase⟩
theorem kL_17 : ZcV R_law 17 yX7_phrase cX7_phrase 3 (some .int) 2 := ⟨⟨coX7_phrase, iniX7, by decide +kernel, by decide +kernel, by decide +kernel⟩, zt_of 797 (by decide +kernel) rfl, imX7_phrase, seX7_phrase⟩
theorem kL_18 : ZcV R_law 18 yX6_drops cX6_drops 2 (some .int) 1 := ⟨⟨coX6_drops, iniX6, by decide +kernel, by decide +kernel, by decide +kernel⟩, zt_of 367 (by decide +kernel) rfl, imX6_drops, seX6_drops⟩
theorem kL_22 : ZcV R_law 22 yX7_drops cX7_drops 2 (some .int) 1 := ⟨⟨coX7_drops, iniX7, by decide +kernel, by decide +kernel, by decide +kernel⟩, zt_of 834 (by decide +kernel) rfl, imX7_drops, seX7_drops⟩
theorem kL_23 : ZcV R_law 23 yX6_begins cX6_begins 2 (some .int) 1 := ⟨⟨coX6_begins, iniX6, by decide +kernel, by decide +kernel, by decide +kernel⟩, zt_of 384 (by decide +kernel) rfl, imX6_begins, seX6_begins⟩
theorem kL_26 : ZcV R_law 26 yX7_begins cX7_begins 2 (some .int) 1 := ⟨⟨coX7_begins, iniX7, by decide +kernel, by decide +kernel, by decide +kernel⟩, zt_of 846 (by decide +kernel) rfl, imX7_begins, seX7_begins⟩
theorem kL_27 : ZcV R_law 27 yX6_ends cX6_ends 2 (some .int) 1 := ⟨⟨coX6_ends, iniX6, by decide +kernel, by decide +kernel, by decide +kernel⟩, zt_of 395 (by decide +kernel) rfl, imX6_ends, seX6_ends⟩
theorem kL_30 : ZcV R_law 30 yX7_ends cX7_ends 2 (some .int) 1 := ⟨⟨coX7_ends, iniX7, by decide +kernel, by decide +kernel, by decide +kernel⟩, zt_of 854 (by decide +kernel) rfl, imX7_ends, seX7_ends⟩
theorem kL_31 : ZcV R_law 31 yX6_follows cX6_follows 3 (some .int) 2 := ⟨⟨coX6_follows, iniX6, by decide +kernel, by decide +kernel, by decide +kernel⟩, zt_of 403 (by decide +kernel) rfl, imX6_follows, seX6_follows⟩
theorem kL_34 : ZcV R_law 34 yX7_follows cX7_follows 3 (some .int) 2 := ⟨⟨coX7_follows, iniX7, by decide +kernel, by decide +kernel, by decide +kernel⟩, zt_of 858 (by decide +kernel) rfl, imX7_follows, seX7_follows⟩
theorem kL_35 : ZcV R_law 35 yX6_of cX6_of 3 (some .int) 2 := ⟨⟨coX6_of, iniX6, by decide +kernel, by decide +kernel, by decide +kernel⟩, zt_of 411 (by decide +kernel) rfl, imX6_of, seX6_of⟩
theorem kL_38 : ZcV R_law 38 yX7_of cX7_of 3 (some .int) 2 := ⟨⟨coX7_of, iniX7, by decide +kernel, by decide +kernel, by decide +kernel⟩, zt_of 879 (by decide +kernel) rfl, imX7_of, seX7_of⟩
theorem kL_39 : ZcV R_law 39 yX6_letter cX6_letter 2 (some .int) 1 := ⟨⟨coX6_letter, iniX6, by decide +kernel, by decide +kernel, by decide +kernel⟩, zt_of 424 (by decide +kernel) rfl, imX6_letter, seX6_letter⟩
theorem kL_42 : ZcV R_law 42 yX7_letter cX7_letter 2 (some .int) 1 := ⟨⟨coX7_letter, iniX7, by decide +kernel, by decide +kernel, by decide +kernel⟩, zt_of 898 (by decide +kernel) rfl, imX7_letter, seX7_letter⟩
theorem kL_43 : ZcV R_law 43 yX6_wipes cX6_wipes 1 (some .int) 0 := ⟨⟨coX6_wipes, iniX6, by decide +kernel, by decide +kernel, by decide +kernel⟩, zt_of 432 (by decide +kernel) rfl, imX6_wipes, seX6_wipes⟩
theorem kL_47 : ZcV R_law 47 yX7_wipes cX7_wipes 2 (some .int) 0 := ⟨⟨coX7_wipes, iniX7, by decide +kernel, by decide +kernel, by decide +kernel⟩, zt_of 902 (by decide +kernel) rfl, imX7_wipes, seX7_wipes⟩
theorem kL_48 : ZcV R_law 48 yX6_cuts cX6_cuts 3 (some .long) 0 := ⟨⟨coX6_cuts, iniX6, by decide +kernel, by decide +kernel, by decide +kernel⟩, zt_of 440 (by decide +kernel) rfl, imX6_cuts, seX6_cuts⟩
theorem kL_52 : ZcV R_law 52 yX7_cuts cX7_cuts 3 (some .long) 0 := ⟨⟨coX7_cuts, iniX7, by decide +kernel, by decide +kernel, by decide +kernel⟩, zt_of 906 (by decide +kernel) rfl, imX7_cuts, seX7_cuts⟩
theorem kL_53 : ZcV R_law 53 yX6_best cX6_best 3 (some .int) 2 := ⟨⟨coX6_best, iniX6, by decide +kernel, by decide +kernel, by decide +kernel⟩, zt_of 494 (by decide +kernel) rfl, imX6_best, seX6_best⟩
theorem kL_56 : ZcV R_law 56 yX7_best cX7_best 4 (some .int) 2 := ⟨⟨coX7_best, iniX7, by decide +kernel, by decide +kernel, by decide +kernel⟩, zt_of 992 (by decide +kernel) rfl, imX7_best, seX7_best⟩
theorem kL_57 : ZcV R_law 57 yX6_sings cX6_sings 2 (some .int) 1 := ⟨⟨coX6_sings, iniX6, by decide +kernel, by decide +kernel, by decide +kernel⟩, zt_of 529 (by decide +kernel) rfl, imX6_sings, seX6_sings⟩
theorem kL_60 : ZcV R_law 60 yX7_sings cX7_sings 2 (some .int) 1 := ⟨⟨coX7_sings, iniX7, by decide +kernel, by decide +kernel, by decide +kernel⟩, zt_of 1008 (by decide +kernel) rfl, imX7_sings, seX7_sings⟩
theorem kL_61 : ZcV R_law 61 yX6_fixes cX6_fixes 3 (some .int) 2 := ⟨⟨coX6_fixes, iniX6, by decide +kernel, by decide +kernel, by decide +kernel⟩, zt_of 541 (by decide +kernel) rfl, imX6_fixes, seX6_fixes⟩
theorem kL_64 : ZcV R_law 64 yX7_fixes cX7_fixes 3 (some .int) 2 := ⟨⟨coX7_fixes, iniX7, by decide +kernel, by decide +kernel, by decide +kernel⟩, zt_of 1016 (by decide +kernel) rfl, imX7_fixes, seX7_fixes⟩
theorem kL_65 : ZcV R_law 65 yX6_metre cX6_metre 2 (some .int) 1 := ⟨⟨coX6_metre, iniX6, by decide +kernel, by decide +kernel, by decide +kernel⟩, zt_of 550 (by decide +kernel) rfl, imX6_metre, seX6_metre⟩
theorem kL_68 : ZcV R_law 68 yX7_metre cX7_metre 2 (some .int) 1 := ⟨⟨coX7_metre, iniX7, by decide +kernel, by decide +kernel, by decide +kernel⟩, zt_of 866 (by decide +kernel) rfl, imX7_metre, seX7_metre⟩
theorem kL_69 : ZcV R_law 69 yX6_marks cX6_marks 3 (some .int) 2 := ⟨⟨coX6_marks, iniX6, by decide +kernel, by decide +kernel, by decide +kernel⟩, zt_of 558 (by decide +kernel) rfl, imX6_marks, seX6_marks⟩
theorem kL_72 : ZcV R_law 72 yX7_marks cX7_marks 3 (some .int) 2 := ⟨⟨coX7_marks, iniX7, by decide +kernel, by decide +kernel, by decide +kernel⟩, zt_of 870 (by decide +kernel) rfl, imX7_marks, seX7_marks⟩
theorem kL_73 : ZcV R_law 73 yX6_made cX6_made 3 (some .long) 0 := ⟨⟨coX6_made, iniX6, by decide +kernel, by decide +kernel, by decide +kernel⟩, zt_of 566 (by decide +kernel) rfl, imX6_made, seX6_made⟩
theorem kL_76 : ZcV R_law 76 yX7_made cX7_made 3 (some .long) 0 := ⟨⟨coX7_made, iniX7, by decide +kernel, by decide +kernel, by decide +kernel⟩, zt_of 955 (by decide +kernel) rfl, imX7_made, seX7_made⟩
theorem kL_79 : ZcV R_law 79 yX6_row cX6_row 6 (some .int) 2 := ⟨⟨coX6_row, iniX6, by decide +kernel, by decide +kernel, by decide +kernel⟩, zt_of 578 (by decide +kernel) rfl, imX6_row, seX6_row⟩
theorem kL_83 : ZcV R_law 83 yX7_row cX7_row 6 (some .int) 2 := ⟨⟨coX7_row, iniX7, by decide +kernel, by decide +kernel, by decide +kernel⟩, zt_of 959 (by decide +kernel) rfl, imX7_row, seX7_row⟩
theorem kL_84 : ZcV R_law 84 yX6_weight cX6_weight 5 (some .long) 2 := ⟨⟨coX6_weight, iniX6, by decide +kernel, by decide +kernel, by decide +kernel⟩, zt_of 597 (by decide +kernel) rfl, imX6_weight, seX6_weight⟩
theorem kL_88 : ZcV R_law 88 yX7_weight cX7_weight 5 (some .long) 2 := ⟨⟨coX7_weight, iniX7, by decide +kernel, by decide +kernel, by decide +kernel⟩, zt_of 971 (by decide +kernel) rfl, imX7_weight, seX7_weight⟩
theorem kL_89 : ZcV R_law 89 yX6_picks cX6_picks 8 (some .int) 3 := ⟨⟨coX6_picks, iniX6, by decide +kernel, by decide +kernel, by decide +kernel⟩, zt_of 602 (by decide +kernel) rfl, imX6_picks, seX6_picks⟩
theorem kL_93 : ZcV R_law 93 yX7_picks cX7_picks 8 (some .int) 3 := ⟨⟨coX7_picks, iniX7, by decide +kernel, by decide +kernel, by decide +kernel⟩, zt_of 984 (by decide +kernel) rfl, imX7_picks, seX7_picks⟩
theorem kL_94 : ZcV R_law 94 yX6_type cX6_type 3 (some .int) 1 := ⟨⟨coX6_type, iniX6, by decide +kernel, by decide +kernel, by decide +kernel⟩, zt_of 610 (by decide +kernel) rfl, imX6_type, seX6_type⟩
theorem kL_97 : ZcV R_law 97 yX7_type cX7_type 2 (some .int) 1 := ⟨⟨coX7_type, iniX7, by decide +kernel, by decide +kernel, by decide +kernel⟩, zt_of 1024 (by decide +kernel) rfl, imX7_type, seX7_type⟩
theorem kL_98 : ZcV R_law 98 yX6_clear cX6_clear 1 (some .int) 0 := ⟨⟨coX6_clear, iniX6, by decide +kernel, by decide +kernel, by decide +kernel⟩, zt_of 619 (by decide +kernel) rfl, imX6_clear, seX6_clear⟩
theorem kL_101 : ZcV R_law 101 yX7_clear cX7_clear 2 (some .int) 0 := ⟨⟨coX7_clear, iniX7, by decide +kernel, by decide +kernel, by decide +kernel⟩, zt_of 1029 (by decide +kernel) rfl, imX7_clear, seX7_clear⟩
theorem kL_102 : ZcV R_law 102 yX6_reads cX6_reads 3 (some .int) 0 := ⟨⟨coX6_reads, iniX6, by decide +kernel, by decide +kernel, by decide +kernel⟩, zt_of 627 (by decide +kernel) rfl, imX6_reads, seX6_reads⟩
theorem kL_105 : ZcV R_law 105 yX7_reads cX7_reads 3 (some .int) 0 := ⟨⟨coX7_reads, iniX7, by decide +kernel, by decide +kernel, by decide +kernel⟩, zt_of 1033 (by decide +kernel) rfl, imX7_reads, seX7_reads⟩
theorem kL_106 : ZcV R_law 106 yX6_back cX6_back 1 (some .int) 0 := ⟨⟨coX6_back, iniX6, by decide +kernel, by decide +kernel, by decide +kernel⟩, zt_of 683 (by decide +kernel) rfl, imX6_back, seX6_back⟩
theorem kL_109 : ZcV R_law 109 yX7_back cX7_back 2 (some .int) 0 := ⟨⟨coX7_back, iniX7, by decide +kernel, by decide +kernel, by decide +kernel⟩, zt_of 789 (by decide +kernel) rfl, imX7_back, seX7_back⟩
theorem kL_110 : ZcV R_law 110 yX6_told cX6_told 2 (some .int) 1 := ⟨⟨coX6_told, iniX6, by decide +kernel, by decide +kernel, by decide +kernel⟩, zt_of 692 (by decide +kernel) rfl, imX6_told, seX6_told⟩
theorem kL_113 : ZcV R_law 113 yX7_told cX7_told 2 (some .int) 1 := ⟨⟨coX7_told, iniX7, by decide +kernel, by decide +kernel, by decide +kernel⟩, zt_of 1086 (by decide +kernel) rfl, imX7_told, seX7_told⟩
theorem kL_114 : ZcV R_law 114 yX6_digest cX6_digest 5 (some .long) 0 := ⟨⟨coX6_digest, iniX6, by decide +kernel, by decide +kernel, by decide +kernel⟩, zt_of 701 (by decide +kernel) rfl, imX6_digest, seX6_digest⟩
theorem kL_117 : ZcV R_law 117 yX7_digest cX7_digest 3 (some .long) 0 := ⟨⟨coX7_digest, iniX7, by decide +kernel, by decide +kernel, by decide +kernel⟩, zt_of 1095 (by decide +kernel) rfl, imX7_digest, seX7_digest⟩
theorem klL_77 : Cond.constantLong R_law 77 (4294967295) ∈ zt := zt_of 1105 (by decide +kernel) rfl
theorem nI_sub4x {L : Nat} (hL : L ≤ 2048) {i3 : Int32} {n : Nat} (e : i3 = nI (4 * n)) (hn : n ≤ 513) (h : ¬ Int32.ofNat L - 4 < i3) : 4 * n + 4 ≤ L := by
  have h4 : (4 : Int32) = nI 4 := by decide +kernel
  have hLn : Int32.ofNat L = nI L := rfl
  rw [e, hLn, h4, Int32.lt_iff_toInt_lt, nI_toInt (by omega), pk_sub_toInt (by omega) (by omega)] at h
  omega
theorem zin_4 {L n k : Nat} (hL : L ≤ 2048) (h : 4 * n + 4 ≤ L) (hk : k < 4) {i3 c : Int32} (e : i3 = nI (4 * n)) (ec : c = nI k) : zin (i3 + c) L = true := by
  apply vp_zin
  rw [e, ec, nI_add]
  exact vp_in_nI (by omega) (by omega)
theorem sel31 (x : Int32) : ∃ j : Nat, j < 32 ∧ x &&& 31 = nI j := by
  obtain ⟨j, h1, h2⟩ := pk_andE x (m := 31) 5 (by decide +kernel)
  exact ⟨j, h1, h2⟩
set_option maxHeartbeats 4000000 in
set_option maxRecDepth 100000 in
theorem law_loop {g : Gx} {am : Nat → Nat} {b L : Nat} {xs : Nat → Int32} (hL : L ≤ 2048) (Inv : Nat → Mm → Mm → Prop) (hid : ∀ n μC μM, Inv n μC μM → Inv (n + 1) μC μM) (hs0 : ∀ (n : Nat) (z0 : Int32) (z1 : Int32), n < 512 → Sp Inv n (f_X6_phrase z0 z1) (f_X7_phrase z0 z1)) (hs1 : ∀ (n : Nat) (z0 : Int32), n < 512 → Sp Inv n (f_X6_drops z0) (f_X7_drops z0)) (hs2 : ∀ (n : Nat) (z0 : Int32), n < 512 → Sp Inv n (f_X6_begins z0) (f_X7_begins z0)) (hs3 : ∀ (n : Nat) (z0 : Int32), n < 512 → Sp Inv n (f_X6_ends z0) (f_X7_ends z0)) (hs4 : ∀ (n : Nat) (z0 : Int32) (z1 : Int32), n < 512 → Sp Inv n (f_X6_follows z0 z1) (f_X7_follows z0 z1)) (hs5 : ∀ (n : Nat) (z0 : Int32) (z1 : Int32), n < 512 → Sp Inv n (f_X6_of z0 z1) (f_X7_of z0 z1)) (hs6 : ∀ (n : Nat) (z0 : Int32), n < 512 → Sp Inv n (f_X6_letter z0) (f_X7_letter z0)) (hs7 : ∀ (n : Nat), n < 512 → Sp Inv n (f_X6_wipes) (f_X7_wipes)) (hs8 : ∀ (n : Nat), n < 512 → Sp Inv n (f_X6_cuts) (f_X7_cuts)) (hs9 : ∀ (n : Nat) (z0 : Int32) (z1 : Int32), n < 512 → Sp Inv n (f_X6_best z0 z1) (f_X7_best z0 z1)) (hs10 : ∀ (n : Nat) (z0 : Int32), n < 512 → Sp Inv n (f_X6_sings z0) (f_X7_sings z0)) (hs11 : ∀ (n : Nat) (z0 : Int32) (z1 : Int32), n < 512 → Sp Inv n (f_X6_fixes z0 z1) (f_X7_fixes z0 z1)) (hs12 : ∀ (n : Nat) (z0 : Int32), n < 512 → Sp Inv n (f_X6_metre z0) (f_X7_metre z0)) (hs13 : ∀ (n : Nat) (z0 : Int32) (z1 : Int32), n < 512 → Sp Inv n (f_X6_marks z0 z1) (f_X7_marks z0 z1)) (hs14 : ∀ (n : Nat), n < 512 → Sp Inv n (f_X6_made) (f_X7_made)) (hs15 : ∀ (n : Nat) (z0 : Int64) (z1 : Int32), n < 512 → Sp Inv n (f_X6_row z0 z1) (f_X7_row z0 z1)) (hs16 : ∀ (n : Nat) (z0 : Int32) (z1 : Int32), n < 512 → Sp Inv n (f_X6_weight z0 z1) (f_X7_weight z0 z1)) (hs17 : ∀ (n : Nat) (z0 : Int32) (z1 : Int32) (z2 : Int32), n < 512 → Sp Inv n (f_X6_picks z0 z1 z2) (f_X7_picks z0 z1 z2)) (hs18 : ∀ (n : Nat) (z0 : Int32), n < 512 → Sp Inv n (f_X6_type z0) (f_X7_type z0)) (hs19 : ∀ (n : Nat), n < 512 → Sp Inv n (f_X6_clear) (f_X7_clear)) (hs20 : ∀ (n : Nat), n < 512 → Sp Inv n (f_X6_reads) (f_X7_reads)) (hs21 : ∀ (n : Nat), n < 512 → Sp Inv n (f_X6_back) (f_X7_back)) (hs22 : ∀ (n : Nat) (z0 : Int32), n < 512 → Sp Inv n (f_X6_told z0) (f_X7_told z0)) (hs23 : ∀ (n : Nat), n < 512 → Sp Inv n (f_X6_digest) (f_X7_digest)) :
    ∀ (f n : Nat) (i3 : Int32) (μC μM : Mm), n + f = 513 → i3 = nI (4 * n) → Inv n μC μM → Lw g am b L xs 18 [(0, .ref b), (1, .ref (g.2.2.1 0)), (2, .ref ((gMo g am).2.2.1 0)), (3, .int i3)] [] μC μM := by
  intro f
  induction f with
  | zero =>
    intro n i3 μC μM hn e hI
    refine l_iload_n (pc := 18) 3 dL_law_18 rfl rfl ?_
    refine l_aload_n (pc := 19) 0 dL_law_19 rfl rfl ?_
    refine l_slen (pc := 20) dL_law_20 ?_
    refine l_iconst (pc := 21) (v := 4) dL_law_21 (by decide +kernel) ?_
    refine l_isub (pc := 22) dL_law_22 ?_
    refine l_icmp_gt (pc := 23) (tgt := 766) dL_law_23 (by decide) (fun h => ?_) (fun h => ?_)
    · refine l_iconst (pc := 766) (v := 1) dL_law_766 (by decide +kernel) ?_
      exact l_ret dL_law_767
    · exact absurd ((nI_sub4x hL e (by omega)) h) (by omega)
  | succ f ih =>
    intro n i3 μC μM hn e hI
    refine l_iload_n (pc := 18) 3 dL_law_18 rfl rfl ?_
    refine l_aload_n (pc := 19) 0 dL_law_19 rfl rfl ?_
    refine l_slen (pc := 20) dL_law_20 ?_
    refine l_iconst (pc := 21) (v := 4) dL_law_21 (by decide +kernel) ?_
    refine l_isub (pc := 22) dL_law_22 ?_
    refine l_icmp_gt (pc := 23) (tgt := 766) dL_law_23 (by decide) (fun h => ?_) (fun h => ?_)
    · refine l_iconst (pc := 766) (v := 1) dL_law_766 (by decide +kernel) ?_
      exact l_ret dL_law_767
    · have h4 : 4 * n + 4 ≤ L := nI_sub4x hL e (by omega) h
      have hn5 : n < 512 := by omega
      have hi0 : zin i3 L = true := by have := zin_4 hL h4 (show 0 < 4 by decide) e (c := 0) (by decide +kernel); rw [Int32.add_zero] at this; exact this
      have hi1 : zin (i3 + (1 : Int32)) L = true := zin_4 hL h4 (show 1 < 4 by decide) e (by decide +kernel)
      have hi2 : zin (i3 + (2 : Int32)) L = true := zin_4 hL h4 (show 2 < 4 by decide) e (by decide +kernel)
      have hi3 : zin (i3 + (3 : Int32)) L = true := zin_4 hL h4 (show 3 < 4 by decide) e (by decide +kernel)
      have next : ∀ μC2 μM2, Inv (n + 1) μC2 μM2 → Lw g am b L xs 760 [(0, .ref b), (1, .ref (g.2.2.1 0)), (2, .ref ((gMo g am).2.2.1 0)), (3, .int i3)] [] μC2 μM2 := by
        intro μC2 μM2 hI2
        refine l_iinc (pc := 760) (v := i3 + 4) (lv2 := [(0, .ref b), (1, .ref (g.2.2.1 0)), (2, .ref ((gMo g am).2.2.1 0)), (3, .int (i3 + 4))]) 3 [1, 2, 3, 0] dL_law_760 rfl (by rw [oi_4]) (by decide) rfl ?_
        refine l_goto (pc := 763) (tgt := 18) dL_law_763 (by decide) ?_
        refine ih (n + 1) _ _ _ (by omega) ?_ hI2
        rw [e, show (4 : Int32) = nI 4 by decide +kernel, nI_add]
        rfl
      refine l_aload_n (pc := 26) 0 dL_law_26 rfl rfl ?_
      refine l_iload_n (pc := 27) 3 dL_law_27 rfl rfl ?_
      refine l_sld (pc := 28) hi0 dL_law_28 ?_
      refine l_bipush (pc := 29) (v := 31) dL_law_29 (by decide +kernel) ?_
      refine l_iand (pc := 31) dL_law_31 ?_
      obtain ⟨j, hj, ej⟩ := sel31 (xs i3.toNatClampNeg)
      rw [ej]
      have hjt : (nI j).toInt = (j : Int) := nI_toInt (by omega)
      by_cases hj24 : j < 24
      · rcases (show j = 0 ∨ j = 1 ∨ j = 2 ∨ j = 3 ∨ j = 4 ∨ j = 5 ∨ j = 6 ∨ j = 7 ∨ j = 8 ∨ j = 9 ∨ j = 10 ∨ j = 11 ∨ j = 12 ∨ j = 13 ∨ j = 14 ∨ j = 15 ∨ j = 16 ∨ j = 17 ∨ j = 18 ∨ j = 19 ∨ j = 20 ∨ j = 21 ∨ j = 22 ∨ j = 23 by omega) with rfl | rfl | rfl | rfl | rfl | rfl | rfl | rfl | rfl | rfl | rfl | rfl | rfl | rfl | rfl | rfl | rfl | rfl | rfl | rfl | rfl | rfl | rfl | rfl
        · refine l_tabIn (pc := 32) (tgt := 144) dL_law_32 (by rw [hjt]; decide) (by rw [hjt]; decide) (off := 112) (by decide +kernel) (by decide) ?_
          obtain ⟨r, μC2, μM2, eC, eM, hI2⟩ := hs0 n (xs (i3 + (1 : Int32)).toNatClampNeg) (xs (i3 + (2 : Int32)).toNatClampNeg) hn5 μC μM hI
          refine l_aload_n (pc := 144) 1 dL_law_144 rfl rfl ?_
          refine l_aload_n (pc := 145) 0 dL_law_145 rfl rfl ?_
          refine l_iload_n (pc := 146) 3 dL_law_146 rfl rfl ?_
          refine l_iconst (pc := 147) (v := 1) dL_law_147 (by decide +kernel) ?_
          refine l_iadd (pc := 148) dL_law_148 ?_
          refine l_sld (pc := 149) hi1 dL_law_149 ?_
          refine l_aload_n (pc := 150) 0 dL_law_150 rfl rfl ?_
          refine l_iload_n (pc := 151) 3 dL_law_151 rfl rfl ?_
          refine l_iconst (pc := 152) (v := 2) dL_law_152 (by decide +kernel) ?_
          refine l_iadd (pc := 153) dL_law_153 ?_
          refine l_sld (pc := 154) hi2 dL_law_154 ?_
          refine l_callC (pc := 155) (As := [.int (xs (i3 + (1 : Int32)).toNatClampNeg), .int (xs (i3 + (2 : Int32)).toNatClampNeg)]) (rest := []) kL_13 (m_X6_phrase g μC (xs (i3 + (1 : Int32)).toNatClampNeg) (xs (i3 + (2 : Int32)).toNatClampNeg)) eC rfl ⟨rfl, rfl⟩ ⟨(Nat.le_of_ble_eq_true rfl), (Nat.le_of_ble_eq_true rfl)⟩ (Nat.le_of_ble_eq_true rfl) rfl rfl dL_law_155 ?_
          change Lw g am b L xs 158 [(0, .ref b), (1, .ref (g.2.2.1 0)), (2, .ref ((gMo g am).2.2.1 0)), (3, .int i3)] [.int r] μC2 μM
          refine l_aload_n (pc := 158) 2 dL_law_158 rfl rfl ?_
          refine l_aload_n (pc := 159) 0 dL_law_159 rfl rfl ?_
          refine l_iload_n (pc := 160) 3 dL_law_160 rfl rfl ?_
          refine l_iconst (pc := 161) (v := 1) dL_law_161 (by decide +kernel) ?_
          refine l_iadd (pc := 162) dL_law_162 ?_
          refine l_sld (pc := 163) hi1 dL_law_163 ?_
          refine l_aload_n (pc := 164) 0 dL_law_164 rfl rfl ?_
          refine l_iload_n (pc := 165) 3 dL_law_165 rfl rfl ?_
          refine l_iconst (pc := 166) (v := 2) dL_law_166 (by decide +kernel) ?_
          refine l_iadd (pc := 167) dL_law_167 ?_
          refine l_sld (pc := 168) hi2 dL_law_168 ?_
          refine l_callM (pc := 169) (As := [.int (xs (i3 + (1 : Int32)).toNatClampNeg), .int (xs (i3 + (2 : Int32)).toNatClampNeg)]) (rest := [.int r]) kL_17 (m_X7_phrase (gMo g am) μM (xs (i3 + (1 : Int32)).toNatClampNeg) (xs (i3 + (2 : Int32)).toNatClampNeg)) eM rfl ⟨rfl, rfl⟩ ⟨(Nat.le_of_ble_eq_true rfl), (Nat.le_of_ble_eq_true rfl)⟩ (Nat.le_of_ble_eq_true rfl) rfl rfl dL_law_169 ?_
          change Lw g am b L xs 172 [(0, .ref b), (1, .ref (g.2.2.1 0)), (2, .ref ((gMo g am).2.2.1 0)), (3, .int i3)] [.int r, .int r] μC2 μM2
          refine l_icmp_eq (pc := 172) (tgt := 760) dL_law_172 (by decide) rfl ?_
          exact next μC2 μM2 hI2
        · refine l_tabIn (pc := 32) (tgt := 177) dL_law_32 (by rw [hjt]; decide) (by rw [hjt]; decide) (off := 145) (by decide +kernel) (by decide) ?_
          obtain ⟨r, μC2, μM2, eC, eM, hI2⟩ := hs1 n (xs (i3 + (1 : Int32)).toNatClampNeg) hn5 μC μM hI
          refine l_aload_n (pc := 177) 1 dL_law_177 rfl rfl ?_
          refine l_aload_n (pc := 178) 0 dL_law_178 rfl rfl ?_
          refine l_iload_n (pc := 179) 3 dL_law_179 rfl rfl ?_
          refine l_iconst (pc := 180) (v := 1) dL_law_180 (by decide +kernel) ?_
          refine l_iadd (pc := 181) dL_law_181 ?_
          refine l_sld (pc := 182) hi1 dL_law_182 ?_
          refine l_callC (pc := 183) (As := [.int (xs (i3 + (1 : Int32)).toNatClampNeg)]) (rest := []) kL_18 (m_X6_drops g μC (xs (i3 + (1 : Int32)).toNatClampNeg)) eC rfl ⟨rfl, rfl⟩ ⟨(Nat.le_of_ble_eq_true rfl), (Nat.le_of_ble_eq_true rfl)⟩ (Nat.le_of_ble_eq_true rfl) rfl rfl dL_law_183 ?_
          change Lw g am b L xs 186 [(0, .ref b), (1, .ref (g.2.2.1 0)), (2, .ref ((gMo g am).2.2.1 0)), (3, .int i3)] [.int r] μC2 μM
          refine l_aload_n (pc := 186) 2 dL_law_186 rfl rfl ?_
          refine l_aload_n (pc := 187) 0 dL_law_187 rfl rfl ?_
          refine l_iload_n (pc := 188) 3 dL_law_188 rfl rfl ?_
          refine l_iconst (pc := 189) (v := 1) dL_law_189 (by decide +kernel) ?_
          refine l_iadd (pc := 190) dL_law_190 ?_
          refine l_sld (pc := 191) hi1 dL_law_191 ?_
          refine l_callM (pc := 192) (As := [.int (xs (i3 + (1 : Int32)).toNatClampNeg)]) (rest := [.int r]) kL_22 (m_X7_drops (gMo g am) μM (xs (i3 + (1 : Int32)).toNatClampNeg)) eM rfl ⟨rfl, rfl⟩ ⟨(Nat.le_of_ble_eq_true rfl), (Nat.le_of_ble_eq_true rfl)⟩ (Nat.le_of_ble_eq_true rfl) rfl rfl dL_law_192 ?_
          change Lw g am b L xs 195 [(0, .ref b), (1, .ref (g.2.2.1 0)), (2, .ref ((gMo g am).2.2.1 0)), (3, .int i3)] [.int r, .int r] μC2 μM2
          refine l_icmp_eq (pc := 195) (tgt := 760) dL_law_195 (by decide) rfl ?_
          exact next μC2 μM2 hI2
        · refine l_tabIn (pc := 32) (tgt := 200) dL_law_32 (by rw [hjt]; decide) (by rw [hjt]; decide) (off := 168) (by decide +kernel) (by decide) ?_
          obtain ⟨r, μC2, μM2, eC, eM, hI2⟩ := hs2 n (xs (i3 + (1 : Int32)).toNatClampNeg) hn5 μC μM hI
          refine l_aload_n (pc := 200) 1 dL_law_200 rfl rfl ?_
          refine l_aload_n (pc := 201) 0 dL_law_201 rfl rfl ?_
          refine l_iload_n (pc := 202) 3 dL_law_202 rfl rfl ?_
          refine l_iconst (pc := 203) (v := 1) dL_law_203 (by decide +kernel) ?_
          refine l_iadd (pc := 204) dL_law_204 ?_
          refine l_sld (pc := 205) hi1 dL_law_205 ?_
          refine l_callC (pc := 206) (As := [.int (xs (i3 + (1 : Int32)).toNatClampNeg)]) (rest := []) kL_23 (m_X6_begins g μC (xs (i3 + (1 : Int32)).toNatClampNeg)) eC rfl ⟨rfl, rfl⟩ ⟨(Nat.le_of_ble_eq_true rfl), (Nat.le_of_ble_eq_true rfl)⟩ (Nat.le_of_ble_eq_true rfl) rfl rfl dL_law_206 ?_
          change Lw g am b L xs 209 [(0, .ref b), (1, .ref (g.2.2.1 0)), (2, .ref ((gMo g am).2.2.1 0)), (3, .int i3)] [.int r] μC2 μM
          refine l_aload_n (pc := 209) 2 dL_law_209 rfl rfl ?_
          refine l_aload_n (pc := 210) 0 dL_law_210 rfl rfl ?_
          refine l_iload_n (pc := 211) 3 dL_law_211 rfl rfl ?_
          refine l_iconst (pc := 212) (v := 1) dL_law_212 (by decide +kernel) ?_
          refine l_iadd (pc := 213) dL_law_213 ?_
          refine l_sld (pc := 214) hi1 dL_law_214 ?_
          refine l_callM (pc := 215) (As := [.int (xs (i3 + (1 : Int32)).toNatClampNeg)]) (rest := [.int r]) kL_26 (m_X7_begins (gMo g am) μM (xs (i3 + (1 : Int32)).toNatClampNeg)) eM rfl ⟨rfl, rfl⟩ ⟨(Nat.le_of_ble_eq_true rfl), (Nat.le_of_ble_eq_true rfl)⟩ (Nat.le_of_ble_eq_true rfl) rfl rfl dL_law_215 ?_
          change Lw g am b L xs 218 [(0, .ref b), (1, .ref (g.2.2.1 0)), (2, .ref ((gMo g am).2.2.1 0)), (3, .int i3)] [.int r, .int r] μC2 μM2
          refine l_icmp_eq (pc := 218) (tgt := 760) dL_law_218 (by decide) rfl ?_
          exact next μC2 μM2 hI2
        · refine l_tabIn (pc := 32) (tgt := 223) dL_law_32 (by rw [hjt]; decide) (by rw [hjt]; decide) (off := 191) (by decide +kernel) (by decide) ?_
          obtain ⟨r, μC2, μM2, eC, eM, hI2⟩ := hs3 n (xs (i3 + (1 : Int32)).toNatClampNeg) hn5 μC μM hI
          refine l_aload_n (pc := 223) 1 dL_law_223 rfl rfl ?_
          refine l_aload_n (pc := 224) 0 dL_law_224 rfl rfl ?_
          refine l_iload_n (pc := 225) 3 dL_law_225 rfl rfl ?_
          refine l_iconst (pc := 226) (v := 1) dL_law_226 (by decide +kernel) ?_
          refine l_iadd (pc := 227) dL_law_227 ?_
          refine l_sld (pc := 228) hi1 dL_law_228 ?_
          refine l_callC (pc := 229) (As := [.int (xs (i3 + (1 : Int32)).toNatClampNeg)]) (rest := []) kL_27 (m_X6_ends g μC (xs (i3 + (1 : Int32)).toNatClampNeg)) eC rfl ⟨rfl, rfl⟩ ⟨(Nat.le_of_ble_eq_true rfl), (Nat.le_of_ble_eq_true rfl)⟩ (Nat.le_of_ble_eq_true rfl) rfl rfl dL_law_229 ?_
          change Lw g am b L xs 232 [(0, .ref b), (1, .ref (g.2.2.1 0)), (2, .ref ((gMo g am).2.2.1 0)), (3, .int i3)] [.int r] μC2 μM
          refine l_aload_n (pc := 232) 2 dL_law_232 rfl rfl ?_
          refine l_aload_n (pc := 233) 0 dL_law_233 rfl rfl ?_
          refine l_iload_n (pc := 234) 3 dL_law_234 rfl rfl ?_
          refine l_iconst (pc := 235) (v := 1) dL_law_235 (by decide +kernel) ?_
          refine l_iadd (pc := 236) dL_law_236 ?_
          refine l_sld (pc := 237) hi1 dL_law_237 ?_
          refine l_callM (pc := 238) (As := [.int (xs (i3 + (1 : Int32)).toNatClampNeg)]) (rest := [.int r]) kL_30 (m_X7_ends (gMo g am) μM (xs (i3 + (1 : Int32)).toNatClampNeg)) eM rfl ⟨rfl, rfl⟩ ⟨(Nat.le_of_ble_eq_true rfl), (Nat.le_of_ble_eq_true rfl)⟩ (Nat.le_of_ble_eq_true rfl) rfl rfl dL_law_238 ?_
          change Lw g am b L xs 241 [(0, .ref b), (1, .ref (g.2.2.1 0)), (2, .ref ((gMo g am).2.2.1 0)), (3, .int i3)] [.int r, .int r] μC2 μM2
          refine l_icmp_eq (pc := 241) (tgt := 760) dL_law_241 (by decide) rfl ?_
          exact next μC2 μM2 hI2
        · refine l_tabIn (pc := 32) (tgt := 246) dL_law_32 (by rw [hjt]; decide) (by rw [hjt]; decide) (off := 214) (by decide +kernel) (by decide) ?_
          obtain ⟨r, μC2, μM2, eC, eM, hI2⟩ := hs4 n (xs (i3 + (1 : Int32)).toNatClampNeg) (xs (i3 + (2 : Int32)).toNatClampNeg) hn5 μC μM hI
          refine l_aload_n (pc := 246) 1 dL_law_246 rfl rfl ?_
          refine l_aload_n (pc := 247) 0 dL_law_247 rfl rfl ?_
          refine l_iload_n (pc := 248) 3 dL_law_248 rfl rfl ?_
          refine l_iconst (pc := 249) (v := 1) dL_law_249 (by decide +kernel) ?_
          refine l_iadd (pc := 250) dL_law_250 ?_
          refine l_sld (pc := 251) hi1 dL_law_251 ?_
          refine l_aload_n (pc := 252) 0 dL_law_252 rfl rfl ?_
          refine l_iload_n (pc := 253) 3 dL_law_253 rfl rfl ?_
          refine l_iconst (pc := 254) (v := 2) dL_law_254 (by decide +kernel) ?_
          refine l_iadd (pc := 255) dL_law_255 ?_
          refine l_sld (pc := 256) hi2 dL_law_256 ?_
          refine l_callC (pc := 257) (As := [.int (xs (i3 + (1 : Int32)).toNatClampNeg), .int (xs (i3 + (2 : Int32)).toNatClampNeg)]) (rest := []) kL_31 (m_X6_follows g μC (xs (i3 + (1 : Int32)).toNatClampNeg) (xs (i3 + (2 : Int32)).toNatClampNeg)) eC rfl ⟨rfl, rfl⟩ ⟨(Nat.le_of_ble_eq_true rfl), (Nat.le_of_ble_eq_true rfl)⟩ (Nat.le_of_ble_eq_true rfl) rfl rfl dL_law_257 ?_
          change Lw g am b L xs 260 [(0, .ref b), (1, .ref (g.2.2.1 0)), (2, .ref ((gMo g am).2.2.1 0)), (3, .int i3)] [.int r] μC2 μM
          refine l_aload_n (pc := 260) 2 dL_law_260 rfl rfl ?_
          refine l_aload_n (pc := 261) 0 dL_law_261 rfl rfl ?_
          refine l_iload_n (pc := 262) 3 dL_law_262 rfl rfl ?_
          refine l_iconst (pc := 263) (v := 1) dL_law_263 (by decide +kernel) ?_
          refine l_iadd (pc := 264) dL_law_264 ?_
          refine l_sld (pc := 265) hi1 dL_law_265 ?_
          refine l_aload_n (pc := 266) 0 dL_law_266 rfl rfl ?_
          refine l_iload_n (pc := 267) 3 dL_law_267 rfl rfl ?_
          refine l_iconst (pc := 268) (v := 2) dL_law_268 (by decide +kernel) ?_
          refine l_iadd (pc := 269) dL_law_269 ?_
          refine l_sld (pc := 270) hi2 dL_law_270 ?_
          refine l_callM (pc := 271) (As := [.int (xs (i3 + (1 : Int32)).toNatClampNeg), .int (xs (i3 + (2 : Int32)).toNatClampNeg)]) (rest := [.int r]) kL_34 (m_X7_follows (gMo g am) μM (xs (i3 + (1 : Int32)).toNatClampNeg) (xs (i3 + (2 : Int32)).toNatClampNeg)) eM rfl ⟨rfl, rfl⟩ ⟨(Nat.le_of_ble_eq_true rfl), (Nat.le_of_ble_eq_true rfl)⟩ (Nat.le_of_ble_eq_true rfl) rfl rfl dL_law_271 ?_
          change Lw g am b L xs 274 [(0, .ref b), (1, .ref (g.2.2.1 0)), (2, .ref ((gMo g am).2.2.1 0)), (3, .int i3)] [.int r, .int r] μC2 μM2
          refine l_icmp_eq (pc := 274) (tgt := 760) dL_law_274 (by decide) rfl ?_
          exact next μC2 μM2 hI2
        · refine l_tabIn (pc := 32) (tgt := 279) dL_law_32 (by rw [hjt]; decide) (by rw [hjt]; decide) (off := 247) (by decide +kernel) (by decide) ?_
          obtain ⟨r, μC2, μM2, eC, eM, hI2⟩ := hs5 n (xs (i3 + (1 : Int32)).toNatClampNeg) (xs (i3 + (2 : Int32)).toNatClampNeg) hn5 μC μM hI
          refine l_aload_n (pc := 279) 1 dL_law_279 rfl rfl ?_
          refine l_aload_n (pc := 280) 0 dL_law_280 rfl rfl ?_
          refine l_iload_n (pc := 281) 3 dL_law_281 rfl rfl ?_
          refine l_iconst (pc := 282) (v := 1) dL_law_282 (by decide +kernel) ?_
          refine l_iadd (pc := 283) dL_law_283 ?_
          refine l_sld (pc := 284) hi1 dL_law_284 ?_
          refine l_aload_n (pc := 285) 0 dL_law_285 rfl rfl ?_
          refine l_iload_n (pc := 286) 3 dL_law_286 rfl rfl ?_
          refine l_iconst (pc := 287) (v := 2) dL_law_287 (by decide +kernel) ?_
          refine l_iadd (pc := 288) dL_law_288 ?_
          refine l_sld (pc := 289) hi2 dL_law_289 ?_
          refine l_callC (pc := 290) (As := [.int (xs (i3 + (1 : Int32)).toNatClampNeg), .int (xs (i3 + (2 : Int32)).toNatClampNeg)]) (rest := []) kL_35 (m_X6_of g μC (xs (i3 + (1 : Int32)).toNatClampNeg) (xs (i3 + (2 : Int32)).toNatClampNeg)) eC rfl ⟨rfl, rfl⟩ ⟨(Nat.le_of_ble_eq_true rfl), (Nat.le_of_ble_eq_true rfl)⟩ (Nat.le_of_ble_eq_true rfl) rfl rfl dL_law_290 ?_
          change Lw g am b L xs 293 [(0, .ref b), (1, .ref (g.2.2.1 0)), (2, .ref ((gMo g am).2.2.1 0)), (3, .int i3)] [.int r] μC2 μM
          refine l_aload_n (pc := 293) 2 dL_law_293 rfl rfl ?_
          refine l_aload_n (pc := 294) 0 dL_law_294 rfl rfl ?_
          refine l_iload_n (pc := 295) 3 dL_law_295 rfl rfl ?_
          refine l_iconst (pc := 296) (v := 1) dL_law_296 (by decide +kernel) ?_
          refine l_iadd (pc := 297) dL_law_297 ?_
          refine l_sld (pc := 298) hi1 dL_law_298 ?_
          refine l_aload_n (pc := 299) 0 dL_law_299 rfl rfl ?_
          refine l_iload_n (pc := 300) 3 dL_law_300 rfl rfl ?_
          refine l_iconst (pc := 301) (v := 2) dL_law_301 (by decide +kernel) ?_
          refine l_iadd (pc := 302) dL_law_302 ?_
          refine l_sld (pc := 303) hi2 dL_law_303 ?_
          refine l_callM (pc := 304) (As := [.int (xs (i3 + (1 : Int32)).toNatClampNeg), .int (xs (i3 + (2 : Int32)).toNatClampNeg)]) (rest := [.int r]) kL_38 (m_X7_of (gMo g am) μM (xs (i3 + (1 : Int32)).toNatClampNeg) (xs (i3 + (2 : Int32)).toNatClampNeg)) eM rfl ⟨rfl, rfl⟩ ⟨(Nat.le_of_ble_eq_true rfl), (Nat.le_of_ble_eq_true rfl)⟩ (Nat.le_of_ble_eq_true rfl) rfl rfl dL_law_304 ?_
          change Lw g am b L xs 307 [(0, .ref b), (1, .ref (g.2.2.1 0)), (2, .ref ((gMo g am).2.2.1 0)), (3, .int i3)] [.int r, .int r] μC2 μM2
          refine l_icmp_eq (pc := 307) (tgt := 760) dL_law_307 (by decide) rfl ?_
          exact next μC2 μM2 hI2
        · refine l_tabIn (pc := 32) (tgt := 312) dL_law_32 (by rw [hjt]; decide) (by rw [hjt]; decide) (off := 280) (by decide +kernel) (by decide) ?_
          obtain ⟨r, μC2, μM2, eC, eM, hI2⟩ := hs6 n (xs (i3 + (1 : Int32)).toNatClampNeg) hn5 μC μM hI
          refine l_aload_n (pc := 312) 1 dL_law_312 rfl rfl ?_
          refine l_aload_n (pc := 313) 0 dL_law_313 rfl rfl ?_
          refine l_iload_n (pc := 314) 3 dL_law_314 rfl rfl ?_
          refine l_iconst (pc := 315) (v := 1) dL_law_315 (by decide +kernel) ?_
          refine l_iadd (pc := 316) dL_law_316 ?_
          refine l_sld (pc := 317) hi1 dL_law_317 ?_
          refine l_callC (pc := 318) (As := [.int (xs (i3 + (1 : Int32)).toNatClampNeg)]) (rest := []) kL_39 (m_X6_letter g μC (xs (i3 + (1 : Int32)).toNatClampNeg)) eC rfl ⟨rfl, rfl⟩ ⟨(Nat.le_of_ble_eq_true rfl), (Nat.le_of_ble_eq_true rfl)⟩ (Nat.le_of_ble_eq_true rfl) rfl rfl dL_law_318 ?_
          change Lw g am b L xs 321 [(0, .ref b), (1, .ref (g.2.2.1 0)), (2, .ref ((gMo g am).2.2.1 0)), (3, .int i3)] [.int r] μC2 μM
          refine l_aload_n (pc := 321) 2 dL_law_321 rfl rfl ?_
          refine l_aload_n (pc := 322) 0 dL_law_322 rfl rfl ?_
          refine l_iload_n (pc := 323) 3 dL_law_323 rfl rfl ?_
          refine l_iconst (pc := 324) (v := 1) dL_law_324 (by decide +kernel) ?_
          refine l_iadd (pc := 325) dL_law_325 ?_
          refine l_sld (pc := 326) hi1 dL_law_326 ?_
          refine l_callM (pc := 327) (As := [.int (xs (i3 + (1 : Int32)).toNatClampNeg)]) (rest := [.int r]) kL_42 (m_X7_letter (gMo g am) μM (xs (i3 + (1 : Int32)).toNatClampNeg)) eM rfl ⟨rfl, rfl⟩ ⟨(Nat.le_of_ble_eq_true rfl), (Nat.le_of_ble_eq_true rfl)⟩ (Nat.le_of_ble_eq_true rfl) rfl rfl dL_law_327 ?_
          change Lw g am b L xs 330 [(0, .ref b), (1, .ref (g.2.2.1 0)), (2, .ref ((gMo g am).2.2.1 0)), (3, .int i3)] [.int r, .int r] μC2 μM2
          refine l_icmp_eq (pc := 330) (tgt := 760) dL_law_330 (by decide) rfl ?_
          exact next μC2 μM2 hI2
        · refine l_tabIn (pc := 32) (tgt := 335) dL_law_32 (by rw [hjt]; decide) (by rw [hjt]; decide) (off := 303) (by decide +kernel) (by decide) ?_
          obtain ⟨r, μC2, μM2, eC, eM, hI2⟩ := hs7 n hn5 μC μM hI
          refine l_aload_n (pc := 335) 1 dL_law_335 rfl rfl ?_
          refine l_callC (pc := 336) (As := []) (rest := []) kL_43 (m_X6_wipes g μC) eC rfl ⟨rfl, rfl⟩ ⟨(Nat.le_of_ble_eq_true rfl), (Nat.le_of_ble_eq_true rfl)⟩ (Nat.le_of_ble_eq_true rfl) rfl rfl dL_law_336 ?_
          change Lw g am b L xs 339 [(0, .ref b), (1, .ref (g.2.2.1 0)), (2, .ref ((gMo g am).2.2.1 0)), (3, .int i3)] [.int r] μC2 μM
          refine l_aload_n (pc := 339) 2 dL_law_339 rfl rfl ?_
          refine l_callM (pc := 340) (As := []) (rest := [.int r]) kL_47 (m_X7_wipes (gMo g am) μM) eM rfl ⟨rfl, rfl⟩ ⟨(Nat.le_of_ble_eq_true rfl), (Nat.le_of_ble_eq_true rfl)⟩ (Nat.le_of_ble_eq_true rfl) rfl rfl dL_law_340 ?_
          change Lw g am b L xs 343 [(0, .ref b), (1, .ref (g.2.2.1 0)), (2, .ref ((gMo g am).2.2.1 0)), (3, .int i3)] [.int r, .int r] μC2 μM2
          refine l_icmp_eq (pc := 343) (tgt := 760) dL_law_343 (by decide) rfl ?_
          exact next μC2 μM2 hI2
        · refine l_tabIn (pc := 32) (tgt := 348) dL_law_32 (by rw [hjt]; decide) (by rw [hjt]; decide) (off := 316) (by decide +kernel) (by decide) ?_
          obtain ⟨r, μC2, μM2, eC, eM, hI2⟩ := hs8 n hn5 μC μM hI
          refine l_aload_n (pc := 348) 1 dL_law_348 rfl rfl ?_
          refine l_callC (pc := 349) (As := []) (rest := []) kL_48 (m_X6_cuts g μC) eC rfl ⟨rfl, rfl⟩ ⟨(Nat.le_of_ble_eq_true rfl), (Nat.le_of_ble_eq_true rfl)⟩ (Nat.le_of_ble_eq_true rfl) rfl rfl dL_law_349 ?_
          change Lw g am b L xs 352 [(0, .ref b), (1, .ref (g.2.2.1 0)), (2, .ref ((gMo g am).2.2.1 0)), (3, .int i3)] [.long r] μC2 μM
          refine l_aload_n (pc := 352) 2 dL_law_352 rfl rfl ?_
          refine l_callM (pc := 353) (As := []) (rest := [.long r]) kL_52 (m_X7_cuts (gMo g am) μM) eM rfl ⟨rfl, rfl⟩ ⟨(Nat.le_of_ble_eq_true rfl), (Nat.le_of_ble_eq_true rfl)⟩ (Nat.le_of_ble_eq_true rfl) rfl rfl dL_law_353 ?_
          change Lw g am b L xs 356 [(0, .ref b), (1, .ref (g.2.2.1 0)), (2, .ref ((gMo g am).2.2.1 0)), (3, .int i3)] [.long r, .long r] μC2 μM2
          refine l_lcmp_eq (pc := 356) (tgt := 760) dL_law_356 dL_law_357 (by decide) rfl ?_
          exact next μC2 μM2 hI2
        · refine l_tabIn (pc := 32) (tgt := 362) dL_law_32 (by rw [hjt]; decide) (by rw [hjt]; decide) (off := 330) (by decide +kernel) (by decide) ?_
          obtain ⟨r, μC2, μM2, eC, eM, hI2⟩ := hs9 n (xs (i3 + (1 : Int32)).toNatClampNeg) (xs (i3 + (2 : Int32)).toNatClampNeg) hn5 μC μM hI
          refine l_aload_n (pc := 362) 1 dL_law_362 rfl rfl ?_
          refine l_aload_n (pc := 363) 0 dL_law_363 rfl rfl ?_
          refine l_iload_n (pc := 364) 3 dL_law_364 rfl rfl ?_
          refine l_iconst (pc := 365) (v := 1) dL_law_365 (by decide +kernel) ?_
          refine l_iadd (pc := 366) dL_law_366 ?_
          refine l_sld (pc := 367) hi1 dL_law_367 ?_
          refine l_aload_n (pc := 368) 0 dL_law_368 rfl rfl ?_
          refine l_iload_n (pc := 369) 3 dL_law_369 rfl rfl ?_
          refine l_iconst (pc := 370) (v := 2) dL_law_370 (by decide +kernel) ?_
          refine l_iadd (pc := 371) dL_law_371 ?_
          refine l_sld (pc := 372) hi2 dL_law_372 ?_
          refine l_callC (pc := 373) (As := [.int (xs (i3 + (1 : Int32)).toNatClampNeg), .int (xs (i3 + (2 : Int32)).toNatClampNeg)]) (rest := []) kL_53 (m_X6_best g μC (xs (i3 + (1 : Int32)).toNatClampNeg) (xs (i3 + (2 : Int32)).toNatClampNeg)) eC rfl ⟨rfl, rfl⟩ ⟨(Nat.le_of_ble_eq_true rfl), (Nat.le_of_ble_eq_true rfl)⟩ (Nat.le_of_ble_eq_true rfl) rfl rfl dL_law_373 ?_
          change Lw g am b L xs 376 [(0, .ref b), (1, .ref (g.2.2.1 0)), (2, .ref ((gMo g am).2.2.1 0)), (3, .int i3)] [.int r] μC2 μM
          refine l_aload_n (pc := 376) 2 dL_law_376 rfl rfl ?_
          refine l_aload_n (pc := 377) 0 dL_law_377 rfl rfl ?_
          refine l_iload_n (pc := 378) 3 dL_law_378 rfl rfl ?_
          refine l_iconst (pc := 379) (v := 1) dL_law_379 (by decide +kernel) ?_
          refine l_iadd (pc := 380) dL_law_380 ?_
          refine l_sld (pc := 381) hi1 dL_law_381 ?_
          refine l_aload_n (pc := 382) 0 dL_law_382 rfl rfl ?_
          refine l_iload_n (pc := 383) 3 dL_law_383 rfl rfl ?_
          refine l_iconst (pc := 384) (v := 2) dL_law_384 (by decide +kernel) ?_
          refine l_iadd (pc := 385) dL_law_385 ?_
          refine l_sld (pc := 386) hi2 dL_law_386 ?_
          refine l_callM (pc := 387) (As := [.int (xs (i3 + (1 : Int32)).toNatClampNeg), .int (xs (i3 + (2 : Int32)).toNatClampNeg)]) (rest := [.int r]) kL_56 (m_X7_best (gMo g am) μM (xs (i3 + (1 : Int32)).toNatClampNeg) (xs (i3 + (2 : Int32)).toNatClampNeg)) eM rfl ⟨rfl, rfl⟩ ⟨(Nat.le_of_ble_eq_true rfl), (Nat.le_of_ble_eq_true rfl)⟩ (Nat.le_of_ble_eq_true rfl) rfl rfl dL_law_387 ?_
          change Lw g am b L xs 390 [(0, .ref b), (1, .ref (g.2.2.1 0)), (2, .ref ((gMo g am).2.2.1 0)), (3, .int i3)] [.int r, .int r] μC2 μM2
          refine l_icmp_eq (pc := 390) (tgt := 760) dL_law_390 (by decide) rfl ?_
          exact next μC2 μM2 hI2
        · refine l_tabIn (pc := 32) (tgt := 395) dL_law_32 (by rw [hjt]; decide) (by rw [hjt]; decide) (off := 363) (by decide +kernel) (by decide) ?_
          obtain ⟨r, μC2, μM2, eC, eM, hI2⟩ := hs10 n (xs (i3 + (1 : Int32)).toNatClampNeg) hn5 μC μM hI
          refine l_aload_n (pc := 395) 1 dL_law_395 rfl rfl ?_
          refine l_aload_n (pc := 396) 0 dL_law_396 rfl rfl ?_
          refine l_iload_n (pc := 397) 3 dL_law_397 rfl rfl ?_
          refine l_iconst (pc := 398) (v := 1) dL_law_398 (by decide +kernel) ?_
          refine l_iadd (pc := 399) dL_law_399 ?_
          refine l_sld (pc := 400) hi1 dL_law_400 ?_
          refine l_callC (pc := 401) (As := [.int (xs (i3 + (1 : Int32)).toNatClampNeg)]) (rest := []) kL_57 (m_X6_sings g μC (xs (i3 + (1 : Int32)).toNatClampNeg)) eC rfl ⟨rfl, rfl⟩ ⟨(Nat.le_of_ble_eq_true rfl), (Nat.le_of_ble_eq_true rfl)⟩ (Nat.le_of_ble_eq_true rfl) rfl rfl dL_law_401 ?_
          change Lw g am b L xs 404 [(0, .ref b), (1, .ref (g.2.2.1 0)), (2, .ref ((gMo g am).2.2.1 0)), (3, .int i3)] [.int r] μC2 μM
          refine l_aload_n (pc := 404) 2 dL_law_404 rfl rfl ?_
          refine l_aload_n (pc := 405) 0 dL_law_405 rfl rfl ?_
          refine l_iload_n (pc := 406) 3 dL_law_406 rfl rfl ?_
          refine l_iconst (pc := 407) (v := 1) dL_law_407 (by decide +kernel) ?_
          refine l_iadd (pc := 408) dL_law_408 ?_
          refine l_sld (pc := 409) hi1 dL_law_409 ?_
          refine l_callM (pc := 410) (As := [.int (xs (i3 + (1 : Int32)).toNatClampNeg)]) (rest := [.int r]) kL_60 (m_X7_sings (gMo g am) μM (xs (i3 + (1 : Int32)).toNatClampNeg)) eM rfl ⟨rfl, rfl⟩ ⟨(Nat.le_of_ble_eq_true rfl), (Nat.le_of_ble_eq_true rfl)⟩ (Nat.le_of_ble_eq_true rfl) rfl rfl dL_law_410 ?_
          change Lw g am b L xs 413 [(0, .ref b), (1, .ref (g.2.2.1 0)), (2, .ref ((gMo g am).2.2.1 0)), (3, .int i3)] [.int r, .int r] μC2 μM2
          refine l_icmp_eq (pc := 413) (tgt := 760) dL_law_413 (by decide) rfl ?_
          exact next μC2 μM2 hI2
        · refine l_tabIn (pc := 32) (tgt := 418) dL_law_32 (by rw [hjt]; decide) (by rw [hjt]; decide) (off := 386) (by decide +kernel) (by decide) ?_
          obtain ⟨r, μC2, μM2, eC, eM, hI2⟩ := hs11 n (xs (i3 + (1 : Int32)).toNatClampNeg) (xs (i3 + (2 : Int32)).toNatClampNeg) hn5 μC μM hI
          refine l_aload_n (pc := 418) 1 dL_law_418 rfl rfl ?_
          refine l_aload_n (pc := 419) 0 dL_law_419 rfl rfl ?_
          refine l_iload_n (pc := 420) 3 dL_law_420 rfl rfl ?_
          refine l_iconst (pc := 421) (v := 1) dL_law_421 (by decide +kernel) ?_
          refine l_iadd (pc := 422) dL_law_422 ?_
          refine l_sld (pc := 423) hi1 dL_law_423 ?_
          refine l_aload_n (pc := 424) 0 dL_law_424 rfl rfl ?_
          refine l_iload_n (pc := 425) 3 dL_law_425 rfl rfl ?_
          refine l_iconst (pc := 426) (v := 2) dL_law_426 (by decide +kernel) ?_
          refine l_iadd (pc := 427) dL_law_427 ?_
          refine l_sld (pc := 428) hi2 dL_law_428 ?_
          refine l_callC (pc := 429) (As := [.int (xs (i3 + (1 : Int32)).toNatClampNeg), .int (xs (i3 + (2 : Int32)).toNatClampNeg)]) (rest := []) kL_61 (m_X6_fixes g μC (xs (i3 + (1 : Int32)).toNatClampNeg) (xs (i3 + (2 : Int32)).toNatClampNeg)) eC rfl ⟨rfl, rfl⟩ ⟨(Nat.le_of_ble_eq_true rfl), (Nat.le_of_ble_eq_true rfl)⟩ (Nat.le_of_ble_eq_true rfl) rfl rfl dL_law_429 ?_
          change Lw g am b L xs 432 [(0, .ref b), (1, .ref (g.2.2.1 0)), (2, .ref ((gMo g am).2.2.1 0)), (3, .int i3)] [.int r] μC2 μM
          refine l_aload_n (pc := 432) 2 dL_law_432 rfl rfl ?_
          refine l_aload_n (pc := 433) 0 dL_law_433 rfl rfl ?_
          refine l_iload_n (pc := 434) 3 dL_law_434 rfl rfl ?_
          refine l_iconst (pc := 435) (v := 1) dL_law_435 (by decide +kernel) ?_
          refine l_iadd (pc := 436) dL_law_436 ?_
          refine l_sld (pc := 437) hi1 dL_law_437 ?_
          refine l_aload_n (pc := 438) 0 dL_law_438 rfl rfl ?_
          refine l_iload_n (pc := 439) 3 dL_law_439 rfl rfl ?_
          refine l_iconst (pc := 440) (v := 2) dL_law_440 (by decide +kernel) ?_
          refine l_iadd (pc := 441) dL_law_441 ?_
          refine l_sld (pc := 442) hi2 dL_law_442 ?_
          refine l_callM (pc := 443) (As := [.int (xs (i3 + (1 : Int32)).toNatClampNeg), .int (xs (i3 + (2 : Int32)).toNatClampNeg)]) (rest := [.int r]) kL_64 (m_X7_fixes (gMo g am) μM (xs (i3 + (1 : Int32)).toNatClampNeg) (xs (i3 + (2 : Int32)).toNatClampNeg)) eM rfl ⟨rfl, rfl⟩ ⟨(Nat.le_of_ble_eq_true rfl), (Nat.le_of_ble_eq_true rfl)⟩ (Nat.le_of_ble_eq_true rfl) rfl rfl dL_law_443 ?_
          change Lw g am b L xs 446 [(0, .ref b), (1, .ref (g.2.2.1 0)), (2, .ref ((gMo g am).2.2.1 0)), (3, .int i3)] [.int r, .int r] μC2 μM2
          refine l_icmp_eq (pc := 446) (tgt := 760) dL_law_446 (by decide) rfl ?_
          exact next μC2 μM2 hI2
        · refine l_tabIn (pc := 32) (tgt := 451) dL_law_32 (by rw [hjt]; decide) (by rw [hjt]; decide) (off := 419) (by decide +kernel) (by decide) ?_
          obtain ⟨r, μC2, μM2, eC, eM, hI2⟩ := hs12 n (xs (i3 + (1 : Int32)).toNatClampNeg) hn5 μC μM hI
          refine l_aload_n (pc := 451) 1 dL_law_451 rfl rfl ?_
          refine l_aload_n (pc := 452) 0 dL_law_452 rfl rfl ?_
          refine l_iload_n (pc := 453) 3 dL_law_453 rfl rfl ?_
          refine l_iconst (pc := 454) (v := 1) dL_law_454 (by decide +kernel) ?_
          refine l_iadd (pc := 455) dL_law_455 ?_
          refine l_sld (pc := 456) hi1 dL_law_456 ?_
          refine l_callC (pc := 457) (As := [.int (xs (i3 + (1 : Int32)).toNatClampNeg)]) (rest := []) kL_65 (m_X6_metre g μC (xs (i3 + (1 : Int32)).toNatClampNeg)) eC rfl ⟨rfl, rfl⟩ ⟨(Nat.le_of_ble_eq_true rfl), (Nat.le_of_ble_eq_true rfl)⟩ (Nat.le_of_ble_eq_true rfl) rfl rfl dL_law_457 ?_
          change Lw g am b L xs 460 [(0, .ref b), (1, .ref (g.2.2.1 0)), (2, .ref ((gMo g am).2.2.1 0)), (3, .int i3)] [.int r] μC2 μM
          refine l_aload_n (pc := 460) 2 dL_law_460 rfl rfl ?_
          refine l_aload_n (pc := 461) 0 dL_law_461 rfl rfl ?_
          refine l_iload_n (pc := 462) 3 dL_law_462 rfl rfl ?_
          refine l_iconst (pc := 463) (v := 1) dL_law_463 (by decide +kernel) ?_
          refine l_iadd (pc := 464) dL_law_464 ?_
          refine l_sld (pc := 465) hi1 dL_law_465 ?_
          refine l_callM (pc := 466) (As := [.int (xs (i3 + (1 : Int32)).toNatClampNeg)]) (rest := [.int r]) kL_68 (m_X7_metre (gMo g am) μM (xs (i3 + (1 : Int32)).toNatClampNeg)) eM rfl ⟨rfl, rfl⟩ ⟨(Nat.le_of_ble_eq_true rfl), (Nat.le_of_ble_eq_true rfl)⟩ (Nat.le_of_ble_eq_true rfl) rfl rfl dL_law_466 ?_
          change Lw g am b L xs 469 [(0, .ref b), (1, .ref (g.2.2.1 0)), (2, .ref ((gMo g am).2.2.1 0)), (3, .int i3)] [.int r, .int r] μC2 μM2
          refine l_icmp_eq (pc := 469) (tgt := 760) dL_law_469 (by decide) rfl ?_
          exact next μC2 μM2 hI2
        · refine l_tabIn (pc := 32) (tgt := 474) dL_law_32 (by rw [hjt]; decide) (by rw [hjt]; decide) (off := 442) (by decide +kernel) (by decide) ?_
          obtain ⟨r, μC2, μM2, eC, eM, hI2⟩ := hs13 n (xs (i3 + (1 : Int32)).toNatClampNeg) (xs (i3 + (2 : Int32)).toNatClampNeg) hn5 μC μM hI
          refine l_aload_n (pc := 474) 1 dL_law_474 rfl rfl ?_
          refine l_aload_n (pc := 475) 0 dL_law_475 rfl rfl ?_
          refine l_iload_n (pc := 476) 3 dL_law_476 rfl rfl ?_
          refine l_iconst (pc := 477) (v := 1) dL_law_477 (by decide +kernel) ?_
          refine l_iadd (pc := 478) dL_law_478 ?_
          refine l_sld (pc := 479) hi1 dL_law_479 ?_
          refine l_aload_n (pc := 480) 0 dL_law_480 rfl rfl ?_
          refine l_iload_n (pc := 481) 3 dL_law_481 rfl rfl ?_
          refine l_iconst (pc := 482) (v := 2) dL_law_482 (by decide +kernel) ?_
          refine l_iadd (pc := 483) dL_law_483 ?_
          refine l_sld (pc := 484) hi2 dL_law_484 ?_
          refine l_callC (pc := 485) (As := [.int (xs (i3 + (1 : Int32)).toNatClampNeg), .int (xs (i3 + (2 : Int32)).toNatClampNeg)]) (rest := []) kL_69 (m_X6_marks g μC (xs (i3 + (1 : Int32)).toNatClampNeg) (xs (i3 + (2 : Int32)).toNatClampNeg)) eC rfl ⟨rfl, rfl⟩ ⟨(Nat.le_of_ble_eq_true rfl), (Nat.le_of_ble_eq_true rfl)⟩ (Nat.le_of_ble_eq_true rfl) rfl rfl dL_law_485 ?_
          change Lw g am b L xs 488 [(0, .ref b), (1, .ref (g.2.2.1 0)), (2, .ref ((gMo g am).2.2.1 0)), (3, .int i3)] [.int r] μC2 μM
          refine l_aload_n (pc := 488) 2 dL_law_488 rfl rfl ?_
          refine l_aload_n (pc := 489) 0 dL_law_489 rfl rfl ?_
          refine l_iload_n (pc := 490) 3 dL_law_490 rfl rfl ?_
          refine l_iconst (pc := 491) (v := 1) dL_law_491 (by decide +kernel) ?_
          refine l_iadd (pc := 492) dL_law_492 ?_
          refine l_sld (pc := 493) hi1 dL_law_493 ?_
          refine l_aload_n (pc := 494) 0 dL_law_494 rfl rfl ?_
          refine l_iload_n (pc := 495) 3 dL_law_495 rfl rfl ?_
          refine l_iconst (pc := 496) (v := 2) dL_law_496 (by decide +kernel) ?_
          refine l_iadd (pc := 497) dL_law_497 ?_
          refine l_sld (pc := 498) hi2 dL_law_498 ?_
          refine l_callM (pc := 499) (As := [.int (xs (i3 + (1 : Int32)).toNatClampNeg), .int (xs (i3 + (2 : Int32)).toNatClampNeg)]) (rest := [.int r]) kL_72 (m_X7_marks (gMo g am) μM (xs (i3 + (1 : Int32)).toNatClampNeg) (xs (i3 + (2 : Int32)).toNatClampNeg)) eM rfl ⟨rfl, rfl⟩ ⟨(Nat.le_of_ble_eq_true rfl), (Nat.le_of_ble_eq_true rfl)⟩ (Nat.le_of_ble_eq_true rfl) rfl rfl dL_law_499 ?_
          change Lw g am b L xs 502 [(0, .ref b), (1, .ref (g.2.2.1 0)), (2, .ref ((gMo g am).2.2.1 0)), (3, .int i3)] [.int r, .int r] μC2 μM2
          refine l_icmp_eq (pc := 502) (tgt := 760) dL_law_502 (by decide) rfl ?_
          exact next μC2 μM2 hI2
        · refine l_tabIn (pc := 32) (tgt := 507) dL_law_32 (by rw [hjt]; decide) (by rw [hjt]; decide) (off := 475) (by decide +kernel) (by decide) ?_
          obtain ⟨r, μC2, μM2, eC, eM, hI2⟩ := hs14 n hn5 μC μM hI
          refine l_aload_n (pc := 507) 1 dL_law_507 rfl rfl ?_
          refine l_callC (pc := 508) (As := []) (rest := []) kL_73 (m_X6_made g μC) eC rfl ⟨rfl, rfl⟩ ⟨(Nat.le_of_ble_eq_true rfl), (Nat.le_of_ble_eq_true rfl)⟩ (Nat.le_of_ble_eq_true rfl) rfl rfl dL_law_508 ?_
          change Lw g am b L xs 511 [(0, .ref b), (1, .ref (g.2.2.1 0)), (2, .ref ((gMo g am).2.2.1 0)), (3, .int i3)] [.long r] μC2 μM
          refine l_aload_n (pc := 511) 2 dL_law_511 rfl rfl ?_
          refine l_callM (pc := 512) (As := []) (rest := [.long r]) kL_76 (m_X7_made (gMo g am) μM) eM rfl ⟨rfl, rfl⟩ ⟨(Nat.le_of_ble_eq_true rfl), (Nat.le_of_ble_eq_true rfl)⟩ (Nat.le_of_ble_eq_true rfl) rfl rfl dL_law_512 ?_
          change Lw g am b L xs 515 [(0, .ref b), (1, .ref (g.2.2.1 0)), (2, .ref ((gMo g am).2.2.1 0)), (3, .int i3)] [.long r, .long r] μC2 μM2
          refine l_lcmp_eq (pc := 515) (tgt := 760) dL_law_515 dL_law_516 (by decide) rfl ?_
          exact next μC2 μM2 hI2
        · refine l_tabIn (pc := 32) (tgt := 521) dL_law_32 (by rw [hjt]; decide) (by rw [hjt]; decide) (off := 489) (by decide +kernel) (by decide) ?_
          obtain ⟨r, μC2, μM2, eC, eM, hI2⟩ := hs15 n (((xs (i3 + (1 : Int32)).toNatClampNeg).toInt64 <<< ((32 : Int32).toInt64 &&& 63)) ||| ((xs (i3 + (2 : Int32)).toNatClampNeg).toInt64 &&& (4294967295 : Int64))) (xs (i3 + (3 : Int32)).toNatClampNeg) hn5 μC μM hI
          refine l_aload_n (pc := 521) 1 dL_law_521 rfl rfl ?_
          refine l_aload_n (pc := 522) 0 dL_law_522 rfl rfl ?_
          refine l_iload_n (pc := 523) 3 dL_law_523 rfl rfl ?_
          refine l_iconst (pc := 524) (v := 1) dL_law_524 (by decide +kernel) ?_
          refine l_iadd (pc := 525) dL_law_525 ?_
          refine l_sld (pc := 526) hi1 dL_law_526 ?_
          refine l_i2l (pc := 527) dL_law_527 ?_
          refine l_bipush (pc := 528) (v := 32) dL_law_528 (by decide +kernel) ?_
          refine l_lshl (pc := 530) dL_law_530 ?_
          refine l_aload_n (pc := 531) 0 dL_law_531 rfl rfl ?_
          refine l_iload_n (pc := 532) 3 dL_law_532 rfl rfl ?_
          refine l_iconst (pc := 533) (v := 2) dL_law_533 (by decide +kernel) ?_
          refine l_iadd (pc := 534) dL_law_534 ?_
          refine l_sld (pc := 535) hi2 dL_law_535 ?_
          refine l_i2l (pc := 536) dL_law_536 ?_
          refine l_ldc2 (pc := 537) (v := 4294967295) klL_77 dL_law_537 ?_
          refine l_land (pc := 540) dL_law_540 ?_
          refine l_lor (pc := 541) dL_law_541 ?_
          refine l_aload_n (pc := 542) 0 dL_law_542 rfl rfl ?_
          refine l_iload_n (pc := 543) 3 dL_law_543 rfl rfl ?_
          refine l_iconst (pc := 544) (v := 3) dL_law_544 (by decide +kernel) ?_
          refine l_iadd (pc := 545) dL_law_545 ?_
          refine l_sld (pc := 546) hi3 dL_law_546 ?_
          refine l_callC (pc := 547) (As := [.long (((xs (i3 + (1 : Int32)).toNatClampNeg).toInt64 <<< ((32 : Int32).toInt64 &&& 63)) ||| ((xs (i3 + (2 : Int32)).toNatClampNeg).toInt64 &&& (4294967295 : Int64))), .int (xs (i3 + (3 : Int32)).toNatClampNeg)]) (rest := []) kL_79 (m_X6_row g μC (((xs (i3 + (1 : Int32)).toNatClampNeg).toInt64 <<< ((32 : Int32).toInt64 &&& 63)) ||| ((xs (i3 + (2 : Int32)).toNatClampNeg).toInt64 &&& (4294967295 : Int64))) (xs (i3 + (3 : Int32)).toNatClampNeg)) eC rfl ⟨rfl, rfl⟩ ⟨(Nat.le_of_ble_eq_true rfl), (Nat.le_of_ble_eq_true rfl)⟩ (Nat.le_of_ble_eq_true rfl) rfl rfl dL_law_547 ?_
          change Lw g am b L xs 550 [(0, .ref b), (1, .ref (g.2.2.1 0)), (2, .ref ((gMo g am).2.2.1 0)), (3, .int i3)] [.int r] μC2 μM
          refine l_aload_n (pc := 550) 2 dL_law_550 rfl rfl ?_
          refine l_aload_n (pc := 551) 0 dL_law_551 rfl rfl ?_
          refine l_iload_n (pc := 552) 3 dL_law_552 rfl rfl ?_
          refine l_iconst (pc := 553) (v := 1) dL_law_553 (by decide +kernel) ?_
          refine l_iadd (pc := 554) dL_law_554 ?_
          refine l_sld (pc := 555) hi1 dL_law_555 ?_
          refine l_i2l (pc := 556) dL_law_556 ?_
          refine l_bipush (pc := 557) (v := 32) dL_law_557 (by decide +kernel) ?_
          refine l_lshl (pc := 559) dL_law_559 ?_
          refine l_aload_n (pc := 560) 0 dL_law_560 rfl rfl ?_
          refine l_iload_n (pc := 561) 3 dL_law_561 rfl rfl ?_
          refine l_iconst (pc := 562) (v := 2) dL_law_562 (by decide +kernel) ?_
          refine l_iadd (pc := 563) dL_law_563 ?_
          refine l_sld (pc := 564) hi2 dL_law_564 ?_
          refine l_i2l (pc := 565) dL_law_565 ?_
          refine l_ldc2 (pc := 566) (v := 4294967295) klL_77 dL_law_566 ?_
          refine l_land (pc := 569) dL_law_569 ?_
          refine l_lor (pc := 570) dL_law_570 ?_
          refine l_aload_n (pc := 571) 0 dL_law_571 rfl rfl ?_
          refine l_iload_n (pc := 572) 3 dL_law_572 rfl rfl ?_
          refine l_iconst (pc := 573) (v := 3) dL_law_573 (by decide +kernel) ?_
          refine l_iadd (pc := 574) dL_law_574 ?_
          refine l_sld (pc := 575) hi3 dL_law_575 ?_
          refine l_callM (pc := 576) (As := [.long (((xs (i3 + (1 : Int32)).toNatClampNeg).toInt64 <<< ((32 : Int32).toInt64 &&& 63)) ||| ((xs (i3 + (2 : Int32)).toNatClampNeg).toInt64 &&& (4294967295 : Int64))), .int (xs (i3 + (3 : Int32)).toNatClampNeg)]) (rest := [.int r]) kL_83 (m_X7_row (gMo g am) μM (((xs (i3 + (1 : Int32)).toNatClampNeg).toInt64 <<< ((32 : Int32).toInt64 &&& 63)) ||| ((xs (i3 + (2 : Int32)).toNatClampNeg).toInt64 &&& (4294967295 : Int64))) (xs (i3 + (3 : Int32)).toNatClampNeg)) eM rfl ⟨rfl, rfl⟩ ⟨(Nat.le_of_ble_eq_true rfl), (Nat.le_of_ble_eq_true rfl)⟩ (Nat.le_of_ble_eq_true rfl) rfl rfl dL_law_576 ?_
          change Lw g am b L xs 579 [(0, .ref b), (1, .ref (g.2.2.1 0)), (2, .ref ((gMo g am).2.2.1 0)), (3, .int i3)] [.int r, .int r] μC2 μM2
          refine l_icmp_eq (pc := 579) (tgt := 760) dL_law_579 (by decide) rfl ?_
          exact next μC2 μM2 hI2
        · refine l_tabIn (pc := 32) (tgt := 584) dL_law_32 (by rw [hjt]; decide) (by rw [hjt]; decide) (off := 552) (by decide +kernel) (by decide) ?_
          obtain ⟨r, μC2, μM2, eC, eM, hI2⟩ := hs16 n (xs (i3 + (1 : Int32)).toNatClampNeg) (xs (i3 + (2 : Int32)).toNatClampNeg) hn5 μC μM hI
          refine l_aload_n (pc := 584) 1 dL_law_584 rfl rfl ?_
          refine l_aload_n (pc := 585) 0 dL_law_585 rfl rfl ?_
          refine l_iload_n (pc := 586) 3 dL_law_586 rfl rfl ?_
          refine l_iconst (pc := 587) (v := 1) dL_law_587 (by decide +kernel) ?_
          refine l_iadd (pc := 588) dL_law_588 ?_
          refine l_sld (pc := 589) hi1 dL_law_589 ?_
          refine l_aload_n (pc := 590) 0 dL_law_590 rfl rfl ?_
          refine l_iload_n (pc := 591) 3 dL_law_591 rfl rfl ?_
          refine l_iconst (pc := 592) (v := 2) dL_law_592 (by decide +kernel) ?_
          refine l_iadd (pc := 593) dL_law_593 ?_
          refine l_sld (pc := 594) hi2 dL_law_594 ?_
          refine l_callC (pc := 595) (As := [.int (xs (i3 + (1 : Int32)).toNatClampNeg), .int (xs (i3 + (2 : Int32)).toNatClampNeg)]) (rest := []) kL_84 (m_X6_weight g μC (xs (i3 + (1 : Int32)).toNatClampNeg) (xs (i3 + (2 : Int32)).toNatClampNeg)) eC rfl ⟨rfl, rfl⟩ ⟨(Nat.le_of_ble_eq_true rfl), (Nat.le_of_ble_eq_true rfl)⟩ (Nat.le_of_ble_eq_true rfl) rfl rfl dL_law_595 ?_
          change Lw g am b L xs 598 [(0, .ref b), (1, .ref (g.2.2.1 0)), (2, .ref ((gMo g am).2.2.1 0)), (3, .int i3)] [.long r] μC2 μM
          refine l_aload_n (pc := 598) 2 dL_law_598 rfl rfl ?_
          refine l_aload_n (pc := 599) 0 dL_law_599 rfl rfl ?_
          refine l_iload_n (pc := 600) 3 dL_law_600 rfl rfl ?_
          refine l_iconst (pc := 601) (v := 1) dL_law_601 (by decide +kernel) ?_
          refine l_iadd (pc := 602) dL_law_602 ?_
          refine l_sld (pc := 603) hi1 dL_law_603 ?_
          refine l_aload_n (pc := 604) 0 dL_law_604 rfl rfl ?_
          refine l_iload_n (pc := 605) 3 dL_law_605 rfl rfl ?_
          refine l_iconst (pc := 606) (v := 2) dL_law_606 (by decide +kernel) ?_
          refine l_iadd (pc := 607) dL_law_607 ?_
          refine l_sld (pc := 608) hi2 dL_law_608 ?_
          refine l_callM (pc := 609) (As := [.int (xs (i3 + (1 : Int32)).toNatClampNeg), .int (xs (i3 + (2 : Int32)).toNatClampNeg)]) (rest := [.long r]) kL_88 (m_X7_weight (gMo g am) μM (xs (i3 + (1 : Int32)).toNatClampNeg) (xs (i3 + (2 : Int32)).toNatClampNeg)) eM rfl ⟨rfl, rfl⟩ ⟨(Nat.le_of_ble_eq_true rfl), (Nat.le_of_ble_eq_true rfl)⟩ (Nat.le_of_ble_eq_true rfl) rfl rfl dL_law_609 ?_
          change Lw g am b L xs 612 [(0, .ref b), (1, .ref (g.2.2.1 0)), (2, .ref ((gMo g am).2.2.1 0)), (3, .int i3)] [.long r, .long r] μC2 μM2
          refine l_lcmp_eq (pc := 612) (tgt := 760) dL_law_612 dL_law_613 (by decide) rfl ?_
          exact next μC2 μM2 hI2
        · refine l_tabIn (pc := 32) (tgt := 618) dL_law_32 (by rw [hjt]; decide) (by rw [hjt]; decide) (off := 586) (by decide +kernel) (by decide) ?_
          obtain ⟨r, μC2, μM2, eC, eM, hI2⟩ := hs17 n (xs (i3 + (1 : Int32)).toNatClampNeg) (xs (i3 + (2 : Int32)).toNatClampNeg) (xs (i3 + (3 : Int32)).toNatClampNeg) hn5 μC μM hI
          refine l_aload_n (pc := 618) 1 dL_law_618 rfl rfl ?_
          refine l_aload_n (pc := 619) 0 dL_law_619 rfl rfl ?_
          refine l_iload_n (pc := 620) 3 dL_law_620 rfl rfl ?_
          refine l_iconst (pc := 621) (v := 1) dL_law_621 (by decide +kernel) ?_
          refine l_iadd (pc := 622) dL_law_622 ?_
          refine l_sld (pc := 623) hi1 dL_law_623 ?_
          refine l_aload_n (pc := 624) 0 dL_law_624 rfl rfl ?_
          refine l_iload_n (pc := 625) 3 dL_law_625 rfl rfl ?_
          refine l_iconst (pc := 626) (v := 2) dL_law_626 (by decide +kernel) ?_
          refine l_iadd (pc := 627) dL_law_627 ?_
          refine l_sld (pc := 628) hi2 dL_law_628 ?_
          refine l_aload_n (pc := 629) 0 dL_law_629 rfl rfl ?_
          refine l_iload_n (pc := 630) 3 dL_law_630 rfl rfl ?_
          refine l_iconst (pc := 631) (v := 3) dL_law_631 (by decide +kernel) ?_
          refine l_iadd (pc := 632) dL_law_632 ?_
          refine l_sld (pc := 633) hi3 dL_law_633 ?_
          refine l_callC (pc := 634) (As := [.int (xs (i3 + (1 : Int32)).toNatClampNeg), .int (xs (i3 + (2 : Int32)).toNatClampNeg), .int (xs (i3 + (3 : Int32)).toNatClampNeg)]) (rest := []) kL_89 (m_X6_picks g μC (xs (i3 + (1 : Int32)).toNatClampNeg) (xs (i3 + (2 : Int32)).toNatClampNeg) (xs (i3 + (3 : Int32)).toNatClampNeg)) eC rfl ⟨rfl, rfl⟩ ⟨(Nat.le_of_ble_eq_true rfl), (Nat.le_of_ble_eq_true rfl)⟩ (Nat.le_of_ble_eq_true rfl) rfl rfl dL_law_634 ?_
          change Lw g am b L xs 637 [(0, .ref b), (1, .ref (g.2.2.1 0)), (2, .ref ((gMo g am).2.2.1 0)), (3, .int i3)] [.int r] μC2 μM
          refine l_aload_n (pc := 637) 2 dL_law_637 rfl rfl ?_
          refine l_aload_n (pc := 638) 0 dL_law_638 rfl rfl ?_
          refine l_iload_n (pc := 639) 3 dL_law_639 rfl rfl ?_
          refine l_iconst (pc := 640) (v := 1) dL_law_640 (by decide +kernel) ?_
          refine l_iadd (pc := 641) dL_law_641 ?_
          refine l_sld (pc := 642) hi1 dL_law_642 ?_
          refine l_aload_n (pc := 643) 0 dL_law_643 rfl rfl ?_
          refine l_iload_n (pc := 644) 3 dL_law_644 rfl rfl ?_
          refine l_iconst (pc := 645) (v := 2) dL_law_645 (by decide +kernel) ?_
          refine l_iadd (pc := 646) dL_law_646 ?_
          refine l_sld (pc := 647) hi2 dL_law_647 ?_
          refine l_aload_n (pc := 648) 0 dL_law_648 rfl rfl ?_
          refine l_iload_n (pc := 649) 3 dL_law_649 rfl rfl ?_
          refine l_iconst (pc := 650) (v := 3) dL_law_650 (by decide +kernel) ?_
          refine l_iadd (pc := 651) dL_law_651 ?_
          refine l_sld (pc := 652) hi3 dL_law_652 ?_
          refine l_callM (pc := 653) (As := [.int (xs (i3 + (1 : Int32)).toNatClampNeg), .int (xs (i3 + (2 : Int32)).toNatClampNeg), .int (xs (i3 + (3 : Int32)).toNatClampNeg)]) (rest := [.int r]) kL_93 (m_X7_picks (gMo g am) μM (xs (i3 + (1 : Int32)).toNatClampNeg) (xs (i3 + (2 : Int32)).toNatClampNeg) (xs (i3 + (3 : Int32)).toNatClampNeg)) eM rfl ⟨rfl, rfl⟩ ⟨(Nat.le_of_ble_eq_true rfl), (Nat.le_of_ble_eq_true rfl)⟩ (Nat.le_of_ble_eq_true rfl) rfl rfl dL_law_653 ?_
          change Lw g am b L xs 656 [(0, .ref b), (1, .ref (g.2.2.1 0)), (2, .ref ((gMo g am).2.2.1 0)), (3, .int i3)] [.int r, .int r] μC2 μM2
          refine l_icmp_eq (pc := 656) (tgt := 760) dL_law_656 (by decide) rfl ?_
          exact next μC2 μM2 hI2
        · refine l_tabIn (pc := 32) (tgt := 661) dL_law_32 (by rw [hjt]; decide) (by rw [hjt]; decide) (off := 629) (by decide +kernel) (by decide) ?_
          obtain ⟨r, μC2, μM2, eC, eM, hI2⟩ := hs18 n (xs (i3 + (1 : Int32)).toNatClampNeg) hn5 μC μM hI
          refine l_aload_n (pc := 661) 1 dL_law_661 rfl rfl ?_
          refine l_aload_n (pc := 662) 0 dL_law_662 rfl rfl ?_
          refine l_iload_n (pc := 663) 3 dL_law_663 rfl rfl ?_
          refine l_iconst (pc := 664) (v := 1) dL_law_664 (by decide +kernel) ?_
          refine l_iadd (pc := 665) dL_law_665 ?_
          refine l_sld (pc := 666) hi1 dL_law_666 ?_
          refine l_callC (pc := 667) (As := [.int (xs (i3 + (1 : Int32)).toNatClampNeg)]) (rest := []) kL_94 (m_X6_type g μC (xs (i3 + (1 : Int32)).toNatClampNeg)) eC rfl ⟨rfl, rfl⟩ ⟨(Nat.le_of_ble_eq_true rfl), (Nat.le_of_ble_eq_true rfl)⟩ (Nat.le_of_ble_eq_true rfl) rfl rfl dL_law_667 ?_
          change Lw g am b L xs 670 [(0, .ref b), (1, .ref (g.2.2.1 0)), (2, .ref ((gMo g am).2.2.1 0)), (3, .int i3)] [.int r] μC2 μM
          refine l_aload_n (pc := 670) 2 dL_law_670 rfl rfl ?_
          refine l_aload_n (pc := 671) 0 dL_law_671 rfl rfl ?_
          refine l_iload_n (pc := 672) 3 dL_law_672 rfl rfl ?_
          refine l_iconst (pc := 673) (v := 1) dL_law_673 (by decide +kernel) ?_
          refine l_iadd (pc := 674) dL_law_674 ?_
          refine l_sld (pc := 675) hi1 dL_law_675 ?_
          refine l_callM (pc := 676) (As := [.int (xs (i3 + (1 : Int32)).toNatClampNeg)]) (rest := [.int r]) kL_97 (m_X7_type (gMo g am) μM (xs (i3 + (1 : Int32)).toNatClampNeg)) eM rfl ⟨rfl, rfl⟩ ⟨(Nat.le_of_ble_eq_true rfl), (Nat.le_of_ble_eq_true rfl)⟩ (Nat.le_of_ble_eq_true rfl) rfl rfl dL_law_676 ?_
          change Lw g am b L xs 679 [(0, .ref b), (1, .ref (g.2.2.1 0)), (2, .ref ((gMo g am).2.2.1 0)), (3, .int i3)] [.int r, .int r] μC2 μM2
          refine l_icmp_eq (pc := 679) (tgt := 760) dL_law_679 (by decide) rfl ?_
          exact next μC2 μM2 hI2
        · refine l_tabIn (pc := 32) (tgt := 684) dL_law_32 (by rw [hjt]; decide) (by rw [hjt]; decide) (off := 652) (by decide +kernel) (by decide) ?_
          obtain ⟨r, μC2, μM2, eC, eM, hI2⟩ := hs19 n hn5 μC μM hI
          refine l_aload_n (pc := 684) 1 dL_law_684 rfl rfl ?_
          refine l_callC (pc := 685) (As := []) (rest := []) kL_98 (m_X6_clear g μC) eC rfl ⟨rfl, rfl⟩ ⟨(Nat.le_of_ble_eq_true rfl), (Nat.le_of_ble_eq_true rfl)⟩ (Nat.le_of_ble_eq_true rfl) rfl rfl dL_law_685 ?_
          change Lw g am b L xs 688 [(0, .ref b), (1, .ref (g.2.2.1 0)), (2, .ref ((gMo g am).2.2.1 0)), (3, .int i3)] [.int r] μC2 μM
          refine l_aload_n (pc := 688) 2 dL_law_688 rfl rfl ?_
          refine l_callM (pc := 689) (As := []) (rest := [.int r]) kL_101 (m_X7_clear (gMo g am) μM) eM rfl ⟨rfl, rfl⟩ ⟨(Nat.le_of_ble_eq_true rfl), (Nat.le_of_ble_eq_true rfl)⟩ (Nat.le_of_ble_eq_true rfl) rfl rfl dL_law_689 ?_
          change Lw g am b L xs 692 [(0, .ref b), (1, .ref (g.2.2.1 0)), (2, .ref ((gMo g am).2.2.1 0)), (3, .int i3)] [.int r, .int r] μC2 μM2
          refine l_icmp_eq (pc := 692) (tgt := 760) dL_law_692 (by decide) rfl ?_
          exact next μC2 μM2 hI2
        · refine l_tabIn (pc := 32) (tgt := 697) dL_law_32 (by rw [hjt]; decide) (by rw [hjt]; decide) (off := 665) (by decide +kernel) (by decide) ?_
          obtain ⟨r, μC2, μM2, eC, eM, hI2⟩ := hs20 n hn5 μC μM hI
          refine l_aload_n (pc := 697) 1 dL_law_697 rfl rfl ?_
          refine l_callC (pc := 698) (As := []) (rest := []) kL_102 (m_X6_reads g μC) eC rfl ⟨rfl, rfl⟩ ⟨(Nat.le_of_ble_eq_true rfl), (Nat.le_of_ble_eq_true rfl)⟩ (Nat.le_of_ble_eq_true rfl) rfl rfl dL_law_698 ?_
          change Lw g am b L xs 701 [(0, .ref b), (1, .ref (g.2.2.1 0)), (2, .ref ((gMo g am).2.2.1 0)), (3, .int i3)] [.int r] μC2 μM
          refine l_aload_n (pc := 701) 2 dL_law_701 rfl rfl ?_
          refine l_callM (pc := 702) (As := []) (rest := [.int r]) kL_105 (m_X7_reads (gMo g am) μM) eM rfl ⟨rfl, rfl⟩ ⟨(Nat.le_of_ble_eq_true rfl), (Nat.le_of_ble_eq_true rfl)⟩ (Nat.le_of_ble_eq_true rfl) rfl rfl dL_law_702 ?_
          change Lw g am b L xs 705 [(0, .ref b), (1, .ref (g.2.2.1 0)), (2, .ref ((gMo g am).2.2.1 0)), (3, .int i3)] [.int r, .int r] μC2 μM2
          refine l_icmp_eq (pc := 705) (tgt := 760) dL_law_705 (by decide) rfl ?_
          exact next μC2 μM2 hI2
        · refine l_tabIn (pc := 32) (tgt := 710) dL_law_32 (by rw [hjt]; decide) (by rw [hjt]; decide) (off := 678) (by decide +kernel) (by decide) ?_
          obtain ⟨r, μC2, μM2, eC, eM, hI2⟩ := hs21 n hn5 μC μM hI
          refine l_aload_n (pc := 710) 1 dL_law_710 rfl rfl ?_
          refine l_callC (pc := 711) (As := []) (rest := []) kL_106 (m_X6_back g μC) eC rfl ⟨rfl, rfl⟩ ⟨(Nat.le_of_ble_eq_true rfl), (Nat.le_of_ble_eq_true rfl)⟩ (Nat.le_of_ble_eq_true rfl) rfl rfl dL_law_711 ?_
          change Lw g am b L xs 714 [(0, .ref b), (1, .ref (g.2.2.1 0)), (2, .ref ((gMo g am).2.2.1 0)), (3, .int i3)] [.int r] μC2 μM
          refine l_aload_n (pc := 714) 2 dL_law_714 rfl rfl ?_
          refine l_callM (pc := 715) (As := []) (rest := [.int r]) kL_109 (m_X7_back (gMo g am) μM) eM rfl ⟨rfl, rfl⟩ ⟨(Nat.le_of_ble_eq_true rfl), (Nat.le_of_ble_eq_true rfl)⟩ (Nat.le_of_ble_eq_true rfl) rfl rfl dL_law_715 ?_
          change Lw g am b L xs 718 [(0, .ref b), (1, .ref (g.2.2.1 0)), (2, .ref ((gMo g am).2.2.1 0)), (3, .int i3)] [.int r, .int r] μC2 μM2
          refine l_icmp_eq (pc := 718) (tgt := 760) dL_law_718 (by decide) rfl ?_
          exact next μC2 μM2 hI2
        · refine l_tabIn (pc := 32) (tgt := 723) dL_law_32 (by rw [hjt]; decide) (by rw [hjt]; decide) (off := 691) (by decide +kernel) (by decide) ?_
          obtain ⟨r, μC2, μM2, eC, eM, hI2⟩ := hs22 n (xs (i3 + (1 : Int32)).toNatClampNeg) hn5 μC μM hI
          refine l_aload_n (pc := 723) 1 dL_law_723 rfl rfl ?_
          refine l_aload_n (pc := 724) 0 dL_law_724 rfl rfl ?_
          refine l_iload_n (pc := 725) 3 dL_law_725 rfl rfl ?_
          refine l_iconst (pc := 726) (v := 1) dL_law_726 (by decide +kernel) ?_
          refine l_iadd (pc := 727) dL_law_727 ?_
          refine l_sld (pc := 728) hi1 dL_law_728 ?_
          refine l_callC (pc := 729) (As := [.int (xs (i3 + (1 : Int32)).toNatClampNeg)]) (rest := []) kL_110 (m_X6_told g μC (xs (i3 + (1 : Int32)).toNatClampNeg)) eC rfl ⟨rfl, rfl⟩ ⟨(Nat.le_of_ble_eq_true rfl), (Nat.le_of_ble_eq_true rfl)⟩ (Nat.le_of_ble_eq_true rfl) rfl rfl dL_law_729 ?_
          change Lw g am b L xs 732 [(0, .ref b), (1, .ref (g.2.2.1 0)), (2, .ref ((gMo g am).2.2.1 0)), (3, .int i3)] [.int r] μC2 μM
          refine l_aload_n (pc := 732) 2 dL_law_732 rfl rfl ?_
          refine l_aload_n (pc := 733) 0 dL_law_733 rfl rfl ?_
          refine l_iload_n (pc := 734) 3 dL_law_734 rfl rfl ?_
          refine l_iconst (pc := 735) (v := 1) dL_law_735 (by decide +kernel) ?_
          refine l_iadd (pc := 736) dL_law_736 ?_
          refine l_sld (pc := 737) hi1 dL_law_737 ?_
          refine l_callM (pc := 738) (As := [.int (xs (i3 + (1 : Int32)).toNatClampNeg)]) (rest := [.int r]) kL_113 (m_X7_told (gMo g am) μM (xs (i3 + (1 : Int32)).toNatClampNeg)) eM rfl ⟨rfl, rfl⟩ ⟨(Nat.le_of_ble_eq_true rfl), (Nat.le_of_ble_eq_true rfl)⟩ (Nat.le_of_ble_eq_true rfl) rfl rfl dL_law_738 ?_
          change Lw g am b L xs 741 [(0, .ref b), (1, .ref (g.2.2.1 0)), (2, .ref ((gMo g am).2.2.1 0)), (3, .int i3)] [.int r, .int r] μC2 μM2
          refine l_icmp_eq (pc := 741) (tgt := 760) dL_law_741 (by decide) rfl ?_
          exact next μC2 μM2 hI2
        · refine l_tabIn (pc := 32) (tgt := 746) dL_law_32 (by rw [hjt]; decide) (by rw [hjt]; decide) (off := 714) (by decide +kernel) (by decide) ?_
          obtain ⟨r, μC2, μM2, eC, eM, hI2⟩ := hs23 n hn5 μC μM hI
          refine l_aload_n (pc := 746) 1 dL_law_746 rfl rfl ?_
          refine l_callC (pc := 747) (As := []) (rest := []) kL_114 (m_X6_digest g μC) eC rfl ⟨rfl, rfl⟩ ⟨(Nat.le_of_ble_eq_true rfl), (Nat.le_of_ble_eq_true rfl)⟩ (Nat.le_of_ble_eq_true rfl) rfl rfl dL_law_747 ?_
          change Lw g am b L xs 750 [(0, .ref b), (1, .ref (g.2.2.1 0)), (2, .ref ((gMo g am).2.2.1 0)), (3, .int i3)] [.long r] μC2 μM
          refine l_aload_n (pc := 750) 2 dL_law_750 rfl rfl ?_
          refine l_callM (pc := 751) (As := []) (rest := [.long r]) kL_117 (m_X7_digest (gMo g am) μM) eM rfl ⟨rfl, rfl⟩ ⟨(Nat.le_of_ble_eq_true rfl), (Nat.le_of_ble_eq_true rfl)⟩ (Nat.le_of_ble_eq_true rfl) rfl rfl dL_law_751 ?_
          change Lw g am b L xs 754 [(0, .ref b), (1, .ref (g.2.2.1 0)), (2, .ref ((gMo g am).2.2.1 0)), (3, .int i3)] [.long r, .long r] μC2 μM2
          refine l_lcmp_eq (pc := 754) (tgt := 760) dL_law_754 dL_law_755 (by decide) rfl ?_
          exact next μC2 μM2 hI2
      · refine l_tabOut (pc := 32) (tgt := 760) dL_law_32 (by rw [hjt]; omega) (by decide) ?_
        exact next μC μM (hid n μC μM hI)
