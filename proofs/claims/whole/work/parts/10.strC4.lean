theorem X7_herds_E {x1 : Int} {σ : Mem} {Q : Int → Mem → Prop} (h : CI layC MX7_within [vI x1, vI 0, vI 2] σ (fun r2 σ1 => ((r2 ≠ 0 → CV layC MX7_findHerds [vP 0] σ1 (fun σ3 => CI layC MX1_answer [vP 42, vI x1] σ3 (fun r5 σ4 => Q r5 σ4))) ∧ (r2 = 0 → Q (-1) σ1)))) : CI layC MX7_herds [vP 0, vI x1] σ Q := by
  refine Cl.ofR (ls := [(0, vP 0), (1, vI x1)]) (show plainName RX7 = true by decide +kernel) (leb rfl) rfl ?_
  refine R_iload_n (pc := 0) 1 rfl rfl dX7_herds_0 ?_
  refine R_iconst (pc := 1) (by decide) dX7_herds_1 ?_
  refine R_iconst (pc := 2) (by decide) dX7_herds_2 ?_
  refine R_callSI (pc := 3) (as := [vI x1, vI 0, vI 2]) (st := []) rfl rfl kX7_within sX7_within w_2_47 (ltb rfl) rfl (leb rfl) dX7_herds_3 h (fun r2 σ1 h => ?_)
  refine R_if_ne (pc := 6) (tgt := 11) (by decide) dX7_herds_6 (fun c => ?_) (fun c => ?_)
  · have h := h.1 c
    refine R_aload_n (pc := 11) 0 rfl rfl dX7_herds_11 ?_
    refine R_callV0 (pc := 12) (as := []) (st := []) rfl rfl kX7_findHerds sX7_findHerds lC_0 rfl w_3_239 (ltb rfl) rfl (leb rfl) dX7_herds_12 h (fun σ3 h => ?_)
    refine R_aload_n (pc := 15) 0 rfl rfl dX7_herds_15 ?_
    refine R_getP (pc := 16) (q' := 42) lC_0 rfl flX7_54 dX7_herds_16 ?_
    refine R_iload_n (pc := 19) 1 rfl rfl dX7_herds_19 ?_
    refine R_callVI (pc := 20) (as := [vI x1]) (st := []) rfl rfl kX1_answer sX1_answer lC_42 rfl w_4_11 (ltb rfl) rfl (leb rfl) dX7_herds_20 h (fun r5 σ4 h => ?_)
    exact R_iret (pc := 23) rfl dX7_herds_23 ⟨_, rfl, h⟩
  · have h := h.2 c
    refine R_iconst (pc := 9) (by decide) dX7_herds_9 ?_
    exact R_iret (pc := 10) rfl dX7_herds_10 ⟨_, rfl, h⟩
theorem X7_over_E {x1 x2 : Int} {σ : Mem} {Q : Int → Mem → Prop} (h : CI layC MX0_has [vP 1, vI x1] σ (fun r2 σ1 => ((r2 = 0 → Q (-1) σ1) ∧ (r2 ≠ 0 → CI layC MX7_within [vI x2, vI 0, vI 1] σ1 (fun r4 σ3 => ((r4 ≠ 0 → CP layC MX7_partNow [vP 0] σ3 (fun r6 σ5 => r6 = 26 ∧ CI layC MX2_got [vP 26, vI x1] σ5 (fun r8 σ7 => 0 ≤ x1 ∧ x1 < 5 ∧ I64 (r8 * (σ7 3 x1)) ∧ 0 ≤ x1 ∧ x1 < 5 ∧ I64 ((σ7 1 0) * (σ7 2 x1)) ∧ I64 ((r8 * (σ7 3 x1)) - ((σ7 1 0) * (σ7 2 x1))) ∧ 0 ≤ x1 ∧ x1 < 5 ∧ CJ layC MX7_fraction [vJ ((r8 * (σ7 3 x1)) - ((σ7 1 0) * (σ7 2 x1))), vJ (σ7 3 x1), vI x2] σ7 (fun r10 σ9 => Q r10 σ9)))) ∧ (r4 = 0 → Q (-1) σ3))))))) : CJ layC MX7_over [vP 0, vI x1, vI x2] σ Q := by
  refine Cl.ofR (ls := [(0, vP 0), (1, vI x1), (2, vI x2)]) (show plainName RX7 = true by decide +kernel) (leb rfl) rfl ?_
  refine R_aload_n (pc := 0) 0 rfl rfl dX7_over_0 ?_
  refine R_getP (pc := 1) (q' := 1) lC_0 rfl flX7_10 dX7_over_1 ?_
  refine R_iload_n (pc := 4) 1 rfl rfl dX7_over_4 ?_
  refine R_callVI (pc := 5) (as := [vI x1]) (st := []) rfl rfl kX0_has sX0_has lC_1 rfl w_3_36 (ltb rfl) rfl (leb rfl) dX7_over_5 h (fun r2 σ1 h => ?_)
  refine R_if_eq (pc := 8) (tgt := 20) (by decide) dX7_over_8 (fun c => ?_) (fun c => ?_)
  · have h := h.1 c
    refine R_ldc2 (pc := 20) (x := (-1)) w_3_55 (by decide) dX7_over_20 ?_
    exact R_lret (pc := 23) rfl dX7_over_23 ⟨_, rfl, h⟩
  · have h := h.2 c
    refine R_iload_n (pc := 11) 2 rfl rfl dX7_over_11 ?_
    refine R_iconst (pc := 12) (by decide) dX7_over_12 ?_
    refine R_iconst (pc := 13) (by decide) dX7_over_13 ?_
    refine R_callSI (pc := 14) (as := [vI x2, vI 0, vI 1]) (st := []) rfl rfl kX7_within sX7_within w_2_47 (ltb rfl) rfl (leb rfl) dX7_over_14 h (fun r4 σ3 h => ?_)
    refine R_if_ne (pc := 17) (tgt := 24) (by decide) dX7_over_17 (fun c => ?_) (fun c => ?_)
    · have h := h.1 c
      refine R_aload_n (pc := 24) 0 rfl rfl dX7_over_24 ?_
      refine R_callVP (pc := 25) (as := []) (st := []) rfl rfl kX7_partNow sX7_partNow lC_0 rfl w_2_217 (ltb rfl) rfl (leb rfl) dX7_over_25 h (fun r6 σ5 h => ?_)
      obtain ⟨rfl, h⟩ := h
      refine R_iload_n (pc := 28) 1 rfl rfl dX7_over_28 ?_
      refine R_callVI (pc := 29) (as := [vI x1]) (st := []) rfl rfl kX2_got sX2_got lC_26 rfl w_3_40 (ltb rfl) rfl (leb rfl) dX7_over_29 h (fun r8 σ7 h => ?_)
      refine R_i2l (pc := 32) dX7_over_32 ?_
      refine R_aload_n (pc := 33) 0 rfl rfl dX7_over_33 ?_
      refine R_getP (pc := 34) (q' := 1) lC_0 rfl flX7_10 dX7_over_34 ?_
      refine R_getP (pc := 37) (q' := 3) lC_1 rfl flX7_149 dX7_over_37 ?_
      refine R_iload_n (pc := 40) 1 rfl rfl dX7_over_40 ?_
      obtain ⟨g0, g1, h⟩ := h
      refine R_iaload (pc := 41) lC_3 g0 g1 dX7_over_41 ?_
      refine R_i2l (pc := 42) dX7_over_42 ?_
      obtain ⟨g, h⟩ := h
      refine R_lmul (pc := 43) g dX7_over_43 ?_
      refine R_aload_n (pc := 44) 0 rfl rfl dX7_over_44 ?_
      refine R_getP (pc := 45) (q' := 1) lC_0 rfl flX7_10 dX7_over_45 ?_
      refine R_getI (pc := 48) lC_1 rfl flX7_112 dX7_over_48 ?_
      refine R_i2l (pc := 51) dX7_over_51 ?_
      refine R_aload_n (pc := 52) 0 rfl rfl dX7_over_52 ?_
      refine R_getP (pc := 53) (q' := 1) lC_0 rfl flX7_10 dX7_over_53 ?_
      refine R_getP (pc := 56) (q' := 2) lC_1 rfl flX7_146 dX7_over_56 ?_
      refine R_iload_n (pc := 59) 1 rfl rfl dX7_over_59 ?_
      obtain ⟨g0, g1, h⟩ := h
      refine R_iaload (pc := 60) lC_2 g0 g1 dX7_over_60 ?_
      refine R_i2l (pc := 61) dX7_over_61 ?_
      obtain ⟨g, h⟩ := h
      refine R_lmul (pc := 62) g dX7_over_62 ?_
      obtain ⟨g, h⟩ := h
      refine R_lsub (pc := 63) g dX7_over_63 ?_
      refine R_lstore_n (pc := 64) (ls' := [(3, vJ ((r8 * (σ7 3 x1)) - ((σ7 1 0) * (σ7 2 x1)))), (0, vP 0), (1, vI x1), (2, vI x2)]) rfl rfl (ltb rfl) dX7_over_64 ?_
      refine R_lload_n (pc := 65) 0 rfl rfl dX7_over_65 ?_
      refine R_aload_n (pc := 66) 1 rfl rfl dX7_over_66 ?_
      refine R_getP (pc := 67) (q' := 1) lC_0 rfl flX7_10 dX7_over_67 ?_
      refine R_getP (pc := 70) (q' := 3) lC_1 rfl flX7_149 dX7_over_70 ?_
      refine R_iload_n (pc := 73) 2 rfl rfl dX7_over_73 ?_
      obtain ⟨g0, g1, h⟩ := h
      refine R_iaload (pc := 74) lC_3 g0 g1 dX7_over_74 ?_
      refine R_i2l (pc := 75) dX7_over_75 ?_
      refine R_iload_n (pc := 76) 3 rfl rfl dX7_over_76 ?_
      refine R_callSJ (pc := 77) (as := [vJ ((r8 * (σ7 3 x1)) - ((σ7 1 0) * (σ7 2 x1))), vJ (σ7 3 x1), vI x2]) (st := []) rfl rfl kX7_fraction sX7_fraction w_3_56 (ltb rfl) rfl (leb rfl) dX7_over_77 h (fun r10 σ9 h => ?_)
      exact R_lret (pc := 80) rfl dX7_over_80 ⟨_, rfl, h⟩
    · have h := h.2 c
      refine R_ldc2 (pc := 20) (x := (-1)) w_3_55 (by decide) dX7_over_20 ?_
      exact R_lret (pc := 23) rfl dX7_over_23 ⟨_, rfl, h⟩
theorem X7_rule_E {x1 : Int} {σ : Mem} {Q : Int → Mem → Prop} (h : ((x1 = 0 → Q (σ 1 2) σ) ∧ (x1 = 1 → Q (σ 1 0) σ) ∧ (x1 = 2 → Q (σ 1 1) σ) ∧ (x1 = 3 → CV layC MX2_load [vP 26, vP 1] σ (fun σ1 => CI layC MJ13_compare_74951 [vJ (σ1 26 1), vJ (σ1 26 0)] σ1 (fun r3 σ2 => I32 (1 + r3) ∧ Q (1 + r3) σ2))) ∧ (x1 = 4 → CP layC MX7_partNow [vP 0] σ (fun r5 σ4 => r5 = 26 ∧ CI layC MX2_given [vP 26] σ4 (fun r7 σ6 => Q r7 σ6))) ∧ (x1 < 0 ∨ 4 < x1 → Q (-1) σ))) : CI layC MX7_rule [vP 0, vI x1] σ Q := by
  refine Cl.ofR (ls := [(0, vP 0), (1, vI x1)]) (show plainName RX7 = true by decide +kernel) (leb rfl) rfl ?_
  refine R_iload_n (pc := 0) 1 rfl rfl dX7_rule_0 ?_
  by_cases c0 : x1 = 0
  · have h := h.1 c0
    refine R_tableIn (pc := 1) (tgt := 36) 0 (by omega) (by omega) rfl (by decide) dX7_rule_1 ?_
    refine R_aload_n (pc := 36) 0 rfl rfl dX7_rule_36 ?_
    refine R_getP (pc := 37) (q' := 1) lC_0 rfl flX7_10 dX7_rule_37 ?_
    refine R_getI (pc := 40) lC_1 rfl flX7_109 dX7_rule_40 ?_
    exact R_iret (pc := 43) rfl dX7_rule_43 ⟨_, rfl, h⟩
  by_cases c1 : x1 = 1
  · have h := h.2.1 c1
    refine R_tableIn (pc := 1) (tgt := 44) 1 (by omega) (by omega) rfl (by decide) dX7_rule_1 ?_
    refine R_aload_n (pc := 44) 0 rfl rfl dX7_rule_44 ?_
    refine R_getP (pc := 45) (q' := 1) lC_0 rfl flX7_10 dX7_rule_45 ?_
    refine R_getI (pc := 48) lC_1 rfl flX7_112 dX7_rule_48 ?_
    exact R_iret (pc := 51) rfl dX7_rule_51 ⟨_, rfl, h⟩
  by_cases c2 : x1 = 2
  · have h := h.2.2.1 c2
    refine R_tableIn (pc := 1) (tgt := 52) 2 (by omega) (by omega) rfl (by decide) dX7_rule_1 ?_
    refine R_aload_n (pc := 52) 0 rfl rfl dX7_rule_52 ?_
    refine R_getP (pc := 53) (q' := 1) lC_0 rfl flX7_10 dX7_rule_53 ?_
    refine R_getI (pc := 56) lC_1 rfl flX7_115 dX7_rule_56 ?_
    exact R_iret (pc := 59) rfl dX7_rule_59 ⟨_, rfl, h⟩
  by_cases c3 : x1 = 3
  · have h := h.2.2.2.1 c3
    refine R_tableIn (pc := 1) (tgt := 60) 3 (by omega) (by omega) rfl (by decide) dX7_rule_1 ?_
    refine R_aload_n (pc := 60) 0 rfl rfl dX7_rule_60 ?_
    refine R_getP (pc := 61) (q' := 26) lC_0 rfl flX7_30 dX7_rule_61 ?_
    refine R_aload_n (pc := 64) 0 rfl rfl dX7_rule_64 ?_
    refine R_getP (pc := 65) (q' := 1) lC_0 rfl flX7_10 dX7_rule_65 ?_
    refine R_callV0 (pc := 68) (as := [vP 1]) (st := []) rfl rfl kX2_load sX2_load lC_26 rfl w_2_207 (ltb rfl) rfl (leb rfl) dX7_rule_68 h (fun σ1 h => ?_)
    refine R_iconst (pc := 71) (by decide) dX7_rule_71 ?_
    refine R_aload_n (pc := 72) 0 rfl rfl dX7_rule_72 ?_
    refine R_getP (pc := 73) (q' := 26) lC_0 rfl flX7_30 dX7_rule_73 ?_
    refine R_getJ (pc := 76) lC_26 rfl flX7_121 dX7_rule_76 ?_
    refine R_aload_n (pc := 79) 0 rfl rfl dX7_rule_79 ?_
    refine R_getP (pc := 80) (q' := 26) lC_0 rfl flX7_30 dX7_rule_80 ?_
    refine R_getJ (pc := 83) lC_26 rfl flX7_125 dX7_rule_83 ?_
    refine R_callSI (pc := 86) (as := [vJ (σ1 26 1), vJ (σ1 26 0)]) (st := [vI 1]) rfl rfl kJ13_compare_74951 sJ13_compare_74951 w_2_214 (ltb rfl) rfl (leb rfl) dX7_rule_86 h (fun r3 σ2 h => ?_)
    obtain ⟨g, h⟩ := h
    refine R_iadd (pc := 89) g dX7_rule_89 ?_
    exact R_iret (pc := 90) rfl dX7_rule_90 ⟨_, rfl, h⟩
  by_cases c4 : x1 = 4
  · have h := h.2.2.2.2.1 c4
    refine R_tableIn (pc := 1) (tgt := 91) 4 (by omega) (by omega) rfl (by decide) dX7_rule_1 ?_
    refine R_aload_n (pc := 91) 0 rfl rfl dX7_rule_91 ?_
    refine R_callVP (pc := 92) (as := []) (st := []) rfl rfl kX7_partNow sX7_partNow lC_0 rfl w_2_217 (ltb rfl) rfl (leb rfl) dX7_rule_92 h (fun r5 σ4 h => ?_)
    obtain ⟨rfl, h⟩ := h
    refine R_callVI (pc := 95) (as := []) (st := []) rfl rfl kX2_given sX2_given lC_26 rfl w_3_31 (ltb rfl) rfl (leb rfl) dX7_rule_95 h (fun r7 σ6 h => ?_)
    exact R_iret (pc := 98) rfl dX7_rule_98 ⟨_, rfl, h⟩
  have cD : x1 < 0 ∨ 4 < x1 := by omega
  have h := h.2.2.2.2.2 cD
  refine R_tableOut (pc := 1) (tgt := 99) cD (by decide) dX7_rule_1 ?_
  refine R_iconst (pc := 99) (by decide) dX7_rule_99 ?_
  exact R_iret (pc := 100) rfl dX7_rule_100 ⟨_, rfl, h⟩
theorem X6_run_E {x1 x2 x3 x4 : Int} {σ : Mem} {Q : Mem → Prop} (h : I32 (x1 + x2) ∧ CV layC MX6_findDowns [vP 39] (upM (upM (upM (upM σ 39 0 0) 39 4 (x1 + x2)) 39 5 (min x3 4)) 39 6 x4) (fun σ1 => CV layC (MX6_choose 6) [vP 39, vI 0, vI 0, vI x1] σ1 (fun σ2 => Q σ2))) : CV layC MX6_run [vP 39, vI x1, vI x2, vI x3, vI x4] σ Q := by
  refine Cl.ofR (ls := [(0, vP 39), (1, vI x1), (2, vI x2), (3, vI x3), (4, vI x4)]) (show plainName RX6 = true by decide +kernel) (leb rfl) rfl ?_
  refine R_aload_n (pc := 0) 0 rfl rfl dX6_run_0 ?_
  refine R_iconst (pc := 1) (by decide) dX6_run_1 ?_
  refine R_putI (pc := 2) lC_39 rfl fpX6_9 dX6_run_2 ?_
  refine R_aload_n (pc := 5) 0 rfl rfl dX6_run_5 ?_
  refine R_iload_n (pc := 6) 1 rfl rfl dX6_run_6 ?_
  refine R_iload_n (pc := 7) 2 rfl rfl dX6_run_7 ?_
  obtain ⟨g, h⟩ := h
  refine R_iadd (pc := 8) g dX6_run_8 ?_
  refine R_putI (pc := 9) lC_39 rfl fpX6_25 dX6_run_9 ?_
  refine R_aload_n (pc := 12) 0 rfl rfl dX6_run_12 ?_
  refine R_iload_n (pc := 13) 3 rfl rfl dX6_run_13 ?_
  refine R_iconst (pc := 14) (by decide) dX6_run_14 ?_
  refine R_mmin (pc := 15) w_3_125 w_3_126 w_1_15 w_3_127 (leb rfl) (leb rfl) dX6_run_15 ?_
  refine R_putI (pc := 18) lC_39 rfl fpX6_28 dX6_run_18 ?_
  refine R_aload_n (pc := 21) 0 rfl rfl dX6_run_21 ?_
  refine R_iload (pc := 22) 4 rfl dX6_run_22 ?_
  refine R_putI (pc := 24) lC_39 rfl fpX6_31 dX6_run_24 ?_
  refine R_aload_n (pc := 27) 0 rfl rfl dX6_run_27 ?_
  refine R_callV0 (pc := 28) (as := []) (st := []) rfl rfl kX6_findDowns sX6_findDowns lC_39 rfl w_3_128 (ltb rfl) rfl (leb rfl) dX6_run_28 h (fun σ1 h => ?_)
  refine R_aload_n (pc := 31) 0 rfl rfl dX6_run_31 ?_
  refine R_iconst (pc := 32) (by decide) dX6_run_32 ?_
  refine R_iconst (pc := 33) (by decide) dX6_run_33 ?_
  refine R_iload_n (pc := 34) 1 rfl rfl dX6_run_34 ?_
  refine R_callS0 (pc := 35) (as := [vP 39, vI 0, vI 0, vI x1]) (st := []) rfl rfl kX6_choose sX6_choose w_3_133 (ltb rfl) rfl (leb rfl) dX6_run_35 h (fun σ2 h => ?_)
  exact R_vret (pc := 38) rfl dX6_run_38 ⟨rfl, h⟩
theorem X7_will_E {x1 x2 x3 x4 : Int} {σ : Mem} {Q : Int → Mem → Prop} (h : CI layC MX7_within [vI x1, vI 1, vI 4] σ (fun r2 σ1 => ((r2 = 0 → Q (-1) σ1) ∧ (r2 ≠ 0 → CI layC MX7_within [vI x2, vI 0, vI 9] σ1 (fun r4 σ3 => ((r4 = 0 → Q (-1) σ3) ∧ (r4 ≠ 0 → ((x3 < 0 → Q (-1) σ3) ∧ (0 ≤ x3 → I32 (x1 - 1) ∧ CI layC MX7_within [vI x4, vI 0, vI (x1 - 1)] σ3 (fun r6 σ5 => ((r6 ≠ 0 → CV layC MX6_run [vP 39, vI (σ5 1 0), vI x2, vI x1, vI x3] σ5 (fun σ7 => (((σ7 39 0) ≤ x3 → Q (-4) σ7) ∧ (x3 < (σ7 39 0) → 0 ≤ x4 ∧ x4 < 4 ∧ Q (σ7 40 x4) σ7)))) ∧ (r6 = 0 → Q (-1) σ5)))))))))))) : CI layC MX7_will [vP 0, vI x1, vI x2, vI x3, vI x4] σ Q := by
  refine Cl.ofR (ls := [(0, vP 0), (1, vI x1), (2, vI x2), (3, vI x3), (4, vI x4)]) (show plainName RX7 = true by decide +kernel) (leb rfl) rfl ?_
  refine R_iload_n (pc := 0) 1 rfl rfl dX7_will_0 ?_
  refine R_iconst (pc := 1) (by decide) dX7_will_1 ?_
  refine R_iconst (pc := 2) (by decide) dX7_will_2 ?_
  refine R_callSI (pc := 3) (as := [vI x1, vI 1, vI 4]) (st := []) rfl rfl kX7_within sX7_within w_2_47 (ltb rfl) rfl (leb rfl) dX7_will_3 h (fun r2 σ1 h => ?_)
  refine R_if_eq (pc := 6) (tgt := 35) (by decide) dX7_will_6 (fun c => ?_) (fun c => ?_)
  · have h := h.1 c
    refine R_iconst (pc := 35) (by decide) dX7_will_35 ?_
    exact R_iret (pc := 36) rfl dX7_will_36 ⟨_, rfl, h⟩
  · have h := h.2 c
    refine R_iload_n (pc := 9) 2 rfl rfl dX7_will_9 ?_
    refine R_iconst (pc := 10) (by decide) dX7_will_10 ?_
    refine R_bipush (pc := 11) (by decide) dX7_will_11 ?_
    refine R_callSI (pc := 13) (as := [vI x2, vI 0, vI 9]) (st := []) rfl rfl kX7_within sX7_within w_2_47 (ltb rfl) rfl (leb rfl) dX7_will_13 h (fun r4 σ3 h => ?_)
    refine R_if_eq (pc := 16) (tgt := 35) (by decide) dX7_will_16 (fun c => ?_) (fun c => ?_)
    · have h := h.1 c
      refine R_iconst (pc := 35) (by decide) dX7_will_35 ?_
      exact R_iret (pc := 36) rfl dX7_will_36 ⟨_, rfl, h⟩
    · have h := h.2 c
      refine R_iload_n (pc := 19) 3 rfl rfl dX7_will_19 ?_
      refine R_if_lt (pc := 20) (tgt := 35) (by decide) dX7_will_20 (fun c => ?_) (fun c => ?_)
      · have h := h.1 c
        refine R_iconst (pc := 35) (by decide) dX7_will_35 ?_
        exact R_iret (pc := 36) rfl dX7_will_36 ⟨_, rfl, h⟩
      · have h := h.2 c
        refine R_iload (pc := 23) 4 rfl dX7_will_23 ?_
        refine R_iconst (pc := 25) (by decide) dX7_will_25 ?_
        refine R_iload_n (pc := 26) 1 rfl rfl dX7_will_26 ?_
        refine R_iconst (pc := 27) (by decide) dX7_will_27 ?_
        obtain ⟨g, h⟩ := h
        refine R_isub (pc := 28) g dX7_will_28 ?_
        refine R_callSI (pc := 29) (as := [vI x4, vI 0, vI (x1 - 1)]) (st := []) rfl rfl kX7_within sX7_within w_2_47 (ltb rfl) rfl (leb rfl) dX7_will_29 h (fun r6 σ5 h => ?_)
        refine R_if_ne (pc := 32) (tgt := 37) (by decide) dX7_will_32 (fun c => ?_) (fun c => ?_)
        · have h := h.1 c
          refine R_aload_n (pc := 37) 0 rfl rfl dX7_will_37 ?_
          refine R_getP (pc := 38) (q' := 39) lC_0 rfl flX7_47 dX7_will_38 ?_
          refine R_aload_n (pc := 41) 0 rfl rfl dX7_will_41 ?_
          refine R_getP (pc := 42) (q' := 1) lC_0 rfl flX7_10 dX7_will_42 ?_
          refine R_getI (pc := 45) lC_1 rfl flX7_112 dX7_will_45 ?_
          refine R_iload_n (pc := 48) 2 rfl rfl dX7_will_48 ?_
          refine R_iload_n (pc := 49) 1 rfl rfl dX7_will_49 ?_
          refine R_iload_n (pc := 50) 3 rfl rfl dX7_will_50 ?_
          refine R_callV0 (pc := 51) (as := [vI (σ5 1 0), vI x2, vI x1, vI x3]) (st := []) rfl rfl kX6_run sX6_run lC_39 rfl w_3_121 (ltb rfl) rfl (leb rfl) dX7_will_51 h (fun σ7 h => ?_)
          refine R_aload_n (pc := 54) 0 rfl rfl dX7_will_54 ?_
          refine R_getP (pc := 55) (q' := 39) lC_0 rfl flX7_47 dX7_will_55 ?_
          refine R_getI (pc := 58) lC_39 rfl flX7_188 dX7_will_58 ?_
          refine R_iload_n (pc := 61) 3 rfl rfl dX7_will_61 ?_
          refine R_icmp_le (pc := 62) (tgt := 78) (by decide) dX7_will_62 (fun c => ?_) (fun c => ?_)
          · have h := h.1 c
            refine R_bipush (pc := 78) (by decide) dX7_will_78 ?_
            exact R_iret (pc := 80) rfl dX7_will_80 ⟨_, rfl, h⟩
          · have h := h.2 c
            refine R_aload_n (pc := 65) 0 rfl rfl dX7_will_65 ?_
            refine R_getP (pc := 66) (q' := 39) lC_0 rfl flX7_47 dX7_will_66 ?_
            refine R_getP (pc := 69) (q' := 40) lC_39 rfl flX7_191 dX7_will_69 ?_
            refine R_iload (pc := 72) 4 rfl dX7_will_72 ?_
            obtain ⟨g0, g1, h⟩ := h
            refine R_iaload (pc := 74) lC_40 g0 g1 dX7_will_74 ?_
            refine R_goto (pc := 75) (tgt := 80) (by decide) dX7_will_75 ?_
            exact R_iret (pc := 80) rfl dX7_will_80 ⟨_, rfl, h⟩
        · have h := h.2 c
          refine R_iconst (pc := 35) (by decide) dX7_will_35 ?_
          exact R_iret (pc := 36) rfl dX7_will_36 ⟨_, rfl, h⟩
theorem X7_wills_E {x1 x2 : Int} {σ : Mem} {Q : Int → Mem → Prop} (h : CI layC MX7_within [vI x1, vI 1, vI 4] σ (fun r2 σ1 => ((r2 = 0 → Q (-1) σ1) ∧ (r2 ≠ 0 → CI layC MX7_within [vI x2, vI 0, vI 9] σ1 (fun r4 σ3 => ((r4 ≠ 0 → CV layC MX6_run [vP 39, vI (σ3 1 0), vI x2, vI x1, vI (-1)] σ3 (fun σ5 => Q (σ5 39 0) σ5)) ∧ (r4 = 0 → Q (-1) σ3))))))) : CI layC MX7_wills [vP 0, vI x1, vI x2] σ Q := by
  refine Cl.ofR (ls := [(0, vP 0), (1, vI x1), (2, vI x2)]) (show plainName RX7 = true by decide +kernel) (leb rfl) rfl ?_
  refine R_iload_n (pc := 0) 1 rfl rfl dX7_wills_0 ?_
  refine R_iconst (pc := 1) (by decide) dX7_wills_1 ?_
  refine R_iconst (pc := 2) (by decide) dX7_wills_2 ?_
  refine R_callSI (pc := 3) (as := [vI x1, vI 1, vI 4]) (st := []) rfl rfl kX7_within sX7_within w_2_47 (ltb rfl) rfl (leb rfl) dX7_wills_3 h (fun r2 σ1 h => ?_)
  refine R_if_eq (pc := 6) (tgt := 19) (by decide) dX7_wills_6 (fun c => ?_) (fun c => ?_)
  · have h := h.1 c
    refine R_iconst (pc := 19) (by decide) dX7_wills_19 ?_
    exact R_iret (pc := 20) rfl dX7_wills_20 ⟨_, rfl, h⟩
  · have h := h.2 c
    refine R_iload_n (pc := 9) 2 rfl rfl dX7_wills_9 ?_
    refine R_iconst (pc := 10) (by decide) dX7_wills_10 ?_
    refine R_bipush (pc := 11) (by decide) dX7_wills_11 ?_
    refine R_callSI (pc := 13) (as := [vI x2, vI 0, vI 9]) (st := []) rfl rfl kX7_within sX7_within w_2_47 (ltb rfl) rfl (leb rfl) dX7_wills_13 h (fun r4 σ3 h => ?_)
    refine R_if_ne (pc := 16) (tgt := 21) (by decide) dX7_wills_16 (fun c => ?_) (fun c => ?_)
    · have h := h.1 c
      refine R_aload_n (pc := 21) 0 rfl rfl dX7_wills_21 ?_
      refine R_getP (pc := 22) (q' := 39) lC_0 rfl flX7_47 dX7_wills_22 ?_
      refine R_aload_n (pc := 25) 0 rfl rfl dX7_wills_25 ?_
      refine R_getP (pc := 26) (q' := 1) lC_0 rfl flX7_10 dX7_wills_26 ?_
      refine R_getI (pc := 29) lC_1 rfl flX7_112 dX7_wills_29 ?_
      refine R_iload_n (pc := 32) 2 rfl rfl dX7_wills_32 ?_
      refine R_iload_n (pc := 33) 1 rfl rfl dX7_wills_33 ?_
      refine R_iconst (pc := 34) (by decide) dX7_wills_34 ?_
      refine R_callV0 (pc := 35) (as := [vI (σ3 1 0), vI x2, vI x1, vI (-1)]) (st := []) rfl rfl kX6_run sX6_run lC_39 rfl w_3_121 (ltb rfl) rfl (leb rfl) dX7_wills_35 h (fun σ5 h => ?_)
      refine R_aload_n (pc := 38) 0 rfl rfl dX7_wills_38 ?_
      refine R_getP (pc := 39) (q' := 39) lC_0 rfl flX7_47 dX7_wills_39 ?_
      refine R_getI (pc := 42) lC_39 rfl flX7_188 dX7_wills_42 ?_
      exact R_iret (pc := 45) rfl dX7_wills_45 ⟨_, rfl, h⟩
    · have h := h.2 c
      refine R_iconst (pc := 19) (by decide) dX7_wills_19 ?_
      exact R_iret (pc := 20) rfl dX7_wills_20 ⟨_, rfl, h⟩
theorem X3_wordOfLine_E {σ : Mem} {Q : Int → Mem → Prop} (h : CI layC MX5_isName [vP 37, vP 200] σ (fun r2 σ1 => ((r2 = 0 → CI layC MX5_isName [vP 37, vP 201] σ1 (fun r4 σ3 => ((r4 = 0 → CI layC MX5_isName [vP 37, vP 202] σ3 (fun r6 σ5 => ((r6 = 0 → CI layC MX5_isName [vP 37, vP 203] σ5 (fun r8 σ7 => ((r8 = 0 → CI layC MX5_isName [vP 37, vP 204] σ7 (fun r10 σ9 => ((r10 = 0 → CI layC MX5_isName [vP 37, vP 205] σ9 (fun r12 σ11 => ((r12 = 0 → Q (-1) σ11) ∧ (r12 ≠ 0 → Q 3 σ11)))) ∧ (r10 ≠ 0 → Q 2 σ9)))) ∧ (r8 ≠ 0 → Q 1 σ7)))) ∧ (r6 ≠ 0 → Q 0 σ5)))) ∧ (r4 ≠ 0 → Q 5 σ3)))) ∧ (r2 ≠ 0 → Q 4 σ1)))) : CI layC MX3_wordOfLine [vP 36] σ Q := by
  refine Cl.ofR (ls := [(0, vP 36)]) (show plainName RX3 = true by decide +kernel) (leb rfl) rfl ?_
  refine R_aload_n (pc := 0) 0 rfl rfl dX3_wordOfLine_0 ?_
  refine R_getP (pc := 1) (q' := 37) lC_36 rfl flX3_12 dX3_wordOfLine_1 ?_
  refine R_ldcS (pc := 4) 0 (by decide) rfl rfl dX3_wordOfLine_4 ?_
  refine R_callVI (pc := 6) (as := [vP 200]) (st := []) rfl rfl kX5_isName sX5_isName lC_37 rfl w_2_131 (ltb rfl) rfl (leb rfl) dX3_wordOfLine_6 h (fun r2 σ1 h => ?_)
  refine R_if_eq (pc := 9) (tgt := 14) (by decide) dX3_wordOfLine_9 (fun c => ?_) (fun c => ?_)
  · have h := h.1 c
    refine R_aload_n (pc := 14) 0 rfl rfl dX3_wordOfLine_14 ?_
    refine R_getP (pc := 15) (q' := 37) lC_36 rfl flX3_12 dX3_wordOfLine_15 ?_
    refine R_ldcS (pc := 18) 1 (by decide) rfl rfl dX3_wordOfLine_18 ?_
    refine R_callVI (pc := 20) (as := [vP 201]) (st := []) rfl rfl kX5_isName sX5_isName lC_37 rfl w_2_131 (ltb rfl) rfl (leb rfl) dX3_wordOfLine_20 h (fun r4 σ3 h => ?_)
    refine R_if_eq (pc := 23) (tgt := 28) (by decide) dX3_wordOfLine_23 (fun c => ?_) (fun c => ?_)
    · have h := h.1 c
      refine R_aload_n (pc := 28) 0 rfl rfl dX3_wordOfLine_28 ?_
      refine R_getP (pc := 29) (q' := 37) lC_36 rfl flX3_12 dX3_wordOfLine_29 ?_
      refine R_ldcS (pc := 32) 2 (by decide) rfl rfl dX3_wordOfLine_32 ?_
      refine R_callVI (pc := 34) (as := [vP 202]) (st := []) rfl rfl kX5_isName sX5_isName lC_37 rfl w_2_131 (ltb rfl) rfl (leb rfl) dX3_wordOfLine_34 h (fun r6 σ5 h => ?_)
      refine R_if_eq (pc := 37) (tgt := 42) (by decide) dX3_wordOfLine_37 (fun c => ?_) (fun c => ?_)
      · have h := h.1 c
        refine R_aload_n (pc := 42) 0 rfl rfl dX3_wordOfLine_42 ?_
        refine R_getP (pc := 43) (q' := 37) lC_36 rfl flX3_12 dX3_wordOfLine_43 ?_
        refine R_ldcS (pc := 46) 3 (by decide) rfl rfl dX3_wordOfLine_46 ?_
        refine R_callVI (pc := 48) (as := [vP 203]) (st := []) rfl rfl kX5_isName sX5_isName lC_37 rfl w_2_131 (ltb rfl) rfl (leb rfl) dX3_wordOfLine_48 h (fun r8 σ7 h => ?_)
        refine R_if_eq (pc := 51) (tgt := 56) (by decide) dX3_wordOfLine_51 (fun c => ?_) (fun c => ?_)
        · have h := h.1 c
          refine R_aload_n (pc := 56) 0 rfl rfl dX3_wordOfLine_56 ?_
          refine R_getP (pc := 57) (q' := 37) lC_36 rfl flX3_12 dX3_wordOfLine_57 ?_
          refine R_ldcS (pc := 60) 4 (by decide) rfl rfl dX3_wordOfLine_60 ?_
          refine R_callVI (pc := 62) (as := [vP 204]) (st := []) rfl rfl kX5_isName sX5_isName lC_37 rfl w_2_131 (ltb rfl) rfl (leb rfl) dX3_wordOfLine_62 h (fun r10 σ9 h => ?_)
          refine R_if_eq (pc := 65) (tgt := 70) (by decide) dX3_wordOfLine_65 (fun c => ?_) (fun c => ?_)
          · have h := h.1 c
            refine R_aload_n (pc := 70) 0 rfl rfl dX3_wordOfLine_70 ?_
            refine R_getP (pc := 71) (q' := 37) lC_36 rfl flX3_12 dX3_wordOfLine_71 ?_
            refine R_ldcS (pc := 74) 5 (by decide) rfl rfl dX3_wordOfLine_74 ?_
            refine R_callVI (pc := 76) (as := [vP 205]) (st := []) rfl rfl kX5_isName sX5_isName lC_37 rfl w_2_131 (ltb rfl) rfl (leb rfl) dX3_wordOfLine_76 h (fun r12 σ11 h => ?_)
            refine R_if_eq (pc := 79) (tgt := 86) (by decide) dX3_wordOfLine_79 (fun c => ?_) (fun c => ?_)
            · have h := h.1 c
              refine R_iconst (pc := 86) (by decide) dX3_wordOfLine_86 ?_
              exact R_iret (pc := 87) rfl dX3_wordOfLine_87 ⟨_, rfl, h⟩
            · have h := h.2 c
              refine R_iconst (pc := 82) (by decide) dX3_wordOfLine_82 ?_
              refine R_goto (pc := 83) (tgt := 87) (by decide) dX3_wordOfLine_83 ?_
              exact R_iret (pc := 87) rfl dX3_wordOfLine_87 ⟨_, rfl, h⟩
          · have h := h.2 c
            refine R_iconst (pc := 68) (by decide) dX3_wordOfLine_68 ?_
            exact R_iret (pc := 69) rfl dX3_wordOfLine_69 ⟨_, rfl, h⟩
        · have h := h.2 c
          refine R_iconst (pc := 54) (by decide) dX3_wordOfLine_54 ?_
          exact R_iret (pc := 55) rfl dX3_wordOfLine_55 ⟨_, rfl, h⟩
      · have h := h.2 c
        refine R_iconst (pc := 40) (by decide) dX3_wordOfLine_40 ?_
        exact R_iret (pc := 41) rfl dX3_wordOfLine_41 ⟨_, rfl, h⟩
    · have h := h.2 c
      refine R_iconst (pc := 26) (by decide) dX3_wordOfLine_26 ?_
      exact R_iret (pc := 27) rfl dX3_wordOfLine_27 ⟨_, rfl, h⟩
  · have h := h.2 c
    refine R_iconst (pc := 12) (by decide) dX3_wordOfLine_12 ?_
    exact R_iret (pc := 13) rfl dX3_wordOfLine_13 ⟨_, rfl, h⟩
theorem X3_takeWord_E {σ : Mem} {Q : Mem → Prop} (h : CI layC MX3_wordOfLine [vP 36] σ (fun r2 σ1 => ((r2 ≠ 4 → ((r2 ≠ 5 → CI layC MX7_isKind [vI r2] σ1 (fun r4 σ3 => ((r4 = 0 → CV layC MX3_refuse [vP 36, vI 2] σ3 (fun σ5 => Q σ5)) ∧ (r4 ≠ 0 → CV layC MX3_begin [vP 36, vI 4, vI (σ3 36 8), vI 4] σ3 (fun σ6 => Q (upM (upM σ6 36 8 1) 21 1 r2)))))) ∧ (r2 = 5 → CV layC MX3_begin [vP 36, vI 3, vI (σ1 36 7), vI 4] σ1 (fun σ7 => Q (upM σ7 36 7 1))))) ∧ (r2 = 4 → (((σ1 21 2) < 5 → CV layC MX3_begin [vP 36, vI 1, vI 0, vI 5] σ1 (fun σ8 => Q σ8)) ∧ (5 ≤ (σ1 21 2) → CV layC MX3_begin [vP 36, vI 1, vI 1, vI 5] σ1 (fun σ9 => Q σ9))))))) : CV layC MX3_takeWord [vP 36] σ Q := by
  refine Cl.ofR (ls := [(0, vP 36)]) (show plainName RX3 = true by decide +kernel) (leb rfl) rfl ?_
  refine R_aload_n (pc := 0) 0 rfl rfl dX3_takeWord_0 ?_
  refine R_callVI (pc := 1) (as := []) (st := []) rfl rfl kX3_wordOfLine sX3_wordOfLine lC_36 rfl w_2_126 (ltb rfl) rfl (leb rfl) dX3_takeWord_1 h (fun r2 σ1 h => ?_)
  refine R_istore_n (pc := 4) (ls' := [(1, vI r2), (0, vP 36)]) rfl rfl (ltb rfl) dX3_takeWord_4 ?_
  refine R_iload_n (pc := 5) 0 rfl rfl dX3_takeWord_5 ?_
  refine R_iconst (pc := 6) (by decide) dX3_takeWord_6 ?_
  refine R_icmp_ne (pc := 7) (tgt := 35) (by decide) dX3_takeWord_7 (fun c => ?_) (fun c => ?_)
  · have h := h.1 c
    refine R_iload_n (pc := 35) 0 rfl rfl dX3_takeWord_35 ?_
    refine R_iconst (pc := 36) (by decide) dX3_takeWord_36 ?_
    refine R_icmp_ne (pc := 37) (tgt := 58) (by decide) dX3_takeWord_37 (fun c => ?_) (fun c => ?_)
    · have h := h.1 c
      refine R_iload_n (pc := 58) 0 rfl rfl dX3_takeWord_58 ?_
      refine R_callSNI (pc := 59) (as := [vI r2]) (st := []) rfl rfl kX7_isKind sX7_isKind (List.mem_of_getElem? (i := 12) rfl) (ltb rfl) rfl (leb rfl) dX3_takeWord_59 h (fun r4 σ3 h => ?_)
      refine R_if_eq (pc := 62) (tgt := 91) (by decide) dX3_takeWord_62 (fun c => ?_) (fun c => ?_)
      · have h := h.1 c
        refine R_aload_n (pc := 91) 1 rfl rfl dX3_takeWord_91 ?_
        refine R_iconst (pc := 92) (by decide) dX3_takeWord_92 ?_
        refine R_callV0 (pc := 93) (as := [vI 2]) (st := []) rfl rfl kX3_refuse sX3_refuse lC_36 rfl w_2_97 (ltb rfl) rfl (leb rfl) dX3_takeWord_93 h (fun σ5 h => ?_)
        exact R_vret (pc := 96) rfl dX3_takeWord_96 ⟨rfl, h⟩
      · have h := h.2 c
        refine R_aload_n (pc := 65) 1 rfl rfl dX3_takeWord_65 ?_
        refine R_iconst (pc := 66) (by decide) dX3_takeWord_66 ?_
        refine R_aload_n (pc := 67) 1 rfl rfl dX3_takeWord_67 ?_
        refine R_getZ (pc := 68) lC_36 rfl flX3_45 dX3_takeWord_68 ?_
        refine R_iconst (pc := 71) (by decide) dX3_takeWord_71 ?_
        refine R_callV0 (pc := 72) (as := [vI 4, vI (σ3 36 8), vI 4]) (st := []) rfl rfl kX3_begin sX3_begin lC_36 rfl w_2_188 (ltb rfl) rfl (leb rfl) dX3_takeWord_72 h (fun σ6 h => ?_)
        refine R_aload_n (pc := 75) 1 rfl rfl dX3_takeWord_75 ?_
        refine R_iconst (pc := 76) (by decide) dX3_takeWord_76 ?_
        refine R_putZ (pc := 77) (by decide) lC_36 rfl fpX3_45 dX3_takeWord_77 ?_
        refine R_aload_n (pc := 80) 1 rfl rfl dX3_takeWord_80 ?_
        refine R_getP (pc := 81) (q' := 21) lC_36 rfl flX3_21 dX3_takeWord_81 ?_
        refine R_iload_n (pc := 84) 0 rfl rfl dX3_takeWord_84 ?_
        refine R_putI (pc := 85) lC_21 rfl fpX3_91 dX3_takeWord_85 ?_
        refine R_goto (pc := 88) (tgt := 96) (by decide) dX3_takeWord_88 ?_
        exact R_vret (pc := 96) rfl dX3_takeWord_96 ⟨rfl, h⟩
    · have h := h.2 c
      refine R_aload_n (pc := 40) 1 rfl rfl dX3_takeWord_40 ?_
      refine R_iconst (pc := 41) (by decide) dX3_takeWord_41 ?_
      refine R_aload_n (pc := 42) 1 rfl rfl dX3_takeWord_42 ?_
      refine R_getZ (pc := 43) lC_36 rfl flX3_41 dX3_takeWord_43 ?_
      refine R_iconst (pc := 46) (by decide) dX3_takeWord_46 ?_
      refine R_callV0 (pc := 47) (as := [vI 3, vI (σ1 36 7), vI 4]) (st := []) rfl rfl kX3_begin sX3_begin lC_36 rfl w_2_188 (ltb rfl) rfl (leb rfl) dX3_takeWord_47 h (fun σ7 h => ?_)
      refine R_aload_n (pc := 50) 1 rfl rfl dX3_takeWord_50 ?_
      refine R_iconst (pc := 51) (by decide) dX3_takeWord_51 ?_
      refine R_putZ (pc := 52) (by decide) lC_36 rfl fpX3_41 dX3_takeWord_52 ?_
      refine R_goto (pc := 55) (tgt := 96) (by decide) dX3_takeWord_55 ?_
      exact R_vret (pc := 96) rfl dX3_takeWord_96 ⟨rfl, h⟩
  · have h := h.2 c
    refine R_aload_n (pc := 10) 1 rfl rfl dX3_takeWord_10 ?_
    refine R_iconst (pc := 11) (by decide) dX3_takeWord_11 ?_
    refine R_aload_n (pc := 12) 1 rfl rfl dX3_takeWord_12 ?_
    refine R_getP (pc := 13) (q' := 21) lC_36 rfl flX3_21 dX3_takeWord_13 ?_
    refine R_getI (pc := 16) lC_21 rfl flX3_80 dX3_takeWord_16 ?_
    refine R_iconst (pc := 19) (by decide) dX3_takeWord_19 ?_
    refine R_icmp_lt (pc := 20) (tgt := 27) (by decide) dX3_takeWord_20 (fun c => ?_) (fun c => ?_)
    · have h := h.1 c
      refine R_iconst (pc := 27) (by decide) dX3_takeWord_27 ?_
      refine R_iconst (pc := 28) (by decide) dX3_takeWord_28 ?_
      refine R_callV0 (pc := 29) (as := [vI 1, vI 0, vI 5]) (st := []) rfl rfl kX3_begin sX3_begin lC_36 rfl w_2_188 (ltb rfl) rfl (leb rfl) dX3_takeWord_29 h (fun σ8 h => ?_)
      refine R_goto (pc := 32) (tgt := 96) (by decide) dX3_takeWord_32 ?_
      exact R_vret (pc := 96) rfl dX3_takeWord_96 ⟨rfl, h⟩
    · have h := h.2 c
      refine R_iconst (pc := 23) (by decide) dX3_takeWord_23 ?_
      refine R_goto (pc := 24) (tgt := 28) (by decide) dX3_takeWord_24 ?_
      refine R_iconst (pc := 28) (by decide) dX3_takeWord_28 ?_
      refine R_callV0 (pc := 29) (as := [vI 1, vI 1, vI 5]) (st := []) rfl rfl kX3_begin sX3_begin lC_36 rfl w_2_188 (ltb rfl) rfl (leb rfl) dX3_takeWord_29 h (fun σ9 h => ?_)
      refine R_goto (pc := 32) (tgt := 96) (by decide) dX3_takeWord_32 ?_
      exact R_vret (pc := 96) rfl dX3_takeWord_96 ⟨rfl, h⟩
theorem X3_takeToken_E {σ : Mem} {Q : Mem → Prop} (h : (((σ 37 1) ≠ 4 → (((σ 36 5) ≠ 4 → (((σ 36 5) = 0 → (((σ 37 1) ≠ 3 → CV layC MX3_takeWord [vP 36] σ (fun σ1 => Q σ1)) ∧ ((σ 37 1) = 3 → Q (upM σ 36 5 5)))) ∧ ((σ 36 5) ≠ 0 → CV layC MX3_takeNumber [vP 36] σ (fun σ2 => Q σ2)))) ∧ ((σ 36 5) = 4 → CV layC MX3_takeSemicolon [vP 36] σ (fun σ3 => Q σ3)))) ∧ ((σ 37 1) = 4 → CV layC MX3_refuse [vP 36, vI 1] σ (fun σ4 => Q σ4)))) : CV layC MX3_takeToken [vP 36] σ Q := by
  refine Cl.ofR (ls := [(0, vP 36)]) (show plainName RX3 = true by decide +kernel) (leb rfl) rfl ?_
  refine R_aload_n (pc := 0) 0 rfl rfl dX3_takeToken_0 ?_
  refine R_getP (pc := 1) (q' := 37) lC_36 rfl flX3_12 dX3_takeToken_1 ?_
  refine R_getI (pc := 4) lC_37 rfl flX3_60 dX3_takeToken_4 ?_
  refine R_iconst (pc := 7) (by decide) dX3_takeToken_7 ?_
  refine R_icmp_ne (pc := 8) (tgt := 19) (by decide) dX3_takeToken_8 (fun c => ?_) (fun c => ?_)
  · have h := h.1 c
    refine R_aload_n (pc := 19) 0 rfl rfl dX3_takeToken_19 ?_
    refine R_getI (pc := 20) lC_36 rfl flX3_35 dX3_takeToken_20 ?_
    refine R_iconst (pc := 23) (by decide) dX3_takeToken_23 ?_
    refine R_icmp_ne (pc := 24) (tgt := 34) (by decide) dX3_takeToken_24 (fun c => ?_) (fun c => ?_)
    · have h := h.1 c
      refine R_aload_n (pc := 34) 0 rfl rfl dX3_takeToken_34 ?_
      refine R_getI (pc := 35) lC_36 rfl flX3_35 dX3_takeToken_35 ?_
      refine R_if_eq (pc := 38) (tgt := 48) (by decide) dX3_takeToken_38 (fun c => ?_) (fun c => ?_)
      · have h := h.1 c
        refine R_aload_n (pc := 48) 0 rfl rfl dX3_takeToken_48 ?_
        refine R_getP (pc := 49) (q' := 37) lC_36 rfl flX3_12 dX3_takeToken_49 ?_
        refine R_getI (pc := 52) lC_37 rfl flX3_60 dX3_takeToken_52 ?_
        refine R_iconst (pc := 55) (by decide) dX3_takeToken_55 ?_
        refine R_icmp_ne (pc := 56) (tgt := 67) (by decide) dX3_takeToken_56 (fun c => ?_) (fun c => ?_)
        · have h := h.1 c
          refine R_aload_n (pc := 67) 0 rfl rfl dX3_takeToken_67 ?_
          refine R_callV0 (pc := 68) (as := []) (st := []) rfl rfl kX3_takeWord sX3_takeWord lC_36 rfl w_2_122 (ltb rfl) rfl (leb rfl) dX3_takeToken_68 h (fun σ1 h => ?_)
          exact R_vret (pc := 71) rfl dX3_takeToken_71 ⟨rfl, h⟩
        · have h := h.2 c
          refine R_aload_n (pc := 59) 0 rfl rfl dX3_takeToken_59 ?_
          refine R_iconst (pc := 60) (by decide) dX3_takeToken_60 ?_
          refine R_putI (pc := 61) lC_36 rfl fpX3_35 dX3_takeToken_61 ?_
          refine R_goto (pc := 64) (tgt := 71) (by decide) dX3_takeToken_64 ?_
          exact R_vret (pc := 71) rfl dX3_takeToken_71 ⟨rfl, h⟩
      · have h := h.2 c
        refine R_aload_n (pc := 41) 0 rfl rfl dX3_takeToken_41 ?_
        refine R_callV0 (pc := 42) (as := []) (st := []) rfl rfl kX3_takeNumber sX3_takeNumber lC_36 rfl w_2_105 (ltb rfl) rfl (leb rfl) dX3_takeToken_42 h (fun σ2 h => ?_)
        refine R_goto (pc := 45) (tgt := 71) (by decide) dX3_takeToken_45 ?_
        exact R_vret (pc := 71) rfl dX3_takeToken_71 ⟨rfl, h⟩
    · have h := h.2 c
      refine R_aload_n (pc := 27) 0 rfl rfl dX3_takeToken_27 ?_
      refine R_callV0 (pc := 28) (as := []) (st := []) rfl rfl kX3_takeSemicolon sX3_takeSemicolon lC_36 rfl w_2_101 (ltb rfl) rfl (leb rfl) dX3_takeToken_28 h (fun σ3 h => ?_)
      refine R_goto (pc := 31) (tgt := 71) (by decide) dX3_takeToken_31 ?_
      exact R_vret (pc := 71) rfl dX3_takeToken_71 ⟨rfl, h⟩
  · have h := h.2 c
    refine R_aload_n (pc := 11) 0 rfl rfl dX3_takeToken_11 ?_
    refine R_iconst (pc := 12) (by decide) dX3_takeToken_12 ?_
    refine R_callV0 (pc := 13) (as := [vI 1]) (st := []) rfl rfl kX3_refuse sX3_refuse lC_36 rfl w_2_97 (ltb rfl) rfl (leb rfl) dX3_takeToken_13 h (fun σ4 h => ?_)
    refine R_goto (pc := 16) (tgt := 71) (by decide) dX3_takeToken_16 ?_
    exact R_vret (pc := 71) rfl dX3_takeToken_71 ⟨rfl, h⟩
def LX3_parse_46 (x1 : Int) (σ : Mem) (Q : Mem → Prop) : Prop := Rn layC MX3_parse 46 [(0, vP 36), (1, vI x1)] [] σ (qV Q)
theorem X3_parse_46 {x1 : Int} {σ : Mem} {Q : Mem → Prop} (h : ((160 < x1 → Q σ) ∧ (x1 ≤ 160 → (((σ 36 5) = 5 → Q σ) ∧ ((σ 36 5) ≠ 5 → CV layC MX5_advance [vP 37] σ (fun σ1 => CV layC MX3_takeToken [vP 36] σ1 (fun σ2 => I32 (x1 + 1) ∧ LX3_parse_46 (x1 + 1) σ2 Q))))))) : LX3_parse_46 x1 σ Q := by
  unfold LX3_parse_46
  refine R_iload_n (pc := 46) 1 rfl rfl dX3_parse_46 ?_
  refine R_sipush (pc := 47) (by decide) dX3_parse_47 ?_
  refine R_icmp_gt (pc := 50) (tgt := 78) (by decide) dX3_parse_50 (fun c => ?_) (fun c => ?_)
  · have h := h.1 c
    exact R_vret (pc := 78) rfl dX3_parse_78 ⟨rfl, h⟩
  · have h := h.2 c
    refine R_aload_n (pc := 53) 0 rfl rfl dX3_parse_53 ?_
    refine R_getI (pc := 54) lC_36 rfl flX3_35 dX3_parse_54 ?_
    refine R_iconst (pc := 57) (by decide) dX3_parse_57 ?_
    refine R_icmp_eq (pc := 58) (tgt := 78) (by decide) dX3_parse_58 (fun c => ?_) (fun c => ?_)
    · have h := h.1 c
      exact R_vret (pc := 78) rfl dX3_parse_78 ⟨rfl, h⟩
    · have h := h.2 c
      refine R_aload_n (pc := 61) 0 rfl rfl dX3_parse_61 ?_
      refine R_getP (pc := 62) (q' := 37) lC_36 rfl flX3_12 dX3_parse_62 ?_
      refine R_callV0 (pc := 65) (as := []) (st := []) rfl rfl kX5_advance sX5_advance lC_37 rfl w_2_74 (ltb rfl) rfl (leb rfl) dX3_parse_65 h (fun σ1 h => ?_)
      refine R_aload_n (pc := 68) 0 rfl rfl dX3_parse_68 ?_
      refine R_callV0 (pc := 69) (as := []) (st := []) rfl rfl kX3_takeToken sX3_takeToken lC_36 rfl w_2_93 (ltb rfl) rfl (leb rfl) dX3_parse_69 h (fun σ2 h => ?_)
      obtain ⟨g, h⟩ := h
      refine R_iinc (pc := 72) 1 rfl rfl g (ls' := [(1, vI (x1 + 1)), (0, vP 36)]) rfl (ltb rfl) dX3_parse_72 ?_
      refine R_goto (pc := 75) (tgt := 46) (by decide) dX3_parse_75 ?_
      refine R_sub [1, 0] rfl ?_
      exact h
theorem X3_parse_E {σ : Mem} {Q : Mem → Prop} (h : CV layC MX0_clear [vP 21] σ (fun σ1 => CV layC MX5_rewind [vP 37] (upM (upM (upM (upM (upM (upM σ1 36 2 0) 36 3 0) 36 4 0) 36 7 0) 36 8 0) 36 5 0) (fun σ2 => LX3_parse_46 0 σ2 Q))) : CV layC MX3_parse [vP 36] σ Q := by
  refine Cl.ofR (ls := [(0, vP 36)]) (show plainName RX3 = true by decide +kernel) (leb rfl) rfl ?_
  refine R_aload_n (pc := 0) 0 rfl rfl dX3_parse_0 ?_
  refine R_getP (pc := 1) (q' := 21) lC_36 rfl flX3_21 dX3_parse_1 ?_
  refine R_callV0 (pc := 4) (as := []) (st := []) rfl rfl kX0_clear sX0_clear lC_21 rfl w_2_66 (ltb rfl) rfl (leb rfl) dX3_parse_4 h (fun σ1 h => ?_)
  refine R_aload_n (pc := 7) 0 rfl rfl dX3_parse_7 ?_
  refine R_iconst (pc := 8) (by decide) dX3_parse_8 ?_
  refine R_putI (pc := 9) lC_36 rfl fpX3_25 dX3_parse_9 ?_
  refine R_aload_n (pc := 12) 0 rfl rfl dX3_parse_12 ?_
  refine R_iconst (pc := 13) (by decide) dX3_parse_13 ?_
  refine R_putI (pc := 14) lC_36 rfl fpX3_29 dX3_parse_14 ?_
  refine R_aload_n (pc := 17) 0 rfl rfl dX3_parse_17 ?_
  refine R_iconst (pc := 18) (by decide) dX3_parse_18 ?_
  refine R_putI (pc := 19) lC_36 rfl fpX3_32 dX3_parse_19 ?_
  refine R_aload_n (pc := 22) 0 rfl rfl dX3_parse_22 ?_
  refine R_iconst (pc := 23) (by decide) dX3_parse_23 ?_
  refine R_putZ (pc := 24) (by decide) lC_36 rfl fpX3_41 dX3_parse_24 ?_
  refine R_aload_n (pc := 27) 0 rfl rfl dX3_parse_27 ?_
  refine R_iconst (pc := 28) (by decide) dX3_parse_28 ?_
  refine R_putZ (pc := 29) (by decide) lC_36 rfl fpX3_45 dX3_parse_29 ?_
  refine R_aload_n (pc := 32) 0 rfl rfl dX3_parse_32 ?_
  refine R_iconst (pc := 33) (by decide) dX3_parse_33 ?_
  refine R_putI (pc := 34) lC_36 rfl fpX3_35 dX3_parse_34 ?_
  refine R_aload_n (pc := 37) 0 rfl rfl dX3_parse_37 ?_
  refine R_getP (pc := 38) (q' := 37) lC_36 rfl flX3_12 dX3_parse_38 ?_
  refine R_callV0 (pc := 41) (as := []) (st := []) rfl rfl kX5_rewind sX5_rewind lC_37 rfl w_2_70 (ltb rfl) rfl (leb rfl) dX3_parse_41 h (fun σ2 h => ?_)
  refine R_iconst (pc := 44) (by decide) dX3_parse_44 ?_
  refine R_istore_n (pc := 45) (ls' := [(1, vI 0), (0, vP 36)]) rfl rfl (ltb rfl) dX3_parse_45 ?_
  refine R_sub [1, 0] rfl ?_
  exact h
def LX7_text_55 (x1 : Int) (σ : Mem) (Q : Int → Mem → Prop) : Prop := Rn layC MX7_text 55 [(0, vP 0), (1, vI x1)] [] σ (qI Q)
theorem X7_text_55 {x1 : Int} {σ : Mem} {Q : Int → Mem → Prop} (h : ((2 ≤ x1 → Q (σ 36 2) σ) ∧ (x1 < 2 → 0 ≤ x1 ∧ x1 < 2 ∧ I32 (x1 + 1) ∧ LX7_text_55 (x1 + 1) (upM σ 44 x1 0) Q))) : LX7_text_55 x1 σ Q := by
  unfold LX7_text_55
  refine R_iload_n (pc := 55) 1 rfl rfl dX7_text_55 ?_
  refine R_iconst (pc := 56) (by decide) dX7_text_56 ?_
  refine R_icmp_ge (pc := 57) (tgt := 73) (by decide) dX7_text_57 (fun c => ?_) (fun c => ?_)
  · have h := h.1 c
    refine R_aload_n (pc := 73) 0 rfl rfl dX7_text_73 ?_
    refine R_getP (pc := 74) (q' := 36) lC_0 rfl flX7_40 dX7_text_74 ?_
    refine R_getI (pc := 77) lC_36 rfl flX7_106 dX7_text_77 ?_
    exact R_iret (pc := 80) rfl dX7_text_80 ⟨_, rfl, h⟩
  · have h := h.2 c
    refine R_aload_n (pc := 60) 0 rfl rfl dX7_text_60 ?_
    refine R_getP (pc := 61) (q' := 44) lC_0 rfl flX7_23 dX7_text_61 ?_
    refine R_iload_n (pc := 64) 1 rfl rfl dX7_text_64 ?_
    refine R_iconst (pc := 65) (by decide) dX7_text_65 ?_
    obtain ⟨g0, g1, h⟩ := h
    refine R_zastore (pc := 66) (by decide) lC_44 g0 g1 dX7_text_66 ?_
    obtain ⟨g, h⟩ := h
    refine R_iinc (pc := 67) 1 rfl rfl g (ls' := [(1, vI (x1 + 1)), (0, vP 0)]) rfl (ltb rfl) dX7_text_67 ?_
    refine R_goto (pc := 70) (tgt := 55) (by decide) dX7_text_70 ?_
    refine R_sub [1, 0] rfl ?_
    exact h
theorem X7_text_E {σ : Mem} {Q : Int → Mem → Prop} (h : CV layC MX3_parse [vP 36] σ (fun σ1 => ((((upM σ1 37 0 0) 36 3) = 0 → CV layC MX0_copy [vP 1, vP 21] (upM σ1 37 0 0) (fun σ2 => LX7_text_55 0 σ2 Q)) ∧ (((upM σ1 37 0 0) 36 3) ≠ 0 → I32 ((-10) - ((upM σ1 37 0 0) 36 4)) ∧ Q ((-10) - ((upM σ1 37 0 0) 36 4)) (upM σ1 37 0 0))))) : CI layC MX7_text [vP 0] σ Q := by
  refine Cl.ofR (ls := [(0, vP 0)]) (show plainName RX7 = true by decide +kernel) (leb rfl) rfl ?_
  refine R_aload_n (pc := 0) 0 rfl rfl dX7_text_0 ?_
  refine R_getP (pc := 1) (q' := 36) lC_0 rfl flX7_40 dX7_text_1 ?_
  refine R_callV0 (pc := 4) (as := []) (st := []) rfl rfl kX3_parse sX3_parse lC_36 rfl w_2_62 (ltb rfl) rfl (leb rfl) dX7_text_4 h (fun σ1 h => ?_)
  refine R_aload_n (pc := 7) 0 rfl rfl dX7_text_7 ?_
  refine R_getP (pc := 8) (q' := 36) lC_0 rfl flX7_40 dX7_text_8 ?_
  refine R_getP (pc := 11) (q' := 37) lC_36 rfl flX7_77 dX7_text_11 ?_
  refine R_iconst (pc := 14) (by decide) dX7_text_14 ?_
  refine R_putI (pc := 15) lC_37 rfl fpX7_87 dX7_text_15 ?_
  refine R_aload_n (pc := 18) 0 rfl rfl dX7_text_18 ?_
  refine R_getP (pc := 19) (q' := 36) lC_0 rfl flX7_40 dX7_text_19 ?_
  refine R_getI (pc := 22) lC_36 rfl flX7_93 dX7_text_22 ?_
  refine R_if_eq (pc := 25) (tgt := 39) (by decide) dX7_text_25 (fun c => ?_) (fun c => ?_)
  · have h := h.1 c
    refine R_aload_n (pc := 39) 0 rfl rfl dX7_text_39 ?_
    refine R_getP (pc := 40) (q' := 1) lC_0 rfl flX7_10 dX7_text_40 ?_
    refine R_aload_n (pc := 43) 0 rfl rfl dX7_text_43 ?_
    refine R_getP (pc := 44) (q' := 36) lC_0 rfl flX7_40 dX7_text_44 ?_
    refine R_getP (pc := 47) (q' := 21) lC_36 rfl flX7_99 dX7_text_47 ?_
    refine R_callV0 (pc := 50) (as := [vP 21]) (st := []) rfl rfl kX0_copy sX0_copy lC_1 rfl w_2_195 (ltb rfl) rfl (leb rfl) dX7_text_50 h (fun σ2 h => ?_)
    refine R_iconst (pc := 53) (by decide) dX7_text_53 ?_
    refine R_istore_n (pc := 54) (ls' := [(1, vI 0), (0, vP 0)]) rfl rfl (ltb rfl) dX7_text_54 ?_
    refine R_sub [1, 0] rfl ?_
    exact h
  · have h := h.2 c
    refine R_bipush (pc := 28) (by decide) dX7_text_28 ?_
    refine R_aload_n (pc := 30) 0 rfl rfl dX7_text_30 ?_
    refine R_getP (pc := 31) (q' := 36) lC_0 rfl flX7_40 dX7_text_31 ?_
    refine R_getI (pc := 34) lC_36 rfl flX7_96 dX7_text_34 ?_
    obtain ⟨g, h⟩ := h
    refine R_isub (pc := 37) g dX7_text_37 ?_
    exact R_iret (pc := 38) rfl dX7_text_38 ⟨_, rfl, h⟩
