def LX7_best_31 (x1 : Int) (x2 : Int) (x3 : Int) (x4 : Int) (σ : Mem) (Q : Int → Mem → Prop) : Prop := Rn layC MX7_best 31 [(0, vP 0), (1, vI x1), (2, vI x2), (3, vI x3), (4, vI x4)] [] σ (qI Q)
theorem X7_best_31 {x1 x2 x3 x4 : Int} {σ : Mem} {Q : Int → Mem → Prop} (h : ((4 ≤ x4 → Q x2 σ) ∧ (x4 < 4 → CV layC MX2_part [vP 26, vI x4, vI (σ 1 0)] σ (fun σ1 => CI layC MX2_got [vP 26, vI x1] σ1 (fun r3 σ2 => ((r3 ≤ x3 → I32 (x4 + 1) ∧ LX7_best_31 x1 x2 x3 (x4 + 1) σ2 Q) ∧ (x3 < r3 → CI layC MX2_got [vP 26, vI x1] σ2 (fun r5 σ4 => I32 (x4 + 1) ∧ LX7_best_31 x1 x4 r5 (x4 + 1) σ4 Q)))))))) : LX7_best_31 x1 x2 x3 x4 σ Q := by
  unfold LX7_best_31
  refine R_iload (pc := 31) 4 rfl dX7_best_31 ?_
  refine R_iconst (pc := 33) (by decide) dX7_best_33 ?_
  refine R_icmp_ge (pc := 34) (tgt := 83) (by decide) dX7_best_34 (fun c => ?_) (fun c => ?_)
  · have h := h.1 c
    refine R_iload_n (pc := 83) 2 rfl rfl dX7_best_83 ?_
    exact R_iret (pc := 84) rfl dX7_best_84 ⟨_, rfl, h⟩
  · have h := h.2 c
    refine R_aload_n (pc := 37) 0 rfl rfl dX7_best_37 ?_
    refine R_getP (pc := 38) (q' := 26) lC_0 rfl flX7_30 dX7_best_38 ?_
    refine R_iload (pc := 41) 4 rfl dX7_best_41 ?_
    refine R_aload_n (pc := 43) 0 rfl rfl dX7_best_43 ?_
    refine R_getP (pc := 44) (q' := 1) lC_0 rfl flX7_10 dX7_best_44 ?_
    refine R_getI (pc := 47) lC_1 rfl flX7_112 dX7_best_47 ?_
    refine R_callV0 (pc := 50) (as := [vI x4, vI (σ 1 0)]) (st := []) rfl rfl kX2_part sX2_part lC_26 rfl w_2_225 (ltb rfl) rfl (leb rfl) dX7_best_50 h (fun σ1 h => ?_)
    refine R_aload_n (pc := 53) 0 rfl rfl dX7_best_53 ?_
    refine R_getP (pc := 54) (q' := 26) lC_0 rfl flX7_30 dX7_best_54 ?_
    refine R_iload_n (pc := 57) 1 rfl rfl dX7_best_57 ?_
    refine R_callVI (pc := 58) (as := [vI x1]) (st := []) rfl rfl kX2_got sX2_got lC_26 rfl w_3_40 (ltb rfl) rfl (leb rfl) dX7_best_58 h (fun r3 σ2 h => ?_)
    refine R_iload_n (pc := 61) 3 rfl rfl dX7_best_61 ?_
    refine R_icmp_le (pc := 62) (tgt := 77) (by decide) dX7_best_62 (fun c => ?_) (fun c => ?_)
    · have h := h.1 c
      obtain ⟨g, h⟩ := h
      refine R_iinc (pc := 77) 4 rfl rfl g (ls' := [(4, vI (x4 + 1)), (0, vP 0), (1, vI x1), (2, vI x2), (3, vI x3)]) rfl (ltb rfl) dX7_best_77 ?_
      refine R_goto (pc := 80) (tgt := 31) (by decide) dX7_best_80 ?_
      refine R_sub [1, 2, 3, 4, 0] rfl ?_
      exact h
    · have h := h.2 c
      refine R_aload_n (pc := 65) 0 rfl rfl dX7_best_65 ?_
      refine R_getP (pc := 66) (q' := 26) lC_0 rfl flX7_30 dX7_best_66 ?_
      refine R_iload_n (pc := 69) 1 rfl rfl dX7_best_69 ?_
      refine R_callVI (pc := 70) (as := [vI x1]) (st := []) rfl rfl kX2_got sX2_got lC_26 rfl w_3_40 (ltb rfl) rfl (leb rfl) dX7_best_70 h (fun r5 σ4 h => ?_)
      refine R_istore_n (pc := 73) (ls' := [(3, vI r5), (0, vP 0), (1, vI x1), (2, vI x2), (4, vI x4)]) rfl rfl (ltb rfl) dX7_best_73 ?_
      refine R_iload (pc := 74) 4 rfl dX7_best_74 ?_
      refine R_istore_n (pc := 76) (ls' := [(2, vI x4), (3, vI r5), (0, vP 0), (1, vI x1), (4, vI x4)]) rfl rfl (ltb rfl) dX7_best_76 ?_
      obtain ⟨g, h⟩ := h
      refine R_iinc (pc := 77) 4 rfl rfl g (ls' := [(4, vI (x4 + 1)), (2, vI x4), (3, vI r5), (0, vP 0), (1, vI x1)]) rfl (ltb rfl) dX7_best_77 ?_
      refine R_goto (pc := 80) (tgt := 31) (by decide) dX7_best_80 ?_
      refine R_sub [3, 4, 1, 2, 0] rfl ?_
      exact h
theorem X7_best_E {x1 : Int} {σ : Mem} {Q : Int → Mem → Prop} (h : CI layC MX0_has [vP 1, vI x1] σ (fun r2 σ1 => ((r2 ≠ 0 → CV layC MX2_load [vP 26, vP 1] σ1 (fun σ3 => LX7_best_31 x1 0 (-1) 0 σ3 Q)) ∧ (r2 = 0 → Q (-1) σ1)))) : CI layC MX7_best [vP 0, vI x1] σ Q := by
  refine Cl.ofR (ls := [(0, vP 0), (1, vI x1)]) (show plainName RX7 = true by decide +kernel) (leb rfl) rfl ?_
  refine R_aload_n (pc := 0) 0 rfl rfl dX7_best_0 ?_
  refine R_getP (pc := 1) (q' := 1) lC_0 rfl flX7_10 dX7_best_1 ?_
  refine R_iload_n (pc := 4) 1 rfl rfl dX7_best_4 ?_
  refine R_callVI (pc := 5) (as := [vI x1]) (st := []) rfl rfl kX0_has sX0_has lC_1 rfl w_3_36 (ltb rfl) rfl (leb rfl) dX7_best_5 h (fun r2 σ1 h => ?_)
  refine R_if_ne (pc := 8) (tgt := 13) (by decide) dX7_best_8 (fun c => ?_) (fun c => ?_)
  · have h := h.1 c
    refine R_iconst (pc := 13) (by decide) dX7_best_13 ?_
    refine R_istore_n (pc := 14) (ls' := [(2, vI 0), (0, vP 0), (1, vI x1)]) rfl rfl (ltb rfl) dX7_best_14 ?_
    refine R_iconst (pc := 15) (by decide) dX7_best_15 ?_
    refine R_istore_n (pc := 16) (ls' := [(3, vI (-1)), (2, vI 0), (0, vP 0), (1, vI x1)]) rfl rfl (ltb rfl) dX7_best_16 ?_
    refine R_aload_n (pc := 17) 2 rfl rfl dX7_best_17 ?_
    refine R_getP (pc := 18) (q' := 26) lC_0 rfl flX7_30 dX7_best_18 ?_
    refine R_aload_n (pc := 21) 2 rfl rfl dX7_best_21 ?_
    refine R_getP (pc := 22) (q' := 1) lC_0 rfl flX7_10 dX7_best_22 ?_
    refine R_callV0 (pc := 25) (as := [vP 1]) (st := []) rfl rfl kX2_load sX2_load lC_26 rfl w_2_207 (ltb rfl) rfl (leb rfl) dX7_best_25 h (fun σ3 h => ?_)
    refine R_iconst (pc := 28) (by decide) dX7_best_28 ?_
    refine R_istore (pc := 29) (ls' := [(4, vI 0), (3, vI (-1)), (2, vI 0), (0, vP 0), (1, vI x1)]) rfl (ltb rfl) dX7_best_29 ?_
    refine R_sub [3, 4, 2, 1, 0] rfl ?_
    exact h
  · have h := h.2 c
    refine R_iconst (pc := 11) (by decide) dX7_best_11 ?_
    exact R_iret (pc := 12) rfl dX7_best_12 ⟨_, rfl, h⟩
theorem X7_by_E {x1 x2 : Int} {σ : Mem} {Q : Int → Mem → Prop} (h : CI layC MX7_isKind [vI x1] σ (fun r2 σ1 => ((r2 = 0 → Q (-1) σ1) ∧ (r2 ≠ 0 → CI layC MX0_has [vP 1, vI x2] σ1 (fun r4 σ3 => ((r4 ≠ 0 → CV layC MX2_load [vP 26, vP 1] σ3 (fun σ5 => CV layC MX2_part [vP 26, vI x1, vI (σ5 1 0)] σ5 (fun σ6 => CI layC MX2_got [vP 26, vI x2] σ6 (fun r8 σ7 => Q r8 σ7)))) ∧ (r4 = 0 → Q (-1) σ3))))))) : CI layC MX7_by [vP 0, vI x1, vI x2] σ Q := by
  refine Cl.ofR (ls := [(0, vP 0), (1, vI x1), (2, vI x2)]) (show plainName RX7 = true by decide +kernel) (leb rfl) rfl ?_
  refine R_iload_n (pc := 0) 1 rfl rfl dX7_by_0 ?_
  refine R_callSI (pc := 1) (as := [vI x1]) (st := []) rfl rfl kX7_isKind sX7_isKind w_3_86 (ltb rfl) rfl (leb rfl) dX7_by_1 h (fun r2 σ1 h => ?_)
  refine R_if_eq (pc := 4) (tgt := 18) (by decide) dX7_by_4 (fun c => ?_) (fun c => ?_)
  · have h := h.1 c
    refine R_iconst (pc := 18) (by decide) dX7_by_18 ?_
    exact R_iret (pc := 19) rfl dX7_by_19 ⟨_, rfl, h⟩
  · have h := h.2 c
    refine R_aload_n (pc := 7) 0 rfl rfl dX7_by_7 ?_
    refine R_getP (pc := 8) (q' := 1) lC_0 rfl flX7_10 dX7_by_8 ?_
    refine R_iload_n (pc := 11) 2 rfl rfl dX7_by_11 ?_
    refine R_callVI (pc := 12) (as := [vI x2]) (st := []) rfl rfl kX0_has sX0_has lC_1 rfl w_3_36 (ltb rfl) rfl (leb rfl) dX7_by_12 h (fun r4 σ3 h => ?_)
    refine R_if_ne (pc := 15) (tgt := 20) (by decide) dX7_by_15 (fun c => ?_) (fun c => ?_)
    · have h := h.1 c
      refine R_aload_n (pc := 20) 0 rfl rfl dX7_by_20 ?_
      refine R_getP (pc := 21) (q' := 26) lC_0 rfl flX7_30 dX7_by_21 ?_
      refine R_aload_n (pc := 24) 0 rfl rfl dX7_by_24 ?_
      refine R_getP (pc := 25) (q' := 1) lC_0 rfl flX7_10 dX7_by_25 ?_
      refine R_callV0 (pc := 28) (as := [vP 1]) (st := []) rfl rfl kX2_load sX2_load lC_26 rfl w_2_207 (ltb rfl) rfl (leb rfl) dX7_by_28 h (fun σ5 h => ?_)
      refine R_aload_n (pc := 31) 0 rfl rfl dX7_by_31 ?_
      refine R_getP (pc := 32) (q' := 26) lC_0 rfl flX7_30 dX7_by_32 ?_
      refine R_iload_n (pc := 35) 1 rfl rfl dX7_by_35 ?_
      refine R_aload_n (pc := 36) 0 rfl rfl dX7_by_36 ?_
      refine R_getP (pc := 37) (q' := 1) lC_0 rfl flX7_10 dX7_by_37 ?_
      refine R_getI (pc := 40) lC_1 rfl flX7_112 dX7_by_40 ?_
      refine R_callV0 (pc := 43) (as := [vI x1, vI (σ5 1 0)]) (st := []) rfl rfl kX2_part sX2_part lC_26 rfl w_2_225 (ltb rfl) rfl (leb rfl) dX7_by_43 h (fun σ6 h => ?_)
      refine R_aload_n (pc := 46) 0 rfl rfl dX7_by_46 ?_
      refine R_getP (pc := 47) (q' := 26) lC_0 rfl flX7_30 dX7_by_47 ?_
      refine R_iload_n (pc := 50) 2 rfl rfl dX7_by_50 ?_
      refine R_callVI (pc := 51) (as := [vI x2]) (st := []) rfl rfl kX2_got sX2_got lC_26 rfl w_3_40 (ltb rfl) rfl (leb rfl) dX7_by_51 h (fun r8 σ7 h => ?_)
      exact R_iret (pc := 54) rfl dX7_by_54 ⟨_, rfl, h⟩
    · have h := h.2 c
      refine R_iconst (pc := 18) (by decide) dX7_by_18 ?_
      exact R_iret (pc := 19) rfl dX7_by_19 ⟨_, rfl, h⟩
def LX7_downs_42 (x1 : Int) (x2 : Int) (x3 : Int) (σ : Mem) (Q : Int → Mem → Prop) : Prop := Rn layC MX7_downs 42 [(0, vP 0), (1, vI x1), (2, vI x2), (3, vI x3)] [] σ (qI Q)
theorem X7_downs_42 {x1 x2 x3 : Int} {σ : Mem} {Q : Int → Mem → Prop} (h : ((99 < x3 → CI layC MX1_answer [vP 42, vI x2] σ (fun r2 σ1 => Q r2 σ1)) ∧ (x3 ≤ 99 → 0 ≤ x1 ∧ x1 < 5 ∧ CV layC MX2_load [vP 26, vP 6] (upM σ 8 x1 x3) (fun σ3 => CV layC MX2_part [vP 26, vI (σ3 1 1), vI (σ3 1 0)] σ3 (fun σ4 => CI layC MX2_isAsSeen [vP 26, vP 1] σ4 (fun r6 σ5 => ((r6 = 0 → I32 (x3 + 1) ∧ LX7_downs_42 x1 x2 (x3 + 1) σ5 Q) ∧ (r6 ≠ 0 → CV layC MX1_note [vP 42, vI x3] σ5 (fun σ7 => I32 (x3 + 1) ∧ LX7_downs_42 x1 x2 (x3 + 1) σ7 Q))))))))) : LX7_downs_42 x1 x2 x3 σ Q := by
  unfold LX7_downs_42
  refine R_iload_n (pc := 42) 3 rfl rfl dX7_downs_42 ?_
  refine R_bipush (pc := 43) (by decide) dX7_downs_43 ?_
  refine R_icmp_gt (pc := 45) (tgt := 118) (by decide) dX7_downs_45 (fun c => ?_) (fun c => ?_)
  · have h := h.1 c
    refine R_aload_n (pc := 118) 0 rfl rfl dX7_downs_118 ?_
    refine R_getP (pc := 119) (q' := 42) lC_0 rfl flX7_54 dX7_downs_119 ?_
    refine R_iload_n (pc := 122) 2 rfl rfl dX7_downs_122 ?_
    refine R_callVI (pc := 123) (as := [vI x2]) (st := []) rfl rfl kX1_answer sX1_answer lC_42 rfl w_4_11 (ltb rfl) rfl (leb rfl) dX7_downs_123 h (fun r2 σ1 h => ?_)
    exact R_iret (pc := 126) rfl dX7_downs_126 ⟨_, rfl, h⟩
  · have h := h.2 c
    refine R_aload_n (pc := 48) 0 rfl rfl dX7_downs_48 ?_
    refine R_getP (pc := 49) (q' := 6) lC_0 rfl flX7_16 dX7_downs_49 ?_
    refine R_getP (pc := 52) (q' := 8) lC_6 rfl flX7_149 dX7_downs_52 ?_
    refine R_iload_n (pc := 55) 1 rfl rfl dX7_downs_55 ?_
    refine R_iload_n (pc := 56) 3 rfl rfl dX7_downs_56 ?_
    obtain ⟨g0, g1, h⟩ := h
    refine R_iastore (pc := 57) lC_8 g0 g1 dX7_downs_57 ?_
    refine R_aload_n (pc := 58) 0 rfl rfl dX7_downs_58 ?_
    refine R_getP (pc := 59) (q' := 26) lC_0 rfl flX7_30 dX7_downs_59 ?_
    refine R_aload_n (pc := 62) 0 rfl rfl dX7_downs_62 ?_
    refine R_getP (pc := 63) (q' := 6) lC_0 rfl flX7_16 dX7_downs_63 ?_
    refine R_callV0 (pc := 66) (as := [vP 6]) (st := []) rfl rfl kX2_load sX2_load lC_26 rfl w_2_207 (ltb rfl) rfl (leb rfl) dX7_downs_66 h (fun σ3 h => ?_)
    refine R_aload_n (pc := 69) 0 rfl rfl dX7_downs_69 ?_
    refine R_getP (pc := 70) (q' := 26) lC_0 rfl flX7_30 dX7_downs_70 ?_
    refine R_aload_n (pc := 73) 0 rfl rfl dX7_downs_73 ?_
    refine R_getP (pc := 74) (q' := 1) lC_0 rfl flX7_10 dX7_downs_74 ?_
    refine R_getI (pc := 77) lC_1 rfl flX7_115 dX7_downs_77 ?_
    refine R_aload_n (pc := 80) 0 rfl rfl dX7_downs_80 ?_
    refine R_getP (pc := 81) (q' := 1) lC_0 rfl flX7_10 dX7_downs_81 ?_
    refine R_getI (pc := 84) lC_1 rfl flX7_112 dX7_downs_84 ?_
    refine R_callV0 (pc := 87) (as := [vI (σ3 1 1), vI (σ3 1 0)]) (st := []) rfl rfl kX2_part sX2_part lC_26 rfl w_2_225 (ltb rfl) rfl (leb rfl) dX7_downs_87 h (fun σ4 h => ?_)
    refine R_aload_n (pc := 90) 0 rfl rfl dX7_downs_90 ?_
    refine R_getP (pc := 91) (q' := 26) lC_0 rfl flX7_30 dX7_downs_91 ?_
    refine R_aload_n (pc := 94) 0 rfl rfl dX7_downs_94 ?_
    refine R_getP (pc := 95) (q' := 1) lC_0 rfl flX7_10 dX7_downs_95 ?_
    refine R_callVI (pc := 98) (as := [vP 1]) (st := []) rfl rfl kX2_isAsSeen sX2_isAsSeen lC_26 rfl w_3_231 (ltb rfl) rfl (leb rfl) dX7_downs_98 h (fun r6 σ5 h => ?_)
    refine R_if_eq (pc := 101) (tgt := 112) (by decide) dX7_downs_101 (fun c => ?_) (fun c => ?_)
    · have h := h.1 c
      obtain ⟨g, h⟩ := h
      refine R_iinc (pc := 112) 3 rfl rfl g (ls' := [(3, vI (x3 + 1)), (0, vP 0), (1, vI x1), (2, vI x2)]) rfl (ltb rfl) dX7_downs_112 ?_
      refine R_goto (pc := 115) (tgt := 42) (by decide) dX7_downs_115 ?_
      refine R_sub [1, 2, 3, 0] rfl ?_
      exact h
    · have h := h.2 c
      refine R_aload_n (pc := 104) 0 rfl rfl dX7_downs_104 ?_
      refine R_getP (pc := 105) (q' := 42) lC_0 rfl flX7_54 dX7_downs_105 ?_
      refine R_iload_n (pc := 108) 3 rfl rfl dX7_downs_108 ?_
      refine R_callV0 (pc := 109) (as := [vI x3]) (st := []) rfl rfl kX1_note sX1_note lC_42 rfl w_4_7 (ltb rfl) rfl (leb rfl) dX7_downs_109 h (fun σ7 h => ?_)
      obtain ⟨g, h⟩ := h
      refine R_iinc (pc := 112) 3 rfl rfl g (ls' := [(3, vI (x3 + 1)), (0, vP 0), (1, vI x1), (2, vI x2)]) rfl (ltb rfl) dX7_downs_112 ?_
      refine R_goto (pc := 115) (tgt := 42) (by decide) dX7_downs_115 ?_
      refine R_sub [1, 2, 3, 0] rfl ?_
      exact h
theorem X7_downs_E {x1 x2 : Int} {σ : Mem} {Q : Int → Mem → Prop} (h : CI layC MX0_has [vP 1, vI x1] σ (fun r2 σ1 => ((r2 = 0 → Q (-1) σ1) ∧ (r2 ≠ 0 → CI layC MX7_within [vI x2, vI 0, vI 2] σ1 (fun r4 σ3 => ((r4 ≠ 0 → CV layC MX1_clear [vP 42] σ3 (fun σ5 => CV layC MX0_copy [vP 6, vP 1] σ5 (fun σ6 => LX7_downs_42 x1 x2 1 σ6 Q))) ∧ (r4 = 0 → Q (-1) σ3))))))) : CI layC MX7_downs [vP 0, vI x1, vI x2] σ Q := by
  refine Cl.ofR (ls := [(0, vP 0), (1, vI x1), (2, vI x2)]) (show plainName RX7 = true by decide +kernel) (leb rfl) rfl ?_
  refine R_aload_n (pc := 0) 0 rfl rfl dX7_downs_0 ?_
  refine R_getP (pc := 1) (q' := 1) lC_0 rfl flX7_10 dX7_downs_1 ?_
  refine R_iload_n (pc := 4) 1 rfl rfl dX7_downs_4 ?_
  refine R_callVI (pc := 5) (as := [vI x1]) (st := []) rfl rfl kX0_has sX0_has lC_1 rfl w_3_36 (ltb rfl) rfl (leb rfl) dX7_downs_5 h (fun r2 σ1 h => ?_)
  refine R_if_eq (pc := 8) (tgt := 20) (by decide) dX7_downs_8 (fun c => ?_) (fun c => ?_)
  · have h := h.1 c
    refine R_iconst (pc := 20) (by decide) dX7_downs_20 ?_
    exact R_iret (pc := 21) rfl dX7_downs_21 ⟨_, rfl, h⟩
  · have h := h.2 c
    refine R_iload_n (pc := 11) 2 rfl rfl dX7_downs_11 ?_
    refine R_iconst (pc := 12) (by decide) dX7_downs_12 ?_
    refine R_iconst (pc := 13) (by decide) dX7_downs_13 ?_
    refine R_callSI (pc := 14) (as := [vI x2, vI 0, vI 2]) (st := []) rfl rfl kX7_within sX7_within w_2_47 (ltb rfl) rfl (leb rfl) dX7_downs_14 h (fun r4 σ3 h => ?_)
    refine R_if_ne (pc := 17) (tgt := 22) (by decide) dX7_downs_17 (fun c => ?_) (fun c => ?_)
    · have h := h.1 c
      refine R_aload_n (pc := 22) 0 rfl rfl dX7_downs_22 ?_
      refine R_getP (pc := 23) (q' := 42) lC_0 rfl flX7_54 dX7_downs_23 ?_
      refine R_callV0 (pc := 26) (as := []) (st := []) rfl rfl kX1_clear sX1_clear lC_42 rfl w_4_3 (ltb rfl) rfl (leb rfl) dX7_downs_26 h (fun σ5 h => ?_)
      refine R_aload_n (pc := 29) 0 rfl rfl dX7_downs_29 ?_
      refine R_getP (pc := 30) (q' := 6) lC_0 rfl flX7_16 dX7_downs_30 ?_
      refine R_aload_n (pc := 33) 0 rfl rfl dX7_downs_33 ?_
      refine R_getP (pc := 34) (q' := 1) lC_0 rfl flX7_10 dX7_downs_34 ?_
      refine R_callV0 (pc := 37) (as := [vP 1]) (st := []) rfl rfl kX0_copy sX0_copy lC_6 rfl w_2_195 (ltb rfl) rfl (leb rfl) dX7_downs_37 h (fun σ6 h => ?_)
      refine R_iconst (pc := 40) (by decide) dX7_downs_40 ?_
      refine R_istore_n (pc := 41) (ls' := [(3, vI 1), (0, vP 0), (1, vI x1), (2, vI x2)]) rfl rfl (ltb rfl) dX7_downs_41 ?_
      refine R_sub [1, 2, 3, 0] rfl ?_
      exact h
    · have h := h.2 c
      refine R_iconst (pc := 20) (by decide) dX7_downs_20 ?_
      exact R_iret (pc := 21) rfl dX7_downs_21 ⟨_, rfl, h⟩
def LX7_drift_54 (x2 : Int) (x3 : Int) (x4 : Int) (x5 : Int) (x6 : Int) (σ : Mem) (Q : Int → Mem → Prop) : Prop := Rn layC MX7_drift 54 [(0, vP 0), (2, vI x2), (3, vI x3), (4, vI x4), (5, vI x5), (6, vI x6)] [] σ (qI Q)
theorem X7_drift_54 {x2 x3 x4 x5 x6 : Int} {σ : Mem} {Q : Int → Mem → Prop} (h : ((x2 ≤ x6 → Q x4 σ) ∧ (x6 < x2 → CV layC MX2_part [vP 26, vI (σ 1 1), vI (Int.tmod (bAnd (bUshr (w32 ((w32 (x5 * 1103515245)) + 12345)) 16) 32767) 100)] σ (fun σ1 => ((x3 ≠ 0 → CI layC MX2_firstOff [vP 26] σ1 (fun r3 σ2 => ((r3 < 0 → I32 (x6 + 1) ∧ LX7_drift_54 x2 x3 x4 (w32 ((w32 (x5 * 1103515245)) + 12345)) (x6 + 1) σ2 Q) ∧ (0 ≤ r3 → I32 (x4 + 1) ∧ I32 (x6 + 1) ∧ LX7_drift_54 x2 x3 (x4 + 1) (w32 ((w32 (x5 * 1103515245)) + 12345)) (x6 + 1) σ2 Q)))) ∧ (x3 = 0 → CI layC MX2_got [vP 26, vI 0] σ1 (fun r5 σ4 => I32 (x6 + 1) ∧ LX7_drift_54 x2 x3 (w32 (x4 + r5)) (w32 ((w32 (x5 * 1103515245)) + 12345)) (x6 + 1) σ4 Q))))))) : LX7_drift_54 x2 x3 x4 x5 x6 σ Q := by
  unfold LX7_drift_54
  refine R_iload (pc := 54) 5 rfl dX7_drift_54 ?_
  refine R_iload_n (pc := 56) 1 rfl rfl dX7_drift_56 ?_
  refine R_icmp_ge (pc := 57) (tgt := 137) (by decide) dX7_drift_57 (fun c => ?_) (fun c => ?_)
  · have h := h.1 c
    refine R_iload (pc := 137) 3 rfl dX7_drift_137 ?_
    exact R_iret (pc := 139) rfl dX7_drift_139 ⟨_, rfl, h⟩
  · have h := h.2 c
    refine R_iload (pc := 60) 4 rfl dX7_drift_60 ?_
    refine R_ldcw (pc := 62) (x := 1103515245) w_4_34 (by decide) dX7_drift_62 ?_
    refine R_imulW (pc := 65) dX7_drift_65 ?_
    refine R_sipush (pc := 66) (by decide) dX7_drift_66 ?_
    refine R_iaddW (pc := 69) dX7_drift_69 ?_
    refine R_istore (pc := 70) (ls' := [(5, vI (w32 ((w32 (x5 * 1103515245)) + 12345))), (0, vP 0), (2, vI x2), (3, vI x3), (4, vI x4), (6, vI x6)]) rfl (ltb rfl) dX7_drift_70 ?_
    refine R_aload_n (pc := 72) 1 rfl rfl dX7_drift_72 ?_
    refine R_getP (pc := 73) (q' := 26) lC_0 rfl flX7_30 dX7_drift_73 ?_
    refine R_aload_n (pc := 76) 1 rfl rfl dX7_drift_76 ?_
    refine R_getP (pc := 77) (q' := 1) lC_0 rfl flX7_10 dX7_drift_77 ?_
    refine R_getI (pc := 80) lC_1 rfl flX7_115 dX7_drift_80 ?_
    refine R_iload (pc := 83) 0 rfl dX7_drift_83 ?_
    refine R_bipush (pc := 85) (by decide) dX7_drift_85 ?_
    refine R_iushr (pc := 87) dX7_drift_87 ?_
    refine R_sipush (pc := 88) (by decide) dX7_drift_88 ?_
    refine R_iand (pc := 91) dX7_drift_91 ?_
    refine R_bipush (pc := 92) (by decide) dX7_drift_92 ?_
    have g0 : (100 : Int) ≠ 0 := by decide
    refine R_irem (pc := 94) g0 dX7_drift_94 ?_
    refine R_callV0 (pc := 95) (as := [vI (σ 1 1), vI (Int.tmod (bAnd (bUshr (w32 ((w32 (x5 * 1103515245)) + 12345)) 16) 32767) 100)]) (st := []) rfl rfl kX2_part sX2_part lC_26 rfl w_2_225 (ltb rfl) rfl (leb rfl) dX7_drift_95 h (fun σ1 h => ?_)
    refine R_iload_n (pc := 98) 3 rfl rfl dX7_drift_98 ?_
    refine R_if_ne (pc := 99) (tgt := 118) (by decide) dX7_drift_99 (fun c => ?_) (fun c => ?_)
    · have h := h.1 c
      refine R_aload_n (pc := 118) 1 rfl rfl dX7_drift_118 ?_
      refine R_getP (pc := 119) (q' := 26) lC_0 rfl flX7_30 dX7_drift_119 ?_
      refine R_callVI (pc := 122) (as := []) (st := []) rfl rfl kX2_firstOff sX2_firstOff lC_26 rfl w_3_170 (ltb rfl) rfl (leb rfl) dX7_drift_122 h (fun r3 σ2 h => ?_)
      refine R_if_lt (pc := 125) (tgt := 131) (by decide) dX7_drift_125 (fun c => ?_) (fun c => ?_)
      · have h := h.1 c
        obtain ⟨g, h⟩ := h
        refine R_iinc (pc := 131) 5 rfl rfl g (ls' := [(6, vI (x6 + 1)), (5, vI (w32 ((w32 (x5 * 1103515245)) + 12345))), (0, vP 0), (2, vI x2), (3, vI x3), (4, vI x4)]) rfl (ltb rfl) dX7_drift_131 ?_
        refine R_goto (pc := 134) (tgt := 54) (by decide) dX7_drift_134 ?_
        refine R_sub [2, 3, 4, 5, 1, 0] rfl ?_
        exact h
      · have h := h.2 c
        obtain ⟨g, h⟩ := h
        refine R_iinc (pc := 128) 4 rfl rfl g (ls' := [(4, vI (x4 + 1)), (5, vI (w32 ((w32 (x5 * 1103515245)) + 12345))), (0, vP 0), (2, vI x2), (3, vI x3), (6, vI x6)]) rfl (ltb rfl) dX7_drift_128 ?_
        obtain ⟨g, h⟩ := h
        refine R_iinc (pc := 131) 5 rfl rfl g (ls' := [(6, vI (x6 + 1)), (4, vI (x4 + 1)), (5, vI (w32 ((w32 (x5 * 1103515245)) + 12345))), (0, vP 0), (2, vI x2), (3, vI x3)]) rfl (ltb rfl) dX7_drift_131 ?_
        refine R_goto (pc := 134) (tgt := 54) (by decide) dX7_drift_134 ?_
        refine R_sub [3, 4, 5, 1, 2, 0] rfl ?_
        exact h
    · have h := h.2 c
      refine R_iload (pc := 102) 4 rfl dX7_drift_102 ?_
      refine R_aload_n (pc := 104) 1 rfl rfl dX7_drift_104 ?_
      refine R_getP (pc := 105) (q' := 26) lC_0 rfl flX7_30 dX7_drift_105 ?_
      refine R_iconst (pc := 108) (by decide) dX7_drift_108 ?_
      refine R_callVI (pc := 109) (as := [vI 0]) (st := [vI x4]) rfl rfl kX2_got sX2_got lC_26 rfl w_3_40 (ltb rfl) rfl (leb rfl) dX7_drift_109 h (fun r5 σ4 h => ?_)
      refine R_iaddW (pc := 112) dX7_drift_112 ?_
      refine R_istore (pc := 113) (ls' := [(4, vI (w32 (x4 + r5))), (5, vI (w32 ((w32 (x5 * 1103515245)) + 12345))), (0, vP 0), (2, vI x2), (3, vI x3), (6, vI x6)]) rfl (ltb rfl) dX7_drift_113 ?_
      refine R_goto (pc := 115) (tgt := 131) (by decide) dX7_drift_115 ?_
      obtain ⟨g, h⟩ := h
      refine R_iinc (pc := 131) 5 rfl rfl g (ls' := [(6, vI (x6 + 1)), (4, vI (w32 (x4 + r5))), (5, vI (w32 ((w32 (x5 * 1103515245)) + 12345))), (0, vP 0), (2, vI x2), (3, vI x3)]) rfl (ltb rfl) dX7_drift_131 ?_
      refine R_goto (pc := 134) (tgt := 54) (by decide) dX7_drift_134 ?_
      refine R_sub [3, 4, 5, 1, 2, 0] rfl ?_
      exact h
theorem X7_drift_E {x1 x2 x3 : Int} {σ : Mem} {Q : Int → Mem → Prop} (h : CI layC MX7_within [vI x2, vI 1, vI 60] σ (fun r2 σ1 => ((r2 = 0 → Q (-1) σ1) ∧ (r2 ≠ 0 → CI layC MX7_within [vI x3, vI 0, vI 1] σ1 (fun r4 σ3 => ((r4 ≠ 0 → (((σ3 1 2) ≠ 0 → CV layC MX2_load [vP 26, vP 1] σ3 (fun σ5 => LX7_drift_54 x2 x3 0 x1 0 σ5 Q)) ∧ ((σ3 1 2) = 0 → Q (-2) σ3))) ∧ (r4 = 0 → Q (-1) σ3))))))) : CI layC MX7_drift [vP 0, vI x1, vI x2, vI x3] σ Q := by
  refine Cl.ofR (ls := [(0, vP 0), (1, vI x1), (2, vI x2), (3, vI x3)]) (show plainName RX7 = true by decide +kernel) (leb rfl) rfl ?_
  refine R_iload_n (pc := 0) 2 rfl rfl dX7_drift_0 ?_
  refine R_iconst (pc := 1) (by decide) dX7_drift_1 ?_
  refine R_bipush (pc := 2) (by decide) dX7_drift_2 ?_
  refine R_callSI (pc := 4) (as := [vI x2, vI 1, vI 60]) (st := []) rfl rfl kX7_within sX7_within w_2_47 (ltb rfl) rfl (leb rfl) dX7_drift_4 h (fun r2 σ1 h => ?_)
  refine R_if_eq (pc := 7) (tgt := 19) (by decide) dX7_drift_7 (fun c => ?_) (fun c => ?_)
  · have h := h.1 c
    refine R_iconst (pc := 19) (by decide) dX7_drift_19 ?_
    exact R_iret (pc := 20) rfl dX7_drift_20 ⟨_, rfl, h⟩
  · have h := h.2 c
    refine R_iload_n (pc := 10) 3 rfl rfl dX7_drift_10 ?_
    refine R_iconst (pc := 11) (by decide) dX7_drift_11 ?_
    refine R_iconst (pc := 12) (by decide) dX7_drift_12 ?_
    refine R_callSI (pc := 13) (as := [vI x3, vI 0, vI 1]) (st := []) rfl rfl kX7_within sX7_within w_2_47 (ltb rfl) rfl (leb rfl) dX7_drift_13 h (fun r4 σ3 h => ?_)
    refine R_if_ne (pc := 16) (tgt := 21) (by decide) dX7_drift_16 (fun c => ?_) (fun c => ?_)
    · have h := h.1 c
      refine R_aload_n (pc := 21) 0 rfl rfl dX7_drift_21 ?_
      refine R_getP (pc := 22) (q' := 1) lC_0 rfl flX7_10 dX7_drift_22 ?_
      refine R_getI (pc := 25) lC_1 rfl flX7_109 dX7_drift_25 ?_
      refine R_if_ne (pc := 28) (tgt := 34) (by decide) dX7_drift_28 (fun c => ?_) (fun c => ?_)
      · have h := h.1 c
        refine R_iconst (pc := 34) (by decide) dX7_drift_34 ?_
        refine R_istore (pc := 35) (ls' := [(4, vI 0), (0, vP 0), (1, vI x1), (2, vI x2), (3, vI x3)]) rfl (ltb rfl) dX7_drift_35 ?_
        refine R_iload_n (pc := 37) 2 rfl rfl dX7_drift_37 ?_
        refine R_istore (pc := 38) (ls' := [(5, vI x1), (4, vI 0), (0, vP 0), (1, vI x1), (2, vI x2), (3, vI x3)]) rfl (ltb rfl) dX7_drift_38 ?_
        refine R_aload_n (pc := 40) 2 rfl rfl dX7_drift_40 ?_
        refine R_getP (pc := 41) (q' := 26) lC_0 rfl flX7_30 dX7_drift_41 ?_
        refine R_aload_n (pc := 44) 2 rfl rfl dX7_drift_44 ?_
        refine R_getP (pc := 45) (q' := 1) lC_0 rfl flX7_10 dX7_drift_45 ?_
        refine R_callV0 (pc := 48) (as := [vP 1]) (st := []) rfl rfl kX2_load sX2_load lC_26 rfl w_2_207 (ltb rfl) rfl (leb rfl) dX7_drift_48 h (fun σ5 h => ?_)
        refine R_iconst (pc := 51) (by decide) dX7_drift_51 ?_
        refine R_istore (pc := 52) (ls' := [(6, vI 0), (5, vI x1), (4, vI 0), (0, vP 0), (1, vI x1), (2, vI x2), (3, vI x3)]) rfl (ltb rfl) dX7_drift_52 ?_
        refine R_sub [3, 5, 6, 2, 1, 0] rfl ?_
        exact h
      · have h := h.2 c
        refine R_bipush (pc := 31) (by decide) dX7_drift_31 ?_
        exact R_iret (pc := 33) rfl dX7_drift_33 ⟨_, rfl, h⟩
    · have h := h.2 c
      refine R_iconst (pc := 19) (by decide) dX7_drift_19 ?_
      exact R_iret (pc := 20) rfl dX7_drift_20 ⟨_, rfl, h⟩
theorem X7_getsWithout_E {x1 x2 : Int} {σ : Mem} {Q : Int → Mem → Prop} (h : CV layC MX0_copy [vP 6, vP 1] σ (fun σ1 => CV layC MX0_remove [vP 6, vI x2] σ1 (fun σ2 => CV layC MX2_load [vP 26, vP 6] σ2 (fun σ3 => CV layC MX2_part [vP 26, vI (σ3 1 1), vI (σ3 1 0)] σ3 (fun σ4 => ((x1 ≤ x2 → CI layC MX2_got [vP 26, vI x1] σ4 (fun r6 σ5 => Q r6 σ5)) ∧ (x2 < x1 → I32 (x1 - 1) ∧ CI layC MX2_got [vP 26, vI (x1 - 1)] σ4 (fun r8 σ7 => Q r8 σ7)))))))) : CI layC MX7_getsWithout [vP 0, vI x1, vI x2] σ Q := by
  refine Cl.ofR (ls := [(0, vP 0), (1, vI x1), (2, vI x2)]) (show plainName RX7 = true by decide +kernel) (leb rfl) rfl ?_
  refine R_aload_n (pc := 0) 0 rfl rfl dX7_getsWithout_0 ?_
  refine R_getP (pc := 1) (q' := 6) lC_0 rfl flX7_16 dX7_getsWithout_1 ?_
  refine R_aload_n (pc := 4) 0 rfl rfl dX7_getsWithout_4 ?_
  refine R_getP (pc := 5) (q' := 1) lC_0 rfl flX7_10 dX7_getsWithout_5 ?_
  refine R_callV0 (pc := 8) (as := [vP 1]) (st := []) rfl rfl kX0_copy sX0_copy lC_6 rfl w_2_195 (ltb rfl) rfl (leb rfl) dX7_getsWithout_8 h (fun σ1 h => ?_)
  refine R_aload_n (pc := 11) 0 rfl rfl dX7_getsWithout_11 ?_
  refine R_getP (pc := 12) (q' := 6) lC_0 rfl flX7_16 dX7_getsWithout_12 ?_
  refine R_iload_n (pc := 15) 2 rfl rfl dX7_getsWithout_15 ?_
  refine R_callV0 (pc := 16) (as := [vI x2]) (st := []) rfl rfl kX0_remove sX0_remove lC_6 rfl w_3_96 (ltb rfl) rfl (leb rfl) dX7_getsWithout_16 h (fun σ2 h => ?_)
  refine R_aload_n (pc := 19) 0 rfl rfl dX7_getsWithout_19 ?_
  refine R_getP (pc := 20) (q' := 26) lC_0 rfl flX7_30 dX7_getsWithout_20 ?_
  refine R_aload_n (pc := 23) 0 rfl rfl dX7_getsWithout_23 ?_
  refine R_getP (pc := 24) (q' := 6) lC_0 rfl flX7_16 dX7_getsWithout_24 ?_
  refine R_callV0 (pc := 27) (as := [vP 6]) (st := []) rfl rfl kX2_load sX2_load lC_26 rfl w_2_207 (ltb rfl) rfl (leb rfl) dX7_getsWithout_27 h (fun σ3 h => ?_)
  refine R_aload_n (pc := 30) 0 rfl rfl dX7_getsWithout_30 ?_
  refine R_getP (pc := 31) (q' := 26) lC_0 rfl flX7_30 dX7_getsWithout_31 ?_
  refine R_aload_n (pc := 34) 0 rfl rfl dX7_getsWithout_34 ?_
  refine R_getP (pc := 35) (q' := 1) lC_0 rfl flX7_10 dX7_getsWithout_35 ?_
  refine R_getI (pc := 38) lC_1 rfl flX7_115 dX7_getsWithout_38 ?_
  refine R_aload_n (pc := 41) 0 rfl rfl dX7_getsWithout_41 ?_
  refine R_getP (pc := 42) (q' := 1) lC_0 rfl flX7_10 dX7_getsWithout_42 ?_
  refine R_getI (pc := 45) lC_1 rfl flX7_112 dX7_getsWithout_45 ?_
  refine R_callV0 (pc := 48) (as := [vI (σ3 1 1), vI (σ3 1 0)]) (st := []) rfl rfl kX2_part sX2_part lC_26 rfl w_2_225 (ltb rfl) rfl (leb rfl) dX7_getsWithout_48 h (fun σ4 h => ?_)
  refine R_aload_n (pc := 51) 0 rfl rfl dX7_getsWithout_51 ?_
  refine R_getP (pc := 52) (q' := 26) lC_0 rfl flX7_30 dX7_getsWithout_52 ?_
  refine R_iload_n (pc := 55) 2 rfl rfl dX7_getsWithout_55 ?_
  refine R_iload_n (pc := 56) 1 rfl rfl dX7_getsWithout_56 ?_
  refine R_icmp_ge (pc := 57) (tgt := 66) (by decide) dX7_getsWithout_57 (fun c => ?_) (fun c => ?_)
  · have h := h.1 c
    refine R_iload_n (pc := 66) 1 rfl rfl dX7_getsWithout_66 ?_
    refine R_callVI (pc := 67) (as := [vI x1]) (st := []) rfl rfl kX2_got sX2_got lC_26 rfl w_3_40 (ltb rfl) rfl (leb rfl) dX7_getsWithout_67 h (fun r6 σ5 h => ?_)
    exact R_iret (pc := 70) rfl dX7_getsWithout_70 ⟨_, rfl, h⟩
  · have h := h.2 c
    refine R_iload_n (pc := 60) 1 rfl rfl dX7_getsWithout_60 ?_
    refine R_iconst (pc := 61) (by decide) dX7_getsWithout_61 ?_
    obtain ⟨g, h⟩ := h
    refine R_isub (pc := 62) g dX7_getsWithout_62 ?_
    refine R_goto (pc := 63) (tgt := 67) (by decide) dX7_getsWithout_63 ?_
    refine R_callVI (pc := 67) (as := [vI (x1 - 1)]) (st := []) rfl rfl kX2_got sX2_got lC_26 rfl w_3_40 (ltb rfl) rfl (leb rfl) dX7_getsWithout_67 h (fun r8 σ7 h => ?_)
    exact R_iret (pc := 70) rfl dX7_getsWithout_70 ⟨_, rfl, h⟩
def LX7_judges_15 (x1 : Int) (x2 : Int) (σ : Mem) (Q : Int → Mem → Prop) : Prop := Rn layC MX7_judges 15 [(0, vP 0), (1, vI x1), (2, vI x2)] [] σ (qI Q)
theorem X7_judges_15 {x1 x2 : Int} {σ : Mem} {Q : Int → Mem → Prop} (h : ((4 ≤ x2 → Q x1 σ) ∧ (x2 < 4 → CV layC MX2_part [vP 26, vI x2, vI (σ 1 0)] σ (fun σ1 => CI layC MX2_isAsSeen [vP 26, vP 1] σ1 (fun r3 σ2 => ((r3 = 0 → I32 (x2 + 1) ∧ LX7_judges_15 x1 (x2 + 1) σ2 Q) ∧ (r3 ≠ 0 → I32 (x2 + 1) ∧ LX7_judges_15 (bOr x1 (bShl 1 x2)) (x2 + 1) σ2 Q))))))) : LX7_judges_15 x1 x2 σ Q := by
  unfold LX7_judges_15
  refine R_iload_n (pc := 15) 2 rfl rfl dX7_judges_15 ?_
  refine R_iconst (pc := 16) (by decide) dX7_judges_16 ?_
  refine R_icmp_ge (pc := 17) (tgt := 61) (by decide) dX7_judges_17 (fun c => ?_) (fun c => ?_)
  · have h := h.1 c
    refine R_iload_n (pc := 61) 1 rfl rfl dX7_judges_61 ?_
    exact R_iret (pc := 62) rfl dX7_judges_62 ⟨_, rfl, h⟩
  · have h := h.2 c
    refine R_aload_n (pc := 20) 0 rfl rfl dX7_judges_20 ?_
    refine R_getP (pc := 21) (q' := 26) lC_0 rfl flX7_30 dX7_judges_21 ?_
    refine R_iload_n (pc := 24) 2 rfl rfl dX7_judges_24 ?_
    refine R_aload_n (pc := 25) 0 rfl rfl dX7_judges_25 ?_
    refine R_getP (pc := 26) (q' := 1) lC_0 rfl flX7_10 dX7_judges_26 ?_
    refine R_getI (pc := 29) lC_1 rfl flX7_112 dX7_judges_29 ?_
    refine R_callV0 (pc := 32) (as := [vI x2, vI (σ 1 0)]) (st := []) rfl rfl kX2_part sX2_part lC_26 rfl w_2_225 (ltb rfl) rfl (leb rfl) dX7_judges_32 h (fun σ1 h => ?_)
    refine R_aload_n (pc := 35) 0 rfl rfl dX7_judges_35 ?_
    refine R_getP (pc := 36) (q' := 26) lC_0 rfl flX7_30 dX7_judges_36 ?_
    refine R_aload_n (pc := 39) 0 rfl rfl dX7_judges_39 ?_
    refine R_getP (pc := 40) (q' := 1) lC_0 rfl flX7_10 dX7_judges_40 ?_
    refine R_callVI (pc := 43) (as := [vP 1]) (st := []) rfl rfl kX2_isAsSeen sX2_isAsSeen lC_26 rfl w_3_231 (ltb rfl) rfl (leb rfl) dX7_judges_43 h (fun r3 σ2 h => ?_)
    refine R_if_eq (pc := 46) (tgt := 55) (by decide) dX7_judges_46 (fun c => ?_) (fun c => ?_)
    · have h := h.1 c
      obtain ⟨g, h⟩ := h
      refine R_iinc (pc := 55) 2 rfl rfl g (ls' := [(2, vI (x2 + 1)), (0, vP 0), (1, vI x1)]) rfl (ltb rfl) dX7_judges_55 ?_
      refine R_goto (pc := 58) (tgt := 15) (by decide) dX7_judges_58 ?_
      refine R_sub [1, 2, 0] rfl ?_
      exact h
    · have h := h.2 c
      refine R_iload_n (pc := 49) 1 rfl rfl dX7_judges_49 ?_
      refine R_iconst (pc := 50) (by decide) dX7_judges_50 ?_
      refine R_iload_n (pc := 51) 2 rfl rfl dX7_judges_51 ?_
      refine R_ishl (pc := 52) dX7_judges_52 ?_
      refine R_ior (pc := 53) dX7_judges_53 ?_
      refine R_istore_n (pc := 54) (ls' := [(1, vI (bOr x1 (bShl 1 x2))), (0, vP 0), (2, vI x2)]) rfl rfl (ltb rfl) dX7_judges_54 ?_
      obtain ⟨g, h⟩ := h
      refine R_iinc (pc := 55) 2 rfl rfl g (ls' := [(2, vI (x2 + 1)), (1, vI (bOr x1 (bShl 1 x2))), (0, vP 0)]) rfl (ltb rfl) dX7_judges_55 ?_
      refine R_goto (pc := 58) (tgt := 15) (by decide) dX7_judges_58 ?_
      refine R_sub [2, 1, 0] rfl ?_
      exact h
theorem X7_judges_E {σ : Mem} {Q : Int → Mem → Prop} (h : CV layC MX2_load [vP 26, vP 1] σ (fun σ1 => LX7_judges_15 0 0 σ1 Q)) : CI layC MX7_judges [vP 0] σ Q := by
  refine Cl.ofR (ls := [(0, vP 0)]) (show plainName RX7 = true by decide +kernel) (leb rfl) rfl ?_
  refine R_iconst (pc := 0) (by decide) dX7_judges_0 ?_
  refine R_istore_n (pc := 1) (ls' := [(1, vI 0), (0, vP 0)]) rfl rfl (ltb rfl) dX7_judges_1 ?_
  refine R_aload_n (pc := 2) 1 rfl rfl dX7_judges_2 ?_
  refine R_getP (pc := 3) (q' := 26) lC_0 rfl flX7_30 dX7_judges_3 ?_
  refine R_aload_n (pc := 6) 1 rfl rfl dX7_judges_6 ?_
  refine R_getP (pc := 7) (q' := 1) lC_0 rfl flX7_10 dX7_judges_7 ?_
  refine R_callV0 (pc := 10) (as := [vP 1]) (st := []) rfl rfl kX2_load sX2_load lC_26 rfl w_2_207 (ltb rfl) rfl (leb rfl) dX7_judges_10 h (fun σ1 h => ?_)
  refine R_iconst (pc := 13) (by decide) dX7_judges_13 ?_
  refine R_istore_n (pc := 14) (ls' := [(2, vI 0), (1, vI 0), (0, vP 0)]) rfl rfl (ltb rfl) dX7_judges_14 ?_
  refine R_sub [2, 1, 0] rfl ?_
  exact h
theorem X7_partOf_E {x1 : Int} {σ : Mem} {Q : Nat → Mem → Prop} (h : CV layC MX2_load [vP 26, vP 1] σ (fun σ1 => CV layC MX2_part [vP 26, vI (σ1 1 1), vI x1] σ1 (fun σ2 => Q 26 σ2))) : CP layC MX7_partOf [vP 0, vI x1] σ Q := by
  refine Cl.ofR (ls := [(0, vP 0), (1, vI x1)]) (show plainName RX7 = true by decide +kernel) (leb rfl) rfl ?_
  refine R_aload_n (pc := 0) 0 rfl rfl dX7_partOf_0 ?_
  refine R_getP (pc := 1) (q' := 26) lC_0 rfl flX7_30 dX7_partOf_1 ?_
  refine R_aload_n (pc := 4) 0 rfl rfl dX7_partOf_4 ?_
  refine R_getP (pc := 5) (q' := 1) lC_0 rfl flX7_10 dX7_partOf_5 ?_
  refine R_callV0 (pc := 8) (as := [vP 1]) (st := []) rfl rfl kX2_load sX2_load lC_26 rfl w_2_207 (ltb rfl) rfl (leb rfl) dX7_partOf_8 h (fun σ1 h => ?_)
  refine R_aload_n (pc := 11) 0 rfl rfl dX7_partOf_11 ?_
  refine R_getP (pc := 12) (q' := 26) lC_0 rfl flX7_30 dX7_partOf_12 ?_
  refine R_aload_n (pc := 15) 0 rfl rfl dX7_partOf_15 ?_
  refine R_getP (pc := 16) (q' := 1) lC_0 rfl flX7_10 dX7_partOf_16 ?_
  refine R_getI (pc := 19) lC_1 rfl flX7_115 dX7_partOf_19 ?_
  refine R_iload_n (pc := 22) 1 rfl rfl dX7_partOf_22 ?_
  refine R_callV0 (pc := 23) (as := [vI (σ1 1 1), vI x1]) (st := []) rfl rfl kX2_part sX2_part lC_26 rfl w_2_225 (ltb rfl) rfl (leb rfl) dX7_partOf_23 h (fun σ2 h => ?_)
  refine R_aload_n (pc := 26) 0 rfl rfl dX7_partOf_26 ?_
  refine R_getP (pc := 27) (q' := 26) lC_0 rfl flX7_30 dX7_partOf_27 ?_
  exact R_aret (pc := 30) rfl dX7_partOf_30 ⟨_, rfl, h⟩
def LX7_findHerds_15 (x1 : Int) (σ : Mem) (Q : Mem → Prop) : Prop := Rn layC MX7_findHerds 15 [(0, vP 0), (1, vI x1)] [] σ (qV Q)
theorem X7_findHerds_15 {x1 : Int} {σ : Mem} {Q : Mem → Prop} (h : ((200 < x1 → Q σ) ∧ (x1 ≤ 200 → CI layC MX2_isAsSeen [vP 26, vP 1] σ (fun r2 σ1 => ((r2 = 0 → CV layC MX2_grow [vP 26] σ1 (fun σ3 => I32 (x1 + 1) ∧ LX7_findHerds_15 (x1 + 1) σ3 Q)) ∧ (r2 ≠ 0 → CV layC MX1_note [vP 42, vI x1] σ1 (fun σ4 => CV layC MX2_grow [vP 26] σ4 (fun σ5 => I32 (x1 + 1) ∧ LX7_findHerds_15 (x1 + 1) σ5 Q)))))))) : LX7_findHerds_15 x1 σ Q := by
  unfold LX7_findHerds_15
  refine R_iload_n (pc := 15) 1 rfl rfl dX7_findHerds_15 ?_
  refine R_sipush (pc := 16) (by decide) dX7_findHerds_16 ?_
  refine R_icmp_gt (pc := 19) (tgt := 57) (by decide) dX7_findHerds_19 (fun c => ?_) (fun c => ?_)
  · have h := h.1 c
    exact R_vret (pc := 57) rfl dX7_findHerds_57 ⟨rfl, h⟩
  · have h := h.2 c
    refine R_aload_n (pc := 22) 0 rfl rfl dX7_findHerds_22 ?_
    refine R_getP (pc := 23) (q' := 26) lC_0 rfl flX7_30 dX7_findHerds_23 ?_
    refine R_aload_n (pc := 26) 0 rfl rfl dX7_findHerds_26 ?_
    refine R_getP (pc := 27) (q' := 1) lC_0 rfl flX7_10 dX7_findHerds_27 ?_
    refine R_callVI (pc := 30) (as := [vP 1]) (st := []) rfl rfl kX2_isAsSeen sX2_isAsSeen lC_26 rfl w_3_231 (ltb rfl) rfl (leb rfl) dX7_findHerds_30 h (fun r2 σ1 h => ?_)
    refine R_if_eq (pc := 33) (tgt := 44) (by decide) dX7_findHerds_33 (fun c => ?_) (fun c => ?_)
    · have h := h.1 c
      refine R_aload_n (pc := 44) 0 rfl rfl dX7_findHerds_44 ?_
      refine R_getP (pc := 45) (q' := 26) lC_0 rfl flX7_30 dX7_findHerds_45 ?_
      refine R_callV0 (pc := 48) (as := []) (st := []) rfl rfl kX2_grow sX2_grow lC_26 rfl w_3_157 (ltb rfl) rfl (leb rfl) dX7_findHerds_48 h (fun σ3 h => ?_)
      obtain ⟨g, h⟩ := h
      refine R_iinc (pc := 51) 1 rfl rfl g (ls' := [(1, vI (x1 + 1)), (0, vP 0)]) rfl (ltb rfl) dX7_findHerds_51 ?_
      refine R_goto (pc := 54) (tgt := 15) (by decide) dX7_findHerds_54 ?_
      refine R_sub [1, 0] rfl ?_
      exact h
    · have h := h.2 c
      refine R_aload_n (pc := 36) 0 rfl rfl dX7_findHerds_36 ?_
      refine R_getP (pc := 37) (q' := 42) lC_0 rfl flX7_54 dX7_findHerds_37 ?_
      refine R_iload_n (pc := 40) 1 rfl rfl dX7_findHerds_40 ?_
      refine R_callV0 (pc := 41) (as := [vI x1]) (st := []) rfl rfl kX1_note sX1_note lC_42 rfl w_4_7 (ltb rfl) rfl (leb rfl) dX7_findHerds_41 h (fun σ4 h => ?_)
      refine R_aload_n (pc := 44) 0 rfl rfl dX7_findHerds_44 ?_
      refine R_getP (pc := 45) (q' := 26) lC_0 rfl flX7_30 dX7_findHerds_45 ?_
      refine R_callV0 (pc := 48) (as := []) (st := []) rfl rfl kX2_grow sX2_grow lC_26 rfl w_3_157 (ltb rfl) rfl (leb rfl) dX7_findHerds_48 h (fun σ5 h => ?_)
      obtain ⟨g, h⟩ := h
      refine R_iinc (pc := 51) 1 rfl rfl g (ls' := [(1, vI (x1 + 1)), (0, vP 0)]) rfl (ltb rfl) dX7_findHerds_51 ?_
      refine R_goto (pc := 54) (tgt := 15) (by decide) dX7_findHerds_54 ?_
      refine R_sub [1, 0] rfl ?_
      exact h
theorem X7_findHerds_E {σ : Mem} {Q : Mem → Prop} (h : CV layC MX1_clear [vP 42] σ (fun σ1 => CP layC MX7_partOf [vP 0, vI 0] σ1 (fun r3 σ2 => r3 = 26 ∧ LX7_findHerds_15 0 σ2 Q))) : CV layC MX7_findHerds [vP 0] σ Q := by
  refine Cl.ofR (ls := [(0, vP 0)]) (show plainName RX7 = true by decide +kernel) (leb rfl) rfl ?_
  refine R_aload_n (pc := 0) 0 rfl rfl dX7_findHerds_0 ?_
  refine R_getP (pc := 1) (q' := 42) lC_0 rfl flX7_54 dX7_findHerds_1 ?_
  refine R_callV0 (pc := 4) (as := []) (st := []) rfl rfl kX1_clear sX1_clear lC_42 rfl w_4_3 (ltb rfl) rfl (leb rfl) dX7_findHerds_4 h (fun σ1 h => ?_)
  refine R_aload_n (pc := 7) 0 rfl rfl dX7_findHerds_7 ?_
  refine R_iconst (pc := 8) (by decide) dX7_findHerds_8 ?_
  refine R_callVP (pc := 9) (as := [vI 0]) (st := []) rfl rfl kX7_partOf sX7_partOf lC_0 rfl w_2_221 (ltb rfl) rfl (leb rfl) dX7_findHerds_9 h (fun r3 σ2 h => ?_)
  obtain ⟨rfl, h⟩ := h
  refine R_pop (pc := 12) rfl dX7_findHerds_12 ?_
  refine R_iconst (pc := 13) (by decide) dX7_findHerds_13 ?_
  refine R_istore_n (pc := 14) (ls' := [(1, vI 0), (0, vP 0)]) rfl rfl (ltb rfl) dX7_findHerds_14 ?_
  refine R_sub [1, 0] rfl ?_
  exact h
def LX7_keeps_30 (x1 : Int) (x2 : Int) (x3 : Int) (σ : Mem) (Q : Int → Mem → Prop) : Prop := Rn layC MX7_keeps 30 [(0, vP 0), (1, vI x1), (2, vI x2), (3, vI x3)] [] σ (qI Q)
theorem X7_keeps_30 {x1 x2 x3 : Int} {σ : Mem} {Q : Int → Mem → Prop} (h : ((x1 < x3 → Q (-4) σ) ∧ (x3 ≤ x1 → CI layC MX2_firstOff [vP 26] σ (fun r2 σ1 => ((r2 < 0 → CV layC MX2_grow [vP 26] σ1 (fun σ3 => I32 (x3 + 1) ∧ LX7_keeps_30 x1 x2 (x3 + 1) σ3 Q)) ∧ (0 ≤ r2 → ((x2 ≠ 0 → Q r2 σ1) ∧ (x2 = 0 → Q x3 σ1)))))))) : LX7_keeps_30 x1 x2 x3 σ Q := by
  unfold LX7_keeps_30
  refine R_iload_n (pc := 30) 3 rfl rfl dX7_keeps_30 ?_
  refine R_iload_n (pc := 31) 1 rfl rfl dX7_keeps_31 ?_
  refine R_icmp_gt (pc := 32) (tgt := 73) (by decide) dX7_keeps_32 (fun c => ?_) (fun c => ?_)
  · have h := h.1 c
    refine R_bipush (pc := 73) (by decide) dX7_keeps_73 ?_
    exact R_iret (pc := 75) rfl dX7_keeps_75 ⟨_, rfl, h⟩
  · have h := h.2 c
    refine R_aload_n (pc := 35) 0 rfl rfl dX7_keeps_35 ?_
    refine R_getP (pc := 36) (q' := 26) lC_0 rfl flX7_30 dX7_keeps_36 ?_
    refine R_callVI (pc := 39) (as := []) (st := []) rfl rfl kX2_firstOff sX2_firstOff lC_26 rfl w_3_170 (ltb rfl) rfl (leb rfl) dX7_keeps_39 h (fun r2 σ1 h => ?_)
    refine R_istore (pc := 42) (ls' := [(4, vI r2), (0, vP 0), (1, vI x1), (2, vI x2), (3, vI x3)]) rfl (ltb rfl) dX7_keeps_42 ?_
    refine R_iload (pc := 44) 0 rfl dX7_keeps_44 ?_
    refine R_if_lt (pc := 46) (tgt := 60) (by decide) dX7_keeps_46 (fun c => ?_) (fun c => ?_)
    · have h := h.1 c
      refine R_aload_n (pc := 60) 1 rfl rfl dX7_keeps_60 ?_
      refine R_getP (pc := 61) (q' := 26) lC_0 rfl flX7_30 dX7_keeps_61 ?_
      refine R_callV0 (pc := 64) (as := []) (st := []) rfl rfl kX2_grow sX2_grow lC_26 rfl w_3_157 (ltb rfl) rfl (leb rfl) dX7_keeps_64 h (fun σ3 h => ?_)
      obtain ⟨g, h⟩ := h
      refine R_iinc (pc := 67) 4 rfl rfl g (ls' := [(3, vI (x3 + 1)), (4, vI r2), (0, vP 0), (1, vI x1), (2, vI x2)]) rfl (ltb rfl) dX7_keeps_67 ?_
      refine R_goto (pc := 70) (tgt := 30) (by decide) dX7_keeps_70 ?_
      refine R_sub [2, 3, 4, 0] rfl ?_
      exact h
    · have h := h.2 c
      refine R_iload_n (pc := 49) 3 rfl rfl dX7_keeps_49 ?_
      refine R_if_ne (pc := 50) (tgt := 57) (by decide) dX7_keeps_50 (fun c => ?_) (fun c => ?_)
      · have h := h.1 c
        refine R_iload (pc := 57) 0 rfl dX7_keeps_57 ?_
        exact R_iret (pc := 59) rfl dX7_keeps_59 ⟨_, rfl, h⟩
      · have h := h.2 c
        refine R_iload_n (pc := 53) 4 rfl rfl dX7_keeps_53 ?_
        refine R_goto (pc := 54) (tgt := 59) (by decide) dX7_keeps_54 ?_
        exact R_iret (pc := 59) rfl dX7_keeps_59 ⟨_, rfl, h⟩
theorem X7_keeps_E {x1 x2 : Int} {σ : Mem} {Q : Int → Mem → Prop} (h : CI layC MX7_within [vI x1, vI 0, vI 200] σ (fun r2 σ1 => ((r2 = 0 → Q (-1) σ1) ∧ (r2 ≠ 0 → CI layC MX7_within [vI x2, vI 0, vI 1] σ1 (fun r4 σ3 => ((r4 ≠ 0 → CP layC MX7_partOf [vP 0, vI 0] σ3 (fun r6 σ5 => r6 = 26 ∧ LX7_keeps_30 x1 x2 0 σ5 Q)) ∧ (r4 = 0 → Q (-1) σ3))))))) : CI layC MX7_keeps [vP 0, vI x1, vI x2] σ Q := by
  refine Cl.ofR (ls := [(0, vP 0), (1, vI x1), (2, vI x2)]) (show plainName RX7 = true by decide +kernel) (leb rfl) rfl ?_
  refine R_iload_n (pc := 0) 1 rfl rfl dX7_keeps_0 ?_
  refine R_iconst (pc := 1) (by decide) dX7_keeps_1 ?_
  refine R_sipush (pc := 2) (by decide) dX7_keeps_2 ?_
  refine R_callSI (pc := 5) (as := [vI x1, vI 0, vI 200]) (st := []) rfl rfl kX7_within sX7_within w_2_47 (ltb rfl) rfl (leb rfl) dX7_keeps_5 h (fun r2 σ1 h => ?_)
  refine R_if_eq (pc := 8) (tgt := 20) (by decide) dX7_keeps_8 (fun c => ?_) (fun c => ?_)
  · have h := h.1 c
    refine R_iconst (pc := 20) (by decide) dX7_keeps_20 ?_
    exact R_iret (pc := 21) rfl dX7_keeps_21 ⟨_, rfl, h⟩
  · have h := h.2 c
    refine R_iload_n (pc := 11) 2 rfl rfl dX7_keeps_11 ?_
    refine R_iconst (pc := 12) (by decide) dX7_keeps_12 ?_
    refine R_iconst (pc := 13) (by decide) dX7_keeps_13 ?_
    refine R_callSI (pc := 14) (as := [vI x2, vI 0, vI 1]) (st := []) rfl rfl kX7_within sX7_within w_2_47 (ltb rfl) rfl (leb rfl) dX7_keeps_14 h (fun r4 σ3 h => ?_)
    refine R_if_ne (pc := 17) (tgt := 22) (by decide) dX7_keeps_17 (fun c => ?_) (fun c => ?_)
    · have h := h.1 c
      refine R_aload_n (pc := 22) 0 rfl rfl dX7_keeps_22 ?_
      refine R_iconst (pc := 23) (by decide) dX7_keeps_23 ?_
      refine R_callVP (pc := 24) (as := [vI 0]) (st := []) rfl rfl kX7_partOf sX7_partOf lC_0 rfl w_2_221 (ltb rfl) rfl (leb rfl) dX7_keeps_24 h (fun r6 σ5 h => ?_)
      obtain ⟨rfl, h⟩ := h
      refine R_pop (pc := 27) rfl dX7_keeps_27 ?_
      refine R_iconst (pc := 28) (by decide) dX7_keeps_28 ?_
      refine R_istore_n (pc := 29) (ls' := [(3, vI 0), (0, vP 0), (1, vI x1), (2, vI x2)]) rfl rfl (ltb rfl) dX7_keeps_29 ?_
      refine R_sub [1, 2, 3, 0] rfl ?_
      exact h
    · have h := h.2 c
      refine R_iconst (pc := 20) (by decide) dX7_keeps_20 ?_
      exact R_iret (pc := 21) rfl dX7_keeps_21 ⟨_, rfl, h⟩
def LX7_leftAtWorst_2 (x1 : Int) (x2 : Int) (σ : Mem) (Q : Int → Mem → Prop) : Prop := Rn layC MX7_leftAtWorst 2 [(0, vP 0), (1, vI x1), (2, vI x2)] [] σ (qI Q)
def LX7_leftAtWorst_32 (x1 : Int) (x2 : Int) (x3 : Int) (σ : Mem) (Q : Int → Mem → Prop) : Prop := Rn layC MX7_leftAtWorst 32 [(0, vP 0), (1, vI x1), (2, vI x2), (3, vI x3)] [] σ (qI Q)
theorem X7_leftAtWorst_2 {x1 x2 : Int} {σ : Mem} {Q : Int → Mem → Prop} (h : ((200 < x2 → CP layC MX7_partOf [vP 0, vI 0] σ (fun r2 σ1 => r2 = 26 ∧ LX7_leftAtWorst_32 x1 0 0 σ1 Q)) ∧ (x2 ≤ 200 → 0 ≤ x2 ∧ x2 < 201 ∧ I32 (x2 + 1) ∧ LX7_leftAtWorst_2 x1 (x2 + 1) (upM σ 45 x2 0) Q))) : LX7_leftAtWorst_2 x1 x2 σ Q := by
  unfold LX7_leftAtWorst_2
  refine R_iload_n (pc := 2) 2 rfl rfl dX7_leftAtWorst_2 ?_
  refine R_sipush (pc := 3) (by decide) dX7_leftAtWorst_3 ?_
  refine R_icmp_gt (pc := 6) (tgt := 22) (by decide) dX7_leftAtWorst_6 (fun c => ?_) (fun c => ?_)
  · have h := h.1 c
    refine R_iconst (pc := 22) (by decide) dX7_leftAtWorst_22 ?_
    refine R_istore_n (pc := 23) (ls' := [(2, vI 0), (0, vP 0), (1, vI x1)]) rfl rfl (ltb rfl) dX7_leftAtWorst_23 ?_
    refine R_aload_n (pc := 24) 1 rfl rfl dX7_leftAtWorst_24 ?_
    refine R_iconst (pc := 25) (by decide) dX7_leftAtWorst_25 ?_
    refine R_callVP (pc := 26) (as := [vI 0]) (st := []) rfl rfl kX7_partOf sX7_partOf lC_0 rfl w_2_221 (ltb rfl) rfl (leb rfl) dX7_leftAtWorst_26 h (fun r2 σ1 h => ?_)
    obtain ⟨rfl, h⟩ := h
    refine R_pop (pc := 29) rfl dX7_leftAtWorst_29 ?_
    refine R_iconst (pc := 30) (by decide) dX7_leftAtWorst_30 ?_
    refine R_istore_n (pc := 31) (ls' := [(3, vI 0), (2, vI 0), (0, vP 0), (1, vI x1)]) rfl rfl (ltb rfl) dX7_leftAtWorst_31 ?_
    refine R_sub [2, 3, 1, 0] rfl ?_
    exact h
  · have h := h.2 c
    refine R_aload_n (pc := 9) 0 rfl rfl dX7_leftAtWorst_9 ?_
    refine R_getP (pc := 10) (q' := 45) lC_0 rfl flX7_58 dX7_leftAtWorst_10 ?_
    refine R_iload_n (pc := 13) 2 rfl rfl dX7_leftAtWorst_13 ?_
    refine R_iconst (pc := 14) (by decide) dX7_leftAtWorst_14 ?_
    obtain ⟨g0, g1, h⟩ := h
    refine R_iastore (pc := 15) lC_45 g0 g1 dX7_leftAtWorst_15 ?_
    obtain ⟨g, h⟩ := h
    refine R_iinc (pc := 16) 2 rfl rfl g (ls' := [(2, vI (x2 + 1)), (0, vP 0), (1, vI x1)]) rfl (ltb rfl) dX7_leftAtWorst_16 ?_
    refine R_goto (pc := 19) (tgt := 2) (by decide) dX7_leftAtWorst_19 ?_
    refine R_sub [1, 2, 0] rfl ?_
    exact h
theorem X7_leftAtWorst_32 {x1 x2 x3 : Int} {σ : Mem} {Q : Int → Mem → Prop} (h : ((200 < x3 → Q x2 σ) ∧ (x3 ≤ 200 → CI layC MX2_got [vP 26, vI x1] σ (fun r2 σ1 => CI layC MX7_within [vI r2, vI 0, vI 200] σ1 (fun r4 σ3 => ((r4 = 0 → CV layC MX2_grow [vP 26] σ3 (fun σ5 => I32 (x3 + 1) ∧ LX7_leftAtWorst_32 x1 x2 (x3 + 1) σ5 Q)) ∧ (r4 ≠ 0 → CI layC MX2_isAsSeen [vP 26, vP 1] σ3 (fun r7 σ6 => ((r7 = 0 → CV layC MX2_grow [vP 26] σ6 (fun σ8 => I32 (x3 + 1) ∧ LX7_leftAtWorst_32 x1 x2 (x3 + 1) σ8 Q)) ∧ (r7 ≠ 0 → 0 ≤ r2 ∧ r2 < 201 ∧ I32 ((σ6 45 r2) + 1) ∧ 0 ≤ r2 ∧ r2 < 201 ∧ 0 ≤ r2 ∧ r2 < 201 ∧ CV layC MX2_grow [vP 26] (upM σ6 45 r2 ((σ6 45 r2) + 1)) (fun σ9 => I32 (x3 + 1) ∧ LX7_leftAtWorst_32 x1 (max x2 ((upM σ6 45 r2 ((σ6 45 r2) + 1)) 45 r2)) (x3 + 1) σ9 Q))))))))))) : LX7_leftAtWorst_32 x1 x2 x3 σ Q := by
  unfold LX7_leftAtWorst_32
  refine R_iload_n (pc := 32) 3 rfl rfl dX7_leftAtWorst_32 ?_
  refine R_sipush (pc := 33) (by decide) dX7_leftAtWorst_33 ?_
  refine R_icmp_gt (pc := 36) (tgt := 111) (by decide) dX7_leftAtWorst_36 (fun c => ?_) (fun c => ?_)
  · have h := h.1 c
    refine R_iload_n (pc := 111) 2 rfl rfl dX7_leftAtWorst_111 ?_
    exact R_iret (pc := 112) rfl dX7_leftAtWorst_112 ⟨_, rfl, h⟩
  · have h := h.2 c
    refine R_aload_n (pc := 39) 0 rfl rfl dX7_leftAtWorst_39 ?_
    refine R_getP (pc := 40) (q' := 26) lC_0 rfl flX7_30 dX7_leftAtWorst_40 ?_
    refine R_iload_n (pc := 43) 1 rfl rfl dX7_leftAtWorst_43 ?_
    refine R_callVI (pc := 44) (as := [vI x1]) (st := []) rfl rfl kX2_got sX2_got lC_26 rfl w_3_40 (ltb rfl) rfl (leb rfl) dX7_leftAtWorst_44 h (fun r2 σ1 h => ?_)
    refine R_istore (pc := 47) (ls' := [(4, vI r2), (0, vP 0), (1, vI x1), (2, vI x2), (3, vI x3)]) rfl (ltb rfl) dX7_leftAtWorst_47 ?_
    refine R_iload (pc := 49) 0 rfl dX7_leftAtWorst_49 ?_
    refine R_iconst (pc := 51) (by decide) dX7_leftAtWorst_51 ?_
    refine R_sipush (pc := 52) (by decide) dX7_leftAtWorst_52 ?_
    refine R_callSI (pc := 55) (as := [vI r2, vI 0, vI 200]) (st := []) rfl rfl kX7_within sX7_within w_2_47 (ltb rfl) rfl (leb rfl) dX7_leftAtWorst_55 h (fun r4 σ3 h => ?_)
    refine R_if_eq (pc := 58) (tgt := 98) (by decide) dX7_leftAtWorst_58 (fun c => ?_) (fun c => ?_)
    · have h := h.1 c
      refine R_aload_n (pc := 98) 1 rfl rfl dX7_leftAtWorst_98 ?_
      refine R_getP (pc := 99) (q' := 26) lC_0 rfl flX7_30 dX7_leftAtWorst_99 ?_
      refine R_callV0 (pc := 102) (as := []) (st := []) rfl rfl kX2_grow sX2_grow lC_26 rfl w_3_157 (ltb rfl) rfl (leb rfl) dX7_leftAtWorst_102 h (fun σ5 h => ?_)
      obtain ⟨g, h⟩ := h
      refine R_iinc (pc := 105) 4 rfl rfl g (ls' := [(3, vI (x3 + 1)), (4, vI r2), (0, vP 0), (1, vI x1), (2, vI x2)]) rfl (ltb rfl) dX7_leftAtWorst_105 ?_
      refine R_goto (pc := 108) (tgt := 32) (by decide) dX7_leftAtWorst_108 ?_
      refine R_sub [2, 3, 4, 0] rfl ?_
      exact h
    · have h := h.2 c
      refine R_aload_n (pc := 61) 1 rfl rfl dX7_leftAtWorst_61 ?_
      refine R_getP (pc := 62) (q' := 26) lC_0 rfl flX7_30 dX7_leftAtWorst_62 ?_
      refine R_aload_n (pc := 65) 1 rfl rfl dX7_leftAtWorst_65 ?_
      refine R_getP (pc := 66) (q' := 1) lC_0 rfl flX7_10 dX7_leftAtWorst_66 ?_
      refine R_callVI (pc := 69) (as := [vP 1]) (st := []) rfl rfl kX2_isAsSeen sX2_isAsSeen lC_26 rfl w_3_231 (ltb rfl) rfl (leb rfl) dX7_leftAtWorst_69 h (fun r7 σ6 h => ?_)
      refine R_if_eq (pc := 72) (tgt := 98) (by decide) dX7_leftAtWorst_72 (fun c => ?_) (fun c => ?_)
      · have h := h.1 c
        refine R_aload_n (pc := 98) 1 rfl rfl dX7_leftAtWorst_98 ?_
        refine R_getP (pc := 99) (q' := 26) lC_0 rfl flX7_30 dX7_leftAtWorst_99 ?_
        refine R_callV0 (pc := 102) (as := []) (st := []) rfl rfl kX2_grow sX2_grow lC_26 rfl w_3_157 (ltb rfl) rfl (leb rfl) dX7_leftAtWorst_102 h (fun σ8 h => ?_)
        obtain ⟨g, h⟩ := h
        refine R_iinc (pc := 105) 4 rfl rfl g (ls' := [(3, vI (x3 + 1)), (4, vI r2), (0, vP 0), (1, vI x1), (2, vI x2)]) rfl (ltb rfl) dX7_leftAtWorst_105 ?_
        refine R_goto (pc := 108) (tgt := 32) (by decide) dX7_leftAtWorst_108 ?_
        refine R_sub [2, 3, 4, 0] rfl ?_
        exact h
      · have h := h.2 c
        refine R_aload_n (pc := 75) 1 rfl rfl dX7_leftAtWorst_75 ?_
        refine R_getP (pc := 76) (q' := 45) lC_0 rfl flX7_58 dX7_leftAtWorst_76 ?_
        refine R_iload (pc := 79) 0 rfl dX7_leftAtWorst_79 ?_
        refine R_dup2 (pc := 81) rfl rfl dX7_leftAtWorst_81 ?_
        obtain ⟨g0, g1, h⟩ := h
        refine R_iaload (pc := 82) lC_45 g0 g1 dX7_leftAtWorst_82 ?_
        refine R_iconst (pc := 83) (by decide) dX7_leftAtWorst_83 ?_
        obtain ⟨g, h⟩ := h
        refine R_iadd (pc := 84) g dX7_leftAtWorst_84 ?_
        obtain ⟨g0, g1, h⟩ := h
        refine R_iastore (pc := 85) lC_45 g0 g1 dX7_leftAtWorst_85 ?_
        refine R_iload_n (pc := 86) 3 rfl rfl dX7_leftAtWorst_86 ?_
        refine R_aload_n (pc := 87) 1 rfl rfl dX7_leftAtWorst_87 ?_
        refine R_getP (pc := 88) (q' := 45) lC_0 rfl flX7_58 dX7_leftAtWorst_88 ?_
        refine R_iload (pc := 91) 0 rfl dX7_leftAtWorst_91 ?_
        obtain ⟨g0, g1, h⟩ := h
        refine R_iaload (pc := 93) lC_45 g0 g1 dX7_leftAtWorst_93 ?_
        refine R_mmax (pc := 94) w_4_27 w_4_28 w_1_15 w_4_29 (leb rfl) (leb rfl) dX7_leftAtWorst_94 ?_
        refine R_istore_n (pc := 97) (ls' := [(2, vI (max x2 ((upM σ6 45 r2 ((σ6 45 r2) + 1)) 45 r2))), (4, vI r2), (0, vP 0), (1, vI x1), (3, vI x3)]) rfl rfl (ltb rfl) dX7_leftAtWorst_97 ?_
        refine R_aload_n (pc := 98) 2 rfl rfl dX7_leftAtWorst_98 ?_
        refine R_getP (pc := 99) (q' := 26) lC_0 rfl flX7_30 dX7_leftAtWorst_99 ?_
        refine R_callV0 (pc := 102) (as := []) (st := []) rfl rfl kX2_grow sX2_grow lC_26 rfl w_3_157 (ltb rfl) rfl (leb rfl) dX7_leftAtWorst_102 h (fun σ9 h => ?_)
        obtain ⟨g, h⟩ := h
        refine R_iinc (pc := 105) 4 rfl rfl g (ls' := [(3, vI (x3 + 1)), (2, vI (max x2 ((upM σ6 45 r2 ((σ6 45 r2) + 1)) 45 r2))), (4, vI r2), (0, vP 0), (1, vI x1)]) rfl (ltb rfl) dX7_leftAtWorst_105 ?_
        refine R_goto (pc := 108) (tgt := 32) (by decide) dX7_leftAtWorst_108 ?_
        refine R_sub [3, 4, 1, 0] rfl ?_
        exact h
theorem X7_leftAtWorst_E {x1 : Int} {σ : Mem} {Q : Int → Mem → Prop} (h : LX7_leftAtWorst_2 x1 0 σ Q) : CI layC MX7_leftAtWorst [vP 0, vI x1] σ Q := by
  refine Cl.ofR (ls := [(0, vP 0), (1, vI x1)]) (show plainName RX7 = true by decide +kernel) (leb rfl) rfl ?_
  refine R_iconst (pc := 0) (by decide) dX7_leftAtWorst_0 ?_
  refine R_istore_n (pc := 1) (ls' := [(2, vI 0), (0, vP 0), (1, vI x1)]) rfl rfl (ltb rfl) dX7_leftAtWorst_1 ?_
  refine R_sub [1, 2, 0] rfl ?_
  exact h
def LX7_loses_30 (x1 : Int) (x2 : Int) (x3 : Int) (σ : Mem) (Q : Int → Mem → Prop) : Prop := Rn layC MX7_loses 30 [(0, vP 0), (1, vI x1), (2, vI x2), (3, vI x3)] [] σ (qI Q)
theorem X7_loses_30 {x1 x2 x3 : Int} {σ : Mem} {Q : Int → Mem → Prop} (h : ((x1 < x3 → Q (-4) σ) ∧ (x3 ≤ x1 → CV layC MX2_grow [vP 26] σ (fun σ1 => CI layC MX2_firstLoser [vP 26] σ1 (fun r3 σ2 => ((r3 < 0 → I32 (x3 + 1) ∧ LX7_loses_30 x1 x2 (x3 + 1) σ2 Q) ∧ (0 ≤ r3 → ((x2 ≠ 0 → Q r3 σ2) ∧ (x2 = 0 → Q x3 σ2))))))))) : LX7_loses_30 x1 x2 x3 σ Q := by
  unfold LX7_loses_30
  refine R_iload_n (pc := 30) 3 rfl rfl dX7_loses_30 ?_
  refine R_iload_n (pc := 31) 1 rfl rfl dX7_loses_31 ?_
  refine R_icmp_gt (pc := 32) (tgt := 73) (by decide) dX7_loses_32 (fun c => ?_) (fun c => ?_)
  · have h := h.1 c
    refine R_bipush (pc := 73) (by decide) dX7_loses_73 ?_
    exact R_iret (pc := 75) rfl dX7_loses_75 ⟨_, rfl, h⟩
  · have h := h.2 c
    refine R_aload_n (pc := 35) 0 rfl rfl dX7_loses_35 ?_
    refine R_getP (pc := 36) (q' := 26) lC_0 rfl flX7_30 dX7_loses_36 ?_
    refine R_callV0 (pc := 39) (as := []) (st := []) rfl rfl kX2_grow sX2_grow lC_26 rfl w_3_157 (ltb rfl) rfl (leb rfl) dX7_loses_39 h (fun σ1 h => ?_)
    refine R_aload_n (pc := 42) 0 rfl rfl dX7_loses_42 ?_
    refine R_getP (pc := 43) (q' := 26) lC_0 rfl flX7_30 dX7_loses_43 ?_
    refine R_callVI (pc := 46) (as := []) (st := []) rfl rfl kX2_firstLoser sX2_firstLoser lC_26 rfl w_3_162 (ltb rfl) rfl (leb rfl) dX7_loses_46 h (fun r3 σ2 h => ?_)
    refine R_istore (pc := 49) (ls' := [(4, vI r3), (0, vP 0), (1, vI x1), (2, vI x2), (3, vI x3)]) rfl (ltb rfl) dX7_loses_49 ?_
    refine R_iload (pc := 51) 0 rfl dX7_loses_51 ?_
    refine R_if_lt (pc := 53) (tgt := 67) (by decide) dX7_loses_53 (fun c => ?_) (fun c => ?_)
    · have h := h.1 c
      obtain ⟨g, h⟩ := h
      refine R_iinc (pc := 67) 4 rfl rfl g (ls' := [(3, vI (x3 + 1)), (4, vI r3), (0, vP 0), (1, vI x1), (2, vI x2)]) rfl (ltb rfl) dX7_loses_67 ?_
      refine R_goto (pc := 70) (tgt := 30) (by decide) dX7_loses_70 ?_
      refine R_sub [2, 3, 4, 0] rfl ?_
      exact h
    · have h := h.2 c
      refine R_iload_n (pc := 56) 3 rfl rfl dX7_loses_56 ?_
      refine R_if_ne (pc := 57) (tgt := 64) (by decide) dX7_loses_57 (fun c => ?_) (fun c => ?_)
      · have h := h.1 c
        refine R_iload (pc := 64) 0 rfl dX7_loses_64 ?_
        exact R_iret (pc := 66) rfl dX7_loses_66 ⟨_, rfl, h⟩
      · have h := h.2 c
        refine R_iload_n (pc := 60) 4 rfl rfl dX7_loses_60 ?_
        refine R_goto (pc := 61) (tgt := 66) (by decide) dX7_loses_61 ?_
        exact R_iret (pc := 66) rfl dX7_loses_66 ⟨_, rfl, h⟩
theorem X7_loses_E {x1 x2 : Int} {σ : Mem} {Q : Int → Mem → Prop} (h : CI layC MX7_within [vI x1, vI 0, vI 200] σ (fun r2 σ1 => ((r2 = 0 → Q (-1) σ1) ∧ (r2 ≠ 0 → CI layC MX7_within [vI x2, vI 0, vI 1] σ1 (fun r4 σ3 => ((r4 ≠ 0 → CP layC MX7_partOf [vP 0, vI 0] σ3 (fun r6 σ5 => r6 = 26 ∧ LX7_loses_30 x1 x2 0 σ5 Q)) ∧ (r4 = 0 → Q (-1) σ3))))))) : CI layC MX7_loses [vP 0, vI x1, vI x2] σ Q := by
  refine Cl.ofR (ls := [(0, vP 0), (1, vI x1), (2, vI x2)]) (show plainName RX7 = true by decide +kernel) (leb rfl) rfl ?_
  refine R_iload_n (pc := 0) 1 rfl rfl dX7_loses_0 ?_
  refine R_iconst (pc := 1) (by decide) dX7_loses_1 ?_
  refine R_sipush (pc := 2) (by decide) dX7_loses_2 ?_
  refine R_callSI (pc := 5) (as := [vI x1, vI 0, vI 200]) (st := []) rfl rfl kX7_within sX7_within w_2_47 (ltb rfl) rfl (leb rfl) dX7_loses_5 h (fun r2 σ1 h => ?_)
  refine R_if_eq (pc := 8) (tgt := 20) (by decide) dX7_loses_8 (fun c => ?_) (fun c => ?_)
  · have h := h.1 c
    refine R_iconst (pc := 20) (by decide) dX7_loses_20 ?_
    exact R_iret (pc := 21) rfl dX7_loses_21 ⟨_, rfl, h⟩
  · have h := h.2 c
    refine R_iload_n (pc := 11) 2 rfl rfl dX7_loses_11 ?_
    refine R_iconst (pc := 12) (by decide) dX7_loses_12 ?_
    refine R_iconst (pc := 13) (by decide) dX7_loses_13 ?_
    refine R_callSI (pc := 14) (as := [vI x2, vI 0, vI 1]) (st := []) rfl rfl kX7_within sX7_within w_2_47 (ltb rfl) rfl (leb rfl) dX7_loses_14 h (fun r4 σ3 h => ?_)
    refine R_if_ne (pc := 17) (tgt := 22) (by decide) dX7_loses_17 (fun c => ?_) (fun c => ?_)
    · have h := h.1 c
      refine R_aload_n (pc := 22) 0 rfl rfl dX7_loses_22 ?_
      refine R_iconst (pc := 23) (by decide) dX7_loses_23 ?_
      refine R_callVP (pc := 24) (as := [vI 0]) (st := []) rfl rfl kX7_partOf sX7_partOf lC_0 rfl w_2_221 (ltb rfl) rfl (leb rfl) dX7_loses_24 h (fun r6 σ5 h => ?_)
      obtain ⟨rfl, h⟩ := h
      refine R_pop (pc := 27) rfl dX7_loses_27 ?_
      refine R_iconst (pc := 28) (by decide) dX7_loses_28 ?_
      refine R_istore_n (pc := 29) (ls' := [(3, vI 0), (0, vP 0), (1, vI x1), (2, vI x2)]) rfl rfl (ltb rfl) dX7_loses_29 ?_
      refine R_sub [1, 2, 3, 0] rfl ?_
      exact h
    · have h := h.2 c
      refine R_iconst (pc := 20) (by decide) dX7_loses_20 ?_
      exact R_iret (pc := 21) rfl dX7_loses_21 ⟨_, rfl, h⟩
def LX7_luck_70 (x1 : Int) (x2 : Int) (x3 : Int) (x4 : Int) (x5 : Int) (x7 : Int) (σ : Mem) (Q : Int → Mem → Prop) : Prop := Rn layC MX7_luck 70 [(0, vP 0), (1, vI x1), (2, vI x2), (3, vI x3), (4, vI x4), (5, vJ x5), (7, vI x7)] [] σ (qJ Q)
theorem X7_luck_70 {x1 x2 x3 x4 x5 x7 : Int} {σ : Mem} {Q : Int → Mem → Prop} (h : (((σ 1 0) < x7 → CJ layC MX7_power [vI 10, vI (σ 1 0)] σ (fun r2 σ1 => CJ layC MX7_fraction [vJ x5, vJ r2, vI x4] σ1 (fun r4 σ3 => Q r4 σ3))) ∧ (x7 ≤ (σ 1 0) → CI layC MX2_got [vP 26, vI x2] σ (fun r6 σ5 => ((r6 < x3 → CV layC MX2_grow [vP 26] σ5 (fun σ7 => I32 (x7 + 1) ∧ LX7_luck_70 x1 x2 x3 x4 x5 (x7 + 1) σ7 Q)) ∧ (x3 ≤ r6 → CJ layC MX7_odds [vI (σ5 1 0), vI x7, vI x1] σ5 (fun r9 σ8 => I64 (x5 + r9) ∧ CV layC MX2_grow [vP 26] σ8 (fun σ10 => I32 (x7 + 1) ∧ LX7_luck_70 x1 x2 x3 x4 (x5 + r9) (x7 + 1) σ10 Q)))))))) : LX7_luck_70 x1 x2 x3 x4 x5 x7 σ Q := by
  unfold LX7_luck_70
  refine R_iload (pc := 70) 6 rfl dX7_luck_70 ?_
  refine R_aload_n (pc := 72) 0 rfl rfl dX7_luck_72 ?_
  refine R_getP (pc := 73) (q' := 1) lC_0 rfl flX7_10 dX7_luck_73 ?_
  refine R_getI (pc := 76) lC_1 rfl flX7_112 dX7_luck_76 ?_
  refine R_icmp_gt (pc := 79) (tgt := 125) (by decide) dX7_luck_79 (fun c => ?_) (fun c => ?_)
  · have h := h.1 c
    refine R_lload (pc := 125) 5 rfl dX7_luck_125 ?_
    refine R_bipush (pc := 127) (by decide) dX7_luck_127 ?_
    refine R_aload_n (pc := 129) 0 rfl rfl dX7_luck_129 ?_
    refine R_getP (pc := 130) (q' := 1) lC_0 rfl flX7_10 dX7_luck_130 ?_
    refine R_getI (pc := 133) lC_1 rfl flX7_112 dX7_luck_133 ?_
    refine R_callSJ (pc := 136) (as := [vI 10, vI (σ 1 0)]) (st := [vJ x5]) rfl rfl kX7_power sX7_power w_3_208 (ltb rfl) rfl (leb rfl) dX7_luck_136 h (fun r2 σ1 h => ?_)
    refine R_iload (pc := 139) 4 rfl dX7_luck_139 ?_
    refine R_callSJ (pc := 141) (as := [vJ x5, vJ r2, vI x4]) (st := []) rfl rfl kX7_fraction sX7_fraction w_3_56 (ltb rfl) rfl (leb rfl) dX7_luck_141 h (fun r4 σ3 h => ?_)
    exact R_lret (pc := 144) rfl dX7_luck_144 ⟨_, rfl, h⟩
  · have h := h.2 c
    refine R_aload_n (pc := 82) 0 rfl rfl dX7_luck_82 ?_
    refine R_getP (pc := 83) (q' := 26) lC_0 rfl flX7_30 dX7_luck_83 ?_
    refine R_iload_n (pc := 86) 2 rfl rfl dX7_luck_86 ?_
    refine R_callVI (pc := 87) (as := [vI x2]) (st := []) rfl rfl kX2_got sX2_got lC_26 rfl w_3_40 (ltb rfl) rfl (leb rfl) dX7_luck_87 h (fun r6 σ5 h => ?_)
    refine R_iload_n (pc := 90) 3 rfl rfl dX7_luck_90 ?_
    refine R_icmp_lt (pc := 91) (tgt := 112) (by decide) dX7_luck_91 (fun c => ?_) (fun c => ?_)
    · have h := h.1 c
      refine R_aload_n (pc := 112) 0 rfl rfl dX7_luck_112 ?_
      refine R_getP (pc := 113) (q' := 26) lC_0 rfl flX7_30 dX7_luck_113 ?_
      refine R_callV0 (pc := 116) (as := []) (st := []) rfl rfl kX2_grow sX2_grow lC_26 rfl w_3_157 (ltb rfl) rfl (leb rfl) dX7_luck_116 h (fun σ7 h => ?_)
      obtain ⟨g, h⟩ := h
      refine R_iinc (pc := 119) 6 rfl rfl g (ls' := [(7, vI (x7 + 1)), (0, vP 0), (1, vI x1), (2, vI x2), (3, vI x3), (4, vI x4), (5, vJ x5)]) rfl (ltb rfl) dX7_luck_119 ?_
      refine R_goto (pc := 122) (tgt := 70) (by decide) dX7_luck_122 ?_
      refine R_sub [1, 2, 3, 4, 5, 6, 0] rfl ?_
      exact h
    · have h := h.2 c
      refine R_lload (pc := 94) 5 rfl dX7_luck_94 ?_
      refine R_aload_n (pc := 96) 0 rfl rfl dX7_luck_96 ?_
      refine R_getP (pc := 97) (q' := 1) lC_0 rfl flX7_10 dX7_luck_97 ?_
      refine R_getI (pc := 100) lC_1 rfl flX7_112 dX7_luck_100 ?_
      refine R_iload (pc := 103) 6 rfl dX7_luck_103 ?_
      refine R_iload_n (pc := 105) 1 rfl rfl dX7_luck_105 ?_
      refine R_callSJ (pc := 106) (as := [vI (σ5 1 0), vI x7, vI x1]) (st := [vJ x5]) rfl rfl kX7_odds sX7_odds w_3_205 (ltb rfl) rfl (leb rfl) dX7_luck_106 h (fun r9 σ8 h => ?_)
      obtain ⟨g, h⟩ := h
      refine R_ladd (pc := 109) g dX7_luck_109 ?_
      refine R_lstore (pc := 110) (ls' := [(5, vJ (x5 + r9)), (0, vP 0), (1, vI x1), (2, vI x2), (3, vI x3), (4, vI x4), (7, vI x7)]) rfl (ltb rfl) dX7_luck_110 ?_
      refine R_aload_n (pc := 112) 1 rfl rfl dX7_luck_112 ?_
      refine R_getP (pc := 113) (q' := 26) lC_0 rfl flX7_30 dX7_luck_113 ?_
      refine R_callV0 (pc := 116) (as := []) (st := []) rfl rfl kX2_grow sX2_grow lC_26 rfl w_3_157 (ltb rfl) rfl (leb rfl) dX7_luck_116 h (fun σ10 h => ?_)
      obtain ⟨g, h⟩ := h
      refine R_iinc (pc := 119) 6 rfl rfl g (ls' := [(7, vI (x7 + 1)), (5, vJ (x5 + r9)), (0, vP 0), (1, vI x1), (2, vI x2), (3, vI x3), (4, vI x4)]) rfl (ltb rfl) dX7_luck_119 ?_
      refine R_goto (pc := 122) (tgt := 70) (by decide) dX7_luck_122 ?_
      refine R_sub [2, 3, 4, 5, 6, 1, 0] rfl ?_
      exact h
theorem X7_luck_E {x1 x2 x3 x4 : Int} {σ : Mem} {Q : Int → Mem → Prop} (h : CI layC MX7_within [vI x1, vI 0, vI 10] σ (fun r2 σ1 => ((r2 = 0 → Q (-1) σ1) ∧ (r2 ≠ 0 → CI layC MX0_has [vP 1, vI x2] σ1 (fun r4 σ3 => ((r4 = 0 → Q (-1) σ3) ∧ (r4 ≠ 0 → CI layC MX7_isHerd [vI x3] σ3 (fun r6 σ5 => ((r6 = 0 → Q (-1) σ5) ∧ (r6 ≠ 0 → CI layC MX7_within [vI x4, vI 0, vI 1] σ5 (fun r8 σ7 => ((r8 ≠ 0 → (((σ7 1 0) ≤ 12 → CP layC MX7_partOf [vP 0, vI 0] σ7 (fun r10 σ9 => r10 = 26 ∧ LX7_luck_70 x1 x2 x3 x4 0 0 σ9 Q)) ∧ (12 < (σ7 1 0) → Q (-2) σ7))) ∧ (r8 = 0 → Q (-1) σ7))))))))))))) : CJ layC MX7_luck [vP 0, vI x1, vI x2, vI x3, vI x4] σ Q := by
  refine Cl.ofR (ls := [(0, vP 0), (1, vI x1), (2, vI x2), (3, vI x3), (4, vI x4)]) (show plainName RX7 = true by decide +kernel) (leb rfl) rfl ?_
  refine R_iload_n (pc := 0) 1 rfl rfl dX7_luck_0 ?_
  refine R_iconst (pc := 1) (by decide) dX7_luck_1 ?_
  refine R_bipush (pc := 2) (by decide) dX7_luck_2 ?_
  refine R_callSI (pc := 4) (as := [vI x1, vI 0, vI 10]) (st := []) rfl rfl kX7_within sX7_within w_2_47 (ltb rfl) rfl (leb rfl) dX7_luck_4 h (fun r2 σ1 h => ?_)
  refine R_if_eq (pc := 7) (tgt := 38) (by decide) dX7_luck_7 (fun c => ?_) (fun c => ?_)
  · have h := h.1 c
    refine R_ldc2 (pc := 38) (x := (-1)) w_3_55 (by decide) dX7_luck_38 ?_
    exact R_lret (pc := 41) rfl dX7_luck_41 ⟨_, rfl, h⟩
  · have h := h.2 c
    refine R_aload_n (pc := 10) 0 rfl rfl dX7_luck_10 ?_
    refine R_getP (pc := 11) (q' := 1) lC_0 rfl flX7_10 dX7_luck_11 ?_
    refine R_iload_n (pc := 14) 2 rfl rfl dX7_luck_14 ?_
    refine R_callVI (pc := 15) (as := [vI x2]) (st := []) rfl rfl kX0_has sX0_has lC_1 rfl w_3_36 (ltb rfl) rfl (leb rfl) dX7_luck_15 h (fun r4 σ3 h => ?_)
    refine R_if_eq (pc := 18) (tgt := 38) (by decide) dX7_luck_18 (fun c => ?_) (fun c => ?_)
    · have h := h.1 c
      refine R_ldc2 (pc := 38) (x := (-1)) w_3_55 (by decide) dX7_luck_38 ?_
      exact R_lret (pc := 41) rfl dX7_luck_41 ⟨_, rfl, h⟩
    · have h := h.2 c
      refine R_iload_n (pc := 21) 3 rfl rfl dX7_luck_21 ?_
      refine R_callSI (pc := 22) (as := [vI x3]) (st := []) rfl rfl kX7_isHerd sX7_isHerd w_3_81 (ltb rfl) rfl (leb rfl) dX7_luck_22 h (fun r6 σ5 h => ?_)
      refine R_if_eq (pc := 25) (tgt := 38) (by decide) dX7_luck_25 (fun c => ?_) (fun c => ?_)
      · have h := h.1 c
        refine R_ldc2 (pc := 38) (x := (-1)) w_3_55 (by decide) dX7_luck_38 ?_
        exact R_lret (pc := 41) rfl dX7_luck_41 ⟨_, rfl, h⟩
      · have h := h.2 c
        refine R_iload (pc := 28) 4 rfl dX7_luck_28 ?_
        refine R_iconst (pc := 30) (by decide) dX7_luck_30 ?_
        refine R_iconst (pc := 31) (by decide) dX7_luck_31 ?_
        refine R_callSI (pc := 32) (as := [vI x4, vI 0, vI 1]) (st := []) rfl rfl kX7_within sX7_within w_2_47 (ltb rfl) rfl (leb rfl) dX7_luck_32 h (fun r8 σ7 h => ?_)
        refine R_if_ne (pc := 35) (tgt := 42) (by decide) dX7_luck_35 (fun c => ?_) (fun c => ?_)
        · have h := h.1 c
          refine R_aload_n (pc := 42) 0 rfl rfl dX7_luck_42 ?_
          refine R_getP (pc := 43) (q' := 1) lC_0 rfl flX7_10 dX7_luck_43 ?_
          refine R_getI (pc := 46) lC_1 rfl flX7_112 dX7_luck_46 ?_
          refine R_bipush (pc := 49) (by decide) dX7_luck_49 ?_
          refine R_icmp_le (pc := 51) (tgt := 58) (by decide) dX7_luck_51 (fun c => ?_) (fun c => ?_)
          · have h := h.1 c
            refine R_lconst (pc := 58) (x := 0) rfl dX7_luck_58 ?_
            refine R_lstore (pc := 59) (ls' := [(5, vJ 0), (0, vP 0), (1, vI x1), (2, vI x2), (3, vI x3), (4, vI x4)]) rfl (ltb rfl) dX7_luck_59 ?_
            refine R_aload_n (pc := 61) 1 rfl rfl dX7_luck_61 ?_
            refine R_iconst (pc := 62) (by decide) dX7_luck_62 ?_
            refine R_callVP (pc := 63) (as := [vI 0]) (st := []) rfl rfl kX7_partOf sX7_partOf lC_0 rfl w_2_221 (ltb rfl) rfl (leb rfl) dX7_luck_63 h (fun r10 σ9 h => ?_)
            obtain ⟨rfl, h⟩ := h
            refine R_pop (pc := 66) rfl dX7_luck_66 ?_
            refine R_iconst (pc := 67) (by decide) dX7_luck_67 ?_
            refine R_istore (pc := 68) (ls' := [(7, vI 0), (5, vJ 0), (0, vP 0), (1, vI x1), (2, vI x2), (3, vI x3), (4, vI x4)]) rfl (ltb rfl) dX7_luck_68 ?_
            refine R_sub [2, 3, 4, 5, 6, 1, 0] rfl ?_
            exact h
          · have h := h.2 c
            refine R_ldc2 (pc := 54) (x := (-2)) w_3_204 (by decide) dX7_luck_54 ?_
            exact R_lret (pc := 57) rfl dX7_luck_57 ⟨_, rfl, h⟩
        · have h := h.2 c
          refine R_ldc2 (pc := 38) (x := (-1)) w_3_55 (by decide) dX7_luck_38 ?_
          exact R_lret (pc := 41) rfl dX7_luck_41 ⟨_, rfl, h⟩
def LX7_mean_62 (x1 : Int) (x2 : Int) (x3 : Int) (x4 : Int) (x6 : Int) (σ : Mem) (Q : Int → Mem → Prop) : Prop := Rn layC MX7_mean 62 [(0, vP 0), (1, vI x1), (2, vI x2), (3, vI x3), (4, vJ x4), (6, vI x6)] [] σ (qJ Q)
theorem X7_mean_62 {x1 x2 x3 x4 x6 : Int} {σ : Mem} {Q : Int → Mem → Prop} (h : (((σ 1 0) < x6 → CJ layC MX7_power [vI 10, vI (σ 1 0)] σ (fun r2 σ1 => CJ layC MX7_fraction [vJ x4, vJ r2, vI x3] σ1 (fun r4 σ3 => Q r4 σ3))) ∧ (x6 ≤ (σ 1 0) → CJ layC MX7_odds [vI (σ 1 0), vI x6, vI x1] σ (fun r6 σ5 => CI layC MX2_got [vP 26, vI x2] σ5 (fun r8 σ7 => I64 (r6 * r8) ∧ I64 (x4 + (r6 * r8)) ∧ CV layC MX2_grow [vP 26] σ7 (fun σ9 => I32 (x6 + 1) ∧ LX7_mean_62 x1 x2 x3 (x4 + (r6 * r8)) (x6 + 1) σ9 Q)))))) : LX7_mean_62 x1 x2 x3 x4 x6 σ Q := by
  unfold LX7_mean_62
  refine R_iload (pc := 62) 5 rfl dX7_mean_62 ?_
  refine R_aload_n (pc := 64) 0 rfl rfl dX7_mean_64 ?_
  refine R_getP (pc := 65) (q' := 1) lC_0 rfl flX7_10 dX7_mean_65 ?_
  refine R_getI (pc := 68) lC_1 rfl flX7_112 dX7_mean_68 ?_
  refine R_icmp_gt (pc := 71) (tgt := 115) (by decide) dX7_mean_71 (fun c => ?_) (fun c => ?_)
  · have h := h.1 c
    refine R_lload (pc := 115) 4 rfl dX7_mean_115 ?_
    refine R_bipush (pc := 117) (by decide) dX7_mean_117 ?_
    refine R_aload_n (pc := 119) 0 rfl rfl dX7_mean_119 ?_
    refine R_getP (pc := 120) (q' := 1) lC_0 rfl flX7_10 dX7_mean_120 ?_
    refine R_getI (pc := 123) lC_1 rfl flX7_112 dX7_mean_123 ?_
    refine R_callSJ (pc := 126) (as := [vI 10, vI (σ 1 0)]) (st := [vJ x4]) rfl rfl kX7_power sX7_power w_3_208 (ltb rfl) rfl (leb rfl) dX7_mean_126 h (fun r2 σ1 h => ?_)
    refine R_iload_n (pc := 129) 3 rfl rfl dX7_mean_129 ?_
    refine R_callSJ (pc := 130) (as := [vJ x4, vJ r2, vI x3]) (st := []) rfl rfl kX7_fraction sX7_fraction w_3_56 (ltb rfl) rfl (leb rfl) dX7_mean_130 h (fun r4 σ3 h => ?_)
    exact R_lret (pc := 133) rfl dX7_mean_133 ⟨_, rfl, h⟩
  · have h := h.2 c
    refine R_lload (pc := 74) 4 rfl dX7_mean_74 ?_
    refine R_aload_n (pc := 76) 0 rfl rfl dX7_mean_76 ?_
    refine R_getP (pc := 77) (q' := 1) lC_0 rfl flX7_10 dX7_mean_77 ?_
    refine R_getI (pc := 80) lC_1 rfl flX7_112 dX7_mean_80 ?_
    refine R_iload (pc := 83) 5 rfl dX7_mean_83 ?_
    refine R_iload_n (pc := 85) 1 rfl rfl dX7_mean_85 ?_
    refine R_callSJ (pc := 86) (as := [vI (σ 1 0), vI x6, vI x1]) (st := [vJ x4]) rfl rfl kX7_odds sX7_odds w_3_205 (ltb rfl) rfl (leb rfl) dX7_mean_86 h (fun r6 σ5 h => ?_)
    refine R_aload_n (pc := 89) 0 rfl rfl dX7_mean_89 ?_
    refine R_getP (pc := 90) (q' := 26) lC_0 rfl flX7_30 dX7_mean_90 ?_
    refine R_iload_n (pc := 93) 2 rfl rfl dX7_mean_93 ?_
    refine R_callVI (pc := 94) (as := [vI x2]) (st := [vJ r6, vJ x4]) rfl rfl kX2_got sX2_got lC_26 rfl w_3_40 (ltb rfl) rfl (leb rfl) dX7_mean_94 h (fun r8 σ7 h => ?_)
    refine R_i2l (pc := 97) dX7_mean_97 ?_
    obtain ⟨g, h⟩ := h
    refine R_lmul (pc := 98) g dX7_mean_98 ?_
    obtain ⟨g, h⟩ := h
    refine R_ladd (pc := 99) g dX7_mean_99 ?_
    refine R_lstore (pc := 100) (ls' := [(4, vJ (x4 + (r6 * r8))), (0, vP 0), (1, vI x1), (2, vI x2), (3, vI x3), (6, vI x6)]) rfl (ltb rfl) dX7_mean_100 ?_
    refine R_aload_n (pc := 102) 1 rfl rfl dX7_mean_102 ?_
    refine R_getP (pc := 103) (q' := 26) lC_0 rfl flX7_30 dX7_mean_103 ?_
    refine R_callV0 (pc := 106) (as := []) (st := []) rfl rfl kX2_grow sX2_grow lC_26 rfl w_3_157 (ltb rfl) rfl (leb rfl) dX7_mean_106 h (fun σ9 h => ?_)
    obtain ⟨g, h⟩ := h
    refine R_iinc (pc := 109) 5 rfl rfl g (ls' := [(6, vI (x6 + 1)), (4, vJ (x4 + (r6 * r8))), (0, vP 0), (1, vI x1), (2, vI x2), (3, vI x3)]) rfl (ltb rfl) dX7_mean_109 ?_
    refine R_goto (pc := 112) (tgt := 62) (by decide) dX7_mean_112 ?_
    refine R_sub [2, 3, 4, 5, 1, 0] rfl ?_
    exact h
theorem X7_mean_E {x1 x2 x3 : Int} {σ : Mem} {Q : Int → Mem → Prop} (h : CI layC MX7_within [vI x1, vI 0, vI 10] σ (fun r2 σ1 => ((r2 = 0 → Q (-1) σ1) ∧ (r2 ≠ 0 → CI layC MX0_has [vP 1, vI x2] σ1 (fun r4 σ3 => ((r4 = 0 → Q (-1) σ3) ∧ (r4 ≠ 0 → CI layC MX7_within [vI x3, vI 0, vI 1] σ3 (fun r6 σ5 => ((r6 ≠ 0 → (((σ5 1 0) ≤ 12 → CP layC MX7_partOf [vP 0, vI 0] σ5 (fun r8 σ7 => r8 = 26 ∧ LX7_mean_62 x1 x2 x3 0 0 σ7 Q)) ∧ (12 < (σ5 1 0) → Q (-2) σ5))) ∧ (r6 = 0 → Q (-1) σ5)))))))))) : CJ layC MX7_mean [vP 0, vI x1, vI x2, vI x3] σ Q := by
  refine Cl.ofR (ls := [(0, vP 0), (1, vI x1), (2, vI x2), (3, vI x3)]) (show plainName RX7 = true by decide +kernel) (leb rfl) rfl ?_
  refine R_iload_n (pc := 0) 1 rfl rfl dX7_mean_0 ?_
  refine R_iconst (pc := 1) (by decide) dX7_mean_1 ?_
  refine R_bipush (pc := 2) (by decide) dX7_mean_2 ?_
  refine R_callSI (pc := 4) (as := [vI x1, vI 0, vI 10]) (st := []) rfl rfl kX7_within sX7_within w_2_47 (ltb rfl) rfl (leb rfl) dX7_mean_4 h (fun r2 σ1 h => ?_)
  refine R_if_eq (pc := 7) (tgt := 30) (by decide) dX7_mean_7 (fun c => ?_) (fun c => ?_)
  · have h := h.1 c
    refine R_ldc2 (pc := 30) (x := (-1)) w_3_55 (by decide) dX7_mean_30 ?_
    exact R_lret (pc := 33) rfl dX7_mean_33 ⟨_, rfl, h⟩
  · have h := h.2 c
    refine R_aload_n (pc := 10) 0 rfl rfl dX7_mean_10 ?_
    refine R_getP (pc := 11) (q' := 1) lC_0 rfl flX7_10 dX7_mean_11 ?_
    refine R_iload_n (pc := 14) 2 rfl rfl dX7_mean_14 ?_
    refine R_callVI (pc := 15) (as := [vI x2]) (st := []) rfl rfl kX0_has sX0_has lC_1 rfl w_3_36 (ltb rfl) rfl (leb rfl) dX7_mean_15 h (fun r4 σ3 h => ?_)
    refine R_if_eq (pc := 18) (tgt := 30) (by decide) dX7_mean_18 (fun c => ?_) (fun c => ?_)
    · have h := h.1 c
      refine R_ldc2 (pc := 30) (x := (-1)) w_3_55 (by decide) dX7_mean_30 ?_
      exact R_lret (pc := 33) rfl dX7_mean_33 ⟨_, rfl, h⟩
    · have h := h.2 c
      refine R_iload_n (pc := 21) 3 rfl rfl dX7_mean_21 ?_
      refine R_iconst (pc := 22) (by decide) dX7_mean_22 ?_
      refine R_iconst (pc := 23) (by decide) dX7_mean_23 ?_
      refine R_callSI (pc := 24) (as := [vI x3, vI 0, vI 1]) (st := []) rfl rfl kX7_within sX7_within w_2_47 (ltb rfl) rfl (leb rfl) dX7_mean_24 h (fun r6 σ5 h => ?_)
      refine R_if_ne (pc := 27) (tgt := 34) (by decide) dX7_mean_27 (fun c => ?_) (fun c => ?_)
      · have h := h.1 c
        refine R_aload_n (pc := 34) 0 rfl rfl dX7_mean_34 ?_
        refine R_getP (pc := 35) (q' := 1) lC_0 rfl flX7_10 dX7_mean_35 ?_
        refine R_getI (pc := 38) lC_1 rfl flX7_112 dX7_mean_38 ?_
        refine R_bipush (pc := 41) (by decide) dX7_mean_41 ?_
        refine R_icmp_le (pc := 43) (tgt := 50) (by decide) dX7_mean_43 (fun c => ?_) (fun c => ?_)
        · have h := h.1 c
          refine R_lconst (pc := 50) (x := 0) rfl dX7_mean_50 ?_
          refine R_lstore (pc := 51) (ls' := [(4, vJ 0), (0, vP 0), (1, vI x1), (2, vI x2), (3, vI x3)]) rfl (ltb rfl) dX7_mean_51 ?_
          refine R_aload_n (pc := 53) 1 rfl rfl dX7_mean_53 ?_
          refine R_iconst (pc := 54) (by decide) dX7_mean_54 ?_
          refine R_callVP (pc := 55) (as := [vI 0]) (st := []) rfl rfl kX7_partOf sX7_partOf lC_0 rfl w_2_221 (ltb rfl) rfl (leb rfl) dX7_mean_55 h (fun r8 σ7 h => ?_)
          obtain ⟨rfl, h⟩ := h
          refine R_pop (pc := 58) rfl dX7_mean_58 ?_
          refine R_iconst (pc := 59) (by decide) dX7_mean_59 ?_
          refine R_istore (pc := 60) (ls' := [(6, vI 0), (4, vJ 0), (0, vP 0), (1, vI x1), (2, vI x2), (3, vI x3)]) rfl (ltb rfl) dX7_mean_60 ?_
          refine R_sub [2, 3, 4, 5, 1, 0] rfl ?_
          exact h
        · have h := h.2 c
          refine R_ldc2 (pc := 46) (x := (-2)) w_3_204 (by decide) dX7_mean_46 ?_
          exact R_lret (pc := 49) rfl dX7_mean_49 ⟨_, rfl, h⟩
      · have h := h.2 c
        refine R_ldc2 (pc := 30) (x := (-1)) w_3_55 (by decide) dX7_mean_30 ?_
        exact R_lret (pc := 33) rfl dX7_mean_33 ⟨_, rfl, h⟩
theorem X7_of_E {x1 x2 : Int} {σ : Mem} {Q : Int → Mem → Prop} (h : CI layC MX7_isHerd [vI x1] σ (fun r2 σ1 => ((r2 = 0 → Q (-1) σ1) ∧ (r2 ≠ 0 → CI layC MX0_has [vP 1, vI x2] σ1 (fun r4 σ3 => ((r4 ≠ 0 → CP layC MX7_partOf [vP 0, vI x1] σ3 (fun r6 σ5 => r6 = 26 ∧ CI layC MX2_got [vP 26, vI x2] σ5 (fun r8 σ7 => Q r8 σ7))) ∧ (r4 = 0 → Q (-1) σ3))))))) : CI layC MX7_of [vP 0, vI x1, vI x2] σ Q := by
  refine Cl.ofR (ls := [(0, vP 0), (1, vI x1), (2, vI x2)]) (show plainName RX7 = true by decide +kernel) (leb rfl) rfl ?_
  refine R_iload_n (pc := 0) 1 rfl rfl dX7_of_0 ?_
  refine R_callSI (pc := 1) (as := [vI x1]) (st := []) rfl rfl kX7_isHerd sX7_isHerd w_3_81 (ltb rfl) rfl (leb rfl) dX7_of_1 h (fun r2 σ1 h => ?_)
  refine R_if_eq (pc := 4) (tgt := 18) (by decide) dX7_of_4 (fun c => ?_) (fun c => ?_)
  · have h := h.1 c
    refine R_iconst (pc := 18) (by decide) dX7_of_18 ?_
    exact R_iret (pc := 19) rfl dX7_of_19 ⟨_, rfl, h⟩
  · have h := h.2 c
    refine R_aload_n (pc := 7) 0 rfl rfl dX7_of_7 ?_
    refine R_getP (pc := 8) (q' := 1) lC_0 rfl flX7_10 dX7_of_8 ?_
    refine R_iload_n (pc := 11) 2 rfl rfl dX7_of_11 ?_
    refine R_callVI (pc := 12) (as := [vI x2]) (st := []) rfl rfl kX0_has sX0_has lC_1 rfl w_3_36 (ltb rfl) rfl (leb rfl) dX7_of_12 h (fun r4 σ3 h => ?_)
    refine R_if_ne (pc := 15) (tgt := 20) (by decide) dX7_of_15 (fun c => ?_) (fun c => ?_)
    · have h := h.1 c
      refine R_aload_n (pc := 20) 0 rfl rfl dX7_of_20 ?_
      refine R_iload_n (pc := 21) 1 rfl rfl dX7_of_21 ?_
      refine R_callVP (pc := 22) (as := [vI x1]) (st := []) rfl rfl kX7_partOf sX7_partOf lC_0 rfl w_2_221 (ltb rfl) rfl (leb rfl) dX7_of_22 h (fun r6 σ5 h => ?_)
      obtain ⟨rfl, h⟩ := h
      refine R_iload_n (pc := 25) 2 rfl rfl dX7_of_25 ?_
      refine R_callVI (pc := 26) (as := [vI x2]) (st := []) rfl rfl kX2_got sX2_got lC_26 rfl w_3_40 (ltb rfl) rfl (leb rfl) dX7_of_26 h (fun r8 σ7 h => ?_)
      exact R_iret (pc := 29) rfl dX7_of_29 ⟨_, rfl, h⟩
    · have h := h.2 c
      refine R_iconst (pc := 18) (by decide) dX7_of_18 ?_
      exact R_iret (pc := 19) rfl dX7_of_19 ⟨_, rfl, h⟩
theorem X7_partNow_E {σ : Mem} {Q : Nat → Mem → Prop} (h : CP layC MX7_partOf [vP 0, vI (σ 1 0)] σ (fun r2 σ1 => r2 = 26 ∧ Q 26 σ1)) : CP layC MX7_partNow [vP 0] σ Q := by
  refine Cl.ofR (ls := [(0, vP 0)]) (show plainName RX7 = true by decide +kernel) (leb rfl) rfl ?_
  refine R_aload_n (pc := 0) 0 rfl rfl dX7_partNow_0 ?_
  refine R_aload_n (pc := 1) 0 rfl rfl dX7_partNow_1 ?_
  refine R_getP (pc := 2) (q' := 1) lC_0 rfl flX7_10 dX7_partNow_2 ?_
  refine R_getI (pc := 5) lC_1 rfl flX7_112 dX7_partNow_5 ?_
  refine R_callVP (pc := 8) (as := [vI (σ 1 0)]) (st := []) rfl rfl kX7_partOf sX7_partOf lC_0 rfl w_2_221 (ltb rfl) rfl (leb rfl) dX7_partNow_8 h (fun r2 σ1 h => ?_)
  obtain ⟨rfl, h⟩ := h
  exact R_aret (pc := 11) rfl dX7_partNow_11 ⟨_, rfl, h⟩
def LX7_unlike_63 (x3 : Int) (σ : Mem) (Q : Int → Mem → Prop) : Prop := Rn layC MX7_unlike 63 [(0, vP 0), (3, vI x3)] [] σ (qI Q)
theorem X7_unlike_63 {x3 : Int} {σ : Mem} {Q : Int → Mem → Prop} (h : ((200 < x3 → Q (-4) σ) ∧ (x3 ≤ 200 → CI layC MX2_givesAs [vP 26, vP 31] σ (fun r2 σ1 => ((r2 ≠ 0 → CV layC MX2_grow [vP 26] σ1 (fun σ3 => CV layC MX2_grow [vP 31] σ3 (fun σ4 => I32 (x3 + 1) ∧ LX7_unlike_63 (x3 + 1) σ4 Q))) ∧ (r2 = 0 → Q x3 σ1)))))) : LX7_unlike_63 x3 σ Q := by
  unfold LX7_unlike_63
  refine R_iload_n (pc := 63) 1 rfl rfl dX7_unlike_63 ?_
  refine R_sipush (pc := 64) (by decide) dX7_unlike_64 ?_
  refine R_icmp_gt (pc := 67) (tgt := 106) (by decide) dX7_unlike_67 (fun c => ?_) (fun c => ?_)
  · have h := h.1 c
    refine R_bipush (pc := 106) (by decide) dX7_unlike_106 ?_
    exact R_iret (pc := 108) rfl dX7_unlike_108 ⟨_, rfl, h⟩
  · have h := h.2 c
    refine R_aload_n (pc := 70) 0 rfl rfl dX7_unlike_70 ?_
    refine R_getP (pc := 71) (q' := 26) lC_0 rfl flX7_30 dX7_unlike_71 ?_
    refine R_aload_n (pc := 74) 0 rfl rfl dX7_unlike_74 ?_
    refine R_getP (pc := 75) (q' := 31) lC_0 rfl flX7_34 dX7_unlike_75 ?_
    refine R_callVI (pc := 78) (as := [vP 31]) (st := []) rfl rfl kX2_givesAs sX2_givesAs lC_26 rfl w_3_179 (ltb rfl) rfl (leb rfl) dX7_unlike_78 h (fun r2 σ1 h => ?_)
    refine R_if_ne (pc := 81) (tgt := 86) (by decide) dX7_unlike_81 (fun c => ?_) (fun c => ?_)
    · have h := h.1 c
      refine R_aload_n (pc := 86) 0 rfl rfl dX7_unlike_86 ?_
      refine R_getP (pc := 87) (q' := 26) lC_0 rfl flX7_30 dX7_unlike_87 ?_
      refine R_callV0 (pc := 90) (as := []) (st := []) rfl rfl kX2_grow sX2_grow lC_26 rfl w_3_157 (ltb rfl) rfl (leb rfl) dX7_unlike_90 h (fun σ3 h => ?_)
      refine R_aload_n (pc := 93) 0 rfl rfl dX7_unlike_93 ?_
      refine R_getP (pc := 94) (q' := 31) lC_0 rfl flX7_34 dX7_unlike_94 ?_
      refine R_callV0 (pc := 97) (as := []) (st := []) rfl rfl kX2_grow sX2_grow lC_31 rfl w_3_157 (ltb rfl) rfl (leb rfl) dX7_unlike_97 h (fun σ4 h => ?_)
      obtain ⟨g, h⟩ := h
      refine R_iinc (pc := 100) 1 rfl rfl g (ls' := [(3, vI (x3 + 1)), (0, vP 0)]) rfl (ltb rfl) dX7_unlike_100 ?_
      refine R_goto (pc := 103) (tgt := 63) (by decide) dX7_unlike_103 ?_
      refine R_sub [1, 0] rfl ?_
      exact h
    · have h := h.2 c
      refine R_iload_n (pc := 84) 1 rfl rfl dX7_unlike_84 ?_
      exact R_iret (pc := 85) rfl dX7_unlike_85 ⟨_, rfl, h⟩
theorem X7_unlike_E {x1 x2 : Int} {σ : Mem} {Q : Int → Mem → Prop} (h : CI layC MX7_isKind [vI x1] σ (fun r2 σ1 => ((r2 = 0 → Q (-1) σ1) ∧ (r2 ≠ 0 → CI layC MX7_isKind [vI x2] σ1 (fun r4 σ3 => ((r4 = 0 → Q (-1) σ3) ∧ (r4 ≠ 0 → ((x1 ≠ x2 → CV layC MX2_load [vP 26, vP 1] σ3 (fun σ5 => CV layC MX2_part [vP 26, vI x1, vI 0] σ5 (fun σ6 => CV layC MX2_load [vP 31, vP 1] σ6 (fun σ7 => CV layC MX2_part [vP 31, vI x2, vI 0] σ7 (fun σ8 => LX7_unlike_63 0 σ8 Q))))) ∧ (x1 = x2 → Q (-1) σ3))))))))) : CI layC MX7_unlike [vP 0, vI x1, vI x2] σ Q := by
  refine Cl.ofR (ls := [(0, vP 0), (1, vI x1), (2, vI x2)]) (show plainName RX7 = true by decide +kernel) (leb rfl) rfl ?_
  refine R_iload_n (pc := 0) 1 rfl rfl dX7_unlike_0 ?_
  refine R_callSI (pc := 1) (as := [vI x1]) (st := []) rfl rfl kX7_isKind sX7_isKind w_3_86 (ltb rfl) rfl (leb rfl) dX7_unlike_1 h (fun r2 σ1 h => ?_)
  refine R_if_eq (pc := 4) (tgt := 19) (by decide) dX7_unlike_4 (fun c => ?_) (fun c => ?_)
  · have h := h.1 c
    refine R_iconst (pc := 19) (by decide) dX7_unlike_19 ?_
    exact R_iret (pc := 20) rfl dX7_unlike_20 ⟨_, rfl, h⟩
  · have h := h.2 c
    refine R_iload_n (pc := 7) 2 rfl rfl dX7_unlike_7 ?_
    refine R_callSI (pc := 8) (as := [vI x2]) (st := []) rfl rfl kX7_isKind sX7_isKind w_3_86 (ltb rfl) rfl (leb rfl) dX7_unlike_8 h (fun r4 σ3 h => ?_)
    refine R_if_eq (pc := 11) (tgt := 19) (by decide) dX7_unlike_11 (fun c => ?_) (fun c => ?_)
    · have h := h.1 c
      refine R_iconst (pc := 19) (by decide) dX7_unlike_19 ?_
      exact R_iret (pc := 20) rfl dX7_unlike_20 ⟨_, rfl, h⟩
    · have h := h.2 c
      refine R_iload_n (pc := 14) 1 rfl rfl dX7_unlike_14 ?_
      refine R_iload_n (pc := 15) 2 rfl rfl dX7_unlike_15 ?_
      refine R_icmp_ne (pc := 16) (tgt := 21) (by decide) dX7_unlike_16 (fun c => ?_) (fun c => ?_)
      · have h := h.1 c
        refine R_aload_n (pc := 21) 0 rfl rfl dX7_unlike_21 ?_
        refine R_getP (pc := 22) (q' := 26) lC_0 rfl flX7_30 dX7_unlike_22 ?_
        refine R_aload_n (pc := 25) 0 rfl rfl dX7_unlike_25 ?_
        refine R_getP (pc := 26) (q' := 1) lC_0 rfl flX7_10 dX7_unlike_26 ?_
        refine R_callV0 (pc := 29) (as := [vP 1]) (st := []) rfl rfl kX2_load sX2_load lC_26 rfl w_2_207 (ltb rfl) rfl (leb rfl) dX7_unlike_29 h (fun σ5 h => ?_)
        refine R_aload_n (pc := 32) 0 rfl rfl dX7_unlike_32 ?_
        refine R_getP (pc := 33) (q' := 26) lC_0 rfl flX7_30 dX7_unlike_33 ?_
        refine R_iload_n (pc := 36) 1 rfl rfl dX7_unlike_36 ?_
        refine R_iconst (pc := 37) (by decide) dX7_unlike_37 ?_
        refine R_callV0 (pc := 38) (as := [vI x1, vI 0]) (st := []) rfl rfl kX2_part sX2_part lC_26 rfl w_2_225 (ltb rfl) rfl (leb rfl) dX7_unlike_38 h (fun σ6 h => ?_)
        refine R_aload_n (pc := 41) 0 rfl rfl dX7_unlike_41 ?_
        refine R_getP (pc := 42) (q' := 31) lC_0 rfl flX7_34 dX7_unlike_42 ?_
        refine R_aload_n (pc := 45) 0 rfl rfl dX7_unlike_45 ?_
        refine R_getP (pc := 46) (q' := 1) lC_0 rfl flX7_10 dX7_unlike_46 ?_
        refine R_callV0 (pc := 49) (as := [vP 1]) (st := []) rfl rfl kX2_load sX2_load lC_31 rfl w_2_207 (ltb rfl) rfl (leb rfl) dX7_unlike_49 h (fun σ7 h => ?_)
        refine R_aload_n (pc := 52) 0 rfl rfl dX7_unlike_52 ?_
        refine R_getP (pc := 53) (q' := 31) lC_0 rfl flX7_34 dX7_unlike_53 ?_
        refine R_iload_n (pc := 56) 2 rfl rfl dX7_unlike_56 ?_
        refine R_iconst (pc := 57) (by decide) dX7_unlike_57 ?_
        refine R_callV0 (pc := 58) (as := [vI x2, vI 0]) (st := []) rfl rfl kX2_part sX2_part lC_31 rfl w_2_225 (ltb rfl) rfl (leb rfl) dX7_unlike_58 h (fun σ8 h => ?_)
        refine R_iconst (pc := 61) (by decide) dX7_unlike_61 ?_
        refine R_istore_n (pc := 62) (ls' := [(3, vI 0), (0, vP 0), (1, vI x1), (2, vI x2)]) rfl rfl (ltb rfl) dX7_unlike_62 ?_
        refine R_sub [1, 0] rfl ?_
        exact h
      · have h := h.2 c
        refine R_iconst (pc := 19) (by decide) dX7_unlike_19 ?_
        exact R_iret (pc := 20) rfl dX7_unlike_20 ⟨_, rfl, h⟩
def LX7_wants_28 (x1 : Int) (x2 : Int) (x3 : Int) (σ : Mem) (Q : Int → Mem → Prop) : Prop := Rn layC MX7_wants 28 [(0, vP 0), (1, vI x1), (2, vI x2), (3, vI x3)] [] σ (qI Q)
theorem X7_wants_28 {x1 x2 x3 : Int} {σ : Mem} {Q : Int → Mem → Prop} (h : ((999 < x3 → Q (-4) σ) ∧ (x3 ≤ 999 → CI layC MX2_got [vP 26, vI x1] σ (fun r2 σ1 => ((r2 < x2 → CV layC MX2_grow [vP 26] σ1 (fun σ3 => I32 (x3 + 1) ∧ LX7_wants_28 x1 x2 (x3 + 1) σ3 Q)) ∧ (x2 ≤ r2 → Q x3 σ1)))))) : LX7_wants_28 x1 x2 x3 σ Q := by
  unfold LX7_wants_28
  refine R_iload_n (pc := 28) 3 rfl rfl dX7_wants_28 ?_
  refine R_sipush (pc := 29) (by decide) dX7_wants_29 ?_
  refine R_icmp_gt (pc := 32) (tgt := 62) (by decide) dX7_wants_32 (fun c => ?_) (fun c => ?_)
  · have h := h.1 c
    refine R_bipush (pc := 62) (by decide) dX7_wants_62 ?_
    exact R_iret (pc := 64) rfl dX7_wants_64 ⟨_, rfl, h⟩
  · have h := h.2 c
    refine R_aload_n (pc := 35) 0 rfl rfl dX7_wants_35 ?_
    refine R_getP (pc := 36) (q' := 26) lC_0 rfl flX7_30 dX7_wants_36 ?_
    refine R_iload_n (pc := 39) 1 rfl rfl dX7_wants_39 ?_
    refine R_callVI (pc := 40) (as := [vI x1]) (st := []) rfl rfl kX2_got sX2_got lC_26 rfl w_3_40 (ltb rfl) rfl (leb rfl) dX7_wants_40 h (fun r2 σ1 h => ?_)
    refine R_iload_n (pc := 43) 2 rfl rfl dX7_wants_43 ?_
    refine R_icmp_lt (pc := 44) (tgt := 49) (by decide) dX7_wants_44 (fun c => ?_) (fun c => ?_)
    · have h := h.1 c
      refine R_aload_n (pc := 49) 0 rfl rfl dX7_wants_49 ?_
      refine R_getP (pc := 50) (q' := 26) lC_0 rfl flX7_30 dX7_wants_50 ?_
      refine R_callV0 (pc := 53) (as := []) (st := []) rfl rfl kX2_grow sX2_grow lC_26 rfl w_3_157 (ltb rfl) rfl (leb rfl) dX7_wants_53 h (fun σ3 h => ?_)
      obtain ⟨g, h⟩ := h
      refine R_iinc (pc := 56) 3 rfl rfl g (ls' := [(3, vI (x3 + 1)), (0, vP 0), (1, vI x1), (2, vI x2)]) rfl (ltb rfl) dX7_wants_56 ?_
      refine R_goto (pc := 59) (tgt := 28) (by decide) dX7_wants_59 ?_
      refine R_sub [1, 2, 3, 0] rfl ?_
      exact h
    · have h := h.2 c
      refine R_iload_n (pc := 47) 3 rfl rfl dX7_wants_47 ?_
      exact R_iret (pc := 48) rfl dX7_wants_48 ⟨_, rfl, h⟩
theorem X7_wants_E {x1 x2 : Int} {σ : Mem} {Q : Int → Mem → Prop} (h : CI layC MX0_has [vP 1, vI x1] σ (fun r2 σ1 => ((r2 = 0 → Q (-1) σ1) ∧ (r2 ≠ 0 → CI layC MX7_isHerd [vI x2] σ1 (fun r4 σ3 => ((r4 ≠ 0 → CP layC MX7_partOf [vP 0, vI 0] σ3 (fun r6 σ5 => r6 = 26 ∧ LX7_wants_28 x1 x2 0 σ5 Q)) ∧ (r4 = 0 → Q (-1) σ3))))))) : CI layC MX7_wants [vP 0, vI x1, vI x2] σ Q := by
  refine Cl.ofR (ls := [(0, vP 0), (1, vI x1), (2, vI x2)]) (show plainName RX7 = true by decide +kernel) (leb rfl) rfl ?_
  refine R_aload_n (pc := 0) 0 rfl rfl dX7_wants_0 ?_
  refine R_getP (pc := 1) (q' := 1) lC_0 rfl flX7_10 dX7_wants_1 ?_
  refine R_iload_n (pc := 4) 1 rfl rfl dX7_wants_4 ?_
  refine R_callVI (pc := 5) (as := [vI x1]) (st := []) rfl rfl kX0_has sX0_has lC_1 rfl w_3_36 (ltb rfl) rfl (leb rfl) dX7_wants_5 h (fun r2 σ1 h => ?_)
  refine R_if_eq (pc := 8) (tgt := 18) (by decide) dX7_wants_8 (fun c => ?_) (fun c => ?_)
  · have h := h.1 c
    refine R_iconst (pc := 18) (by decide) dX7_wants_18 ?_
    exact R_iret (pc := 19) rfl dX7_wants_19 ⟨_, rfl, h⟩
  · have h := h.2 c
    refine R_iload_n (pc := 11) 2 rfl rfl dX7_wants_11 ?_
    refine R_callSI (pc := 12) (as := [vI x2]) (st := []) rfl rfl kX7_isHerd sX7_isHerd w_3_81 (ltb rfl) rfl (leb rfl) dX7_wants_12 h (fun r4 σ3 h => ?_)
    refine R_if_ne (pc := 15) (tgt := 20) (by decide) dX7_wants_15 (fun c => ?_) (fun c => ?_)
    · have h := h.1 c
      refine R_aload_n (pc := 20) 0 rfl rfl dX7_wants_20 ?_
      refine R_iconst (pc := 21) (by decide) dX7_wants_21 ?_
      refine R_callVP (pc := 22) (as := [vI 0]) (st := []) rfl rfl kX7_partOf sX7_partOf lC_0 rfl w_2_221 (ltb rfl) rfl (leb rfl) dX7_wants_22 h (fun r6 σ5 h => ?_)
      obtain ⟨rfl, h⟩ := h
      refine R_pop (pc := 25) rfl dX7_wants_25 ?_
      refine R_iconst (pc := 26) (by decide) dX7_wants_26 ?_
      refine R_istore_n (pc := 27) (ls' := [(3, vI 0), (0, vP 0), (1, vI x1), (2, vI x2)]) rfl rfl (ltb rfl) dX7_wants_27 ?_
      refine R_sub [1, 2, 3, 0] rfl ?_
      exact h
    · have h := h.2 c
      refine R_iconst (pc := 18) (by decide) dX7_wants_18 ?_
      exact R_iret (pc := 19) rfl dX7_wants_19 ⟨_, rfl, h⟩
def LX6_choose_30 (kr : Nat) (x1 : Int) (x3 : Int) (x4 : Int) (σ : Mem) (Q : Mem → Prop) : Prop := Rn layC (MX6_choose (kr + 1)) 30 [(0, vP 39), (1, vI x1), (3, vI x3), (4, vI x4)] [] σ (qV Q)
theorem X6_choose_30 {kr : Nat} {x1 x3 x4 : Int} {σ : Mem} {Q : Mem → Prop} (h : (((σ 39 3) ≤ x4 → Q σ) ∧ (x4 < (σ 39 3) → CI layC MX6_isFound [vP 39] σ (fun r2 σ1 => ((r2 ≠ 0 → Q σ1) ∧ (r2 = 0 → 0 ≤ x4 ∧ x4 < 32 ∧ CJ layC MX7_quotient [vJ (σ1 39 4), vJ (σ1 41 x4)] σ1 (fun r4 σ3 => I32 r4 ∧ I32 ((σ3 39 5) - x1) ∧ I32 (r4 * ((σ3 39 5) - x1)) ∧ ((x3 ≤ (r4 * ((σ3 39 5) - x1)) → ((x3 < r4 → I32 (x4 + 1) ∧ LX6_choose_30 kr x1 x3 (x4 + 1) σ3 Q) ∧ (r4 ≤ x3 → 0 ≤ x4 ∧ x4 < 32 ∧ 0 ≤ x1 ∧ x1 < 4 ∧ I32 (x1 + 1) ∧ I32 (x3 - r4) ∧ CV layC (MX6_choose kr) [vP 39, vI (x1 + 1), vI x4, vI (x3 - r4)] (upM σ3 40 x1 (σ3 41 x4)) (fun σ5 => I32 (x4 + 1) ∧ LX6_choose_30 kr x1 x3 (x4 + 1) σ5 Q)))) ∧ ((r4 * ((σ3 39 5) - x1)) < x3 → Q σ3))))))))) : LX6_choose_30 kr x1 x3 x4 σ Q := by
  unfold LX6_choose_30
  refine R_iload (pc := 30) 3 rfl dX6_choose_30 ?_
  refine R_aload_n (pc := 32) 0 rfl rfl dX6_choose_32 ?_
  refine R_getI (pc := 33) lC_39 rfl flX6_22 dX6_choose_33 ?_
  refine R_icmp_ge (pc := 36) (tgt := 117) (by decide) dX6_choose_36 (fun c => ?_) (fun c => ?_)
  · have h := h.1 c
    exact R_vret (pc := 117) rfl dX6_choose_117 ⟨rfl, h⟩
  · have h := h.2 c
    refine R_aload_n (pc := 39) 0 rfl rfl dX6_choose_39 ?_
    refine R_callVI (pc := 40) (as := []) (st := []) rfl rfl kX6_isFound sX6_isFound lC_39 rfl w_3_136 (by first | exact Nat.lt_succ_self _ | exact Nat.succ_pos _) rfl (leb rfl) dX6_choose_40 h (fun r2 σ1 h => ?_)
    refine R_if_ne (pc := 43) (tgt := 117) (by decide) dX6_choose_43 (fun c => ?_) (fun c => ?_)
    · have h := h.1 c
      exact R_vret (pc := 117) rfl dX6_choose_117 ⟨rfl, h⟩
    · have h := h.2 c
      refine R_aload_n (pc := 46) 0 rfl rfl dX6_choose_46 ?_
      refine R_getI (pc := 47) lC_39 rfl flX6_25 dX6_choose_47 ?_
      refine R_i2l (pc := 50) dX6_choose_50 ?_
      refine R_aload_n (pc := 51) 0 rfl rfl dX6_choose_51 ?_
      refine R_getP (pc := 52) (q' := 41) lC_39 rfl flX6_19 dX6_choose_52 ?_
      refine R_iload (pc := 55) 3 rfl dX6_choose_55 ?_
      obtain ⟨g0, g1, h⟩ := h
      refine R_iaload (pc := 57) lC_41 g0 g1 dX6_choose_57 ?_
      refine R_i2l (pc := 58) dX6_choose_58 ?_
      refine R_callSNJ (pc := 59) (as := [vJ (σ1 39 4), vJ (σ1 41 x4)]) (st := []) rfl rfl kX7_quotient sX7_quotient (List.mem_of_getElem? (i := 16) rfl) (by first | exact Nat.lt_succ_self _ | exact Nat.succ_pos _) rfl (leb rfl) dX6_choose_59 h (fun r4 σ3 h => ?_)
      obtain ⟨g, h⟩ := h
      refine R_l2i (pc := 62) g dX6_choose_62 ?_
      refine R_istore (pc := 63) (ls' := [(5, vI r4), (0, vP 39), (1, vI x1), (3, vI x3), (4, vI x4)]) rfl (ltb rfl) dX6_choose_63 ?_
      refine R_iload (pc := 65) 0 rfl dX6_choose_65 ?_
      refine R_aload_n (pc := 67) 1 rfl rfl dX6_choose_67 ?_
      refine R_getI (pc := 68) lC_39 rfl flX6_28 dX6_choose_68 ?_
      refine R_iload_n (pc := 71) 2 rfl rfl dX6_choose_71 ?_
      obtain ⟨g, h⟩ := h
      refine R_isub (pc := 72) g dX6_choose_72 ?_
      obtain ⟨g, h⟩ := h
      refine R_imul (pc := 73) g dX6_choose_73 ?_
      refine R_iload_n (pc := 74) 3 rfl rfl dX6_choose_74 ?_
      refine R_icmp_ge (pc := 75) (tgt := 79) (by decide) dX6_choose_75 (fun c => ?_) (fun c => ?_)
      · have h := h.1 c
        refine R_iload (pc := 79) 0 rfl dX6_choose_79 ?_
        refine R_iload_n (pc := 81) 3 rfl rfl dX6_choose_81 ?_
        refine R_icmp_gt (pc := 82) (tgt := 111) (by decide) dX6_choose_82 (fun c => ?_) (fun c => ?_)
        · have h := h.1 c
          obtain ⟨g, h⟩ := h
          refine R_iinc (pc := 111) 4 rfl rfl g (ls' := [(4, vI (x4 + 1)), (5, vI r4), (0, vP 39), (1, vI x1), (3, vI x3)]) rfl (ltb rfl) dX6_choose_111 ?_
          refine R_goto (pc := 114) (tgt := 30) (by decide) dX6_choose_114 ?_
          refine R_sub [2, 3, 4, 0] rfl ?_
          exact h
        · have h := h.2 c
          refine R_aload_n (pc := 85) 1 rfl rfl dX6_choose_85 ?_
          refine R_getP (pc := 86) (q' := 40) lC_39 rfl flX6_15 dX6_choose_86 ?_
          refine R_iload_n (pc := 89) 2 rfl rfl dX6_choose_89 ?_
          refine R_aload_n (pc := 90) 1 rfl rfl dX6_choose_90 ?_
          refine R_getP (pc := 91) (q' := 41) lC_39 rfl flX6_19 dX6_choose_91 ?_
          refine R_iload (pc := 94) 4 rfl dX6_choose_94 ?_
          obtain ⟨g0, g1, h⟩ := h
          refine R_iaload (pc := 96) lC_41 g0 g1 dX6_choose_96 ?_
          obtain ⟨g0, g1, h⟩ := h
          refine R_iastore (pc := 97) lC_40 g0 g1 dX6_choose_97 ?_
          refine R_aload_n (pc := 98) 1 rfl rfl dX6_choose_98 ?_
          refine R_iload_n (pc := 99) 2 rfl rfl dX6_choose_99 ?_
          refine R_iconst (pc := 100) (by decide) dX6_choose_100 ?_
          obtain ⟨g, h⟩ := h
          refine R_iadd (pc := 101) g dX6_choose_101 ?_
          refine R_iload (pc := 102) 4 rfl dX6_choose_102 ?_
          refine R_iload_n (pc := 104) 3 rfl rfl dX6_choose_104 ?_
          refine R_iload (pc := 105) 0 rfl dX6_choose_105 ?_
          obtain ⟨g, h⟩ := h
          refine R_isub (pc := 107) g dX6_choose_107 ?_
          refine R_callS0 (pc := 108) (as := [vP 39, vI (x1 + 1), vI x4, vI (x3 - r4)]) (st := []) rfl rfl kX6_choose sX6_choose w_3_133 (by first | exact Nat.lt_succ_self _ | exact Nat.succ_pos _) rfl (leb rfl) dX6_choose_108 h (fun σ5 h => ?_)
          obtain ⟨g, h⟩ := h
          refine R_iinc (pc := 111) 4 rfl rfl g (ls' := [(4, vI (x4 + 1)), (5, vI r4), (0, vP 39), (1, vI x1), (3, vI x3)]) rfl (ltb rfl) dX6_choose_111 ?_
          refine R_goto (pc := 114) (tgt := 30) (by decide) dX6_choose_114 ?_
          refine R_sub [2, 3, 4, 0] rfl ?_
          exact h
      · have h := h.2 c
        exact R_vret (pc := 78) rfl dX6_choose_78 ⟨rfl, h⟩
theorem X6_choose_E {kr : Nat} {x1 x2 x3 : Int} {σ : Mem} {Q : Mem → Prop} (h : ((x1 < (σ 39 5) → LX6_choose_30 kr x1 x3 x2 σ Q) ∧ ((σ 39 5) ≤ x1 → ((x3 ≠ 0 → I32 ((σ 39 0) + 0) ∧ Q (upM σ 39 0 ((σ 39 0) + 0))) ∧ (x3 = 0 → I32 ((σ 39 0) + 1) ∧ Q (upM σ 39 0 ((σ 39 0) + 1))))))) : CV layC (MX6_choose (kr + 1)) [vP 39, vI x1, vI x2, vI x3] σ Q := by
  refine Cl.ofR (ls := [(0, vP 39), (1, vI x1), (2, vI x2), (3, vI x3)]) (show plainName RX6 = true by decide +kernel) (leb rfl) rfl ?_
  refine R_iload_n (pc := 0) 1 rfl rfl dX6_choose_0 ?_
  refine R_aload_n (pc := 1) 0 rfl rfl dX6_choose_1 ?_
  refine R_getI (pc := 2) lC_39 rfl flX6_28 dX6_choose_2 ?_
  refine R_icmp_lt (pc := 5) (tgt := 27) (by decide) dX6_choose_5 (fun c => ?_) (fun c => ?_)
  · have h := h.1 c
    refine R_iload_n (pc := 27) 2 rfl rfl dX6_choose_27 ?_
    refine R_istore (pc := 28) (ls' := [(4, vI x2), (0, vP 39), (1, vI x1), (2, vI x2), (3, vI x3)]) rfl (ltb rfl) dX6_choose_28 ?_
    refine R_sub [1, 2, 4, 0] rfl ?_
    exact h
  · have h := h.2 c
    refine R_aload_n (pc := 8) 0 rfl rfl dX6_choose_8 ?_
    refine R_dup (pc := 9) rfl dX6_choose_9 ?_
    refine R_getI (pc := 10) lC_39 rfl flX6_9 dX6_choose_10 ?_
    refine R_iload_n (pc := 13) 3 rfl rfl dX6_choose_13 ?_
    refine R_if_ne (pc := 14) (tgt := 21) (by decide) dX6_choose_14 (fun c => ?_) (fun c => ?_)
    · have h := h.1 c
      refine R_iconst (pc := 21) (by decide) dX6_choose_21 ?_
      obtain ⟨g, h⟩ := h
      refine R_iadd (pc := 22) g dX6_choose_22 ?_
      refine R_putI (pc := 23) lC_39 rfl fpX6_9 dX6_choose_23 ?_
      exact R_vret (pc := 26) rfl dX6_choose_26 ⟨rfl, h⟩
    · have h := h.2 c
      refine R_iconst (pc := 17) (by decide) dX6_choose_17 ?_
      refine R_goto (pc := 18) (tgt := 22) (by decide) dX6_choose_18 ?_
      obtain ⟨g, h⟩ := h
      refine R_iadd (pc := 22) g dX6_choose_22 ?_
      refine R_putI (pc := 23) lC_39 rfl fpX6_9 dX6_choose_23 ?_
      exact R_vret (pc := 26) rfl dX6_choose_26 ⟨rfl, h⟩
def LX7_ask_29 (x1 : Int) (x2 : Int) (x3 : Int) (x4 : Int) (σ : Mem) (Q : Int → Mem → Prop) : Prop := Rn layC MX7_ask 29 [(0, vP 0), (1, vI x1), (2, vI x2), (3, vI x3), (4, vI x4)] [] σ (qI Q)
theorem X7_ask_29 {x1 x2 x3 x4 : Int} {σ : Mem} {Q : Int → Mem → Prop} (h : (((σ 1 2) ≤ x4 → ((x1 = 0 → Q x3 σ) ∧ (x1 ≠ 0 → ((x3 ≠ (-4) → Q x2 σ) ∧ (x3 = (-4) → Q x3 σ))))) ∧ (x4 < (σ 1 2) → CI layC MX7_leftAtWorst [vP 0, vI x4] σ (fun r2 σ1 => ((x2 ≤ r2 → I32 (x4 + 1) ∧ LX7_ask_29 x1 x2 x3 (x4 + 1) σ1 Q) ∧ (r2 < x2 → I32 (x4 + 1) ∧ LX7_ask_29 x1 r2 x4 (x4 + 1) σ1 Q)))))) : LX7_ask_29 x1 x2 x3 x4 σ Q := by
  unfold LX7_ask_29
  refine R_iload (pc := 29) 4 rfl dX7_ask_29 ?_
  refine R_aload_n (pc := 31) 0 rfl rfl dX7_ask_31 ?_
  refine R_getP (pc := 32) (q' := 1) lC_0 rfl flX7_10 dX7_ask_32 ?_
  refine R_getI (pc := 35) lC_1 rfl flX7_109 dX7_ask_35 ?_
  refine R_icmp_ge (pc := 38) (tgt := 67) (by decide) dX7_ask_38 (fun c => ?_) (fun c => ?_)
  · have h := h.1 c
    refine R_iload_n (pc := 67) 1 rfl rfl dX7_ask_67 ?_
    refine R_if_eq (pc := 68) (tgt := 77) (by decide) dX7_ask_68 (fun c => ?_) (fun c => ?_)
    · have h := h.1 c
      refine R_iload_n (pc := 77) 3 rfl rfl dX7_ask_77 ?_
      refine R_goto (pc := 78) (tgt := 82) (by decide) dX7_ask_78 ?_
      exact R_iret (pc := 82) rfl dX7_ask_82 ⟨_, rfl, h⟩
    · have h := h.2 c
      refine R_iload_n (pc := 71) 3 rfl rfl dX7_ask_71 ?_
      refine R_bipush (pc := 72) (by decide) dX7_ask_72 ?_
      refine R_icmp_ne (pc := 74) (tgt := 81) (by decide) dX7_ask_74 (fun c => ?_) (fun c => ?_)
      · have h := h.1 c
        refine R_iload_n (pc := 81) 2 rfl rfl dX7_ask_81 ?_
        exact R_iret (pc := 82) rfl dX7_ask_82 ⟨_, rfl, h⟩
      · have h := h.2 c
        refine R_iload_n (pc := 77) 3 rfl rfl dX7_ask_77 ?_
        refine R_goto (pc := 78) (tgt := 82) (by decide) dX7_ask_78 ?_
        exact R_iret (pc := 82) rfl dX7_ask_82 ⟨_, rfl, h⟩
  · have h := h.2 c
    refine R_aload_n (pc := 41) 0 rfl rfl dX7_ask_41 ?_
    refine R_iload (pc := 42) 4 rfl dX7_ask_42 ?_
    refine R_callVI (pc := 44) (as := [vI x4]) (st := []) rfl rfl kX7_leftAtWorst sX7_leftAtWorst lC_0 rfl w_4_23 (ltb rfl) rfl (leb rfl) dX7_ask_44 h (fun r2 σ1 h => ?_)
    refine R_istore (pc := 47) (ls' := [(5, vI r2), (0, vP 0), (1, vI x1), (2, vI x2), (3, vI x3), (4, vI x4)]) rfl (ltb rfl) dX7_ask_47 ?_
    refine R_iload (pc := 49) 0 rfl dX7_ask_49 ?_
    refine R_iload_n (pc := 51) 3 rfl rfl dX7_ask_51 ?_
    refine R_icmp_ge (pc := 52) (tgt := 61) (by decide) dX7_ask_52 (fun c => ?_) (fun c => ?_)
    · have h := h.1 c
      obtain ⟨g, h⟩ := h
      refine R_iinc (pc := 61) 5 rfl rfl g (ls' := [(4, vI (x4 + 1)), (5, vI r2), (0, vP 0), (1, vI x1), (2, vI x2), (3, vI x3)]) rfl (ltb rfl) dX7_ask_61 ?_
      refine R_goto (pc := 64) (tgt := 29) (by decide) dX7_ask_64 ?_
      refine R_sub [2, 3, 4, 5, 0] rfl ?_
      exact h
    · have h := h.2 c
      refine R_iload (pc := 55) 0 rfl dX7_ask_55 ?_
      refine R_istore_n (pc := 57) (ls' := [(2, vI r2), (5, vI r2), (0, vP 0), (1, vI x1), (3, vI x3), (4, vI x4)]) rfl rfl (ltb rfl) dX7_ask_57 ?_
      refine R_iload (pc := 58) 5 rfl dX7_ask_58 ?_
      refine R_istore_n (pc := 60) (ls' := [(3, vI x4), (2, vI r2), (5, vI r2), (0, vP 0), (1, vI x1), (4, vI x4)]) rfl rfl (ltb rfl) dX7_ask_60 ?_
      obtain ⟨g, h⟩ := h
      refine R_iinc (pc := 61) 5 rfl rfl g (ls' := [(4, vI (x4 + 1)), (3, vI x4), (2, vI r2), (5, vI r2), (0, vP 0), (1, vI x1)]) rfl (ltb rfl) dX7_ask_61 ?_
      refine R_goto (pc := 64) (tgt := 29) (by decide) dX7_ask_64 ?_
      refine R_sub [4, 5, 2, 1, 0] rfl ?_
      exact h
theorem X7_ask_E {x1 : Int} {σ : Mem} {Q : Int → Mem → Prop} (h : CI layC MX7_within [vI x1, vI 0, vI 1] σ (fun r2 σ1 => ((r2 ≠ 0 → CV layC MX7_findHerds [vP 0] σ1 (fun σ3 => LX7_ask_29 x1 (σ3 42 0) (-4) 0 σ3 Q)) ∧ (r2 = 0 → Q (-1) σ1)))) : CI layC MX7_ask [vP 0, vI x1] σ Q := by
  refine Cl.ofR (ls := [(0, vP 0), (1, vI x1)]) (show plainName RX7 = true by decide +kernel) (leb rfl) rfl ?_
  refine R_iload_n (pc := 0) 1 rfl rfl dX7_ask_0 ?_
  refine R_iconst (pc := 1) (by decide) dX7_ask_1 ?_
  refine R_iconst (pc := 2) (by decide) dX7_ask_2 ?_
  refine R_callSI (pc := 3) (as := [vI x1, vI 0, vI 1]) (st := []) rfl rfl kX7_within sX7_within w_2_47 (ltb rfl) rfl (leb rfl) dX7_ask_3 h (fun r2 σ1 h => ?_)
  refine R_if_ne (pc := 6) (tgt := 11) (by decide) dX7_ask_6 (fun c => ?_) (fun c => ?_)
  · have h := h.1 c
    refine R_aload_n (pc := 11) 0 rfl rfl dX7_ask_11 ?_
    refine R_callV0 (pc := 12) (as := []) (st := []) rfl rfl kX7_findHerds sX7_findHerds lC_0 rfl w_3_239 (ltb rfl) rfl (leb rfl) dX7_ask_12 h (fun σ3 h => ?_)
    refine R_aload_n (pc := 15) 0 rfl rfl dX7_ask_15 ?_
    refine R_getP (pc := 16) (q' := 42) lC_0 rfl flX7_54 dX7_ask_16 ?_
    refine R_getI (pc := 19) lC_42 rfl flX7_250 dX7_ask_19 ?_
    refine R_istore_n (pc := 22) (ls' := [(2, vI (σ3 42 0)), (0, vP 0), (1, vI x1)]) rfl rfl (ltb rfl) dX7_ask_22 ?_
    refine R_bipush (pc := 23) (by decide) dX7_ask_23 ?_
    refine R_istore_n (pc := 25) (ls' := [(3, vI (-4)), (2, vI (σ3 42 0)), (0, vP 0), (1, vI x1)]) rfl rfl (ltb rfl) dX7_ask_25 ?_
    refine R_iconst (pc := 26) (by decide) dX7_ask_26 ?_
    refine R_istore (pc := 27) (ls' := [(4, vI 0), (3, vI (-4)), (2, vI (σ3 42 0)), (0, vP 0), (1, vI x1)]) rfl (ltb rfl) dX7_ask_27 ?_
    refine R_sub [3, 4, 2, 1, 0] rfl ?_
    exact h
  · have h := h.2 c
    refine R_iconst (pc := 9) (by decide) dX7_ask_9 ?_
    exact R_iret (pc := 10) rfl dX7_ask_10 ⟨_, rfl, h⟩
theorem X7_count_E {x1 : Int} {σ : Mem} {Q : Int → Mem → Prop} (h : ((x1 = 0 → Q (σ 1 3) σ) ∧ (x1 = 1 → (((σ 44 0) = 0 → (((σ 44 1) = 0 → I32 (0 + 0) ∧ Q (0 + 0) σ) ∧ ((σ 44 1) ≠ 0 → I32 (0 + 1) ∧ Q (0 + 1) σ))) ∧ ((σ 44 0) ≠ 0 → (((σ 44 1) = 0 → I32 (1 + 0) ∧ Q (1 + 0) σ) ∧ ((σ 44 1) ≠ 0 → I32 (1 + 1) ∧ Q (1 + 1) σ))))) ∧ (x1 = 2 → Q (σ 37 0) σ) ∧ (x1 = 3 → ((0 ≤ (σ 47 0) → Q (σ 47 0) σ) ∧ ((σ 47 0) < 0 → Q (-4) σ))) ∧ (x1 = 4 → CP layC MX7_partNow [vP 0] σ (fun r2 σ1 => r2 = 26 ∧ CI layC MX2_given [vP 26] σ1 (fun r4 σ3 => I32 ((σ 1 0) - r4) ∧ Q ((σ 1 0) - r4) σ3))) ∧ (x1 < 0 ∨ 4 < x1 → Q (-1) σ))) : CI layC MX7_count [vP 0, vI x1] σ Q := by
  refine Cl.ofR (ls := [(0, vP 0), (1, vI x1)]) (show plainName RX7 = true by decide +kernel) (leb rfl) rfl ?_
  refine R_iload_n (pc := 0) 1 rfl rfl dX7_count_0 ?_
  by_cases c0 : x1 = 0
  · have h := h.1 c0
    refine R_tableIn (pc := 1) (tgt := 36) 0 (by omega) (by omega) rfl (by decide) dX7_count_1 ?_
    refine R_aload_n (pc := 36) 0 rfl rfl dX7_count_36 ?_
    refine R_getP (pc := 37) (q' := 1) lC_0 rfl flX7_10 dX7_count_37 ?_
    refine R_getI (pc := 40) lC_1 rfl flX7_231 dX7_count_40 ?_
    exact R_iret (pc := 43) rfl dX7_count_43 ⟨_, rfl, h⟩
  by_cases c1 : x1 = 1
  · have h := h.2.1 c1
    refine R_tableIn (pc := 1) (tgt := 44) 1 (by omega) (by omega) rfl (by decide) dX7_count_1 ?_
    refine R_aload_n (pc := 44) 0 rfl rfl dX7_count_44 ?_
    refine R_getP (pc := 45) (q' := 44) lC_0 rfl flX7_23 dX7_count_45 ?_
    refine R_iconst (pc := 48) (by decide) dX7_count_48 ?_
    have g0 : (0 : Int) ≤ 0 := by decide
    have g1 : (0 : Int) < 2 := by decide
    refine R_zaload (pc := 49) lC_44 g0 g1 dX7_count_49 ?_
    refine R_if_eq (pc := 50) (tgt := 57) (by decide) dX7_count_50 (fun c => ?_) (fun c => ?_)
    · have h := h.1 c
      refine R_iconst (pc := 57) (by decide) dX7_count_57 ?_
      refine R_aload_n (pc := 58) 0 rfl rfl dX7_count_58 ?_
      refine R_getP (pc := 59) (q' := 44) lC_0 rfl flX7_23 dX7_count_59 ?_
      refine R_iconst (pc := 62) (by decide) dX7_count_62 ?_
      have g0 : (0 : Int) ≤ 1 := by decide
      have g1 : (1 : Int) < 2 := by decide
      refine R_zaload (pc := 63) lC_44 g0 g1 dX7_count_63 ?_
      refine R_if_eq (pc := 64) (tgt := 71) (by decide) dX7_count_64 (fun c => ?_) (fun c => ?_)
      · have h := h.1 c
        refine R_iconst (pc := 71) (by decide) dX7_count_71 ?_
        obtain ⟨g, h⟩ := h
        refine R_iadd (pc := 72) g dX7_count_72 ?_
        exact R_iret (pc := 73) rfl dX7_count_73 ⟨_, rfl, h⟩
      · have h := h.2 c
        refine R_iconst (pc := 67) (by decide) dX7_count_67 ?_
        refine R_goto (pc := 68) (tgt := 72) (by decide) dX7_count_68 ?_
        obtain ⟨g, h⟩ := h
        refine R_iadd (pc := 72) g dX7_count_72 ?_
        exact R_iret (pc := 73) rfl dX7_count_73 ⟨_, rfl, h⟩
    · have h := h.2 c
      refine R_iconst (pc := 53) (by decide) dX7_count_53 ?_
      refine R_goto (pc := 54) (tgt := 58) (by decide) dX7_count_54 ?_
      refine R_aload_n (pc := 58) 0 rfl rfl dX7_count_58 ?_
      refine R_getP (pc := 59) (q' := 44) lC_0 rfl flX7_23 dX7_count_59 ?_
      refine R_iconst (pc := 62) (by decide) dX7_count_62 ?_
      have g0 : (0 : Int) ≤ 1 := by decide
      have g1 : (1 : Int) < 2 := by decide
      refine R_zaload (pc := 63) lC_44 g0 g1 dX7_count_63 ?_
      refine R_if_eq (pc := 64) (tgt := 71) (by decide) dX7_count_64 (fun c => ?_) (fun c => ?_)
      · have h := h.1 c
        refine R_iconst (pc := 71) (by decide) dX7_count_71 ?_
        obtain ⟨g, h⟩ := h
        refine R_iadd (pc := 72) g dX7_count_72 ?_
        exact R_iret (pc := 73) rfl dX7_count_73 ⟨_, rfl, h⟩
      · have h := h.2 c
        refine R_iconst (pc := 67) (by decide) dX7_count_67 ?_
        refine R_goto (pc := 68) (tgt := 72) (by decide) dX7_count_68 ?_
        obtain ⟨g, h⟩ := h
        refine R_iadd (pc := 72) g dX7_count_72 ?_
        exact R_iret (pc := 73) rfl dX7_count_73 ⟨_, rfl, h⟩
  by_cases c2 : x1 = 2
  · have h := h.2.2.1 c2
    refine R_tableIn (pc := 1) (tgt := 74) 2 (by omega) (by omega) rfl (by decide) dX7_count_1 ?_
    refine R_aload_n (pc := 74) 0 rfl rfl dX7_count_74 ?_
    refine R_getP (pc := 75) (q' := 36) lC_0 rfl flX7_40 dX7_count_75 ?_
    refine R_getP (pc := 78) (q' := 37) lC_36 rfl flX7_77 dX7_count_78 ?_
    refine R_getI (pc := 81) lC_37 rfl flX7_87 dX7_count_81 ?_
    exact R_iret (pc := 84) rfl dX7_count_84 ⟨_, rfl, h⟩
  by_cases c3 : x1 = 3
  · have h := h.2.2.2.1 c3
    refine R_tableIn (pc := 1) (tgt := 85) 3 (by omega) (by omega) rfl (by decide) dX7_count_1 ?_
    refine R_aload_n (pc := 85) 0 rfl rfl dX7_count_85 ?_
    refine R_getP (pc := 86) (q' := 46) lC_0 rfl flX7_64 dX7_count_86 ?_
    refine R_iconst (pc := 89) (by decide) dX7_count_89 ?_
    refine R_aaload5 (pc := 90) (q' := 47) lC_46 (by decide) (by decide) rfl dX7_count_90 ?_
    refine R_getI (pc := 91) lC_47 rfl flX7_278 dX7_count_91 ?_
    refine R_if_ge (pc := 94) (tgt := 102) (by decide) dX7_count_94 (fun c => ?_) (fun c => ?_)
    · have h := h.1 c
      refine R_aload_n (pc := 102) 0 rfl rfl dX7_count_102 ?_
      refine R_getP (pc := 103) (q' := 46) lC_0 rfl flX7_64 dX7_count_103 ?_
      refine R_iconst (pc := 106) (by decide) dX7_count_106 ?_
      refine R_aaload5 (pc := 107) (q' := 47) lC_46 (by decide) (by decide) rfl dX7_count_107 ?_
      refine R_getI (pc := 108) lC_47 rfl flX7_278 dX7_count_108 ?_
      exact R_iret (pc := 111) rfl dX7_count_111 ⟨_, rfl, h⟩
    · have h := h.2 c
      refine R_bipush (pc := 97) (by decide) dX7_count_97 ?_
      refine R_goto (pc := 99) (tgt := 111) (by decide) dX7_count_99 ?_
      exact R_iret (pc := 111) rfl dX7_count_111 ⟨_, rfl, h⟩
  by_cases c4 : x1 = 4
  · have h := h.2.2.2.2.1 c4
    refine R_tableIn (pc := 1) (tgt := 112) 4 (by omega) (by omega) rfl (by decide) dX7_count_1 ?_
    refine R_aload_n (pc := 112) 0 rfl rfl dX7_count_112 ?_
    refine R_getP (pc := 113) (q' := 1) lC_0 rfl flX7_10 dX7_count_113 ?_
    refine R_getI (pc := 116) lC_1 rfl flX7_112 dX7_count_116 ?_
    refine R_aload_n (pc := 119) 0 rfl rfl dX7_count_119 ?_
    refine R_callVP (pc := 120) (as := []) (st := [vI (σ 1 0)]) rfl rfl kX7_partNow sX7_partNow lC_0 rfl w_2_217 (ltb rfl) rfl (leb rfl) dX7_count_120 h (fun r2 σ1 h => ?_)
    obtain ⟨rfl, h⟩ := h
    refine R_callVI (pc := 123) (as := []) (st := [vI (σ 1 0)]) rfl rfl kX2_given sX2_given lC_26 rfl w_3_31 (ltb rfl) rfl (leb rfl) dX7_count_123 h (fun r4 σ3 h => ?_)
    obtain ⟨g, h⟩ := h
    refine R_isub (pc := 126) g dX7_count_126 ?_
    exact R_iret (pc := 127) rfl dX7_count_127 ⟨_, rfl, h⟩
  have cD : x1 < 0 ∨ 4 < x1 := by omega
  have h := h.2.2.2.2.2 cD
  refine R_tableOut (pc := 1) (tgt := 128) cD (by decide) dX7_count_1 ?_
  refine R_iconst (pc := 128) (by decide) dX7_count_128 ?_
  exact R_iret (pc := 129) rfl dX7_count_129 ⟨_, rfl, h⟩
def LX7_gains_41 (x1 : Int) (x2 : Int) (x3 : Int) (x4 : Int) (x5 : Int) (x6 : Int) (σ : Mem) (Q : Int → Mem → Prop) : Prop := Rn layC MX7_gains 41 [(0, vP 0), (1, vI x1), (2, vI x2), (3, vI x3), (4, vI x4), (5, vI x5), (6, vI x6)] [] σ (qI Q)
theorem X7_gains_41 {x1 x2 x3 x4 x5 x6 : Int} {σ : Mem} {Q : Int → Mem → Prop} (h : (((σ 1 2) ≤ x6 → ((x2 = 0 → Q x5 σ) ∧ (x2 ≠ 0 → ((x5 ≠ (-4) → Q x4 σ) ∧ (x5 = (-4) → Q x5 σ))))) ∧ (x6 < (σ 1 2) → ((x6 ≠ x1 → CI layC MX7_getsWithout [vP 0, vI x1, vI x6] σ (fun r2 σ1 => I32 (r2 - x3) ∧ (((r2 - x3) ≤ x4 → I32 (x6 + 1) ∧ LX7_gains_41 x1 x2 x3 x4 x5 (x6 + 1) σ1 Q) ∧ (x4 < (r2 - x3) → I32 (x6 + 1) ∧ LX7_gains_41 x1 x2 x3 (r2 - x3) x6 (x6 + 1) σ1 Q)))) ∧ (x6 = x1 → ((0 ≤ x4 → I32 (x6 + 1) ∧ LX7_gains_41 x1 x2 x3 x4 x5 (x6 + 1) σ Q) ∧ (x4 < 0 → I32 (x6 + 1) ∧ LX7_gains_41 x1 x2 x3 0 x6 (x6 + 1) σ Q))))))) : LX7_gains_41 x1 x2 x3 x4 x5 x6 σ Q := by
  unfold LX7_gains_41
  refine R_iload (pc := 41) 6 rfl dX7_gains_41 ?_
  refine R_aload_n (pc := 43) 0 rfl rfl dX7_gains_43 ?_
  refine R_getP (pc := 44) (q' := 1) lC_0 rfl flX7_10 dX7_gains_44 ?_
  refine R_getI (pc := 47) lC_1 rfl flX7_109 dX7_gains_47 ?_
  refine R_icmp_ge (pc := 50) (tgt := 95) (by decide) dX7_gains_50 (fun c => ?_) (fun c => ?_)
  · have h := h.1 c
    refine R_iload_n (pc := 95) 2 rfl rfl dX7_gains_95 ?_
    refine R_if_eq (pc := 96) (tgt := 106) (by decide) dX7_gains_96 (fun c => ?_) (fun c => ?_)
    · have h := h.1 c
      refine R_iload (pc := 106) 5 rfl dX7_gains_106 ?_
      refine R_goto (pc := 108) (tgt := 113) (by decide) dX7_gains_108 ?_
      exact R_iret (pc := 113) rfl dX7_gains_113 ⟨_, rfl, h⟩
    · have h := h.2 c
      refine R_iload (pc := 99) 5 rfl dX7_gains_99 ?_
      refine R_bipush (pc := 101) (by decide) dX7_gains_101 ?_
      refine R_icmp_ne (pc := 103) (tgt := 111) (by decide) dX7_gains_103 (fun c => ?_) (fun c => ?_)
      · have h := h.1 c
        refine R_iload (pc := 111) 4 rfl dX7_gains_111 ?_
        exact R_iret (pc := 113) rfl dX7_gains_113 ⟨_, rfl, h⟩
      · have h := h.2 c
        refine R_iload (pc := 106) 5 rfl dX7_gains_106 ?_
        refine R_goto (pc := 108) (tgt := 113) (by decide) dX7_gains_108 ?_
        exact R_iret (pc := 113) rfl dX7_gains_113 ⟨_, rfl, h⟩
  · have h := h.2 c
    refine R_iload (pc := 53) 6 rfl dX7_gains_53 ?_
    refine R_iload_n (pc := 55) 1 rfl rfl dX7_gains_55 ?_
    refine R_icmp_ne (pc := 56) (tgt := 63) (by decide) dX7_gains_56 (fun c => ?_) (fun c => ?_)
    · have h := h.1 c
      refine R_aload_n (pc := 63) 0 rfl rfl dX7_gains_63 ?_
      refine R_iload_n (pc := 64) 1 rfl rfl dX7_gains_64 ?_
      refine R_iload (pc := 65) 6 rfl dX7_gains_65 ?_
      refine R_callVI (pc := 67) (as := [vI x1, vI x6]) (st := []) rfl rfl kX7_getsWithout sX7_getsWithout lC_0 rfl w_3_192 (ltb rfl) rfl (leb rfl) dX7_gains_67 h (fun r2 σ1 h => ?_)
      refine R_iload_n (pc := 70) 3 rfl rfl dX7_gains_70 ?_
      obtain ⟨g, h⟩ := h
      refine R_isub (pc := 71) g dX7_gains_71 ?_
      refine R_istore (pc := 72) (ls' := [(7, vI (r2 - x3)), (0, vP 0), (1, vI x1), (2, vI x2), (3, vI x3), (4, vI x4), (5, vI x5), (6, vI x6)]) rfl (ltb rfl) dX7_gains_72 ?_
      refine R_iload (pc := 74) 0 rfl dX7_gains_74 ?_
      refine R_iload (pc := 76) 5 rfl dX7_gains_76 ?_
      refine R_icmp_le (pc := 78) (tgt := 89) (by decide) dX7_gains_78 (fun c => ?_) (fun c => ?_)
      · have h := h.1 c
        obtain ⟨g, h⟩ := h
        refine R_iinc (pc := 89) 7 rfl rfl g (ls' := [(6, vI (x6 + 1)), (7, vI (r2 - x3)), (0, vP 0), (1, vI x1), (2, vI x2), (3, vI x3), (4, vI x4), (5, vI x5)]) rfl (ltb rfl) dX7_gains_89 ?_
        refine R_goto (pc := 92) (tgt := 41) (by decide) dX7_gains_92 ?_
        refine R_sub [2, 3, 4, 5, 6, 7, 0] rfl ?_
        exact h
      · have h := h.2 c
        refine R_iload (pc := 81) 0 rfl dX7_gains_81 ?_
        refine R_istore (pc := 83) (ls' := [(4, vI (r2 - x3)), (7, vI (r2 - x3)), (0, vP 0), (1, vI x1), (2, vI x2), (3, vI x3), (5, vI x5), (6, vI x6)]) rfl (ltb rfl) dX7_gains_83 ?_
        refine R_iload (pc := 85) 7 rfl dX7_gains_85 ?_
        refine R_istore (pc := 87) (ls' := [(5, vI x6), (4, vI (r2 - x3)), (7, vI (r2 - x3)), (0, vP 0), (1, vI x1), (2, vI x2), (3, vI x3), (6, vI x6)]) rfl (ltb rfl) dX7_gains_87 ?_
        obtain ⟨g, h⟩ := h
        refine R_iinc (pc := 89) 7 rfl rfl g (ls' := [(6, vI (x6 + 1)), (5, vI x6), (4, vI (r2 - x3)), (7, vI (r2 - x3)), (0, vP 0), (1, vI x1), (2, vI x2), (3, vI x3)]) rfl (ltb rfl) dX7_gains_89 ?_
        refine R_goto (pc := 92) (tgt := 41) (by decide) dX7_gains_92 ?_
        refine R_sub [4, 5, 6, 7, 2, 1, 0] rfl ?_
        exact h
    · have h := h.2 c
      refine R_iconst (pc := 59) (by decide) dX7_gains_59 ?_
      refine R_goto (pc := 60) (tgt := 72) (by decide) dX7_gains_60 ?_
      refine R_istore (pc := 72) (ls' := [(7, vI 0), (0, vP 0), (1, vI x1), (2, vI x2), (3, vI x3), (4, vI x4), (5, vI x5), (6, vI x6)]) rfl (ltb rfl) dX7_gains_72 ?_
      refine R_iload (pc := 74) 0 rfl dX7_gains_74 ?_
      refine R_iload (pc := 76) 5 rfl dX7_gains_76 ?_
      refine R_icmp_le (pc := 78) (tgt := 89) (by decide) dX7_gains_78 (fun c => ?_) (fun c => ?_)
      · have h := h.1 c
        obtain ⟨g, h⟩ := h
        refine R_iinc (pc := 89) 7 rfl rfl g (ls' := [(6, vI (x6 + 1)), (7, vI 0), (0, vP 0), (1, vI x1), (2, vI x2), (3, vI x3), (4, vI x4), (5, vI x5)]) rfl (ltb rfl) dX7_gains_89 ?_
        refine R_goto (pc := 92) (tgt := 41) (by decide) dX7_gains_92 ?_
        refine R_sub [2, 3, 4, 5, 6, 7, 0] rfl ?_
        exact h
      · have h := h.2 c
        refine R_iload (pc := 81) 0 rfl dX7_gains_81 ?_
        refine R_istore (pc := 83) (ls' := [(4, vI 0), (7, vI 0), (0, vP 0), (1, vI x1), (2, vI x2), (3, vI x3), (5, vI x5), (6, vI x6)]) rfl (ltb rfl) dX7_gains_83 ?_
        refine R_iload (pc := 85) 7 rfl dX7_gains_85 ?_
        refine R_istore (pc := 87) (ls' := [(5, vI x6), (4, vI 0), (7, vI 0), (0, vP 0), (1, vI x1), (2, vI x2), (3, vI x3), (6, vI x6)]) rfl (ltb rfl) dX7_gains_87 ?_
        obtain ⟨g, h⟩ := h
        refine R_iinc (pc := 89) 7 rfl rfl g (ls' := [(6, vI (x6 + 1)), (5, vI x6), (4, vI 0), (7, vI 0), (0, vP 0), (1, vI x1), (2, vI x2), (3, vI x3)]) rfl (ltb rfl) dX7_gains_89 ?_
        refine R_goto (pc := 92) (tgt := 41) (by decide) dX7_gains_92 ?_
        refine R_sub [4, 5, 6, 7, 2, 1, 0] rfl ?_
        exact h
theorem X7_gains_E {x1 x2 : Int} {σ : Mem} {Q : Int → Mem → Prop} (h : CI layC MX0_has [vP 1, vI x1] σ (fun r2 σ1 => ((r2 = 0 → Q (-1) σ1) ∧ (r2 ≠ 0 → CI layC MX7_within [vI x2, vI 0, vI 1] σ1 (fun r4 σ3 => ((r4 ≠ 0 → CP layC MX7_partNow [vP 0] σ3 (fun r6 σ5 => r6 = 26 ∧ CI layC MX2_got [vP 26, vI x1] σ5 (fun r8 σ7 => LX7_gains_41 x1 x2 r8 0 (-4) 0 σ7 Q))) ∧ (r4 = 0 → Q (-1) σ3))))))) : CI layC MX7_gains [vP 0, vI x1, vI x2] σ Q := by
  refine Cl.ofR (ls := [(0, vP 0), (1, vI x1), (2, vI x2)]) (show plainName RX7 = true by decide +kernel) (leb rfl) rfl ?_
  refine R_aload_n (pc := 0) 0 rfl rfl dX7_gains_0 ?_
  refine R_getP (pc := 1) (q' := 1) lC_0 rfl flX7_10 dX7_gains_1 ?_
  refine R_iload_n (pc := 4) 1 rfl rfl dX7_gains_4 ?_
  refine R_callVI (pc := 5) (as := [vI x1]) (st := []) rfl rfl kX0_has sX0_has lC_1 rfl w_3_36 (ltb rfl) rfl (leb rfl) dX7_gains_5 h (fun r2 σ1 h => ?_)
  refine R_if_eq (pc := 8) (tgt := 20) (by decide) dX7_gains_8 (fun c => ?_) (fun c => ?_)
  · have h := h.1 c
    refine R_iconst (pc := 20) (by decide) dX7_gains_20 ?_
    exact R_iret (pc := 21) rfl dX7_gains_21 ⟨_, rfl, h⟩
  · have h := h.2 c
    refine R_iload_n (pc := 11) 2 rfl rfl dX7_gains_11 ?_
    refine R_iconst (pc := 12) (by decide) dX7_gains_12 ?_
    refine R_iconst (pc := 13) (by decide) dX7_gains_13 ?_
    refine R_callSI (pc := 14) (as := [vI x2, vI 0, vI 1]) (st := []) rfl rfl kX7_within sX7_within w_2_47 (ltb rfl) rfl (leb rfl) dX7_gains_14 h (fun r4 σ3 h => ?_)
    refine R_if_ne (pc := 17) (tgt := 22) (by decide) dX7_gains_17 (fun c => ?_) (fun c => ?_)
    · have h := h.1 c
      refine R_aload_n (pc := 22) 0 rfl rfl dX7_gains_22 ?_
      refine R_callVP (pc := 23) (as := []) (st := []) rfl rfl kX7_partNow sX7_partNow lC_0 rfl w_2_217 (ltb rfl) rfl (leb rfl) dX7_gains_23 h (fun r6 σ5 h => ?_)
      obtain ⟨rfl, h⟩ := h
      refine R_iload_n (pc := 26) 1 rfl rfl dX7_gains_26 ?_
      refine R_callVI (pc := 27) (as := [vI x1]) (st := []) rfl rfl kX2_got sX2_got lC_26 rfl w_3_40 (ltb rfl) rfl (leb rfl) dX7_gains_27 h (fun r8 σ7 h => ?_)
      refine R_istore_n (pc := 30) (ls' := [(3, vI r8), (0, vP 0), (1, vI x1), (2, vI x2)]) rfl rfl (ltb rfl) dX7_gains_30 ?_
      refine R_iconst (pc := 31) (by decide) dX7_gains_31 ?_
      refine R_istore (pc := 32) (ls' := [(4, vI 0), (3, vI r8), (0, vP 0), (1, vI x1), (2, vI x2)]) rfl (ltb rfl) dX7_gains_32 ?_
      refine R_bipush (pc := 34) (by decide) dX7_gains_34 ?_
      refine R_istore (pc := 36) (ls' := [(5, vI (-4)), (4, vI 0), (3, vI r8), (0, vP 0), (1, vI x1), (2, vI x2)]) rfl (ltb rfl) dX7_gains_36 ?_
      refine R_iconst (pc := 38) (by decide) dX7_gains_38 ?_
      refine R_istore (pc := 39) (ls' := [(6, vI 0), (5, vI (-4)), (4, vI 0), (3, vI r8), (0, vP 0), (1, vI x1), (2, vI x2)]) rfl (ltb rfl) dX7_gains_39 ?_
      refine R_sub [4, 5, 6, 3, 2, 1, 0] rfl ?_
      exact h
    · have h := h.2 c
      refine R_iconst (pc := 20) (by decide) dX7_gains_20 ?_
      exact R_iret (pc := 21) rfl dX7_gains_21 ⟨_, rfl, h⟩
theorem X7_heir_E {x1 x2 : Int} {σ : Mem} {Q : Int → Mem → Prop} (h : CI layC MX0_has [vP 1, vI x1] σ (fun r2 σ1 => ((r2 ≠ 0 → ((x2 = 0 → 0 ≤ x1 ∧ x1 < 5 ∧ Q (σ1 2 x1) σ1) ∧ (x2 = 1 → 0 ≤ x1 ∧ x1 < 5 ∧ Q (σ1 3 x1) σ1) ∧ (x2 = 2 → CP layC MX7_partNow [vP 0] σ1 (fun r4 σ3 => r4 = 26 ∧ CI layC MX2_got [vP 26, vI x1] σ3 (fun r6 σ5 => Q r6 σ5))) ∧ (x2 = 3 → CP layC MX7_partNow [vP 0] σ1 (fun r8 σ7 => r8 = 26 ∧ CI layC MX2_isOff [vP 26, vI x1] σ7 (fun r10 σ9 => ((r10 = 0 → Q 0 σ9) ∧ (r10 ≠ 0 → Q 1 σ9))))) ∧ (x2 < 0 ∨ 3 < x2 → Q (-1) σ1))) ∧ (r2 = 0 → Q (-1) σ1)))) : CI layC MX7_heir [vP 0, vI x1, vI x2] σ Q := by
  refine Cl.ofR (ls := [(0, vP 0), (1, vI x1), (2, vI x2)]) (show plainName RX7 = true by decide +kernel) (leb rfl) rfl ?_
  refine R_aload_n (pc := 0) 0 rfl rfl dX7_heir_0 ?_
  refine R_getP (pc := 1) (q' := 1) lC_0 rfl flX7_10 dX7_heir_1 ?_
  refine R_iload_n (pc := 4) 1 rfl rfl dX7_heir_4 ?_
  refine R_callVI (pc := 5) (as := [vI x1]) (st := []) rfl rfl kX0_has sX0_has lC_1 rfl w_3_36 (ltb rfl) rfl (leb rfl) dX7_heir_5 h (fun r2 σ1 h => ?_)
  refine R_if_ne (pc := 8) (tgt := 13) (by decide) dX7_heir_8 (fun c => ?_) (fun c => ?_)
  · have h := h.1 c
    refine R_iload_n (pc := 13) 2 rfl rfl dX7_heir_13 ?_
    by_cases c0 : x2 = 0
    · have h := h.1 c0
      refine R_tableIn (pc := 14) (tgt := 44) 0 (by omega) (by omega) rfl (by decide) dX7_heir_14 ?_
      refine R_aload_n (pc := 44) 0 rfl rfl dX7_heir_44 ?_
      refine R_getP (pc := 45) (q' := 1) lC_0 rfl flX7_10 dX7_heir_45 ?_
      refine R_getP (pc := 48) (q' := 2) lC_1 rfl flX7_146 dX7_heir_48 ?_
      refine R_iload_n (pc := 51) 1 rfl rfl dX7_heir_51 ?_
      obtain ⟨g0, g1, h⟩ := h
      refine R_iaload (pc := 52) lC_2 g0 g1 dX7_heir_52 ?_
      exact R_iret (pc := 53) rfl dX7_heir_53 ⟨_, rfl, h⟩
    by_cases c1 : x2 = 1
    · have h := h.2.1 c1
      refine R_tableIn (pc := 14) (tgt := 54) 1 (by omega) (by omega) rfl (by decide) dX7_heir_14 ?_
      refine R_aload_n (pc := 54) 0 rfl rfl dX7_heir_54 ?_
      refine R_getP (pc := 55) (q' := 1) lC_0 rfl flX7_10 dX7_heir_55 ?_
      refine R_getP (pc := 58) (q' := 3) lC_1 rfl flX7_149 dX7_heir_58 ?_
      refine R_iload_n (pc := 61) 1 rfl rfl dX7_heir_61 ?_
      obtain ⟨g0, g1, h⟩ := h
      refine R_iaload (pc := 62) lC_3 g0 g1 dX7_heir_62 ?_
      exact R_iret (pc := 63) rfl dX7_heir_63 ⟨_, rfl, h⟩
    by_cases c2 : x2 = 2
    · have h := h.2.2.1 c2
      refine R_tableIn (pc := 14) (tgt := 64) 2 (by omega) (by omega) rfl (by decide) dX7_heir_14 ?_
      refine R_aload_n (pc := 64) 0 rfl rfl dX7_heir_64 ?_
      refine R_callVP (pc := 65) (as := []) (st := []) rfl rfl kX7_partNow sX7_partNow lC_0 rfl w_2_217 (ltb rfl) rfl (leb rfl) dX7_heir_65 h (fun r4 σ3 h => ?_)
      obtain ⟨rfl, h⟩ := h
      refine R_iload_n (pc := 68) 1 rfl rfl dX7_heir_68 ?_
      refine R_callVI (pc := 69) (as := [vI x1]) (st := []) rfl rfl kX2_got sX2_got lC_26 rfl w_3_40 (ltb rfl) rfl (leb rfl) dX7_heir_69 h (fun r6 σ5 h => ?_)
      exact R_iret (pc := 72) rfl dX7_heir_72 ⟨_, rfl, h⟩
    by_cases c3 : x2 = 3
    · have h := h.2.2.2.1 c3
      refine R_tableIn (pc := 14) (tgt := 73) 3 (by omega) (by omega) rfl (by decide) dX7_heir_14 ?_
      refine R_aload_n (pc := 73) 0 rfl rfl dX7_heir_73 ?_
      refine R_callVP (pc := 74) (as := []) (st := []) rfl rfl kX7_partNow sX7_partNow lC_0 rfl w_2_217 (ltb rfl) rfl (leb rfl) dX7_heir_74 h (fun r8 σ7 h => ?_)
      obtain ⟨rfl, h⟩ := h
      refine R_iload_n (pc := 77) 1 rfl rfl dX7_heir_77 ?_
      refine R_callVI (pc := 78) (as := [vI x1]) (st := []) rfl rfl kX2_isOff sX2_isOff lC_26 rfl w_3_44 (ltb rfl) rfl (leb rfl) dX7_heir_78 h (fun r10 σ9 h => ?_)
      refine R_if_eq (pc := 81) (tgt := 88) (by decide) dX7_heir_81 (fun c => ?_) (fun c => ?_)
      · have h := h.1 c
        refine R_iconst (pc := 88) (by decide) dX7_heir_88 ?_
        exact R_iret (pc := 89) rfl dX7_heir_89 ⟨_, rfl, h⟩
      · have h := h.2 c
        refine R_iconst (pc := 84) (by decide) dX7_heir_84 ?_
        refine R_goto (pc := 85) (tgt := 89) (by decide) dX7_heir_85 ?_
        exact R_iret (pc := 89) rfl dX7_heir_89 ⟨_, rfl, h⟩
    have cD : x2 < 0 ∨ 3 < x2 := by omega
    have h := h.2.2.2.2 cD
    refine R_tableOut (pc := 14) (tgt := 90) cD (by decide) dX7_heir_14 ?_
    refine R_iconst (pc := 90) (by decide) dX7_heir_90 ?_
    exact R_iret (pc := 91) rfl dX7_heir_91 ⟨_, rfl, h⟩
  · have h := h.2 c
    refine R_iconst (pc := 11) (by decide) dX7_heir_11 ?_
    exact R_iret (pc := 12) rfl dX7_heir_12 ⟨_, rfl, h⟩
