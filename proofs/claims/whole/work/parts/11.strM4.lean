theorem X8_count_E {x1 : Int} {σ : Mem} {Q : Int → Mem → Prop} (h : CV layM MX8_starts [vP 0] σ (fun σ1 => CV layM MX8_givesNow [vP 0] σ1 (fun σ2 => ((x1 = 0 → Q (σ2 1 13) σ2) ∧ (x1 = 1 → CI layM MX8_flag [vI (σ2 3 0)] σ2 (fun r4 σ3 => CI layM MX8_flag [vI (σ3 3 1)] σ3 (fun r6 σ5 => I32 (r4 + r6) ∧ Q (r4 + r6) σ5))) ∧ (x1 = 2 → Q (σ2 0 7) σ2) ∧ (x1 = 3 → (((σ2 13 0) ≠ (-4) → Q (σ2 14 0) σ2) ∧ ((σ2 13 0) = (-4) → Q (-4) σ2))) ∧ (x1 = 4 → CI layM MX8_allGot [vP 0] σ2 (fun r8 σ7 => I32 ((σ2 1 0) - r8) ∧ Q ((σ2 1 0) - r8) σ7)) ∧ (x1 < 0 ∨ 4 < x1 → Q (-1) σ2))))) : CI layM MX8_count [vP 0, vI x1] σ Q := by
  refine Cl.ofR (ls := [(0, vP 0), (1, vI x1)]) (show plainName RX8 = true by decide +kernel) (leb rfl) rfl ?_
  refine R_aload_n (pc := 0) 0 rfl rfl dX8_count_0 ?_
  refine R_callV0 (pc := 1) (as := []) (st := []) rfl rfl kX8_starts sX8_starts lM_0 rfl w_5_25 (ltb rfl) rfl (leb rfl) dX8_count_1 h (fun σ1 h => ?_)
  refine R_aload_n (pc := 4) 0 rfl rfl dX8_count_4 ?_
  refine R_callV0 (pc := 5) (as := []) (st := []) rfl rfl kX8_givesNow sX8_givesNow lM_0 rfl w_5_33 (ltb rfl) rfl (leb rfl) dX8_count_5 h (fun σ2 h => ?_)
  refine R_iload_n (pc := 8) 1 rfl rfl dX8_count_8 ?_
  by_cases c0 : x1 = 0
  · have h := h.1 c0
    refine R_tableIn (pc := 9) (tgt := 44) 0 (by omega) (by omega) rfl (by decide) dX8_count_9 ?_
    refine R_aload_n (pc := 44) 0 rfl rfl dX8_count_44 ?_
    refine R_getP (pc := 45) (q' := 1) lM_0 rfl flX8_7 dX8_count_45 ?_
    refine R_bipush (pc := 48) (by decide) dX8_count_48 ?_
    have g0 : (0 : Int) ≤ 13 := by decide
    have g1 : (13 : Int) < 78 := by decide
    refine R_iaload (pc := 50) lM_1 g0 g1 dX8_count_50 ?_
    exact R_iret (pc := 51) rfl dX8_count_51 ⟨_, rfl, h⟩
  by_cases c1 : x1 = 1
  · have h := h.2.1 c1
    refine R_tableIn (pc := 9) (tgt := 52) 1 (by omega) (by omega) rfl (by decide) dX8_count_9 ?_
    refine R_aload_n (pc := 52) 0 rfl rfl dX8_count_52 ?_
    refine R_getP (pc := 53) (q' := 3) lM_0 rfl flX8_16 dX8_count_53 ?_
    refine R_iconst (pc := 56) (by decide) dX8_count_56 ?_
    have g0 : (0 : Int) ≤ 0 := by decide
    have g1 : (0 : Int) < 2 := by decide
    refine R_zaload (pc := 57) lM_3 g0 g1 dX8_count_57 ?_
    refine R_callSI (pc := 58) (as := [vI (σ2 3 0)]) (st := []) rfl rfl kX8_flag sX8_flag w_5_70 (ltb rfl) rfl (leb rfl) dX8_count_58 h (fun r4 σ3 h => ?_)
    refine R_aload_n (pc := 61) 0 rfl rfl dX8_count_61 ?_
    refine R_getP (pc := 62) (q' := 3) lM_0 rfl flX8_16 dX8_count_62 ?_
    refine R_iconst (pc := 65) (by decide) dX8_count_65 ?_
    have g0 : (0 : Int) ≤ 1 := by decide
    have g1 : (1 : Int) < 2 := by decide
    refine R_zaload (pc := 66) lM_3 g0 g1 dX8_count_66 ?_
    refine R_callSI (pc := 67) (as := [vI (σ3 3 1)]) (st := [vI r4]) rfl rfl kX8_flag sX8_flag w_5_70 (ltb rfl) rfl (leb rfl) dX8_count_67 h (fun r6 σ5 h => ?_)
    obtain ⟨g, h⟩ := h
    refine R_iadd (pc := 70) g dX8_count_70 ?_
    exact R_iret (pc := 71) rfl dX8_count_71 ⟨_, rfl, h⟩
  by_cases c2 : x1 = 2
  · have h := h.2.2.1 c2
    refine R_tableIn (pc := 9) (tgt := 72) 2 (by omega) (by omega) rfl (by decide) dX8_count_9 ?_
    refine R_aload_n (pc := 72) 0 rfl rfl dX8_count_72 ?_
    refine R_getI (pc := 73) lM_0 rfl flX8_79 dX8_count_73 ?_
    exact R_iret (pc := 76) rfl dX8_count_76 ⟨_, rfl, h⟩
  by_cases c3 : x1 = 3
  · have h := h.2.2.2.1 c3
    refine R_tableIn (pc := 9) (tgt := 77) 3 (by omega) (by omega) rfl (by decide) dX8_count_9 ?_
    refine R_aload_n (pc := 77) 0 rfl rfl dX8_count_77 ?_
    refine R_getP (pc := 78) (q' := 13) lM_0 rfl flX8_48 dX8_count_78 ?_
    refine R_iconst (pc := 81) (by decide) dX8_count_81 ?_
    have g0 : (0 : Int) ≤ 0 := by decide
    have g1 : (0 : Int) < 4 := by decide
    refine R_iaload (pc := 82) lM_13 g0 g1 dX8_count_82 ?_
    refine R_bipush (pc := 83) (by decide) dX8_count_83 ?_
    refine R_icmp_ne (pc := 85) (tgt := 93) (by decide) dX8_count_85 (fun c => ?_) (fun c => ?_)
    · have h := h.1 c
      refine R_aload_n (pc := 93) 0 rfl rfl dX8_count_93 ?_
      refine R_getP (pc := 94) (q' := 14) lM_0 rfl flX8_51 dX8_count_94 ?_
      refine R_iconst (pc := 97) (by decide) dX8_count_97 ?_
      have g0 : (0 : Int) ≤ 0 := by decide
      have g1 : (0 : Int) < 4 := by decide
      refine R_iaload (pc := 98) lM_14 g0 g1 dX8_count_98 ?_
      exact R_iret (pc := 99) rfl dX8_count_99 ⟨_, rfl, h⟩
    · have h := h.2 c
      refine R_bipush (pc := 88) (by decide) dX8_count_88 ?_
      refine R_goto (pc := 90) (tgt := 99) (by decide) dX8_count_90 ?_
      exact R_iret (pc := 99) rfl dX8_count_99 ⟨_, rfl, h⟩
  by_cases c4 : x1 = 4
  · have h := h.2.2.2.2.1 c4
    refine R_tableIn (pc := 9) (tgt := 100) 4 (by omega) (by omega) rfl (by decide) dX8_count_9 ?_
    refine R_aload_n (pc := 100) 0 rfl rfl dX8_count_100 ?_
    refine R_getP (pc := 101) (q' := 1) lM_0 rfl flX8_7 dX8_count_101 ?_
    refine R_iconst (pc := 104) (by decide) dX8_count_104 ?_
    have g0 : (0 : Int) ≤ 0 := by decide
    have g1 : (0 : Int) < 78 := by decide
    refine R_iaload (pc := 105) lM_1 g0 g1 dX8_count_105 ?_
    refine R_aload_n (pc := 106) 0 rfl rfl dX8_count_106 ?_
    refine R_callVI (pc := 107) (as := []) (st := [vI (σ2 1 0)]) rfl rfl kX8_allGot sX8_allGot lM_0 rfl w_5_53 (ltb rfl) rfl (leb rfl) dX8_count_107 h (fun r8 σ7 h => ?_)
    obtain ⟨g, h⟩ := h
    refine R_isub (pc := 110) g dX8_count_110 ?_
    exact R_iret (pc := 111) rfl dX8_count_111 ⟨_, rfl, h⟩
  have cD : x1 < 0 ∨ 4 < x1 := by omega
  have h := h.2.2.2.2.2 cD
  refine R_tableOut (pc := 9) (tgt := 112) cD (by decide) dX8_count_9 ?_
  refine R_iconst (pc := 112) (by decide) dX8_count_112 ?_
  exact R_iret (pc := 113) rfl dX8_count_113 ⟨_, rfl, h⟩
def LX8_gains_42 (x1 : Int) (x2 : Int) (x3 : Int) (x4 : Int) (x5 : Int) (x6 : Int) (σ : Mem) (Q : Int → Mem → Prop) : Prop := Rn layM MX8_gains 42 [(0, vP 0), (1, vI x1), (2, vI x2), (3, vI x3), (4, vI x4), (5, vI x5), (6, vI x6)] [] σ (qI Q)
def LX8_gains_90 (x1 : Int) (x2 : Int) (x3 : Int) (x4 : Int) (x5 : Int) (x6 : Int) (s0 : Int) (σ : Mem) (Q : Int → Mem → Prop) : Prop := Rn layM MX8_gains 90 [(0, vP 0), (1, vI x1), (2, vI x2), (3, vI x3), (4, vI x4), (5, vI x5), (6, vI x6)] [vI s0, vP 7] σ (qI Q)
theorem X8_gains_42 {x1 x2 x3 x4 x5 x6 : Int} {σ : Mem} {Q : Int → Mem → Prop} (h : (((σ 1 1) ≤ x6 → ((x5 ≠ (-4) → ((x2 ≠ 0 → Q x4 σ) ∧ (x2 = 0 → Q x5 σ))) ∧ (x5 = (-4) → Q (-4) σ))) ∧ (x6 < (σ 1 1) → ((x6 = x1 → I32 (x6 + 1) ∧ LX8_gains_42 x1 x2 x3 x4 x5 (x6 + 1) σ Q) ∧ (x6 ≠ x1 → CV layM MX8_starts [vP 0] σ (fun σ1 => CV layM MX8_dropsNow [vP 0, vI x6] σ1 (fun σ2 => CV layM MX8_givesNow [vP 0] σ2 (fun σ3 => ((x1 ≤ x6 → LX8_gains_90 x1 x2 x3 x4 x5 x6 x1 σ3 Q) ∧ (x6 < x1 → I32 (x1 - 1) ∧ LX8_gains_90 x1 x2 x3 x4 x5 x6 (x1 - 1) σ3 Q)))))))))) : LX8_gains_42 x1 x2 x3 x4 x5 x6 σ Q := by
  unfold LX8_gains_42
  refine R_iload (pc := 42) 6 rfl dX8_gains_42 ?_
  refine R_aload_n (pc := 44) 0 rfl rfl dX8_gains_44 ?_
  refine R_getP (pc := 45) (q' := 1) lM_0 rfl flX8_7 dX8_gains_45 ?_
  refine R_iconst (pc := 48) (by decide) dX8_gains_48 ?_
  have g0 : (0 : Int) ≤ 1 := by decide
  have g1 : (1 : Int) < 78 := by decide
  refine R_iaload (pc := 49) lM_1 g0 g1 dX8_gains_49 ?_
  refine R_icmp_ge (pc := 50) (tgt := 133) (by decide) dX8_gains_50 (fun c => ?_) (fun c => ?_)
  · have h := h.1 c
    refine R_iload (pc := 133) 5 rfl dX8_gains_133 ?_
    refine R_bipush (pc := 135) (by decide) dX8_gains_135 ?_
    refine R_icmp_ne (pc := 137) (tgt := 145) (by decide) dX8_gains_137 (fun c => ?_) (fun c => ?_)
    · have h := h.1 c
      refine R_iload_n (pc := 145) 2 rfl rfl dX8_gains_145 ?_
      refine R_if_ne (pc := 146) (tgt := 154) (by decide) dX8_gains_146 (fun c => ?_) (fun c => ?_)
      · have h := h.1 c
        refine R_iload (pc := 154) 4 rfl dX8_gains_154 ?_
        exact R_iret (pc := 156) rfl dX8_gains_156 ⟨_, rfl, h⟩
      · have h := h.2 c
        refine R_iload (pc := 149) 5 rfl dX8_gains_149 ?_
        refine R_goto (pc := 151) (tgt := 156) (by decide) dX8_gains_151 ?_
        exact R_iret (pc := 156) rfl dX8_gains_156 ⟨_, rfl, h⟩
    · have h := h.2 c
      refine R_bipush (pc := 140) (by decide) dX8_gains_140 ?_
      refine R_goto (pc := 142) (tgt := 156) (by decide) dX8_gains_142 ?_
      exact R_iret (pc := 156) rfl dX8_gains_156 ⟨_, rfl, h⟩
  · have h := h.2 c
    refine R_iload (pc := 53) 6 rfl dX8_gains_53 ?_
    refine R_iload_n (pc := 55) 1 rfl rfl dX8_gains_55 ?_
    refine R_icmp_eq (pc := 56) (tgt := 127) (by decide) dX8_gains_56 (fun c => ?_) (fun c => ?_)
    · have h := h.1 c
      obtain ⟨g, h⟩ := h
      refine R_iinc (pc := 127) 6 rfl rfl g (ls' := [(6, vI (x6 + 1)), (0, vP 0), (1, vI x1), (2, vI x2), (3, vI x3), (4, vI x4), (5, vI x5)]) rfl (ltb rfl) dX8_gains_127 ?_
      refine R_goto (pc := 130) (tgt := 42) (by decide) dX8_gains_130 ?_
      refine R_sub [1, 2, 3, 4, 5, 6, 0] rfl ?_
      exact h
    · have h := h.2 c
      refine R_aload_n (pc := 59) 0 rfl rfl dX8_gains_59 ?_
      refine R_callV0 (pc := 60) (as := []) (st := []) rfl rfl kX8_starts sX8_starts lM_0 rfl w_5_25 (ltb rfl) rfl (leb rfl) dX8_gains_60 h (fun σ1 h => ?_)
      refine R_aload_n (pc := 63) 0 rfl rfl dX8_gains_63 ?_
      refine R_iload (pc := 64) 6 rfl dX8_gains_64 ?_
      refine R_callV0 (pc := 66) (as := [vI x6]) (st := []) rfl rfl kX8_dropsNow sX8_dropsNow lM_0 rfl w_5_125 (ltb rfl) rfl (leb rfl) dX8_gains_66 h (fun σ2 h => ?_)
      refine R_aload_n (pc := 69) 0 rfl rfl dX8_gains_69 ?_
      refine R_callV0 (pc := 70) (as := []) (st := []) rfl rfl kX8_givesNow sX8_givesNow lM_0 rfl w_5_33 (ltb rfl) rfl (leb rfl) dX8_gains_70 h (fun σ3 h => ?_)
      refine R_aload_n (pc := 73) 0 rfl rfl dX8_gains_73 ?_
      refine R_getP (pc := 74) (q' := 7) lM_0 rfl flX8_30 dX8_gains_74 ?_
      refine R_iload_n (pc := 77) 1 rfl rfl dX8_gains_77 ?_
      refine R_iload (pc := 78) 6 rfl dX8_gains_78 ?_
      refine R_icmp_le (pc := 80) (tgt := 89) (by decide) dX8_gains_80 (fun c => ?_) (fun c => ?_)
      · have h := h.1 c
        refine R_iload_n (pc := 89) 1 rfl rfl dX8_gains_89 ?_
        exact h
      · have h := h.2 c
        refine R_iload_n (pc := 83) 1 rfl rfl dX8_gains_83 ?_
        refine R_iconst (pc := 84) (by decide) dX8_gains_84 ?_
        obtain ⟨g, h⟩ := h
        refine R_isub (pc := 85) g dX8_gains_85 ?_
        refine R_goto (pc := 86) (tgt := 90) (by decide) dX8_gains_86 ?_
        exact h
theorem X8_gains_90 {x1 x2 x3 x4 x5 x6 s0 : Int} {σ : Mem} {Q : Int → Mem → Prop} (h : 0 ≤ s0 ∧ s0 < 5 ∧ I32 ((σ 7 s0) - x3) ∧ ((((σ 7 s0) - x3) ≤ x4 → ((((σ 7 s0) - x3) ≤ x4 → I32 (x6 + 1) ∧ LX8_gains_42 x1 x2 x3 x4 x5 (x6 + 1) σ Q) ∧ (x4 < ((σ 7 s0) - x3) → I32 (x6 + 1) ∧ LX8_gains_42 x1 x2 x3 ((σ 7 s0) - x3) x5 (x6 + 1) σ Q))) ∧ (x4 < ((σ 7 s0) - x3) → ((((σ 7 s0) - x3) ≤ x4 → I32 (x6 + 1) ∧ LX8_gains_42 x1 x2 x3 x4 x6 (x6 + 1) σ Q) ∧ (x4 < ((σ 7 s0) - x3) → I32 (x6 + 1) ∧ LX8_gains_42 x1 x2 x3 ((σ 7 s0) - x3) x6 (x6 + 1) σ Q))))) : LX8_gains_90 x1 x2 x3 x4 x5 x6 s0 σ Q := by
  unfold LX8_gains_90
  obtain ⟨g0, g1, h⟩ := h
  refine R_iaload (pc := 90) lM_7 g0 g1 dX8_gains_90 ?_
  refine R_iload_n (pc := 91) 3 rfl rfl dX8_gains_91 ?_
  obtain ⟨g, h⟩ := h
  refine R_isub (pc := 92) g dX8_gains_92 ?_
  refine R_istore (pc := 93) (ls' := [(7, vI ((σ 7 s0) - x3)), (0, vP 0), (1, vI x1), (2, vI x2), (3, vI x3), (4, vI x4), (5, vI x5), (6, vI x6)]) rfl (ltb rfl) dX8_gains_93 ?_
  refine R_iload (pc := 95) 0 rfl dX8_gains_95 ?_
  refine R_iload (pc := 97) 5 rfl dX8_gains_97 ?_
  refine R_icmp_le (pc := 99) (tgt := 107) (by decide) dX8_gains_99 (fun c => ?_) (fun c => ?_)
  · have h := h.1 c
    refine R_iload (pc := 107) 6 rfl dX8_gains_107 ?_
    refine R_istore (pc := 109) (ls' := [(5, vI x5), (7, vI ((σ 7 s0) - x3)), (0, vP 0), (1, vI x1), (2, vI x2), (3, vI x3), (4, vI x4), (6, vI x6)]) rfl (ltb rfl) dX8_gains_109 ?_
    refine R_iload (pc := 111) 1 rfl dX8_gains_111 ?_
    refine R_iload (pc := 113) 6 rfl dX8_gains_113 ?_
    refine R_icmp_le (pc := 115) (tgt := 123) (by decide) dX8_gains_115 (fun c => ?_) (fun c => ?_)
    · have h := h.1 c
      refine R_iload (pc := 123) 6 rfl dX8_gains_123 ?_
      refine R_istore (pc := 125) (ls' := [(4, vI x4), (5, vI x5), (7, vI ((σ 7 s0) - x3)), (0, vP 0), (1, vI x1), (2, vI x2), (3, vI x3), (6, vI x6)]) rfl (ltb rfl) dX8_gains_125 ?_
      obtain ⟨g, h⟩ := h
      refine R_iinc (pc := 127) 7 rfl rfl g (ls' := [(6, vI (x6 + 1)), (4, vI x4), (5, vI x5), (7, vI ((σ 7 s0) - x3)), (0, vP 0), (1, vI x1), (2, vI x2), (3, vI x3)]) rfl (ltb rfl) dX8_gains_127 ?_
      refine R_goto (pc := 130) (tgt := 42) (by decide) dX8_gains_130 ?_
      refine R_sub [4, 5, 6, 7, 1, 2, 0] rfl ?_
      exact h
    · have h := h.2 c
      refine R_iload (pc := 118) 1 rfl dX8_gains_118 ?_
      refine R_goto (pc := 120) (tgt := 125) (by decide) dX8_gains_120 ?_
      refine R_istore (pc := 125) (ls' := [(4, vI ((σ 7 s0) - x3)), (5, vI x5), (7, vI ((σ 7 s0) - x3)), (0, vP 0), (1, vI x1), (2, vI x2), (3, vI x3), (6, vI x6)]) rfl (ltb rfl) dX8_gains_125 ?_
      obtain ⟨g, h⟩ := h
      refine R_iinc (pc := 127) 7 rfl rfl g (ls' := [(6, vI (x6 + 1)), (4, vI ((σ 7 s0) - x3)), (5, vI x5), (7, vI ((σ 7 s0) - x3)), (0, vP 0), (1, vI x1), (2, vI x2), (3, vI x3)]) rfl (ltb rfl) dX8_gains_127 ?_
      refine R_goto (pc := 130) (tgt := 42) (by decide) dX8_gains_130 ?_
      refine R_sub [4, 5, 6, 7, 1, 2, 0] rfl ?_
      exact h
  · have h := h.2 c
    refine R_iload (pc := 102) 7 rfl dX8_gains_102 ?_
    refine R_goto (pc := 104) (tgt := 109) (by decide) dX8_gains_104 ?_
    refine R_istore (pc := 109) (ls' := [(5, vI x6), (7, vI ((σ 7 s0) - x3)), (0, vP 0), (1, vI x1), (2, vI x2), (3, vI x3), (4, vI x4), (6, vI x6)]) rfl (ltb rfl) dX8_gains_109 ?_
    refine R_iload (pc := 111) 1 rfl dX8_gains_111 ?_
    refine R_iload (pc := 113) 6 rfl dX8_gains_113 ?_
    refine R_icmp_le (pc := 115) (tgt := 123) (by decide) dX8_gains_115 (fun c => ?_) (fun c => ?_)
    · have h := h.1 c
      refine R_iload (pc := 123) 6 rfl dX8_gains_123 ?_
      refine R_istore (pc := 125) (ls' := [(4, vI x4), (5, vI x6), (7, vI ((σ 7 s0) - x3)), (0, vP 0), (1, vI x1), (2, vI x2), (3, vI x3), (6, vI x6)]) rfl (ltb rfl) dX8_gains_125 ?_
      obtain ⟨g, h⟩ := h
      refine R_iinc (pc := 127) 7 rfl rfl g (ls' := [(6, vI (x6 + 1)), (4, vI x4), (5, vI x6), (7, vI ((σ 7 s0) - x3)), (0, vP 0), (1, vI x1), (2, vI x2), (3, vI x3)]) rfl (ltb rfl) dX8_gains_127 ?_
      refine R_goto (pc := 130) (tgt := 42) (by decide) dX8_gains_130 ?_
      refine R_sub [4, 5, 6, 7, 1, 2, 0] rfl ?_
      exact h
    · have h := h.2 c
      refine R_iload (pc := 118) 1 rfl dX8_gains_118 ?_
      refine R_goto (pc := 120) (tgt := 125) (by decide) dX8_gains_120 ?_
      refine R_istore (pc := 125) (ls' := [(4, vI ((σ 7 s0) - x3)), (5, vI x6), (7, vI ((σ 7 s0) - x3)), (0, vP 0), (1, vI x1), (2, vI x2), (3, vI x3), (6, vI x6)]) rfl (ltb rfl) dX8_gains_125 ?_
      obtain ⟨g, h⟩ := h
      refine R_iinc (pc := 127) 7 rfl rfl g (ls' := [(6, vI (x6 + 1)), (4, vI ((σ 7 s0) - x3)), (5, vI x6), (7, vI ((σ 7 s0) - x3)), (0, vP 0), (1, vI x1), (2, vI x2), (3, vI x3)]) rfl (ltb rfl) dX8_gains_127 ?_
      refine R_goto (pc := 130) (tgt := 42) (by decide) dX8_gains_130 ?_
      refine R_sub [4, 5, 6, 7, 1, 2, 0] rfl ?_
      exact h
theorem X8_gains_E {x1 x2 : Int} {σ : Mem} {Q : Int → Mem → Prop} (h : CI layM MX8_isHeir [vP 0, vI x1] σ (fun r2 σ1 => ((r2 = 0 → Q (-1) σ1) ∧ (r2 ≠ 0 → CI layM MX8_isPart [vI x2] σ1 (fun r4 σ3 => ((r4 ≠ 0 → CV layM MX8_starts [vP 0] σ3 (fun σ5 => CV layM MX8_givesNow [vP 0] σ5 (fun σ6 => 0 ≤ x1 ∧ x1 < 5 ∧ LX8_gains_42 x1 x2 (σ6 7 x1) 0 (-4) 0 σ6 Q))) ∧ (r4 = 0 → Q (-1) σ3))))))) : CI layM MX8_gains [vP 0, vI x1, vI x2] σ Q := by
  refine Cl.ofR (ls := [(0, vP 0), (1, vI x1), (2, vI x2)]) (show plainName RX8 = true by decide +kernel) (leb rfl) rfl ?_
  refine R_aload_n (pc := 0) 0 rfl rfl dX8_gains_0 ?_
  refine R_iload_n (pc := 1) 1 rfl rfl dX8_gains_1 ?_
  refine R_callVI (pc := 2) (as := [vI x1]) (st := []) rfl rfl kX8_isHeir sX8_isHeir lM_0 rfl w_5_61 (ltb rfl) rfl (leb rfl) dX8_gains_2 h (fun r2 σ1 h => ?_)
  refine R_if_eq (pc := 5) (tgt := 15) (by decide) dX8_gains_5 (fun c => ?_) (fun c => ?_)
  · have h := h.1 c
    refine R_iconst (pc := 15) (by decide) dX8_gains_15 ?_
    exact R_iret (pc := 16) rfl dX8_gains_16 ⟨_, rfl, h⟩
  · have h := h.2 c
    refine R_iload_n (pc := 8) 2 rfl rfl dX8_gains_8 ?_
    refine R_callSI (pc := 9) (as := [vI x2]) (st := []) rfl rfl kX8_isPart sX8_isPart w_5_77 (ltb rfl) rfl (leb rfl) dX8_gains_9 h (fun r4 σ3 h => ?_)
    refine R_if_ne (pc := 12) (tgt := 17) (by decide) dX8_gains_12 (fun c => ?_) (fun c => ?_)
    · have h := h.1 c
      refine R_aload_n (pc := 17) 0 rfl rfl dX8_gains_17 ?_
      refine R_callV0 (pc := 18) (as := []) (st := []) rfl rfl kX8_starts sX8_starts lM_0 rfl w_5_25 (ltb rfl) rfl (leb rfl) dX8_gains_18 h (fun σ5 h => ?_)
      refine R_aload_n (pc := 21) 0 rfl rfl dX8_gains_21 ?_
      refine R_callV0 (pc := 22) (as := []) (st := []) rfl rfl kX8_givesNow sX8_givesNow lM_0 rfl w_5_33 (ltb rfl) rfl (leb rfl) dX8_gains_22 h (fun σ6 h => ?_)
      refine R_aload_n (pc := 25) 0 rfl rfl dX8_gains_25 ?_
      refine R_getP (pc := 26) (q' := 7) lM_0 rfl flX8_30 dX8_gains_26 ?_
      refine R_iload_n (pc := 29) 1 rfl rfl dX8_gains_29 ?_
      obtain ⟨g0, g1, h⟩ := h
      refine R_iaload (pc := 30) lM_7 g0 g1 dX8_gains_30 ?_
      refine R_istore_n (pc := 31) (ls' := [(3, vI (σ6 7 x1)), (0, vP 0), (1, vI x1), (2, vI x2)]) rfl rfl (ltb rfl) dX8_gains_31 ?_
      refine R_iconst (pc := 32) (by decide) dX8_gains_32 ?_
      refine R_istore (pc := 33) (ls' := [(4, vI 0), (3, vI (σ6 7 x1)), (0, vP 0), (1, vI x1), (2, vI x2)]) rfl (ltb rfl) dX8_gains_33 ?_
      refine R_bipush (pc := 35) (by decide) dX8_gains_35 ?_
      refine R_istore (pc := 37) (ls' := [(5, vI (-4)), (4, vI 0), (3, vI (σ6 7 x1)), (0, vP 0), (1, vI x1), (2, vI x2)]) rfl (ltb rfl) dX8_gains_37 ?_
      refine R_iconst (pc := 39) (by decide) dX8_gains_39 ?_
      refine R_istore (pc := 40) (ls' := [(6, vI 0), (5, vI (-4)), (4, vI 0), (3, vI (σ6 7 x1)), (0, vP 0), (1, vI x1), (2, vI x2)]) rfl (ltb rfl) dX8_gains_40 ?_
      refine R_sub [4, 5, 6, 3, 2, 1, 0] rfl ?_
      exact h
    · have h := h.2 c
      refine R_iconst (pc := 15) (by decide) dX8_gains_15 ?_
      exact R_iret (pc := 16) rfl dX8_gains_16 ⟨_, rfl, h⟩
theorem X8_heir_E {x1 x2 : Int} {σ : Mem} {Q : Int → Mem → Prop} (h : CI layM MX8_isHeir [vP 0, vI x1] σ (fun r2 σ1 => ((r2 = 0 → Q (-1) σ1) ∧ (r2 ≠ 0 → CI layM MX8_in [vJ x2, vJ 0, vJ 3] σ1 (fun r4 σ3 => ((r4 ≠ 0 → CV layM MX8_starts [vP 0] σ3 (fun σ5 => CV layM MX8_givesNow [vP 0] σ5 (fun σ6 => ((2 ≤ x2 → ((x2 ≠ 2 → CI layM MX8_isOff [vP 0, vI x1, vI (σ6 1 0)] σ6 (fun r8 σ7 => CI layM MX8_flag [vI r8] σ7 (fun r10 σ9 => Q r10 σ9))) ∧ (x2 = 2 → 0 ≤ x1 ∧ x1 < 5 ∧ Q (σ6 7 x1) σ6))) ∧ (x2 < 2 → I32 (2 * x1) ∧ I32 (3 + (2 * x1)) ∧ I32 ((3 + (2 * x1)) + x2) ∧ 0 ≤ (3 + (2 * x1)) + x2 ∧ (3 + (2 * x1)) + x2 < 78 ∧ Q (σ6 1 ((3 + (2 * x1)) + x2)) σ6))))) ∧ (r4 = 0 → Q (-1) σ3))))))) : CI layM MX8_heir [vP 0, vI x1, vI x2] σ Q := by
  refine Cl.ofR (ls := [(0, vP 0), (1, vI x1), (2, vI x2)]) (show plainName RX8 = true by decide +kernel) (leb rfl) rfl ?_
  refine R_aload_n (pc := 0) 0 rfl rfl dX8_heir_0 ?_
  refine R_iload_n (pc := 1) 1 rfl rfl dX8_heir_1 ?_
  refine R_callVI (pc := 2) (as := [vI x1]) (st := []) rfl rfl kX8_isHeir sX8_isHeir lM_0 rfl w_5_61 (ltb rfl) rfl (leb rfl) dX8_heir_2 h (fun r2 σ1 h => ?_)
  refine R_if_eq (pc := 5) (tgt := 20) (by decide) dX8_heir_5 (fun c => ?_) (fun c => ?_)
  · have h := h.1 c
    refine R_iconst (pc := 20) (by decide) dX8_heir_20 ?_
    exact R_iret (pc := 21) rfl dX8_heir_21 ⟨_, rfl, h⟩
  · have h := h.2 c
    refine R_iload_n (pc := 8) 2 rfl rfl dX8_heir_8 ?_
    refine R_i2l (pc := 9) dX8_heir_9 ?_
    refine R_lconst (pc := 10) (x := 0) rfl dX8_heir_10 ?_
    refine R_ldc2 (pc := 11) (x := 3) w_5_65 (by decide) dX8_heir_11 ?_
    refine R_callSI (pc := 14) (as := [vJ x2, vJ 0, vJ 3]) (st := []) rfl rfl kX8_in sX8_in w_4_210 (ltb rfl) rfl (leb rfl) dX8_heir_14 h (fun r4 σ3 h => ?_)
    refine R_if_ne (pc := 17) (tgt := 22) (by decide) dX8_heir_17 (fun c => ?_) (fun c => ?_)
    · have h := h.1 c
      refine R_aload_n (pc := 22) 0 rfl rfl dX8_heir_22 ?_
      refine R_callV0 (pc := 23) (as := []) (st := []) rfl rfl kX8_starts sX8_starts lM_0 rfl w_5_25 (ltb rfl) rfl (leb rfl) dX8_heir_23 h (fun σ5 h => ?_)
      refine R_aload_n (pc := 26) 0 rfl rfl dX8_heir_26 ?_
      refine R_callV0 (pc := 27) (as := []) (st := []) rfl rfl kX8_givesNow sX8_givesNow lM_0 rfl w_5_33 (ltb rfl) rfl (leb rfl) dX8_heir_27 h (fun σ6 h => ?_)
      refine R_iload_n (pc := 30) 2 rfl rfl dX8_heir_30 ?_
      refine R_iconst (pc := 31) (by decide) dX8_heir_31 ?_
      refine R_icmp_ge (pc := 32) (tgt := 50) (by decide) dX8_heir_32 (fun c => ?_) (fun c => ?_)
      · have h := h.1 c
        refine R_iload_n (pc := 50) 2 rfl rfl dX8_heir_50 ?_
        refine R_iconst (pc := 51) (by decide) dX8_heir_51 ?_
        refine R_icmp_ne (pc := 52) (tgt := 64) (by decide) dX8_heir_52 (fun c => ?_) (fun c => ?_)
        · have h := h.1 c
          refine R_aload_n (pc := 64) 0 rfl rfl dX8_heir_64 ?_
          refine R_iload_n (pc := 65) 1 rfl rfl dX8_heir_65 ?_
          refine R_aload_n (pc := 66) 0 rfl rfl dX8_heir_66 ?_
          refine R_getP (pc := 67) (q' := 1) lM_0 rfl flX8_7 dX8_heir_67 ?_
          refine R_iconst (pc := 70) (by decide) dX8_heir_70 ?_
          have g0 : (0 : Int) ≤ 0 := by decide
          have g1 : (0 : Int) < 78 := by decide
          refine R_iaload (pc := 71) lM_1 g0 g1 dX8_heir_71 ?_
          refine R_callVI (pc := 72) (as := [vI x1, vI (σ6 1 0)]) (st := []) rfl rfl kX8_isOff sX8_isOff lM_0 rfl w_5_66 (ltb rfl) rfl (leb rfl) dX8_heir_72 h (fun r8 σ7 h => ?_)
          refine R_callSI (pc := 75) (as := [vI r8]) (st := []) rfl rfl kX8_flag sX8_flag w_5_70 (ltb rfl) rfl (leb rfl) dX8_heir_75 h (fun r10 σ9 h => ?_)
          exact R_iret (pc := 78) rfl dX8_heir_78 ⟨_, rfl, h⟩
        · have h := h.2 c
          refine R_aload_n (pc := 55) 0 rfl rfl dX8_heir_55 ?_
          refine R_getP (pc := 56) (q' := 7) lM_0 rfl flX8_30 dX8_heir_56 ?_
          refine R_iload_n (pc := 59) 1 rfl rfl dX8_heir_59 ?_
          obtain ⟨g0, g1, h⟩ := h
          refine R_iaload (pc := 60) lM_7 g0 g1 dX8_heir_60 ?_
          refine R_goto (pc := 61) (tgt := 78) (by decide) dX8_heir_61 ?_
          exact R_iret (pc := 78) rfl dX8_heir_78 ⟨_, rfl, h⟩
      · have h := h.2 c
        refine R_aload_n (pc := 35) 0 rfl rfl dX8_heir_35 ?_
        refine R_getP (pc := 36) (q' := 1) lM_0 rfl flX8_7 dX8_heir_36 ?_
        refine R_iconst (pc := 39) (by decide) dX8_heir_39 ?_
        refine R_iconst (pc := 40) (by decide) dX8_heir_40 ?_
        refine R_iload_n (pc := 41) 1 rfl rfl dX8_heir_41 ?_
        obtain ⟨g, h⟩ := h
        refine R_imul (pc := 42) g dX8_heir_42 ?_
        obtain ⟨g, h⟩ := h
        refine R_iadd (pc := 43) g dX8_heir_43 ?_
        refine R_iload_n (pc := 44) 2 rfl rfl dX8_heir_44 ?_
        obtain ⟨g, h⟩ := h
        refine R_iadd (pc := 45) g dX8_heir_45 ?_
        obtain ⟨g0, g1, h⟩ := h
        refine R_iaload (pc := 46) lM_1 g0 g1 dX8_heir_46 ?_
        refine R_goto (pc := 47) (tgt := 78) (by decide) dX8_heir_47 ?_
        exact R_iret (pc := 78) rfl dX8_heir_78 ⟨_, rfl, h⟩
    · have h := h.2 c
      refine R_iconst (pc := 20) (by decide) dX8_heir_20 ?_
      exact R_iret (pc := 21) rfl dX8_heir_21 ⟨_, rfl, h⟩
def LX8_herds_30 (x1 : Int) (x2 : Int) (x3 : Int) (x4 : Int) (x5 : Int) (σ : Mem) (Q : Int → Mem → Prop) : Prop := Rn layM MX8_herds 30 [(0, vP 0), (1, vI x1), (2, vI x2), (3, vI x3), (4, vI x4), (5, vI x5)] [] σ (qI Q)
theorem X8_herds_30 {x1 x2 x3 x4 x5 : Int} {σ : Mem} {Q : Int → Mem → Prop} (h : ((200 < x5 → CI layM MX8_ofThree [vP 0, vI x1, vI x2, vI x3, vI x4] σ (fun r2 σ1 => Q r2 σ1)) ∧ (x5 ≤ 200 → CI layM MX8_isHerdSo [vP 0, vI x5] σ (fun r4 σ3 => ((r4 = 0 → I32 (x5 + 1) ∧ LX8_herds_30 x1 x2 x3 x4 (x5 + 1) σ3 Q) ∧ (r4 ≠ 0 → ((x2 ≠ 0 → I32 (x2 + 1) ∧ I32 (x5 + 1) ∧ LX8_herds_30 x1 (x2 + 1) x3 x5 (x5 + 1) σ3 Q) ∧ (x2 = 0 → I32 (x2 + 1) ∧ I32 (x5 + 1) ∧ LX8_herds_30 x1 (x2 + 1) x5 x5 (x5 + 1) σ3 Q)))))))) : LX8_herds_30 x1 x2 x3 x4 x5 σ Q := by
  unfold LX8_herds_30
  refine R_iload (pc := 30) 5 rfl dX8_herds_30 ?_
  refine R_sipush (pc := 32) (by decide) dX8_herds_32 ?_
  refine R_icmp_gt (pc := 35) (tgt := 71) (by decide) dX8_herds_35 (fun c => ?_) (fun c => ?_)
  · have h := h.1 c
    refine R_aload_n (pc := 71) 0 rfl rfl dX8_herds_71 ?_
    refine R_iload_n (pc := 72) 1 rfl rfl dX8_herds_72 ?_
    refine R_iload_n (pc := 73) 2 rfl rfl dX8_herds_73 ?_
    refine R_iload_n (pc := 74) 3 rfl rfl dX8_herds_74 ?_
    refine R_iload (pc := 75) 4 rfl dX8_herds_75 ?_
    refine R_callVI (pc := 77) (as := [vI x1, vI x2, vI x3, vI x4]) (st := []) rfl rfl kX8_ofThree sX8_ofThree lM_0 rfl w_5_237 (ltb rfl) rfl (leb rfl) dX8_herds_77 h (fun r2 σ1 h => ?_)
    exact R_iret (pc := 80) rfl dX8_herds_80 ⟨_, rfl, h⟩
  · have h := h.2 c
    refine R_aload_n (pc := 38) 0 rfl rfl dX8_herds_38 ?_
    refine R_iload (pc := 39) 5 rfl dX8_herds_39 ?_
    refine R_callVI (pc := 41) (as := [vI x5]) (st := []) rfl rfl kX8_isHerdSo sX8_isHerdSo lM_0 rfl w_5_233 (ltb rfl) rfl (leb rfl) dX8_herds_41 h (fun r4 σ3 h => ?_)
    refine R_if_eq (pc := 44) (tgt := 65) (by decide) dX8_herds_44 (fun c => ?_) (fun c => ?_)
    · have h := h.1 c
      obtain ⟨g, h⟩ := h
      refine R_iinc (pc := 65) 5 rfl rfl g (ls' := [(5, vI (x5 + 1)), (0, vP 0), (1, vI x1), (2, vI x2), (3, vI x3), (4, vI x4)]) rfl (ltb rfl) dX8_herds_65 ?_
      refine R_goto (pc := 68) (tgt := 30) (by decide) dX8_herds_68 ?_
      refine R_sub [1, 2, 3, 4, 5, 0] rfl ?_
      exact h
    · have h := h.2 c
      refine R_iload_n (pc := 47) 2 rfl rfl dX8_herds_47 ?_
      refine R_if_ne (pc := 48) (tgt := 56) (by decide) dX8_herds_48 (fun c => ?_) (fun c => ?_)
      · have h := h.1 c
        refine R_iload_n (pc := 56) 3 rfl rfl dX8_herds_56 ?_
        refine R_istore_n (pc := 57) (ls' := [(3, vI x3), (0, vP 0), (1, vI x1), (2, vI x2), (4, vI x4), (5, vI x5)]) rfl rfl (ltb rfl) dX8_herds_57 ?_
        refine R_iload (pc := 58) 5 rfl dX8_herds_58 ?_
        refine R_istore (pc := 60) (ls' := [(4, vI x5), (3, vI x3), (0, vP 0), (1, vI x1), (2, vI x2), (5, vI x5)]) rfl (ltb rfl) dX8_herds_60 ?_
        obtain ⟨g, h⟩ := h
        refine R_iinc (pc := 62) 4 rfl rfl g (ls' := [(2, vI (x2 + 1)), (4, vI x5), (3, vI x3), (0, vP 0), (1, vI x1), (5, vI x5)]) rfl (ltb rfl) dX8_herds_62 ?_
        obtain ⟨g, h⟩ := h
        refine R_iinc (pc := 65) 5 rfl rfl g (ls' := [(5, vI (x5 + 1)), (2, vI (x2 + 1)), (4, vI x5), (3, vI x3), (0, vP 0), (1, vI x1)]) rfl (ltb rfl) dX8_herds_65 ?_
        refine R_goto (pc := 68) (tgt := 30) (by decide) dX8_herds_68 ?_
        refine R_sub [4, 5, 1, 3, 2, 0] rfl ?_
        exact h
      · have h := h.2 c
        refine R_iload (pc := 51) 5 rfl dX8_herds_51 ?_
        refine R_goto (pc := 53) (tgt := 57) (by decide) dX8_herds_53 ?_
        refine R_istore_n (pc := 57) (ls' := [(3, vI x5), (0, vP 0), (1, vI x1), (2, vI x2), (4, vI x4), (5, vI x5)]) rfl rfl (ltb rfl) dX8_herds_57 ?_
        refine R_iload (pc := 58) 5 rfl dX8_herds_58 ?_
        refine R_istore (pc := 60) (ls' := [(4, vI x5), (3, vI x5), (0, vP 0), (1, vI x1), (2, vI x2), (5, vI x5)]) rfl (ltb rfl) dX8_herds_60 ?_
        obtain ⟨g, h⟩ := h
        refine R_iinc (pc := 62) 4 rfl rfl g (ls' := [(2, vI (x2 + 1)), (4, vI x5), (3, vI x5), (0, vP 0), (1, vI x1), (5, vI x5)]) rfl (ltb rfl) dX8_herds_62 ?_
        obtain ⟨g, h⟩ := h
        refine R_iinc (pc := 65) 5 rfl rfl g (ls' := [(5, vI (x5 + 1)), (2, vI (x2 + 1)), (4, vI x5), (3, vI x5), (0, vP 0), (1, vI x1)]) rfl (ltb rfl) dX8_herds_65 ?_
        refine R_goto (pc := 68) (tgt := 30) (by decide) dX8_herds_68 ?_
        refine R_sub [4, 5, 1, 3, 2, 0] rfl ?_
        exact h
theorem X8_herds_E {x1 : Int} {σ : Mem} {Q : Int → Mem → Prop} (h : CI layM MX8_in [vJ x1, vJ 0, vJ 2] σ (fun r2 σ1 => ((r2 ≠ 0 → CV layM MX8_starts [vP 0] σ1 (fun σ3 => LX8_herds_30 x1 0 (-4) (-4) 0 σ3 Q)) ∧ (r2 = 0 → Q (-1) σ1)))) : CI layM MX8_herds [vP 0, vI x1] σ Q := by
  refine Cl.ofR (ls := [(0, vP 0), (1, vI x1)]) (show plainName RX8 = true by decide +kernel) (leb rfl) rfl ?_
  refine R_iload_n (pc := 0) 1 rfl rfl dX8_herds_0 ?_
  refine R_i2l (pc := 1) dX8_herds_1 ?_
  refine R_lconst (pc := 2) (x := 0) rfl dX8_herds_2 ?_
  refine R_ldc2 (pc := 3) (x := 2) w_5_232 (by decide) dX8_herds_3 ?_
  refine R_callSI (pc := 6) (as := [vJ x1, vJ 0, vJ 2]) (st := []) rfl rfl kX8_in sX8_in w_4_210 (ltb rfl) rfl (leb rfl) dX8_herds_6 h (fun r2 σ1 h => ?_)
  refine R_if_ne (pc := 9) (tgt := 14) (by decide) dX8_herds_9 (fun c => ?_) (fun c => ?_)
  · have h := h.1 c
    refine R_iconst (pc := 14) (by decide) dX8_herds_14 ?_
    refine R_istore_n (pc := 15) (ls' := [(2, vI 0), (0, vP 0), (1, vI x1)]) rfl rfl (ltb rfl) dX8_herds_15 ?_
    refine R_bipush (pc := 16) (by decide) dX8_herds_16 ?_
    refine R_istore_n (pc := 18) (ls' := [(3, vI (-4)), (2, vI 0), (0, vP 0), (1, vI x1)]) rfl rfl (ltb rfl) dX8_herds_18 ?_
    refine R_bipush (pc := 19) (by decide) dX8_herds_19 ?_
    refine R_istore (pc := 21) (ls' := [(4, vI (-4)), (3, vI (-4)), (2, vI 0), (0, vP 0), (1, vI x1)]) rfl (ltb rfl) dX8_herds_21 ?_
    refine R_aload_n (pc := 23) 3 rfl rfl dX8_herds_23 ?_
    refine R_callV0 (pc := 24) (as := []) (st := []) rfl rfl kX8_starts sX8_starts lM_0 rfl w_5_25 (ltb rfl) rfl (leb rfl) dX8_herds_24 h (fun σ3 h => ?_)
    refine R_iconst (pc := 27) (by decide) dX8_herds_27 ?_
    refine R_istore (pc := 28) (ls' := [(5, vI 0), (4, vI (-4)), (3, vI (-4)), (2, vI 0), (0, vP 0), (1, vI x1)]) rfl (ltb rfl) dX8_herds_28 ?_
    refine R_sub [4, 5, 3, 2, 1, 0] rfl ?_
    exact h
  · have h := h.2 c
    refine R_iconst (pc := 12) (by decide) dX8_herds_12 ?_
    exact R_iret (pc := 13) rfl dX8_herds_13 ⟨_, rfl, h⟩
theorem X8_isDownSo_E {x1 x2 : Int} {σ : Mem} {Q : Int → Mem → Prop} (h : I32 (2 * x1) ∧ I32 (3 + (2 * x1)) ∧ I32 ((3 + (2 * x1)) + 1) ∧ 0 ≤ (3 + (2 * x1)) + 1 ∧ (3 + (2 * x1)) + 1 < 26 ∧ CV layM MX8_reckons [vP 0] (upM σ 2 ((3 + (2 * x1)) + 1) x2) (fun σ1 => CV layM MX8_givesNow [vP 0] σ1 (fun σ2 => CI layM MX8_isSo [vP 0] σ2 (fun r4 σ3 => (r4 = 0 ∨ r4 = 1) ∧ Q r4 σ3)))) : CI layM MX8_isDownSo [vP 0, vI x1, vI x2] σ Q := by
  refine Cl.ofR (ls := [(0, vP 0), (1, vI x1), (2, vI x2)]) (show plainName RX8 = true by decide +kernel) (leb rfl) rfl ?_
  refine R_aload_n (pc := 0) 0 rfl rfl dX8_isDownSo_0 ?_
  refine R_getP (pc := 1) (q' := 2) lM_0 rfl flX8_13 dX8_isDownSo_1 ?_
  refine R_iconst (pc := 4) (by decide) dX8_isDownSo_4 ?_
  refine R_iconst (pc := 5) (by decide) dX8_isDownSo_5 ?_
  refine R_iload_n (pc := 6) 1 rfl rfl dX8_isDownSo_6 ?_
  obtain ⟨g, h⟩ := h
  refine R_imul (pc := 7) g dX8_isDownSo_7 ?_
  obtain ⟨g, h⟩ := h
  refine R_iadd (pc := 8) g dX8_isDownSo_8 ?_
  refine R_iconst (pc := 9) (by decide) dX8_isDownSo_9 ?_
  obtain ⟨g, h⟩ := h
  refine R_iadd (pc := 10) g dX8_isDownSo_10 ?_
  refine R_iload_n (pc := 11) 2 rfl rfl dX8_isDownSo_11 ?_
  obtain ⟨g0, g1, h⟩ := h
  refine R_iastore (pc := 12) lM_2 g0 g1 dX8_isDownSo_12 ?_
  refine R_aload_n (pc := 13) 0 rfl rfl dX8_isDownSo_13 ?_
  refine R_callV0 (pc := 14) (as := []) (st := []) rfl rfl kX8_reckons sX8_reckons lM_0 rfl w_5_29 (ltb rfl) rfl (leb rfl) dX8_isDownSo_14 h (fun σ1 h => ?_)
  refine R_aload_n (pc := 17) 0 rfl rfl dX8_isDownSo_17 ?_
  refine R_callV0 (pc := 18) (as := []) (st := []) rfl rfl kX8_givesNow sX8_givesNow lM_0 rfl w_5_33 (ltb rfl) rfl (leb rfl) dX8_isDownSo_18 h (fun σ2 h => ?_)
  refine R_aload_n (pc := 21) 0 rfl rfl dX8_isDownSo_21 ?_
  refine R_callVI (pc := 22) (as := []) (st := []) rfl rfl kX8_isSo sX8_isSo lM_0 rfl w_5_224 (ltb rfl) rfl (leb rfl) dX8_isDownSo_22 h (fun r4 σ3 h => ?_)
  obtain ⟨g, h⟩ := h
  exact R_zret (pc := 25) rfl g dX8_isDownSo_25 ⟨_, rfl, h⟩
theorem X8_luck_E {x1 x2 x3 x4 : Int} {σ : Mem} {Q : Int → Mem → Prop} (h : CI layM MX8_in [vJ x1, vJ 0, vJ 10] σ (fun r2 σ1 => ((r2 = 0 → Q (-1) σ1) ∧ (r2 ≠ 0 → CI layM MX8_isHeir [vP 0, vI x2] σ1 (fun r4 σ3 => ((r4 = 0 → Q (-1) σ3) ∧ (r4 ≠ 0 → CI layM MX8_in [vJ x3, vJ 0, vJ 999] σ3 (fun r6 σ5 => ((r6 = 0 → Q (-1) σ5) ∧ (r6 ≠ 0 → CI layM MX8_isPart [vI x4] σ5 (fun r8 σ7 => ((r8 ≠ 0 → (((σ7 1 0) ≤ 12 → CV layM MX8_findOdds [vP 0, vI x1, vI x2, vI x3] σ7 (fun σ9 => CJ layM MX8_lowest [vJ (σ9 0 25), vJ (σ9 0 26), vI x4] σ9 (fun r11 σ10 => Q r11 σ10))) ∧ (12 < (σ7 1 0) → Q (-2) σ7))) ∧ (r8 = 0 → Q (-1) σ7))))))))))))) : CJ layM MX8_luck [vP 0, vI x1, vI x2, vI x3, vI x4] σ Q := by
  refine Cl.ofR (ls := [(0, vP 0), (1, vI x1), (2, vI x2), (3, vI x3), (4, vI x4)]) (show plainName RX8 = true by decide +kernel) (leb rfl) rfl ?_
  refine R_iload_n (pc := 0) 1 rfl rfl dX8_luck_0 ?_
  refine R_i2l (pc := 1) dX8_luck_1 ?_
  refine R_lconst (pc := 2) (x := 0) rfl dX8_luck_2 ?_
  refine R_ldc2 (pc := 3) (x := 10) w_5_202 (by decide) dX8_luck_3 ?_
  refine R_callSI (pc := 6) (as := [vJ x1, vJ 0, vJ 10]) (st := []) rfl rfl kX8_in sX8_in w_4_210 (ltb rfl) rfl (leb rfl) dX8_luck_6 h (fun r2 σ1 h => ?_)
  refine R_if_eq (pc := 9) (tgt := 40) (by decide) dX8_luck_9 (fun c => ?_) (fun c => ?_)
  · have h := h.1 c
    refine R_ldc2 (pc := 40) (x := (-1)) w_5_86 (by decide) dX8_luck_40 ?_
    exact R_lret (pc := 43) rfl dX8_luck_43 ⟨_, rfl, h⟩
  · have h := h.2 c
    refine R_aload_n (pc := 12) 0 rfl rfl dX8_luck_12 ?_
    refine R_iload_n (pc := 13) 2 rfl rfl dX8_luck_13 ?_
    refine R_callVI (pc := 14) (as := [vI x2]) (st := []) rfl rfl kX8_isHeir sX8_isHeir lM_0 rfl w_5_61 (ltb rfl) rfl (leb rfl) dX8_luck_14 h (fun r4 σ3 h => ?_)
    refine R_if_eq (pc := 17) (tgt := 40) (by decide) dX8_luck_17 (fun c => ?_) (fun c => ?_)
    · have h := h.1 c
      refine R_ldc2 (pc := 40) (x := (-1)) w_5_86 (by decide) dX8_luck_40 ?_
      exact R_lret (pc := 43) rfl dX8_luck_43 ⟨_, rfl, h⟩
    · have h := h.2 c
      refine R_iload_n (pc := 20) 3 rfl rfl dX8_luck_20 ?_
      refine R_i2l (pc := 21) dX8_luck_21 ?_
      refine R_lconst (pc := 22) (x := 0) rfl dX8_luck_22 ?_
      refine R_ldc2 (pc := 23) (x := 999) w_5_109 (by decide) dX8_luck_23 ?_
      refine R_callSI (pc := 26) (as := [vJ x3, vJ 0, vJ 999]) (st := []) rfl rfl kX8_in sX8_in w_4_210 (ltb rfl) rfl (leb rfl) dX8_luck_26 h (fun r6 σ5 h => ?_)
      refine R_if_eq (pc := 29) (tgt := 40) (by decide) dX8_luck_29 (fun c => ?_) (fun c => ?_)
      · have h := h.1 c
        refine R_ldc2 (pc := 40) (x := (-1)) w_5_86 (by decide) dX8_luck_40 ?_
        exact R_lret (pc := 43) rfl dX8_luck_43 ⟨_, rfl, h⟩
      · have h := h.2 c
        refine R_iload (pc := 32) 4 rfl dX8_luck_32 ?_
        refine R_callSI (pc := 34) (as := [vI x4]) (st := []) rfl rfl kX8_isPart sX8_isPart w_5_77 (ltb rfl) rfl (leb rfl) dX8_luck_34 h (fun r8 σ7 h => ?_)
        refine R_if_ne (pc := 37) (tgt := 44) (by decide) dX8_luck_37 (fun c => ?_) (fun c => ?_)
        · have h := h.1 c
          refine R_aload_n (pc := 44) 0 rfl rfl dX8_luck_44 ?_
          refine R_getP (pc := 45) (q' := 1) lM_0 rfl flX8_7 dX8_luck_45 ?_
          refine R_iconst (pc := 48) (by decide) dX8_luck_48 ?_
          have g0 : (0 : Int) ≤ 0 := by decide
          have g1 : (0 : Int) < 78 := by decide
          refine R_iaload (pc := 49) lM_1 g0 g1 dX8_luck_49 ?_
          refine R_bipush (pc := 50) (by decide) dX8_luck_50 ?_
          refine R_icmp_le (pc := 52) (tgt := 59) (by decide) dX8_luck_52 (fun c => ?_) (fun c => ?_)
          · have h := h.1 c
            refine R_aload_n (pc := 59) 0 rfl rfl dX8_luck_59 ?_
            refine R_iload_n (pc := 60) 1 rfl rfl dX8_luck_60 ?_
            refine R_iload_n (pc := 61) 2 rfl rfl dX8_luck_61 ?_
            refine R_iload_n (pc := 62) 3 rfl rfl dX8_luck_62 ?_
            refine R_callV0 (pc := 63) (as := [vI x1, vI x2, vI x3]) (st := []) rfl rfl kX8_findOdds sX8_findOdds lM_0 rfl w_5_204 (ltb rfl) rfl (leb rfl) dX8_luck_63 h (fun σ9 h => ?_)
            refine R_aload_n (pc := 66) 0 rfl rfl dX8_luck_66 ?_
            refine R_getJ (pc := 67) lM_0 rfl flX8_242 dX8_luck_67 ?_
            refine R_aload_n (pc := 70) 0 rfl rfl dX8_luck_70 ?_
            refine R_getJ (pc := 71) lM_0 rfl flX8_245 dX8_luck_71 ?_
            refine R_iload (pc := 74) 4 rfl dX8_luck_74 ?_
            refine R_callSJ (pc := 76) (as := [vJ (σ9 0 25), vJ (σ9 0 26), vI x4]) (st := []) rfl rfl kX8_lowest sX8_lowest w_5_80 (ltb rfl) rfl (leb rfl) dX8_luck_76 h (fun r11 σ10 h => ?_)
            exact R_lret (pc := 79) rfl dX8_luck_79 ⟨_, rfl, h⟩
          · have h := h.2 c
            refine R_ldc2 (pc := 55) (x := (-2)) w_5_203 (by decide) dX8_luck_55 ?_
            exact R_lret (pc := 58) rfl dX8_luck_58 ⟨_, rfl, h⟩
        · have h := h.2 c
          refine R_ldc2 (pc := 40) (x := (-1)) w_5_86 (by decide) dX8_luck_40 ?_
          exact R_lret (pc := 43) rfl dX8_luck_43 ⟨_, rfl, h⟩
theorem X8_mean_E {x1 x2 x3 : Int} {σ : Mem} {Q : Int → Mem → Prop} (h : CI layM MX8_in [vJ x1, vJ 0, vJ 10] σ (fun r2 σ1 => ((r2 = 0 → Q (-1) σ1) ∧ (r2 ≠ 0 → CI layM MX8_isHeir [vP 0, vI x2] σ1 (fun r4 σ3 => ((r4 = 0 → Q (-1) σ3) ∧ (r4 ≠ 0 → CI layM MX8_isPart [vI x3] σ3 (fun r6 σ5 => ((r6 ≠ 0 → (((σ5 1 0) ≤ 12 → CV layM MX8_findOdds [vP 0, vI x1, vI x2, vI 0] σ5 (fun σ7 => CJ layM MX8_lowest [vJ (σ7 0 24), vJ (σ7 0 26), vI x3] σ7 (fun r9 σ8 => Q r9 σ8))) ∧ (12 < (σ5 1 0) → Q (-2) σ5))) ∧ (r6 = 0 → Q (-1) σ5)))))))))) : CJ layM MX8_mean [vP 0, vI x1, vI x2, vI x3] σ Q := by
  refine Cl.ofR (ls := [(0, vP 0), (1, vI x1), (2, vI x2), (3, vI x3)]) (show plainName RX8 = true by decide +kernel) (leb rfl) rfl ?_
  refine R_iload_n (pc := 0) 1 rfl rfl dX8_mean_0 ?_
  refine R_i2l (pc := 1) dX8_mean_1 ?_
  refine R_lconst (pc := 2) (x := 0) rfl dX8_mean_2 ?_
  refine R_ldc2 (pc := 3) (x := 10) w_5_202 (by decide) dX8_mean_3 ?_
  refine R_callSI (pc := 6) (as := [vJ x1, vJ 0, vJ 10]) (st := []) rfl rfl kX8_in sX8_in w_4_210 (ltb rfl) rfl (leb rfl) dX8_mean_6 h (fun r2 σ1 h => ?_)
  refine R_if_eq (pc := 9) (tgt := 27) (by decide) dX8_mean_9 (fun c => ?_) (fun c => ?_)
  · have h := h.1 c
    refine R_ldc2 (pc := 27) (x := (-1)) w_5_86 (by decide) dX8_mean_27 ?_
    exact R_lret (pc := 30) rfl dX8_mean_30 ⟨_, rfl, h⟩
  · have h := h.2 c
    refine R_aload_n (pc := 12) 0 rfl rfl dX8_mean_12 ?_
    refine R_iload_n (pc := 13) 2 rfl rfl dX8_mean_13 ?_
    refine R_callVI (pc := 14) (as := [vI x2]) (st := []) rfl rfl kX8_isHeir sX8_isHeir lM_0 rfl w_5_61 (ltb rfl) rfl (leb rfl) dX8_mean_14 h (fun r4 σ3 h => ?_)
    refine R_if_eq (pc := 17) (tgt := 27) (by decide) dX8_mean_17 (fun c => ?_) (fun c => ?_)
    · have h := h.1 c
      refine R_ldc2 (pc := 27) (x := (-1)) w_5_86 (by decide) dX8_mean_27 ?_
      exact R_lret (pc := 30) rfl dX8_mean_30 ⟨_, rfl, h⟩
    · have h := h.2 c
      refine R_iload_n (pc := 20) 3 rfl rfl dX8_mean_20 ?_
      refine R_callSI (pc := 21) (as := [vI x3]) (st := []) rfl rfl kX8_isPart sX8_isPart w_5_77 (ltb rfl) rfl (leb rfl) dX8_mean_21 h (fun r6 σ5 h => ?_)
      refine R_if_ne (pc := 24) (tgt := 31) (by decide) dX8_mean_24 (fun c => ?_) (fun c => ?_)
      · have h := h.1 c
        refine R_aload_n (pc := 31) 0 rfl rfl dX8_mean_31 ?_
        refine R_getP (pc := 32) (q' := 1) lM_0 rfl flX8_7 dX8_mean_32 ?_
        refine R_iconst (pc := 35) (by decide) dX8_mean_35 ?_
        have g0 : (0 : Int) ≤ 0 := by decide
        have g1 : (0 : Int) < 78 := by decide
        refine R_iaload (pc := 36) lM_1 g0 g1 dX8_mean_36 ?_
        refine R_bipush (pc := 37) (by decide) dX8_mean_37 ?_
        refine R_icmp_le (pc := 39) (tgt := 46) (by decide) dX8_mean_39 (fun c => ?_) (fun c => ?_)
        · have h := h.1 c
          refine R_aload_n (pc := 46) 0 rfl rfl dX8_mean_46 ?_
          refine R_iload_n (pc := 47) 1 rfl rfl dX8_mean_47 ?_
          refine R_iload_n (pc := 48) 2 rfl rfl dX8_mean_48 ?_
          refine R_iconst (pc := 49) (by decide) dX8_mean_49 ?_
          refine R_callV0 (pc := 50) (as := [vI x1, vI x2, vI 0]) (st := []) rfl rfl kX8_findOdds sX8_findOdds lM_0 rfl w_5_204 (ltb rfl) rfl (leb rfl) dX8_mean_50 h (fun σ7 h => ?_)
          refine R_aload_n (pc := 53) 0 rfl rfl dX8_mean_53 ?_
          refine R_getJ (pc := 54) lM_0 rfl flX8_239 dX8_mean_54 ?_
          refine R_aload_n (pc := 57) 0 rfl rfl dX8_mean_57 ?_
          refine R_getJ (pc := 58) lM_0 rfl flX8_245 dX8_mean_58 ?_
          refine R_iload_n (pc := 61) 3 rfl rfl dX8_mean_61 ?_
          refine R_callSJ (pc := 62) (as := [vJ (σ7 0 24), vJ (σ7 0 26), vI x3]) (st := []) rfl rfl kX8_lowest sX8_lowest w_5_80 (ltb rfl) rfl (leb rfl) dX8_mean_62 h (fun r9 σ8 h => ?_)
          exact R_lret (pc := 65) rfl dX8_mean_65 ⟨_, rfl, h⟩
        · have h := h.2 c
          refine R_ldc2 (pc := 42) (x := (-2)) w_5_203 (by decide) dX8_mean_42 ?_
          exact R_lret (pc := 45) rfl dX8_mean_45 ⟨_, rfl, h⟩
      · have h := h.2 c
        refine R_ldc2 (pc := 27) (x := (-1)) w_5_86 (by decide) dX8_mean_27 ?_
        exact R_lret (pc := 30) rfl dX8_mean_30 ⟨_, rfl, h⟩
theorem X8_over_E {x1 x2 : Int} {σ : Mem} {Q : Int → Mem → Prop} (h : CI layM MX8_isHeir [vP 0, vI x1] σ (fun r2 σ1 => ((r2 = 0 → Q (-1) σ1) ∧ (r2 ≠ 0 → CI layM MX8_isPart [vI x2] σ1 (fun r4 σ3 => ((r4 ≠ 0 → CV layM MX8_starts [vP 0] σ3 (fun σ5 => CV layM MX8_givesNow [vP 0] σ5 (fun σ6 => I32 (2 * x1) ∧ I32 (3 + (2 * x1)) ∧ I32 ((3 + (2 * x1)) + 1) ∧ 0 ≤ (3 + (2 * x1)) + 1 ∧ (3 + (2 * x1)) + 1 < 78 ∧ 0 ≤ x1 ∧ x1 < 5 ∧ I64 ((σ6 7 x1) * (σ6 1 ((3 + (2 * x1)) + 1))) ∧ I32 (2 * x1) ∧ I32 (3 + (2 * x1)) ∧ 0 ≤ 3 + (2 * x1) ∧ 3 + (2 * x1) < 78 ∧ I64 ((σ6 1 0) * (σ6 1 (3 + (2 * x1)))) ∧ I64 (((σ6 7 x1) * (σ6 1 ((3 + (2 * x1)) + 1))) - ((σ6 1 0) * (σ6 1 (3 + (2 * x1))))) ∧ CJ layM MX8_lowest [vJ (((σ6 7 x1) * (σ6 1 ((3 + (2 * x1)) + 1))) - ((σ6 1 0) * (σ6 1 (3 + (2 * x1))))), vJ (σ6 1 ((3 + (2 * x1)) + 1)), vI x2] σ6 (fun r8 σ7 => Q r8 σ7)))) ∧ (r4 = 0 → Q (-1) σ3))))))) : CJ layM MX8_over [vP 0, vI x1, vI x2] σ Q := by
  refine Cl.ofR (ls := [(0, vP 0), (1, vI x1), (2, vI x2)]) (show plainName RX8 = true by decide +kernel) (leb rfl) rfl ?_
  refine R_aload_n (pc := 0) 0 rfl rfl dX8_over_0 ?_
  refine R_iload_n (pc := 1) 1 rfl rfl dX8_over_1 ?_
  refine R_callVI (pc := 2) (as := [vI x1]) (st := []) rfl rfl kX8_isHeir sX8_isHeir lM_0 rfl w_5_61 (ltb rfl) rfl (leb rfl) dX8_over_2 h (fun r2 σ1 h => ?_)
  refine R_if_eq (pc := 5) (tgt := 15) (by decide) dX8_over_5 (fun c => ?_) (fun c => ?_)
  · have h := h.1 c
    refine R_ldc2 (pc := 15) (x := (-1)) w_5_86 (by decide) dX8_over_15 ?_
    exact R_lret (pc := 18) rfl dX8_over_18 ⟨_, rfl, h⟩
  · have h := h.2 c
    refine R_iload_n (pc := 8) 2 rfl rfl dX8_over_8 ?_
    refine R_callSI (pc := 9) (as := [vI x2]) (st := []) rfl rfl kX8_isPart sX8_isPart w_5_77 (ltb rfl) rfl (leb rfl) dX8_over_9 h (fun r4 σ3 h => ?_)
    refine R_if_ne (pc := 12) (tgt := 19) (by decide) dX8_over_12 (fun c => ?_) (fun c => ?_)
    · have h := h.1 c
      refine R_aload_n (pc := 19) 0 rfl rfl dX8_over_19 ?_
      refine R_callV0 (pc := 20) (as := []) (st := []) rfl rfl kX8_starts sX8_starts lM_0 rfl w_5_25 (ltb rfl) rfl (leb rfl) dX8_over_20 h (fun σ5 h => ?_)
      refine R_aload_n (pc := 23) 0 rfl rfl dX8_over_23 ?_
      refine R_callV0 (pc := 24) (as := []) (st := []) rfl rfl kX8_givesNow sX8_givesNow lM_0 rfl w_5_33 (ltb rfl) rfl (leb rfl) dX8_over_24 h (fun σ6 h => ?_)
      refine R_aload_n (pc := 27) 0 rfl rfl dX8_over_27 ?_
      refine R_getP (pc := 28) (q' := 1) lM_0 rfl flX8_7 dX8_over_28 ?_
      refine R_iconst (pc := 31) (by decide) dX8_over_31 ?_
      refine R_iconst (pc := 32) (by decide) dX8_over_32 ?_
      refine R_iload_n (pc := 33) 1 rfl rfl dX8_over_33 ?_
      obtain ⟨g, h⟩ := h
      refine R_imul (pc := 34) g dX8_over_34 ?_
      obtain ⟨g, h⟩ := h
      refine R_iadd (pc := 35) g dX8_over_35 ?_
      refine R_iconst (pc := 36) (by decide) dX8_over_36 ?_
      obtain ⟨g, h⟩ := h
      refine R_iadd (pc := 37) g dX8_over_37 ?_
      obtain ⟨g0, g1, h⟩ := h
      refine R_iaload (pc := 38) lM_1 g0 g1 dX8_over_38 ?_
      refine R_i2l (pc := 39) dX8_over_39 ?_
      refine R_lstore_n (pc := 40) (ls' := [(3, vJ (σ6 1 ((3 + (2 * x1)) + 1))), (0, vP 0), (1, vI x1), (2, vI x2)]) rfl rfl (ltb rfl) dX8_over_40 ?_
      refine R_aload_n (pc := 41) 1 rfl rfl dX8_over_41 ?_
      refine R_getP (pc := 42) (q' := 7) lM_0 rfl flX8_30 dX8_over_42 ?_
      refine R_iload_n (pc := 45) 2 rfl rfl dX8_over_45 ?_
      obtain ⟨g0, g1, h⟩ := h
      refine R_iaload (pc := 46) lM_7 g0 g1 dX8_over_46 ?_
      refine R_i2l (pc := 47) dX8_over_47 ?_
      refine R_lload_n (pc := 48) 0 rfl rfl dX8_over_48 ?_
      obtain ⟨g, h⟩ := h
      refine R_lmul (pc := 49) g dX8_over_49 ?_
      refine R_aload_n (pc := 50) 1 rfl rfl dX8_over_50 ?_
      refine R_getP (pc := 51) (q' := 1) lM_0 rfl flX8_7 dX8_over_51 ?_
      refine R_iconst (pc := 54) (by decide) dX8_over_54 ?_
      have g0 : (0 : Int) ≤ 0 := by decide
      have g1 : (0 : Int) < 78 := by decide
      refine R_iaload (pc := 55) lM_1 g0 g1 dX8_over_55 ?_
      refine R_i2l (pc := 56) dX8_over_56 ?_
      refine R_aload_n (pc := 57) 1 rfl rfl dX8_over_57 ?_
      refine R_getP (pc := 58) (q' := 1) lM_0 rfl flX8_7 dX8_over_58 ?_
      refine R_iconst (pc := 61) (by decide) dX8_over_61 ?_
      refine R_iconst (pc := 62) (by decide) dX8_over_62 ?_
      refine R_iload_n (pc := 63) 2 rfl rfl dX8_over_63 ?_
      obtain ⟨g, h⟩ := h
      refine R_imul (pc := 64) g dX8_over_64 ?_
      obtain ⟨g, h⟩ := h
      refine R_iadd (pc := 65) g dX8_over_65 ?_
      obtain ⟨g0, g1, h⟩ := h
      refine R_iaload (pc := 66) lM_1 g0 g1 dX8_over_66 ?_
      refine R_i2l (pc := 67) dX8_over_67 ?_
      obtain ⟨g, h⟩ := h
      refine R_lmul (pc := 68) g dX8_over_68 ?_
      obtain ⟨g, h⟩ := h
      refine R_lsub (pc := 69) g dX8_over_69 ?_
      refine R_lload_n (pc := 70) 0 rfl rfl dX8_over_70 ?_
      refine R_iload_n (pc := 71) 3 rfl rfl dX8_over_71 ?_
      refine R_callSJ (pc := 72) (as := [vJ (((σ6 7 x1) * (σ6 1 ((3 + (2 * x1)) + 1))) - ((σ6 1 0) * (σ6 1 (3 + (2 * x1))))), vJ (σ6 1 ((3 + (2 * x1)) + 1)), vI x2]) (st := []) rfl rfl kX8_lowest sX8_lowest w_5_80 (ltb rfl) rfl (leb rfl) dX8_over_72 h (fun r8 σ7 h => ?_)
      exact R_lret (pc := 75) rfl dX8_over_75 ⟨_, rfl, h⟩
    · have h := h.2 c
      refine R_ldc2 (pc := 15) (x := (-1)) w_5_86 (by decide) dX8_over_15 ?_
      exact R_lret (pc := 18) rfl dX8_over_18 ⟨_, rfl, h⟩
theorem X8_readLineOf_E {x1 : Int} {σ : Mem} {Q : Mem → Prop} (h : ((x1 = 4 → I32 (2 * (σ 4 1)) ∧ I32 (3 + (2 * (σ 4 1))) ∧ CI layM MX8_readNumber [vP 0, vI 1, vI 9] σ (fun r2 σ1 => 0 ≤ 3 + (2 * (σ 4 1)) ∧ 3 + (2 * (σ 4 1)) < 26 ∧ I32 (2 * ((upM σ1 4 (3 + (2 * (σ 4 1))) r2) 4 1)) ∧ I32 (3 + (2 * ((upM σ1 4 (3 + (2 * (σ 4 1))) r2) 4 1))) ∧ I32 ((3 + (2 * ((upM σ1 4 (3 + (2 * (σ 4 1))) r2) 4 1))) + 1) ∧ CI layM MX8_readNumber [vP 0, vI 1, vI 99] (upM σ1 4 (3 + (2 * (σ 4 1))) r2) (fun r4 σ3 => 0 ≤ (3 + (2 * ((upM σ1 4 (3 + (2 * (σ 4 1))) r2) 4 1))) + 1 ∧ (3 + (2 * ((upM σ1 4 (3 + (2 * (σ 4 1))) r2) 4 1))) + 1 < 26 ∧ I32 (((upM σ3 4 ((3 + (2 * ((upM σ1 4 (3 + (2 * (σ 4 1))) r2) 4 1))) + 1) r4) 4 1) + 1) ∧ Q (upM (upM σ3 4 ((3 + (2 * ((upM σ1 4 (3 + (2 * (σ 4 1))) r2) 4 1))) + 1) r4) 4 1 (((upM σ3 4 ((3 + (2 * ((upM σ1 4 (3 + (2 * (σ 4 1))) r2) 4 1))) + 1) r4) 4 1) + 1))))) ∧ (x1 = 5 → CI layM MX8_readNumber [vP 0, vI 0, vI 999] σ (fun r6 σ5 => Q (upM σ5 4 0 r6))) ∧ (x1 ≠ 4 ∧ x1 ≠ 5 → Q (upM σ 4 2 x1)))) : CV layM MX8_readLineOf [vP 0, vI x1] σ Q := by
  refine Cl.ofR (ls := [(0, vP 0), (1, vI x1)]) (show plainName RX8 = true by decide +kernel) (leb rfl) rfl ?_
  refine R_iload_n (pc := 0) 1 rfl rfl dX8_readLineOf_0 ?_
  by_cases c0 : x1 = 4
  · have h := h.1 c0
    refine R_lookup (pc := 1) (tgt := 28) (off := 27) (by decide) (by rw [c0]; decide) (by decide) dX8_readLineOf_1 ?_
    refine R_aload_n (pc := 28) 0 rfl rfl dX8_readLineOf_28 ?_
    refine R_getP (pc := 29) (q' := 4) lM_0 rfl flX8_20 dX8_readLineOf_29 ?_
    refine R_iconst (pc := 32) (by decide) dX8_readLineOf_32 ?_
    refine R_iconst (pc := 33) (by decide) dX8_readLineOf_33 ?_
    refine R_aload_n (pc := 34) 0 rfl rfl dX8_readLineOf_34 ?_
    refine R_getP (pc := 35) (q' := 4) lM_0 rfl flX8_20 dX8_readLineOf_35 ?_
    refine R_iconst (pc := 38) (by decide) dX8_readLineOf_38 ?_
    have g0 : (0 : Int) ≤ 1 := by decide
    have g1 : (1 : Int) < 26 := by decide
    refine R_iaload (pc := 39) lM_4 g0 g1 dX8_readLineOf_39 ?_
    obtain ⟨g, h⟩ := h
    refine R_imul (pc := 40) g dX8_readLineOf_40 ?_
    obtain ⟨g, h⟩ := h
    refine R_iadd (pc := 41) g dX8_readLineOf_41 ?_
    refine R_aload_n (pc := 42) 0 rfl rfl dX8_readLineOf_42 ?_
    refine R_iconst (pc := 43) (by decide) dX8_readLineOf_43 ?_
    refine R_bipush (pc := 44) (by decide) dX8_readLineOf_44 ?_
    refine R_callVI (pc := 46) (as := [vI 1, vI 9]) (st := [vI (3 + (2 * (σ 4 1))), vP 4]) rfl rfl kX8_readNumber sX8_readNumber lM_0 rfl w_5_13 (ltb rfl) rfl (leb rfl) dX8_readLineOf_46 h (fun r2 σ1 h => ?_)
    obtain ⟨g0, g1, h⟩ := h
    refine R_iastore (pc := 49) lM_4 g0 g1 dX8_readLineOf_49 ?_
    refine R_aload_n (pc := 50) 0 rfl rfl dX8_readLineOf_50 ?_
    refine R_getP (pc := 51) (q' := 4) lM_0 rfl flX8_20 dX8_readLineOf_51 ?_
    refine R_iconst (pc := 54) (by decide) dX8_readLineOf_54 ?_
    refine R_iconst (pc := 55) (by decide) dX8_readLineOf_55 ?_
    refine R_aload_n (pc := 56) 0 rfl rfl dX8_readLineOf_56 ?_
    refine R_getP (pc := 57) (q' := 4) lM_0 rfl flX8_20 dX8_readLineOf_57 ?_
    refine R_iconst (pc := 60) (by decide) dX8_readLineOf_60 ?_
    have g0 : (0 : Int) ≤ 1 := by decide
    have g1 : (1 : Int) < 26 := by decide
    refine R_iaload (pc := 61) lM_4 g0 g1 dX8_readLineOf_61 ?_
    obtain ⟨g, h⟩ := h
    refine R_imul (pc := 62) g dX8_readLineOf_62 ?_
    obtain ⟨g, h⟩ := h
    refine R_iadd (pc := 63) g dX8_readLineOf_63 ?_
    refine R_iconst (pc := 64) (by decide) dX8_readLineOf_64 ?_
    obtain ⟨g, h⟩ := h
    refine R_iadd (pc := 65) g dX8_readLineOf_65 ?_
    refine R_aload_n (pc := 66) 0 rfl rfl dX8_readLineOf_66 ?_
    refine R_iconst (pc := 67) (by decide) dX8_readLineOf_67 ?_
    refine R_bipush (pc := 68) (by decide) dX8_readLineOf_68 ?_
    refine R_callVI (pc := 70) (as := [vI 1, vI 99]) (st := [vI ((3 + (2 * ((upM σ1 4 (3 + (2 * (σ 4 1))) r2) 4 1))) + 1), vP 4]) rfl rfl kX8_readNumber sX8_readNumber lM_0 rfl w_5_13 (ltb rfl) rfl (leb rfl) dX8_readLineOf_70 h (fun r4 σ3 h => ?_)
    obtain ⟨g0, g1, h⟩ := h
    refine R_iastore (pc := 73) lM_4 g0 g1 dX8_readLineOf_73 ?_
    refine R_aload_n (pc := 74) 0 rfl rfl dX8_readLineOf_74 ?_
    refine R_getP (pc := 75) (q' := 4) lM_0 rfl flX8_20 dX8_readLineOf_75 ?_
    refine R_iconst (pc := 78) (by decide) dX8_readLineOf_78 ?_
    refine R_dup2 (pc := 79) rfl rfl dX8_readLineOf_79 ?_
    have g0 : (0 : Int) ≤ 1 := by decide
    have g1 : (1 : Int) < 26 := by decide
    refine R_iaload (pc := 80) lM_4 g0 g1 dX8_readLineOf_80 ?_
    refine R_iconst (pc := 81) (by decide) dX8_readLineOf_81 ?_
    obtain ⟨g, h⟩ := h
    refine R_iadd (pc := 82) g dX8_readLineOf_82 ?_
    have g0 : (0 : Int) ≤ 1 := by decide
    have g1 : (1 : Int) < 26 := by decide
    refine R_iastore (pc := 83) lM_4 g0 g1 dX8_readLineOf_83 ?_
    refine R_goto (pc := 84) (tgt := 111) (by decide) dX8_readLineOf_84 ?_
    exact R_vret (pc := 111) rfl dX8_readLineOf_111 ⟨rfl, h⟩
  by_cases c1 : x1 = 5
  · have h := h.2.1 c1
    refine R_lookup (pc := 1) (tgt := 87) (off := 86) (by decide) (by rw [c1]; decide) (by decide) dX8_readLineOf_1 ?_
    refine R_aload_n (pc := 87) 0 rfl rfl dX8_readLineOf_87 ?_
    refine R_getP (pc := 88) (q' := 4) lM_0 rfl flX8_20 dX8_readLineOf_88 ?_
    refine R_iconst (pc := 91) (by decide) dX8_readLineOf_91 ?_
    refine R_aload_n (pc := 92) 0 rfl rfl dX8_readLineOf_92 ?_
    refine R_iconst (pc := 93) (by decide) dX8_readLineOf_93 ?_
    refine R_sipush (pc := 94) (by decide) dX8_readLineOf_94 ?_
    refine R_callVI (pc := 97) (as := [vI 0, vI 999]) (st := [vI 0, vP 4]) rfl rfl kX8_readNumber sX8_readNumber lM_0 rfl w_5_13 (ltb rfl) rfl (leb rfl) dX8_readLineOf_97 h (fun r6 σ5 h => ?_)
    have g0 : (0 : Int) ≤ 0 := by decide
    have g1 : (0 : Int) < 26 := by decide
    refine R_iastore (pc := 100) lM_4 g0 g1 dX8_readLineOf_100 ?_
    refine R_goto (pc := 101) (tgt := 111) (by decide) dX8_readLineOf_101 ?_
    exact R_vret (pc := 111) rfl dX8_readLineOf_111 ⟨rfl, h⟩
  have h := h.2.2 ⟨c0, c1⟩
  refine R_lookup (pc := 1) (tgt := 104) (off := 103) (by decide) (by simp [Op.lookupswitch.offset, Ne.symm c0, Ne.symm c1]) (by decide) dX8_readLineOf_1 ?_
  refine R_aload_n (pc := 104) 0 rfl rfl dX8_readLineOf_104 ?_
  refine R_getP (pc := 105) (q' := 4) lM_0 rfl flX8_20 dX8_readLineOf_105 ?_
  refine R_iconst (pc := 108) (by decide) dX8_readLineOf_108 ?_
  refine R_iload_n (pc := 109) 1 rfl rfl dX8_readLineOf_109 ?_
  have g0 : (0 : Int) ≤ 2 := by decide
  have g1 : (2 : Int) < 26 := by decide
  refine R_iastore (pc := 110) lM_4 g0 g1 dX8_readLineOf_110 ?_
  exact R_vret (pc := 111) rfl dX8_readLineOf_111 ⟨rfl, h⟩
theorem X8_rule_E {x1 : Int} {σ : Mem} {Q : Int → Mem → Prop} (h : CV layM MX8_starts [vP 0] σ (fun σ1 => CV layM MX8_givesNow [vP 0] σ1 (fun σ2 => ((x1 = 0 → Q (σ2 1 1) σ2) ∧ (x1 = 1 → Q (σ2 1 0) σ2) ∧ (x1 = 2 → Q (σ2 1 2) σ2) ∧ (x1 = 3 → (((σ2 0 15) ≤ (σ2 0 16) → (((σ2 0 16) ≠ (σ2 0 15) → Q 2 σ2) ∧ ((σ2 0 16) = (σ2 0 15) → Q 1 σ2))) ∧ ((σ2 0 16) < (σ2 0 15) → Q 0 σ2))) ∧ (x1 = 4 → CI layM MX8_allGot [vP 0] σ2 (fun r4 σ3 => Q r4 σ3)) ∧ (x1 < 0 ∨ 4 < x1 → Q (-1) σ2))))) : CI layM MX8_rule [vP 0, vI x1] σ Q := by
  refine Cl.ofR (ls := [(0, vP 0), (1, vI x1)]) (show plainName RX8 = true by decide +kernel) (leb rfl) rfl ?_
  refine R_aload_n (pc := 0) 0 rfl rfl dX8_rule_0 ?_
  refine R_callV0 (pc := 1) (as := []) (st := []) rfl rfl kX8_starts sX8_starts lM_0 rfl w_5_25 (ltb rfl) rfl (leb rfl) dX8_rule_1 h (fun σ1 h => ?_)
  refine R_aload_n (pc := 4) 0 rfl rfl dX8_rule_4 ?_
  refine R_callV0 (pc := 5) (as := []) (st := []) rfl rfl kX8_givesNow sX8_givesNow lM_0 rfl w_5_33 (ltb rfl) rfl (leb rfl) dX8_rule_5 h (fun σ2 h => ?_)
  refine R_iload_n (pc := 8) 1 rfl rfl dX8_rule_8 ?_
  by_cases c0 : x1 = 0
  · have h := h.1 c0
    refine R_tableIn (pc := 9) (tgt := 44) 0 (by omega) (by omega) rfl (by decide) dX8_rule_9 ?_
    refine R_aload_n (pc := 44) 0 rfl rfl dX8_rule_44 ?_
    refine R_getP (pc := 45) (q' := 1) lM_0 rfl flX8_7 dX8_rule_45 ?_
    refine R_iconst (pc := 48) (by decide) dX8_rule_48 ?_
    have g0 : (0 : Int) ≤ 1 := by decide
    have g1 : (1 : Int) < 78 := by decide
    refine R_iaload (pc := 49) lM_1 g0 g1 dX8_rule_49 ?_
    exact R_iret (pc := 50) rfl dX8_rule_50 ⟨_, rfl, h⟩
  by_cases c1 : x1 = 1
  · have h := h.2.1 c1
    refine R_tableIn (pc := 9) (tgt := 51) 1 (by omega) (by omega) rfl (by decide) dX8_rule_9 ?_
    refine R_aload_n (pc := 51) 0 rfl rfl dX8_rule_51 ?_
    refine R_getP (pc := 52) (q' := 1) lM_0 rfl flX8_7 dX8_rule_52 ?_
    refine R_iconst (pc := 55) (by decide) dX8_rule_55 ?_
    have g0 : (0 : Int) ≤ 0 := by decide
    have g1 : (0 : Int) < 78 := by decide
    refine R_iaload (pc := 56) lM_1 g0 g1 dX8_rule_56 ?_
    exact R_iret (pc := 57) rfl dX8_rule_57 ⟨_, rfl, h⟩
  by_cases c2 : x1 = 2
  · have h := h.2.2.1 c2
    refine R_tableIn (pc := 9) (tgt := 58) 2 (by omega) (by omega) rfl (by decide) dX8_rule_9 ?_
    refine R_aload_n (pc := 58) 0 rfl rfl dX8_rule_58 ?_
    refine R_getP (pc := 59) (q' := 1) lM_0 rfl flX8_7 dX8_rule_59 ?_
    refine R_iconst (pc := 62) (by decide) dX8_rule_62 ?_
    have g0 : (0 : Int) ≤ 2 := by decide
    have g1 : (2 : Int) < 78 := by decide
    refine R_iaload (pc := 63) lM_1 g0 g1 dX8_rule_63 ?_
    exact R_iret (pc := 64) rfl dX8_rule_64 ⟨_, rfl, h⟩
  by_cases c3 : x1 = 3
  · have h := h.2.2.2.1 c3
    refine R_tableIn (pc := 9) (tgt := 65) 3 (by omega) (by omega) rfl (by decide) dX8_rule_9 ?_
    refine R_aload_n (pc := 65) 0 rfl rfl dX8_rule_65 ?_
    refine R_getJ (pc := 66) lM_0 rfl flX8_145 dX8_rule_66 ?_
    refine R_aload_n (pc := 69) 0 rfl rfl dX8_rule_69 ?_
    refine R_getJ (pc := 70) lM_0 rfl flX8_141 dX8_rule_70 ?_
    refine R_lcmp_ge (pc := 73) (tgt := 81) dX8_rule_73 (by decide) dX8_rule_74 (fun c => ?_) (fun c => ?_)
    · have h := h.1 c
      refine R_aload_n (pc := 81) 0 rfl rfl dX8_rule_81 ?_
      refine R_getJ (pc := 82) lM_0 rfl flX8_145 dX8_rule_82 ?_
      refine R_aload_n (pc := 85) 0 rfl rfl dX8_rule_85 ?_
      refine R_getJ (pc := 86) lM_0 rfl flX8_141 dX8_rule_86 ?_
      refine R_lcmp_ne (pc := 89) (tgt := 97) dX8_rule_89 (by decide) dX8_rule_90 (fun c => ?_) (fun c => ?_)
      · have h := h.1 c
        refine R_iconst (pc := 97) (by decide) dX8_rule_97 ?_
        exact R_iret (pc := 98) rfl dX8_rule_98 ⟨_, rfl, h⟩
      · have h := h.2 c
        refine R_iconst (pc := 93) (by decide) dX8_rule_93 ?_
        refine R_goto (pc := 94) (tgt := 98) (by decide) dX8_rule_94 ?_
        exact R_iret (pc := 98) rfl dX8_rule_98 ⟨_, rfl, h⟩
    · have h := h.2 c
      refine R_iconst (pc := 77) (by decide) dX8_rule_77 ?_
      refine R_goto (pc := 78) (tgt := 98) (by decide) dX8_rule_78 ?_
      exact R_iret (pc := 98) rfl dX8_rule_98 ⟨_, rfl, h⟩
  by_cases c4 : x1 = 4
  · have h := h.2.2.2.2.1 c4
    refine R_tableIn (pc := 9) (tgt := 99) 4 (by omega) (by omega) rfl (by decide) dX8_rule_9 ?_
    refine R_aload_n (pc := 99) 0 rfl rfl dX8_rule_99 ?_
    refine R_callVI (pc := 100) (as := []) (st := []) rfl rfl kX8_allGot sX8_allGot lM_0 rfl w_5_53 (ltb rfl) rfl (leb rfl) dX8_rule_100 h (fun r4 σ3 h => ?_)
    exact R_iret (pc := 103) rfl dX8_rule_103 ⟨_, rfl, h⟩
  have cD : x1 < 0 ∨ 4 < x1 := by omega
  have h := h.2.2.2.2.2 cD
  refine R_tableOut (pc := 9) (tgt := 104) cD (by decide) dX8_rule_9 ?_
  refine R_iconst (pc := 104) (by decide) dX8_rule_104 ?_
  exact R_iret (pc := 105) rfl dX8_rule_105 ⟨_, rfl, h⟩
def LX8_downs_39 (x1 : Int) (x2 : Int) (x3 : Int) (x4 : Int) (x5 : Int) (x6 : Int) (σ : Mem) (Q : Int → Mem → Prop) : Prop := Rn layM MX8_downs 39 [(0, vP 0), (1, vI x1), (2, vI x2), (3, vI x3), (4, vI x4), (5, vI x5), (6, vI x6)] [] σ (qI Q)
theorem X8_downs_39 {x1 x2 x3 x4 x5 x6 : Int} {σ : Mem} {Q : Int → Mem → Prop} (h : ((99 < x6 → CI layM MX8_ofThree [vP 0, vI x2, vI x3, vI x4, vI x5] σ (fun r2 σ1 => Q r2 σ1)) ∧ (x6 ≤ 99 → CI layM MX8_isDownSo [vP 0, vI x1, vI x6] σ (fun r4 σ3 => ((r4 = 0 → I32 (x6 + 1) ∧ LX8_downs_39 x1 x2 x3 x4 x5 (x6 + 1) σ3 Q) ∧ (r4 ≠ 0 → ((x3 ≠ 0 → I32 (x3 + 1) ∧ I32 (x6 + 1) ∧ LX8_downs_39 x1 x2 (x3 + 1) x4 x6 (x6 + 1) σ3 Q) ∧ (x3 = 0 → I32 (x3 + 1) ∧ I32 (x6 + 1) ∧ LX8_downs_39 x1 x2 (x3 + 1) x6 x6 (x6 + 1) σ3 Q)))))))) : LX8_downs_39 x1 x2 x3 x4 x5 x6 σ Q := by
  unfold LX8_downs_39
  refine R_iload (pc := 39) 6 rfl dX8_downs_39 ?_
  refine R_bipush (pc := 41) (by decide) dX8_downs_41 ?_
  refine R_icmp_gt (pc := 43) (tgt := 82) (by decide) dX8_downs_43 (fun c => ?_) (fun c => ?_)
  · have h := h.1 c
    refine R_aload_n (pc := 82) 0 rfl rfl dX8_downs_82 ?_
    refine R_iload_n (pc := 83) 2 rfl rfl dX8_downs_83 ?_
    refine R_iload_n (pc := 84) 3 rfl rfl dX8_downs_84 ?_
    refine R_iload (pc := 85) 4 rfl dX8_downs_85 ?_
    refine R_iload (pc := 87) 5 rfl dX8_downs_87 ?_
    refine R_callVI (pc := 89) (as := [vI x2, vI x3, vI x4, vI x5]) (st := []) rfl rfl kX8_ofThree sX8_ofThree lM_0 rfl w_5_237 (ltb rfl) rfl (leb rfl) dX8_downs_89 h (fun r2 σ1 h => ?_)
    exact R_iret (pc := 92) rfl dX8_downs_92 ⟨_, rfl, h⟩
  · have h := h.2 c
    refine R_aload_n (pc := 46) 0 rfl rfl dX8_downs_46 ?_
    refine R_iload_n (pc := 47) 1 rfl rfl dX8_downs_47 ?_
    refine R_iload (pc := 48) 6 rfl dX8_downs_48 ?_
    refine R_callVI (pc := 50) (as := [vI x1, vI x6]) (st := []) rfl rfl kX8_isDownSo sX8_isDownSo lM_0 rfl w_6_5 (ltb rfl) rfl (leb rfl) dX8_downs_50 h (fun r4 σ3 h => ?_)
    refine R_if_eq (pc := 53) (tgt := 76) (by decide) dX8_downs_53 (fun c => ?_) (fun c => ?_)
    · have h := h.1 c
      obtain ⟨g, h⟩ := h
      refine R_iinc (pc := 76) 6 rfl rfl g (ls' := [(6, vI (x6 + 1)), (0, vP 0), (1, vI x1), (2, vI x2), (3, vI x3), (4, vI x4), (5, vI x5)]) rfl (ltb rfl) dX8_downs_76 ?_
      refine R_goto (pc := 79) (tgt := 39) (by decide) dX8_downs_79 ?_
      refine R_sub [1, 2, 3, 4, 5, 6, 0] rfl ?_
      exact h
    · have h := h.2 c
      refine R_iload_n (pc := 56) 3 rfl rfl dX8_downs_56 ?_
      refine R_if_ne (pc := 57) (tgt := 65) (by decide) dX8_downs_57 (fun c => ?_) (fun c => ?_)
      · have h := h.1 c
        refine R_iload (pc := 65) 4 rfl dX8_downs_65 ?_
        refine R_istore (pc := 67) (ls' := [(4, vI x4), (0, vP 0), (1, vI x1), (2, vI x2), (3, vI x3), (5, vI x5), (6, vI x6)]) rfl (ltb rfl) dX8_downs_67 ?_
        refine R_iload (pc := 69) 6 rfl dX8_downs_69 ?_
        refine R_istore (pc := 71) (ls' := [(5, vI x6), (4, vI x4), (0, vP 0), (1, vI x1), (2, vI x2), (3, vI x3), (6, vI x6)]) rfl (ltb rfl) dX8_downs_71 ?_
        obtain ⟨g, h⟩ := h
        refine R_iinc (pc := 73) 5 rfl rfl g (ls' := [(3, vI (x3 + 1)), (5, vI x6), (4, vI x4), (0, vP 0), (1, vI x1), (2, vI x2), (6, vI x6)]) rfl (ltb rfl) dX8_downs_73 ?_
        obtain ⟨g, h⟩ := h
        refine R_iinc (pc := 76) 6 rfl rfl g (ls' := [(6, vI (x6 + 1)), (3, vI (x3 + 1)), (5, vI x6), (4, vI x4), (0, vP 0), (1, vI x1), (2, vI x2)]) rfl (ltb rfl) dX8_downs_76 ?_
        refine R_goto (pc := 79) (tgt := 39) (by decide) dX8_downs_79 ?_
        refine R_sub [4, 5, 6, 1, 3, 2, 0] rfl ?_
        exact h
      · have h := h.2 c
        refine R_iload (pc := 60) 6 rfl dX8_downs_60 ?_
        refine R_goto (pc := 62) (tgt := 67) (by decide) dX8_downs_62 ?_
        refine R_istore (pc := 67) (ls' := [(4, vI x6), (0, vP 0), (1, vI x1), (2, vI x2), (3, vI x3), (5, vI x5), (6, vI x6)]) rfl (ltb rfl) dX8_downs_67 ?_
        refine R_iload (pc := 69) 6 rfl dX8_downs_69 ?_
        refine R_istore (pc := 71) (ls' := [(5, vI x6), (4, vI x6), (0, vP 0), (1, vI x1), (2, vI x2), (3, vI x3), (6, vI x6)]) rfl (ltb rfl) dX8_downs_71 ?_
        obtain ⟨g, h⟩ := h
        refine R_iinc (pc := 73) 5 rfl rfl g (ls' := [(3, vI (x3 + 1)), (5, vI x6), (4, vI x6), (0, vP 0), (1, vI x1), (2, vI x2), (6, vI x6)]) rfl (ltb rfl) dX8_downs_73 ?_
        obtain ⟨g, h⟩ := h
        refine R_iinc (pc := 76) 6 rfl rfl g (ls' := [(6, vI (x6 + 1)), (3, vI (x3 + 1)), (5, vI x6), (4, vI x6), (0, vP 0), (1, vI x1), (2, vI x2)]) rfl (ltb rfl) dX8_downs_76 ?_
        refine R_goto (pc := 79) (tgt := 39) (by decide) dX8_downs_79 ?_
        refine R_sub [4, 5, 6, 1, 3, 2, 0] rfl ?_
        exact h
theorem X8_downs_E {x1 x2 : Int} {σ : Mem} {Q : Int → Mem → Prop} (h : CI layM MX8_isHeir [vP 0, vI x1] σ (fun r2 σ1 => ((r2 = 0 → Q (-1) σ1) ∧ (r2 ≠ 0 → CI layM MX8_in [vJ x2, vJ 0, vJ 2] σ1 (fun r4 σ3 => ((r4 ≠ 0 → CV layM MX8_starts [vP 0] σ3 (fun σ5 => LX8_downs_39 x1 x2 0 (-4) (-4) 1 σ5 Q)) ∧ (r4 = 0 → Q (-1) σ3))))))) : CI layM MX8_downs [vP 0, vI x1, vI x2] σ Q := by
  refine Cl.ofR (ls := [(0, vP 0), (1, vI x1), (2, vI x2)]) (show plainName RX8 = true by decide +kernel) (leb rfl) rfl ?_
  refine R_aload_n (pc := 0) 0 rfl rfl dX8_downs_0 ?_
  refine R_iload_n (pc := 1) 1 rfl rfl dX8_downs_1 ?_
  refine R_callVI (pc := 2) (as := [vI x1]) (st := []) rfl rfl kX8_isHeir sX8_isHeir lM_0 rfl w_5_61 (ltb rfl) rfl (leb rfl) dX8_downs_2 h (fun r2 σ1 h => ?_)
  refine R_if_eq (pc := 5) (tgt := 20) (by decide) dX8_downs_5 (fun c => ?_) (fun c => ?_)
  · have h := h.1 c
    refine R_iconst (pc := 20) (by decide) dX8_downs_20 ?_
    exact R_iret (pc := 21) rfl dX8_downs_21 ⟨_, rfl, h⟩
  · have h := h.2 c
    refine R_iload_n (pc := 8) 2 rfl rfl dX8_downs_8 ?_
    refine R_i2l (pc := 9) dX8_downs_9 ?_
    refine R_lconst (pc := 10) (x := 0) rfl dX8_downs_10 ?_
    refine R_ldc2 (pc := 11) (x := 2) w_5_232 (by decide) dX8_downs_11 ?_
    refine R_callSI (pc := 14) (as := [vJ x2, vJ 0, vJ 2]) (st := []) rfl rfl kX8_in sX8_in w_4_210 (ltb rfl) rfl (leb rfl) dX8_downs_14 h (fun r4 σ3 h => ?_)
    refine R_if_ne (pc := 17) (tgt := 22) (by decide) dX8_downs_17 (fun c => ?_) (fun c => ?_)
    · have h := h.1 c
      refine R_iconst (pc := 22) (by decide) dX8_downs_22 ?_
      refine R_istore_n (pc := 23) (ls' := [(3, vI 0), (0, vP 0), (1, vI x1), (2, vI x2)]) rfl rfl (ltb rfl) dX8_downs_23 ?_
      refine R_bipush (pc := 24) (by decide) dX8_downs_24 ?_
      refine R_istore (pc := 26) (ls' := [(4, vI (-4)), (3, vI 0), (0, vP 0), (1, vI x1), (2, vI x2)]) rfl (ltb rfl) dX8_downs_26 ?_
      refine R_bipush (pc := 28) (by decide) dX8_downs_28 ?_
      refine R_istore (pc := 30) (ls' := [(5, vI (-4)), (4, vI (-4)), (3, vI 0), (0, vP 0), (1, vI x1), (2, vI x2)]) rfl (ltb rfl) dX8_downs_30 ?_
      refine R_aload_n (pc := 32) 3 rfl rfl dX8_downs_32 ?_
      refine R_callV0 (pc := 33) (as := []) (st := []) rfl rfl kX8_starts sX8_starts lM_0 rfl w_5_25 (ltb rfl) rfl (leb rfl) dX8_downs_33 h (fun σ5 h => ?_)
      refine R_iconst (pc := 36) (by decide) dX8_downs_36 ?_
      refine R_istore (pc := 37) (ls' := [(6, vI 1), (5, vI (-4)), (4, vI (-4)), (3, vI 0), (0, vP 0), (1, vI x1), (2, vI x2)]) rfl (ltb rfl) dX8_downs_37 ?_
      refine R_sub [4, 5, 6, 3, 2, 1, 0] rfl ?_
      exact h
    · have h := h.2 c
      refine R_iconst (pc := 20) (by decide) dX8_downs_20 ?_
      exact R_iret (pc := 21) rfl dX8_downs_21 ⟨_, rfl, h⟩
def LX8_readLine_30 (x1 : Int) (s0 : Int) (σ : Mem) (Q : Mem → Prop) : Prop := Rn layM MX8_readLine 30 [(0, vP 0), (1, vI x1)] [vI s0, vP 0] σ (qV Q)
def LX8_readLine_62 (x1 : Int) (s0 : Int) (σ : Mem) (Q : Mem → Prop) : Prop := Rn layM MX8_readLine 62 [(0, vP 0), (1, vI x1)] [vI s0, vP 0] σ (qV Q)
def LX8_readLine_145 (x1 : Int) (σ : Mem) (Q : Mem → Prop) : Prop := Rn layM MX8_readLine 145 [(0, vP 0), (1, vI x1)] [] σ (qV Q)
def LX8_readLine_99 (x1 : Int) (s0 : Int) (σ : Mem) (Q : Mem → Prop) : Prop := Rn layM MX8_readLine 99 [(0, vP 0), (1, vI x1)] [vI s0, vP 0] σ (qV Q)
theorem X8_readLine_30 {x1 s0 : Int} {σ : Mem} {Q : Mem → Prop} (h : CV layM MX8_needs [vP 0, vI s0, vI 2] σ (fun σ1 => (((σ1 0 12) ≠ 0 → LX8_readLine_145 x1 σ1 Q) ∧ ((σ1 0 12) = 0 → ((x1 ≠ 4 → LX8_readLine_62 x1 1 σ1 Q) ∧ (x1 = 4 → ((5 ≤ (σ1 4 1) → LX8_readLine_62 x1 0 σ1 Q) ∧ ((σ1 4 1) < 5 → LX8_readLine_62 x1 1 σ1 Q)))))))) : LX8_readLine_30 x1 s0 σ Q := by
  unfold LX8_readLine_30
  refine R_iconst (pc := 30) (by decide) dX8_readLine_30 ?_
  refine R_callV0 (pc := 31) (as := [vI s0, vI 2]) (st := []) rfl rfl kX8_needs sX8_needs lM_0 rfl w_4_233 (ltb rfl) rfl (leb rfl) dX8_readLine_31 h (fun σ1 h => ?_)
  refine R_aload_n (pc := 34) 0 rfl rfl dX8_readLine_34 ?_
  refine R_getI (pc := 35) lM_0 rfl flX8_83 dX8_readLine_35 ?_
  refine R_if_ne (pc := 38) (tgt := 145) (by decide) dX8_readLine_38 (fun c => ?_) (fun c => ?_)
  · have h := h.1 c
    exact h
  · have h := h.2 c
    refine R_aload_n (pc := 41) 0 rfl rfl dX8_readLine_41 ?_
    refine R_iload_n (pc := 42) 1 rfl rfl dX8_readLine_42 ?_
    refine R_iconst (pc := 43) (by decide) dX8_readLine_43 ?_
    refine R_icmp_ne (pc := 44) (tgt := 57) (by decide) dX8_readLine_44 (fun c => ?_) (fun c => ?_)
    · have h := h.1 c
      refine R_iconst (pc := 57) (by decide) dX8_readLine_57 ?_
      refine R_goto (pc := 58) (tgt := 62) (by decide) dX8_readLine_58 ?_
      exact h
    · have h := h.2 c
      refine R_aload_n (pc := 47) 0 rfl rfl dX8_readLine_47 ?_
      refine R_getP (pc := 48) (q' := 4) lM_0 rfl flX8_20 dX8_readLine_48 ?_
      refine R_iconst (pc := 51) (by decide) dX8_readLine_51 ?_
      have g0 : (0 : Int) ≤ 1 := by decide
      have g1 : (1 : Int) < 26 := by decide
      refine R_iaload (pc := 52) lM_4 g0 g1 dX8_readLine_52 ?_
      refine R_iconst (pc := 53) (by decide) dX8_readLine_53 ?_
      refine R_icmp_ge (pc := 54) (tgt := 61) (by decide) dX8_readLine_54 (fun c => ?_) (fun c => ?_)
      · have h := h.1 c
        refine R_iconst (pc := 61) (by decide) dX8_readLine_61 ?_
        exact h
      · have h := h.2 c
        refine R_iconst (pc := 57) (by decide) dX8_readLine_57 ?_
        refine R_goto (pc := 58) (tgt := 62) (by decide) dX8_readLine_58 ?_
        exact h
theorem X8_readLine_62 {x1 s0 : Int} {σ : Mem} {Q : Mem → Prop} (h : CV layM MX8_needs [vP 0, vI s0, vI 5] σ (fun σ1 => ((x1 = 4 → LX8_readLine_99 x1 1 σ1 Q) ∧ (x1 ≠ 4 → ((x1 ≠ 5 → (((σ1 0 5) ≠ 0 → LX8_readLine_99 x1 0 σ1 Q) ∧ ((σ1 0 5) = 0 → LX8_readLine_99 x1 1 σ1 Q))) ∧ (x1 = 5 → (((σ1 0 4) = 0 → LX8_readLine_99 x1 1 σ1 Q) ∧ ((σ1 0 4) ≠ 0 → LX8_readLine_99 x1 0 σ1 Q)))))))) : LX8_readLine_62 x1 s0 σ Q := by
  unfold LX8_readLine_62
  refine R_iconst (pc := 62) (by decide) dX8_readLine_62 ?_
  refine R_callV0 (pc := 63) (as := [vI s0, vI 5]) (st := []) rfl rfl kX8_needs sX8_needs lM_0 rfl w_4_233 (ltb rfl) rfl (leb rfl) dX8_readLine_63 h (fun σ1 h => ?_)
  refine R_aload_n (pc := 66) 0 rfl rfl dX8_readLine_66 ?_
  refine R_iload_n (pc := 67) 1 rfl rfl dX8_readLine_67 ?_
  refine R_iconst (pc := 68) (by decide) dX8_readLine_68 ?_
  refine R_icmp_eq (pc := 69) (tgt := 94) (by decide) dX8_readLine_69 (fun c => ?_) (fun c => ?_)
  · have h := h.1 c
    refine R_iconst (pc := 94) (by decide) dX8_readLine_94 ?_
    refine R_goto (pc := 95) (tgt := 99) (by decide) dX8_readLine_95 ?_
    exact h
  · have h := h.2 c
    refine R_iload_n (pc := 72) 1 rfl rfl dX8_readLine_72 ?_
    refine R_iconst (pc := 73) (by decide) dX8_readLine_73 ?_
    refine R_icmp_ne (pc := 74) (tgt := 87) (by decide) dX8_readLine_74 (fun c => ?_) (fun c => ?_)
    · have h := h.1 c
      refine R_aload_n (pc := 87) 0 rfl rfl dX8_readLine_87 ?_
      refine R_getZ (pc := 88) lM_0 rfl flX8_70 dX8_readLine_88 ?_
      refine R_if_ne (pc := 91) (tgt := 98) (by decide) dX8_readLine_91 (fun c => ?_) (fun c => ?_)
      · have h := h.1 c
        refine R_iconst (pc := 98) (by decide) dX8_readLine_98 ?_
        exact h
      · have h := h.2 c
        refine R_iconst (pc := 94) (by decide) dX8_readLine_94 ?_
        refine R_goto (pc := 95) (tgt := 99) (by decide) dX8_readLine_95 ?_
        exact h
    · have h := h.2 c
      refine R_aload_n (pc := 77) 0 rfl rfl dX8_readLine_77 ?_
      refine R_getZ (pc := 78) lM_0 rfl flX8_66 dX8_readLine_78 ?_
      refine R_if_eq (pc := 81) (tgt := 94) (by decide) dX8_readLine_81 (fun c => ?_) (fun c => ?_)
      · have h := h.1 c
        refine R_iconst (pc := 94) (by decide) dX8_readLine_94 ?_
        refine R_goto (pc := 95) (tgt := 99) (by decide) dX8_readLine_95 ?_
        exact h
      · have h := h.2 c
        refine R_goto (pc := 84) (tgt := 98) (by decide) dX8_readLine_84 ?_
        refine R_iconst (pc := 98) (by decide) dX8_readLine_98 ?_
        exact h
theorem X8_readLine_145 {x1 : Int} {σ : Mem} {Q : Mem → Prop} (h : CV layM MX8_takes [vP 0] σ (fun σ1 => (((σ1 0 12) ≤ 0 → CV layM MX8_readLineOf [vP 0, vI x1] σ1 (fun σ2 => (((σ2 0 12) ≠ 0 → CV layM MX8_takes [vP 0] σ2 (fun σ3 => Q σ3)) ∧ ((σ2 0 12) = 0 → (((σ2 0 10) ≠ 3 → CV layM MX8_needs [vP 0, vI 0, vI 2] σ2 (fun σ4 => CV layM MX8_takes [vP 0] σ4 (fun σ5 => Q σ5))) ∧ ((σ2 0 10) = 3 → CV layM MX8_needs [vP 0, vI 1, vI 2] σ2 (fun σ6 => CV layM MX8_takes [vP 0] σ6 (fun σ7 => Q σ7)))))))) ∧ (0 < (σ1 0 12) → Q σ1)))) : LX8_readLine_145 x1 σ Q := by
  unfold LX8_readLine_145
  refine R_aload_n (pc := 145) 0 rfl rfl dX8_readLine_145 ?_
  refine R_callV0 (pc := 146) (as := []) (st := []) rfl rfl kX8_takes sX8_takes lM_0 rfl w_4_221 (ltb rfl) rfl (leb rfl) dX8_readLine_146 h (fun σ1 h => ?_)
  refine R_aload_n (pc := 149) 0 rfl rfl dX8_readLine_149 ?_
  refine R_getI (pc := 150) lM_0 rfl flX8_83 dX8_readLine_150 ?_
  refine R_if_le (pc := 153) (tgt := 157) (by decide) dX8_readLine_153 (fun c => ?_) (fun c => ?_)
  · have h := h.1 c
    refine R_aload_n (pc := 157) 0 rfl rfl dX8_readLine_157 ?_
    refine R_iload_n (pc := 158) 1 rfl rfl dX8_readLine_158 ?_
    refine R_callV0 (pc := 159) (as := [vI x1]) (st := []) rfl rfl kX8_readLineOf sX8_readLineOf lM_0 rfl w_5_9 (ltb rfl) rfl (leb rfl) dX8_readLine_159 h (fun σ2 h => ?_)
    refine R_aload_n (pc := 162) 0 rfl rfl dX8_readLine_162 ?_
    refine R_getI (pc := 163) lM_0 rfl flX8_83 dX8_readLine_163 ?_
    refine R_if_ne (pc := 166) (tgt := 187) (by decide) dX8_readLine_166 (fun c => ?_) (fun c => ?_)
    · have h := h.1 c
      refine R_aload_n (pc := 187) 0 rfl rfl dX8_readLine_187 ?_
      refine R_callV0 (pc := 188) (as := []) (st := []) rfl rfl kX8_takes sX8_takes lM_0 rfl w_4_221 (ltb rfl) rfl (leb rfl) dX8_readLine_188 h (fun σ3 h => ?_)
      exact R_vret (pc := 191) rfl dX8_readLine_191 ⟨rfl, h⟩
    · have h := h.2 c
      refine R_aload_n (pc := 169) 0 rfl rfl dX8_readLine_169 ?_
      refine R_aload_n (pc := 170) 0 rfl rfl dX8_readLine_170 ?_
      refine R_getI (pc := 171) lM_0 rfl flX8_103 dX8_readLine_171 ?_
      refine R_iconst (pc := 174) (by decide) dX8_readLine_174 ?_
      refine R_icmp_ne (pc := 175) (tgt := 182) (by decide) dX8_readLine_175 (fun c => ?_) (fun c => ?_)
      · have h := h.1 c
        refine R_iconst (pc := 182) (by decide) dX8_readLine_182 ?_
        refine R_iconst (pc := 183) (by decide) dX8_readLine_183 ?_
        refine R_callV0 (pc := 184) (as := [vI 0, vI 2]) (st := []) rfl rfl kX8_needs sX8_needs lM_0 rfl w_4_233 (ltb rfl) rfl (leb rfl) dX8_readLine_184 h (fun σ4 h => ?_)
        refine R_aload_n (pc := 187) 0 rfl rfl dX8_readLine_187 ?_
        refine R_callV0 (pc := 188) (as := []) (st := []) rfl rfl kX8_takes sX8_takes lM_0 rfl w_4_221 (ltb rfl) rfl (leb rfl) dX8_readLine_188 h (fun σ5 h => ?_)
        exact R_vret (pc := 191) rfl dX8_readLine_191 ⟨rfl, h⟩
      · have h := h.2 c
        refine R_iconst (pc := 178) (by decide) dX8_readLine_178 ?_
        refine R_goto (pc := 179) (tgt := 183) (by decide) dX8_readLine_179 ?_
        refine R_iconst (pc := 183) (by decide) dX8_readLine_183 ?_
        refine R_callV0 (pc := 184) (as := [vI 1, vI 2]) (st := []) rfl rfl kX8_needs sX8_needs lM_0 rfl w_4_233 (ltb rfl) rfl (leb rfl) dX8_readLine_184 h (fun σ6 h => ?_)
        refine R_aload_n (pc := 187) 0 rfl rfl dX8_readLine_187 ?_
        refine R_callV0 (pc := 188) (as := []) (st := []) rfl rfl kX8_takes sX8_takes lM_0 rfl w_4_221 (ltb rfl) rfl (leb rfl) dX8_readLine_188 h (fun σ7 h => ?_)
        exact R_vret (pc := 191) rfl dX8_readLine_191 ⟨rfl, h⟩
  · have h := h.2 c
    exact R_vret (pc := 156) rfl dX8_readLine_156 ⟨rfl, h⟩
theorem X8_readLine_99 {x1 s0 : Int} {σ : Mem} {Q : Mem → Prop} (h : CV layM MX8_needs [vP 0, vI s0, vI 4] σ (fun σ1 => (((σ1 0 4) ≠ 0 → ((((upM σ1 0 4 1) 0 5) ≠ 0 → LX8_readLine_145 x1 (upM (upM σ1 0 4 1) 0 5 1) Q) ∧ (((upM σ1 0 4 1) 0 5) = 0 → ((4 ≤ x1 → LX8_readLine_145 x1 (upM (upM σ1 0 4 1) 0 5 0) Q) ∧ (x1 < 4 → LX8_readLine_145 x1 (upM (upM σ1 0 4 1) 0 5 1) Q))))) ∧ ((σ1 0 4) = 0 → ((x1 ≠ 5 → ((((upM σ1 0 4 0) 0 5) ≠ 0 → LX8_readLine_145 x1 (upM (upM σ1 0 4 0) 0 5 1) Q) ∧ (((upM σ1 0 4 0) 0 5) = 0 → ((4 ≤ x1 → LX8_readLine_145 x1 (upM (upM σ1 0 4 0) 0 5 0) Q) ∧ (x1 < 4 → LX8_readLine_145 x1 (upM (upM σ1 0 4 0) 0 5 1) Q))))) ∧ (x1 = 5 → ((((upM σ1 0 4 1) 0 5) ≠ 0 → LX8_readLine_145 x1 (upM (upM σ1 0 4 1) 0 5 1) Q) ∧ (((upM σ1 0 4 1) 0 5) = 0 → ((4 ≤ x1 → LX8_readLine_145 x1 (upM (upM σ1 0 4 1) 0 5 0) Q) ∧ (x1 < 4 → LX8_readLine_145 x1 (upM (upM σ1 0 4 1) 0 5 1) Q)))))))))) : LX8_readLine_99 x1 s0 σ Q := by
  unfold LX8_readLine_99
  refine R_iconst (pc := 99) (by decide) dX8_readLine_99 ?_
  refine R_callV0 (pc := 100) (as := [vI s0, vI 4]) (st := []) rfl rfl kX8_needs sX8_needs lM_0 rfl w_4_233 (ltb rfl) rfl (leb rfl) dX8_readLine_100 h (fun σ1 h => ?_)
  refine R_aload_n (pc := 103) 0 rfl rfl dX8_readLine_103 ?_
  refine R_aload_n (pc := 104) 0 rfl rfl dX8_readLine_104 ?_
  refine R_getZ (pc := 105) lM_0 rfl flX8_66 dX8_readLine_105 ?_
  refine R_if_ne (pc := 108) (tgt := 116) (by decide) dX8_readLine_108 (fun c => ?_) (fun c => ?_)
  · have h := h.1 c
    refine R_iconst (pc := 116) (by decide) dX8_readLine_116 ?_
    refine R_goto (pc := 117) (tgt := 121) (by decide) dX8_readLine_117 ?_
    refine R_putZ (pc := 121) (by decide) lM_0 rfl fpX8_66 dX8_readLine_121 ?_
    refine R_aload_n (pc := 124) 0 rfl rfl dX8_readLine_124 ?_
    refine R_aload_n (pc := 125) 0 rfl rfl dX8_readLine_125 ?_
    refine R_getZ (pc := 126) lM_0 rfl flX8_70 dX8_readLine_126 ?_
    refine R_if_ne (pc := 129) (tgt := 137) (by decide) dX8_readLine_129 (fun c => ?_) (fun c => ?_)
    · have h := h.1 c
      refine R_iconst (pc := 137) (by decide) dX8_readLine_137 ?_
      refine R_goto (pc := 138) (tgt := 142) (by decide) dX8_readLine_138 ?_
      refine R_putZ (pc := 142) (by decide) lM_0 rfl fpX8_70 dX8_readLine_142 ?_
      exact h
    · have h := h.2 c
      refine R_iload_n (pc := 132) 1 rfl rfl dX8_readLine_132 ?_
      refine R_iconst (pc := 133) (by decide) dX8_readLine_133 ?_
      refine R_icmp_ge (pc := 134) (tgt := 141) (by decide) dX8_readLine_134 (fun c => ?_) (fun c => ?_)
      · have h := h.1 c
        refine R_iconst (pc := 141) (by decide) dX8_readLine_141 ?_
        refine R_putZ (pc := 142) (by decide) lM_0 rfl fpX8_70 dX8_readLine_142 ?_
        exact h
      · have h := h.2 c
        refine R_iconst (pc := 137) (by decide) dX8_readLine_137 ?_
        refine R_goto (pc := 138) (tgt := 142) (by decide) dX8_readLine_138 ?_
        refine R_putZ (pc := 142) (by decide) lM_0 rfl fpX8_70 dX8_readLine_142 ?_
        exact h
  · have h := h.2 c
    refine R_iload_n (pc := 111) 1 rfl rfl dX8_readLine_111 ?_
    refine R_iconst (pc := 112) (by decide) dX8_readLine_112 ?_
    refine R_icmp_ne (pc := 113) (tgt := 120) (by decide) dX8_readLine_113 (fun c => ?_) (fun c => ?_)
    · have h := h.1 c
      refine R_iconst (pc := 120) (by decide) dX8_readLine_120 ?_
      refine R_putZ (pc := 121) (by decide) lM_0 rfl fpX8_66 dX8_readLine_121 ?_
      refine R_aload_n (pc := 124) 0 rfl rfl dX8_readLine_124 ?_
      refine R_aload_n (pc := 125) 0 rfl rfl dX8_readLine_125 ?_
      refine R_getZ (pc := 126) lM_0 rfl flX8_70 dX8_readLine_126 ?_
      refine R_if_ne (pc := 129) (tgt := 137) (by decide) dX8_readLine_129 (fun c => ?_) (fun c => ?_)
      · have h := h.1 c
        refine R_iconst (pc := 137) (by decide) dX8_readLine_137 ?_
        refine R_goto (pc := 138) (tgt := 142) (by decide) dX8_readLine_138 ?_
        refine R_putZ (pc := 142) (by decide) lM_0 rfl fpX8_70 dX8_readLine_142 ?_
        exact h
      · have h := h.2 c
        refine R_iload_n (pc := 132) 1 rfl rfl dX8_readLine_132 ?_
        refine R_iconst (pc := 133) (by decide) dX8_readLine_133 ?_
        refine R_icmp_ge (pc := 134) (tgt := 141) (by decide) dX8_readLine_134 (fun c => ?_) (fun c => ?_)
        · have h := h.1 c
          refine R_iconst (pc := 141) (by decide) dX8_readLine_141 ?_
          refine R_putZ (pc := 142) (by decide) lM_0 rfl fpX8_70 dX8_readLine_142 ?_
          exact h
        · have h := h.2 c
          refine R_iconst (pc := 137) (by decide) dX8_readLine_137 ?_
          refine R_goto (pc := 138) (tgt := 142) (by decide) dX8_readLine_138 ?_
          refine R_putZ (pc := 142) (by decide) lM_0 rfl fpX8_70 dX8_readLine_142 ?_
          exact h
    · have h := h.2 c
      refine R_iconst (pc := 116) (by decide) dX8_readLine_116 ?_
      refine R_goto (pc := 117) (tgt := 121) (by decide) dX8_readLine_117 ?_
      refine R_putZ (pc := 121) (by decide) lM_0 rfl fpX8_66 dX8_readLine_121 ?_
      refine R_aload_n (pc := 124) 0 rfl rfl dX8_readLine_124 ?_
      refine R_aload_n (pc := 125) 0 rfl rfl dX8_readLine_125 ?_
      refine R_getZ (pc := 126) lM_0 rfl flX8_70 dX8_readLine_126 ?_
      refine R_if_ne (pc := 129) (tgt := 137) (by decide) dX8_readLine_129 (fun c => ?_) (fun c => ?_)
      · have h := h.1 c
        refine R_iconst (pc := 137) (by decide) dX8_readLine_137 ?_
        refine R_goto (pc := 138) (tgt := 142) (by decide) dX8_readLine_138 ?_
        refine R_putZ (pc := 142) (by decide) lM_0 rfl fpX8_70 dX8_readLine_142 ?_
        exact h
      · have h := h.2 c
        refine R_iload_n (pc := 132) 1 rfl rfl dX8_readLine_132 ?_
        refine R_iconst (pc := 133) (by decide) dX8_readLine_133 ?_
        refine R_icmp_ge (pc := 134) (tgt := 141) (by decide) dX8_readLine_134 (fun c => ?_) (fun c => ?_)
        · have h := h.1 c
          refine R_iconst (pc := 141) (by decide) dX8_readLine_141 ?_
          refine R_putZ (pc := 142) (by decide) lM_0 rfl fpX8_70 dX8_readLine_142 ?_
          exact h
        · have h := h.2 c
          refine R_iconst (pc := 137) (by decide) dX8_readLine_137 ?_
          refine R_goto (pc := 138) (tgt := 142) (by decide) dX8_readLine_138 ?_
          refine R_putZ (pc := 142) (by decide) lM_0 rfl fpX8_70 dX8_readLine_142 ?_
          exact h
theorem X8_readLine_E {σ : Mem} {Q : Mem → Prop} (h : (((σ 0 10) ≠ 1 → LX8_readLine_30 (-4) 0 σ Q) ∧ ((σ 0 10) = 1 → CI layM MX8_lineNow [vP 0] σ (fun r2 σ1 => ((r2 = (-4) → LX8_readLine_30 r2 0 σ1 Q) ∧ (r2 ≠ (-4) → LX8_readLine_30 r2 1 σ1 Q)))))) : CV layM MX8_readLine [vP 0] σ Q := by
  refine Cl.ofR (ls := [(0, vP 0)]) (show plainName RX8 = true by decide +kernel) (leb rfl) rfl ?_
  refine R_aload_n (pc := 0) 0 rfl rfl dX8_readLine_0 ?_
  refine R_getI (pc := 1) lM_0 rfl flX8_103 dX8_readLine_1 ?_
  refine R_iconst (pc := 4) (by decide) dX8_readLine_4 ?_
  refine R_icmp_ne (pc := 5) (tgt := 15) (by decide) dX8_readLine_5 (fun c => ?_) (fun c => ?_)
  · have h := h.1 c
    refine R_bipush (pc := 15) (by decide) dX8_readLine_15 ?_
    refine R_istore_n (pc := 17) (ls' := [(1, vI (-4)), (0, vP 0)]) rfl rfl (ltb rfl) dX8_readLine_17 ?_
    refine R_aload_n (pc := 18) 1 rfl rfl dX8_readLine_18 ?_
    refine R_iload_n (pc := 19) 0 rfl rfl dX8_readLine_19 ?_
    refine R_bipush (pc := 20) (by decide) dX8_readLine_20 ?_
    refine R_icmp_eq (pc := 22) (tgt := 29) (by decide) dX8_readLine_22 (fun c => ?_) (fun c => ?_)
    · clear c
      refine R_iconst (pc := 29) (by decide) dX8_readLine_29 ?_
      refine R_sub [1, 0] rfl ?_
      exact h
    · exact absurd c (by decide)
  · have h := h.2 c
    refine R_aload_n (pc := 8) 0 rfl rfl dX8_readLine_8 ?_
    refine R_callVI (pc := 9) (as := []) (st := []) rfl rfl kX8_lineNow sX8_lineNow lM_0 rfl w_5_1 (ltb rfl) rfl (leb rfl) dX8_readLine_9 h (fun r2 σ1 h => ?_)
    refine R_goto (pc := 12) (tgt := 17) (by decide) dX8_readLine_12 ?_
    refine R_istore_n (pc := 17) (ls' := [(1, vI r2), (0, vP 0)]) rfl rfl (ltb rfl) dX8_readLine_17 ?_
    refine R_aload_n (pc := 18) 1 rfl rfl dX8_readLine_18 ?_
    refine R_iload_n (pc := 19) 0 rfl rfl dX8_readLine_19 ?_
    refine R_bipush (pc := 20) (by decide) dX8_readLine_20 ?_
    refine R_icmp_eq (pc := 22) (tgt := 29) (by decide) dX8_readLine_22 (fun c => ?_) (fun c => ?_)
    · have h := h.1 c
      refine R_iconst (pc := 29) (by decide) dX8_readLine_29 ?_
      refine R_sub [1, 0] rfl ?_
      exact h
    · have h := h.2 c
      refine R_iconst (pc := 25) (by decide) dX8_readLine_25 ?_
      refine R_goto (pc := 26) (tgt := 30) (by decide) dX8_readLine_26 ?_
      refine R_sub [1, 0] rfl ?_
      exact h
def LX8_text_20 (x1 : Int) (σ : Mem) (Q : Int → Mem → Prop) : Prop := Rn layM MX8_text 20 [(0, vP 0), (1, vI x1)] [] σ (qI Q)
theorem X8_text_20 {x1 : Int} {σ : Mem} {Q : Int → Mem → Prop} (h : (((σ 0 12) ≠ 0 → ((((upM σ 0 7 0) 0 12) ≤ 0 → CV layM MX8_keepDraft [vP 0] (upM σ 0 7 0) (fun σ1 => Q x1 σ1)) ∧ (0 < ((upM σ 0 7 0) 0 12) → I32 ((-10) - ((upM σ 0 7 0) 0 13)) ∧ Q ((-10) - ((upM σ 0 7 0) 0 13)) (upM σ 0 7 0)))) ∧ ((σ 0 12) = 0 → (((σ 0 10) = 0 → ((((upM σ 0 7 0) 0 12) ≤ 0 → CV layM MX8_keepDraft [vP 0] (upM σ 0 7 0) (fun σ2 => Q x1 σ2)) ∧ (0 < ((upM σ 0 7 0) 0 12) → I32 ((-10) - ((upM σ 0 7 0) 0 13)) ∧ Q ((-10) - ((upM σ 0 7 0) 0 13)) (upM σ 0 7 0)))) ∧ ((σ 0 10) ≠ 0 → CV layM MX8_readLine [vP 0] σ (fun σ3 => I32 (x1 + 1) ∧ LX8_text_20 (x1 + 1) σ3 Q)))))) : LX8_text_20 x1 σ Q := by
  unfold LX8_text_20
  refine R_aload_n (pc := 20) 0 rfl rfl dX8_text_20 ?_
  refine R_getI (pc := 21) lM_0 rfl flX8_83 dX8_text_21 ?_
  refine R_if_ne (pc := 24) (tgt := 44) (by decide) dX8_text_24 (fun c => ?_) (fun c => ?_)
  · have h := h.1 c
    refine R_aload_n (pc := 44) 0 rfl rfl dX8_text_44 ?_
    refine R_iconst (pc := 45) (by decide) dX8_text_45 ?_
    refine R_putI (pc := 46) lM_0 rfl fpX8_79 dX8_text_46 ?_
    refine R_aload_n (pc := 49) 0 rfl rfl dX8_text_49 ?_
    refine R_getI (pc := 50) lM_0 rfl flX8_83 dX8_text_50 ?_
    refine R_if_le (pc := 53) (tgt := 64) (by decide) dX8_text_53 (fun c => ?_) (fun c => ?_)
    · have h := h.1 c
      refine R_aload_n (pc := 64) 0 rfl rfl dX8_text_64 ?_
      refine R_callV0 (pc := 65) (as := []) (st := []) rfl rfl kX8_keepDraft sX8_keepDraft lM_0 rfl w_4_101 (ltb rfl) rfl (leb rfl) dX8_text_65 h (fun σ1 h => ?_)
      refine R_iload_n (pc := 68) 1 rfl rfl dX8_text_68 ?_
      exact R_iret (pc := 69) rfl dX8_text_69 ⟨_, rfl, h⟩
    · have h := h.2 c
      refine R_bipush (pc := 56) (by decide) dX8_text_56 ?_
      refine R_aload_n (pc := 58) 0 rfl rfl dX8_text_58 ?_
      refine R_getI (pc := 59) lM_0 rfl flX8_89 dX8_text_59 ?_
      obtain ⟨g, h⟩ := h
      refine R_isub (pc := 62) g dX8_text_62 ?_
      exact R_iret (pc := 63) rfl dX8_text_63 ⟨_, rfl, h⟩
  · have h := h.2 c
    refine R_aload_n (pc := 27) 0 rfl rfl dX8_text_27 ?_
    refine R_getI (pc := 28) lM_0 rfl flX8_103 dX8_text_28 ?_
    refine R_if_eq (pc := 31) (tgt := 44) (by decide) dX8_text_31 (fun c => ?_) (fun c => ?_)
    · have h := h.1 c
      refine R_aload_n (pc := 44) 0 rfl rfl dX8_text_44 ?_
      refine R_iconst (pc := 45) (by decide) dX8_text_45 ?_
      refine R_putI (pc := 46) lM_0 rfl fpX8_79 dX8_text_46 ?_
      refine R_aload_n (pc := 49) 0 rfl rfl dX8_text_49 ?_
      refine R_getI (pc := 50) lM_0 rfl flX8_83 dX8_text_50 ?_
      refine R_if_le (pc := 53) (tgt := 64) (by decide) dX8_text_53 (fun c => ?_) (fun c => ?_)
      · have h := h.1 c
        refine R_aload_n (pc := 64) 0 rfl rfl dX8_text_64 ?_
        refine R_callV0 (pc := 65) (as := []) (st := []) rfl rfl kX8_keepDraft sX8_keepDraft lM_0 rfl w_4_101 (ltb rfl) rfl (leb rfl) dX8_text_65 h (fun σ2 h => ?_)
        refine R_iload_n (pc := 68) 1 rfl rfl dX8_text_68 ?_
        exact R_iret (pc := 69) rfl dX8_text_69 ⟨_, rfl, h⟩
      · have h := h.2 c
        refine R_bipush (pc := 56) (by decide) dX8_text_56 ?_
        refine R_aload_n (pc := 58) 0 rfl rfl dX8_text_58 ?_
        refine R_getI (pc := 59) lM_0 rfl flX8_89 dX8_text_59 ?_
        obtain ⟨g, h⟩ := h
        refine R_isub (pc := 62) g dX8_text_62 ?_
        exact R_iret (pc := 63) rfl dX8_text_63 ⟨_, rfl, h⟩
    · have h := h.2 c
      refine R_aload_n (pc := 34) 0 rfl rfl dX8_text_34 ?_
      refine R_callV0 (pc := 35) (as := []) (st := []) rfl rfl kX8_readLine sX8_readLine lM_0 rfl w_4_237 (ltb rfl) rfl (leb rfl) dX8_text_35 h (fun σ3 h => ?_)
      obtain ⟨g, h⟩ := h
      refine R_iinc (pc := 38) 1 rfl rfl g (ls' := [(1, vI (x1 + 1)), (0, vP 0)]) rfl (ltb rfl) dX8_text_38 ?_
      refine R_goto (pc := 41) (tgt := 20) (by decide) dX8_text_41 ?_
      refine R_sub [1, 0] rfl ?_
      exact h
theorem X8_text_E {σ : Mem} {Q : Int → Mem → Prop} (h : CV layM MX8_firstDraft [vP 0] (upM (upM σ 0 12 0) 0 8 0) (fun σ1 => CV layM MX8_takes [vP 0] σ1 (fun σ2 => LX8_text_20 0 σ2 Q))) : CI layM MX8_text [vP 0] σ Q := by
  refine Cl.ofR (ls := [(0, vP 0)]) (show plainName RX8 = true by decide +kernel) (leb rfl) rfl ?_
  refine R_iconst (pc := 0) (by decide) dX8_text_0 ?_
  refine R_istore_n (pc := 1) (ls' := [(1, vI 0), (0, vP 0)]) rfl rfl (ltb rfl) dX8_text_1 ?_
  refine R_aload_n (pc := 2) 1 rfl rfl dX8_text_2 ?_
  refine R_iconst (pc := 3) (by decide) dX8_text_3 ?_
  refine R_putI (pc := 4) lM_0 rfl fpX8_83 dX8_text_4 ?_
  refine R_aload_n (pc := 7) 1 rfl rfl dX8_text_7 ?_
  refine R_iconst (pc := 8) (by decide) dX8_text_8 ?_
  refine R_putI (pc := 9) lM_0 rfl fpX8_92 dX8_text_9 ?_
  refine R_aload_n (pc := 12) 1 rfl rfl dX8_text_12 ?_
  refine R_callV0 (pc := 13) (as := []) (st := []) rfl rfl kX8_firstDraft sX8_firstDraft lM_0 rfl w_4_97 (ltb rfl) rfl (leb rfl) dX8_text_13 h (fun σ1 h => ?_)
  refine R_aload_n (pc := 16) 1 rfl rfl dX8_text_16 ?_
  refine R_callV0 (pc := 17) (as := []) (st := []) rfl rfl kX8_takes sX8_takes lM_0 rfl w_4_221 (ltb rfl) rfl (leb rfl) dX8_text_17 h (fun σ2 h => ?_)
  refine R_sub [1, 0] rfl ?_
  exact h
