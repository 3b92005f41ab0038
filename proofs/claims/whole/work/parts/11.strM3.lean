def LX8_lend_11 (x1 : Int) (x2 : Int) (σ : Mem) (Q : Int → Mem → Prop) : Prop := Rn layM MX8_lend 11 [(0, vP 0), (1, vI x1), (2, vI x2)] [] σ (qI Q)
def LX8_lend_36 (x1 : Int) (x2 : Int) (x3 : Int) (x4 : Int) (x5 : Int) (x6 : Int) (σ : Mem) (Q : Int → Mem → Prop) : Prop := Rn layM MX8_lend 36 [(0, vP 0), (1, vI x1), (2, vI x2), (3, vI x3), (4, vI x4), (5, vI x5), (6, vI x6)] [] σ (qI Q)
def LX8_lend_67 (x1 : Int) (x2 : Int) (x3 : Int) (x5 : Int) (x6 : Int) (s0 : Int) (σ : Mem) (Q : Int → Mem → Prop) : Prop := Rn layM MX8_lend 67 [(0, vP 0), (1, vI x1), (2, vI x2), (3, vI x3), (5, vI x5), (6, vI x6)] [vI s0] σ (qI Q)
theorem X8_lend_11 {x1 x2 : Int} {σ : Mem} {Q : Int → Mem → Prop} (h : ((999 < x2 → Q (-4) σ) ∧ (x2 ≤ 999 → I32 ((σ 1 0) + x2) ∧ LX8_lend_36 x1 x2 ((σ 1 0) + x2) 1 0 0 σ Q))) : LX8_lend_11 x1 x2 σ Q := by
  unfold LX8_lend_11
  refine R_iload_n (pc := 11) 2 rfl rfl dX8_lend_11 ?_
  refine R_sipush (pc := 12) (by decide) dX8_lend_12 ?_
  refine R_icmp_gt (pc := 15) (tgt := 135) (by decide) dX8_lend_15 (fun c => ?_) (fun c => ?_)
  · have h := h.1 c
    refine R_bipush (pc := 135) (by decide) dX8_lend_135 ?_
    exact R_iret (pc := 137) rfl dX8_lend_137 ⟨_, rfl, h⟩
  · have h := h.2 c
    refine R_aload_n (pc := 18) 0 rfl rfl dX8_lend_18 ?_
    refine R_getP (pc := 19) (q' := 1) lM_0 rfl flX8_7 dX8_lend_19 ?_
    refine R_iconst (pc := 22) (by decide) dX8_lend_22 ?_
    have g0 : (0 : Int) ≤ 0 := by decide
    have g1 : (0 : Int) < 78 := by decide
    refine R_iaload (pc := 23) lM_1 g0 g1 dX8_lend_23 ?_
    refine R_iload_n (pc := 24) 2 rfl rfl dX8_lend_24 ?_
    obtain ⟨g, h⟩ := h
    refine R_iadd (pc := 25) g dX8_lend_25 ?_
    refine R_istore_n (pc := 26) (ls' := [(3, vI ((σ 1 0) + x2)), (0, vP 0), (1, vI x1), (2, vI x2)]) rfl rfl (ltb rfl) dX8_lend_26 ?_
    refine R_iconst (pc := 27) (by decide) dX8_lend_27 ?_
    refine R_istore (pc := 28) (ls' := [(4, vI 1), (3, vI ((σ 1 0) + x2)), (0, vP 0), (1, vI x1), (2, vI x2)]) rfl (ltb rfl) dX8_lend_28 ?_
    refine R_iconst (pc := 30) (by decide) dX8_lend_30 ?_
    refine R_istore (pc := 31) (ls' := [(5, vI 0), (4, vI 1), (3, vI ((σ 1 0) + x2)), (0, vP 0), (1, vI x1), (2, vI x2)]) rfl (ltb rfl) dX8_lend_31 ?_
    refine R_iconst (pc := 33) (by decide) dX8_lend_33 ?_
    refine R_istore (pc := 34) (ls' := [(6, vI 0), (5, vI 0), (4, vI 1), (3, vI ((σ 1 0) + x2)), (0, vP 0), (1, vI x1), (2, vI x2)]) rfl (ltb rfl) dX8_lend_34 ?_
    refine R_sub [4, 5, 6, 3, 2, 1, 0] rfl ?_
    exact h
theorem X8_lend_36 {x1 x2 x3 x4 x5 x6 : Int} {σ : Mem} {Q : Int → Mem → Prop} (h : (((σ 1 1) ≤ x6 → ((x4 = 0 → I32 (x2 + 1) ∧ LX8_lend_11 x1 (x2 + 1) σ Q) ∧ (x4 ≠ 0 → ((x1 = 0 → Q x2 σ) ∧ (x1 ≠ 0 → ((x5 ≠ (σ 1 0) → I32 (x2 + 1) ∧ LX8_lend_11 x1 (x2 + 1) σ Q) ∧ (x5 = (σ 1 0) → Q x2 σ))))))) ∧ (x6 < (σ 1 1) → ((x4 = 0 → LX8_lend_67 x1 x2 x3 x5 x6 0 σ Q) ∧ (x4 ≠ 0 → CI layM MX8_isWhole [vP 0, vI x6, vI x3] σ (fun r2 σ1 => ((r2 = 0 → LX8_lend_67 x1 x2 x3 x5 x6 0 σ1 Q) ∧ (r2 ≠ 0 → LX8_lend_67 x1 x2 x3 x5 x6 1 σ1 Q)))))))) : LX8_lend_36 x1 x2 x3 x4 x5 x6 σ Q := by
  unfold LX8_lend_36
  refine R_iload (pc := 36) 6 rfl dX8_lend_36 ?_
  refine R_aload_n (pc := 38) 0 rfl rfl dX8_lend_38 ?_
  refine R_getP (pc := 39) (q' := 1) lM_0 rfl flX8_7 dX8_lend_39 ?_
  refine R_iconst (pc := 42) (by decide) dX8_lend_42 ?_
  have g0 : (0 : Int) ≤ 1 := by decide
  have g1 : (1 : Int) < 78 := by decide
  refine R_iaload (pc := 43) lM_1 g0 g1 dX8_lend_43 ?_
  refine R_icmp_ge (pc := 44) (tgt := 107) (by decide) dX8_lend_44 (fun c => ?_) (fun c => ?_)
  · have h := h.1 c
    refine R_iload (pc := 107) 4 rfl dX8_lend_107 ?_
    refine R_if_eq (pc := 109) (tgt := 129) (by decide) dX8_lend_109 (fun c => ?_) (fun c => ?_)
    · have h := h.1 c
      obtain ⟨g, h⟩ := h
      refine R_iinc (pc := 129) 2 rfl rfl g (ls' := [(2, vI (x2 + 1)), (0, vP 0), (1, vI x1), (3, vI x3), (4, vI x4), (5, vI x5), (6, vI x6)]) rfl (ltb rfl) dX8_lend_129 ?_
      refine R_goto (pc := 132) (tgt := 11) (by decide) dX8_lend_132 ?_
      refine R_sub [1, 2, 0] rfl ?_
      exact h
    · have h := h.2 c
      refine R_iload_n (pc := 112) 1 rfl rfl dX8_lend_112 ?_
      refine R_if_eq (pc := 113) (tgt := 127) (by decide) dX8_lend_113 (fun c => ?_) (fun c => ?_)
      · have h := h.1 c
        refine R_iload_n (pc := 127) 2 rfl rfl dX8_lend_127 ?_
        exact R_iret (pc := 128) rfl dX8_lend_128 ⟨_, rfl, h⟩
      · have h := h.2 c
        refine R_iload (pc := 116) 5 rfl dX8_lend_116 ?_
        refine R_aload_n (pc := 118) 0 rfl rfl dX8_lend_118 ?_
        refine R_getP (pc := 119) (q' := 1) lM_0 rfl flX8_7 dX8_lend_119 ?_
        refine R_iconst (pc := 122) (by decide) dX8_lend_122 ?_
        have g0 : (0 : Int) ≤ 0 := by decide
        have g1 : (0 : Int) < 78 := by decide
        refine R_iaload (pc := 123) lM_1 g0 g1 dX8_lend_123 ?_
        refine R_icmp_ne (pc := 124) (tgt := 129) (by decide) dX8_lend_124 (fun c => ?_) (fun c => ?_)
        · have h := h.1 c
          obtain ⟨g, h⟩ := h
          refine R_iinc (pc := 129) 2 rfl rfl g (ls' := [(2, vI (x2 + 1)), (0, vP 0), (1, vI x1), (3, vI x3), (4, vI x4), (5, vI x5), (6, vI x6)]) rfl (ltb rfl) dX8_lend_129 ?_
          refine R_goto (pc := 132) (tgt := 11) (by decide) dX8_lend_132 ?_
          refine R_sub [1, 2, 0] rfl ?_
          exact h
        · have h := h.2 c
          refine R_iload_n (pc := 127) 2 rfl rfl dX8_lend_127 ?_
          exact R_iret (pc := 128) rfl dX8_lend_128 ⟨_, rfl, h⟩
  · have h := h.2 c
    refine R_iload (pc := 47) 4 rfl dX8_lend_47 ?_
    refine R_if_eq (pc := 49) (tgt := 66) (by decide) dX8_lend_49 (fun c => ?_) (fun c => ?_)
    · have h := h.1 c
      refine R_iconst (pc := 66) (by decide) dX8_lend_66 ?_
      refine R_sub [0, 1, 2, 3, 5, 6] rfl ?_
      exact h
    · have h := h.2 c
      refine R_aload_n (pc := 52) 0 rfl rfl dX8_lend_52 ?_
      refine R_iload (pc := 53) 6 rfl dX8_lend_53 ?_
      refine R_iload_n (pc := 55) 3 rfl rfl dX8_lend_55 ?_
      refine R_callVI (pc := 56) (as := [vI x6, vI x3]) (st := []) rfl rfl kX8_isWhole sX8_isWhole lM_0 rfl w_5_133 (ltb rfl) rfl (leb rfl) dX8_lend_56 h (fun r2 σ1 h => ?_)
      refine R_if_eq (pc := 59) (tgt := 66) (by decide) dX8_lend_59 (fun c => ?_) (fun c => ?_)
      · have h := h.1 c
        refine R_iconst (pc := 66) (by decide) dX8_lend_66 ?_
        refine R_sub [0, 1, 2, 3, 5, 6] rfl ?_
        exact h
      · have h := h.2 c
        refine R_iconst (pc := 62) (by decide) dX8_lend_62 ?_
        refine R_goto (pc := 63) (tgt := 67) (by decide) dX8_lend_63 ?_
        refine R_sub [0, 1, 2, 3, 5, 6] rfl ?_
        exact h
theorem X8_lend_67 {x1 x2 x3 x5 x6 s0 : Int} {σ : Mem} {Q : Int → Mem → Prop} (h : I32 (2 * x6) ∧ I32 (3 + (2 * x6)) ∧ 0 ≤ 3 + (2 * x6) ∧ 3 + (2 * x6) < 78 ∧ I32 (x3 * (σ 1 (3 + (2 * x6)))) ∧ I32 (2 * x6) ∧ I32 (3 + (2 * x6)) ∧ I32 ((3 + (2 * x6)) + 1) ∧ 0 ≤ (3 + (2 * x6)) + 1 ∧ (3 + (2 * x6)) + 1 < 78 ∧ (σ 1 ((3 + (2 * x6)) + 1)) ≠ 0 ∧ I32 (Int.tdiv (x3 * (σ 1 (3 + (2 * x6)))) (σ 1 ((3 + (2 * x6)) + 1))) ∧ I32 (x5 + (Int.tdiv (x3 * (σ 1 (3 + (2 * x6)))) (σ 1 ((3 + (2 * x6)) + 1)))) ∧ I32 (x6 + 1) ∧ LX8_lend_36 x1 x2 x3 s0 (x5 + (Int.tdiv (x3 * (σ 1 (3 + (2 * x6)))) (σ 1 ((3 + (2 * x6)) + 1)))) (x6 + 1) σ Q) : LX8_lend_67 x1 x2 x3 x5 x6 s0 σ Q := by
  unfold LX8_lend_67
  refine R_istore (pc := 67) (ls' := [(4, vI s0), (0, vP 0), (1, vI x1), (2, vI x2), (3, vI x3), (5, vI x5), (6, vI x6)]) rfl (ltb rfl) dX8_lend_67 ?_
  refine R_iload (pc := 69) 5 rfl dX8_lend_69 ?_
  refine R_iload_n (pc := 71) 4 rfl rfl dX8_lend_71 ?_
  refine R_aload_n (pc := 72) 1 rfl rfl dX8_lend_72 ?_
  refine R_getP (pc := 73) (q' := 1) lM_0 rfl flX8_7 dX8_lend_73 ?_
  refine R_iconst (pc := 76) (by decide) dX8_lend_76 ?_
  refine R_iconst (pc := 77) (by decide) dX8_lend_77 ?_
  refine R_iload (pc := 78) 6 rfl dX8_lend_78 ?_
  obtain ⟨g, h⟩ := h
  refine R_imul (pc := 80) g dX8_lend_80 ?_
  obtain ⟨g, h⟩ := h
  refine R_iadd (pc := 81) g dX8_lend_81 ?_
  obtain ⟨g0, g1, h⟩ := h
  refine R_iaload (pc := 82) lM_1 g0 g1 dX8_lend_82 ?_
  obtain ⟨g, h⟩ := h
  refine R_imul (pc := 83) g dX8_lend_83 ?_
  refine R_aload_n (pc := 84) 1 rfl rfl dX8_lend_84 ?_
  refine R_getP (pc := 85) (q' := 1) lM_0 rfl flX8_7 dX8_lend_85 ?_
  refine R_iconst (pc := 88) (by decide) dX8_lend_88 ?_
  refine R_iconst (pc := 89) (by decide) dX8_lend_89 ?_
  refine R_iload (pc := 90) 6 rfl dX8_lend_90 ?_
  obtain ⟨g, h⟩ := h
  refine R_imul (pc := 92) g dX8_lend_92 ?_
  obtain ⟨g, h⟩ := h
  refine R_iadd (pc := 93) g dX8_lend_93 ?_
  refine R_iconst (pc := 94) (by decide) dX8_lend_94 ?_
  obtain ⟨g, h⟩ := h
  refine R_iadd (pc := 95) g dX8_lend_95 ?_
  obtain ⟨g0, g1, h⟩ := h
  refine R_iaload (pc := 96) lM_1 g0 g1 dX8_lend_96 ?_
  obtain ⟨g0, h⟩ := h
  obtain ⟨g, h⟩ := h
  refine R_idiv (pc := 97) g0 g dX8_lend_97 ?_
  obtain ⟨g, h⟩ := h
  refine R_iadd (pc := 98) g dX8_lend_98 ?_
  refine R_istore (pc := 99) (ls' := [(5, vI (x5 + (Int.tdiv (x3 * (σ 1 (3 + (2 * x6)))) (σ 1 ((3 + (2 * x6)) + 1))))), (4, vI s0), (0, vP 0), (1, vI x1), (2, vI x2), (3, vI x3), (6, vI x6)]) rfl (ltb rfl) dX8_lend_99 ?_
  obtain ⟨g, h⟩ := h
  refine R_iinc (pc := 101) 6 rfl rfl g (ls' := [(6, vI (x6 + 1)), (5, vI (x5 + (Int.tdiv (x3 * (σ 1 (3 + (2 * x6)))) (σ 1 ((3 + (2 * x6)) + 1))))), (4, vI s0), (0, vP 0), (1, vI x1), (2, vI x2), (3, vI x3)]) rfl (ltb rfl) dX8_lend_101 ?_
  refine R_goto (pc := 104) (tgt := 36) (by decide) dX8_lend_104 ?_
  refine R_sub [3, 4, 5, 6, 2, 1, 0] rfl ?_
  exact h
theorem X8_lend_E {x1 : Int} {σ : Mem} {Q : Int → Mem → Prop} (h : CI layM MX8_isPart [vI x1] σ (fun r2 σ1 => ((r2 ≠ 0 → LX8_lend_11 x1 0 σ1 Q) ∧ (r2 = 0 → Q (-1) σ1)))) : CI layM MX8_lend [vP 0, vI x1] σ Q := by
  refine Cl.ofR (ls := [(0, vP 0), (1, vI x1)]) (show plainName RX8 = true by decide +kernel) (leb rfl) rfl ?_
  refine R_iload_n (pc := 0) 1 rfl rfl dX8_lend_0 ?_
  refine R_callSI (pc := 1) (as := [vI x1]) (st := []) rfl rfl kX8_isPart sX8_isPart w_5_77 (ltb rfl) rfl (leb rfl) dX8_lend_1 h (fun r2 σ1 h => ?_)
  refine R_if_ne (pc := 4) (tgt := 9) (by decide) dX8_lend_4 (fun c => ?_) (fun c => ?_)
  · have h := h.1 c
    refine R_iconst (pc := 9) (by decide) dX8_lend_9 ?_
    refine R_istore_n (pc := 10) (ls' := [(2, vI 0), (0, vP 0), (1, vI x1)]) rfl rfl (ltb rfl) dX8_lend_10 ?_
    refine R_sub [1, 2, 0] rfl ?_
    exact h
  · have h := h.2 c
    refine R_iconst (pc := 7) (by decide) dX8_lend_7 ?_
    exact R_iret (pc := 8) rfl dX8_lend_8 ⟨_, rfl, h⟩
theorem X8_lineNow_E {σ : Mem} {Q : Int → Mem → Prop} (h : CI layM MX8_is [vP 0, vI 4, vI 116, vI 111, vI 108, vI 100, vI 0] σ (fun r2 σ1 => ((r2 = 0 → CI layM MX8_is [vP 0, vI 5, vI 114, vI 101, vI 115, vI 116, vI 115] σ1 (fun r4 σ3 => ((r4 = 0 → CI layM MX8_is [vP 0, vI 3, vI 114, vI 111, vI 119, vI 0, vI 0] σ3 (fun r6 σ5 => ((r6 = 0 → CI layM MX8_is [vP 0, vI 3, vI 111, vI 100, vI 100, vI 0, vI 0] σ5 (fun r8 σ7 => ((r8 = 0 → CI layM MX8_is [vP 0, vI 4, vI 104, vI 101, vI 105, vI 114, vI 0] σ7 (fun r10 σ9 => ((r10 = 0 → CI layM MX8_is [vP 0, vI 4, vI 104, vI 101, vI 114, vI 100, vI 0] σ9 (fun r12 σ11 => ((r12 = 0 → Q (-4) σ11) ∧ (r12 ≠ 0 → Q 5 σ11)))) ∧ (r10 ≠ 0 → Q 4 σ9)))) ∧ (r8 ≠ 0 → Q 3 σ7)))) ∧ (r6 ≠ 0 → Q 2 σ5)))) ∧ (r4 ≠ 0 → Q 1 σ3)))) ∧ (r2 ≠ 0 → Q 0 σ1)))) : CI layM MX8_lineNow [vP 0] σ Q := by
  refine Cl.ofR (ls := [(0, vP 0)]) (show plainName RX8 = true by decide +kernel) (leb rfl) rfl ?_
  refine R_aload_n (pc := 0) 0 rfl rfl dX8_lineNow_0 ?_
  refine R_iconst (pc := 1) (by decide) dX8_lineNow_1 ?_
  refine R_bipush (pc := 2) (by decide) dX8_lineNow_2 ?_
  refine R_bipush (pc := 4) (by decide) dX8_lineNow_4 ?_
  refine R_bipush (pc := 6) (by decide) dX8_lineNow_6 ?_
  refine R_bipush (pc := 8) (by decide) dX8_lineNow_8 ?_
  refine R_iconst (pc := 10) (by decide) dX8_lineNow_10 ?_
  refine R_callVI (pc := 11) (as := [vI 4, vI 116, vI 111, vI 108, vI 100, vI 0]) (st := []) rfl rfl kX8_is sX8_is lM_0 rfl w_5_5 (ltb rfl) rfl (leb rfl) dX8_lineNow_11 h (fun r2 σ1 h => ?_)
  refine R_if_eq (pc := 14) (tgt := 19) (by decide) dX8_lineNow_14 (fun c => ?_) (fun c => ?_)
  · have h := h.1 c
    refine R_aload_n (pc := 19) 0 rfl rfl dX8_lineNow_19 ?_
    refine R_iconst (pc := 20) (by decide) dX8_lineNow_20 ?_
    refine R_bipush (pc := 21) (by decide) dX8_lineNow_21 ?_
    refine R_bipush (pc := 23) (by decide) dX8_lineNow_23 ?_
    refine R_bipush (pc := 25) (by decide) dX8_lineNow_25 ?_
    refine R_bipush (pc := 27) (by decide) dX8_lineNow_27 ?_
    refine R_bipush (pc := 29) (by decide) dX8_lineNow_29 ?_
    refine R_callVI (pc := 31) (as := [vI 5, vI 114, vI 101, vI 115, vI 116, vI 115]) (st := []) rfl rfl kX8_is sX8_is lM_0 rfl w_5_5 (ltb rfl) rfl (leb rfl) dX8_lineNow_31 h (fun r4 σ3 h => ?_)
    refine R_if_eq (pc := 34) (tgt := 39) (by decide) dX8_lineNow_34 (fun c => ?_) (fun c => ?_)
    · have h := h.1 c
      refine R_aload_n (pc := 39) 0 rfl rfl dX8_lineNow_39 ?_
      refine R_iconst (pc := 40) (by decide) dX8_lineNow_40 ?_
      refine R_bipush (pc := 41) (by decide) dX8_lineNow_41 ?_
      refine R_bipush (pc := 43) (by decide) dX8_lineNow_43 ?_
      refine R_bipush (pc := 45) (by decide) dX8_lineNow_45 ?_
      refine R_iconst (pc := 47) (by decide) dX8_lineNow_47 ?_
      refine R_iconst (pc := 48) (by decide) dX8_lineNow_48 ?_
      refine R_callVI (pc := 49) (as := [vI 3, vI 114, vI 111, vI 119, vI 0, vI 0]) (st := []) rfl rfl kX8_is sX8_is lM_0 rfl w_5_5 (ltb rfl) rfl (leb rfl) dX8_lineNow_49 h (fun r6 σ5 h => ?_)
      refine R_if_eq (pc := 52) (tgt := 57) (by decide) dX8_lineNow_52 (fun c => ?_) (fun c => ?_)
      · have h := h.1 c
        refine R_aload_n (pc := 57) 0 rfl rfl dX8_lineNow_57 ?_
        refine R_iconst (pc := 58) (by decide) dX8_lineNow_58 ?_
        refine R_bipush (pc := 59) (by decide) dX8_lineNow_59 ?_
        refine R_bipush (pc := 61) (by decide) dX8_lineNow_61 ?_
        refine R_bipush (pc := 63) (by decide) dX8_lineNow_63 ?_
        refine R_iconst (pc := 65) (by decide) dX8_lineNow_65 ?_
        refine R_iconst (pc := 66) (by decide) dX8_lineNow_66 ?_
        refine R_callVI (pc := 67) (as := [vI 3, vI 111, vI 100, vI 100, vI 0, vI 0]) (st := []) rfl rfl kX8_is sX8_is lM_0 rfl w_5_5 (ltb rfl) rfl (leb rfl) dX8_lineNow_67 h (fun r8 σ7 h => ?_)
        refine R_if_eq (pc := 70) (tgt := 75) (by decide) dX8_lineNow_70 (fun c => ?_) (fun c => ?_)
        · have h := h.1 c
          refine R_aload_n (pc := 75) 0 rfl rfl dX8_lineNow_75 ?_
          refine R_iconst (pc := 76) (by decide) dX8_lineNow_76 ?_
          refine R_bipush (pc := 77) (by decide) dX8_lineNow_77 ?_
          refine R_bipush (pc := 79) (by decide) dX8_lineNow_79 ?_
          refine R_bipush (pc := 81) (by decide) dX8_lineNow_81 ?_
          refine R_bipush (pc := 83) (by decide) dX8_lineNow_83 ?_
          refine R_iconst (pc := 85) (by decide) dX8_lineNow_85 ?_
          refine R_callVI (pc := 86) (as := [vI 4, vI 104, vI 101, vI 105, vI 114, vI 0]) (st := []) rfl rfl kX8_is sX8_is lM_0 rfl w_5_5 (ltb rfl) rfl (leb rfl) dX8_lineNow_86 h (fun r10 σ9 h => ?_)
          refine R_if_eq (pc := 89) (tgt := 96) (by decide) dX8_lineNow_89 (fun c => ?_) (fun c => ?_)
          · have h := h.1 c
            refine R_aload_n (pc := 96) 0 rfl rfl dX8_lineNow_96 ?_
            refine R_iconst (pc := 97) (by decide) dX8_lineNow_97 ?_
            refine R_bipush (pc := 98) (by decide) dX8_lineNow_98 ?_
            refine R_bipush (pc := 100) (by decide) dX8_lineNow_100 ?_
            refine R_bipush (pc := 102) (by decide) dX8_lineNow_102 ?_
            refine R_bipush (pc := 104) (by decide) dX8_lineNow_104 ?_
            refine R_iconst (pc := 106) (by decide) dX8_lineNow_106 ?_
            refine R_callVI (pc := 107) (as := [vI 4, vI 104, vI 101, vI 114, vI 100, vI 0]) (st := []) rfl rfl kX8_is sX8_is lM_0 rfl w_5_5 (ltb rfl) rfl (leb rfl) dX8_lineNow_107 h (fun r12 σ11 h => ?_)
            refine R_if_eq (pc := 110) (tgt := 117) (by decide) dX8_lineNow_110 (fun c => ?_) (fun c => ?_)
            · have h := h.1 c
              refine R_bipush (pc := 117) (by decide) dX8_lineNow_117 ?_
              exact R_iret (pc := 119) rfl dX8_lineNow_119 ⟨_, rfl, h⟩
            · have h := h.2 c
              refine R_iconst (pc := 113) (by decide) dX8_lineNow_113 ?_
              refine R_goto (pc := 114) (tgt := 119) (by decide) dX8_lineNow_114 ?_
              exact R_iret (pc := 119) rfl dX8_lineNow_119 ⟨_, rfl, h⟩
          · have h := h.2 c
            refine R_iconst (pc := 92) (by decide) dX8_lineNow_92 ?_
            refine R_goto (pc := 93) (tgt := 119) (by decide) dX8_lineNow_93 ?_
            exact R_iret (pc := 119) rfl dX8_lineNow_119 ⟨_, rfl, h⟩
        · have h := h.2 c
          refine R_iconst (pc := 73) (by decide) dX8_lineNow_73 ?_
          exact R_iret (pc := 74) rfl dX8_lineNow_74 ⟨_, rfl, h⟩
      · have h := h.2 c
        refine R_iconst (pc := 55) (by decide) dX8_lineNow_55 ?_
        exact R_iret (pc := 56) rfl dX8_lineNow_56 ⟨_, rfl, h⟩
    · have h := h.2 c
      refine R_iconst (pc := 37) (by decide) dX8_lineNow_37 ?_
      exact R_iret (pc := 38) rfl dX8_lineNow_38 ⟨_, rfl, h⟩
  · have h := h.2 c
    refine R_iconst (pc := 17) (by decide) dX8_lineNow_17 ?_
    exact R_iret (pc := 18) rfl dX8_lineNow_18 ⟨_, rfl, h⟩
def LX8_loses_38 (x1 : Int) (x2 : Int) (x3 : Int) (σ : Mem) (Q : Int → Mem → Prop) : Prop := Rn layM MX8_loses 38 [(0, vP 0), (1, vI x1), (2, vI x2), (3, vI x3)] [] σ (qI Q)
def LX8_loses_63 (x1 : Int) (x2 : Int) (x3 : Int) (x4 : Int) (σ : Mem) (Q : Int → Mem → Prop) : Prop := Rn layM MX8_loses 63 [(0, vP 0), (1, vI x1), (2, vI x2), (3, vI x3), (4, vI x4)] [] σ (qI Q)
theorem X8_loses_38 {x1 x2 x3 : Int} {σ : Mem} {Q : Int → Mem → Prop} (h : ((x1 < x3 → Q (-4) σ) ∧ (x3 ≤ x1 → CV layM MX8_remembers [vP 0] σ (fun σ1 => I32 (x3 + 1) ∧ CV layM MX8_gives [vP 0, vI (x3 + 1), vI (σ1 2 2)] σ1 (fun σ2 => LX8_loses_63 x1 x2 x3 0 σ2 Q))))) : LX8_loses_38 x1 x2 x3 σ Q := by
  unfold LX8_loses_38
  refine R_iload_n (pc := 38) 3 rfl rfl dX8_loses_38 ?_
  refine R_iload_n (pc := 39) 1 rfl rfl dX8_loses_39 ?_
  refine R_icmp_gt (pc := 40) (tgt := 114) (by decide) dX8_loses_40 (fun c => ?_) (fun c => ?_)
  · have h := h.1 c
    refine R_bipush (pc := 114) (by decide) dX8_loses_114 ?_
    exact R_iret (pc := 116) rfl dX8_loses_116 ⟨_, rfl, h⟩
  · have h := h.2 c
    refine R_aload_n (pc := 43) 0 rfl rfl dX8_loses_43 ?_
    refine R_callV0 (pc := 44) (as := []) (st := []) rfl rfl kX8_remembers sX8_remembers lM_0 rfl w_5_170 (ltb rfl) rfl (leb rfl) dX8_loses_44 h (fun σ1 h => ?_)
    refine R_aload_n (pc := 47) 0 rfl rfl dX8_loses_47 ?_
    refine R_iload_n (pc := 48) 3 rfl rfl dX8_loses_48 ?_
    refine R_iconst (pc := 49) (by decide) dX8_loses_49 ?_
    obtain ⟨g, h⟩ := h
    refine R_iadd (pc := 50) g dX8_loses_50 ?_
    refine R_aload_n (pc := 51) 0 rfl rfl dX8_loses_51 ?_
    refine R_getP (pc := 52) (q' := 2) lM_0 rfl flX8_13 dX8_loses_52 ?_
    refine R_iconst (pc := 55) (by decide) dX8_loses_55 ?_
    have g0 : (0 : Int) ≤ 2 := by decide
    have g1 : (2 : Int) < 26 := by decide
    refine R_iaload (pc := 56) lM_2 g0 g1 dX8_loses_56 ?_
    refine R_callV0 (pc := 57) (as := [vI (x3 + 1), vI (σ1 2 2)]) (st := []) rfl rfl kX8_gives sX8_gives lM_0 rfl w_5_37 (ltb rfl) rfl (leb rfl) dX8_loses_57 h (fun σ2 h => ?_)
    refine R_iconst (pc := 60) (by decide) dX8_loses_60 ?_
    refine R_istore (pc := 61) (ls' := [(4, vI 0), (0, vP 0), (1, vI x1), (2, vI x2), (3, vI x3)]) rfl (ltb rfl) dX8_loses_61 ?_
    refine R_sub [1, 2, 3, 4, 0] rfl ?_
    exact h
theorem X8_loses_63 {x1 x2 x3 x4 : Int} {σ : Mem} {Q : Int → Mem → Prop} (h : (((σ 2 1) ≤ x4 → I32 (x3 + 1) ∧ LX8_loses_38 x1 x2 (x3 + 1) σ Q) ∧ (x4 < (σ 2 1) → 0 ≤ x4 ∧ x4 < 5 ∧ 0 ≤ x4 ∧ x4 < 5 ∧ (((σ 11 x4) ≤ (σ 7 x4) → I32 (x4 + 1) ∧ LX8_loses_63 x1 x2 x3 (x4 + 1) σ Q) ∧ ((σ 7 x4) < (σ 11 x4) → ((x2 ≠ 0 → Q x4 σ) ∧ (x2 = 0 → Q x3 σ))))))) : LX8_loses_63 x1 x2 x3 x4 σ Q := by
  unfold LX8_loses_63
  refine R_iload (pc := 63) 4 rfl dX8_loses_63 ?_
  refine R_aload_n (pc := 65) 0 rfl rfl dX8_loses_65 ?_
  refine R_getP (pc := 66) (q' := 2) lM_0 rfl flX8_13 dX8_loses_66 ?_
  refine R_iconst (pc := 69) (by decide) dX8_loses_69 ?_
  have g0 : (0 : Int) ≤ 1 := by decide
  have g1 : (1 : Int) < 26 := by decide
  refine R_iaload (pc := 70) lM_2 g0 g1 dX8_loses_70 ?_
  refine R_icmp_ge (pc := 71) (tgt := 108) (by decide) dX8_loses_71 (fun c => ?_) (fun c => ?_)
  · have h := h.1 c
    obtain ⟨g, h⟩ := h
    refine R_iinc (pc := 108) 3 rfl rfl g (ls' := [(3, vI (x3 + 1)), (0, vP 0), (1, vI x1), (2, vI x2), (4, vI x4)]) rfl (ltb rfl) dX8_loses_108 ?_
    refine R_goto (pc := 111) (tgt := 38) (by decide) dX8_loses_111 ?_
    refine R_sub [1, 2, 3, 0] rfl ?_
    exact h
  · have h := h.2 c
    refine R_aload_n (pc := 74) 0 rfl rfl dX8_loses_74 ?_
    refine R_getP (pc := 75) (q' := 7) lM_0 rfl flX8_30 dX8_loses_75 ?_
    refine R_iload (pc := 78) 4 rfl dX8_loses_78 ?_
    obtain ⟨g0, g1, h⟩ := h
    refine R_iaload (pc := 80) lM_7 g0 g1 dX8_loses_80 ?_
    refine R_aload_n (pc := 81) 0 rfl rfl dX8_loses_81 ?_
    refine R_getP (pc := 82) (q' := 11) lM_0 rfl flX8_42 dX8_loses_82 ?_
    refine R_iload (pc := 85) 4 rfl dX8_loses_85 ?_
    obtain ⟨g0, g1, h⟩ := h
    refine R_iaload (pc := 87) lM_11 g0 g1 dX8_loses_87 ?_
    refine R_icmp_ge (pc := 88) (tgt := 102) (by decide) dX8_loses_88 (fun c => ?_) (fun c => ?_)
    · have h := h.1 c
      obtain ⟨g, h⟩ := h
      refine R_iinc (pc := 102) 4 rfl rfl g (ls' := [(4, vI (x4 + 1)), (0, vP 0), (1, vI x1), (2, vI x2), (3, vI x3)]) rfl (ltb rfl) dX8_loses_102 ?_
      refine R_goto (pc := 105) (tgt := 63) (by decide) dX8_loses_105 ?_
      refine R_sub [1, 2, 3, 4, 0] rfl ?_
      exact h
    · have h := h.2 c
      refine R_iload_n (pc := 91) 2 rfl rfl dX8_loses_91 ?_
      refine R_if_ne (pc := 92) (tgt := 99) (by decide) dX8_loses_92 (fun c => ?_) (fun c => ?_)
      · have h := h.1 c
        refine R_iload (pc := 99) 4 rfl dX8_loses_99 ?_
        exact R_iret (pc := 101) rfl dX8_loses_101 ⟨_, rfl, h⟩
      · have h := h.2 c
        refine R_iload_n (pc := 95) 3 rfl rfl dX8_loses_95 ?_
        refine R_goto (pc := 96) (tgt := 101) (by decide) dX8_loses_96 ?_
        exact R_iret (pc := 101) rfl dX8_loses_101 ⟨_, rfl, h⟩
theorem X8_loses_E {x1 x2 : Int} {σ : Mem} {Q : Int → Mem → Prop} (h : CI layM MX8_in [vJ x1, vJ 0, vJ 200] σ (fun r2 σ1 => ((r2 = 0 → Q (-1) σ1) ∧ (r2 ≠ 0 → CI layM MX8_isPart [vI x2] σ1 (fun r4 σ3 => ((r4 ≠ 0 → CV layM MX8_starts [vP 0] σ3 (fun σ5 => CV layM MX8_gives [vP 0, vI 0, vI (σ5 2 2)] σ5 (fun σ6 => LX8_loses_38 x1 x2 0 σ6 Q))) ∧ (r4 = 0 → Q (-1) σ3))))))) : CI layM MX8_loses [vP 0, vI x1, vI x2] σ Q := by
  refine Cl.ofR (ls := [(0, vP 0), (1, vI x1), (2, vI x2)]) (show plainName RX8 = true by decide +kernel) (leb rfl) rfl ?_
  refine R_iload_n (pc := 0) 1 rfl rfl dX8_loses_0 ?_
  refine R_i2l (pc := 1) dX8_loses_1 ?_
  refine R_lconst (pc := 2) (x := 0) rfl dX8_loses_2 ?_
  refine R_ldc2 (pc := 3) (x := 200) w_5_169 (by decide) dX8_loses_3 ?_
  refine R_callSI (pc := 6) (as := [vJ x1, vJ 0, vJ 200]) (st := []) rfl rfl kX8_in sX8_in w_4_210 (ltb rfl) rfl (leb rfl) dX8_loses_6 h (fun r2 σ1 h => ?_)
  refine R_if_eq (pc := 9) (tgt := 19) (by decide) dX8_loses_9 (fun c => ?_) (fun c => ?_)
  · have h := h.1 c
    refine R_iconst (pc := 19) (by decide) dX8_loses_19 ?_
    exact R_iret (pc := 20) rfl dX8_loses_20 ⟨_, rfl, h⟩
  · have h := h.2 c
    refine R_iload_n (pc := 12) 2 rfl rfl dX8_loses_12 ?_
    refine R_callSI (pc := 13) (as := [vI x2]) (st := []) rfl rfl kX8_isPart sX8_isPart w_5_77 (ltb rfl) rfl (leb rfl) dX8_loses_13 h (fun r4 σ3 h => ?_)
    refine R_if_ne (pc := 16) (tgt := 21) (by decide) dX8_loses_16 (fun c => ?_) (fun c => ?_)
    · have h := h.1 c
      refine R_aload_n (pc := 21) 0 rfl rfl dX8_loses_21 ?_
      refine R_callV0 (pc := 22) (as := []) (st := []) rfl rfl kX8_starts sX8_starts lM_0 rfl w_5_25 (ltb rfl) rfl (leb rfl) dX8_loses_22 h (fun σ5 h => ?_)
      refine R_aload_n (pc := 25) 0 rfl rfl dX8_loses_25 ?_
      refine R_iconst (pc := 26) (by decide) dX8_loses_26 ?_
      refine R_aload_n (pc := 27) 0 rfl rfl dX8_loses_27 ?_
      refine R_getP (pc := 28) (q' := 2) lM_0 rfl flX8_13 dX8_loses_28 ?_
      refine R_iconst (pc := 31) (by decide) dX8_loses_31 ?_
      have g0 : (0 : Int) ≤ 2 := by decide
      have g1 : (2 : Int) < 26 := by decide
      refine R_iaload (pc := 32) lM_2 g0 g1 dX8_loses_32 ?_
      refine R_callV0 (pc := 33) (as := [vI 0, vI (σ5 2 2)]) (st := []) rfl rfl kX8_gives sX8_gives lM_0 rfl w_5_37 (ltb rfl) rfl (leb rfl) dX8_loses_33 h (fun σ6 h => ?_)
      refine R_iconst (pc := 36) (by decide) dX8_loses_36 ?_
      refine R_istore_n (pc := 37) (ls' := [(3, vI 0), (0, vP 0), (1, vI x1), (2, vI x2)]) rfl rfl (ltb rfl) dX8_loses_37 ?_
      refine R_sub [1, 2, 3, 0] rfl ?_
      exact h
    · have h := h.2 c
      refine R_iconst (pc := 19) (by decide) dX8_loses_19 ?_
      exact R_iret (pc := 20) rfl dX8_loses_20 ⟨_, rfl, h⟩
theorem X8_of_E {x1 x2 : Int} {σ : Mem} {Q : Int → Mem → Prop} (h : CI layM MX8_in [vJ x1, vJ 0, vJ 999] σ (fun r2 σ1 => ((r2 = 0 → Q (-1) σ1) ∧ (r2 ≠ 0 → CI layM MX8_isHeir [vP 0, vI x2] σ1 (fun r4 σ3 => ((r4 ≠ 0 → CV layM MX8_starts [vP 0] σ3 (fun σ5 => CV layM MX8_gives [vP 0, vI x1, vI (σ5 1 2)] σ5 (fun σ6 => 0 ≤ x2 ∧ x2 < 5 ∧ Q (σ6 7 x2) σ6))) ∧ (r4 = 0 → Q (-1) σ3))))))) : CI layM MX8_of [vP 0, vI x1, vI x2] σ Q := by
  refine Cl.ofR (ls := [(0, vP 0), (1, vI x1), (2, vI x2)]) (show plainName RX8 = true by decide +kernel) (leb rfl) rfl ?_
  refine R_iload_n (pc := 0) 1 rfl rfl dX8_of_0 ?_
  refine R_i2l (pc := 1) dX8_of_1 ?_
  refine R_lconst (pc := 2) (x := 0) rfl dX8_of_2 ?_
  refine R_ldc2 (pc := 3) (x := 999) w_5_109 (by decide) dX8_of_3 ?_
  refine R_callSI (pc := 6) (as := [vJ x1, vJ 0, vJ 999]) (st := []) rfl rfl kX8_in sX8_in w_4_210 (ltb rfl) rfl (leb rfl) dX8_of_6 h (fun r2 σ1 h => ?_)
  refine R_if_eq (pc := 9) (tgt := 20) (by decide) dX8_of_9 (fun c => ?_) (fun c => ?_)
  · have h := h.1 c
    refine R_iconst (pc := 20) (by decide) dX8_of_20 ?_
    exact R_iret (pc := 21) rfl dX8_of_21 ⟨_, rfl, h⟩
  · have h := h.2 c
    refine R_aload_n (pc := 12) 0 rfl rfl dX8_of_12 ?_
    refine R_iload_n (pc := 13) 2 rfl rfl dX8_of_13 ?_
    refine R_callVI (pc := 14) (as := [vI x2]) (st := []) rfl rfl kX8_isHeir sX8_isHeir lM_0 rfl w_5_61 (ltb rfl) rfl (leb rfl) dX8_of_14 h (fun r4 σ3 h => ?_)
    refine R_if_ne (pc := 17) (tgt := 22) (by decide) dX8_of_17 (fun c => ?_) (fun c => ?_)
    · have h := h.1 c
      refine R_aload_n (pc := 22) 0 rfl rfl dX8_of_22 ?_
      refine R_callV0 (pc := 23) (as := []) (st := []) rfl rfl kX8_starts sX8_starts lM_0 rfl w_5_25 (ltb rfl) rfl (leb rfl) dX8_of_23 h (fun σ5 h => ?_)
      refine R_aload_n (pc := 26) 0 rfl rfl dX8_of_26 ?_
      refine R_iload_n (pc := 27) 1 rfl rfl dX8_of_27 ?_
      refine R_aload_n (pc := 28) 0 rfl rfl dX8_of_28 ?_
      refine R_getP (pc := 29) (q' := 1) lM_0 rfl flX8_7 dX8_of_29 ?_
      refine R_iconst (pc := 32) (by decide) dX8_of_32 ?_
      have g0 : (0 : Int) ≤ 2 := by decide
      have g1 : (2 : Int) < 78 := by decide
      refine R_iaload (pc := 33) lM_1 g0 g1 dX8_of_33 ?_
      refine R_callV0 (pc := 34) (as := [vI x1, vI (σ5 1 2)]) (st := []) rfl rfl kX8_gives sX8_gives lM_0 rfl w_5_37 (ltb rfl) rfl (leb rfl) dX8_of_34 h (fun σ6 h => ?_)
      refine R_aload_n (pc := 37) 0 rfl rfl dX8_of_37 ?_
      refine R_getP (pc := 38) (q' := 7) lM_0 rfl flX8_30 dX8_of_38 ?_
      refine R_iload_n (pc := 41) 2 rfl rfl dX8_of_41 ?_
      obtain ⟨g0, g1, h⟩ := h
      refine R_iaload (pc := 42) lM_7 g0 g1 dX8_of_42 ?_
      exact R_iret (pc := 43) rfl dX8_of_43 ⟨_, rfl, h⟩
    · have h := h.2 c
      refine R_iconst (pc := 20) (by decide) dX8_of_20 ?_
      exact R_iret (pc := 21) rfl dX8_of_21 ⟨_, rfl, h⟩
def LX8_read_26 (x1 : Int) (x2 : Int) (x3 : Int) (x4 : Int) (x5 : Int) (σ : Mem) (Q : Int → Mem → Prop) : Prop := Rn layM MX8_read 26 [(0, vP 0), (1, vI x1), (2, vI x2), (3, vI x3), (4, vI x4), (5, vI x5)] [] σ (qI Q)
def LX8_read_62 (x1 : Int) (x2 : Int) (x3 : Int) (x4 : Int) (x5 : Int) (x6 : Int) (x7 : Int) (σ : Mem) (Q : Int → Mem → Prop) : Prop := Rn layM MX8_read 62 [(0, vP 0), (1, vI x1), (2, vI x2), (3, vI x3), (4, vI x4), (5, vI x5), (6, vI x6), (7, vI x7)] [] σ (qI Q)
def LX8_read_77 (x1 : Int) (x2 : Int) (x3 : Int) (x4 : Int) (x5 : Int) (x6 : Int) (x7 : Int) (x8 : Int) (σ : Mem) (Q : Int → Mem → Prop) : Prop := Rn layM MX8_read 77 [(0, vP 0), (1, vI x1), (2, vI x2), (3, vI x3), (4, vI x4), (5, vI x5), (6, vI x6), (7, vI x7), (8, vI x8)] [] σ (qI Q)
def LX8_read_164 (x1 : Int) (x2 : Int) (x3 : Int) (x4 : Int) (x5 : Int) (x6 : Int) (x7 : Int) (σ : Mem) (Q : Int → Mem → Prop) : Prop := Rn layM MX8_read 164 [(0, vP 0), (1, vI x1), (2, vI x2), (3, vI x3), (4, vI x4), (5, vI x5), (6, vI x6), (7, vI x7)] [] σ (qI Q)
def LX8_read_208 (x7 : Int) (x9 : Int) (σ : Mem) (Q : Int → Mem → Prop) : Prop := Rn layM MX8_read 208 [(0, vP 0), (7, vI x7), (9, vI x9)] [] σ (qI Q)
theorem X8_read_26 {x1 x2 x3 x4 x5 : Int} {σ : Mem} {Q : Int → Mem → Prop} (h : ((26 ≤ x5 → LX8_read_62 x1 x2 x3 x4 0 0 0 σ Q) ∧ (x5 < 26 → 0 ≤ x5 ∧ x5 < 78 ∧ 0 ≤ x5 ∧ x5 < 26 ∧ I32 (x5 + 1) ∧ LX8_read_26 x1 x2 x3 x4 (x5 + 1) (upM σ 16 x5 (σ 1 x5)) Q))) : LX8_read_26 x1 x2 x3 x4 x5 σ Q := by
  unfold LX8_read_26
  refine R_iload (pc := 26) 5 rfl dX8_read_26 ?_
  refine R_bipush (pc := 28) (by decide) dX8_read_28 ?_
  refine R_icmp_ge (pc := 30) (tgt := 53) (by decide) dX8_read_30 (fun c => ?_) (fun c => ?_)
  · have h := h.1 c
    refine R_iconst (pc := 53) (by decide) dX8_read_53 ?_
    refine R_istore (pc := 54) (ls' := [(5, vI 0), (0, vP 0), (1, vI x1), (2, vI x2), (3, vI x3), (4, vI x4)]) rfl (ltb rfl) dX8_read_54 ?_
    refine R_iconst (pc := 56) (by decide) dX8_read_56 ?_
    refine R_istore (pc := 57) (ls' := [(6, vI 0), (5, vI 0), (0, vP 0), (1, vI x1), (2, vI x2), (3, vI x3), (4, vI x4)]) rfl (ltb rfl) dX8_read_57 ?_
    refine R_iconst (pc := 59) (by decide) dX8_read_59 ?_
    refine R_istore (pc := 60) (ls' := [(7, vI 0), (6, vI 0), (5, vI 0), (0, vP 0), (1, vI x1), (2, vI x2), (3, vI x3), (4, vI x4)]) rfl (ltb rfl) dX8_read_60 ?_
    refine R_sub [3, 4, 5, 6, 7, 2, 1, 0] rfl ?_
    exact h
  · have h := h.2 c
    refine R_aload_n (pc := 33) 0 rfl rfl dX8_read_33 ?_
    refine R_getP (pc := 34) (q' := 16) lM_0 rfl flX8_57 dX8_read_34 ?_
    refine R_iload (pc := 37) 5 rfl dX8_read_37 ?_
    refine R_aload_n (pc := 39) 0 rfl rfl dX8_read_39 ?_
    refine R_getP (pc := 40) (q' := 1) lM_0 rfl flX8_7 dX8_read_40 ?_
    refine R_iload (pc := 43) 5 rfl dX8_read_43 ?_
    obtain ⟨g0, g1, h⟩ := h
    refine R_iaload (pc := 45) lM_1 g0 g1 dX8_read_45 ?_
    obtain ⟨g0, g1, h⟩ := h
    refine R_iastore (pc := 46) lM_16 g0 g1 dX8_read_46 ?_
    obtain ⟨g, h⟩ := h
    refine R_iinc (pc := 47) 5 rfl rfl g (ls' := [(5, vI (x5 + 1)), (0, vP 0), (1, vI x1), (2, vI x2), (3, vI x3), (4, vI x4)]) rfl (ltb rfl) dX8_read_47 ?_
    refine R_goto (pc := 50) (tgt := 26) (by decide) dX8_read_50 ?_
    refine R_sub [1, 2, 3, 4, 5, 0] rfl ?_
    exact h
theorem X8_read_62 {x1 x2 x3 x4 x5 x6 x7 : Int} {σ : Mem} {Q : Int → Mem → Prop} (h : ((x4 ≤ x7 → Q x6 (upM σ 0 31 x5)) ∧ (x7 < x4 → ((x5 ≠ 0 → Q x6 (upM σ 0 31 x5)) ∧ (x5 = 0 → LX8_read_77 x1 x2 x3 x4 x5 x6 x7 0 σ Q))))) : LX8_read_62 x1 x2 x3 x4 x5 x6 x7 σ Q := by
  unfold LX8_read_62
  refine R_iload (pc := 62) 7 rfl dX8_read_62 ?_
  refine R_iload (pc := 64) 4 rfl dX8_read_64 ?_
  refine R_icmp_ge (pc := 66) (tgt := 250) (by decide) dX8_read_66 (fun c => ?_) (fun c => ?_)
  · have h := h.1 c
    refine R_aload_n (pc := 250) 0 rfl rfl dX8_read_250 ?_
    refine R_iload (pc := 251) 5 rfl dX8_read_251 ?_
    refine R_putI (pc := 253) lM_0 rfl fpX8_286 dX8_read_253 ?_
    refine R_iload (pc := 256) 6 rfl dX8_read_256 ?_
    exact R_iret (pc := 258) rfl dX8_read_258 ⟨_, rfl, h⟩
  · have h := h.2 c
    refine R_iload (pc := 69) 5 rfl dX8_read_69 ?_
    refine R_if_ne (pc := 71) (tgt := 250) (by decide) dX8_read_71 (fun c => ?_) (fun c => ?_)
    · have h := h.1 c
      refine R_aload_n (pc := 250) 0 rfl rfl dX8_read_250 ?_
      refine R_iload (pc := 251) 5 rfl dX8_read_251 ?_
      refine R_putI (pc := 253) lM_0 rfl fpX8_286 dX8_read_253 ?_
      refine R_iload (pc := 256) 6 rfl dX8_read_256 ?_
      exact R_iret (pc := 258) rfl dX8_read_258 ⟨_, rfl, h⟩
    · have h := h.2 c
      refine R_iconst (pc := 74) (by decide) dX8_read_74 ?_
      refine R_istore (pc := 75) (ls' := [(8, vI 0), (0, vP 0), (1, vI x1), (2, vI x2), (3, vI x3), (4, vI x4), (5, vI x5), (6, vI x6), (7, vI x7)]) rfl (ltb rfl) dX8_read_75 ?_
      refine R_sub [1, 2, 3, 4, 5, 6, 7, 8, 0] rfl ?_
      exact h
theorem X8_read_77 {x1 x2 x3 x4 x5 x6 x7 x8 : Int} {σ : Mem} {Q : Int → Mem → Prop} (h : ((2 ≤ x8 → LX8_read_164 x1 x2 x3 x4 x5 x6 x7 σ Q) ∧ (x8 < 2 → ((x5 ≠ 0 → LX8_read_164 x1 x2 x3 x4 x5 x6 x7 σ Q) ∧ (x5 = 0 → I32 (2 * x7) ∧ I64 (x3 + (2 * x7)) ∧ I64 ((x3 + (2 * x7)) + x8) ∧ 0 ≤ x1 ∧ x1 < 4 ∧ (((σ 13 x1) ≠ (-4) → 0 ≤ x1 ∧ x1 < 4 ∧ (((σ 13 x1) = x2 → ((((x3 + (2 * x7)) + x8) < 0 → I32 (x8 + 1) ∧ LX8_read_77 x1 x2 x3 x4 2 x6 x7 (x8 + 1) σ Q) ∧ (0 ≤ ((x3 + (2 * x7)) + x8) → 0 ≤ x1 ∧ x1 < 4 ∧ ((((x3 + (2 * x7)) + x8) < (σ 14 x1) → I32 (x8 + 1) ∧ LX8_read_77 x1 x2 x3 x4 0 x6 x7 (x8 + 1) σ Q) ∧ ((σ 14 x1) ≤ ((x3 + (2 * x7)) + x8) → I32 (x8 + 1) ∧ LX8_read_77 x1 x2 x3 x4 2 x6 x7 (x8 + 1) σ Q))))) ∧ ((σ 13 x1) ≠ x2 → I32 (x8 + 1) ∧ LX8_read_77 x1 x2 x3 x4 3 x6 x7 (x8 + 1) σ Q))) ∧ ((σ 13 x1) = (-4) → I32 (x8 + 1) ∧ LX8_read_77 x1 x2 x3 x4 1 x6 x7 (x8 + 1) σ Q))))))) : LX8_read_77 x1 x2 x3 x4 x5 x6 x7 x8 σ Q := by
  unfold LX8_read_77
  refine R_iload (pc := 77) 8 rfl dX8_read_77 ?_
  refine R_iconst (pc := 79) (by decide) dX8_read_79 ?_
  refine R_icmp_ge (pc := 80) (tgt := 164) (by decide) dX8_read_80 (fun c => ?_) (fun c => ?_)
  · have h := h.1 c
    refine R_sub [0, 1, 2, 3, 4, 5, 6, 7] rfl ?_
    exact h
  · have h := h.2 c
    refine R_iload (pc := 83) 5 rfl dX8_read_83 ?_
    refine R_if_ne (pc := 85) (tgt := 164) (by decide) dX8_read_85 (fun c => ?_) (fun c => ?_)
    · have h := h.1 c
      refine R_sub [0, 1, 2, 3, 4, 5, 6, 7] rfl ?_
      exact h
    · have h := h.2 c
      refine R_iload_n (pc := 88) 3 rfl rfl dX8_read_88 ?_
      refine R_i2l (pc := 89) dX8_read_89 ?_
      refine R_iconst (pc := 90) (by decide) dX8_read_90 ?_
      refine R_iload (pc := 91) 7 rfl dX8_read_91 ?_
      obtain ⟨g, h⟩ := h
      refine R_imul (pc := 93) g dX8_read_93 ?_
      refine R_i2l (pc := 94) dX8_read_94 ?_
      obtain ⟨g, h⟩ := h
      refine R_ladd (pc := 95) g dX8_read_95 ?_
      refine R_iload (pc := 96) 8 rfl dX8_read_96 ?_
      refine R_i2l (pc := 98) dX8_read_98 ?_
      obtain ⟨g, h⟩ := h
      refine R_ladd (pc := 99) g dX8_read_99 ?_
      refine R_lstore (pc := 100) (ls' := [(9, vJ ((x3 + (2 * x7)) + x8)), (0, vP 0), (1, vI x1), (2, vI x2), (3, vI x3), (4, vI x4), (5, vI x5), (6, vI x6), (7, vI x7), (8, vI x8)]) rfl (ltb rfl) dX8_read_100 ?_
      refine R_aload_n (pc := 102) 1 rfl rfl dX8_read_102 ?_
      refine R_getP (pc := 103) (q' := 13) lM_0 rfl flX8_48 dX8_read_103 ?_
      refine R_iload_n (pc := 106) 2 rfl rfl dX8_read_106 ?_
      obtain ⟨g0, g1, h⟩ := h
      refine R_iaload (pc := 107) lM_13 g0 g1 dX8_read_107 ?_
      refine R_bipush (pc := 108) (by decide) dX8_read_108 ?_
      refine R_icmp_ne (pc := 110) (tgt := 117) (by decide) dX8_read_110 (fun c => ?_) (fun c => ?_)
      · have h := h.1 c
        refine R_aload_n (pc := 117) 1 rfl rfl dX8_read_117 ?_
        refine R_getP (pc := 118) (q' := 13) lM_0 rfl flX8_48 dX8_read_118 ?_
        refine R_iload_n (pc := 121) 2 rfl rfl dX8_read_121 ?_
        obtain ⟨g0, g1, h⟩ := h
        refine R_iaload (pc := 122) lM_13 g0 g1 dX8_read_122 ?_
        refine R_iload_n (pc := 123) 3 rfl rfl dX8_read_123 ?_
        refine R_icmp_eq (pc := 124) (tgt := 131) (by decide) dX8_read_124 (fun c => ?_) (fun c => ?_)
        · have h := h.1 c
          refine R_lload (pc := 131) 0 rfl dX8_read_131 ?_
          refine R_lconst (pc := 133) (x := 0) rfl dX8_read_133 ?_
          refine R_lcmp_lt (pc := 134) (tgt := 151) dX8_read_134 (by decide) dX8_read_135 (fun c => ?_) (fun c => ?_)
          · have h := h.1 c
            refine R_iconst (pc := 151) (by decide) dX8_read_151 ?_
            refine R_goto (pc := 152) (tgt := 156) (by decide) dX8_read_152 ?_
            refine R_istore (pc := 156) (ls' := [(5, vI 2), (9, vJ ((x3 + (2 * x7)) + x8)), (0, vP 0), (1, vI x1), (2, vI x2), (3, vI x3), (4, vI x4), (6, vI x6), (7, vI x7), (8, vI x8)]) rfl (ltb rfl) dX8_read_156 ?_
            obtain ⟨g, h⟩ := h
            refine R_iinc (pc := 158) 9 rfl rfl g (ls' := [(8, vI (x8 + 1)), (5, vI 2), (9, vJ ((x3 + (2 * x7)) + x8)), (0, vP 0), (1, vI x1), (2, vI x2), (3, vI x3), (4, vI x4), (6, vI x6), (7, vI x7)]) rfl (ltb rfl) dX8_read_158 ?_
            refine R_goto (pc := 161) (tgt := 77) (by decide) dX8_read_161 ?_
            refine R_sub [3, 4, 5, 6, 7, 1, 8, 9, 0] rfl ?_
            exact h
          · have h := h.2 c
            refine R_lload (pc := 138) 0 rfl dX8_read_138 ?_
            refine R_aload_n (pc := 140) 1 rfl rfl dX8_read_140 ?_
            refine R_getP (pc := 141) (q' := 14) lM_0 rfl flX8_51 dX8_read_141 ?_
            refine R_iload_n (pc := 144) 2 rfl rfl dX8_read_144 ?_
            obtain ⟨g0, g1, h⟩ := h
            refine R_iaload (pc := 145) lM_14 g0 g1 dX8_read_145 ?_
            refine R_i2l (pc := 146) dX8_read_146 ?_
            refine R_lcmp_lt (pc := 147) (tgt := 155) dX8_read_147 (by decide) dX8_read_148 (fun c => ?_) (fun c => ?_)
            · have h := h.1 c
              refine R_iconst (pc := 155) (by decide) dX8_read_155 ?_
              refine R_istore (pc := 156) (ls' := [(5, vI 0), (9, vJ ((x3 + (2 * x7)) + x8)), (0, vP 0), (1, vI x1), (2, vI x2), (3, vI x3), (4, vI x4), (6, vI x6), (7, vI x7), (8, vI x8)]) rfl (ltb rfl) dX8_read_156 ?_
              obtain ⟨g, h⟩ := h
              refine R_iinc (pc := 158) 9 rfl rfl g (ls' := [(8, vI (x8 + 1)), (5, vI 0), (9, vJ ((x3 + (2 * x7)) + x8)), (0, vP 0), (1, vI x1), (2, vI x2), (3, vI x3), (4, vI x4), (6, vI x6), (7, vI x7)]) rfl (ltb rfl) dX8_read_158 ?_
              refine R_goto (pc := 161) (tgt := 77) (by decide) dX8_read_161 ?_
              refine R_sub [3, 4, 5, 6, 7, 1, 8, 9, 0] rfl ?_
              exact h
            · have h := h.2 c
              refine R_iconst (pc := 151) (by decide) dX8_read_151 ?_
              refine R_goto (pc := 152) (tgt := 156) (by decide) dX8_read_152 ?_
              refine R_istore (pc := 156) (ls' := [(5, vI 2), (9, vJ ((x3 + (2 * x7)) + x8)), (0, vP 0), (1, vI x1), (2, vI x2), (3, vI x3), (4, vI x4), (6, vI x6), (7, vI x7), (8, vI x8)]) rfl (ltb rfl) dX8_read_156 ?_
              obtain ⟨g, h⟩ := h
              refine R_iinc (pc := 158) 9 rfl rfl g (ls' := [(8, vI (x8 + 1)), (5, vI 2), (9, vJ ((x3 + (2 * x7)) + x8)), (0, vP 0), (1, vI x1), (2, vI x2), (3, vI x3), (4, vI x4), (6, vI x6), (7, vI x7)]) rfl (ltb rfl) dX8_read_158 ?_
              refine R_goto (pc := 161) (tgt := 77) (by decide) dX8_read_161 ?_
              refine R_sub [3, 4, 5, 6, 7, 1, 8, 9, 0] rfl ?_
              exact h
        · have h := h.2 c
          refine R_iconst (pc := 127) (by decide) dX8_read_127 ?_
          refine R_goto (pc := 128) (tgt := 156) (by decide) dX8_read_128 ?_
          refine R_istore (pc := 156) (ls' := [(5, vI 3), (9, vJ ((x3 + (2 * x7)) + x8)), (0, vP 0), (1, vI x1), (2, vI x2), (3, vI x3), (4, vI x4), (6, vI x6), (7, vI x7), (8, vI x8)]) rfl (ltb rfl) dX8_read_156 ?_
          obtain ⟨g, h⟩ := h
          refine R_iinc (pc := 158) 9 rfl rfl g (ls' := [(8, vI (x8 + 1)), (5, vI 3), (9, vJ ((x3 + (2 * x7)) + x8)), (0, vP 0), (1, vI x1), (2, vI x2), (3, vI x3), (4, vI x4), (6, vI x6), (7, vI x7)]) rfl (ltb rfl) dX8_read_158 ?_
          refine R_goto (pc := 161) (tgt := 77) (by decide) dX8_read_161 ?_
          refine R_sub [3, 4, 5, 6, 7, 1, 8, 9, 0] rfl ?_
          exact h
      · have h := h.2 c
        refine R_iconst (pc := 113) (by decide) dX8_read_113 ?_
        refine R_goto (pc := 114) (tgt := 156) (by decide) dX8_read_114 ?_
        refine R_istore (pc := 156) (ls' := [(5, vI 1), (9, vJ ((x3 + (2 * x7)) + x8)), (0, vP 0), (1, vI x1), (2, vI x2), (3, vI x3), (4, vI x4), (6, vI x6), (7, vI x7), (8, vI x8)]) rfl (ltb rfl) dX8_read_156 ?_
        obtain ⟨g, h⟩ := h
        refine R_iinc (pc := 158) 9 rfl rfl g (ls' := [(8, vI (x8 + 1)), (5, vI 1), (9, vJ ((x3 + (2 * x7)) + x8)), (0, vP 0), (1, vI x1), (2, vI x2), (3, vI x3), (4, vI x4), (6, vI x6), (7, vI x7)]) rfl (ltb rfl) dX8_read_158 ?_
        refine R_goto (pc := 161) (tgt := 77) (by decide) dX8_read_161 ?_
        refine R_sub [3, 4, 5, 6, 7, 1, 8, 9, 0] rfl ?_
        exact h
theorem X8_read_164 {x1 x2 x3 x4 x5 x6 x7 : Int} {σ : Mem} {Q : Int → Mem → Prop} (h : ((x5 ≠ 0 → I32 (x7 + 1) ∧ LX8_read_62 x1 x2 x3 x4 x5 x6 (x7 + 1) σ Q) ∧ (x5 = 0 → I32 (40 * x1) ∧ I32 ((40 * x1) + x3) ∧ I32 (2 * x7) ∧ I32 (((40 * x1) + x3) + (2 * x7)) ∧ 0 ≤ ((40 * x1) + x3) + (2 * x7) ∧ ((40 * x1) + x3) + (2 * x7) < 160 ∧ I32 ((((40 * x1) + x3) + (2 * x7)) + 1) ∧ 0 ≤ (((40 * x1) + x3) + (2 * x7)) + 1 ∧ (((40 * x1) + x3) + (2 * x7)) + 1 < 160 ∧ CI layM MX8_bear [vP 0, vI (σ 15 (((40 * x1) + x3) + (2 * x7))), vI (σ 15 ((((40 * x1) + x3) + (2 * x7)) + 1))] σ (fun r2 σ1 => ((0 ≤ r2 → I32 (x6 + 1) ∧ I32 (x7 + 1) ∧ LX8_read_62 x1 x2 x3 x4 x5 (x6 + 1) (x7 + 1) σ1 Q) ∧ (r2 < 0 → LX8_read_208 x7 0 σ1 Q)))))) : LX8_read_164 x1 x2 x3 x4 x5 x6 x7 σ Q := by
  unfold LX8_read_164
  refine R_iload (pc := 164) 5 rfl dX8_read_164 ?_
  refine R_if_ne (pc := 166) (tgt := 244) (by decide) dX8_read_166 (fun c => ?_) (fun c => ?_)
  · have h := h.1 c
    obtain ⟨g, h⟩ := h
    refine R_iinc (pc := 244) 7 rfl rfl g (ls' := [(7, vI (x7 + 1)), (0, vP 0), (1, vI x1), (2, vI x2), (3, vI x3), (4, vI x4), (5, vI x5), (6, vI x6)]) rfl (ltb rfl) dX8_read_244 ?_
    refine R_goto (pc := 247) (tgt := 62) (by decide) dX8_read_247 ?_
    refine R_sub [1, 2, 3, 4, 5, 6, 7, 0] rfl ?_
    exact h
  · have h := h.2 c
    refine R_bipush (pc := 169) (by decide) dX8_read_169 ?_
    refine R_iload_n (pc := 171) 1 rfl rfl dX8_read_171 ?_
    obtain ⟨g, h⟩ := h
    refine R_imul (pc := 172) g dX8_read_172 ?_
    refine R_iload_n (pc := 173) 3 rfl rfl dX8_read_173 ?_
    obtain ⟨g, h⟩ := h
    refine R_iadd (pc := 174) g dX8_read_174 ?_
    refine R_iconst (pc := 175) (by decide) dX8_read_175 ?_
    refine R_iload (pc := 176) 7 rfl dX8_read_176 ?_
    obtain ⟨g, h⟩ := h
    refine R_imul (pc := 178) g dX8_read_178 ?_
    obtain ⟨g, h⟩ := h
    refine R_iadd (pc := 179) g dX8_read_179 ?_
    refine R_istore (pc := 180) (ls' := [(8, vI (((40 * x1) + x3) + (2 * x7))), (0, vP 0), (1, vI x1), (2, vI x2), (3, vI x3), (4, vI x4), (5, vI x5), (6, vI x6), (7, vI x7)]) rfl (ltb rfl) dX8_read_180 ?_
    refine R_aload_n (pc := 182) 1 rfl rfl dX8_read_182 ?_
    refine R_aload_n (pc := 183) 1 rfl rfl dX8_read_183 ?_
    refine R_getP (pc := 184) (q' := 15) lM_0 rfl flX8_54 dX8_read_184 ?_
    refine R_iload (pc := 187) 0 rfl dX8_read_187 ?_
    obtain ⟨g0, g1, h⟩ := h
    refine R_iaload (pc := 189) lM_15 g0 g1 dX8_read_189 ?_
    refine R_aload_n (pc := 190) 1 rfl rfl dX8_read_190 ?_
    refine R_getP (pc := 191) (q' := 15) lM_0 rfl flX8_54 dX8_read_191 ?_
    refine R_iload (pc := 194) 0 rfl dX8_read_194 ?_
    refine R_iconst (pc := 196) (by decide) dX8_read_196 ?_
    obtain ⟨g, h⟩ := h
    refine R_iadd (pc := 197) g dX8_read_197 ?_
    obtain ⟨g0, g1, h⟩ := h
    refine R_iaload (pc := 198) lM_15 g0 g1 dX8_read_198 ?_
    refine R_callVI (pc := 199) (as := [vI (σ 15 (((40 * x1) + x3) + (2 * x7))), vI (σ 15 ((((40 * x1) + x3) + (2 * x7)) + 1))]) (st := []) rfl rfl kX8_bear sX8_bear lM_0 rfl w_6_47 (ltb rfl) rfl (leb rfl) dX8_read_199 h (fun r2 σ1 h => ?_)
    refine R_if_ge (pc := 202) (tgt := 241) (by decide) dX8_read_202 (fun c => ?_) (fun c => ?_)
    · have h := h.1 c
      obtain ⟨g, h⟩ := h
      refine R_iinc (pc := 241) 7 rfl rfl g (ls' := [(6, vI (x6 + 1)), (8, vI (((40 * x1) + x3) + (2 * x7))), (0, vP 0), (1, vI x1), (2, vI x2), (3, vI x3), (4, vI x4), (5, vI x5), (7, vI x7)]) rfl (ltb rfl) dX8_read_241 ?_
      obtain ⟨g, h⟩ := h
      refine R_iinc (pc := 244) 8 rfl rfl g (ls' := [(7, vI (x7 + 1)), (6, vI (x6 + 1)), (8, vI (((40 * x1) + x3) + (2 * x7))), (0, vP 0), (1, vI x1), (2, vI x2), (3, vI x3), (4, vI x4), (5, vI x5)]) rfl (ltb rfl) dX8_read_244 ?_
      refine R_goto (pc := 247) (tgt := 62) (by decide) dX8_read_247 ?_
      refine R_sub [3, 4, 5, 6, 7, 8, 1, 0] rfl ?_
      exact h
    · have h := h.2 c
      refine R_iconst (pc := 205) (by decide) dX8_read_205 ?_
      refine R_istore (pc := 206) (ls' := [(9, vI 0), (8, vI (((40 * x1) + x3) + (2 * x7))), (0, vP 0), (1, vI x1), (2, vI x2), (3, vI x3), (4, vI x4), (5, vI x5), (6, vI x6), (7, vI x7)]) rfl (ltb rfl) dX8_read_206 ?_
      refine R_sub [2, 9, 0] rfl ?_
      exact h
theorem X8_read_208 {x7 x9 : Int} {σ : Mem} {Q : Int → Mem → Prop} (h : ((26 ≤ x9 → I32 ((-20) - x7) ∧ Q ((-20) - x7) σ) ∧ (x9 < 26 → 0 ≤ x9 ∧ x9 < 26 ∧ 0 ≤ x9 ∧ x9 < 78 ∧ I32 (x9 + 1) ∧ LX8_read_208 x7 (x9 + 1) (upM σ 1 x9 (σ 16 x9)) Q))) : LX8_read_208 x7 x9 σ Q := by
  unfold LX8_read_208
  refine R_iload (pc := 208) 2 rfl dX8_read_208 ?_
  refine R_bipush (pc := 210) (by decide) dX8_read_210 ?_
  refine R_icmp_ge (pc := 212) (tgt := 235) (by decide) dX8_read_212 (fun c => ?_) (fun c => ?_)
  · have h := h.1 c
    refine R_bipush (pc := 235) (by decide) dX8_read_235 ?_
    refine R_iload (pc := 237) 1 rfl dX8_read_237 ?_
    obtain ⟨g, h⟩ := h
    refine R_isub (pc := 239) g dX8_read_239 ?_
    exact R_iret (pc := 240) rfl dX8_read_240 ⟨_, rfl, h⟩
  · have h := h.2 c
    refine R_aload_n (pc := 215) 0 rfl rfl dX8_read_215 ?_
    refine R_getP (pc := 216) (q' := 1) lM_0 rfl flX8_7 dX8_read_216 ?_
    refine R_iload (pc := 219) 2 rfl dX8_read_219 ?_
    refine R_aload_n (pc := 221) 0 rfl rfl dX8_read_221 ?_
    refine R_getP (pc := 222) (q' := 16) lM_0 rfl flX8_57 dX8_read_222 ?_
    refine R_iload (pc := 225) 2 rfl dX8_read_225 ?_
    obtain ⟨g0, g1, h⟩ := h
    refine R_iaload (pc := 227) lM_16 g0 g1 dX8_read_227 ?_
    obtain ⟨g0, g1, h⟩ := h
    refine R_iastore (pc := 228) lM_1 g0 g1 dX8_read_228 ?_
    obtain ⟨g, h⟩ := h
    refine R_iinc (pc := 229) 2 rfl rfl g (ls' := [(9, vI (x9 + 1)), (0, vP 0), (7, vI x7)]) rfl (ltb rfl) dX8_read_229 ?_
    refine R_goto (pc := 232) (tgt := 208) (by decide) dX8_read_232 ?_
    refine R_sub [1, 2, 0] rfl ?_
    exact h
theorem X8_read_E {x1 x2 x3 x4 : Int} {σ : Mem} {Q : Int → Mem → Prop} (h : CI layM MX8_isSheet [vI x1, vI x2] σ (fun r2 σ1 => ((r2 = 0 → Q (-1) σ1) ∧ (r2 ≠ 0 → CI layM MX8_in [vJ x4, vJ 0, vJ 20] σ1 (fun r4 σ3 => ((r4 ≠ 0 → LX8_read_26 x1 x2 x3 x4 0 σ3 Q) ∧ (r4 = 0 → Q (-1) σ3))))))) : CI layM MX8_read [vP 0, vI x1, vI x2, vI x3, vI x4] σ Q := by
  refine Cl.ofR (ls := [(0, vP 0), (1, vI x1), (2, vI x2), (3, vI x3), (4, vI x4)]) (show plainName RX8 = true by decide +kernel) (leb rfl) rfl ?_
  refine R_iload_n (pc := 0) 1 rfl rfl dX8_read_0 ?_
  refine R_iload_n (pc := 1) 2 rfl rfl dX8_read_1 ?_
  refine R_callSI (pc := 2) (as := [vI x1, vI x2]) (st := []) rfl rfl kX8_isSheet sX8_isSheet w_6_35 (ltb rfl) rfl (leb rfl) dX8_read_2 h (fun r2 σ1 h => ?_)
  refine R_if_eq (pc := 5) (tgt := 21) (by decide) dX8_read_5 (fun c => ?_) (fun c => ?_)
  · have h := h.1 c
    refine R_iconst (pc := 21) (by decide) dX8_read_21 ?_
    exact R_iret (pc := 22) rfl dX8_read_22 ⟨_, rfl, h⟩
  · have h := h.2 c
    refine R_iload (pc := 8) 4 rfl dX8_read_8 ?_
    refine R_i2l (pc := 10) dX8_read_10 ?_
    refine R_lconst (pc := 11) (x := 0) rfl dX8_read_11 ?_
    refine R_ldc2 (pc := 12) (x := 20) w_6_46 (by decide) dX8_read_12 ?_
    refine R_callSI (pc := 15) (as := [vJ x4, vJ 0, vJ 20]) (st := []) rfl rfl kX8_in sX8_in w_4_210 (ltb rfl) rfl (leb rfl) dX8_read_15 h (fun r4 σ3 h => ?_)
    refine R_if_ne (pc := 18) (tgt := 23) (by decide) dX8_read_18 (fun c => ?_) (fun c => ?_)
    · have h := h.1 c
      refine R_iconst (pc := 23) (by decide) dX8_read_23 ?_
      refine R_istore (pc := 24) (ls' := [(5, vI 0), (0, vP 0), (1, vI x1), (2, vI x2), (3, vI x3), (4, vI x4)]) rfl (ltb rfl) dX8_read_24 ?_
      refine R_sub [1, 2, 3, 4, 5, 0] rfl ?_
      exact h
    · have h := h.2 c
      refine R_iconst (pc := 21) (by decide) dX8_read_21 ?_
      exact R_iret (pc := 22) rfl dX8_read_22 ⟨_, rfl, h⟩
def LX8_readNumber_25 (x1 : Int) (x2 : Int) (σ : Mem) (Q : Int → Mem → Prop) : Prop := Rn layM MX8_readNumber 25 [(0, vP 0), (1, vI x1), (2, vI x2)] [] σ (qI Q)
theorem X8_readNumber_25 {x1 x2 : Int} {σ : Mem} {Q : Int → Mem → Prop} (h : (((σ 0 12) ≠ 0 → (((σ 0 12) ≠ 0 → CV layM MX8_takes [vP 0] σ (fun σ1 => Q 0 σ1)) ∧ ((σ 0 12) = 0 → CV layM MX8_takes [vP 0] σ (fun σ2 => Q (σ 0 11) σ2)))) ∧ ((σ 0 12) = 0 → CI layM MX8_in [vJ (σ 0 11), vJ x1, vJ x2] σ (fun r4 σ3 => CV layM MX8_needs [vP 0, vI r4, vI 3] σ3 (fun σ5 => (((σ5 0 12) ≠ 0 → CV layM MX8_takes [vP 0] σ5 (fun σ6 => Q 0 σ6)) ∧ ((σ5 0 12) = 0 → CV layM MX8_takes [vP 0] σ5 (fun σ7 => Q (σ5 0 11) σ7)))))))) : LX8_readNumber_25 x1 x2 σ Q := by
  unfold LX8_readNumber_25
  refine R_aload_n (pc := 25) 0 rfl rfl dX8_readNumber_25 ?_
  refine R_getI (pc := 26) lM_0 rfl flX8_83 dX8_readNumber_26 ?_
  refine R_if_ne (pc := 29) (tgt := 49) (by decide) dX8_readNumber_29 (fun c => ?_) (fun c => ?_)
  · have h := h.1 c
    refine R_aload_n (pc := 49) 0 rfl rfl dX8_readNumber_49 ?_
    refine R_getI (pc := 50) lM_0 rfl flX8_83 dX8_readNumber_50 ?_
    refine R_if_ne (pc := 53) (tgt := 63) (by decide) dX8_readNumber_53 (fun c => ?_) (fun c => ?_)
    · have h := h.1 c
      refine R_iconst (pc := 63) (by decide) dX8_readNumber_63 ?_
      refine R_istore_n (pc := 64) (ls' := [(3, vI 0), (0, vP 0), (1, vI x1), (2, vI x2)]) rfl rfl (ltb rfl) dX8_readNumber_64 ?_
      refine R_aload_n (pc := 65) 1 rfl rfl dX8_readNumber_65 ?_
      refine R_callV0 (pc := 66) (as := []) (st := []) rfl rfl kX8_takes sX8_takes lM_0 rfl w_4_221 (ltb rfl) rfl (leb rfl) dX8_readNumber_66 h (fun σ1 h => ?_)
      refine R_iload_n (pc := 69) 0 rfl rfl dX8_readNumber_69 ?_
      exact R_iret (pc := 70) rfl dX8_readNumber_70 ⟨_, rfl, h⟩
    · have h := h.2 c
      refine R_aload_n (pc := 56) 0 rfl rfl dX8_readNumber_56 ?_
      refine R_getI (pc := 57) lM_0 rfl flX8_114 dX8_readNumber_57 ?_
      refine R_goto (pc := 60) (tgt := 64) (by decide) dX8_readNumber_60 ?_
      refine R_istore_n (pc := 64) (ls' := [(3, vI (σ 0 11)), (0, vP 0), (1, vI x1), (2, vI x2)]) rfl rfl (ltb rfl) dX8_readNumber_64 ?_
      refine R_aload_n (pc := 65) 1 rfl rfl dX8_readNumber_65 ?_
      refine R_callV0 (pc := 66) (as := []) (st := []) rfl rfl kX8_takes sX8_takes lM_0 rfl w_4_221 (ltb rfl) rfl (leb rfl) dX8_readNumber_66 h (fun σ2 h => ?_)
      refine R_iload_n (pc := 69) 0 rfl rfl dX8_readNumber_69 ?_
      exact R_iret (pc := 70) rfl dX8_readNumber_70 ⟨_, rfl, h⟩
  · have h := h.2 c
    refine R_aload_n (pc := 32) 0 rfl rfl dX8_readNumber_32 ?_
    refine R_aload_n (pc := 33) 0 rfl rfl dX8_readNumber_33 ?_
    refine R_getI (pc := 34) lM_0 rfl flX8_114 dX8_readNumber_34 ?_
    refine R_i2l (pc := 37) dX8_readNumber_37 ?_
    refine R_iload_n (pc := 38) 1 rfl rfl dX8_readNumber_38 ?_
    refine R_i2l (pc := 39) dX8_readNumber_39 ?_
    refine R_iload_n (pc := 40) 2 rfl rfl dX8_readNumber_40 ?_
    refine R_i2l (pc := 41) dX8_readNumber_41 ?_
    refine R_callSI (pc := 42) (as := [vJ (σ 0 11), vJ x1, vJ x2]) (st := [vP 0]) rfl rfl kX8_in sX8_in w_4_210 (ltb rfl) rfl (leb rfl) dX8_readNumber_42 h (fun r4 σ3 h => ?_)
    refine R_iconst (pc := 45) (by decide) dX8_readNumber_45 ?_
    refine R_callV0 (pc := 46) (as := [vI r4, vI 3]) (st := []) rfl rfl kX8_needs sX8_needs lM_0 rfl w_4_233 (ltb rfl) rfl (leb rfl) dX8_readNumber_46 h (fun σ5 h => ?_)
    refine R_aload_n (pc := 49) 0 rfl rfl dX8_readNumber_49 ?_
    refine R_getI (pc := 50) lM_0 rfl flX8_83 dX8_readNumber_50 ?_
    refine R_if_ne (pc := 53) (tgt := 63) (by decide) dX8_readNumber_53 (fun c => ?_) (fun c => ?_)
    · have h := h.1 c
      refine R_iconst (pc := 63) (by decide) dX8_readNumber_63 ?_
      refine R_istore_n (pc := 64) (ls' := [(3, vI 0), (0, vP 0), (1, vI x1), (2, vI x2)]) rfl rfl (ltb rfl) dX8_readNumber_64 ?_
      refine R_aload_n (pc := 65) 1 rfl rfl dX8_readNumber_65 ?_
      refine R_callV0 (pc := 66) (as := []) (st := []) rfl rfl kX8_takes sX8_takes lM_0 rfl w_4_221 (ltb rfl) rfl (leb rfl) dX8_readNumber_66 h (fun σ6 h => ?_)
      refine R_iload_n (pc := 69) 0 rfl rfl dX8_readNumber_69 ?_
      exact R_iret (pc := 70) rfl dX8_readNumber_70 ⟨_, rfl, h⟩
    · have h := h.2 c
      refine R_aload_n (pc := 56) 0 rfl rfl dX8_readNumber_56 ?_
      refine R_getI (pc := 57) lM_0 rfl flX8_114 dX8_readNumber_57 ?_
      refine R_goto (pc := 60) (tgt := 64) (by decide) dX8_readNumber_60 ?_
      refine R_istore_n (pc := 64) (ls' := [(3, vI (σ5 0 11)), (0, vP 0), (1, vI x1), (2, vI x2)]) rfl rfl (ltb rfl) dX8_readNumber_64 ?_
      refine R_aload_n (pc := 65) 1 rfl rfl dX8_readNumber_65 ?_
      refine R_callV0 (pc := 66) (as := []) (st := []) rfl rfl kX8_takes sX8_takes lM_0 rfl w_4_221 (ltb rfl) rfl (leb rfl) dX8_readNumber_66 h (fun σ7 h => ?_)
      refine R_iload_n (pc := 69) 0 rfl rfl dX8_readNumber_69 ?_
      exact R_iret (pc := 70) rfl dX8_readNumber_70 ⟨_, rfl, h⟩
theorem X8_readNumber_E {x1 x2 : Int} {σ : Mem} {Q : Int → Mem → Prop} (h : (((σ 0 12) ≠ 0 → LX8_readNumber_25 x1 x2 σ Q) ∧ ((σ 0 12) = 0 → (((σ 0 10) ≠ 2 → CV layM MX8_needs [vP 0, vI 0, vI 2] σ (fun σ1 => LX8_readNumber_25 x1 x2 σ1 Q)) ∧ ((σ 0 10) = 2 → CV layM MX8_needs [vP 0, vI 1, vI 2] σ (fun σ2 => LX8_readNumber_25 x1 x2 σ2 Q)))))) : CI layM MX8_readNumber [vP 0, vI x1, vI x2] σ Q := by
  refine Cl.ofR (ls := [(0, vP 0), (1, vI x1), (2, vI x2)]) (show plainName RX8 = true by decide +kernel) (leb rfl) rfl ?_
  refine R_aload_n (pc := 0) 0 rfl rfl dX8_readNumber_0 ?_
  refine R_getI (pc := 1) lM_0 rfl flX8_83 dX8_readNumber_1 ?_
  refine R_if_ne (pc := 4) (tgt := 25) (by decide) dX8_readNumber_4 (fun c => ?_) (fun c => ?_)
  · have h := h.1 c
    exact h
  · have h := h.2 c
    refine R_aload_n (pc := 7) 0 rfl rfl dX8_readNumber_7 ?_
    refine R_aload_n (pc := 8) 0 rfl rfl dX8_readNumber_8 ?_
    refine R_getI (pc := 9) lM_0 rfl flX8_103 dX8_readNumber_9 ?_
    refine R_iconst (pc := 12) (by decide) dX8_readNumber_12 ?_
    refine R_icmp_ne (pc := 13) (tgt := 20) (by decide) dX8_readNumber_13 (fun c => ?_) (fun c => ?_)
    · have h := h.1 c
      refine R_iconst (pc := 20) (by decide) dX8_readNumber_20 ?_
      refine R_iconst (pc := 21) (by decide) dX8_readNumber_21 ?_
      refine R_callV0 (pc := 22) (as := [vI 0, vI 2]) (st := []) rfl rfl kX8_needs sX8_needs lM_0 rfl w_4_233 (ltb rfl) rfl (leb rfl) dX8_readNumber_22 h (fun σ1 h => ?_)
      exact h
    · have h := h.2 c
      refine R_iconst (pc := 16) (by decide) dX8_readNumber_16 ?_
      refine R_goto (pc := 17) (tgt := 21) (by decide) dX8_readNumber_17 ?_
      refine R_iconst (pc := 21) (by decide) dX8_readNumber_21 ?_
      refine R_callV0 (pc := 22) (as := [vI 1, vI 2]) (st := []) rfl rfl kX8_needs sX8_needs lM_0 rfl w_4_233 (ltb rfl) rfl (leb rfl) dX8_readNumber_22 h (fun σ2 h => ?_)
      exact h
theorem X8_see_E {x1 x2 : Int} {σ : Mem} {Q : Int → Mem → Prop} (h : CI layM MX8_isHeir [vP 0, vI x1] σ (fun r2 σ1 => ((r2 = 0 → Q (-1) σ1) ∧ (r2 ≠ 0 → CI layM MX8_in [vJ x2, vJ 0, vJ 999] σ1 (fun r4 σ3 => ((r4 ≠ 0 → (((σ3 1 13) ≠ 6 → I32 (2 * (σ3 1 13)) ∧ I32 (14 + (2 * (σ3 1 13))) ∧ 0 ≤ 14 + (2 * (σ3 1 13)) ∧ 14 + (2 * (σ3 1 13)) < 78 ∧ I32 ((14 + (2 * (σ3 1 13))) + 1) ∧ 0 ≤ (14 + (2 * (σ3 1 13))) + 1 ∧ (14 + (2 * (σ3 1 13))) + 1 < 78 ∧ I32 (((upM (upM σ3 1 (14 + (2 * (σ3 1 13))) x1) 1 ((14 + (2 * (σ3 1 13))) + 1) x2) 1 13) + 1) ∧ Q ((upM (upM (upM σ3 1 (14 + (2 * (σ3 1 13))) x1) 1 ((14 + (2 * (σ3 1 13))) + 1) x2) 1 13 (((upM (upM σ3 1 (14 + (2 * (σ3 1 13))) x1) 1 ((14 + (2 * (σ3 1 13))) + 1) x2) 1 13) + 1)) 1 13) (upM (upM (upM σ3 1 (14 + (2 * (σ3 1 13))) x1) 1 ((14 + (2 * (σ3 1 13))) + 1) x2) 1 13 (((upM (upM σ3 1 (14 + (2 * (σ3 1 13))) x1) 1 ((14 + (2 * (σ3 1 13))) + 1) x2) 1 13) + 1))) ∧ ((σ3 1 13) = 6 → Q (-3) σ3))) ∧ (r4 = 0 → Q (-1) σ3))))))) : CI layM MX8_see [vP 0, vI x1, vI x2] σ Q := by
  refine Cl.ofR (ls := [(0, vP 0), (1, vI x1), (2, vI x2)]) (show plainName RX8 = true by decide +kernel) (leb rfl) rfl ?_
  refine R_aload_n (pc := 0) 0 rfl rfl dX8_see_0 ?_
  refine R_iload_n (pc := 1) 1 rfl rfl dX8_see_1 ?_
  refine R_callVI (pc := 2) (as := [vI x1]) (st := []) rfl rfl kX8_isHeir sX8_isHeir lM_0 rfl w_5_61 (ltb rfl) rfl (leb rfl) dX8_see_2 h (fun r2 σ1 h => ?_)
  refine R_if_eq (pc := 5) (tgt := 20) (by decide) dX8_see_5 (fun c => ?_) (fun c => ?_)
  · have h := h.1 c
    refine R_iconst (pc := 20) (by decide) dX8_see_20 ?_
    exact R_iret (pc := 21) rfl dX8_see_21 ⟨_, rfl, h⟩
  · have h := h.2 c
    refine R_iload_n (pc := 8) 2 rfl rfl dX8_see_8 ?_
    refine R_i2l (pc := 9) dX8_see_9 ?_
    refine R_lconst (pc := 10) (x := 0) rfl dX8_see_10 ?_
    refine R_ldc2 (pc := 11) (x := 999) w_5_109 (by decide) dX8_see_11 ?_
    refine R_callSI (pc := 14) (as := [vJ x2, vJ 0, vJ 999]) (st := []) rfl rfl kX8_in sX8_in w_4_210 (ltb rfl) rfl (leb rfl) dX8_see_14 h (fun r4 σ3 h => ?_)
    refine R_if_ne (pc := 17) (tgt := 22) (by decide) dX8_see_17 (fun c => ?_) (fun c => ?_)
    · have h := h.1 c
      refine R_aload_n (pc := 22) 0 rfl rfl dX8_see_22 ?_
      refine R_getP (pc := 23) (q' := 1) lM_0 rfl flX8_7 dX8_see_23 ?_
      refine R_bipush (pc := 26) (by decide) dX8_see_26 ?_
      have g0 : (0 : Int) ≤ 13 := by decide
      have g1 : (13 : Int) < 78 := by decide
      refine R_iaload (pc := 28) lM_1 g0 g1 dX8_see_28 ?_
      refine R_bipush (pc := 29) (by decide) dX8_see_29 ?_
      refine R_icmp_ne (pc := 31) (tgt := 37) (by decide) dX8_see_31 (fun c => ?_) (fun c => ?_)
      · have h := h.1 c
        refine R_bipush (pc := 37) (by decide) dX8_see_37 ?_
        refine R_iconst (pc := 39) (by decide) dX8_see_39 ?_
        refine R_aload_n (pc := 40) 0 rfl rfl dX8_see_40 ?_
        refine R_getP (pc := 41) (q' := 1) lM_0 rfl flX8_7 dX8_see_41 ?_
        refine R_bipush (pc := 44) (by decide) dX8_see_44 ?_
        have g0 : (0 : Int) ≤ 13 := by decide
        have g1 : (13 : Int) < 78 := by decide
        refine R_iaload (pc := 46) lM_1 g0 g1 dX8_see_46 ?_
        obtain ⟨g, h⟩ := h
        refine R_imul (pc := 47) g dX8_see_47 ?_
        obtain ⟨g, h⟩ := h
        refine R_iadd (pc := 48) g dX8_see_48 ?_
        refine R_istore_n (pc := 49) (ls' := [(3, vI (14 + (2 * (σ3 1 13)))), (0, vP 0), (1, vI x1), (2, vI x2)]) rfl rfl (ltb rfl) dX8_see_49 ?_
        refine R_aload_n (pc := 50) 1 rfl rfl dX8_see_50 ?_
        refine R_getP (pc := 51) (q' := 1) lM_0 rfl flX8_7 dX8_see_51 ?_
        refine R_iload_n (pc := 54) 0 rfl rfl dX8_see_54 ?_
        refine R_iload_n (pc := 55) 2 rfl rfl dX8_see_55 ?_
        obtain ⟨g0, g1, h⟩ := h
        refine R_iastore (pc := 56) lM_1 g0 g1 dX8_see_56 ?_
        refine R_aload_n (pc := 57) 1 rfl rfl dX8_see_57 ?_
        refine R_getP (pc := 58) (q' := 1) lM_0 rfl flX8_7 dX8_see_58 ?_
        refine R_iload_n (pc := 61) 0 rfl rfl dX8_see_61 ?_
        refine R_iconst (pc := 62) (by decide) dX8_see_62 ?_
        obtain ⟨g, h⟩ := h
        refine R_iadd (pc := 63) g dX8_see_63 ?_
        refine R_iload_n (pc := 64) 3 rfl rfl dX8_see_64 ?_
        obtain ⟨g0, g1, h⟩ := h
        refine R_iastore (pc := 65) lM_1 g0 g1 dX8_see_65 ?_
        refine R_aload_n (pc := 66) 1 rfl rfl dX8_see_66 ?_
        refine R_getP (pc := 67) (q' := 1) lM_0 rfl flX8_7 dX8_see_67 ?_
        refine R_bipush (pc := 70) (by decide) dX8_see_70 ?_
        refine R_dup2 (pc := 72) rfl rfl dX8_see_72 ?_
        have g0 : (0 : Int) ≤ 13 := by decide
        have g1 : (13 : Int) < 78 := by decide
        refine R_iaload (pc := 73) lM_1 g0 g1 dX8_see_73 ?_
        refine R_iconst (pc := 74) (by decide) dX8_see_74 ?_
        obtain ⟨g, h⟩ := h
        refine R_iadd (pc := 75) g dX8_see_75 ?_
        have g0 : (0 : Int) ≤ 13 := by decide
        have g1 : (13 : Int) < 78 := by decide
        refine R_iastore (pc := 76) lM_1 g0 g1 dX8_see_76 ?_
        refine R_aload_n (pc := 77) 1 rfl rfl dX8_see_77 ?_
        refine R_getP (pc := 78) (q' := 1) lM_0 rfl flX8_7 dX8_see_78 ?_
        refine R_bipush (pc := 81) (by decide) dX8_see_81 ?_
        have g0 : (0 : Int) ≤ 13 := by decide
        have g1 : (13 : Int) < 78 := by decide
        refine R_iaload (pc := 83) lM_1 g0 g1 dX8_see_83 ?_
        exact R_iret (pc := 84) rfl dX8_see_84 ⟨_, rfl, h⟩
      · have h := h.2 c
        refine R_bipush (pc := 34) (by decide) dX8_see_34 ?_
        exact R_iret (pc := 36) rfl dX8_see_36 ⟨_, rfl, h⟩
    · have h := h.2 c
      refine R_iconst (pc := 20) (by decide) dX8_see_20 ?_
      exact R_iret (pc := 21) rfl dX8_see_21 ⟨_, rfl, h⟩
theorem X8_share_E {x1 x2 : Int} {σ : Mem} {Q : Int → Mem → Prop} (h : CI layM MX8_isHeir [vP 0, vI x1] σ (fun r2 σ1 => ((r2 = 0 → Q (-1) σ1) ∧ (r2 ≠ 0 → CI layM MX8_in [vJ x2, vJ 0, vJ 999] σ1 (fun r4 σ3 => ((r4 ≠ 0 → I32 ((σ3 1 0) + x2) ∧ CI layM MX8_isWhole [vP 0, vI x1, vI ((σ3 1 0) + x2)] σ3 (fun r6 σ5 => ((r6 = 0 → Q (-4) σ5) ∧ (r6 ≠ 0 → I32 (2 * x1) ∧ I32 (3 + (2 * x1)) ∧ 0 ≤ 3 + (2 * x1) ∧ 3 + (2 * x1) < 78 ∧ I32 (((σ3 1 0) + x2) * (σ5 1 (3 + (2 * x1)))) ∧ I32 (2 * x1) ∧ I32 (3 + (2 * x1)) ∧ I32 ((3 + (2 * x1)) + 1) ∧ 0 ≤ (3 + (2 * x1)) + 1 ∧ (3 + (2 * x1)) + 1 < 78 ∧ (σ5 1 ((3 + (2 * x1)) + 1)) ≠ 0 ∧ I32 (Int.tdiv (((σ3 1 0) + x2) * (σ5 1 (3 + (2 * x1)))) (σ5 1 ((3 + (2 * x1)) + 1))) ∧ Q (Int.tdiv (((σ3 1 0) + x2) * (σ5 1 (3 + (2 * x1)))) (σ5 1 ((3 + (2 * x1)) + 1))) σ5)))) ∧ (r4 = 0 → Q (-1) σ3))))))) : CI layM MX8_share [vP 0, vI x1, vI x2] σ Q := by
  refine Cl.ofR (ls := [(0, vP 0), (1, vI x1), (2, vI x2)]) (show plainName RX8 = true by decide +kernel) (leb rfl) rfl ?_
  refine R_aload_n (pc := 0) 0 rfl rfl dX8_share_0 ?_
  refine R_iload_n (pc := 1) 1 rfl rfl dX8_share_1 ?_
  refine R_callVI (pc := 2) (as := [vI x1]) (st := []) rfl rfl kX8_isHeir sX8_isHeir lM_0 rfl w_5_61 (ltb rfl) rfl (leb rfl) dX8_share_2 h (fun r2 σ1 h => ?_)
  refine R_if_eq (pc := 5) (tgt := 20) (by decide) dX8_share_5 (fun c => ?_) (fun c => ?_)
  · have h := h.1 c
    refine R_iconst (pc := 20) (by decide) dX8_share_20 ?_
    exact R_iret (pc := 21) rfl dX8_share_21 ⟨_, rfl, h⟩
  · have h := h.2 c
    refine R_iload_n (pc := 8) 2 rfl rfl dX8_share_8 ?_
    refine R_i2l (pc := 9) dX8_share_9 ?_
    refine R_lconst (pc := 10) (x := 0) rfl dX8_share_10 ?_
    refine R_ldc2 (pc := 11) (x := 999) w_5_109 (by decide) dX8_share_11 ?_
    refine R_callSI (pc := 14) (as := [vJ x2, vJ 0, vJ 999]) (st := []) rfl rfl kX8_in sX8_in w_4_210 (ltb rfl) rfl (leb rfl) dX8_share_14 h (fun r4 σ3 h => ?_)
    refine R_if_ne (pc := 17) (tgt := 22) (by decide) dX8_share_17 (fun c => ?_) (fun c => ?_)
    · have h := h.1 c
      refine R_aload_n (pc := 22) 0 rfl rfl dX8_share_22 ?_
      refine R_getP (pc := 23) (q' := 1) lM_0 rfl flX8_7 dX8_share_23 ?_
      refine R_iconst (pc := 26) (by decide) dX8_share_26 ?_
      have g0 : (0 : Int) ≤ 0 := by decide
      have g1 : (0 : Int) < 78 := by decide
      refine R_iaload (pc := 27) lM_1 g0 g1 dX8_share_27 ?_
      refine R_iload_n (pc := 28) 2 rfl rfl dX8_share_28 ?_
      obtain ⟨g, h⟩ := h
      refine R_iadd (pc := 29) g dX8_share_29 ?_
      refine R_istore_n (pc := 30) (ls' := [(3, vI ((σ3 1 0) + x2)), (0, vP 0), (1, vI x1), (2, vI x2)]) rfl rfl (ltb rfl) dX8_share_30 ?_
      refine R_aload_n (pc := 31) 1 rfl rfl dX8_share_31 ?_
      refine R_iload_n (pc := 32) 2 rfl rfl dX8_share_32 ?_
      refine R_iload_n (pc := 33) 0 rfl rfl dX8_share_33 ?_
      refine R_callVI (pc := 34) (as := [vI x1, vI ((σ3 1 0) + x2)]) (st := []) rfl rfl kX8_isWhole sX8_isWhole lM_0 rfl w_5_133 (ltb rfl) rfl (leb rfl) dX8_share_34 h (fun r6 σ5 h => ?_)
      refine R_if_eq (pc := 37) (tgt := 68) (by decide) dX8_share_37 (fun c => ?_) (fun c => ?_)
      · have h := h.1 c
        refine R_bipush (pc := 68) (by decide) dX8_share_68 ?_
        exact R_iret (pc := 70) rfl dX8_share_70 ⟨_, rfl, h⟩
      · have h := h.2 c
        refine R_iload_n (pc := 40) 0 rfl rfl dX8_share_40 ?_
        refine R_aload_n (pc := 41) 1 rfl rfl dX8_share_41 ?_
        refine R_getP (pc := 42) (q' := 1) lM_0 rfl flX8_7 dX8_share_42 ?_
        refine R_iconst (pc := 45) (by decide) dX8_share_45 ?_
        refine R_iconst (pc := 46) (by decide) dX8_share_46 ?_
        refine R_iload_n (pc := 47) 2 rfl rfl dX8_share_47 ?_
        obtain ⟨g, h⟩ := h
        refine R_imul (pc := 48) g dX8_share_48 ?_
        obtain ⟨g, h⟩ := h
        refine R_iadd (pc := 49) g dX8_share_49 ?_
        obtain ⟨g0, g1, h⟩ := h
        refine R_iaload (pc := 50) lM_1 g0 g1 dX8_share_50 ?_
        obtain ⟨g, h⟩ := h
        refine R_imul (pc := 51) g dX8_share_51 ?_
        refine R_aload_n (pc := 52) 1 rfl rfl dX8_share_52 ?_
        refine R_getP (pc := 53) (q' := 1) lM_0 rfl flX8_7 dX8_share_53 ?_
        refine R_iconst (pc := 56) (by decide) dX8_share_56 ?_
        refine R_iconst (pc := 57) (by decide) dX8_share_57 ?_
        refine R_iload_n (pc := 58) 2 rfl rfl dX8_share_58 ?_
        obtain ⟨g, h⟩ := h
        refine R_imul (pc := 59) g dX8_share_59 ?_
        obtain ⟨g, h⟩ := h
        refine R_iadd (pc := 60) g dX8_share_60 ?_
        refine R_iconst (pc := 61) (by decide) dX8_share_61 ?_
        obtain ⟨g, h⟩ := h
        refine R_iadd (pc := 62) g dX8_share_62 ?_
        obtain ⟨g0, g1, h⟩ := h
        refine R_iaload (pc := 63) lM_1 g0 g1 dX8_share_63 ?_
        obtain ⟨g0, h⟩ := h
        obtain ⟨g, h⟩ := h
        refine R_idiv (pc := 64) g0 g dX8_share_64 ?_
        refine R_goto (pc := 65) (tgt := 70) (by decide) dX8_share_65 ?_
        exact R_iret (pc := 70) rfl dX8_share_70 ⟨_, rfl, h⟩
    · have h := h.2 c
      refine R_iconst (pc := 20) (by decide) dX8_share_20 ?_
      exact R_iret (pc := 21) rfl dX8_share_21 ⟨_, rfl, h⟩
def LX8_sheet_40 (x1 : Int) (x4 : Int) (σ : Mem) (Q : Int → Mem → Prop) : Prop := Rn layM MX8_sheet 40 [(0, vP 0), (1, vI x1), (4, vI x4)] [] σ (qI Q)
theorem X8_sheet_40 {x1 x4 : Int} {σ : Mem} {Q : Int → Mem → Prop} (h : ((40 ≤ x4 → Q 1 σ) ∧ (x4 < 40 → I32 (40 * x1) ∧ I32 ((40 * x1) + x4) ∧ 0 ≤ (40 * x1) + x4 ∧ (40 * x1) + x4 < 160 ∧ I32 (x4 + 1) ∧ LX8_sheet_40 x1 (x4 + 1) (upM σ 15 ((40 * x1) + x4) 0) Q))) : LX8_sheet_40 x1 x4 σ Q := by
  unfold LX8_sheet_40
  refine R_iload (pc := 40) 2 rfl dX8_sheet_40 ?_
  refine R_bipush (pc := 42) (by decide) dX8_sheet_42 ?_
  refine R_icmp_ge (pc := 44) (tgt := 66) (by decide) dX8_sheet_44 (fun c => ?_) (fun c => ?_)
  · have h := h.1 c
    refine R_iconst (pc := 66) (by decide) dX8_sheet_66 ?_
    exact R_iret (pc := 67) rfl dX8_sheet_67 ⟨_, rfl, h⟩
  · have h := h.2 c
    refine R_aload_n (pc := 47) 0 rfl rfl dX8_sheet_47 ?_
    refine R_getP (pc := 48) (q' := 15) lM_0 rfl flX8_54 dX8_sheet_48 ?_
    refine R_bipush (pc := 51) (by decide) dX8_sheet_51 ?_
    refine R_iload_n (pc := 53) 1 rfl rfl dX8_sheet_53 ?_
    obtain ⟨g, h⟩ := h
    refine R_imul (pc := 54) g dX8_sheet_54 ?_
    refine R_iload (pc := 55) 2 rfl dX8_sheet_55 ?_
    obtain ⟨g, h⟩ := h
    refine R_iadd (pc := 57) g dX8_sheet_57 ?_
    refine R_iconst (pc := 58) (by decide) dX8_sheet_58 ?_
    obtain ⟨g0, g1, h⟩ := h
    refine R_iastore (pc := 59) lM_15 g0 g1 dX8_sheet_59 ?_
    obtain ⟨g, h⟩ := h
    refine R_iinc (pc := 60) 2 rfl rfl g (ls' := [(4, vI (x4 + 1)), (0, vP 0), (1, vI x1)]) rfl (ltb rfl) dX8_sheet_60 ?_
    refine R_goto (pc := 63) (tgt := 40) (by decide) dX8_sheet_63 ?_
    refine R_sub [1, 2, 0] rfl ?_
    exact h
theorem X8_sheet_E {x1 x2 x3 : Int} {σ : Mem} {Q : Int → Mem → Prop} (h : CI layM MX8_isSheet [vI x1, vI x2] σ (fun r2 σ1 => ((r2 = 0 → Q (-1) σ1) ∧ (r2 ≠ 0 → ((x3 ≤ 40 → ((0 ≤ x3 → 0 ≤ x1 ∧ x1 < 4 ∧ 0 ≤ x1 ∧ x1 < 4 ∧ LX8_sheet_40 x1 0 (upM (upM σ1 13 x1 x2) 14 x1 x3) Q) ∧ (x3 < 0 → Q (-14) σ1))) ∧ (40 < x3 → Q (-1) σ1)))))) : CI layM MX8_sheet [vP 0, vI x1, vI x2, vI x3] σ Q := by
  refine Cl.ofR (ls := [(0, vP 0), (1, vI x1), (2, vI x2), (3, vI x3)]) (show plainName RX8 = true by decide +kernel) (leb rfl) rfl ?_
  refine R_iload_n (pc := 0) 1 rfl rfl dX8_sheet_0 ?_
  refine R_iload_n (pc := 1) 2 rfl rfl dX8_sheet_1 ?_
  refine R_callSI (pc := 2) (as := [vI x1, vI x2]) (st := []) rfl rfl kX8_isSheet sX8_isSheet w_6_35 (ltb rfl) rfl (leb rfl) dX8_sheet_2 h (fun r2 σ1 h => ?_)
  refine R_if_eq (pc := 5) (tgt := 14) (by decide) dX8_sheet_5 (fun c => ?_) (fun c => ?_)
  · have h := h.1 c
    refine R_iconst (pc := 14) (by decide) dX8_sheet_14 ?_
    exact R_iret (pc := 15) rfl dX8_sheet_15 ⟨_, rfl, h⟩
  · have h := h.2 c
    refine R_iload_n (pc := 8) 3 rfl rfl dX8_sheet_8 ?_
    refine R_bipush (pc := 9) (by decide) dX8_sheet_9 ?_
    refine R_icmp_le (pc := 11) (tgt := 16) (by decide) dX8_sheet_11 (fun c => ?_) (fun c => ?_)
    · have h := h.1 c
      refine R_iload_n (pc := 16) 3 rfl rfl dX8_sheet_16 ?_
      refine R_if_ge (pc := 17) (tgt := 23) (by decide) dX8_sheet_17 (fun c => ?_) (fun c => ?_)
      · have h := h.1 c
        refine R_aload_n (pc := 23) 0 rfl rfl dX8_sheet_23 ?_
        refine R_getP (pc := 24) (q' := 13) lM_0 rfl flX8_48 dX8_sheet_24 ?_
        refine R_iload_n (pc := 27) 1 rfl rfl dX8_sheet_27 ?_
        refine R_iload_n (pc := 28) 2 rfl rfl dX8_sheet_28 ?_
        obtain ⟨g0, g1, h⟩ := h
        refine R_iastore (pc := 29) lM_13 g0 g1 dX8_sheet_29 ?_
        refine R_aload_n (pc := 30) 0 rfl rfl dX8_sheet_30 ?_
        refine R_getP (pc := 31) (q' := 14) lM_0 rfl flX8_51 dX8_sheet_31 ?_
        refine R_iload_n (pc := 34) 1 rfl rfl dX8_sheet_34 ?_
        refine R_iload_n (pc := 35) 3 rfl rfl dX8_sheet_35 ?_
        obtain ⟨g0, g1, h⟩ := h
        refine R_iastore (pc := 36) lM_14 g0 g1 dX8_sheet_36 ?_
        refine R_iconst (pc := 37) (by decide) dX8_sheet_37 ?_
        refine R_istore (pc := 38) (ls' := [(4, vI 0), (0, vP 0), (1, vI x1), (2, vI x2), (3, vI x3)]) rfl (ltb rfl) dX8_sheet_38 ?_
        refine R_sub [1, 2, 0] rfl ?_
        exact h
      · have h := h.2 c
        refine R_bipush (pc := 20) (by decide) dX8_sheet_20 ?_
        exact R_iret (pc := 22) rfl dX8_sheet_22 ⟨_, rfl, h⟩
    · have h := h.2 c
      refine R_iconst (pc := 14) (by decide) dX8_sheet_14 ?_
      exact R_iret (pc := 15) rfl dX8_sheet_15 ⟨_, rfl, h⟩
theorem X8_sum_E {x1 : Int} {σ : Mem} {Q : Int → Mem → Prop} (h : CI layM MX8_isPart [vI x1] σ (fun r2 σ1 => ((r2 ≠ 0 → CV layM MX8_starts [vP 0] σ1 (fun σ3 => CJ layM MX8_lowest [vJ (σ3 0 16), vJ (σ3 0 15), vI x1] σ3 (fun r5 σ4 => Q r5 σ4))) ∧ (r2 = 0 → Q (-1) σ1)))) : CJ layM MX8_sum [vP 0, vI x1] σ Q := by
  refine Cl.ofR (ls := [(0, vP 0), (1, vI x1)]) (show plainName RX8 = true by decide +kernel) (leb rfl) rfl ?_
  refine R_iload_n (pc := 0) 1 rfl rfl dX8_sum_0 ?_
  refine R_callSI (pc := 1) (as := [vI x1]) (st := []) rfl rfl kX8_isPart sX8_isPart w_5_77 (ltb rfl) rfl (leb rfl) dX8_sum_1 h (fun r2 σ1 h => ?_)
  refine R_if_ne (pc := 4) (tgt := 11) (by decide) dX8_sum_4 (fun c => ?_) (fun c => ?_)
  · have h := h.1 c
    refine R_aload_n (pc := 11) 0 rfl rfl dX8_sum_11 ?_
    refine R_callV0 (pc := 12) (as := []) (st := []) rfl rfl kX8_starts sX8_starts lM_0 rfl w_5_25 (ltb rfl) rfl (leb rfl) dX8_sum_12 h (fun σ3 h => ?_)
    refine R_aload_n (pc := 15) 0 rfl rfl dX8_sum_15 ?_
    refine R_getJ (pc := 16) lM_0 rfl flX8_145 dX8_sum_16 ?_
    refine R_aload_n (pc := 19) 0 rfl rfl dX8_sum_19 ?_
    refine R_getJ (pc := 20) lM_0 rfl flX8_141 dX8_sum_20 ?_
    refine R_iload_n (pc := 23) 1 rfl rfl dX8_sum_23 ?_
    refine R_callSJ (pc := 24) (as := [vJ (σ3 0 16), vJ (σ3 0 15), vI x1]) (st := []) rfl rfl kX8_lowest sX8_lowest w_5_80 (ltb rfl) rfl (leb rfl) dX8_sum_24 h (fun r5 σ4 h => ?_)
    exact R_lret (pc := 27) rfl dX8_sum_27 ⟨_, rfl, h⟩
  · have h := h.2 c
    refine R_ldc2 (pc := 7) (x := (-1)) w_5_86 (by decide) dX8_sum_7 ?_
    exact R_lret (pc := 10) rfl dX8_sum_10 ⟨_, rfl, h⟩
theorem X8_told_E {x1 x2 : Int} {σ : Mem} {Q : Int → Mem → Prop} (h : CI layM MX8_isHeir [vP 0, vI x1] σ (fun r2 σ1 => ((r2 = 0 → Q (-1) σ1) ∧ (r2 ≠ 0 → CI layM MX8_isPart [vI x2] σ1 (fun r4 σ3 => ((r4 = 0 → Q (-1) σ3) ∧ (r4 ≠ 0 → I32 (2 * x1) ∧ I32 (3 + (2 * x1)) ∧ 0 ≤ 3 + (2 * x1) ∧ 3 + (2 * x1) < 78 ∧ I64 ((σ3 1 0) * (σ3 1 (3 + (2 * x1)))) ∧ I32 (2 * x1) ∧ I32 (3 + (2 * x1)) ∧ I32 ((3 + (2 * x1)) + 1) ∧ 0 ≤ (3 + (2 * x1)) + 1 ∧ (3 + (2 * x1)) + 1 < 78 ∧ CJ layM MX8_lowest [vJ ((σ3 1 0) * (σ3 1 (3 + (2 * x1)))), vJ (σ3 1 ((3 + (2 * x1)) + 1)), vI x2] σ3 (fun r6 σ5 => Q r6 σ5)))))))) : CJ layM MX8_told [vP 0, vI x1, vI x2] σ Q := by
  refine Cl.ofR (ls := [(0, vP 0), (1, vI x1), (2, vI x2)]) (show plainName RX8 = true by decide +kernel) (leb rfl) rfl ?_
  refine R_aload_n (pc := 0) 0 rfl rfl dX8_told_0 ?_
  refine R_iload_n (pc := 1) 1 rfl rfl dX8_told_1 ?_
  refine R_callVI (pc := 2) (as := [vI x1]) (st := []) rfl rfl kX8_isHeir sX8_isHeir lM_0 rfl w_5_61 (ltb rfl) rfl (leb rfl) dX8_told_2 h (fun r2 σ1 h => ?_)
  refine R_if_eq (pc := 5) (tgt := 54) (by decide) dX8_told_5 (fun c => ?_) (fun c => ?_)
  · have h := h.1 c
    refine R_ldc2 (pc := 54) (x := (-1)) w_5_86 (by decide) dX8_told_54 ?_
    exact R_lret (pc := 57) rfl dX8_told_57 ⟨_, rfl, h⟩
  · have h := h.2 c
    refine R_iload_n (pc := 8) 2 rfl rfl dX8_told_8 ?_
    refine R_callSI (pc := 9) (as := [vI x2]) (st := []) rfl rfl kX8_isPart sX8_isPart w_5_77 (ltb rfl) rfl (leb rfl) dX8_told_9 h (fun r4 σ3 h => ?_)
    refine R_if_eq (pc := 12) (tgt := 54) (by decide) dX8_told_12 (fun c => ?_) (fun c => ?_)
    · have h := h.1 c
      refine R_ldc2 (pc := 54) (x := (-1)) w_5_86 (by decide) dX8_told_54 ?_
      exact R_lret (pc := 57) rfl dX8_told_57 ⟨_, rfl, h⟩
    · have h := h.2 c
      refine R_aload_n (pc := 15) 0 rfl rfl dX8_told_15 ?_
      refine R_getP (pc := 16) (q' := 1) lM_0 rfl flX8_7 dX8_told_16 ?_
      refine R_iconst (pc := 19) (by decide) dX8_told_19 ?_
      have g0 : (0 : Int) ≤ 0 := by decide
      have g1 : (0 : Int) < 78 := by decide
      refine R_iaload (pc := 20) lM_1 g0 g1 dX8_told_20 ?_
      refine R_i2l (pc := 21) dX8_told_21 ?_
      refine R_aload_n (pc := 22) 0 rfl rfl dX8_told_22 ?_
      refine R_getP (pc := 23) (q' := 1) lM_0 rfl flX8_7 dX8_told_23 ?_
      refine R_iconst (pc := 26) (by decide) dX8_told_26 ?_
      refine R_iconst (pc := 27) (by decide) dX8_told_27 ?_
      refine R_iload_n (pc := 28) 1 rfl rfl dX8_told_28 ?_
      obtain ⟨g, h⟩ := h
      refine R_imul (pc := 29) g dX8_told_29 ?_
      obtain ⟨g, h⟩ := h
      refine R_iadd (pc := 30) g dX8_told_30 ?_
      obtain ⟨g0, g1, h⟩ := h
      refine R_iaload (pc := 31) lM_1 g0 g1 dX8_told_31 ?_
      refine R_i2l (pc := 32) dX8_told_32 ?_
      obtain ⟨g, h⟩ := h
      refine R_lmul (pc := 33) g dX8_told_33 ?_
      refine R_aload_n (pc := 34) 0 rfl rfl dX8_told_34 ?_
      refine R_getP (pc := 35) (q' := 1) lM_0 rfl flX8_7 dX8_told_35 ?_
      refine R_iconst (pc := 38) (by decide) dX8_told_38 ?_
      refine R_iconst (pc := 39) (by decide) dX8_told_39 ?_
      refine R_iload_n (pc := 40) 1 rfl rfl dX8_told_40 ?_
      obtain ⟨g, h⟩ := h
      refine R_imul (pc := 41) g dX8_told_41 ?_
      obtain ⟨g, h⟩ := h
      refine R_iadd (pc := 42) g dX8_told_42 ?_
      refine R_iconst (pc := 43) (by decide) dX8_told_43 ?_
      obtain ⟨g, h⟩ := h
      refine R_iadd (pc := 44) g dX8_told_44 ?_
      obtain ⟨g0, g1, h⟩ := h
      refine R_iaload (pc := 45) lM_1 g0 g1 dX8_told_45 ?_
      refine R_i2l (pc := 46) dX8_told_46 ?_
      refine R_iload_n (pc := 47) 2 rfl rfl dX8_told_47 ?_
      refine R_callSJ (pc := 48) (as := [vJ ((σ3 1 0) * (σ3 1 (3 + (2 * x1)))), vJ (σ3 1 ((3 + (2 * x1)) + 1)), vI x2]) (st := []) rfl rfl kX8_lowest sX8_lowest w_5_80 (ltb rfl) rfl (leb rfl) dX8_told_48 h (fun r6 σ5 h => ?_)
      refine R_goto (pc := 51) (tgt := 57) (by decide) dX8_told_51 ?_
      exact R_lret (pc := 57) rfl dX8_told_57 ⟨_, rfl, h⟩
def LX8_unlike_27 (x1 : Int) (x2 : Int) (x3 : Int) (σ : Mem) (Q : Int → Mem → Prop) : Prop := Rn layM MX8_unlike 27 [(0, vP 0), (1, vI x1), (2, vI x2), (3, vI x3)] [] σ (qI Q)
def LX8_unlike_56 (x1 : Int) (x2 : Int) (x3 : Int) (x4 : Int) (x5 : Int) (σ : Mem) (Q : Int → Mem → Prop) : Prop := Rn layM MX8_unlike 56 [(0, vP 0), (1, vI x1), (2, vI x2), (3, vI x3), (4, vI x4), (5, vI x5)] [] σ (qI Q)
theorem X8_unlike_27 {x1 x2 x3 : Int} {σ : Mem} {Q : Int → Mem → Prop} (h : ((200 < x3 → Q (-4) σ) ∧ (x3 ≤ 200 → CV layM MX8_gives [vP 0, vI x3, vI x1] σ (fun σ1 => CV layM MX8_remembers [vP 0] σ1 (fun σ2 => CV layM MX8_gives [vP 0, vI x3, vI x2] σ2 (fun σ3 => LX8_unlike_56 x1 x2 x3 0 0 σ3 Q)))))) : LX8_unlike_27 x1 x2 x3 σ Q := by
  unfold LX8_unlike_27
  refine R_iload_n (pc := 27) 3 rfl rfl dX8_unlike_27 ?_
  refine R_sipush (pc := 28) (by decide) dX8_unlike_28 ?_
  refine R_icmp_gt (pc := 31) (tgt := 115) (by decide) dX8_unlike_31 (fun c => ?_) (fun c => ?_)
  · have h := h.1 c
    refine R_bipush (pc := 115) (by decide) dX8_unlike_115 ?_
    exact R_iret (pc := 117) rfl dX8_unlike_117 ⟨_, rfl, h⟩
  · have h := h.2 c
    refine R_aload_n (pc := 34) 0 rfl rfl dX8_unlike_34 ?_
    refine R_iload_n (pc := 35) 3 rfl rfl dX8_unlike_35 ?_
    refine R_iload_n (pc := 36) 1 rfl rfl dX8_unlike_36 ?_
    refine R_callV0 (pc := 37) (as := [vI x3, vI x1]) (st := []) rfl rfl kX8_gives sX8_gives lM_0 rfl w_5_37 (ltb rfl) rfl (leb rfl) dX8_unlike_37 h (fun σ1 h => ?_)
    refine R_aload_n (pc := 40) 0 rfl rfl dX8_unlike_40 ?_
    refine R_callV0 (pc := 41) (as := []) (st := []) rfl rfl kX8_remembers sX8_remembers lM_0 rfl w_5_170 (ltb rfl) rfl (leb rfl) dX8_unlike_41 h (fun σ2 h => ?_)
    refine R_aload_n (pc := 44) 0 rfl rfl dX8_unlike_44 ?_
    refine R_iload_n (pc := 45) 3 rfl rfl dX8_unlike_45 ?_
    refine R_iload_n (pc := 46) 2 rfl rfl dX8_unlike_46 ?_
    refine R_callV0 (pc := 47) (as := [vI x3, vI x2]) (st := []) rfl rfl kX8_gives sX8_gives lM_0 rfl w_5_37 (ltb rfl) rfl (leb rfl) dX8_unlike_47 h (fun σ3 h => ?_)
    refine R_iconst (pc := 50) (by decide) dX8_unlike_50 ?_
    refine R_istore (pc := 51) (ls' := [(4, vI 0), (0, vP 0), (1, vI x1), (2, vI x2), (3, vI x3)]) rfl (ltb rfl) dX8_unlike_51 ?_
    refine R_iconst (pc := 53) (by decide) dX8_unlike_53 ?_
    refine R_istore (pc := 54) (ls' := [(5, vI 0), (4, vI 0), (0, vP 0), (1, vI x1), (2, vI x2), (3, vI x3)]) rfl (ltb rfl) dX8_unlike_54 ?_
    refine R_sub [2, 3, 4, 5, 1, 0] rfl ?_
    exact h
theorem X8_unlike_56 {x1 x2 x3 x4 x5 : Int} {σ : Mem} {Q : Int → Mem → Prop} (h : (((σ 2 1) ≤ x5 → ((x4 = 0 → I32 (x3 + 1) ∧ LX8_unlike_27 x1 x2 (x3 + 1) σ Q) ∧ (x4 ≠ 0 → Q x3 σ))) ∧ (x5 < (σ 2 1) → ((x4 ≠ 0 → I32 (x5 + 1) ∧ LX8_unlike_56 x1 x2 x3 1 (x5 + 1) σ Q) ∧ (x4 = 0 → 0 ≤ x5 ∧ x5 < 5 ∧ 0 ≤ x5 ∧ x5 < 5 ∧ (((σ 7 x5) = (σ 11 x5) → I32 (x5 + 1) ∧ LX8_unlike_56 x1 x2 x3 0 (x5 + 1) σ Q) ∧ ((σ 7 x5) ≠ (σ 11 x5) → I32 (x5 + 1) ∧ LX8_unlike_56 x1 x2 x3 1 (x5 + 1) σ Q))))))) : LX8_unlike_56 x1 x2 x3 x4 x5 σ Q := by
  unfold LX8_unlike_56
  refine R_iload (pc := 56) 5 rfl dX8_unlike_56 ?_
  refine R_aload_n (pc := 58) 0 rfl rfl dX8_unlike_58 ?_
  refine R_getP (pc := 59) (q' := 2) lM_0 rfl flX8_13 dX8_unlike_59 ?_
  refine R_iconst (pc := 62) (by decide) dX8_unlike_62 ?_
  have g0 : (0 : Int) ≤ 1 := by decide
  have g1 : (1 : Int) < 26 := by decide
  refine R_iaload (pc := 63) lM_2 g0 g1 dX8_unlike_63 ?_
  refine R_icmp_ge (pc := 64) (tgt := 102) (by decide) dX8_unlike_64 (fun c => ?_) (fun c => ?_)
  · have h := h.1 c
    refine R_iload (pc := 102) 4 rfl dX8_unlike_102 ?_
    refine R_if_eq (pc := 104) (tgt := 109) (by decide) dX8_unlike_104 (fun c => ?_) (fun c => ?_)
    · have h := h.1 c
      obtain ⟨g, h⟩ := h
      refine R_iinc (pc := 109) 3 rfl rfl g (ls' := [(3, vI (x3 + 1)), (0, vP 0), (1, vI x1), (2, vI x2), (4, vI x4), (5, vI x5)]) rfl (ltb rfl) dX8_unlike_109 ?_
      refine R_goto (pc := 112) (tgt := 27) (by decide) dX8_unlike_112 ?_
      refine R_sub [1, 2, 3, 0] rfl ?_
      exact h
    · have h := h.2 c
      refine R_iload_n (pc := 107) 3 rfl rfl dX8_unlike_107 ?_
      exact R_iret (pc := 108) rfl dX8_unlike_108 ⟨_, rfl, h⟩
  · have h := h.2 c
    refine R_iload (pc := 67) 4 rfl dX8_unlike_67 ?_
    refine R_if_ne (pc := 69) (tgt := 89) (by decide) dX8_unlike_69 (fun c => ?_) (fun c => ?_)
    · have h := h.1 c
      refine R_iconst (pc := 89) (by decide) dX8_unlike_89 ?_
      refine R_goto (pc := 90) (tgt := 94) (by decide) dX8_unlike_90 ?_
      refine R_istore (pc := 94) (ls' := [(4, vI 1), (0, vP 0), (1, vI x1), (2, vI x2), (3, vI x3), (5, vI x5)]) rfl (ltb rfl) dX8_unlike_94 ?_
      obtain ⟨g, h⟩ := h
      refine R_iinc (pc := 96) 5 rfl rfl g (ls' := [(5, vI (x5 + 1)), (4, vI 1), (0, vP 0), (1, vI x1), (2, vI x2), (3, vI x3)]) rfl (ltb rfl) dX8_unlike_96 ?_
      refine R_goto (pc := 99) (tgt := 56) (by decide) dX8_unlike_99 ?_
      refine R_sub [2, 3, 4, 5, 1, 0] rfl ?_
      exact h
    · have h := h.2 c
      refine R_aload_n (pc := 72) 0 rfl rfl dX8_unlike_72 ?_
      refine R_getP (pc := 73) (q' := 7) lM_0 rfl flX8_30 dX8_unlike_73 ?_
      refine R_iload (pc := 76) 5 rfl dX8_unlike_76 ?_
      obtain ⟨g0, g1, h⟩ := h
      refine R_iaload (pc := 78) lM_7 g0 g1 dX8_unlike_78 ?_
      refine R_aload_n (pc := 79) 0 rfl rfl dX8_unlike_79 ?_
      refine R_getP (pc := 80) (q' := 11) lM_0 rfl flX8_42 dX8_unlike_80 ?_
      refine R_iload (pc := 83) 5 rfl dX8_unlike_83 ?_
      obtain ⟨g0, g1, h⟩ := h
      refine R_iaload (pc := 85) lM_11 g0 g1 dX8_unlike_85 ?_
      refine R_icmp_eq (pc := 86) (tgt := 93) (by decide) dX8_unlike_86 (fun c => ?_) (fun c => ?_)
      · have h := h.1 c
        refine R_iconst (pc := 93) (by decide) dX8_unlike_93 ?_
        refine R_istore (pc := 94) (ls' := [(4, vI 0), (0, vP 0), (1, vI x1), (2, vI x2), (3, vI x3), (5, vI x5)]) rfl (ltb rfl) dX8_unlike_94 ?_
        obtain ⟨g, h⟩ := h
        refine R_iinc (pc := 96) 5 rfl rfl g (ls' := [(5, vI (x5 + 1)), (4, vI 0), (0, vP 0), (1, vI x1), (2, vI x2), (3, vI x3)]) rfl (ltb rfl) dX8_unlike_96 ?_
        refine R_goto (pc := 99) (tgt := 56) (by decide) dX8_unlike_99 ?_
        refine R_sub [2, 3, 4, 5, 1, 0] rfl ?_
        exact h
      · have h := h.2 c
        refine R_iconst (pc := 89) (by decide) dX8_unlike_89 ?_
        refine R_goto (pc := 90) (tgt := 94) (by decide) dX8_unlike_90 ?_
        refine R_istore (pc := 94) (ls' := [(4, vI 1), (0, vP 0), (1, vI x1), (2, vI x2), (3, vI x3), (5, vI x5)]) rfl (ltb rfl) dX8_unlike_94 ?_
        obtain ⟨g, h⟩ := h
        refine R_iinc (pc := 96) 5 rfl rfl g (ls' := [(5, vI (x5 + 1)), (4, vI 1), (0, vP 0), (1, vI x1), (2, vI x2), (3, vI x3)]) rfl (ltb rfl) dX8_unlike_96 ?_
        refine R_goto (pc := 99) (tgt := 56) (by decide) dX8_unlike_99 ?_
        refine R_sub [2, 3, 4, 5, 1, 0] rfl ?_
        exact h
theorem X8_unlike_E {x1 x2 : Int} {σ : Mem} {Q : Int → Mem → Prop} (h : CI layM MX8_isKind [vI x1] σ (fun r2 σ1 => ((r2 = 0 → Q (-1) σ1) ∧ (r2 ≠ 0 → CI layM MX8_isKind [vI x2] σ1 (fun r4 σ3 => ((r4 = 0 → Q (-1) σ3) ∧ (r4 ≠ 0 → ((x1 ≠ x2 → CV layM MX8_starts [vP 0] σ3 (fun σ5 => LX8_unlike_27 x1 x2 0 σ5 Q)) ∧ (x1 = x2 → Q (-1) σ3))))))))) : CI layM MX8_unlike [vP 0, vI x1, vI x2] σ Q := by
  refine Cl.ofR (ls := [(0, vP 0), (1, vI x1), (2, vI x2)]) (show plainName RX8 = true by decide +kernel) (leb rfl) rfl ?_
  refine R_iload_n (pc := 0) 1 rfl rfl dX8_unlike_0 ?_
  refine R_callSI (pc := 1) (as := [vI x1]) (st := []) rfl rfl kX8_isKind sX8_isKind w_5_114 (ltb rfl) rfl (leb rfl) dX8_unlike_1 h (fun r2 σ1 h => ?_)
  refine R_if_eq (pc := 4) (tgt := 19) (by decide) dX8_unlike_4 (fun c => ?_) (fun c => ?_)
  · have h := h.1 c
    refine R_iconst (pc := 19) (by decide) dX8_unlike_19 ?_
    exact R_iret (pc := 20) rfl dX8_unlike_20 ⟨_, rfl, h⟩
  · have h := h.2 c
    refine R_iload_n (pc := 7) 2 rfl rfl dX8_unlike_7 ?_
    refine R_callSI (pc := 8) (as := [vI x2]) (st := []) rfl rfl kX8_isKind sX8_isKind w_5_114 (ltb rfl) rfl (leb rfl) dX8_unlike_8 h (fun r4 σ3 h => ?_)
    refine R_if_eq (pc := 11) (tgt := 19) (by decide) dX8_unlike_11 (fun c => ?_) (fun c => ?_)
    · have h := h.1 c
      refine R_iconst (pc := 19) (by decide) dX8_unlike_19 ?_
      exact R_iret (pc := 20) rfl dX8_unlike_20 ⟨_, rfl, h⟩
    · have h := h.2 c
      refine R_iload_n (pc := 14) 1 rfl rfl dX8_unlike_14 ?_
      refine R_iload_n (pc := 15) 2 rfl rfl dX8_unlike_15 ?_
      refine R_icmp_ne (pc := 16) (tgt := 21) (by decide) dX8_unlike_16 (fun c => ?_) (fun c => ?_)
      · have h := h.1 c
        refine R_aload_n (pc := 21) 0 rfl rfl dX8_unlike_21 ?_
        refine R_callV0 (pc := 22) (as := []) (st := []) rfl rfl kX8_starts sX8_starts lM_0 rfl w_5_25 (ltb rfl) rfl (leb rfl) dX8_unlike_22 h (fun σ5 h => ?_)
        refine R_iconst (pc := 25) (by decide) dX8_unlike_25 ?_
        refine R_istore_n (pc := 26) (ls' := [(3, vI 0), (0, vP 0), (1, vI x1), (2, vI x2)]) rfl rfl (ltb rfl) dX8_unlike_26 ?_
        refine R_sub [1, 2, 3, 0] rfl ?_
        exact h
      · have h := h.2 c
        refine R_iconst (pc := 19) (by decide) dX8_unlike_19 ?_
        exact R_iret (pc := 20) rfl dX8_unlike_20 ⟨_, rfl, h⟩
def LX8_wants_28 (x1 : Int) (x2 : Int) (x3 : Int) (σ : Mem) (Q : Int → Mem → Prop) : Prop := Rn layM MX8_wants 28 [(0, vP 0), (1, vI x1), (2, vI x2), (3, vI x3)] [] σ (qI Q)
theorem X8_wants_28 {x1 x2 x3 : Int} {σ : Mem} {Q : Int → Mem → Prop} (h : ((999 < x3 → Q (-4) σ) ∧ (x3 ≤ 999 → CV layM MX8_gives [vP 0, vI x3, vI (σ 2 2)] σ (fun σ1 => 0 ≤ x1 ∧ x1 < 5 ∧ (((σ1 7 x1) < x2 → I32 (x3 + 1) ∧ LX8_wants_28 x1 x2 (x3 + 1) σ1 Q) ∧ (x2 ≤ (σ1 7 x1) → Q x3 σ1)))))) : LX8_wants_28 x1 x2 x3 σ Q := by
  unfold LX8_wants_28
  refine R_iload_n (pc := 28) 3 rfl rfl dX8_wants_28 ?_
  refine R_sipush (pc := 29) (by decide) dX8_wants_29 ?_
  refine R_icmp_gt (pc := 32) (tgt := 64) (by decide) dX8_wants_32 (fun c => ?_) (fun c => ?_)
  · have h := h.1 c
    refine R_bipush (pc := 64) (by decide) dX8_wants_64 ?_
    exact R_iret (pc := 66) rfl dX8_wants_66 ⟨_, rfl, h⟩
  · have h := h.2 c
    refine R_aload_n (pc := 35) 0 rfl rfl dX8_wants_35 ?_
    refine R_iload_n (pc := 36) 3 rfl rfl dX8_wants_36 ?_
    refine R_aload_n (pc := 37) 0 rfl rfl dX8_wants_37 ?_
    refine R_getP (pc := 38) (q' := 2) lM_0 rfl flX8_13 dX8_wants_38 ?_
    refine R_iconst (pc := 41) (by decide) dX8_wants_41 ?_
    have g0 : (0 : Int) ≤ 2 := by decide
    have g1 : (2 : Int) < 26 := by decide
    refine R_iaload (pc := 42) lM_2 g0 g1 dX8_wants_42 ?_
    refine R_callV0 (pc := 43) (as := [vI x3, vI (σ 2 2)]) (st := []) rfl rfl kX8_gives sX8_gives lM_0 rfl w_5_37 (ltb rfl) rfl (leb rfl) dX8_wants_43 h (fun σ1 h => ?_)
    refine R_aload_n (pc := 46) 0 rfl rfl dX8_wants_46 ?_
    refine R_getP (pc := 47) (q' := 7) lM_0 rfl flX8_30 dX8_wants_47 ?_
    refine R_iload_n (pc := 50) 1 rfl rfl dX8_wants_50 ?_
    obtain ⟨g0, g1, h⟩ := h
    refine R_iaload (pc := 51) lM_7 g0 g1 dX8_wants_51 ?_
    refine R_iload_n (pc := 52) 2 rfl rfl dX8_wants_52 ?_
    refine R_icmp_lt (pc := 53) (tgt := 58) (by decide) dX8_wants_53 (fun c => ?_) (fun c => ?_)
    · have h := h.1 c
      obtain ⟨g, h⟩ := h
      refine R_iinc (pc := 58) 3 rfl rfl g (ls' := [(3, vI (x3 + 1)), (0, vP 0), (1, vI x1), (2, vI x2)]) rfl (ltb rfl) dX8_wants_58 ?_
      refine R_goto (pc := 61) (tgt := 28) (by decide) dX8_wants_61 ?_
      refine R_sub [1, 2, 3, 0] rfl ?_
      exact h
    · have h := h.2 c
      refine R_iload_n (pc := 56) 3 rfl rfl dX8_wants_56 ?_
      exact R_iret (pc := 57) rfl dX8_wants_57 ⟨_, rfl, h⟩
theorem X8_wants_E {x1 x2 : Int} {σ : Mem} {Q : Int → Mem → Prop} (h : CI layM MX8_isHeir [vP 0, vI x1] σ (fun r2 σ1 => ((r2 = 0 → Q (-1) σ1) ∧ (r2 ≠ 0 → CI layM MX8_in [vJ x2, vJ 0, vJ 999] σ1 (fun r4 σ3 => ((r4 ≠ 0 → CV layM MX8_starts [vP 0] σ3 (fun σ5 => LX8_wants_28 x1 x2 0 σ5 Q)) ∧ (r4 = 0 → Q (-1) σ3))))))) : CI layM MX8_wants [vP 0, vI x1, vI x2] σ Q := by
  refine Cl.ofR (ls := [(0, vP 0), (1, vI x1), (2, vI x2)]) (show plainName RX8 = true by decide +kernel) (leb rfl) rfl ?_
  refine R_aload_n (pc := 0) 0 rfl rfl dX8_wants_0 ?_
  refine R_iload_n (pc := 1) 1 rfl rfl dX8_wants_1 ?_
  refine R_callVI (pc := 2) (as := [vI x1]) (st := []) rfl rfl kX8_isHeir sX8_isHeir lM_0 rfl w_5_61 (ltb rfl) rfl (leb rfl) dX8_wants_2 h (fun r2 σ1 h => ?_)
  refine R_if_eq (pc := 5) (tgt := 20) (by decide) dX8_wants_5 (fun c => ?_) (fun c => ?_)
  · have h := h.1 c
    refine R_iconst (pc := 20) (by decide) dX8_wants_20 ?_
    exact R_iret (pc := 21) rfl dX8_wants_21 ⟨_, rfl, h⟩
  · have h := h.2 c
    refine R_iload_n (pc := 8) 2 rfl rfl dX8_wants_8 ?_
    refine R_i2l (pc := 9) dX8_wants_9 ?_
    refine R_lconst (pc := 10) (x := 0) rfl dX8_wants_10 ?_
    refine R_ldc2 (pc := 11) (x := 999) w_5_109 (by decide) dX8_wants_11 ?_
    refine R_callSI (pc := 14) (as := [vJ x2, vJ 0, vJ 999]) (st := []) rfl rfl kX8_in sX8_in w_4_210 (ltb rfl) rfl (leb rfl) dX8_wants_14 h (fun r4 σ3 h => ?_)
    refine R_if_ne (pc := 17) (tgt := 22) (by decide) dX8_wants_17 (fun c => ?_) (fun c => ?_)
    · have h := h.1 c
      refine R_aload_n (pc := 22) 0 rfl rfl dX8_wants_22 ?_
      refine R_callV0 (pc := 23) (as := []) (st := []) rfl rfl kX8_starts sX8_starts lM_0 rfl w_5_25 (ltb rfl) rfl (leb rfl) dX8_wants_23 h (fun σ5 h => ?_)
      refine R_iconst (pc := 26) (by decide) dX8_wants_26 ?_
      refine R_istore_n (pc := 27) (ls' := [(3, vI 0), (0, vP 0), (1, vI x1), (2, vI x2)]) rfl rfl (ltb rfl) dX8_wants_27 ?_
      refine R_sub [1, 2, 3, 0] rfl ?_
      exact h
    · have h := h.2 c
      refine R_iconst (pc := 20) (by decide) dX8_wants_20 ?_
      exact R_iret (pc := 21) rfl dX8_wants_21 ⟨_, rfl, h⟩
theorem X8_will_E {x1 x2 x3 x4 : Int} {σ : Mem} {Q : Int → Mem → Prop} (h : CI layM MX8_isWill [vI x1, vI x2] σ (fun r2 σ1 => ((r2 = 0 → Q (-1) σ1) ∧ (r2 ≠ 0 → ((x3 < 0 → Q (-1) σ1) ∧ (0 ≤ x3 → I32 (x1 - 1) ∧ CI layM MX8_in [vJ x4, vJ 0, vJ (x1 - 1)] σ1 (fun r4 σ3 => ((r4 ≠ 0 → CI layM MX8_walksWills [vP 0, vI x1, vI x2, vI x3] σ3 (fun r6 σ5 => ((r6 = 0 → Q (-4) σ5) ∧ (r6 ≠ 0 → 0 ≤ x4 ∧ x4 < 4 ∧ 0 ≤ σ5 10 x4 ∧ σ5 10 x4 < 64 ∧ Q (σ5 9 (σ5 10 x4)) σ5)))) ∧ (r4 = 0 → Q (-1) σ3))))))))) : CI layM MX8_will [vP 0, vI x1, vI x2, vI x3, vI x4] σ Q := by
  refine Cl.ofR (ls := [(0, vP 0), (1, vI x1), (2, vI x2), (3, vI x3), (4, vI x4)]) (show plainName RX8 = true by decide +kernel) (leb rfl) rfl ?_
  refine R_iload_n (pc := 0) 1 rfl rfl dX8_will_0 ?_
  refine R_iload_n (pc := 1) 2 rfl rfl dX8_will_1 ?_
  refine R_callSI (pc := 2) (as := [vI x1, vI x2]) (st := []) rfl rfl kX8_isWill sX8_isWill w_5_145 (ltb rfl) rfl (leb rfl) dX8_will_2 h (fun r2 σ1 h => ?_)
  refine R_if_eq (pc := 5) (tgt := 26) (by decide) dX8_will_5 (fun c => ?_) (fun c => ?_)
  · have h := h.1 c
    refine R_iconst (pc := 26) (by decide) dX8_will_26 ?_
    exact R_iret (pc := 27) rfl dX8_will_27 ⟨_, rfl, h⟩
  · have h := h.2 c
    refine R_iload_n (pc := 8) 3 rfl rfl dX8_will_8 ?_
    refine R_if_lt (pc := 9) (tgt := 26) (by decide) dX8_will_9 (fun c => ?_) (fun c => ?_)
    · have h := h.1 c
      refine R_iconst (pc := 26) (by decide) dX8_will_26 ?_
      exact R_iret (pc := 27) rfl dX8_will_27 ⟨_, rfl, h⟩
    · have h := h.2 c
      refine R_iload (pc := 12) 4 rfl dX8_will_12 ?_
      refine R_i2l (pc := 14) dX8_will_14 ?_
      refine R_lconst (pc := 15) (x := 0) rfl dX8_will_15 ?_
      refine R_iload_n (pc := 16) 1 rfl rfl dX8_will_16 ?_
      refine R_iconst (pc := 17) (by decide) dX8_will_17 ?_
      obtain ⟨g, h⟩ := h
      refine R_isub (pc := 18) g dX8_will_18 ?_
      refine R_i2l (pc := 19) dX8_will_19 ?_
      refine R_callSI (pc := 20) (as := [vJ x4, vJ 0, vJ (x1 - 1)]) (st := []) rfl rfl kX8_in sX8_in w_4_210 (ltb rfl) rfl (leb rfl) dX8_will_20 h (fun r4 σ3 h => ?_)
      refine R_if_ne (pc := 23) (tgt := 28) (by decide) dX8_will_23 (fun c => ?_) (fun c => ?_)
      · have h := h.1 c
        refine R_aload_n (pc := 28) 0 rfl rfl dX8_will_28 ?_
        refine R_iload_n (pc := 29) 1 rfl rfl dX8_will_29 ?_
        refine R_iload_n (pc := 30) 2 rfl rfl dX8_will_30 ?_
        refine R_iload_n (pc := 31) 3 rfl rfl dX8_will_31 ?_
        refine R_callVI (pc := 32) (as := [vI x1, vI x2, vI x3]) (st := []) rfl rfl kX8_walksWills sX8_walksWills lM_0 rfl w_5_149 (ltb rfl) rfl (leb rfl) dX8_will_32 h (fun r6 σ5 h => ?_)
        refine R_if_eq (pc := 35) (tgt := 53) (by decide) dX8_will_35 (fun c => ?_) (fun c => ?_)
        · have h := h.1 c
          refine R_bipush (pc := 53) (by decide) dX8_will_53 ?_
          exact R_iret (pc := 55) rfl dX8_will_55 ⟨_, rfl, h⟩
        · have h := h.2 c
          refine R_aload_n (pc := 38) 0 rfl rfl dX8_will_38 ?_
          refine R_getP (pc := 39) (q' := 9) lM_0 rfl flX8_36 dX8_will_39 ?_
          refine R_aload_n (pc := 42) 0 rfl rfl dX8_will_42 ?_
          refine R_getP (pc := 43) (q' := 10) lM_0 rfl flX8_39 dX8_will_43 ?_
          refine R_iload (pc := 46) 4 rfl dX8_will_46 ?_
          obtain ⟨g0, g1, h⟩ := h
          refine R_iaload (pc := 48) lM_10 g0 g1 dX8_will_48 ?_
          obtain ⟨g0, g1, h⟩ := h
          refine R_iaload (pc := 49) lM_9 g0 g1 dX8_will_49 ?_
          refine R_goto (pc := 50) (tgt := 55) (by decide) dX8_will_50 ?_
          exact R_iret (pc := 55) rfl dX8_will_55 ⟨_, rfl, h⟩
      · have h := h.2 c
        refine R_iconst (pc := 26) (by decide) dX8_will_26 ?_
        exact R_iret (pc := 27) rfl dX8_will_27 ⟨_, rfl, h⟩
theorem X8_wills_E {x1 x2 : Int} {σ : Mem} {Q : Int → Mem → Prop} (h : CI layM MX8_isWill [vI x1, vI x2] σ (fun r2 σ1 => ((r2 ≠ 0 → CI layM MX8_walksWills [vP 0, vI x1, vI x2, vI (-4)] σ1 (fun r4 σ3 => Q (σ3 0 22) σ3)) ∧ (r2 = 0 → Q (-1) σ1)))) : CI layM MX8_wills [vP 0, vI x1, vI x2] σ Q := by
  refine Cl.ofR (ls := [(0, vP 0), (1, vI x1), (2, vI x2)]) (show plainName RX8 = true by decide +kernel) (leb rfl) rfl ?_
  refine R_iload_n (pc := 0) 1 rfl rfl dX8_wills_0 ?_
  refine R_iload_n (pc := 1) 2 rfl rfl dX8_wills_1 ?_
  refine R_callSI (pc := 2) (as := [vI x1, vI x2]) (st := []) rfl rfl kX8_isWill sX8_isWill w_5_145 (ltb rfl) rfl (leb rfl) dX8_wills_2 h (fun r2 σ1 h => ?_)
  refine R_if_ne (pc := 5) (tgt := 10) (by decide) dX8_wills_5 (fun c => ?_) (fun c => ?_)
  · have h := h.1 c
    refine R_aload_n (pc := 10) 0 rfl rfl dX8_wills_10 ?_
    refine R_iload_n (pc := 11) 1 rfl rfl dX8_wills_11 ?_
    refine R_iload_n (pc := 12) 2 rfl rfl dX8_wills_12 ?_
    refine R_bipush (pc := 13) (by decide) dX8_wills_13 ?_
    refine R_callVI (pc := 15) (as := [vI x1, vI x2, vI (-4)]) (st := []) rfl rfl kX8_walksWills sX8_walksWills lM_0 rfl w_5_149 (ltb rfl) rfl (leb rfl) dX8_wills_15 h (fun r4 σ3 h => ?_)
    refine R_pop (pc := 18) rfl dX8_wills_18 ?_
    refine R_aload_n (pc := 19) 0 rfl rfl dX8_wills_19 ?_
    refine R_getI (pc := 20) lM_0 rfl flX8_219 dX8_wills_20 ?_
    exact R_iret (pc := 23) rfl dX8_wills_23 ⟨_, rfl, h⟩
  · have h := h.2 c
    refine R_iconst (pc := 8) (by decide) dX8_wills_8 ?_
    exact R_iret (pc := 9) rfl dX8_wills_9 ⟨_, rfl, h⟩
def LX8_ask_17 (x1 : Int) (x2 : Int) (x3 : Int) (x4 : Int) (σ : Mem) (Q : Int → Mem → Prop) : Prop := Rn layM MX8_ask 17 [(0, vP 0), (1, vI x1), (2, vI x2), (3, vI x3), (4, vI x4)] [] σ (qI Q)
def LX8_ask_46 (x1 : Int) (x2 : Int) (x3 : Int) (x4 : Int) (σ : Mem) (Q : Int → Mem → Prop) : Prop := Rn layM MX8_ask 46 [(0, vP 0), (1, vI x1), (2, vI x2), (3, vI x3), (4, vI x4)] [] σ (qI Q)
def LX8_ask_69 (x1 : Int) (x2 : Int) (x3 : Int) (x4 : Int) (x5 : Int) (σ : Mem) (Q : Int → Mem → Prop) : Prop := Rn layM MX8_ask 69 [(0, vP 0), (1, vI x1), (2, vI x2), (3, vI x3), (4, vI x4), (5, vI x5)] [] σ (qI Q)
def LX8_ask_118 (x1 : Int) (x2 : Int) (x3 : Int) (x4 : Int) (σ : Mem) (Q : Int → Mem → Prop) : Prop := Rn layM MX8_ask 118 [(0, vP 0), (1, vI x1), (2, vI x2), (3, vI x3), (4, vI x4)] [] σ (qI Q)
def LX8_ask_135 (x1 : Int) (x2 : Int) (x3 : Int) (x4 : Int) (x5 : Int) (x6 : Int) (σ : Mem) (Q : Int → Mem → Prop) : Prop := Rn layM MX8_ask 135 [(0, vP 0), (1, vI x1), (2, vI x2), (3, vI x3), (4, vI x4), (5, vI x5), (6, vI x6)] [] σ (qI Q)
theorem X8_ask_17 {x1 x2 x3 x4 : Int} {σ : Mem} {Q : Int → Mem → Prop} (h : ((1005 ≤ x4 → CV layM MX8_starts [vP 0] σ (fun σ1 => LX8_ask_46 x1 x2 x3 0 σ1 Q)) ∧ (x4 < 1005 → 0 ≤ x4 ∧ x4 < 1005 ∧ I32 (x4 + 1) ∧ LX8_ask_17 x1 x2 x3 (x4 + 1) (upM σ 12 x4 0) Q))) : LX8_ask_17 x1 x2 x3 x4 σ Q := by
  unfold LX8_ask_17
  refine R_iload (pc := 17) 4 rfl dX8_ask_17 ?_
  refine R_sipush (pc := 19) (by decide) dX8_ask_19 ?_
  refine R_icmp_ge (pc := 22) (tgt := 39) (by decide) dX8_ask_22 (fun c => ?_) (fun c => ?_)
  · have h := h.1 c
    refine R_aload_n (pc := 39) 0 rfl rfl dX8_ask_39 ?_
    refine R_callV0 (pc := 40) (as := []) (st := []) rfl rfl kX8_starts sX8_starts lM_0 rfl w_5_25 (ltb rfl) rfl (leb rfl) dX8_ask_40 h (fun σ1 h => ?_)
    refine R_iconst (pc := 43) (by decide) dX8_ask_43 ?_
    refine R_istore (pc := 44) (ls' := [(4, vI 0), (0, vP 0), (1, vI x1), (2, vI x2), (3, vI x3)]) rfl (ltb rfl) dX8_ask_44 ?_
    refine R_sub [1, 2, 3, 4, 0] rfl ?_
    exact h
  · have h := h.2 c
    refine R_aload_n (pc := 25) 0 rfl rfl dX8_ask_25 ?_
    refine R_getP (pc := 26) (q' := 12) lM_0 rfl flX8_45 dX8_ask_26 ?_
    refine R_iload (pc := 29) 4 rfl dX8_ask_29 ?_
    refine R_iconst (pc := 31) (by decide) dX8_ask_31 ?_
    obtain ⟨g0, g1, h⟩ := h
    refine R_iastore (pc := 32) lM_12 g0 g1 dX8_ask_32 ?_
    obtain ⟨g, h⟩ := h
    refine R_iinc (pc := 33) 4 rfl rfl g (ls' := [(4, vI (x4 + 1)), (0, vP 0), (1, vI x1), (2, vI x2), (3, vI x3)]) rfl (ltb rfl) dX8_ask_33 ?_
    refine R_goto (pc := 36) (tgt := 17) (by decide) dX8_ask_36 ?_
    refine R_sub [1, 2, 3, 4, 0] rfl ?_
    exact h
theorem X8_ask_46 {x1 x2 x3 x4 : Int} {σ : Mem} {Q : Int → Mem → Prop} (h : ((200 < x4 → LX8_ask_118 x1 x2 x3 0 σ Q) ∧ (x4 ≤ 200 → CI layM MX8_isHerdSo [vP 0, vI x4] σ (fun r2 σ1 => ((r2 = 0 → I32 (x4 + 1) ∧ LX8_ask_46 x1 x2 x3 (x4 + 1) σ1 Q) ∧ (r2 ≠ 0 → I32 (x2 + 1) ∧ LX8_ask_69 x1 (x2 + 1) x3 x4 0 σ1 Q)))))) : LX8_ask_46 x1 x2 x3 x4 σ Q := by
  unfold LX8_ask_46
  refine R_iload (pc := 46) 4 rfl dX8_ask_46 ?_
  refine R_sipush (pc := 48) (by decide) dX8_ask_48 ?_
  refine R_icmp_gt (pc := 51) (tgt := 115) (by decide) dX8_ask_51 (fun c => ?_) (fun c => ?_)
  · have h := h.1 c
    refine R_iconst (pc := 115) (by decide) dX8_ask_115 ?_
    refine R_istore (pc := 116) (ls' := [(4, vI 0), (0, vP 0), (1, vI x1), (2, vI x2), (3, vI x3)]) rfl (ltb rfl) dX8_ask_116 ?_
    refine R_sub [1, 2, 3, 4, 0] rfl ?_
    exact h
  · have h := h.2 c
    refine R_aload_n (pc := 54) 0 rfl rfl dX8_ask_54 ?_
    refine R_iload (pc := 55) 4 rfl dX8_ask_55 ?_
    refine R_callVI (pc := 57) (as := [vI x4]) (st := []) rfl rfl kX8_isHerdSo sX8_isHerdSo lM_0 rfl w_5_233 (ltb rfl) rfl (leb rfl) dX8_ask_57 h (fun r2 σ1 h => ?_)
    refine R_if_eq (pc := 60) (tgt := 109) (by decide) dX8_ask_60 (fun c => ?_) (fun c => ?_)
    · have h := h.1 c
      obtain ⟨g, h⟩ := h
      refine R_iinc (pc := 109) 4 rfl rfl g (ls' := [(4, vI (x4 + 1)), (0, vP 0), (1, vI x1), (2, vI x2), (3, vI x3)]) rfl (ltb rfl) dX8_ask_109 ?_
      refine R_goto (pc := 112) (tgt := 46) (by decide) dX8_ask_112 ?_
      refine R_sub [1, 2, 3, 4, 0] rfl ?_
      exact h
    · have h := h.2 c
      obtain ⟨g, h⟩ := h
      refine R_iinc (pc := 63) 2 rfl rfl g (ls' := [(2, vI (x2 + 1)), (0, vP 0), (1, vI x1), (3, vI x3), (4, vI x4)]) rfl (ltb rfl) dX8_ask_63 ?_
      refine R_iconst (pc := 66) (by decide) dX8_ask_66 ?_
      refine R_istore (pc := 67) (ls' := [(5, vI 0), (2, vI (x2 + 1)), (0, vP 0), (1, vI x1), (3, vI x3), (4, vI x4)]) rfl (ltb rfl) dX8_ask_67 ?_
      refine R_sub [2, 3, 1, 4, 5, 0] rfl ?_
      exact h
theorem X8_ask_69 {x1 x2 x3 x4 x5 : Int} {σ : Mem} {Q : Int → Mem → Prop} (h : (((σ 2 1) ≤ x5 → I32 (x4 + 1) ∧ LX8_ask_46 x1 x2 x3 (x4 + 1) σ Q) ∧ (x5 < (σ 2 1) → I32 (201 * x5) ∧ 0 ≤ x5 ∧ x5 < 5 ∧ I32 ((201 * x5) + (σ 7 x5)) ∧ 0 ≤ (201 * x5) + (σ 7 x5) ∧ (201 * x5) + (σ 7 x5) < 1005 ∧ I32 ((σ 12 ((201 * x5) + (σ 7 x5))) + 1) ∧ 0 ≤ (201 * x5) + (σ 7 x5) ∧ (201 * x5) + (σ 7 x5) < 1005 ∧ I32 (x5 + 1) ∧ LX8_ask_69 x1 x2 x3 x4 (x5 + 1) (upM σ 12 ((201 * x5) + (σ 7 x5)) ((σ 12 ((201 * x5) + (σ 7 x5))) + 1)) Q))) : LX8_ask_69 x1 x2 x3 x4 x5 σ Q := by
  unfold LX8_ask_69
  refine R_iload (pc := 69) 5 rfl dX8_ask_69 ?_
  refine R_aload_n (pc := 71) 0 rfl rfl dX8_ask_71 ?_
  refine R_getP (pc := 72) (q' := 2) lM_0 rfl flX8_13 dX8_ask_72 ?_
  refine R_iconst (pc := 75) (by decide) dX8_ask_75 ?_
  have g0 : (0 : Int) ≤ 1 := by decide
  have g1 : (1 : Int) < 26 := by decide
  refine R_iaload (pc := 76) lM_2 g0 g1 dX8_ask_76 ?_
  refine R_icmp_ge (pc := 77) (tgt := 109) (by decide) dX8_ask_77 (fun c => ?_) (fun c => ?_)
  · have h := h.1 c
    obtain ⟨g, h⟩ := h
    refine R_iinc (pc := 109) 4 rfl rfl g (ls' := [(4, vI (x4 + 1)), (0, vP 0), (1, vI x1), (2, vI x2), (3, vI x3), (5, vI x5)]) rfl (ltb rfl) dX8_ask_109 ?_
    refine R_goto (pc := 112) (tgt := 46) (by decide) dX8_ask_112 ?_
    refine R_sub [1, 2, 3, 4, 0] rfl ?_
    exact h
  · have h := h.2 c
    refine R_aload_n (pc := 80) 0 rfl rfl dX8_ask_80 ?_
    refine R_getP (pc := 81) (q' := 12) lM_0 rfl flX8_45 dX8_ask_81 ?_
    refine R_sipush (pc := 84) (by decide) dX8_ask_84 ?_
    refine R_iload (pc := 87) 5 rfl dX8_ask_87 ?_
    obtain ⟨g, h⟩ := h
    refine R_imul (pc := 89) g dX8_ask_89 ?_
    refine R_aload_n (pc := 90) 0 rfl rfl dX8_ask_90 ?_
    refine R_getP (pc := 91) (q' := 7) lM_0 rfl flX8_30 dX8_ask_91 ?_
    refine R_iload (pc := 94) 5 rfl dX8_ask_94 ?_
    obtain ⟨g0, g1, h⟩ := h
    refine R_iaload (pc := 96) lM_7 g0 g1 dX8_ask_96 ?_
    obtain ⟨g, h⟩ := h
    refine R_iadd (pc := 97) g dX8_ask_97 ?_
    refine R_dup2 (pc := 98) rfl rfl dX8_ask_98 ?_
    obtain ⟨g0, g1, h⟩ := h
    refine R_iaload (pc := 99) lM_12 g0 g1 dX8_ask_99 ?_
    refine R_iconst (pc := 100) (by decide) dX8_ask_100 ?_
    obtain ⟨g, h⟩ := h
    refine R_iadd (pc := 101) g dX8_ask_101 ?_
    obtain ⟨g0, g1, h⟩ := h
    refine R_iastore (pc := 102) lM_12 g0 g1 dX8_ask_102 ?_
    obtain ⟨g, h⟩ := h
    refine R_iinc (pc := 103) 5 rfl rfl g (ls' := [(5, vI (x5 + 1)), (0, vP 0), (1, vI x1), (2, vI x2), (3, vI x3), (4, vI x4)]) rfl (ltb rfl) dX8_ask_103 ?_
    refine R_goto (pc := 106) (tgt := 69) (by decide) dX8_ask_106 ?_
    refine R_sub [1, 2, 3, 4, 5, 0] rfl ?_
    exact h
theorem X8_ask_118 {x1 x2 x3 x4 : Int} {σ : Mem} {Q : Int → Mem → Prop} (h : (((σ 2 1) ≤ x4 → ((x3 ≠ (-4) → ((x1 ≠ 0 → Q x2 σ) ∧ (x1 = 0 → Q x3 σ))) ∧ (x3 = (-4) → Q (-4) σ))) ∧ (x4 < (σ 2 1) → LX8_ask_135 x1 x2 x3 x4 0 0 σ Q))) : LX8_ask_118 x1 x2 x3 x4 σ Q := by
  unfold LX8_ask_118
  refine R_iload (pc := 118) 4 rfl dX8_ask_118 ?_
  refine R_aload_n (pc := 120) 0 rfl rfl dX8_ask_120 ?_
  refine R_getP (pc := 121) (q' := 2) lM_0 rfl flX8_13 dX8_ask_121 ?_
  refine R_iconst (pc := 124) (by decide) dX8_ask_124 ?_
  have g0 : (0 : Int) ≤ 1 := by decide
  have g1 : (1 : Int) < 26 := by decide
  refine R_iaload (pc := 125) lM_2 g0 g1 dX8_ask_125 ?_
  refine R_icmp_ge (pc := 126) (tgt := 221) (by decide) dX8_ask_126 (fun c => ?_) (fun c => ?_)
  · have h := h.1 c
    refine R_iload_n (pc := 221) 3 rfl rfl dX8_ask_221 ?_
    refine R_bipush (pc := 222) (by decide) dX8_ask_222 ?_
    refine R_icmp_ne (pc := 224) (tgt := 232) (by decide) dX8_ask_224 (fun c => ?_) (fun c => ?_)
    · have h := h.1 c
      refine R_iload_n (pc := 232) 1 rfl rfl dX8_ask_232 ?_
      refine R_if_ne (pc := 233) (tgt := 240) (by decide) dX8_ask_233 (fun c => ?_) (fun c => ?_)
      · have h := h.1 c
        refine R_iload_n (pc := 240) 2 rfl rfl dX8_ask_240 ?_
        exact R_iret (pc := 241) rfl dX8_ask_241 ⟨_, rfl, h⟩
      · have h := h.2 c
        refine R_iload_n (pc := 236) 3 rfl rfl dX8_ask_236 ?_
        refine R_goto (pc := 237) (tgt := 241) (by decide) dX8_ask_237 ?_
        exact R_iret (pc := 241) rfl dX8_ask_241 ⟨_, rfl, h⟩
    · have h := h.2 c
      refine R_bipush (pc := 227) (by decide) dX8_ask_227 ?_
      refine R_goto (pc := 229) (tgt := 241) (by decide) dX8_ask_229 ?_
      exact R_iret (pc := 241) rfl dX8_ask_241 ⟨_, rfl, h⟩
  · have h := h.2 c
    refine R_iconst (pc := 129) (by decide) dX8_ask_129 ?_
    refine R_istore (pc := 130) (ls' := [(5, vI 0), (0, vP 0), (1, vI x1), (2, vI x2), (3, vI x3), (4, vI x4)]) rfl (ltb rfl) dX8_ask_130 ?_
    refine R_iconst (pc := 132) (by decide) dX8_ask_132 ?_
    refine R_istore (pc := 133) (ls' := [(6, vI 0), (5, vI 0), (0, vP 0), (1, vI x1), (2, vI x2), (3, vI x3), (4, vI x4)]) rfl (ltb rfl) dX8_ask_133 ?_
    refine R_sub [2, 3, 4, 5, 6, 1, 0] rfl ?_
    exact h
theorem X8_ask_135 {x1 x2 x3 x4 x5 x6 : Int} {σ : Mem} {Q : Int → Mem → Prop} (h : ((200 < x6 → ((x2 ≤ x5 → ((x2 ≤ x5 → I32 (x4 + 1) ∧ LX8_ask_118 x1 x2 x3 (x4 + 1) σ Q) ∧ (x5 < x2 → I32 (x4 + 1) ∧ LX8_ask_118 x1 x5 x3 (x4 + 1) σ Q))) ∧ (x5 < x2 → ((x2 ≤ x5 → I32 (x4 + 1) ∧ LX8_ask_118 x1 x2 x4 (x4 + 1) σ Q) ∧ (x5 < x2 → I32 (x4 + 1) ∧ LX8_ask_118 x1 x5 x4 (x4 + 1) σ Q))))) ∧ (x6 ≤ 200 → I32 (201 * x4) ∧ I32 ((201 * x4) + x6) ∧ 0 ≤ (201 * x4) + x6 ∧ (201 * x4) + x6 < 1005 ∧ (((σ 12 ((201 * x4) + x6)) ≤ x5 → I32 (x6 + 1) ∧ LX8_ask_135 x1 x2 x3 x4 x5 (x6 + 1) σ Q) ∧ (x5 < (σ 12 ((201 * x4) + x6)) → I32 (201 * x4) ∧ I32 ((201 * x4) + x6) ∧ 0 ≤ (201 * x4) + x6 ∧ (201 * x4) + x6 < 1005 ∧ I32 (x6 + 1) ∧ LX8_ask_135 x1 x2 x3 x4 (σ 12 ((201 * x4) + x6)) (x6 + 1) σ Q))))) : LX8_ask_135 x1 x2 x3 x4 x5 x6 σ Q := by
  unfold LX8_ask_135
  refine R_iload (pc := 135) 6 rfl dX8_ask_135 ?_
  refine R_sipush (pc := 137) (by decide) dX8_ask_137 ?_
  refine R_icmp_gt (pc := 140) (tgt := 189) (by decide) dX8_ask_140 (fun c => ?_) (fun c => ?_)
  · have h := h.1 c
    refine R_iload (pc := 189) 5 rfl dX8_ask_189 ?_
    refine R_iload_n (pc := 191) 2 rfl rfl dX8_ask_191 ?_
    refine R_icmp_ge (pc := 192) (tgt := 200) (by decide) dX8_ask_192 (fun c => ?_) (fun c => ?_)
    · have h := h.1 c
      refine R_iload_n (pc := 200) 3 rfl rfl dX8_ask_200 ?_
      refine R_istore_n (pc := 201) (ls' := [(3, vI x3), (0, vP 0), (1, vI x1), (2, vI x2), (4, vI x4), (5, vI x5), (6, vI x6)]) rfl rfl (ltb rfl) dX8_ask_201 ?_
      refine R_iload (pc := 202) 5 rfl dX8_ask_202 ?_
      refine R_iload_n (pc := 204) 3 rfl rfl dX8_ask_204 ?_
      refine R_icmp_ge (pc := 205) (tgt := 213) (by decide) dX8_ask_205 (fun c => ?_) (fun c => ?_)
      · have h := h.1 c
        refine R_iload_n (pc := 213) 3 rfl rfl dX8_ask_213 ?_
        refine R_istore_n (pc := 214) (ls' := [(2, vI x2), (3, vI x3), (0, vP 0), (1, vI x1), (4, vI x4), (5, vI x5), (6, vI x6)]) rfl rfl (ltb rfl) dX8_ask_214 ?_
        obtain ⟨g, h⟩ := h
        refine R_iinc (pc := 215) 4 rfl rfl g (ls' := [(4, vI (x4 + 1)), (2, vI x2), (3, vI x3), (0, vP 0), (1, vI x1), (5, vI x5), (6, vI x6)]) rfl (ltb rfl) dX8_ask_215 ?_
        refine R_goto (pc := 218) (tgt := 118) (by decide) dX8_ask_218 ?_
        refine R_sub [3, 4, 1, 2, 0] rfl ?_
        exact h
      · have h := h.2 c
        refine R_iload (pc := 208) 5 rfl dX8_ask_208 ?_
        refine R_goto (pc := 210) (tgt := 214) (by decide) dX8_ask_210 ?_
        refine R_istore_n (pc := 214) (ls' := [(2, vI x5), (3, vI x3), (0, vP 0), (1, vI x1), (4, vI x4), (5, vI x5), (6, vI x6)]) rfl rfl (ltb rfl) dX8_ask_214 ?_
        obtain ⟨g, h⟩ := h
        refine R_iinc (pc := 215) 4 rfl rfl g (ls' := [(4, vI (x4 + 1)), (2, vI x5), (3, vI x3), (0, vP 0), (1, vI x1), (5, vI x5), (6, vI x6)]) rfl (ltb rfl) dX8_ask_215 ?_
        refine R_goto (pc := 218) (tgt := 118) (by decide) dX8_ask_218 ?_
        refine R_sub [3, 4, 1, 2, 0] rfl ?_
        exact h
    · have h := h.2 c
      refine R_iload (pc := 195) 4 rfl dX8_ask_195 ?_
      refine R_goto (pc := 197) (tgt := 201) (by decide) dX8_ask_197 ?_
      refine R_istore_n (pc := 201) (ls' := [(3, vI x4), (0, vP 0), (1, vI x1), (2, vI x2), (4, vI x4), (5, vI x5), (6, vI x6)]) rfl rfl (ltb rfl) dX8_ask_201 ?_
      refine R_iload (pc := 202) 5 rfl dX8_ask_202 ?_
      refine R_iload_n (pc := 204) 3 rfl rfl dX8_ask_204 ?_
      refine R_icmp_ge (pc := 205) (tgt := 213) (by decide) dX8_ask_205 (fun c => ?_) (fun c => ?_)
      · have h := h.1 c
        refine R_iload_n (pc := 213) 3 rfl rfl dX8_ask_213 ?_
        refine R_istore_n (pc := 214) (ls' := [(2, vI x2), (3, vI x4), (0, vP 0), (1, vI x1), (4, vI x4), (5, vI x5), (6, vI x6)]) rfl rfl (ltb rfl) dX8_ask_214 ?_
        obtain ⟨g, h⟩ := h
        refine R_iinc (pc := 215) 4 rfl rfl g (ls' := [(4, vI (x4 + 1)), (2, vI x2), (3, vI x4), (0, vP 0), (1, vI x1), (5, vI x5), (6, vI x6)]) rfl (ltb rfl) dX8_ask_215 ?_
        refine R_goto (pc := 218) (tgt := 118) (by decide) dX8_ask_218 ?_
        refine R_sub [3, 4, 1, 2, 0] rfl ?_
        exact h
      · have h := h.2 c
        refine R_iload (pc := 208) 5 rfl dX8_ask_208 ?_
        refine R_goto (pc := 210) (tgt := 214) (by decide) dX8_ask_210 ?_
        refine R_istore_n (pc := 214) (ls' := [(2, vI x5), (3, vI x4), (0, vP 0), (1, vI x1), (4, vI x4), (5, vI x5), (6, vI x6)]) rfl rfl (ltb rfl) dX8_ask_214 ?_
        obtain ⟨g, h⟩ := h
        refine R_iinc (pc := 215) 4 rfl rfl g (ls' := [(4, vI (x4 + 1)), (2, vI x5), (3, vI x4), (0, vP 0), (1, vI x1), (5, vI x5), (6, vI x6)]) rfl (ltb rfl) dX8_ask_215 ?_
        refine R_goto (pc := 218) (tgt := 118) (by decide) dX8_ask_218 ?_
        refine R_sub [3, 4, 1, 2, 0] rfl ?_
        exact h
  · have h := h.2 c
    refine R_aload_n (pc := 143) 0 rfl rfl dX8_ask_143 ?_
    refine R_getP (pc := 144) (q' := 12) lM_0 rfl flX8_45 dX8_ask_144 ?_
    refine R_sipush (pc := 147) (by decide) dX8_ask_147 ?_
    refine R_iload (pc := 150) 4 rfl dX8_ask_150 ?_
    obtain ⟨g, h⟩ := h
    refine R_imul (pc := 152) g dX8_ask_152 ?_
    refine R_iload (pc := 153) 6 rfl dX8_ask_153 ?_
    obtain ⟨g, h⟩ := h
    refine R_iadd (pc := 155) g dX8_ask_155 ?_
    obtain ⟨g0, g1, h⟩ := h
    refine R_iaload (pc := 156) lM_12 g0 g1 dX8_ask_156 ?_
    refine R_iload (pc := 157) 5 rfl dX8_ask_157 ?_
    refine R_icmp_le (pc := 159) (tgt := 179) (by decide) dX8_ask_159 (fun c => ?_) (fun c => ?_)
    · have h := h.1 c
      refine R_iload (pc := 179) 5 rfl dX8_ask_179 ?_
      refine R_istore (pc := 181) (ls' := [(5, vI x5), (0, vP 0), (1, vI x1), (2, vI x2), (3, vI x3), (4, vI x4), (6, vI x6)]) rfl (ltb rfl) dX8_ask_181 ?_
      obtain ⟨g, h⟩ := h
      refine R_iinc (pc := 183) 6 rfl rfl g (ls' := [(6, vI (x6 + 1)), (5, vI x5), (0, vP 0), (1, vI x1), (2, vI x2), (3, vI x3), (4, vI x4)]) rfl (ltb rfl) dX8_ask_183 ?_
      refine R_goto (pc := 186) (tgt := 135) (by decide) dX8_ask_186 ?_
      refine R_sub [2, 3, 4, 5, 6, 1, 0] rfl ?_
      exact h
    · have h := h.2 c
      refine R_aload_n (pc := 162) 0 rfl rfl dX8_ask_162 ?_
      refine R_getP (pc := 163) (q' := 12) lM_0 rfl flX8_45 dX8_ask_163 ?_
      refine R_sipush (pc := 166) (by decide) dX8_ask_166 ?_
      refine R_iload (pc := 169) 4 rfl dX8_ask_169 ?_
      obtain ⟨g, h⟩ := h
      refine R_imul (pc := 171) g dX8_ask_171 ?_
      refine R_iload (pc := 172) 6 rfl dX8_ask_172 ?_
      obtain ⟨g, h⟩ := h
      refine R_iadd (pc := 174) g dX8_ask_174 ?_
      obtain ⟨g0, g1, h⟩ := h
      refine R_iaload (pc := 175) lM_12 g0 g1 dX8_ask_175 ?_
      refine R_goto (pc := 176) (tgt := 181) (by decide) dX8_ask_176 ?_
      refine R_istore (pc := 181) (ls' := [(5, vI (σ 12 ((201 * x4) + x6))), (0, vP 0), (1, vI x1), (2, vI x2), (3, vI x3), (4, vI x4), (6, vI x6)]) rfl (ltb rfl) dX8_ask_181 ?_
      obtain ⟨g, h⟩ := h
      refine R_iinc (pc := 183) 6 rfl rfl g (ls' := [(6, vI (x6 + 1)), (5, vI (σ 12 ((201 * x4) + x6))), (0, vP 0), (1, vI x1), (2, vI x2), (3, vI x3), (4, vI x4)]) rfl (ltb rfl) dX8_ask_183 ?_
      refine R_goto (pc := 186) (tgt := 135) (by decide) dX8_ask_186 ?_
      refine R_sub [2, 3, 4, 5, 6, 1, 0] rfl ?_
      exact h
theorem X8_ask_E {x1 : Int} {σ : Mem} {Q : Int → Mem → Prop} (h : CI layM MX8_isPart [vI x1] σ (fun r2 σ1 => ((r2 ≠ 0 → LX8_ask_17 x1 0 (-4) 0 σ1 Q) ∧ (r2 = 0 → Q (-1) σ1)))) : CI layM MX8_ask [vP 0, vI x1] σ Q := by
  refine Cl.ofR (ls := [(0, vP 0), (1, vI x1)]) (show plainName RX8 = true by decide +kernel) (leb rfl) rfl ?_
  refine R_iload_n (pc := 0) 1 rfl rfl dX8_ask_0 ?_
  refine R_callSI (pc := 1) (as := [vI x1]) (st := []) rfl rfl kX8_isPart sX8_isPart w_5_77 (ltb rfl) rfl (leb rfl) dX8_ask_1 h (fun r2 σ1 h => ?_)
  refine R_if_ne (pc := 4) (tgt := 9) (by decide) dX8_ask_4 (fun c => ?_) (fun c => ?_)
  · have h := h.1 c
    refine R_iconst (pc := 9) (by decide) dX8_ask_9 ?_
    refine R_istore_n (pc := 10) (ls' := [(2, vI 0), (0, vP 0), (1, vI x1)]) rfl rfl (ltb rfl) dX8_ask_10 ?_
    refine R_bipush (pc := 11) (by decide) dX8_ask_11 ?_
    refine R_istore_n (pc := 13) (ls' := [(3, vI (-4)), (2, vI 0), (0, vP 0), (1, vI x1)]) rfl rfl (ltb rfl) dX8_ask_13 ?_
    refine R_iconst (pc := 14) (by decide) dX8_ask_14 ?_
    refine R_istore (pc := 15) (ls' := [(4, vI 0), (3, vI (-4)), (2, vI 0), (0, vP 0), (1, vI x1)]) rfl (ltb rfl) dX8_ask_15 ?_
    refine R_sub [3, 4, 2, 1, 0] rfl ?_
    exact h
  · have h := h.2 c
    refine R_iconst (pc := 7) (by decide) dX8_ask_7 ?_
    exact R_iret (pc := 8) rfl dX8_ask_8 ⟨_, rfl, h⟩
