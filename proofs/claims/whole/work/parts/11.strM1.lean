def LX8_allGot_4 (x1 : Int) (x2 : Int) (σ : Mem) (Q : Int → Mem → Prop) : Prop := Rn layM MX8_allGot 4 [(0, vP 0), (1, vI x1), (2, vI x2)] [] σ (qI Q)
theorem X8_allGot_4 {x1 x2 : Int} {σ : Mem} {Q : Int → Mem → Prop} (h : (((σ 2 1) ≤ x2 → Q x1 σ) ∧ (x2 < (σ 2 1) → 0 ≤ x2 ∧ x2 < 5 ∧ I32 (x1 + (σ 7 x2)) ∧ I32 (x2 + 1) ∧ LX8_allGot_4 (x1 + (σ 7 x2)) (x2 + 1) σ Q))) : LX8_allGot_4 x1 x2 σ Q := by
  unfold LX8_allGot_4
  refine R_iload_n (pc := 4) 2 rfl rfl dX8_allGot_4 ?_
  refine R_aload_n (pc := 5) 0 rfl rfl dX8_allGot_5 ?_
  refine R_getP (pc := 6) (q' := 2) lM_0 rfl flX8_13 dX8_allGot_6 ?_
  refine R_iconst (pc := 9) (by decide) dX8_allGot_9 ?_
  have g0 : (0 : Int) ≤ 1 := by decide
  have g1 : (1 : Int) < 26 := by decide
  refine R_iaload (pc := 10) lM_2 g0 g1 dX8_allGot_10 ?_
  refine R_icmp_ge (pc := 11) (tgt := 29) (by decide) dX8_allGot_11 (fun c => ?_) (fun c => ?_)
  · have h := h.1 c
    refine R_iload_n (pc := 29) 1 rfl rfl dX8_allGot_29 ?_
    exact R_iret (pc := 30) rfl dX8_allGot_30 ⟨_, rfl, h⟩
  · have h := h.2 c
    refine R_iload_n (pc := 14) 1 rfl rfl dX8_allGot_14 ?_
    refine R_aload_n (pc := 15) 0 rfl rfl dX8_allGot_15 ?_
    refine R_getP (pc := 16) (q' := 7) lM_0 rfl flX8_30 dX8_allGot_16 ?_
    refine R_iload_n (pc := 19) 2 rfl rfl dX8_allGot_19 ?_
    obtain ⟨g0, g1, h⟩ := h
    refine R_iaload (pc := 20) lM_7 g0 g1 dX8_allGot_20 ?_
    obtain ⟨g, h⟩ := h
    refine R_iadd (pc := 21) g dX8_allGot_21 ?_
    refine R_istore_n (pc := 22) (ls' := [(1, vI (x1 + (σ 7 x2))), (0, vP 0), (2, vI x2)]) rfl rfl (ltb rfl) dX8_allGot_22 ?_
    obtain ⟨g, h⟩ := h
    refine R_iinc (pc := 23) 2 rfl rfl g (ls' := [(2, vI (x2 + 1)), (1, vI (x1 + (σ 7 x2))), (0, vP 0)]) rfl (ltb rfl) dX8_allGot_23 ?_
    refine R_goto (pc := 26) (tgt := 4) (by decide) dX8_allGot_26 ?_
    refine R_sub [2, 1, 0] rfl ?_
    exact h
theorem X8_allGot_E {σ : Mem} {Q : Int → Mem → Prop} (h : LX8_allGot_4 0 0 σ Q) : CI layM MX8_allGot [vP 0] σ Q := by
  refine Cl.ofR (ls := [(0, vP 0)]) (show plainName RX8 = true by decide +kernel) (leb rfl) rfl ?_
  refine R_iconst (pc := 0) (by decide) dX8_allGot_0 ?_
  refine R_istore_n (pc := 1) (ls' := [(1, vI 0), (0, vP 0)]) rfl rfl (ltb rfl) dX8_allGot_1 ?_
  refine R_iconst (pc := 2) (by decide) dX8_allGot_2 ?_
  refine R_istore_n (pc := 3) (ls' := [(2, vI 0), (1, vI 0), (0, vP 0)]) rfl rfl (ltb rfl) dX8_allGot_3 ?_
  refine R_sub [2, 1, 0] rfl ?_
  exact h
theorem X8_becomes_E {x1 x2 : Int} {σ : Mem} {Q : Int → Mem → Prop} (h : 0 ≤ x1 ∧ x1 < 78 ∧ 0 ≤ x1 ∧ x1 < 78 ∧ Q (σ 1 x1) (upM σ 1 x1 x2)) : CI layM MX8_becomes [vP 0, vI x1, vI x2] σ Q := by
  refine Cl.ofR (ls := [(0, vP 0), (1, vI x1), (2, vI x2)]) (show plainName RX8 = true by decide +kernel) (leb rfl) rfl ?_
  refine R_aload_n (pc := 0) 0 rfl rfl dX8_becomes_0 ?_
  refine R_getP (pc := 1) (q' := 1) lM_0 rfl flX8_7 dX8_becomes_1 ?_
  refine R_iload_n (pc := 4) 1 rfl rfl dX8_becomes_4 ?_
  obtain ⟨g0, g1, h⟩ := h
  refine R_iaload (pc := 5) lM_1 g0 g1 dX8_becomes_5 ?_
  refine R_istore_n (pc := 6) (ls' := [(3, vI (σ 1 x1)), (0, vP 0), (1, vI x1), (2, vI x2)]) rfl rfl (ltb rfl) dX8_becomes_6 ?_
  refine R_aload_n (pc := 7) 1 rfl rfl dX8_becomes_7 ?_
  refine R_getP (pc := 8) (q' := 1) lM_0 rfl flX8_7 dX8_becomes_8 ?_
  refine R_iload_n (pc := 11) 2 rfl rfl dX8_becomes_11 ?_
  refine R_iload_n (pc := 12) 3 rfl rfl dX8_becomes_12 ?_
  obtain ⟨g0, g1, h⟩ := h
  refine R_iastore (pc := 13) lM_1 g0 g1 dX8_becomes_13 ?_
  refine R_iload_n (pc := 14) 0 rfl rfl dX8_becomes_14 ?_
  exact R_iret (pc := 15) rfl dX8_becomes_15 ⟨_, rfl, h⟩
theorem X8_byteAt_E {x1 : Int} {σ : Mem} {Q : Int → Mem → Prop} (h : (((σ 0 7) ≤ x1 → Q (-1) σ) ∧ (x1 < (σ 0 7) → 0 ≤ x1 ∧ x1 < 160 ∧ Q (σ 5 x1) σ))) : CI layM MX8_byteAt [vP 0, vI x1] σ Q := by
  refine Cl.ofR (ls := [(0, vP 0), (1, vI x1)]) (show plainName RX8 = true by decide +kernel) (leb rfl) rfl ?_
  refine R_iload_n (pc := 0) 1 rfl rfl dX8_byteAt_0 ?_
  refine R_aload_n (pc := 1) 0 rfl rfl dX8_byteAt_1 ?_
  refine R_getI (pc := 2) lM_0 rfl flX8_79 dX8_byteAt_2 ?_
  refine R_icmp_ge (pc := 5) (tgt := 17) (by decide) dX8_byteAt_5 (fun c => ?_) (fun c => ?_)
  · have h := h.1 c
    refine R_iconst (pc := 17) (by decide) dX8_byteAt_17 ?_
    exact R_iret (pc := 18) rfl dX8_byteAt_18 ⟨_, rfl, h⟩
  · have h := h.2 c
    refine R_aload_n (pc := 8) 0 rfl rfl dX8_byteAt_8 ?_
    refine R_getP (pc := 9) (q' := 5) lM_0 rfl flX8_23 dX8_byteAt_9 ?_
    refine R_iload_n (pc := 12) 1 rfl rfl dX8_byteAt_12 ?_
    obtain ⟨g0, g1, h⟩ := h
    refine R_iaload (pc := 13) lM_5 g0 g1 dX8_byteAt_13 ?_
    refine R_goto (pc := 14) (tgt := 18) (by decide) dX8_byteAt_14 ?_
    exact R_iret (pc := 18) rfl dX8_byteAt_18 ⟨_, rfl, h⟩
def LX8_common_6 (x4 : Int) (x6 : Int) (σ : Mem) (Q : Int → Mem → Prop) : Prop := Rn layM MX8_common 6 [(4, vJ x4), (6, vJ x6)] [] σ (qJ Q)
theorem X8_common_6 {x4 x6 : Int} {σ : Mem} {Q : Int → Mem → Prop} (h : ((x6 = 0 → Q x4 σ) ∧ (x6 ≠ 0 → x6 ≠ 0 ∧ LX8_common_6 x6 (Int.tmod x4 x6) σ Q))) : LX8_common_6 x4 x6 σ Q := by
  unfold LX8_common_6
  refine R_lload (pc := 6) 1 rfl dX8_common_6 ?_
  refine R_lconst (pc := 8) (x := 0) rfl dX8_common_8 ?_
  refine R_lcmp_eq (pc := 9) (tgt := 31) dX8_common_9 (by decide) dX8_common_10 (fun c => ?_) (fun c => ?_)
  · have h := h.1 c
    refine R_lload (pc := 31) 0 rfl dX8_common_31 ?_
    exact R_lret (pc := 33) rfl dX8_common_33 ⟨_, rfl, h⟩
  · have h := h.2 c
    refine R_lload (pc := 13) 0 rfl dX8_common_13 ?_
    refine R_lload (pc := 15) 1 rfl dX8_common_15 ?_
    obtain ⟨g0, h⟩ := h
    refine R_lrem (pc := 17) g0 dX8_common_17 ?_
    refine R_lstore (pc := 18) (ls' := [(8, vJ (Int.tmod x4 x6)), (4, vJ x4), (6, vJ x6)]) rfl (ltb rfl) dX8_common_18 ?_
    refine R_lload (pc := 20) 2 rfl dX8_common_20 ?_
    refine R_lstore (pc := 22) (ls' := [(4, vJ x6), (8, vJ (Int.tmod x4 x6)), (6, vJ x6)]) rfl (ltb rfl) dX8_common_22 ?_
    refine R_lload (pc := 24) 1 rfl dX8_common_24 ?_
    refine R_lstore (pc := 26) (ls' := [(6, vJ (Int.tmod x4 x6)), (4, vJ x6), (8, vJ (Int.tmod x4 x6))]) rfl (ltb rfl) dX8_common_26 ?_
    refine R_goto (pc := 28) (tgt := 6) (by decide) dX8_common_28 ?_
    refine R_sub [1, 0] rfl ?_
    exact h
theorem X8_common_E {x0 x2 : Int} {σ : Mem} {Q : Int → Mem → Prop} (h : LX8_common_6 x0 x2 σ Q) : CJ layM MX8_common [vJ x0, vJ x2] σ Q := by
  refine Cl.ofR (ls := [(0, vJ x0), (2, vJ x2)]) (show plainName RX8 = true by decide +kernel) (leb rfl) rfl ?_
  refine R_lload_n (pc := 0) 0 rfl rfl dX8_common_0 ?_
  refine R_lstore (pc := 1) (ls' := [(4, vJ x0), (0, vJ x0), (2, vJ x2)]) rfl (ltb rfl) dX8_common_1 ?_
  refine R_lload_n (pc := 3) 2 rfl rfl dX8_common_3 ?_
  refine R_lstore (pc := 4) (ls' := [(6, vJ x2), (4, vJ x0), (0, vJ x0), (2, vJ x2)]) rfl (ltb rfl) dX8_common_4 ?_
  refine R_sub [1, 0] rfl ?_
  exact h
def LX8_copies_2 (x1 : Int) (x2 : Int) (x3 : Int) (σ : Mem) (Q : Mem → Prop) : Prop := Rn layM MX8_copies 2 [(0, vP 0), (1, vI x1), (2, vI x2), (3, vI x3)] [] σ (qV Q)
theorem X8_copies_2 {x1 x2 x3 : Int} {σ : Mem} {Q : Mem → Prop} (h : ((26 ≤ x3 → Q σ) ∧ (x3 < 26 → I32 (x1 + x3) ∧ I32 (x2 + x3) ∧ 0 ≤ x2 + x3 ∧ x2 + x3 < 78 ∧ 0 ≤ x1 + x3 ∧ x1 + x3 < 78 ∧ I32 (x3 + 1) ∧ LX8_copies_2 x1 x2 (x3 + 1) (upM σ 1 (x1 + x3) (σ 1 (x2 + x3))) Q))) : LX8_copies_2 x1 x2 x3 σ Q := by
  unfold LX8_copies_2
  refine R_iload_n (pc := 2) 3 rfl rfl dX8_copies_2 ?_
  refine R_bipush (pc := 3) (by decide) dX8_copies_3 ?_
  refine R_icmp_ge (pc := 5) (tgt := 30) (by decide) dX8_copies_5 (fun c => ?_) (fun c => ?_)
  · have h := h.1 c
    exact R_vret (pc := 30) rfl dX8_copies_30 ⟨rfl, h⟩
  · have h := h.2 c
    refine R_aload_n (pc := 8) 0 rfl rfl dX8_copies_8 ?_
    refine R_getP (pc := 9) (q' := 1) lM_0 rfl flX8_7 dX8_copies_9 ?_
    refine R_iload_n (pc := 12) 1 rfl rfl dX8_copies_12 ?_
    refine R_iload_n (pc := 13) 3 rfl rfl dX8_copies_13 ?_
    obtain ⟨g, h⟩ := h
    refine R_iadd (pc := 14) g dX8_copies_14 ?_
    refine R_aload_n (pc := 15) 0 rfl rfl dX8_copies_15 ?_
    refine R_getP (pc := 16) (q' := 1) lM_0 rfl flX8_7 dX8_copies_16 ?_
    refine R_iload_n (pc := 19) 2 rfl rfl dX8_copies_19 ?_
    refine R_iload_n (pc := 20) 3 rfl rfl dX8_copies_20 ?_
    obtain ⟨g, h⟩ := h
    refine R_iadd (pc := 21) g dX8_copies_21 ?_
    obtain ⟨g0, g1, h⟩ := h
    refine R_iaload (pc := 22) lM_1 g0 g1 dX8_copies_22 ?_
    obtain ⟨g0, g1, h⟩ := h
    refine R_iastore (pc := 23) lM_1 g0 g1 dX8_copies_23 ?_
    obtain ⟨g, h⟩ := h
    refine R_iinc (pc := 24) 3 rfl rfl g (ls' := [(3, vI (x3 + 1)), (0, vP 0), (1, vI x1), (2, vI x2)]) rfl (ltb rfl) dX8_copies_24 ?_
    refine R_goto (pc := 27) (tgt := 2) (by decide) dX8_copies_27 ?_
    refine R_sub [1, 2, 3, 0] rfl ?_
    exact h
theorem X8_copies_E {x1 x2 : Int} {σ : Mem} {Q : Mem → Prop} (h : LX8_copies_2 x1 x2 0 σ Q) : CV layM MX8_copies [vP 0, vI x1, vI x2] σ Q := by
  refine Cl.ofR (ls := [(0, vP 0), (1, vI x1), (2, vI x2)]) (show plainName RX8 = true by decide +kernel) (leb rfl) rfl ?_
  refine R_iconst (pc := 0) (by decide) dX8_copies_0 ?_
  refine R_istore_n (pc := 1) (ls' := [(3, vI 0), (0, vP 0), (1, vI x1), (2, vI x2)]) rfl rfl (ltb rfl) dX8_copies_1 ?_
  refine R_sub [1, 2, 3, 0] rfl ?_
  exact h
theorem X8_fault_E {σ : Mem} {Q : Int → Mem → Prop} (h : Q (σ 0 12) σ) : CI layM MX8_fault [vP 0] σ Q := by
  refine Cl.ofR (ls := [(0, vP 0)]) (show plainName RX8 = true by decide +kernel) (leb rfl) rfl ?_
  refine R_aload_n (pc := 0) 0 rfl rfl dX8_fault_0 ?_
  refine R_getI (pc := 1) lM_0 rfl flX8_83 dX8_fault_1 ?_
  exact R_iret (pc := 4) rfl dX8_fault_4 ⟨_, rfl, h⟩
def LX8_firstDraft_2 (x1 : Int) (σ : Mem) (Q : Mem → Prop) : Prop := Rn layM MX8_firstDraft 2 [(0, vP 0), (1, vI x1)] [] σ (qV Q)
theorem X8_firstDraft_2 {x1 : Int} {σ : Mem} {Q : Mem → Prop} (h : ((26 ≤ x1 → Q (upM (upM (upM σ 4 0 17) 0 4 0) 0 5 0)) ∧ (x1 < 26 → 0 ≤ x1 ∧ x1 < 26 ∧ I32 (x1 + 1) ∧ LX8_firstDraft_2 (x1 + 1) (upM σ 4 x1 0) Q))) : LX8_firstDraft_2 x1 σ Q := by
  unfold LX8_firstDraft_2
  refine R_iload_n (pc := 2) 1 rfl rfl dX8_firstDraft_2 ?_
  refine R_bipush (pc := 3) (by decide) dX8_firstDraft_3 ?_
  refine R_icmp_ge (pc := 5) (tgt := 21) (by decide) dX8_firstDraft_5 (fun c => ?_) (fun c => ?_)
  · have h := h.1 c
    refine R_aload_n (pc := 21) 0 rfl rfl dX8_firstDraft_21 ?_
    refine R_getP (pc := 22) (q' := 4) lM_0 rfl flX8_20 dX8_firstDraft_22 ?_
    refine R_iconst (pc := 25) (by decide) dX8_firstDraft_25 ?_
    refine R_bipush (pc := 26) (by decide) dX8_firstDraft_26 ?_
    have g0 : (0 : Int) ≤ 0 := by decide
    have g1 : (0 : Int) < 26 := by decide
    refine R_iastore (pc := 28) lM_4 g0 g1 dX8_firstDraft_28 ?_
    refine R_aload_n (pc := 29) 0 rfl rfl dX8_firstDraft_29 ?_
    refine R_iconst (pc := 30) (by decide) dX8_firstDraft_30 ?_
    refine R_putZ (pc := 31) (by decide) lM_0 rfl fpX8_66 dX8_firstDraft_31 ?_
    refine R_aload_n (pc := 34) 0 rfl rfl dX8_firstDraft_34 ?_
    refine R_iconst (pc := 35) (by decide) dX8_firstDraft_35 ?_
    refine R_putZ (pc := 36) (by decide) lM_0 rfl fpX8_70 dX8_firstDraft_36 ?_
    exact R_vret (pc := 39) rfl dX8_firstDraft_39 ⟨rfl, h⟩
  · have h := h.2 c
    refine R_aload_n (pc := 8) 0 rfl rfl dX8_firstDraft_8 ?_
    refine R_getP (pc := 9) (q' := 4) lM_0 rfl flX8_20 dX8_firstDraft_9 ?_
    refine R_iload_n (pc := 12) 1 rfl rfl dX8_firstDraft_12 ?_
    refine R_iconst (pc := 13) (by decide) dX8_firstDraft_13 ?_
    obtain ⟨g0, g1, h⟩ := h
    refine R_iastore (pc := 14) lM_4 g0 g1 dX8_firstDraft_14 ?_
    obtain ⟨g, h⟩ := h
    refine R_iinc (pc := 15) 1 rfl rfl g (ls' := [(1, vI (x1 + 1)), (0, vP 0)]) rfl (ltb rfl) dX8_firstDraft_15 ?_
    refine R_goto (pc := 18) (tgt := 2) (by decide) dX8_firstDraft_18 ?_
    refine R_sub [1, 0] rfl ?_
    exact h
theorem X8_firstDraft_E {σ : Mem} {Q : Mem → Prop} (h : LX8_firstDraft_2 0 σ Q) : CV layM MX8_firstDraft [vP 0] σ Q := by
  refine Cl.ofR (ls := [(0, vP 0)]) (show plainName RX8 = true by decide +kernel) (leb rfl) rfl ?_
  refine R_iconst (pc := 0) (by decide) dX8_firstDraft_0 ?_
  refine R_istore_n (pc := 1) (ls' := [(1, vI 0), (0, vP 0)]) rfl rfl (ltb rfl) dX8_firstDraft_1 ?_
  refine R_sub [1, 0] rfl ?_
  exact h
theorem X8_flag_E {x0 : Int} {σ : Mem} {Q : Int → Mem → Prop} (h : ((x0 = 0 → Q 0 σ) ∧ (x0 ≠ 0 → Q 1 σ))) : CI layM MX8_flag [vI x0] σ Q := by
  refine Cl.ofR (ls := [(0, vI x0)]) (show plainName RX8 = true by decide +kernel) (leb rfl) rfl ?_
  refine R_iload_n (pc := 0) 0 rfl rfl dX8_flag_0 ?_
  refine R_if_eq (pc := 1) (tgt := 8) (by decide) dX8_flag_1 (fun c => ?_) (fun c => ?_)
  · have h := h.1 c
    refine R_iconst (pc := 8) (by decide) dX8_flag_8 ?_
    exact R_iret (pc := 9) rfl dX8_flag_9 ⟨_, rfl, h⟩
  · have h := h.2 c
    refine R_iconst (pc := 4) (by decide) dX8_flag_4 ?_
    refine R_goto (pc := 5) (tgt := 9) (by decide) dX8_flag_5 ?_
    exact R_iret (pc := 9) rfl dX8_flag_9 ⟨_, rfl, h⟩
def LX8_givesRests_4 (x1 : Int) (x2 : Int) (x3 : Int) (σ : Mem) (Q : Mem → Prop) : Prop := Rn layM MX8_givesRests 4 [(0, vP 0), (1, vI x1), (2, vI x2), (3, vI x3)] [] σ (qV Q)
def LX8_givesRests_57 (x1 : Int) (x2 : Int) (σ : Mem) (Q : Mem → Prop) : Prop := Rn layM MX8_givesRests 57 [(0, vP 0), (1, vI x1), (2, vI x2)] [] σ (qV Q)
def LX8_givesRests_67 (x1 : Int) (x2 : Int) (x3 : Int) (x4 : Int) (σ : Mem) (Q : Mem → Prop) : Prop := Rn layM MX8_givesRests 67 [(0, vP 0), (1, vI x1), (2, vI x2), (3, vI x3), (4, vI x4)] [] σ (qV Q)
theorem X8_givesRests_4 {x1 x2 x3 : Int} {σ : Mem} {Q : Mem → Prop} (h : (((σ 2 1) ≤ x3 → LX8_givesRests_57 x1 x2 σ Q) ∧ (x3 < (σ 2 1) → 0 ≤ x3 ∧ x3 < 5 ∧ I64 (x1 * (σ 6 x3)) ∧ (σ 0 16) ≠ 0 ∧ I64 (Int.tdiv (x1 * (σ 6 x3)) (σ 0 16)) ∧ I32 (Int.tdiv (x1 * (σ 6 x3)) (σ 0 16)) ∧ 0 ≤ x3 ∧ x3 < 5 ∧ 0 ≤ x3 ∧ x3 < 5 ∧ 0 ≤ x3 ∧ x3 < 5 ∧ I32 (x2 - ((upM (upM σ 7 x3 (Int.tdiv (x1 * (σ 6 x3)) (σ 0 16))) 8 x3 0) 7 x3)) ∧ I32 (x3 + 1) ∧ LX8_givesRests_4 x1 (x2 - ((upM (upM σ 7 x3 (Int.tdiv (x1 * (σ 6 x3)) (σ 0 16))) 8 x3 0) 7 x3)) (x3 + 1) (upM (upM σ 7 x3 (Int.tdiv (x1 * (σ 6 x3)) (σ 0 16))) 8 x3 0) Q))) : LX8_givesRests_4 x1 x2 x3 σ Q := by
  unfold LX8_givesRests_4
  refine R_iload_n (pc := 4) 3 rfl rfl dX8_givesRests_4 ?_
  refine R_aload_n (pc := 5) 0 rfl rfl dX8_givesRests_5 ?_
  refine R_getP (pc := 6) (q' := 2) lM_0 rfl flX8_13 dX8_givesRests_6 ?_
  refine R_iconst (pc := 9) (by decide) dX8_givesRests_9 ?_
  have g0 : (0 : Int) ≤ 1 := by decide
  have g1 : (1 : Int) < 26 := by decide
  refine R_iaload (pc := 10) lM_2 g0 g1 dX8_givesRests_10 ?_
  refine R_icmp_ge (pc := 11) (tgt := 57) (by decide) dX8_givesRests_11 (fun c => ?_) (fun c => ?_)
  · have h := h.1 c
    refine R_sub [0, 1, 2] rfl ?_
    exact h
  · have h := h.2 c
    refine R_aload_n (pc := 14) 0 rfl rfl dX8_givesRests_14 ?_
    refine R_getP (pc := 15) (q' := 7) lM_0 rfl flX8_30 dX8_givesRests_15 ?_
    refine R_iload_n (pc := 18) 3 rfl rfl dX8_givesRests_18 ?_
    refine R_iload_n (pc := 19) 1 rfl rfl dX8_givesRests_19 ?_
    refine R_i2l (pc := 20) dX8_givesRests_20 ?_
    refine R_aload_n (pc := 21) 0 rfl rfl dX8_givesRests_21 ?_
    refine R_getP (pc := 22) (q' := 6) lM_0 rfl flX8_26 dX8_givesRests_22 ?_
    refine R_iload_n (pc := 25) 3 rfl rfl dX8_givesRests_25 ?_
    obtain ⟨g0, g1, h⟩ := h
    refine R_laload (pc := 26) lM_6 g0 g1 dX8_givesRests_26 ?_
    obtain ⟨g, h⟩ := h
    refine R_lmul (pc := 27) g dX8_givesRests_27 ?_
    refine R_aload_n (pc := 28) 0 rfl rfl dX8_givesRests_28 ?_
    refine R_getJ (pc := 29) lM_0 rfl flX8_145 dX8_givesRests_29 ?_
    obtain ⟨g0, h⟩ := h
    obtain ⟨g, h⟩ := h
    refine R_ldiv (pc := 32) g0 g dX8_givesRests_32 ?_
    obtain ⟨g, h⟩ := h
    refine R_l2i (pc := 33) g dX8_givesRests_33 ?_
    obtain ⟨g0, g1, h⟩ := h
    refine R_iastore (pc := 34) lM_7 g0 g1 dX8_givesRests_34 ?_
    refine R_aload_n (pc := 35) 0 rfl rfl dX8_givesRests_35 ?_
    refine R_getP (pc := 36) (q' := 8) lM_0 rfl flX8_33 dX8_givesRests_36 ?_
    refine R_iload_n (pc := 39) 3 rfl rfl dX8_givesRests_39 ?_
    refine R_iconst (pc := 40) (by decide) dX8_givesRests_40 ?_
    obtain ⟨g0, g1, h⟩ := h
    refine R_zastore (pc := 41) (by decide) lM_8 g0 g1 dX8_givesRests_41 ?_
    refine R_iload_n (pc := 42) 2 rfl rfl dX8_givesRests_42 ?_
    refine R_aload_n (pc := 43) 0 rfl rfl dX8_givesRests_43 ?_
    refine R_getP (pc := 44) (q' := 7) lM_0 rfl flX8_30 dX8_givesRests_44 ?_
    refine R_iload_n (pc := 47) 3 rfl rfl dX8_givesRests_47 ?_
    obtain ⟨g0, g1, h⟩ := h
    refine R_iaload (pc := 48) lM_7 g0 g1 dX8_givesRests_48 ?_
    obtain ⟨g, h⟩ := h
    refine R_isub (pc := 49) g dX8_givesRests_49 ?_
    refine R_istore_n (pc := 50) (ls' := [(2, vI (x2 - ((upM (upM σ 7 x3 (Int.tdiv (x1 * (σ 6 x3)) (σ 0 16))) 8 x3 0) 7 x3))), (0, vP 0), (1, vI x1), (3, vI x3)]) rfl rfl (ltb rfl) dX8_givesRests_50 ?_
    obtain ⟨g, h⟩ := h
    refine R_iinc (pc := 51) 3 rfl rfl g (ls' := [(3, vI (x3 + 1)), (2, vI (x2 - ((upM (upM σ 7 x3 (Int.tdiv (x1 * (σ 6 x3)) (σ 0 16))) 8 x3 0) 7 x3))), (0, vP 0), (1, vI x1)]) rfl (ltb rfl) dX8_givesRests_51 ?_
    refine R_goto (pc := 54) (tgt := 4) (by decide) dX8_givesRests_54 ?_
    refine R_sub [2, 3, 1, 0] rfl ?_
    exact h
theorem X8_givesRests_57 {x1 x2 : Int} {σ : Mem} {Q : Mem → Prop} (h : ((x2 ≤ 0 → Q σ) ∧ (0 < x2 → LX8_givesRests_67 x1 x2 (-4) 0 σ Q))) : LX8_givesRests_57 x1 x2 σ Q := by
  unfold LX8_givesRests_57
  refine R_iload_n (pc := 57) 2 rfl rfl dX8_givesRests_57 ?_
  refine R_if_le (pc := 58) (tgt := 175) (by decide) dX8_givesRests_58 (fun c => ?_) (fun c => ?_)
  · have h := h.1 c
    exact R_vret (pc := 175) rfl dX8_givesRests_175 ⟨rfl, h⟩
  · have h := h.2 c
    refine R_bipush (pc := 61) (by decide) dX8_givesRests_61 ?_
    refine R_istore_n (pc := 63) (ls' := [(3, vI (-4)), (0, vP 0), (1, vI x1), (2, vI x2)]) rfl rfl (ltb rfl) dX8_givesRests_63 ?_
    refine R_iconst (pc := 64) (by decide) dX8_givesRests_64 ?_
    refine R_istore (pc := 65) (ls' := [(4, vI 0), (3, vI (-4)), (0, vP 0), (1, vI x1), (2, vI x2)]) rfl (ltb rfl) dX8_givesRests_65 ?_
    refine R_sub [2, 3, 4, 1, 0] rfl ?_
    exact h
theorem X8_givesRests_67 {x1 x2 x3 x4 : Int} {σ : Mem} {Q : Mem → Prop} (h : (((σ 2 1) ≤ x4 → 0 ≤ x3 ∧ x3 < 5 ∧ 0 ≤ x3 ∧ x3 < 5 ∧ I32 (((upM σ 8 x3 1) 7 x3) + 1) ∧ 0 ≤ x3 ∧ x3 < 5 ∧ I32 (x2 + (-1)) ∧ LX8_givesRests_57 x1 (x2 + (-1)) (upM (upM σ 8 x3 1) 7 x3 (((upM σ 8 x3 1) 7 x3) + 1)) Q) ∧ (x4 < (σ 2 1) → 0 ≤ x4 ∧ x4 < 5 ∧ (((σ 8 x4) ≠ 0 → I32 (x4 + 1) ∧ LX8_givesRests_67 x1 x2 x3 (x4 + 1) σ Q) ∧ ((σ 8 x4) = 0 → ((x3 = (-4) → I32 (x4 + 1) ∧ LX8_givesRests_67 x1 x2 x4 (x4 + 1) σ Q) ∧ (x3 ≠ (-4) → 0 ≤ x4 ∧ x4 < 5 ∧ I64 (x1 * (σ 6 x4)) ∧ (σ 0 16) ≠ 0 ∧ 0 ≤ x3 ∧ x3 < 5 ∧ I64 (x1 * (σ 6 x3)) ∧ (σ 0 16) ≠ 0 ∧ (((Int.tmod (x1 * (σ 6 x4)) (σ 0 16)) ≤ (Int.tmod (x1 * (σ 6 x3)) (σ 0 16)) → I32 (x4 + 1) ∧ LX8_givesRests_67 x1 x2 x3 (x4 + 1) σ Q) ∧ ((Int.tmod (x1 * (σ 6 x3)) (σ 0 16)) < (Int.tmod (x1 * (σ 6 x4)) (σ 0 16)) → I32 (x4 + 1) ∧ LX8_givesRests_67 x1 x2 x4 (x4 + 1) σ Q))))))))) : LX8_givesRests_67 x1 x2 x3 x4 σ Q := by
  unfold LX8_givesRests_67
  refine R_iload (pc := 67) 4 rfl dX8_givesRests_67 ?_
  refine R_aload_n (pc := 69) 0 rfl rfl dX8_givesRests_69 ?_
  refine R_getP (pc := 70) (q' := 2) lM_0 rfl flX8_13 dX8_givesRests_70 ?_
  refine R_iconst (pc := 73) (by decide) dX8_givesRests_73 ?_
  have g0 : (0 : Int) ≤ 1 := by decide
  have g1 : (1 : Int) < 26 := by decide
  refine R_iaload (pc := 74) lM_2 g0 g1 dX8_givesRests_74 ?_
  refine R_icmp_ge (pc := 75) (tgt := 152) (by decide) dX8_givesRests_75 (fun c => ?_) (fun c => ?_)
  · have h := h.1 c
    refine R_aload_n (pc := 152) 0 rfl rfl dX8_givesRests_152 ?_
    refine R_getP (pc := 153) (q' := 8) lM_0 rfl flX8_33 dX8_givesRests_153 ?_
    refine R_iload_n (pc := 156) 3 rfl rfl dX8_givesRests_156 ?_
    refine R_iconst (pc := 157) (by decide) dX8_givesRests_157 ?_
    obtain ⟨g0, g1, h⟩ := h
    refine R_zastore (pc := 158) (by decide) lM_8 g0 g1 dX8_givesRests_158 ?_
    refine R_aload_n (pc := 159) 0 rfl rfl dX8_givesRests_159 ?_
    refine R_getP (pc := 160) (q' := 7) lM_0 rfl flX8_30 dX8_givesRests_160 ?_
    refine R_iload_n (pc := 163) 3 rfl rfl dX8_givesRests_163 ?_
    refine R_dup2 (pc := 164) rfl rfl dX8_givesRests_164 ?_
    obtain ⟨g0, g1, h⟩ := h
    refine R_iaload (pc := 165) lM_7 g0 g1 dX8_givesRests_165 ?_
    refine R_iconst (pc := 166) (by decide) dX8_givesRests_166 ?_
    obtain ⟨g, h⟩ := h
    refine R_iadd (pc := 167) g dX8_givesRests_167 ?_
    obtain ⟨g0, g1, h⟩ := h
    refine R_iastore (pc := 168) lM_7 g0 g1 dX8_givesRests_168 ?_
    obtain ⟨g, h⟩ := h
    refine R_iinc (pc := 169) 2 rfl rfl g (ls' := [(2, vI (x2 + (-1))), (0, vP 0), (1, vI x1), (3, vI x3), (4, vI x4)]) rfl (ltb rfl) dX8_givesRests_169 ?_
    refine R_goto (pc := 172) (tgt := 57) (by decide) dX8_givesRests_172 ?_
    refine R_sub [1, 2, 0] rfl ?_
    exact h
  · have h := h.2 c
    refine R_aload_n (pc := 78) 0 rfl rfl dX8_givesRests_78 ?_
    refine R_getP (pc := 79) (q' := 8) lM_0 rfl flX8_33 dX8_givesRests_79 ?_
    refine R_iload (pc := 82) 4 rfl dX8_givesRests_82 ?_
    obtain ⟨g0, g1, h⟩ := h
    refine R_zaload (pc := 84) lM_8 g0 g1 dX8_givesRests_84 ?_
    refine R_if_ne (pc := 85) (tgt := 131) (by decide) dX8_givesRests_85 (fun c => ?_) (fun c => ?_)
    · have h := h.1 c
      refine R_iconst (pc := 131) (by decide) dX8_givesRests_131 ?_
      refine R_istore (pc := 132) (ls' := [(5, vI 0), (0, vP 0), (1, vI x1), (2, vI x2), (3, vI x3), (4, vI x4)]) rfl (ltb rfl) dX8_givesRests_132 ?_
      refine R_iload (pc := 134) 0 rfl dX8_givesRests_134 ?_
      refine R_if_eq (pc := 136) (tgt := 144) (by decide) dX8_givesRests_136 (fun c => ?_) (fun c => ?_)
      · clear c
        refine R_iload_n (pc := 144) 4 rfl rfl dX8_givesRests_144 ?_
        refine R_istore_n (pc := 145) (ls' := [(3, vI x3), (5, vI 0), (0, vP 0), (1, vI x1), (2, vI x2), (4, vI x4)]) rfl rfl (ltb rfl) dX8_givesRests_145 ?_
        obtain ⟨g, h⟩ := h
        refine R_iinc (pc := 146) 5 rfl rfl g (ls' := [(4, vI (x4 + 1)), (3, vI x3), (5, vI 0), (0, vP 0), (1, vI x1), (2, vI x2)]) rfl (ltb rfl) dX8_givesRests_146 ?_
        refine R_goto (pc := 149) (tgt := 67) (by decide) dX8_givesRests_149 ?_
        refine R_sub [3, 4, 5, 1, 0] rfl ?_
        exact h
      · exact absurd c (by decide)
    · have h := h.2 c
      refine R_iload_n (pc := 88) 3 rfl rfl dX8_givesRests_88 ?_
      refine R_bipush (pc := 89) (by decide) dX8_givesRests_89 ?_
      refine R_icmp_eq (pc := 91) (tgt := 127) (by decide) dX8_givesRests_91 (fun c => ?_) (fun c => ?_)
      · have h := h.1 c
        refine R_iconst (pc := 127) (by decide) dX8_givesRests_127 ?_
        refine R_goto (pc := 128) (tgt := 132) (by decide) dX8_givesRests_128 ?_
        refine R_istore (pc := 132) (ls' := [(5, vI 1), (0, vP 0), (1, vI x1), (2, vI x2), (3, vI x3), (4, vI x4)]) rfl (ltb rfl) dX8_givesRests_132 ?_
        refine R_iload (pc := 134) 0 rfl dX8_givesRests_134 ?_
        refine R_if_eq (pc := 136) (tgt := 144) (by decide) dX8_givesRests_136 (fun c => ?_) (fun c => ?_)
        · exact absurd c (by decide)
        · clear c
          refine R_iload (pc := 139) 5 rfl dX8_givesRests_139 ?_
          refine R_goto (pc := 141) (tgt := 145) (by decide) dX8_givesRests_141 ?_
          refine R_istore_n (pc := 145) (ls' := [(3, vI x4), (5, vI 1), (0, vP 0), (1, vI x1), (2, vI x2), (4, vI x4)]) rfl rfl (ltb rfl) dX8_givesRests_145 ?_
          obtain ⟨g, h⟩ := h
          refine R_iinc (pc := 146) 5 rfl rfl g (ls' := [(4, vI (x4 + 1)), (3, vI x4), (5, vI 1), (0, vP 0), (1, vI x1), (2, vI x2)]) rfl (ltb rfl) dX8_givesRests_146 ?_
          refine R_goto (pc := 149) (tgt := 67) (by decide) dX8_givesRests_149 ?_
          refine R_sub [3, 4, 5, 1, 0] rfl ?_
          exact h
      · have h := h.2 c
        refine R_iload_n (pc := 94) 1 rfl rfl dX8_givesRests_94 ?_
        refine R_i2l (pc := 95) dX8_givesRests_95 ?_
        refine R_aload_n (pc := 96) 0 rfl rfl dX8_givesRests_96 ?_
        refine R_getP (pc := 97) (q' := 6) lM_0 rfl flX8_26 dX8_givesRests_97 ?_
        refine R_iload (pc := 100) 4 rfl dX8_givesRests_100 ?_
        obtain ⟨g0, g1, h⟩ := h
        refine R_laload (pc := 102) lM_6 g0 g1 dX8_givesRests_102 ?_
        obtain ⟨g, h⟩ := h
        refine R_lmul (pc := 103) g dX8_givesRests_103 ?_
        refine R_aload_n (pc := 104) 0 rfl rfl dX8_givesRests_104 ?_
        refine R_getJ (pc := 105) lM_0 rfl flX8_145 dX8_givesRests_105 ?_
        obtain ⟨g0, h⟩ := h
        refine R_lrem (pc := 108) g0 dX8_givesRests_108 ?_
        refine R_iload_n (pc := 109) 1 rfl rfl dX8_givesRests_109 ?_
        refine R_i2l (pc := 110) dX8_givesRests_110 ?_
        refine R_aload_n (pc := 111) 0 rfl rfl dX8_givesRests_111 ?_
        refine R_getP (pc := 112) (q' := 6) lM_0 rfl flX8_26 dX8_givesRests_112 ?_
        refine R_iload_n (pc := 115) 3 rfl rfl dX8_givesRests_115 ?_
        obtain ⟨g0, g1, h⟩ := h
        refine R_laload (pc := 116) lM_6 g0 g1 dX8_givesRests_116 ?_
        obtain ⟨g, h⟩ := h
        refine R_lmul (pc := 117) g dX8_givesRests_117 ?_
        refine R_aload_n (pc := 118) 0 rfl rfl dX8_givesRests_118 ?_
        refine R_getJ (pc := 119) lM_0 rfl flX8_145 dX8_givesRests_119 ?_
        obtain ⟨g0, h⟩ := h
        refine R_lrem (pc := 122) g0 dX8_givesRests_122 ?_
        refine R_lcmp_le (pc := 123) (tgt := 131) dX8_givesRests_123 (by decide) dX8_givesRests_124 (fun c => ?_) (fun c => ?_)
        · have h := h.1 c
          refine R_iconst (pc := 131) (by decide) dX8_givesRests_131 ?_
          refine R_istore (pc := 132) (ls' := [(5, vI 0), (0, vP 0), (1, vI x1), (2, vI x2), (3, vI x3), (4, vI x4)]) rfl (ltb rfl) dX8_givesRests_132 ?_
          refine R_iload (pc := 134) 0 rfl dX8_givesRests_134 ?_
          refine R_if_eq (pc := 136) (tgt := 144) (by decide) dX8_givesRests_136 (fun c => ?_) (fun c => ?_)
          · clear c
            refine R_iload_n (pc := 144) 4 rfl rfl dX8_givesRests_144 ?_
            refine R_istore_n (pc := 145) (ls' := [(3, vI x3), (5, vI 0), (0, vP 0), (1, vI x1), (2, vI x2), (4, vI x4)]) rfl rfl (ltb rfl) dX8_givesRests_145 ?_
            obtain ⟨g, h⟩ := h
            refine R_iinc (pc := 146) 5 rfl rfl g (ls' := [(4, vI (x4 + 1)), (3, vI x3), (5, vI 0), (0, vP 0), (1, vI x1), (2, vI x2)]) rfl (ltb rfl) dX8_givesRests_146 ?_
            refine R_goto (pc := 149) (tgt := 67) (by decide) dX8_givesRests_149 ?_
            refine R_sub [3, 4, 5, 1, 0] rfl ?_
            exact h
          · exact absurd c (by decide)
        · have h := h.2 c
          refine R_iconst (pc := 127) (by decide) dX8_givesRests_127 ?_
          refine R_goto (pc := 128) (tgt := 132) (by decide) dX8_givesRests_128 ?_
          refine R_istore (pc := 132) (ls' := [(5, vI 1), (0, vP 0), (1, vI x1), (2, vI x2), (3, vI x3), (4, vI x4)]) rfl (ltb rfl) dX8_givesRests_132 ?_
          refine R_iload (pc := 134) 0 rfl dX8_givesRests_134 ?_
          refine R_if_eq (pc := 136) (tgt := 144) (by decide) dX8_givesRests_136 (fun c => ?_) (fun c => ?_)
          · exact absurd c (by decide)
          · clear c
            refine R_iload (pc := 139) 5 rfl dX8_givesRests_139 ?_
            refine R_goto (pc := 141) (tgt := 145) (by decide) dX8_givesRests_141 ?_
            refine R_istore_n (pc := 145) (ls' := [(3, vI x4), (5, vI 1), (0, vP 0), (1, vI x1), (2, vI x2), (4, vI x4)]) rfl rfl (ltb rfl) dX8_givesRests_145 ?_
            obtain ⟨g, h⟩ := h
            refine R_iinc (pc := 146) 5 rfl rfl g (ls' := [(4, vI (x4 + 1)), (3, vI x4), (5, vI 1), (0, vP 0), (1, vI x1), (2, vI x2)]) rfl (ltb rfl) dX8_givesRests_146 ?_
            refine R_goto (pc := 149) (tgt := 67) (by decide) dX8_givesRests_149 ?_
            refine R_sub [3, 4, 5, 1, 0] rfl ?_
            exact h
theorem X8_givesRests_E {x1 : Int} {σ : Mem} {Q : Mem → Prop} (h : LX8_givesRests_4 x1 x1 0 σ Q) : CV layM MX8_givesRests [vP 0, vI x1] σ Q := by
  refine Cl.ofR (ls := [(0, vP 0), (1, vI x1)]) (show plainName RX8 = true by decide +kernel) (leb rfl) rfl ?_
  refine R_iload_n (pc := 0) 1 rfl rfl dX8_givesRests_0 ?_
  refine R_istore_n (pc := 1) (ls' := [(2, vI x1), (0, vP 0), (1, vI x1)]) rfl rfl (ltb rfl) dX8_givesRests_1 ?_
  refine R_iconst (pc := 2) (by decide) dX8_givesRests_2 ?_
  refine R_istore_n (pc := 3) (ls' := [(3, vI 0), (2, vI x1), (0, vP 0), (1, vI x1)]) rfl rfl (ltb rfl) dX8_givesRests_3 ?_
  refine R_sub [2, 3, 1, 0] rfl ?_
  exact h
def LX8_givesRow_2 (x1 : Int) (x2 : Int) (x3 : Int) (σ : Mem) (Q : Mem → Prop) : Prop := Rn layM MX8_givesRow 2 [(0, vP 0), (1, vI x1), (2, vI x2), (3, vI x3)] [] σ (qV Q)
def LX8_givesRow_13 (x1 : Int) (x2 : Int) (x3 : Int) (x4 : Int) (x5 : Int) (σ : Mem) (Q : Mem → Prop) : Prop := Rn layM MX8_givesRow 13 [(0, vP 0), (1, vI x1), (2, vI x2), (3, vI x3), (4, vI x4), (5, vI x5)] [] σ (qV Q)
theorem X8_givesRow_2 {x1 x2 x3 : Int} {σ : Mem} {Q : Mem → Prop} (h : ((x1 ≤ x3 → Q σ) ∧ (x3 < x1 → LX8_givesRow_13 x1 x2 x3 0 1 σ Q))) : LX8_givesRow_2 x1 x2 x3 σ Q := by
  unfold LX8_givesRow_2
  refine R_iload_n (pc := 2) 3 rfl rfl dX8_givesRow_2 ?_
  refine R_iload_n (pc := 3) 1 rfl rfl dX8_givesRow_3 ?_
  refine R_icmp_ge (pc := 4) (tgt := 100) (by decide) dX8_givesRow_4 (fun c => ?_) (fun c => ?_)
  · have h := h.1 c
    exact R_vret (pc := 100) rfl dX8_givesRow_100 ⟨rfl, h⟩
  · have h := h.2 c
    refine R_iconst (pc := 7) (by decide) dX8_givesRow_7 ?_
    refine R_istore (pc := 8) (ls' := [(4, vI 0), (0, vP 0), (1, vI x1), (2, vI x2), (3, vI x3)]) rfl (ltb rfl) dX8_givesRow_8 ?_
    refine R_iconst (pc := 10) (by decide) dX8_givesRow_10 ?_
    refine R_istore (pc := 11) (ls' := [(5, vI 1), (4, vI 0), (0, vP 0), (1, vI x1), (2, vI x2), (3, vI x3)]) rfl (ltb rfl) dX8_givesRow_11 ?_
    refine R_sub [2, 3, 4, 5, 1, 0] rfl ?_
    exact h
theorem X8_givesRow_13 {x1 x2 x3 x4 x5 : Int} {σ : Mem} {Q : Mem → Prop} (h : (((σ 2 1) ≤ x5 → 0 ≤ x4 ∧ x4 < 5 ∧ I32 ((σ 7 x4) + 1) ∧ 0 ≤ x4 ∧ x4 < 5 ∧ I32 (x3 + 1) ∧ LX8_givesRow_2 x1 x2 (x3 + 1) (upM σ 7 x4 ((σ 7 x4) + 1)) Q) ∧ (x5 < (σ 2 1) → 0 ≤ x5 ∧ x5 < 5 ∧ 0 ≤ x4 ∧ x4 < 5 ∧ I32 (x2 * (σ 7 x4)) ∧ I32 ((x2 * (σ 7 x4)) + 1) ∧ I64 ((σ 6 x5) * ((x2 * (σ 7 x4)) + 1)) ∧ 0 ≤ x4 ∧ x4 < 5 ∧ 0 ≤ x5 ∧ x5 < 5 ∧ I32 (x2 * (σ 7 x5)) ∧ I32 ((x2 * (σ 7 x5)) + 1) ∧ I64 ((σ 6 x4) * ((x2 * (σ 7 x5)) + 1)) ∧ ((((σ 6 x5) * ((x2 * (σ 7 x4)) + 1)) ≤ ((σ 6 x4) * ((x2 * (σ 7 x5)) + 1)) → I32 (x5 + 1) ∧ LX8_givesRow_13 x1 x2 x3 x4 (x5 + 1) σ Q) ∧ (((σ 6 x4) * ((x2 * (σ 7 x5)) + 1)) < ((σ 6 x5) * ((x2 * (σ 7 x4)) + 1)) → I32 (x5 + 1) ∧ LX8_givesRow_13 x1 x2 x3 x5 (x5 + 1) σ Q))))) : LX8_givesRow_13 x1 x2 x3 x4 x5 σ Q := by
  unfold LX8_givesRow_13
  refine R_iload (pc := 13) 5 rfl dX8_givesRow_13 ?_
  refine R_aload_n (pc := 15) 0 rfl rfl dX8_givesRow_15 ?_
  refine R_getP (pc := 16) (q' := 2) lM_0 rfl flX8_13 dX8_givesRow_16 ?_
  refine R_iconst (pc := 19) (by decide) dX8_givesRow_19 ?_
  have g0 : (0 : Int) ≤ 1 := by decide
  have g1 : (1 : Int) < 26 := by decide
  refine R_iaload (pc := 20) lM_2 g0 g1 dX8_givesRow_20 ?_
  refine R_icmp_ge (pc := 21) (tgt := 83) (by decide) dX8_givesRow_21 (fun c => ?_) (fun c => ?_)
  · have h := h.1 c
    refine R_aload_n (pc := 83) 0 rfl rfl dX8_givesRow_83 ?_
    refine R_getP (pc := 84) (q' := 7) lM_0 rfl flX8_30 dX8_givesRow_84 ?_
    refine R_iload (pc := 87) 4 rfl dX8_givesRow_87 ?_
    refine R_dup2 (pc := 89) rfl rfl dX8_givesRow_89 ?_
    obtain ⟨g0, g1, h⟩ := h
    refine R_iaload (pc := 90) lM_7 g0 g1 dX8_givesRow_90 ?_
    refine R_iconst (pc := 91) (by decide) dX8_givesRow_91 ?_
    obtain ⟨g, h⟩ := h
    refine R_iadd (pc := 92) g dX8_givesRow_92 ?_
    obtain ⟨g0, g1, h⟩ := h
    refine R_iastore (pc := 93) lM_7 g0 g1 dX8_givesRow_93 ?_
    obtain ⟨g, h⟩ := h
    refine R_iinc (pc := 94) 3 rfl rfl g (ls' := [(3, vI (x3 + 1)), (0, vP 0), (1, vI x1), (2, vI x2), (4, vI x4), (5, vI x5)]) rfl (ltb rfl) dX8_givesRow_94 ?_
    refine R_goto (pc := 97) (tgt := 2) (by decide) dX8_givesRow_97 ?_
    refine R_sub [1, 2, 3, 0] rfl ?_
    exact h
  · have h := h.2 c
    refine R_aload_n (pc := 24) 0 rfl rfl dX8_givesRow_24 ?_
    refine R_getP (pc := 25) (q' := 6) lM_0 rfl flX8_26 dX8_givesRow_25 ?_
    refine R_iload (pc := 28) 5 rfl dX8_givesRow_28 ?_
    obtain ⟨g0, g1, h⟩ := h
    refine R_laload (pc := 30) lM_6 g0 g1 dX8_givesRow_30 ?_
    refine R_iload_n (pc := 31) 2 rfl rfl dX8_givesRow_31 ?_
    refine R_aload_n (pc := 32) 0 rfl rfl dX8_givesRow_32 ?_
    refine R_getP (pc := 33) (q' := 7) lM_0 rfl flX8_30 dX8_givesRow_33 ?_
    refine R_iload (pc := 36) 4 rfl dX8_givesRow_36 ?_
    obtain ⟨g0, g1, h⟩ := h
    refine R_iaload (pc := 38) lM_7 g0 g1 dX8_givesRow_38 ?_
    obtain ⟨g, h⟩ := h
    refine R_imul (pc := 39) g dX8_givesRow_39 ?_
    refine R_iconst (pc := 40) (by decide) dX8_givesRow_40 ?_
    obtain ⟨g, h⟩ := h
    refine R_iadd (pc := 41) g dX8_givesRow_41 ?_
    refine R_i2l (pc := 42) dX8_givesRow_42 ?_
    obtain ⟨g, h⟩ := h
    refine R_lmul (pc := 43) g dX8_givesRow_43 ?_
    refine R_aload_n (pc := 44) 0 rfl rfl dX8_givesRow_44 ?_
    refine R_getP (pc := 45) (q' := 6) lM_0 rfl flX8_26 dX8_givesRow_45 ?_
    refine R_iload (pc := 48) 4 rfl dX8_givesRow_48 ?_
    obtain ⟨g0, g1, h⟩ := h
    refine R_laload (pc := 50) lM_6 g0 g1 dX8_givesRow_50 ?_
    refine R_iload_n (pc := 51) 2 rfl rfl dX8_givesRow_51 ?_
    refine R_aload_n (pc := 52) 0 rfl rfl dX8_givesRow_52 ?_
    refine R_getP (pc := 53) (q' := 7) lM_0 rfl flX8_30 dX8_givesRow_53 ?_
    refine R_iload (pc := 56) 5 rfl dX8_givesRow_56 ?_
    obtain ⟨g0, g1, h⟩ := h
    refine R_iaload (pc := 58) lM_7 g0 g1 dX8_givesRow_58 ?_
    obtain ⟨g, h⟩ := h
    refine R_imul (pc := 59) g dX8_givesRow_59 ?_
    refine R_iconst (pc := 60) (by decide) dX8_givesRow_60 ?_
    obtain ⟨g, h⟩ := h
    refine R_iadd (pc := 61) g dX8_givesRow_61 ?_
    refine R_i2l (pc := 62) dX8_givesRow_62 ?_
    obtain ⟨g, h⟩ := h
    refine R_lmul (pc := 63) g dX8_givesRow_63 ?_
    refine R_lcmp_le (pc := 64) (tgt := 73) dX8_givesRow_64 (by decide) dX8_givesRow_65 (fun c => ?_) (fun c => ?_)
    · have h := h.1 c
      refine R_iload (pc := 73) 4 rfl dX8_givesRow_73 ?_
      refine R_istore (pc := 75) (ls' := [(4, vI x4), (0, vP 0), (1, vI x1), (2, vI x2), (3, vI x3), (5, vI x5)]) rfl (ltb rfl) dX8_givesRow_75 ?_
      obtain ⟨g, h⟩ := h
      refine R_iinc (pc := 77) 5 rfl rfl g (ls' := [(5, vI (x5 + 1)), (4, vI x4), (0, vP 0), (1, vI x1), (2, vI x2), (3, vI x3)]) rfl (ltb rfl) dX8_givesRow_77 ?_
      refine R_goto (pc := 80) (tgt := 13) (by decide) dX8_givesRow_80 ?_
      refine R_sub [2, 3, 4, 5, 1, 0] rfl ?_
      exact h
    · have h := h.2 c
      refine R_iload (pc := 68) 5 rfl dX8_givesRow_68 ?_
      refine R_goto (pc := 70) (tgt := 75) (by decide) dX8_givesRow_70 ?_
      refine R_istore (pc := 75) (ls' := [(4, vI x5), (0, vP 0), (1, vI x1), (2, vI x2), (3, vI x3), (5, vI x5)]) rfl (ltb rfl) dX8_givesRow_75 ?_
      obtain ⟨g, h⟩ := h
      refine R_iinc (pc := 77) 5 rfl rfl g (ls' := [(5, vI (x5 + 1)), (4, vI x5), (0, vP 0), (1, vI x1), (2, vI x2), (3, vI x3)]) rfl (ltb rfl) dX8_givesRow_77 ?_
      refine R_goto (pc := 80) (tgt := 13) (by decide) dX8_givesRow_80 ?_
      refine R_sub [2, 3, 4, 5, 1, 0] rfl ?_
      exact h
theorem X8_givesRow_E {x1 x2 : Int} {σ : Mem} {Q : Mem → Prop} (h : LX8_givesRow_2 x1 x2 0 σ Q) : CV layM MX8_givesRow [vP 0, vI x1, vI x2] σ Q := by
  refine Cl.ofR (ls := [(0, vP 0), (1, vI x1), (2, vI x2)]) (show plainName RX8 = true by decide +kernel) (leb rfl) rfl ?_
  refine R_iconst (pc := 0) (by decide) dX8_givesRow_0 ?_
  refine R_istore_n (pc := 1) (ls' := [(3, vI 0), (0, vP 0), (1, vI x1), (2, vI x2)]) rfl rfl (ltb rfl) dX8_givesRow_1 ?_
  refine R_sub [1, 2, 3, 0] rfl ?_
  exact h
def LX8_givesTold_4 (x1 : Int) (x2 : Int) (x3 : Int) (σ : Mem) (Q : Mem → Prop) : Prop := Rn layM MX8_givesTold 4 [(0, vP 0), (1, vI x1), (2, vI x2), (3, vI x3)] [] σ (qV Q)
theorem X8_givesTold_4 {x1 x2 x3 : Int} {σ : Mem} {Q : Mem → Prop} (h : (((σ 2 1) ≤ x3 → Q σ) ∧ (x3 < (σ 2 1) → I32 (2 * x3) ∧ I32 (3 + (2 * x3)) ∧ 0 ≤ 3 + (2 * x3) ∧ 3 + (2 * x3) < 26 ∧ I32 (x1 * (σ 2 (3 + (2 * x3)))) ∧ I32 (2 * x3) ∧ I32 (3 + (2 * x3)) ∧ I32 ((3 + (2 * x3)) + 1) ∧ 0 ≤ (3 + (2 * x3)) + 1 ∧ (3 + (2 * x3)) + 1 < 26 ∧ (σ 2 ((3 + (2 * x3)) + 1)) ≠ 0 ∧ I32 (Int.tdiv (x1 * (σ 2 (3 + (2 * x3)))) (σ 2 ((3 + (2 * x3)) + 1))) ∧ ((x2 ≤ (Int.tdiv (x1 * (σ 2 (3 + (2 * x3)))) (σ 2 ((3 + (2 * x3)) + 1))) → 0 ≤ x3 ∧ x3 < 5 ∧ 0 ≤ x3 ∧ x3 < 5 ∧ I32 (x2 - ((upM σ 7 x3 x2) 7 x3)) ∧ I32 (x3 + 1) ∧ LX8_givesTold_4 x1 (x2 - ((upM σ 7 x3 x2) 7 x3)) (x3 + 1) (upM σ 7 x3 x2) Q) ∧ ((Int.tdiv (x1 * (σ 2 (3 + (2 * x3)))) (σ 2 ((3 + (2 * x3)) + 1))) < x2 → 0 ≤ x3 ∧ x3 < 5 ∧ 0 ≤ x3 ∧ x3 < 5 ∧ I32 (x2 - ((upM σ 7 x3 (Int.tdiv (x1 * (σ 2 (3 + (2 * x3)))) (σ 2 ((3 + (2 * x3)) + 1)))) 7 x3)) ∧ I32 (x3 + 1) ∧ LX8_givesTold_4 x1 (x2 - ((upM σ 7 x3 (Int.tdiv (x1 * (σ 2 (3 + (2 * x3)))) (σ 2 ((3 + (2 * x3)) + 1)))) 7 x3)) (x3 + 1) (upM σ 7 x3 (Int.tdiv (x1 * (σ 2 (3 + (2 * x3)))) (σ 2 ((3 + (2 * x3)) + 1)))) Q))))) : LX8_givesTold_4 x1 x2 x3 σ Q := by
  unfold LX8_givesTold_4
  refine R_iload_n (pc := 4) 3 rfl rfl dX8_givesTold_4 ?_
  refine R_aload_n (pc := 5) 0 rfl rfl dX8_givesTold_5 ?_
  refine R_getP (pc := 6) (q' := 2) lM_0 rfl flX8_13 dX8_givesTold_6 ?_
  refine R_iconst (pc := 9) (by decide) dX8_givesTold_9 ?_
  have g0 : (0 : Int) ≤ 1 := by decide
  have g1 : (1 : Int) < 26 := by decide
  refine R_iaload (pc := 10) lM_2 g0 g1 dX8_givesTold_10 ?_
  refine R_icmp_ge (pc := 11) (tgt := 74) (by decide) dX8_givesTold_11 (fun c => ?_) (fun c => ?_)
  · have h := h.1 c
    exact R_vret (pc := 74) rfl dX8_givesTold_74 ⟨rfl, h⟩
  · have h := h.2 c
    refine R_iload_n (pc := 14) 1 rfl rfl dX8_givesTold_14 ?_
    refine R_aload_n (pc := 15) 0 rfl rfl dX8_givesTold_15 ?_
    refine R_getP (pc := 16) (q' := 2) lM_0 rfl flX8_13 dX8_givesTold_16 ?_
    refine R_iconst (pc := 19) (by decide) dX8_givesTold_19 ?_
    refine R_iconst (pc := 20) (by decide) dX8_givesTold_20 ?_
    refine R_iload_n (pc := 21) 3 rfl rfl dX8_givesTold_21 ?_
    obtain ⟨g, h⟩ := h
    refine R_imul (pc := 22) g dX8_givesTold_22 ?_
    obtain ⟨g, h⟩ := h
    refine R_iadd (pc := 23) g dX8_givesTold_23 ?_
    obtain ⟨g0, g1, h⟩ := h
    refine R_iaload (pc := 24) lM_2 g0 g1 dX8_givesTold_24 ?_
    obtain ⟨g, h⟩ := h
    refine R_imul (pc := 25) g dX8_givesTold_25 ?_
    refine R_aload_n (pc := 26) 0 rfl rfl dX8_givesTold_26 ?_
    refine R_getP (pc := 27) (q' := 2) lM_0 rfl flX8_13 dX8_givesTold_27 ?_
    refine R_iconst (pc := 30) (by decide) dX8_givesTold_30 ?_
    refine R_iconst (pc := 31) (by decide) dX8_givesTold_31 ?_
    refine R_iload_n (pc := 32) 3 rfl rfl dX8_givesTold_32 ?_
    obtain ⟨g, h⟩ := h
    refine R_imul (pc := 33) g dX8_givesTold_33 ?_
    obtain ⟨g, h⟩ := h
    refine R_iadd (pc := 34) g dX8_givesTold_34 ?_
    refine R_iconst (pc := 35) (by decide) dX8_givesTold_35 ?_
    obtain ⟨g, h⟩ := h
    refine R_iadd (pc := 36) g dX8_givesTold_36 ?_
    obtain ⟨g0, g1, h⟩ := h
    refine R_iaload (pc := 37) lM_2 g0 g1 dX8_givesTold_37 ?_
    obtain ⟨g0, h⟩ := h
    obtain ⟨g, h⟩ := h
    refine R_idiv (pc := 38) g0 g dX8_givesTold_38 ?_
    refine R_istore (pc := 39) (ls' := [(4, vI (Int.tdiv (x1 * (σ 2 (3 + (2 * x3)))) (σ 2 ((3 + (2 * x3)) + 1)))), (0, vP 0), (1, vI x1), (2, vI x2), (3, vI x3)]) rfl (ltb rfl) dX8_givesTold_39 ?_
    refine R_aload_n (pc := 41) 1 rfl rfl dX8_givesTold_41 ?_
    refine R_getP (pc := 42) (q' := 7) lM_0 rfl flX8_30 dX8_givesTold_42 ?_
    refine R_iload_n (pc := 45) 4 rfl rfl dX8_givesTold_45 ?_
    refine R_iload (pc := 46) 0 rfl dX8_givesTold_46 ?_
    refine R_iload_n (pc := 48) 3 rfl rfl dX8_givesTold_48 ?_
    refine R_icmp_ge (pc := 49) (tgt := 57) (by decide) dX8_givesTold_49 (fun c => ?_) (fun c => ?_)
    · have h := h.1 c
      refine R_iload_n (pc := 57) 3 rfl rfl dX8_givesTold_57 ?_
      obtain ⟨g0, g1, h⟩ := h
      refine R_iastore (pc := 58) lM_7 g0 g1 dX8_givesTold_58 ?_
      refine R_iload_n (pc := 59) 3 rfl rfl dX8_givesTold_59 ?_
      refine R_aload_n (pc := 60) 1 rfl rfl dX8_givesTold_60 ?_
      refine R_getP (pc := 61) (q' := 7) lM_0 rfl flX8_30 dX8_givesTold_61 ?_
      refine R_iload_n (pc := 64) 4 rfl rfl dX8_givesTold_64 ?_
      obtain ⟨g0, g1, h⟩ := h
      refine R_iaload (pc := 65) lM_7 g0 g1 dX8_givesTold_65 ?_
      obtain ⟨g, h⟩ := h
      refine R_isub (pc := 66) g dX8_givesTold_66 ?_
      refine R_istore_n (pc := 67) (ls' := [(2, vI (x2 - ((upM σ 7 x3 x2) 7 x3))), (4, vI (Int.tdiv (x1 * (σ 2 (3 + (2 * x3)))) (σ 2 ((3 + (2 * x3)) + 1)))), (0, vP 0), (1, vI x1), (3, vI x3)]) rfl rfl (ltb rfl) dX8_givesTold_67 ?_
      obtain ⟨g, h⟩ := h
      refine R_iinc (pc := 68) 4 rfl rfl g (ls' := [(3, vI (x3 + 1)), (2, vI (x2 - ((upM σ 7 x3 x2) 7 x3))), (4, vI (Int.tdiv (x1 * (σ 2 (3 + (2 * x3)))) (σ 2 ((3 + (2 * x3)) + 1)))), (0, vP 0), (1, vI x1)]) rfl (ltb rfl) dX8_givesTold_68 ?_
      refine R_goto (pc := 71) (tgt := 4) (by decide) dX8_givesTold_71 ?_
      refine R_sub [3, 4, 1, 0] rfl ?_
      exact h
    · have h := h.2 c
      refine R_iload (pc := 52) 0 rfl dX8_givesTold_52 ?_
      refine R_goto (pc := 54) (tgt := 58) (by decide) dX8_givesTold_54 ?_
      obtain ⟨g0, g1, h⟩ := h
      refine R_iastore (pc := 58) lM_7 g0 g1 dX8_givesTold_58 ?_
      refine R_iload_n (pc := 59) 3 rfl rfl dX8_givesTold_59 ?_
      refine R_aload_n (pc := 60) 1 rfl rfl dX8_givesTold_60 ?_
      refine R_getP (pc := 61) (q' := 7) lM_0 rfl flX8_30 dX8_givesTold_61 ?_
      refine R_iload_n (pc := 64) 4 rfl rfl dX8_givesTold_64 ?_
      obtain ⟨g0, g1, h⟩ := h
      refine R_iaload (pc := 65) lM_7 g0 g1 dX8_givesTold_65 ?_
      obtain ⟨g, h⟩ := h
      refine R_isub (pc := 66) g dX8_givesTold_66 ?_
      refine R_istore_n (pc := 67) (ls' := [(2, vI (x2 - ((upM σ 7 x3 (Int.tdiv (x1 * (σ 2 (3 + (2 * x3)))) (σ 2 ((3 + (2 * x3)) + 1)))) 7 x3))), (4, vI (Int.tdiv (x1 * (σ 2 (3 + (2 * x3)))) (σ 2 ((3 + (2 * x3)) + 1)))), (0, vP 0), (1, vI x1), (3, vI x3)]) rfl rfl (ltb rfl) dX8_givesTold_67 ?_
      obtain ⟨g, h⟩ := h
      refine R_iinc (pc := 68) 4 rfl rfl g (ls' := [(3, vI (x3 + 1)), (2, vI (x2 - ((upM σ 7 x3 (Int.tdiv (x1 * (σ 2 (3 + (2 * x3)))) (σ 2 ((3 + (2 * x3)) + 1)))) 7 x3))), (4, vI (Int.tdiv (x1 * (σ 2 (3 + (2 * x3)))) (σ 2 ((3 + (2 * x3)) + 1)))), (0, vP 0), (1, vI x1)]) rfl (ltb rfl) dX8_givesTold_68 ?_
      refine R_goto (pc := 71) (tgt := 4) (by decide) dX8_givesTold_71 ?_
      refine R_sub [3, 4, 1, 0] rfl ?_
      exact h
theorem X8_givesTold_E {x1 : Int} {σ : Mem} {Q : Mem → Prop} (h : LX8_givesTold_4 x1 x1 0 σ Q) : CV layM MX8_givesTold [vP 0, vI x1] σ Q := by
  refine Cl.ofR (ls := [(0, vP 0), (1, vI x1)]) (show plainName RX8 = true by decide +kernel) (leb rfl) rfl ?_
  refine R_iload_n (pc := 0) 1 rfl rfl dX8_givesTold_0 ?_
  refine R_istore_n (pc := 1) (ls' := [(2, vI x1), (0, vP 0), (1, vI x1)]) rfl rfl (ltb rfl) dX8_givesTold_1 ?_
  refine R_iconst (pc := 2) (by decide) dX8_givesTold_2 ?_
  refine R_istore_n (pc := 3) (ls' := [(3, vI 0), (2, vI x1), (0, vP 0), (1, vI x1)]) rfl rfl (ltb rfl) dX8_givesTold_3 ?_
  refine R_sub [2, 3, 1, 0] rfl ?_
  exact h
theorem X8_in_E {x0 x2 x4 : Int} {σ : Mem} {Q : Int → Mem → Prop} (h : ((x0 < x2 → Q 0 σ) ∧ (x2 ≤ x0 → ((x4 < x0 → Q 0 σ) ∧ (x0 ≤ x4 → Q 1 σ))))) : CI layM MX8_in [vJ x0, vJ x2, vJ x4] σ Q := by
  refine Cl.ofR (ls := [(0, vJ x0), (2, vJ x2), (4, vJ x4)]) (show plainName RX8 = true by decide +kernel) (leb rfl) rfl ?_
  refine R_lload_n (pc := 0) 0 rfl rfl dX8_in_0 ?_
  refine R_lload_n (pc := 1) 1 rfl rfl dX8_in_1 ?_
  refine R_lcmp_lt (pc := 2) (tgt := 17) dX8_in_2 (by decide) dX8_in_3 (fun c => ?_) (fun c => ?_)
  · have h := h.1 c
    refine R_iconst (pc := 17) (by decide) dX8_in_17 ?_
    exact R_zret (pc := 18) rfl (by decide) dX8_in_18 ⟨_, rfl, h⟩
  · have h := h.2 c
    refine R_lload_n (pc := 6) 0 rfl rfl dX8_in_6 ?_
    refine R_lload (pc := 7) 2 rfl dX8_in_7 ?_
    refine R_lcmp_gt (pc := 9) (tgt := 17) dX8_in_9 (by decide) dX8_in_10 (fun c => ?_) (fun c => ?_)
    · have h := h.1 c
      refine R_iconst (pc := 17) (by decide) dX8_in_17 ?_
      exact R_zret (pc := 18) rfl (by decide) dX8_in_18 ⟨_, rfl, h⟩
    · have h := h.2 c
      refine R_iconst (pc := 13) (by decide) dX8_in_13 ?_
      refine R_goto (pc := 14) (tgt := 18) (by decide) dX8_in_14 ?_
      exact R_zret (pc := 18) rfl (by decide) dX8_in_18 ⟨_, rfl, h⟩
theorem X8_isOff_E {x1 x2 : Int} {σ : Mem} {Q : Int → Mem → Prop} (h : 0 ≤ x1 ∧ x1 < 5 ∧ I64 ((σ 7 x1) * (σ 0 16)) ∧ 0 ≤ x1 ∧ x1 < 5 ∧ I64 (x2 * (σ 6 x1)) ∧ I64 (((σ 7 x1) * (σ 0 16)) - (x2 * (σ 6 x1))) ∧ (((σ 0 16) ≤ (((σ 7 x1) * (σ 0 16)) - (x2 * (σ 6 x1))) → Q 1 σ) ∧ ((((σ 7 x1) * (σ 0 16)) - (x2 * (σ 6 x1))) < (σ 0 16) → I64 (-(σ 0 16)) ∧ (((-(σ 0 16)) < (((σ 7 x1) * (σ 0 16)) - (x2 * (σ 6 x1))) → Q 0 σ) ∧ ((((σ 7 x1) * (σ 0 16)) - (x2 * (σ 6 x1))) ≤ (-(σ 0 16)) → Q 1 σ))))) : CI layM MX8_isOff [vP 0, vI x1, vI x2] σ Q := by
  refine Cl.ofR (ls := [(0, vP 0), (1, vI x1), (2, vI x2)]) (show plainName RX8 = true by decide +kernel) (leb rfl) rfl ?_
  refine R_aload_n (pc := 0) 0 rfl rfl dX8_isOff_0 ?_
  refine R_getP (pc := 1) (q' := 7) lM_0 rfl flX8_30 dX8_isOff_1 ?_
  refine R_iload_n (pc := 4) 1 rfl rfl dX8_isOff_4 ?_
  obtain ⟨g0, g1, h⟩ := h
  refine R_iaload (pc := 5) lM_7 g0 g1 dX8_isOff_5 ?_
  refine R_i2l (pc := 6) dX8_isOff_6 ?_
  refine R_aload_n (pc := 7) 0 rfl rfl dX8_isOff_7 ?_
  refine R_getJ (pc := 8) lM_0 rfl flX8_145 dX8_isOff_8 ?_
  obtain ⟨g, h⟩ := h
  refine R_lmul (pc := 11) g dX8_isOff_11 ?_
  refine R_iload_n (pc := 12) 2 rfl rfl dX8_isOff_12 ?_
  refine R_i2l (pc := 13) dX8_isOff_13 ?_
  refine R_aload_n (pc := 14) 0 rfl rfl dX8_isOff_14 ?_
  refine R_getP (pc := 15) (q' := 6) lM_0 rfl flX8_26 dX8_isOff_15 ?_
  refine R_iload_n (pc := 18) 1 rfl rfl dX8_isOff_18 ?_
  obtain ⟨g0, g1, h⟩ := h
  refine R_laload (pc := 19) lM_6 g0 g1 dX8_isOff_19 ?_
  obtain ⟨g, h⟩ := h
  refine R_lmul (pc := 20) g dX8_isOff_20 ?_
  obtain ⟨g, h⟩ := h
  refine R_lsub (pc := 21) g dX8_isOff_21 ?_
  refine R_lstore_n (pc := 22) (ls' := [(3, vJ (((σ 7 x1) * (σ 0 16)) - (x2 * (σ 6 x1)))), (0, vP 0), (1, vI x1), (2, vI x2)]) rfl rfl (ltb rfl) dX8_isOff_22 ?_
  refine R_lload_n (pc := 23) 0 rfl rfl dX8_isOff_23 ?_
  refine R_aload_n (pc := 24) 1 rfl rfl dX8_isOff_24 ?_
  refine R_getJ (pc := 25) lM_0 rfl flX8_145 dX8_isOff_25 ?_
  refine R_lcmp_ge (pc := 28) (tgt := 42) dX8_isOff_28 (by decide) dX8_isOff_29 (fun c => ?_) (fun c => ?_)
  · have h := h.1 c
    refine R_iconst (pc := 42) (by decide) dX8_isOff_42 ?_
    refine R_goto (pc := 43) (tgt := 47) (by decide) dX8_isOff_43 ?_
    exact R_zret (pc := 47) rfl (by decide) dX8_isOff_47 ⟨_, rfl, h⟩
  · have h := h.2 c
    refine R_lload_n (pc := 32) 0 rfl rfl dX8_isOff_32 ?_
    refine R_aload_n (pc := 33) 1 rfl rfl dX8_isOff_33 ?_
    refine R_getJ (pc := 34) lM_0 rfl flX8_145 dX8_isOff_34 ?_
    obtain ⟨g, h⟩ := h
    refine R_lneg (pc := 37) g dX8_isOff_37 ?_
    refine R_lcmp_gt (pc := 38) (tgt := 46) dX8_isOff_38 (by decide) dX8_isOff_39 (fun c => ?_) (fun c => ?_)
    · have h := h.1 c
      refine R_iconst (pc := 46) (by decide) dX8_isOff_46 ?_
      exact R_zret (pc := 47) rfl (by decide) dX8_isOff_47 ⟨_, rfl, h⟩
    · have h := h.2 c
      refine R_iconst (pc := 42) (by decide) dX8_isOff_42 ?_
      refine R_goto (pc := 43) (tgt := 47) (by decide) dX8_isOff_43 ?_
      exact R_zret (pc := 47) rfl (by decide) dX8_isOff_47 ⟨_, rfl, h⟩
def LX8_isSo_4 (x1 : Int) (x2 : Int) (σ : Mem) (Q : Int → Mem → Prop) : Prop := Rn layM MX8_isSo 4 [(0, vP 0), (1, vI x1), (2, vI x2)] [] σ (qI Q)
theorem X8_isSo_4 {x1 x2 : Int} {σ : Mem} {Q : Int → Mem → Prop} (h : (((σ 1 13) ≤ x2 → (x1 = 0 ∨ x1 = 1) ∧ Q x1 σ) ∧ (x2 < (σ 1 13) → I32 (2 * x2) ∧ I32 (14 + (2 * x2)) ∧ 0 ≤ 14 + (2 * x2) ∧ 14 + (2 * x2) < 78 ∧ ((x1 = 0 → I32 (x2 + 1) ∧ LX8_isSo_4 0 (x2 + 1) σ Q) ∧ (x1 ≠ 0 → (((σ 2 1) ≤ (σ 1 (14 + (2 * x2))) → I32 (x2 + 1) ∧ LX8_isSo_4 0 (x2 + 1) σ Q) ∧ ((σ 1 (14 + (2 * x2))) < (σ 2 1) → 0 ≤ σ 1 (14 + (2 * x2)) ∧ σ 1 (14 + (2 * x2)) < 5 ∧ I32 (2 * x2) ∧ I32 (14 + (2 * x2)) ∧ I32 ((14 + (2 * x2)) + 1) ∧ 0 ≤ (14 + (2 * x2)) + 1 ∧ (14 + (2 * x2)) + 1 < 78 ∧ (((σ 7 (σ 1 (14 + (2 * x2)))) ≠ (σ 1 ((14 + (2 * x2)) + 1)) → I32 (x2 + 1) ∧ LX8_isSo_4 0 (x2 + 1) σ Q) ∧ ((σ 7 (σ 1 (14 + (2 * x2)))) = (σ 1 ((14 + (2 * x2)) + 1)) → I32 (x2 + 1) ∧ LX8_isSo_4 1 (x2 + 1) σ Q))))))))) : LX8_isSo_4 x1 x2 σ Q := by
  unfold LX8_isSo_4
  refine R_iload_n (pc := 4) 2 rfl rfl dX8_isSo_4 ?_
  refine R_aload_n (pc := 5) 0 rfl rfl dX8_isSo_5 ?_
  refine R_getP (pc := 6) (q' := 1) lM_0 rfl flX8_7 dX8_isSo_6 ?_
  refine R_bipush (pc := 9) (by decide) dX8_isSo_9 ?_
  have g0 : (0 : Int) ≤ 13 := by decide
  have g1 : (13 : Int) < 78 := by decide
  refine R_iaload (pc := 11) lM_1 g0 g1 dX8_isSo_11 ?_
  refine R_icmp_ge (pc := 12) (tgt := 75) (by decide) dX8_isSo_12 (fun c => ?_) (fun c => ?_)
  · have h := h.1 c
    refine R_iload_n (pc := 75) 1 rfl rfl dX8_isSo_75 ?_
    obtain ⟨g, h⟩ := h
    exact R_zret (pc := 76) rfl g dX8_isSo_76 ⟨_, rfl, h⟩
  · have h := h.2 c
    refine R_aload_n (pc := 15) 0 rfl rfl dX8_isSo_15 ?_
    refine R_getP (pc := 16) (q' := 1) lM_0 rfl flX8_7 dX8_isSo_16 ?_
    refine R_bipush (pc := 19) (by decide) dX8_isSo_19 ?_
    refine R_iconst (pc := 21) (by decide) dX8_isSo_21 ?_
    refine R_iload_n (pc := 22) 2 rfl rfl dX8_isSo_22 ?_
    obtain ⟨g, h⟩ := h
    refine R_imul (pc := 23) g dX8_isSo_23 ?_
    obtain ⟨g, h⟩ := h
    refine R_iadd (pc := 24) g dX8_isSo_24 ?_
    obtain ⟨g0, g1, h⟩ := h
    refine R_iaload (pc := 25) lM_1 g0 g1 dX8_isSo_25 ?_
    refine R_istore_n (pc := 26) (ls' := [(3, vI (σ 1 (14 + (2 * x2)))), (0, vP 0), (1, vI x1), (2, vI x2)]) rfl rfl (ltb rfl) dX8_isSo_26 ?_
    refine R_iload_n (pc := 27) 2 rfl rfl dX8_isSo_27 ?_
    refine R_if_eq (pc := 28) (tgt := 67) (by decide) dX8_isSo_28 (fun c => ?_) (fun c => ?_)
    · have h := h.1 c
      refine R_iconst (pc := 67) (by decide) dX8_isSo_67 ?_
      refine R_istore_n (pc := 68) (ls' := [(1, vI 0), (3, vI (σ 1 (14 + (2 * x2)))), (0, vP 0), (2, vI x2)]) rfl rfl (ltb rfl) dX8_isSo_68 ?_
      obtain ⟨g, h⟩ := h
      refine R_iinc (pc := 69) 3 rfl rfl g (ls' := [(2, vI (x2 + 1)), (1, vI 0), (3, vI (σ 1 (14 + (2 * x2)))), (0, vP 0)]) rfl (ltb rfl) dX8_isSo_69 ?_
      refine R_goto (pc := 72) (tgt := 4) (by decide) dX8_isSo_72 ?_
      refine R_sub [3, 1, 0] rfl ?_
      exact h
    · have h := h.2 c
      refine R_iload_n (pc := 31) 0 rfl rfl dX8_isSo_31 ?_
      refine R_aload_n (pc := 32) 1 rfl rfl dX8_isSo_32 ?_
      refine R_getP (pc := 33) (q' := 2) lM_0 rfl flX8_13 dX8_isSo_33 ?_
      refine R_iconst (pc := 36) (by decide) dX8_isSo_36 ?_
      have g0 : (0 : Int) ≤ 1 := by decide
      have g1 : (1 : Int) < 26 := by decide
      refine R_iaload (pc := 37) lM_2 g0 g1 dX8_isSo_37 ?_
      refine R_icmp_ge (pc := 38) (tgt := 67) (by decide) dX8_isSo_38 (fun c => ?_) (fun c => ?_)
      · have h := h.1 c
        refine R_iconst (pc := 67) (by decide) dX8_isSo_67 ?_
        refine R_istore_n (pc := 68) (ls' := [(1, vI 0), (3, vI (σ 1 (14 + (2 * x2)))), (0, vP 0), (2, vI x2)]) rfl rfl (ltb rfl) dX8_isSo_68 ?_
        obtain ⟨g, h⟩ := h
        refine R_iinc (pc := 69) 3 rfl rfl g (ls' := [(2, vI (x2 + 1)), (1, vI 0), (3, vI (σ 1 (14 + (2 * x2)))), (0, vP 0)]) rfl (ltb rfl) dX8_isSo_69 ?_
        refine R_goto (pc := 72) (tgt := 4) (by decide) dX8_isSo_72 ?_
        refine R_sub [3, 1, 0] rfl ?_
        exact h
      · have h := h.2 c
        refine R_aload_n (pc := 41) 1 rfl rfl dX8_isSo_41 ?_
        refine R_getP (pc := 42) (q' := 7) lM_0 rfl flX8_30 dX8_isSo_42 ?_
        refine R_iload_n (pc := 45) 0 rfl rfl dX8_isSo_45 ?_
        obtain ⟨g0, g1, h⟩ := h
        refine R_iaload (pc := 46) lM_7 g0 g1 dX8_isSo_46 ?_
        refine R_aload_n (pc := 47) 1 rfl rfl dX8_isSo_47 ?_
        refine R_getP (pc := 48) (q' := 1) lM_0 rfl flX8_7 dX8_isSo_48 ?_
        refine R_bipush (pc := 51) (by decide) dX8_isSo_51 ?_
        refine R_iconst (pc := 53) (by decide) dX8_isSo_53 ?_
        refine R_iload_n (pc := 54) 3 rfl rfl dX8_isSo_54 ?_
        obtain ⟨g, h⟩ := h
        refine R_imul (pc := 55) g dX8_isSo_55 ?_
        obtain ⟨g, h⟩ := h
        refine R_iadd (pc := 56) g dX8_isSo_56 ?_
        refine R_iconst (pc := 57) (by decide) dX8_isSo_57 ?_
        obtain ⟨g, h⟩ := h
        refine R_iadd (pc := 58) g dX8_isSo_58 ?_
        obtain ⟨g0, g1, h⟩ := h
        refine R_iaload (pc := 59) lM_1 g0 g1 dX8_isSo_59 ?_
        refine R_icmp_ne (pc := 60) (tgt := 67) (by decide) dX8_isSo_60 (fun c => ?_) (fun c => ?_)
        · have h := h.1 c
          refine R_iconst (pc := 67) (by decide) dX8_isSo_67 ?_
          refine R_istore_n (pc := 68) (ls' := [(1, vI 0), (3, vI (σ 1 (14 + (2 * x2)))), (0, vP 0), (2, vI x2)]) rfl rfl (ltb rfl) dX8_isSo_68 ?_
          obtain ⟨g, h⟩ := h
          refine R_iinc (pc := 69) 3 rfl rfl g (ls' := [(2, vI (x2 + 1)), (1, vI 0), (3, vI (σ 1 (14 + (2 * x2)))), (0, vP 0)]) rfl (ltb rfl) dX8_isSo_69 ?_
          refine R_goto (pc := 72) (tgt := 4) (by decide) dX8_isSo_72 ?_
          refine R_sub [3, 1, 0] rfl ?_
          exact h
        · have h := h.2 c
          refine R_iconst (pc := 63) (by decide) dX8_isSo_63 ?_
          refine R_goto (pc := 64) (tgt := 68) (by decide) dX8_isSo_64 ?_
          refine R_istore_n (pc := 68) (ls' := [(1, vI 1), (3, vI (σ 1 (14 + (2 * x2)))), (0, vP 0), (2, vI x2)]) rfl rfl (ltb rfl) dX8_isSo_68 ?_
          obtain ⟨g, h⟩ := h
          refine R_iinc (pc := 69) 3 rfl rfl g (ls' := [(2, vI (x2 + 1)), (1, vI 1), (3, vI (σ 1 (14 + (2 * x2)))), (0, vP 0)]) rfl (ltb rfl) dX8_isSo_69 ?_
          refine R_goto (pc := 72) (tgt := 4) (by decide) dX8_isSo_72 ?_
          refine R_sub [3, 1, 0] rfl ?_
          exact h
theorem X8_isSo_E {σ : Mem} {Q : Int → Mem → Prop} (h : LX8_isSo_4 1 0 σ Q) : CI layM MX8_isSo [vP 0] σ Q := by
  refine Cl.ofR (ls := [(0, vP 0)]) (show plainName RX8 = true by decide +kernel) (leb rfl) rfl ?_
  refine R_iconst (pc := 0) (by decide) dX8_isSo_0 ?_
  refine R_istore_n (pc := 1) (ls' := [(1, vI 1), (0, vP 0)]) rfl rfl (ltb rfl) dX8_isSo_1 ?_
  refine R_iconst (pc := 2) (by decide) dX8_isSo_2 ?_
  refine R_istore_n (pc := 3) (ls' := [(2, vI 0), (1, vI 1), (0, vP 0)]) rfl rfl (ltb rfl) dX8_isSo_3 ?_
  refine R_sub [2, 1, 0] rfl ?_
  exact h
theorem X8_isWhole_E {x1 x2 : Int} {σ : Mem} {Q : Int → Mem → Prop} (h : I32 (2 * x1) ∧ I32 (3 + (2 * x1)) ∧ 0 ≤ 3 + (2 * x1) ∧ 3 + (2 * x1) < 78 ∧ I32 (x2 * (σ 1 (3 + (2 * x1)))) ∧ I32 (2 * x1) ∧ I32 (3 + (2 * x1)) ∧ I32 ((3 + (2 * x1)) + 1) ∧ 0 ≤ (3 + (2 * x1)) + 1 ∧ (3 + (2 * x1)) + 1 < 78 ∧ (σ 1 ((3 + (2 * x1)) + 1)) ≠ 0 ∧ (((Int.tmod (x2 * (σ 1 (3 + (2 * x1)))) (σ 1 ((3 + (2 * x1)) + 1))) ≠ 0 → Q 0 σ) ∧ ((Int.tmod (x2 * (σ 1 (3 + (2 * x1)))) (σ 1 ((3 + (2 * x1)) + 1))) = 0 → Q 1 σ))) : CI layM MX8_isWhole [vP 0, vI x1, vI x2] σ Q := by
  refine Cl.ofR (ls := [(0, vP 0), (1, vI x1), (2, vI x2)]) (show plainName RX8 = true by decide +kernel) (leb rfl) rfl ?_
  refine R_iload_n (pc := 0) 2 rfl rfl dX8_isWhole_0 ?_
  refine R_aload_n (pc := 1) 0 rfl rfl dX8_isWhole_1 ?_
  refine R_getP (pc := 2) (q' := 1) lM_0 rfl flX8_7 dX8_isWhole_2 ?_
  refine R_iconst (pc := 5) (by decide) dX8_isWhole_5 ?_
  refine R_iconst (pc := 6) (by decide) dX8_isWhole_6 ?_
  refine R_iload_n (pc := 7) 1 rfl rfl dX8_isWhole_7 ?_
  obtain ⟨g, h⟩ := h
  refine R_imul (pc := 8) g dX8_isWhole_8 ?_
  obtain ⟨g, h⟩ := h
  refine R_iadd (pc := 9) g dX8_isWhole_9 ?_
  obtain ⟨g0, g1, h⟩ := h
  refine R_iaload (pc := 10) lM_1 g0 g1 dX8_isWhole_10 ?_
  obtain ⟨g, h⟩ := h
  refine R_imul (pc := 11) g dX8_isWhole_11 ?_
  refine R_aload_n (pc := 12) 0 rfl rfl dX8_isWhole_12 ?_
  refine R_getP (pc := 13) (q' := 1) lM_0 rfl flX8_7 dX8_isWhole_13 ?_
  refine R_iconst (pc := 16) (by decide) dX8_isWhole_16 ?_
  refine R_iconst (pc := 17) (by decide) dX8_isWhole_17 ?_
  refine R_iload_n (pc := 18) 1 rfl rfl dX8_isWhole_18 ?_
  obtain ⟨g, h⟩ := h
  refine R_imul (pc := 19) g dX8_isWhole_19 ?_
  obtain ⟨g, h⟩ := h
  refine R_iadd (pc := 20) g dX8_isWhole_20 ?_
  refine R_iconst (pc := 21) (by decide) dX8_isWhole_21 ?_
  obtain ⟨g, h⟩ := h
  refine R_iadd (pc := 22) g dX8_isWhole_22 ?_
  obtain ⟨g0, g1, h⟩ := h
  refine R_iaload (pc := 23) lM_1 g0 g1 dX8_isWhole_23 ?_
  obtain ⟨g0, h⟩ := h
  refine R_irem (pc := 24) g0 dX8_isWhole_24 ?_
  refine R_if_ne (pc := 25) (tgt := 32) (by decide) dX8_isWhole_25 (fun c => ?_) (fun c => ?_)
  · have h := h.1 c
    refine R_iconst (pc := 32) (by decide) dX8_isWhole_32 ?_
    exact R_zret (pc := 33) rfl (by decide) dX8_isWhole_33 ⟨_, rfl, h⟩
  · have h := h.2 c
    refine R_iconst (pc := 28) (by decide) dX8_isWhole_28 ?_
    refine R_goto (pc := 29) (tgt := 33) (by decide) dX8_isWhole_29 ?_
    exact R_zret (pc := 33) rfl (by decide) dX8_isWhole_33 ⟨_, rfl, h⟩
def LX8_keepDraft_2 (x1 : Int) (σ : Mem) (Q : Mem → Prop) : Prop := Rn layM MX8_keepDraft 2 [(0, vP 0), (1, vI x1)] [] σ (qV Q)
theorem X8_keepDraft_2 {x1 : Int} {σ : Mem} {Q : Mem → Prop} (h : ((26 ≤ x1 → Q (upM (upM σ 3 0 0) 3 1 0)) ∧ (x1 < 26 → 0 ≤ x1 ∧ x1 < 26 ∧ 0 ≤ x1 ∧ x1 < 78 ∧ I32 (x1 + 1) ∧ LX8_keepDraft_2 (x1 + 1) (upM σ 1 x1 (σ 4 x1)) Q))) : LX8_keepDraft_2 x1 σ Q := by
  unfold LX8_keepDraft_2
  refine R_iload_n (pc := 2) 1 rfl rfl dX8_keepDraft_2 ?_
  refine R_bipush (pc := 3) (by decide) dX8_keepDraft_3 ?_
  refine R_icmp_ge (pc := 5) (tgt := 26) (by decide) dX8_keepDraft_5 (fun c => ?_) (fun c => ?_)
  · have h := h.1 c
    refine R_aload_n (pc := 26) 0 rfl rfl dX8_keepDraft_26 ?_
    refine R_getP (pc := 27) (q' := 3) lM_0 rfl flX8_16 dX8_keepDraft_27 ?_
    refine R_iconst (pc := 30) (by decide) dX8_keepDraft_30 ?_
    refine R_iconst (pc := 31) (by decide) dX8_keepDraft_31 ?_
    have g0 : (0 : Int) ≤ 0 := by decide
    have g1 : (0 : Int) < 2 := by decide
    refine R_zastore (pc := 32) (by decide) lM_3 g0 g1 dX8_keepDraft_32 ?_
    refine R_aload_n (pc := 33) 0 rfl rfl dX8_keepDraft_33 ?_
    refine R_getP (pc := 34) (q' := 3) lM_0 rfl flX8_16 dX8_keepDraft_34 ?_
    refine R_iconst (pc := 37) (by decide) dX8_keepDraft_37 ?_
    refine R_iconst (pc := 38) (by decide) dX8_keepDraft_38 ?_
    have g0 : (0 : Int) ≤ 1 := by decide
    have g1 : (1 : Int) < 2 := by decide
    refine R_zastore (pc := 39) (by decide) lM_3 g0 g1 dX8_keepDraft_39 ?_
    exact R_vret (pc := 40) rfl dX8_keepDraft_40 ⟨rfl, h⟩
  · have h := h.2 c
    refine R_aload_n (pc := 8) 0 rfl rfl dX8_keepDraft_8 ?_
    refine R_getP (pc := 9) (q' := 1) lM_0 rfl flX8_7 dX8_keepDraft_9 ?_
    refine R_iload_n (pc := 12) 1 rfl rfl dX8_keepDraft_12 ?_
    refine R_aload_n (pc := 13) 0 rfl rfl dX8_keepDraft_13 ?_
    refine R_getP (pc := 14) (q' := 4) lM_0 rfl flX8_20 dX8_keepDraft_14 ?_
    refine R_iload_n (pc := 17) 1 rfl rfl dX8_keepDraft_17 ?_
    obtain ⟨g0, g1, h⟩ := h
    refine R_iaload (pc := 18) lM_4 g0 g1 dX8_keepDraft_18 ?_
    obtain ⟨g0, g1, h⟩ := h
    refine R_iastore (pc := 19) lM_1 g0 g1 dX8_keepDraft_19 ?_
    obtain ⟨g, h⟩ := h
    refine R_iinc (pc := 20) 1 rfl rfl g (ls' := [(1, vI (x1 + 1)), (0, vP 0)]) rfl (ltb rfl) dX8_keepDraft_20 ?_
    refine R_goto (pc := 23) (tgt := 2) (by decide) dX8_keepDraft_23 ?_
    refine R_sub [1, 0] rfl ?_
    exact h
theorem X8_keepDraft_E {σ : Mem} {Q : Mem → Prop} (h : LX8_keepDraft_2 0 σ Q) : CV layM MX8_keepDraft [vP 0] σ Q := by
  refine Cl.ofR (ls := [(0, vP 0)]) (show plainName RX8 = true by decide +kernel) (leb rfl) rfl ?_
  refine R_iconst (pc := 0) (by decide) dX8_keepDraft_0 ?_
  refine R_istore_n (pc := 1) (ls' := [(1, vI 0), (0, vP 0)]) rfl rfl (ltb rfl) dX8_keepDraft_1 ?_
  refine R_sub [1, 0] rfl ?_
  exact h
theorem X8_needs_E {x1 x2 : Int} {σ : Mem} {Q : Mem → Prop} (h : ((x1 ≠ 0 → Q σ) ∧ (x1 = 0 → (((σ 0 12) ≠ 0 → Q σ) ∧ ((σ 0 12) = 0 → Q (upM (upM σ 0 12 x2) 0 13 ((upM σ 0 12 x2) 0 9))))))) : CV layM MX8_needs [vP 0, vI x1, vI x2] σ Q := by
  refine Cl.ofR (ls := [(0, vP 0), (1, vI x1), (2, vI x2)]) (show plainName RX8 = true by decide +kernel) (leb rfl) rfl ?_
  refine R_iload_n (pc := 0) 1 rfl rfl dX8_needs_0 ?_
  refine R_if_ne (pc := 1) (tgt := 24) (by decide) dX8_needs_1 (fun c => ?_) (fun c => ?_)
  · have h := h.1 c
    exact R_vret (pc := 24) rfl dX8_needs_24 ⟨rfl, h⟩
  · have h := h.2 c
    refine R_aload_n (pc := 4) 0 rfl rfl dX8_needs_4 ?_
    refine R_getI (pc := 5) lM_0 rfl flX8_83 dX8_needs_5 ?_
    refine R_if_ne (pc := 8) (tgt := 24) (by decide) dX8_needs_8 (fun c => ?_) (fun c => ?_)
    · have h := h.1 c
      exact R_vret (pc := 24) rfl dX8_needs_24 ⟨rfl, h⟩
    · have h := h.2 c
      refine R_aload_n (pc := 11) 0 rfl rfl dX8_needs_11 ?_
      refine R_iload_n (pc := 12) 2 rfl rfl dX8_needs_12 ?_
      refine R_putI (pc := 13) lM_0 rfl fpX8_83 dX8_needs_13 ?_
      refine R_aload_n (pc := 16) 0 rfl rfl dX8_needs_16 ?_
      refine R_aload_n (pc := 17) 0 rfl rfl dX8_needs_17 ?_
      refine R_getI (pc := 18) lM_0 rfl flX8_86 dX8_needs_18 ?_
      refine R_putI (pc := 21) lM_0 rfl fpX8_89 dX8_needs_21 ?_
      exact R_vret (pc := 24) rfl dX8_needs_24 ⟨rfl, h⟩
theorem X8_ofThree_E {x1 x2 x3 x4 : Int} {σ : Mem} {Q : Int → Mem → Prop} (h : ((x1 ≠ 0 → ((x1 ≠ 1 → Q x4 σ) ∧ (x1 = 1 → Q x3 σ))) ∧ (x1 = 0 → Q x2 σ))) : CI layM MX8_ofThree [vP 0, vI x1, vI x2, vI x3, vI x4] σ Q := by
  refine Cl.ofR (ls := [(0, vP 0), (1, vI x1), (2, vI x2), (3, vI x3), (4, vI x4)]) (show plainName RX8 = true by decide +kernel) (leb rfl) rfl ?_
  refine R_iload_n (pc := 0) 1 rfl rfl dX8_ofThree_0 ?_
  refine R_if_ne (pc := 1) (tgt := 8) (by decide) dX8_ofThree_1 (fun c => ?_) (fun c => ?_)
  · have h := h.1 c
    refine R_iload_n (pc := 8) 1 rfl rfl dX8_ofThree_8 ?_
    refine R_iconst (pc := 9) (by decide) dX8_ofThree_9 ?_
    refine R_icmp_ne (pc := 10) (tgt := 17) (by decide) dX8_ofThree_10 (fun c => ?_) (fun c => ?_)
    · have h := h.1 c
      refine R_iload (pc := 17) 4 rfl dX8_ofThree_17 ?_
      exact R_iret (pc := 19) rfl dX8_ofThree_19 ⟨_, rfl, h⟩
    · have h := h.2 c
      refine R_iload_n (pc := 13) 3 rfl rfl dX8_ofThree_13 ?_
      refine R_goto (pc := 14) (tgt := 19) (by decide) dX8_ofThree_14 ?_
      exact R_iret (pc := 19) rfl dX8_ofThree_19 ⟨_, rfl, h⟩
  · have h := h.2 c
    refine R_iload_n (pc := 4) 2 rfl rfl dX8_ofThree_4 ?_
    refine R_goto (pc := 5) (tgt := 19) (by decide) dX8_ofThree_5 ?_
    exact R_iret (pc := 19) rfl dX8_ofThree_19 ⟨_, rfl, h⟩
def LX8_reckons_12 (x1 : Int) (σ : Mem) (Q : Mem → Prop) : Prop := Rn layM MX8_reckons 12 [(0, vP 0), (1, vI x1)] [] σ (qV Q)
def LX8_reckons_52 (x1 : Int) (σ : Mem) (Q : Mem → Prop) : Prop := Rn layM MX8_reckons 52 [(0, vP 0), (1, vI x1)] [] σ (qV Q)
theorem X8_reckons_12 {x1 : Int} {σ : Mem} {Q : Mem → Prop} (h : (((σ 2 1) ≤ x1 → LX8_reckons_52 0 σ Q) ∧ (x1 < (σ 2 1) → I32 (2 * x1) ∧ I32 (3 + (2 * x1)) ∧ I32 ((3 + (2 * x1)) + 1) ∧ 0 ≤ (3 + (2 * x1)) + 1 ∧ (3 + (2 * x1)) + 1 < 26 ∧ I64 ((σ 0 15) * (σ 2 ((3 + (2 * x1)) + 1))) ∧ I32 (x1 + 1) ∧ LX8_reckons_12 (x1 + 1) (upM σ 0 15 ((σ 0 15) * (σ 2 ((3 + (2 * x1)) + 1)))) Q))) : LX8_reckons_12 x1 σ Q := by
  unfold LX8_reckons_12
  refine R_iload_n (pc := 12) 1 rfl rfl dX8_reckons_12 ?_
  refine R_aload_n (pc := 13) 0 rfl rfl dX8_reckons_13 ?_
  refine R_getP (pc := 14) (q' := 2) lM_0 rfl flX8_13 dX8_reckons_14 ?_
  refine R_iconst (pc := 17) (by decide) dX8_reckons_17 ?_
  have g0 : (0 : Int) ≤ 1 := by decide
  have g1 : (1 : Int) < 26 := by decide
  refine R_iaload (pc := 18) lM_2 g0 g1 dX8_reckons_18 ?_
  refine R_icmp_ge (pc := 19) (tgt := 50) (by decide) dX8_reckons_19 (fun c => ?_) (fun c => ?_)
  · have h := h.1 c
    refine R_iconst (pc := 50) (by decide) dX8_reckons_50 ?_
    refine R_istore_n (pc := 51) (ls' := [(1, vI 0), (0, vP 0)]) rfl rfl (ltb rfl) dX8_reckons_51 ?_
    refine R_sub [1, 0] rfl ?_
    exact h
  · have h := h.2 c
    refine R_aload_n (pc := 22) 0 rfl rfl dX8_reckons_22 ?_
    refine R_dup (pc := 23) rfl dX8_reckons_23 ?_
    refine R_getJ (pc := 24) lM_0 rfl flX8_141 dX8_reckons_24 ?_
    refine R_aload_n (pc := 27) 0 rfl rfl dX8_reckons_27 ?_
    refine R_getP (pc := 28) (q' := 2) lM_0 rfl flX8_13 dX8_reckons_28 ?_
    refine R_iconst (pc := 31) (by decide) dX8_reckons_31 ?_
    refine R_iconst (pc := 32) (by decide) dX8_reckons_32 ?_
    refine R_iload_n (pc := 33) 1 rfl rfl dX8_reckons_33 ?_
    obtain ⟨g, h⟩ := h
    refine R_imul (pc := 34) g dX8_reckons_34 ?_
    obtain ⟨g, h⟩ := h
    refine R_iadd (pc := 35) g dX8_reckons_35 ?_
    refine R_iconst (pc := 36) (by decide) dX8_reckons_36 ?_
    obtain ⟨g, h⟩ := h
    refine R_iadd (pc := 37) g dX8_reckons_37 ?_
    obtain ⟨g0, g1, h⟩ := h
    refine R_iaload (pc := 38) lM_2 g0 g1 dX8_reckons_38 ?_
    refine R_i2l (pc := 39) dX8_reckons_39 ?_
    obtain ⟨g, h⟩ := h
    refine R_lmul (pc := 40) g dX8_reckons_40 ?_
    refine R_putJ (pc := 41) lM_0 rfl fpX8_141 dX8_reckons_41 ?_
    obtain ⟨g, h⟩ := h
    refine R_iinc (pc := 44) 1 rfl rfl g (ls' := [(1, vI (x1 + 1)), (0, vP 0)]) rfl (ltb rfl) dX8_reckons_44 ?_
    refine R_goto (pc := 47) (tgt := 12) (by decide) dX8_reckons_47 ?_
    refine R_sub [1, 0] rfl ?_
    exact h
theorem X8_reckons_52 {x1 : Int} {σ : Mem} {Q : Mem → Prop} (h : (((σ 2 1) ≤ x1 → Q σ) ∧ (x1 < (σ 2 1) → I32 (2 * x1) ∧ I32 (3 + (2 * x1)) ∧ I32 ((3 + (2 * x1)) + 1) ∧ 0 ≤ (3 + (2 * x1)) + 1 ∧ (3 + (2 * x1)) + 1 < 26 ∧ (σ 2 ((3 + (2 * x1)) + 1)) ≠ 0 ∧ I64 (Int.tdiv (σ 0 15) (σ 2 ((3 + (2 * x1)) + 1))) ∧ I32 (2 * x1) ∧ I32 (3 + (2 * x1)) ∧ 0 ≤ 3 + (2 * x1) ∧ 3 + (2 * x1) < 26 ∧ I64 ((Int.tdiv (σ 0 15) (σ 2 ((3 + (2 * x1)) + 1))) * (σ 2 (3 + (2 * x1)))) ∧ 0 ≤ x1 ∧ x1 < 5 ∧ 0 ≤ x1 ∧ x1 < 5 ∧ I64 (((upM σ 6 x1 ((Int.tdiv (σ 0 15) (σ 2 ((3 + (2 * x1)) + 1))) * (σ 2 (3 + (2 * x1))))) 0 16) + ((upM σ 6 x1 ((Int.tdiv (σ 0 15) (σ 2 ((3 + (2 * x1)) + 1))) * (σ 2 (3 + (2 * x1))))) 6 x1)) ∧ I32 (x1 + 1) ∧ LX8_reckons_52 (x1 + 1) (upM (upM σ 6 x1 ((Int.tdiv (σ 0 15) (σ 2 ((3 + (2 * x1)) + 1))) * (σ 2 (3 + (2 * x1))))) 0 16 (((upM σ 6 x1 ((Int.tdiv (σ 0 15) (σ 2 ((3 + (2 * x1)) + 1))) * (σ 2 (3 + (2 * x1))))) 0 16) + ((upM σ 6 x1 ((Int.tdiv (σ 0 15) (σ 2 ((3 + (2 * x1)) + 1))) * (σ 2 (3 + (2 * x1))))) 6 x1))) Q))) : LX8_reckons_52 x1 σ Q := by
  unfold LX8_reckons_52
  refine R_iload_n (pc := 52) 1 rfl rfl dX8_reckons_52 ?_
  refine R_aload_n (pc := 53) 0 rfl rfl dX8_reckons_53 ?_
  refine R_getP (pc := 54) (q' := 2) lM_0 rfl flX8_13 dX8_reckons_54 ?_
  refine R_iconst (pc := 57) (by decide) dX8_reckons_57 ?_
  have g0 : (0 : Int) ≤ 1 := by decide
  have g1 : (1 : Int) < 26 := by decide
  refine R_iaload (pc := 58) lM_2 g0 g1 dX8_reckons_58 ?_
  refine R_icmp_ge (pc := 59) (tgt := 119) (by decide) dX8_reckons_59 (fun c => ?_) (fun c => ?_)
  · have h := h.1 c
    exact R_vret (pc := 119) rfl dX8_reckons_119 ⟨rfl, h⟩
  · have h := h.2 c
    refine R_aload_n (pc := 62) 0 rfl rfl dX8_reckons_62 ?_
    refine R_getP (pc := 63) (q' := 6) lM_0 rfl flX8_26 dX8_reckons_63 ?_
    refine R_iload_n (pc := 66) 1 rfl rfl dX8_reckons_66 ?_
    refine R_aload_n (pc := 67) 0 rfl rfl dX8_reckons_67 ?_
    refine R_getJ (pc := 68) lM_0 rfl flX8_141 dX8_reckons_68 ?_
    refine R_aload_n (pc := 71) 0 rfl rfl dX8_reckons_71 ?_
    refine R_getP (pc := 72) (q' := 2) lM_0 rfl flX8_13 dX8_reckons_72 ?_
    refine R_iconst (pc := 75) (by decide) dX8_reckons_75 ?_
    refine R_iconst (pc := 76) (by decide) dX8_reckons_76 ?_
    refine R_iload_n (pc := 77) 1 rfl rfl dX8_reckons_77 ?_
    obtain ⟨g, h⟩ := h
    refine R_imul (pc := 78) g dX8_reckons_78 ?_
    obtain ⟨g, h⟩ := h
    refine R_iadd (pc := 79) g dX8_reckons_79 ?_
    refine R_iconst (pc := 80) (by decide) dX8_reckons_80 ?_
    obtain ⟨g, h⟩ := h
    refine R_iadd (pc := 81) g dX8_reckons_81 ?_
    obtain ⟨g0, g1, h⟩ := h
    refine R_iaload (pc := 82) lM_2 g0 g1 dX8_reckons_82 ?_
    refine R_i2l (pc := 83) dX8_reckons_83 ?_
    obtain ⟨g0, h⟩ := h
    obtain ⟨g, h⟩ := h
    refine R_ldiv (pc := 84) g0 g dX8_reckons_84 ?_
    refine R_aload_n (pc := 85) 0 rfl rfl dX8_reckons_85 ?_
    refine R_getP (pc := 86) (q' := 2) lM_0 rfl flX8_13 dX8_reckons_86 ?_
    refine R_iconst (pc := 89) (by decide) dX8_reckons_89 ?_
    refine R_iconst (pc := 90) (by decide) dX8_reckons_90 ?_
    refine R_iload_n (pc := 91) 1 rfl rfl dX8_reckons_91 ?_
    obtain ⟨g, h⟩ := h
    refine R_imul (pc := 92) g dX8_reckons_92 ?_
    obtain ⟨g, h⟩ := h
    refine R_iadd (pc := 93) g dX8_reckons_93 ?_
    obtain ⟨g0, g1, h⟩ := h
    refine R_iaload (pc := 94) lM_2 g0 g1 dX8_reckons_94 ?_
    refine R_i2l (pc := 95) dX8_reckons_95 ?_
    obtain ⟨g, h⟩ := h
    refine R_lmul (pc := 96) g dX8_reckons_96 ?_
    obtain ⟨g0, g1, h⟩ := h
    refine R_lastore (pc := 97) lM_6 g0 g1 dX8_reckons_97 ?_
    refine R_aload_n (pc := 98) 0 rfl rfl dX8_reckons_98 ?_
    refine R_dup (pc := 99) rfl dX8_reckons_99 ?_
    refine R_getJ (pc := 100) lM_0 rfl flX8_145 dX8_reckons_100 ?_
    refine R_aload_n (pc := 103) 0 rfl rfl dX8_reckons_103 ?_
    refine R_getP (pc := 104) (q' := 6) lM_0 rfl flX8_26 dX8_reckons_104 ?_
    refine R_iload_n (pc := 107) 1 rfl rfl dX8_reckons_107 ?_
    obtain ⟨g0, g1, h⟩ := h
    refine R_laload (pc := 108) lM_6 g0 g1 dX8_reckons_108 ?_
    obtain ⟨g, h⟩ := h
    refine R_ladd (pc := 109) g dX8_reckons_109 ?_
    refine R_putJ (pc := 110) lM_0 rfl fpX8_145 dX8_reckons_110 ?_
    obtain ⟨g, h⟩ := h
    refine R_iinc (pc := 113) 1 rfl rfl g (ls' := [(1, vI (x1 + 1)), (0, vP 0)]) rfl (ltb rfl) dX8_reckons_113 ?_
    refine R_goto (pc := 116) (tgt := 52) (by decide) dX8_reckons_116 ?_
    refine R_sub [1, 0] rfl ?_
    exact h
theorem X8_reckons_E {σ : Mem} {Q : Mem → Prop} (h : LX8_reckons_12 0 (upM (upM σ 0 15 1) 0 16 0) Q) : CV layM MX8_reckons [vP 0] σ Q := by
  refine Cl.ofR (ls := [(0, vP 0)]) (show plainName RX8 = true by decide +kernel) (leb rfl) rfl ?_
  refine R_aload_n (pc := 0) 0 rfl rfl dX8_reckons_0 ?_
  refine R_lconst (pc := 1) (x := 1) rfl dX8_reckons_1 ?_
  refine R_putJ (pc := 2) lM_0 rfl fpX8_141 dX8_reckons_2 ?_
  refine R_aload_n (pc := 5) 0 rfl rfl dX8_reckons_5 ?_
  refine R_lconst (pc := 6) (x := 0) rfl dX8_reckons_6 ?_
  refine R_putJ (pc := 7) lM_0 rfl fpX8_145 dX8_reckons_7 ?_
  refine R_iconst (pc := 10) (by decide) dX8_reckons_10 ?_
  refine R_istore_n (pc := 11) (ls' := [(1, vI 0), (0, vP 0)]) rfl rfl (ltb rfl) dX8_reckons_11 ?_
  refine R_sub [1, 0] rfl ?_
  exact h
def LX8_remembers_2 (x1 : Int) (σ : Mem) (Q : Mem → Prop) : Prop := Rn layM MX8_remembers 2 [(0, vP 0), (1, vI x1)] [] σ (qV Q)
theorem X8_remembers_2 {x1 : Int} {σ : Mem} {Q : Mem → Prop} (h : ((5 ≤ x1 → Q σ) ∧ (x1 < 5 → 0 ≤ x1 ∧ x1 < 5 ∧ 0 ≤ x1 ∧ x1 < 5 ∧ I32 (x1 + 1) ∧ LX8_remembers_2 (x1 + 1) (upM σ 11 x1 (σ 7 x1)) Q))) : LX8_remembers_2 x1 σ Q := by
  unfold LX8_remembers_2
  refine R_iload_n (pc := 2) 1 rfl rfl dX8_remembers_2 ?_
  refine R_iconst (pc := 3) (by decide) dX8_remembers_3 ?_
  refine R_icmp_ge (pc := 4) (tgt := 25) (by decide) dX8_remembers_4 (fun c => ?_) (fun c => ?_)
  · have h := h.1 c
    exact R_vret (pc := 25) rfl dX8_remembers_25 ⟨rfl, h⟩
  · have h := h.2 c
    refine R_aload_n (pc := 7) 0 rfl rfl dX8_remembers_7 ?_
    refine R_getP (pc := 8) (q' := 11) lM_0 rfl flX8_42 dX8_remembers_8 ?_
    refine R_iload_n (pc := 11) 1 rfl rfl dX8_remembers_11 ?_
    refine R_aload_n (pc := 12) 0 rfl rfl dX8_remembers_12 ?_
    refine R_getP (pc := 13) (q' := 7) lM_0 rfl flX8_30 dX8_remembers_13 ?_
    refine R_iload_n (pc := 16) 1 rfl rfl dX8_remembers_16 ?_
    obtain ⟨g0, g1, h⟩ := h
    refine R_iaload (pc := 17) lM_7 g0 g1 dX8_remembers_17 ?_
    obtain ⟨g0, g1, h⟩ := h
    refine R_iastore (pc := 18) lM_11 g0 g1 dX8_remembers_18 ?_
    obtain ⟨g, h⟩ := h
    refine R_iinc (pc := 19) 1 rfl rfl g (ls' := [(1, vI (x1 + 1)), (0, vP 0)]) rfl (ltb rfl) dX8_remembers_19 ?_
    refine R_goto (pc := 22) (tgt := 2) (by decide) dX8_remembers_22 ?_
    refine R_sub [1, 0] rfl ?_
    exact h
theorem X8_remembers_E {σ : Mem} {Q : Mem → Prop} (h : LX8_remembers_2 0 σ Q) : CV layM MX8_remembers [vP 0] σ Q := by
  refine Cl.ofR (ls := [(0, vP 0)]) (show plainName RX8 = true by decide +kernel) (leb rfl) rfl ?_
  refine R_iconst (pc := 0) (by decide) dX8_remembers_0 ?_
  refine R_istore_n (pc := 1) (ls' := [(1, vI 0), (0, vP 0)]) rfl rfl (ltb rfl) dX8_remembers_1 ?_
  refine R_sub [1, 0] rfl ?_
  exact h
theorem X8_torn_E {σ : Mem} {Q : Int → Mem → Prop} (h : Q (σ 0 31) σ) : CI layM MX8_torn [vP 0] σ Q := by
  refine Cl.ofR (ls := [(0, vP 0)]) (show plainName RX8 = true by decide +kernel) (leb rfl) rfl ?_
  refine R_aload_n (pc := 0) 0 rfl rfl dX8_torn_0 ?_
  refine R_getI (pc := 1) lM_0 rfl flX8_286 dX8_torn_1 ?_
  exact R_iret (pc := 4) rfl dX8_torn_4 ⟨_, rfl, h⟩
def LX8_walksWills_18 (x1 : Int) (x3 : Int) (x4 : Int) (x5 : Int) (σ : Mem) (Q : Int → Mem → Prop) : Prop := Rn layM MX8_walksWills 18 [(0, vP 0), (1, vI x1), (3, vI x3), (4, vI x4), (5, vI x5)] [] σ (qI Q)
def LX8_walksWills_77 (x1 : Int) (x3 : Int) (x4 : Int) (x5 : Int) (σ : Mem) (Q : Int → Mem → Prop) : Prop := Rn layM MX8_walksWills 77 [(0, vP 0), (1, vI x1), (3, vI x3), (4, vI x4), (5, vI x5)] [] σ (qI Q)
def LX8_walksWills_100 (x1 : Int) (x3 : Int) (x4 : Int) (x5 : Int) (σ : Mem) (Q : Int → Mem → Prop) : Prop := Rn layM MX8_walksWills 100 [(0, vP 0), (1, vI x1), (3, vI x3), (4, vI x4), (5, vI x5)] [] σ (qI Q)
def LX8_walksWills_111 (x1 : Int) (x3 : Int) (x4 : Int) (x6 : Int) (x7 : Int) (σ : Mem) (Q : Int → Mem → Prop) : Prop := Rn layM MX8_walksWills 111 [(0, vP 0), (1, vI x1), (3, vI x3), (4, vI x4), (6, vI x6), (7, vI x7)] [] σ (qI Q)
def LX8_walksWills_179 (x1 : Int) (x3 : Int) (x4 : Int) (x7 : Int) (σ : Mem) (Q : Int → Mem → Prop) : Prop := Rn layM MX8_walksWills 179 [(0, vP 0), (1, vI x1), (3, vI x3), (4, vI x4), (7, vI x7)] [] σ (qI Q)
def LX8_walksWills_206 (x1 : Int) (x3 : Int) (x4 : Int) (x7 : Int) (σ : Mem) (Q : Int → Mem → Prop) : Prop := Rn layM MX8_walksWills 206 [(0, vP 0), (1, vI x1), (3, vI x3), (4, vI x4), (7, vI x7)] [] σ (qI Q)
def LX8_walksWills_240 (x1 : Int) (x3 : Int) (x4 : Int) (x5 : Int) (x7 : Int) (x8 : Int) (σ : Mem) (Q : Int → Mem → Prop) : Prop := Rn layM MX8_walksWills 240 [(0, vP 0), (1, vI x1), (3, vI x3), (4, vI x4), (5, vI x5), (7, vI x7), (8, vI x8)] [] σ (qI Q)
theorem X8_walksWills_18 {x1 x3 x4 x5 : Int} {σ : Mem} {Q : Int → Mem → Prop} (h : ((x4 < x5 → ((((upM σ 0 22 0) 0 20) ≠ 0 → LX8_walksWills_77 x1 x3 x4 0 (upM σ 0 22 0) Q) ∧ (((upM σ 0 22 0) 0 20) = 0 → Q 0 (upM σ 0 22 0)))) ∧ (x5 ≤ x4 → x5 ≠ 0 ∧ (((Int.tmod x4 x5) ≠ 0 → I32 (x5 + 1) ∧ LX8_walksWills_18 x1 x3 x4 (x5 + 1) σ Q) ∧ ((Int.tmod x4 x5) = 0 → 0 ≤ σ 0 20 ∧ σ 0 20 < 64 ∧ I32 (((upM σ 9 (σ 0 20) x5) 0 20) + 1) ∧ I32 (x5 + 1) ∧ LX8_walksWills_18 x1 x3 x4 (x5 + 1) (upM (upM σ 9 (σ 0 20) x5) 0 20 (((upM σ 9 (σ 0 20) x5) 0 20) + 1)) Q))))) : LX8_walksWills_18 x1 x3 x4 x5 σ Q := by
  unfold LX8_walksWills_18
  refine R_iload (pc := 18) 4 rfl dX8_walksWills_18 ?_
  refine R_iload (pc := 20) 3 rfl dX8_walksWills_20 ?_
  refine R_icmp_gt (pc := 22) (tgt := 60) (by decide) dX8_walksWills_22 (fun c => ?_) (fun c => ?_)
  · have h := h.1 c
    refine R_aload_n (pc := 60) 0 rfl rfl dX8_walksWills_60 ?_
    refine R_iconst (pc := 61) (by decide) dX8_walksWills_61 ?_
    refine R_putI (pc := 62) lM_0 rfl fpX8_219 dX8_walksWills_62 ?_
    refine R_aload_n (pc := 65) 0 rfl rfl dX8_walksWills_65 ?_
    refine R_getI (pc := 66) lM_0 rfl flX8_216 dX8_walksWills_66 ?_
    refine R_if_ne (pc := 69) (tgt := 74) (by decide) dX8_walksWills_69 (fun c => ?_) (fun c => ?_)
    · have h := h.1 c
      refine R_iconst (pc := 74) (by decide) dX8_walksWills_74 ?_
      refine R_istore (pc := 75) (ls' := [(5, vI 0), (0, vP 0), (1, vI x1), (3, vI x3), (4, vI x4)]) rfl (ltb rfl) dX8_walksWills_75 ?_
      refine R_sub [1, 2, 3, 4, 0] rfl ?_
      exact h
    · have h := h.2 c
      refine R_iconst (pc := 72) (by decide) dX8_walksWills_72 ?_
      exact R_zret (pc := 73) rfl (by decide) dX8_walksWills_73 ⟨_, rfl, h⟩
  · have h := h.2 c
    refine R_iload (pc := 25) 3 rfl dX8_walksWills_25 ?_
    refine R_iload (pc := 27) 4 rfl dX8_walksWills_27 ?_
    obtain ⟨g0, h⟩ := h
    refine R_irem (pc := 29) g0 dX8_walksWills_29 ?_
    refine R_if_ne (pc := 30) (tgt := 54) (by decide) dX8_walksWills_30 (fun c => ?_) (fun c => ?_)
    · have h := h.1 c
      obtain ⟨g, h⟩ := h
      refine R_iinc (pc := 54) 4 rfl rfl g (ls' := [(5, vI (x5 + 1)), (0, vP 0), (1, vI x1), (3, vI x3), (4, vI x4)]) rfl (ltb rfl) dX8_walksWills_54 ?_
      refine R_goto (pc := 57) (tgt := 18) (by decide) dX8_walksWills_57 ?_
      refine R_sub [1, 2, 3, 4, 0] rfl ?_
      exact h
    · have h := h.2 c
      refine R_aload_n (pc := 33) 0 rfl rfl dX8_walksWills_33 ?_
      refine R_getP (pc := 34) (q' := 9) lM_0 rfl flX8_36 dX8_walksWills_34 ?_
      refine R_aload_n (pc := 37) 0 rfl rfl dX8_walksWills_37 ?_
      refine R_getI (pc := 38) lM_0 rfl flX8_216 dX8_walksWills_38 ?_
      refine R_iload (pc := 41) 4 rfl dX8_walksWills_41 ?_
      obtain ⟨g0, g1, h⟩ := h
      refine R_iastore (pc := 43) lM_9 g0 g1 dX8_walksWills_43 ?_
      refine R_aload_n (pc := 44) 0 rfl rfl dX8_walksWills_44 ?_
      refine R_dup (pc := 45) rfl dX8_walksWills_45 ?_
      refine R_getI (pc := 46) lM_0 rfl flX8_216 dX8_walksWills_46 ?_
      refine R_iconst (pc := 49) (by decide) dX8_walksWills_49 ?_
      obtain ⟨g, h⟩ := h
      refine R_iadd (pc := 50) g dX8_walksWills_50 ?_
      refine R_putI (pc := 51) lM_0 rfl fpX8_216 dX8_walksWills_51 ?_
      obtain ⟨g, h⟩ := h
      refine R_iinc (pc := 54) 4 rfl rfl g (ls' := [(5, vI (x5 + 1)), (0, vP 0), (1, vI x1), (3, vI x3), (4, vI x4)]) rfl (ltb rfl) dX8_walksWills_54 ?_
      refine R_goto (pc := 57) (tgt := 18) (by decide) dX8_walksWills_57 ?_
      refine R_sub [1, 2, 3, 4, 0] rfl ?_
      exact h
theorem X8_walksWills_77 {x1 x3 x4 x5 : Int} {σ : Mem} {Q : Int → Mem → Prop} (h : ((x1 ≤ x5 → LX8_walksWills_100 x1 x3 x4 1 σ Q) ∧ (x5 < x1 → 0 ≤ x5 ∧ x5 < 4 ∧ I32 (x5 + 1) ∧ LX8_walksWills_77 x1 x3 x4 (x5 + 1) (upM σ 10 x5 0) Q))) : LX8_walksWills_77 x1 x3 x4 x5 σ Q := by
  unfold LX8_walksWills_77
  refine R_iload (pc := 77) 4 rfl dX8_walksWills_77 ?_
  refine R_iload_n (pc := 79) 1 rfl rfl dX8_walksWills_79 ?_
  refine R_icmp_ge (pc := 80) (tgt := 97) (by decide) dX8_walksWills_80 (fun c => ?_) (fun c => ?_)
  · have h := h.1 c
    refine R_iconst (pc := 97) (by decide) dX8_walksWills_97 ?_
    refine R_istore (pc := 98) (ls' := [(5, vI 1), (0, vP 0), (1, vI x1), (3, vI x3), (4, vI x4)]) rfl (ltb rfl) dX8_walksWills_98 ?_
    refine R_sub [1, 2, 3, 4, 0] rfl ?_
    exact h
  · have h := h.2 c
    refine R_aload_n (pc := 83) 0 rfl rfl dX8_walksWills_83 ?_
    refine R_getP (pc := 84) (q' := 10) lM_0 rfl flX8_39 dX8_walksWills_84 ?_
    refine R_iload (pc := 87) 4 rfl dX8_walksWills_87 ?_
    refine R_iconst (pc := 89) (by decide) dX8_walksWills_89 ?_
    obtain ⟨g0, g1, h⟩ := h
    refine R_iastore (pc := 90) lM_10 g0 g1 dX8_walksWills_90 ?_
    obtain ⟨g, h⟩ := h
    refine R_iinc (pc := 91) 4 rfl rfl g (ls' := [(5, vI (x5 + 1)), (0, vP 0), (1, vI x1), (3, vI x3), (4, vI x4)]) rfl (ltb rfl) dX8_walksWills_91 ?_
    refine R_goto (pc := 94) (tgt := 77) (by decide) dX8_walksWills_94 ?_
    refine R_sub [1, 2, 3, 4, 0] rfl ?_
    exact h
theorem X8_walksWills_100 {x1 x3 x4 x5 : Int} {σ : Mem} {Q : Int → Mem → Prop} (h : ((x5 = 0 → Q 0 σ) ∧ (x5 ≠ 0 → LX8_walksWills_111 x1 x3 x4 0 0 σ Q))) : LX8_walksWills_100 x1 x3 x4 x5 σ Q := by
  unfold LX8_walksWills_100
  refine R_iload (pc := 100) 4 rfl dX8_walksWills_100 ?_
  refine R_if_eq (pc := 102) (tgt := 269) (by decide) dX8_walksWills_102 (fun c => ?_) (fun c => ?_)
  · have h := h.1 c
    refine R_iconst (pc := 269) (by decide) dX8_walksWills_269 ?_
    exact R_zret (pc := 270) rfl (by decide) dX8_walksWills_270 ⟨_, rfl, h⟩
  · have h := h.2 c
    refine R_iconst (pc := 105) (by decide) dX8_walksWills_105 ?_
    refine R_istore (pc := 106) (ls' := [(6, vI 0), (0, vP 0), (1, vI x1), (3, vI x3), (4, vI x4), (5, vI x5)]) rfl (ltb rfl) dX8_walksWills_106 ?_
    refine R_iconst (pc := 108) (by decide) dX8_walksWills_108 ?_
    refine R_istore (pc := 109) (ls' := [(7, vI 0), (6, vI 0), (0, vP 0), (1, vI x1), (3, vI x3), (4, vI x4), (5, vI x5)]) rfl (ltb rfl) dX8_walksWills_109 ?_
    refine R_sub [2, 3, 4, 5, 1, 0] rfl ?_
    exact h
theorem X8_walksWills_111 {x1 x3 x4 x6 x7 : Int} {σ : Mem} {Q : Int → Mem → Prop} (h : ((x1 ≤ x7 → ((x6 ≠ (σ 1 0) → I32 (x1 - 1) ∧ LX8_walksWills_179 x1 x3 x4 (x1 - 1) σ Q) ∧ (x6 = (σ 1 0) → (((σ 0 22) ≠ x3 → I32 ((σ 0 22) + 1) ∧ I32 (x1 - 1) ∧ LX8_walksWills_179 x1 x3 x4 (x1 - 1) (upM σ 0 22 ((σ 0 22) + 1)) Q) ∧ ((σ 0 22) = x3 → Q 1 σ))))) ∧ (x7 < x1 → 0 ≤ x7 ∧ x7 < 4 ∧ 0 ≤ σ 10 x7 ∧ σ 10 x7 < 64 ∧ (σ 9 (σ 10 x7)) ≠ 0 ∧ I32 (Int.tdiv x4 (σ 9 (σ 10 x7))) ∧ I32 (x6 + (Int.tdiv x4 (σ 9 (σ 10 x7)))) ∧ I32 (x7 + 1) ∧ LX8_walksWills_111 x1 x3 x4 (x6 + (Int.tdiv x4 (σ 9 (σ 10 x7)))) (x7 + 1) σ Q))) : LX8_walksWills_111 x1 x3 x4 x6 x7 σ Q := by
  unfold LX8_walksWills_111
  refine R_iload (pc := 111) 5 rfl dX8_walksWills_111 ?_
  refine R_iload_n (pc := 113) 1 rfl rfl dX8_walksWills_113 ?_
  refine R_icmp_ge (pc := 114) (tgt := 143) (by decide) dX8_walksWills_114 (fun c => ?_) (fun c => ?_)
  · have h := h.1 c
    refine R_iload (pc := 143) 4 rfl dX8_walksWills_143 ?_
    refine R_aload_n (pc := 145) 0 rfl rfl dX8_walksWills_145 ?_
    refine R_getP (pc := 146) (q' := 1) lM_0 rfl flX8_7 dX8_walksWills_146 ?_
    refine R_iconst (pc := 149) (by decide) dX8_walksWills_149 ?_
    have g0 : (0 : Int) ≤ 0 := by decide
    have g1 : (0 : Int) < 78 := by decide
    refine R_iaload (pc := 150) lM_1 g0 g1 dX8_walksWills_150 ?_
    refine R_icmp_ne (pc := 151) (tgt := 174) (by decide) dX8_walksWills_151 (fun c => ?_) (fun c => ?_)
    · have h := h.1 c
      refine R_iload_n (pc := 174) 1 rfl rfl dX8_walksWills_174 ?_
      refine R_iconst (pc := 175) (by decide) dX8_walksWills_175 ?_
      obtain ⟨g, h⟩ := h
      refine R_isub (pc := 176) g dX8_walksWills_176 ?_
      refine R_istore (pc := 177) (ls' := [(7, vI (x1 - 1)), (0, vP 0), (1, vI x1), (3, vI x3), (4, vI x4), (6, vI x6)]) rfl (ltb rfl) dX8_walksWills_177 ?_
      refine R_sub [1, 2, 3, 4, 0] rfl ?_
      exact h
    · have h := h.2 c
      refine R_aload_n (pc := 154) 0 rfl rfl dX8_walksWills_154 ?_
      refine R_getI (pc := 155) lM_0 rfl flX8_219 dX8_walksWills_155 ?_
      refine R_iload_n (pc := 158) 2 rfl rfl dX8_walksWills_158 ?_
      refine R_icmp_ne (pc := 159) (tgt := 164) (by decide) dX8_walksWills_159 (fun c => ?_) (fun c => ?_)
      · have h := h.1 c
        refine R_aload_n (pc := 164) 0 rfl rfl dX8_walksWills_164 ?_
        refine R_dup (pc := 165) rfl dX8_walksWills_165 ?_
        refine R_getI (pc := 166) lM_0 rfl flX8_219 dX8_walksWills_166 ?_
        refine R_iconst (pc := 169) (by decide) dX8_walksWills_169 ?_
        obtain ⟨g, h⟩ := h
        refine R_iadd (pc := 170) g dX8_walksWills_170 ?_
        refine R_putI (pc := 171) lM_0 rfl fpX8_219 dX8_walksWills_171 ?_
        refine R_iload_n (pc := 174) 1 rfl rfl dX8_walksWills_174 ?_
        refine R_iconst (pc := 175) (by decide) dX8_walksWills_175 ?_
        obtain ⟨g, h⟩ := h
        refine R_isub (pc := 176) g dX8_walksWills_176 ?_
        refine R_istore (pc := 177) (ls' := [(7, vI (x1 - 1)), (0, vP 0), (1, vI x1), (3, vI x3), (4, vI x4), (6, vI x6)]) rfl (ltb rfl) dX8_walksWills_177 ?_
        refine R_sub [1, 2, 3, 4, 0] rfl ?_
        exact h
      · have h := h.2 c
        refine R_iconst (pc := 162) (by decide) dX8_walksWills_162 ?_
        exact R_zret (pc := 163) rfl (by decide) dX8_walksWills_163 ⟨_, rfl, h⟩
  · have h := h.2 c
    refine R_iload (pc := 117) 4 rfl dX8_walksWills_117 ?_
    refine R_iload (pc := 119) 3 rfl dX8_walksWills_119 ?_
    refine R_aload_n (pc := 121) 0 rfl rfl dX8_walksWills_121 ?_
    refine R_getP (pc := 122) (q' := 9) lM_0 rfl flX8_36 dX8_walksWills_122 ?_
    refine R_aload_n (pc := 125) 0 rfl rfl dX8_walksWills_125 ?_
    refine R_getP (pc := 126) (q' := 10) lM_0 rfl flX8_39 dX8_walksWills_126 ?_
    refine R_iload (pc := 129) 5 rfl dX8_walksWills_129 ?_
    obtain ⟨g0, g1, h⟩ := h
    refine R_iaload (pc := 131) lM_10 g0 g1 dX8_walksWills_131 ?_
    obtain ⟨g0, g1, h⟩ := h
    refine R_iaload (pc := 132) lM_9 g0 g1 dX8_walksWills_132 ?_
    obtain ⟨g0, h⟩ := h
    obtain ⟨g, h⟩ := h
    refine R_idiv (pc := 133) g0 g dX8_walksWills_133 ?_
    obtain ⟨g, h⟩ := h
    refine R_iadd (pc := 134) g dX8_walksWills_134 ?_
    refine R_istore (pc := 135) (ls' := [(6, vI (x6 + (Int.tdiv x4 (σ 9 (σ 10 x7))))), (0, vP 0), (1, vI x1), (3, vI x3), (4, vI x4), (7, vI x7)]) rfl (ltb rfl) dX8_walksWills_135 ?_
    obtain ⟨g, h⟩ := h
    refine R_iinc (pc := 137) 5 rfl rfl g (ls' := [(7, vI (x7 + 1)), (6, vI (x6 + (Int.tdiv x4 (σ 9 (σ 10 x7))))), (0, vP 0), (1, vI x1), (3, vI x3), (4, vI x4)]) rfl (ltb rfl) dX8_walksWills_137 ?_
    refine R_goto (pc := 140) (tgt := 111) (by decide) dX8_walksWills_140 ?_
    refine R_sub [2, 3, 4, 5, 1, 0] rfl ?_
    exact h
theorem X8_walksWills_179 {x1 x3 x4 x7 : Int} {σ : Mem} {Q : Int → Mem → Prop} (h : ((x7 < 0 → LX8_walksWills_206 x1 x3 x4 x7 σ Q) ∧ (0 ≤ x7 → 0 ≤ x7 ∧ x7 < 4 ∧ I32 ((σ 0 20) - 1) ∧ (((σ 10 x7) ≠ ((σ 0 20) - 1) → LX8_walksWills_206 x1 x3 x4 x7 σ Q) ∧ ((σ 10 x7) = ((σ 0 20) - 1) → I32 (x7 + (-1)) ∧ LX8_walksWills_179 x1 x3 x4 (x7 + (-1)) σ Q))))) : LX8_walksWills_179 x1 x3 x4 x7 σ Q := by
  unfold LX8_walksWills_179
  refine R_iload (pc := 179) 4 rfl dX8_walksWills_179 ?_
  refine R_if_lt (pc := 181) (tgt := 206) (by decide) dX8_walksWills_181 (fun c => ?_) (fun c => ?_)
  · have h := h.1 c
    exact h
  · have h := h.2 c
    refine R_aload_n (pc := 184) 0 rfl rfl dX8_walksWills_184 ?_
    refine R_getP (pc := 185) (q' := 10) lM_0 rfl flX8_39 dX8_walksWills_185 ?_
    refine R_iload (pc := 188) 4 rfl dX8_walksWills_188 ?_
    obtain ⟨g0, g1, h⟩ := h
    refine R_iaload (pc := 190) lM_10 g0 g1 dX8_walksWills_190 ?_
    refine R_aload_n (pc := 191) 0 rfl rfl dX8_walksWills_191 ?_
    refine R_getI (pc := 192) lM_0 rfl flX8_216 dX8_walksWills_192 ?_
    refine R_iconst (pc := 195) (by decide) dX8_walksWills_195 ?_
    obtain ⟨g, h⟩ := h
    refine R_isub (pc := 196) g dX8_walksWills_196 ?_
    refine R_icmp_ne (pc := 197) (tgt := 206) (by decide) dX8_walksWills_197 (fun c => ?_) (fun c => ?_)
    · have h := h.1 c
      exact h
    · have h := h.2 c
      obtain ⟨g, h⟩ := h
      refine R_iinc (pc := 200) 4 rfl rfl g (ls' := [(7, vI (x7 + (-1))), (0, vP 0), (1, vI x1), (3, vI x3), (4, vI x4)]) rfl (ltb rfl) dX8_walksWills_200 ?_
      refine R_goto (pc := 203) (tgt := 179) (by decide) dX8_walksWills_203 ?_
      refine R_sub [1, 2, 3, 4, 0] rfl ?_
      exact h
theorem X8_walksWills_206 {x1 x3 x4 x7 : Int} {σ : Mem} {Q : Int → Mem → Prop} (h : ((x7 < 0 → LX8_walksWills_100 x1 x3 x4 0 σ Q) ∧ (0 ≤ x7 → 0 ≤ x7 ∧ x7 < 4 ∧ I32 ((σ 10 x7) + 1) ∧ 0 ≤ x7 ∧ x7 < 4 ∧ I32 (x7 + 1) ∧ LX8_walksWills_240 x1 x3 x4 1 x7 (x7 + 1) (upM σ 10 x7 ((σ 10 x7) + 1)) Q))) : LX8_walksWills_206 x1 x3 x4 x7 σ Q := by
  unfold LX8_walksWills_206
  refine R_iload (pc := 206) 4 rfl dX8_walksWills_206 ?_
  refine R_if_lt (pc := 208) (tgt := 215) (by decide) dX8_walksWills_208 (fun c => ?_) (fun c => ?_)
  · have h := h.1 c
    refine R_iconst (pc := 215) (by decide) dX8_walksWills_215 ?_
    refine R_istore (pc := 216) (ls' := [(5, vI 0), (0, vP 0), (1, vI x1), (3, vI x3), (4, vI x4), (7, vI x7)]) rfl (ltb rfl) dX8_walksWills_216 ?_
    refine R_iload (pc := 218) 0 rfl dX8_walksWills_218 ?_
    refine R_if_eq (pc := 220) (tgt := 266) (by decide) dX8_walksWills_220 (fun c => ?_) (fun c => ?_)
    · clear c
      refine R_goto (pc := 266) (tgt := 100) (by decide) dX8_walksWills_266 ?_
      refine R_sub [1, 2, 3, 4, 0] rfl ?_
      exact h
    · exact absurd c (by decide)
  · have h := h.2 c
    refine R_iconst (pc := 211) (by decide) dX8_walksWills_211 ?_
    refine R_goto (pc := 212) (tgt := 216) (by decide) dX8_walksWills_212 ?_
    refine R_istore (pc := 216) (ls' := [(5, vI 1), (0, vP 0), (1, vI x1), (3, vI x3), (4, vI x4), (7, vI x7)]) rfl (ltb rfl) dX8_walksWills_216 ?_
    refine R_iload (pc := 218) 0 rfl dX8_walksWills_218 ?_
    refine R_if_eq (pc := 220) (tgt := 266) (by decide) dX8_walksWills_220 (fun c => ?_) (fun c => ?_)
    · exact absurd c (by decide)
    · clear c
      refine R_aload_n (pc := 223) 1 rfl rfl dX8_walksWills_223 ?_
      refine R_getP (pc := 224) (q' := 10) lM_0 rfl flX8_39 dX8_walksWills_224 ?_
      refine R_iload (pc := 227) 5 rfl dX8_walksWills_227 ?_
      refine R_dup2 (pc := 229) rfl rfl dX8_walksWills_229 ?_
      obtain ⟨g0, g1, h⟩ := h
      refine R_iaload (pc := 230) lM_10 g0 g1 dX8_walksWills_230 ?_
      refine R_iconst (pc := 231) (by decide) dX8_walksWills_231 ?_
      obtain ⟨g, h⟩ := h
      refine R_iadd (pc := 232) g dX8_walksWills_232 ?_
      obtain ⟨g0, g1, h⟩ := h
      refine R_iastore (pc := 233) lM_10 g0 g1 dX8_walksWills_233 ?_
      refine R_iload (pc := 234) 5 rfl dX8_walksWills_234 ?_
      refine R_iconst (pc := 236) (by decide) dX8_walksWills_236 ?_
      obtain ⟨g, h⟩ := h
      refine R_iadd (pc := 237) g dX8_walksWills_237 ?_
      refine R_istore (pc := 238) (ls' := [(8, vI (x7 + 1)), (5, vI 1), (0, vP 0), (1, vI x1), (3, vI x3), (4, vI x4), (7, vI x7)]) rfl (ltb rfl) dX8_walksWills_238 ?_
      refine R_sub [2, 3, 4, 5, 1, 6, 0] rfl ?_
      exact h
theorem X8_walksWills_240 {x1 x3 x4 x5 x7 x8 : Int} {σ : Mem} {Q : Int → Mem → Prop} (h : ((x1 ≤ x8 → LX8_walksWills_100 x1 x3 x4 x5 σ Q) ∧ (x8 < x1 → 0 ≤ x7 ∧ x7 < 4 ∧ 0 ≤ x8 ∧ x8 < 4 ∧ I32 (x8 + 1) ∧ LX8_walksWills_240 x1 x3 x4 x5 x7 (x8 + 1) (upM σ 10 x8 (σ 10 x7)) Q))) : LX8_walksWills_240 x1 x3 x4 x5 x7 x8 σ Q := by
  unfold LX8_walksWills_240
  refine R_iload (pc := 240) 6 rfl dX8_walksWills_240 ?_
  refine R_iload_n (pc := 242) 1 rfl rfl dX8_walksWills_242 ?_
  refine R_icmp_ge (pc := 243) (tgt := 266) (by decide) dX8_walksWills_243 (fun c => ?_) (fun c => ?_)
  · have h := h.1 c
    refine R_goto (pc := 266) (tgt := 100) (by decide) dX8_walksWills_266 ?_
    refine R_sub [0, 1, 2, 3, 4] rfl ?_
    exact h
  · have h := h.2 c
    refine R_aload_n (pc := 246) 0 rfl rfl dX8_walksWills_246 ?_
    refine R_getP (pc := 247) (q' := 10) lM_0 rfl flX8_39 dX8_walksWills_247 ?_
    refine R_iload (pc := 250) 6 rfl dX8_walksWills_250 ?_
    refine R_aload_n (pc := 252) 0 rfl rfl dX8_walksWills_252 ?_
    refine R_getP (pc := 253) (q' := 10) lM_0 rfl flX8_39 dX8_walksWills_253 ?_
    refine R_iload (pc := 256) 5 rfl dX8_walksWills_256 ?_
    obtain ⟨g0, g1, h⟩ := h
    refine R_iaload (pc := 258) lM_10 g0 g1 dX8_walksWills_258 ?_
    obtain ⟨g0, g1, h⟩ := h
    refine R_iastore (pc := 259) lM_10 g0 g1 dX8_walksWills_259 ?_
    obtain ⟨g, h⟩ := h
    refine R_iinc (pc := 260) 6 rfl rfl g (ls' := [(8, vI (x8 + 1)), (0, vP 0), (1, vI x1), (3, vI x3), (4, vI x4), (5, vI x5), (7, vI x7)]) rfl (ltb rfl) dX8_walksWills_260 ?_
    refine R_goto (pc := 263) (tgt := 240) (by decide) dX8_walksWills_263 ?_
    refine R_sub [1, 2, 3, 4, 5, 6, 0] rfl ?_
    exact h
theorem X8_walksWills_E {x1 x2 x3 : Int} {σ : Mem} {Q : Int → Mem → Prop} (h : I32 ((σ 1 0) + x2) ∧ LX8_walksWills_18 x1 x3 ((σ 1 0) + x2) 2 (upM σ 0 20 0) Q) : CI layM MX8_walksWills [vP 0, vI x1, vI x2, vI x3] σ Q := by
  refine Cl.ofR (ls := [(0, vP 0), (1, vI x1), (2, vI x2), (3, vI x3)]) (show plainName RX8 = true by decide +kernel) (leb rfl) rfl ?_
  refine R_aload_n (pc := 0) 0 rfl rfl dX8_walksWills_0 ?_
  refine R_getP (pc := 1) (q' := 1) lM_0 rfl flX8_7 dX8_walksWills_1 ?_
  refine R_iconst (pc := 4) (by decide) dX8_walksWills_4 ?_
  have g0 : (0 : Int) ≤ 0 := by decide
  have g1 : (0 : Int) < 78 := by decide
  refine R_iaload (pc := 5) lM_1 g0 g1 dX8_walksWills_5 ?_
  refine R_iload_n (pc := 6) 2 rfl rfl dX8_walksWills_6 ?_
  obtain ⟨g, h⟩ := h
  refine R_iadd (pc := 7) g dX8_walksWills_7 ?_
  refine R_istore (pc := 8) (ls' := [(4, vI ((σ 1 0) + x2)), (0, vP 0), (1, vI x1), (2, vI x2), (3, vI x3)]) rfl (ltb rfl) dX8_walksWills_8 ?_
  refine R_aload_n (pc := 10) 1 rfl rfl dX8_walksWills_10 ?_
  refine R_iconst (pc := 11) (by decide) dX8_walksWills_11 ?_
  refine R_putI (pc := 12) lM_0 rfl fpX8_216 dX8_walksWills_12 ?_
  refine R_iconst (pc := 15) (by decide) dX8_walksWills_15 ?_
  refine R_istore (pc := 16) (ls' := [(5, vI 2), (4, vI ((σ 1 0) + x2)), (0, vP 0), (1, vI x1), (2, vI x2), (3, vI x3)]) rfl (ltb rfl) dX8_walksWills_16 ?_
  refine R_sub [2, 3, 5, 1, 0] rfl ?_
  exact h
theorem X8_back_E {x1 : Int} {σ : Mem} {Q : Int → Mem → Prop} (h : CI layM MX8_in [vJ x1, vJ 0, vJ 1] σ (fun r2 σ1 => ((r2 ≠ 0 → 0 ≤ x1 ∧ x1 < 2 ∧ (((σ1 3 x1) ≠ 0 → I32 (x1 + 1) ∧ I32 (26 * (x1 + 1)) ∧ CV layM MX8_copies [vP 0, vI 0, vI (26 * (x1 + 1))] σ1 (fun σ3 => Q (σ3 1 0) σ3)) ∧ ((σ1 3 x1) = 0 → Q (-2) σ1))) ∧ (r2 = 0 → Q (-1) σ1)))) : CI layM MX8_back [vP 0, vI x1] σ Q := by
  refine Cl.ofR (ls := [(0, vP 0), (1, vI x1)]) (show plainName RX8 = true by decide +kernel) (leb rfl) rfl ?_
  refine R_iload_n (pc := 0) 1 rfl rfl dX8_back_0 ?_
  refine R_i2l (pc := 1) dX8_back_1 ?_
  refine R_lconst (pc := 2) (x := 0) rfl dX8_back_2 ?_
  refine R_lconst (pc := 3) (x := 1) rfl dX8_back_3 ?_
  refine R_callSI (pc := 4) (as := [vJ x1, vJ 0, vJ 1]) (st := []) rfl rfl kX8_in sX8_in w_4_210 (ltb rfl) rfl (leb rfl) dX8_back_4 h (fun r2 σ1 h => ?_)
  refine R_if_ne (pc := 7) (tgt := 12) (by decide) dX8_back_7 (fun c => ?_) (fun c => ?_)
  · have h := h.1 c
    refine R_aload_n (pc := 12) 0 rfl rfl dX8_back_12 ?_
    refine R_getP (pc := 13) (q' := 3) lM_0 rfl flX8_16 dX8_back_13 ?_
    refine R_iload_n (pc := 16) 1 rfl rfl dX8_back_16 ?_
    obtain ⟨g0, g1, h⟩ := h
    refine R_zaload (pc := 17) lM_3 g0 g1 dX8_back_17 ?_
    refine R_if_ne (pc := 18) (tgt := 24) (by decide) dX8_back_18 (fun c => ?_) (fun c => ?_)
    · have h := h.1 c
      refine R_aload_n (pc := 24) 0 rfl rfl dX8_back_24 ?_
      refine R_iconst (pc := 25) (by decide) dX8_back_25 ?_
      refine R_bipush (pc := 26) (by decide) dX8_back_26 ?_
      refine R_iload_n (pc := 28) 1 rfl rfl dX8_back_28 ?_
      refine R_iconst (pc := 29) (by decide) dX8_back_29 ?_
      obtain ⟨g, h⟩ := h
      refine R_iadd (pc := 30) g dX8_back_30 ?_
      obtain ⟨g, h⟩ := h
      refine R_imul (pc := 31) g dX8_back_31 ?_
      refine R_callV0 (pc := 32) (as := [vI 0, vI (26 * (x1 + 1))]) (st := []) rfl rfl kX8_copies sX8_copies lM_0 rfl w_6_23 (ltb rfl) rfl (leb rfl) dX8_back_32 h (fun σ3 h => ?_)
      refine R_aload_n (pc := 35) 0 rfl rfl dX8_back_35 ?_
      refine R_getP (pc := 36) (q' := 1) lM_0 rfl flX8_7 dX8_back_36 ?_
      refine R_iconst (pc := 39) (by decide) dX8_back_39 ?_
      have g0 : (0 : Int) ≤ 0 := by decide
      have g1 : (0 : Int) < 78 := by decide
      refine R_iaload (pc := 40) lM_1 g0 g1 dX8_back_40 ?_
      exact R_iret (pc := 41) rfl dX8_back_41 ⟨_, rfl, h⟩
    · have h := h.2 c
      refine R_bipush (pc := 21) (by decide) dX8_back_21 ?_
      exact R_iret (pc := 23) rfl dX8_back_23 ⟨_, rfl, h⟩
  · have h := h.2 c
    refine R_iconst (pc := 10) (by decide) dX8_back_10 ?_
    exact R_iret (pc := 11) rfl dX8_back_11 ⟨_, rfl, h⟩
theorem X8_bear_E {x1 x2 : Int} {σ : Mem} {Q : Int → Mem → Prop} (h : CI layM MX8_in [vJ x1, vJ 1, vJ 9] σ (fun r2 σ1 => ((r2 = 0 → Q (-1) σ1) ∧ (r2 ≠ 0 → CI layM MX8_in [vJ x2, vJ 1, vJ 99] σ1 (fun r4 σ3 => ((r4 ≠ 0 → (((σ3 1 1) ≠ 5 → I32 (2 * (σ3 1 1)) ∧ I32 (3 + (2 * (σ3 1 1))) ∧ 0 ≤ 3 + (2 * (σ3 1 1)) ∧ 3 + (2 * (σ3 1 1)) < 78 ∧ I32 (2 * ((upM σ3 1 (3 + (2 * (σ3 1 1))) x1) 1 1)) ∧ I32 (3 + (2 * ((upM σ3 1 (3 + (2 * (σ3 1 1))) x1) 1 1))) ∧ I32 ((3 + (2 * ((upM σ3 1 (3 + (2 * (σ3 1 1))) x1) 1 1))) + 1) ∧ 0 ≤ (3 + (2 * ((upM σ3 1 (3 + (2 * (σ3 1 1))) x1) 1 1))) + 1 ∧ (3 + (2 * ((upM σ3 1 (3 + (2 * (σ3 1 1))) x1) 1 1))) + 1 < 78 ∧ I32 (((upM (upM σ3 1 (3 + (2 * (σ3 1 1))) x1) 1 ((3 + (2 * ((upM σ3 1 (3 + (2 * (σ3 1 1))) x1) 1 1))) + 1) x2) 1 1) + 1) ∧ Q ((upM (upM (upM σ3 1 (3 + (2 * (σ3 1 1))) x1) 1 ((3 + (2 * ((upM σ3 1 (3 + (2 * (σ3 1 1))) x1) 1 1))) + 1) x2) 1 1 (((upM (upM σ3 1 (3 + (2 * (σ3 1 1))) x1) 1 ((3 + (2 * ((upM σ3 1 (3 + (2 * (σ3 1 1))) x1) 1 1))) + 1) x2) 1 1) + 1)) 1 1) (upM (upM (upM σ3 1 (3 + (2 * (σ3 1 1))) x1) 1 ((3 + (2 * ((upM σ3 1 (3 + (2 * (σ3 1 1))) x1) 1 1))) + 1) x2) 1 1 (((upM (upM σ3 1 (3 + (2 * (σ3 1 1))) x1) 1 ((3 + (2 * ((upM σ3 1 (3 + (2 * (σ3 1 1))) x1) 1 1))) + 1) x2) 1 1) + 1))) ∧ ((σ3 1 1) = 5 → Q (-3) σ3))) ∧ (r4 = 0 → Q (-1) σ3))))))) : CI layM MX8_bear [vP 0, vI x1, vI x2] σ Q := by
  refine Cl.ofR (ls := [(0, vP 0), (1, vI x1), (2, vI x2)]) (show plainName RX8 = true by decide +kernel) (leb rfl) rfl ?_
  refine R_iload_n (pc := 0) 1 rfl rfl dX8_bear_0 ?_
  refine R_i2l (pc := 1) dX8_bear_1 ?_
  refine R_lconst (pc := 2) (x := 1) rfl dX8_bear_2 ?_
  refine R_ldc2 (pc := 3) (x := 9) w_5_99 (by decide) dX8_bear_3 ?_
  refine R_callSI (pc := 6) (as := [vJ x1, vJ 1, vJ 9]) (st := []) rfl rfl kX8_in sX8_in w_4_210 (ltb rfl) rfl (leb rfl) dX8_bear_6 h (fun r2 σ1 h => ?_)
  refine R_if_eq (pc := 9) (tgt := 24) (by decide) dX8_bear_9 (fun c => ?_) (fun c => ?_)
  · have h := h.1 c
    refine R_iconst (pc := 24) (by decide) dX8_bear_24 ?_
    exact R_iret (pc := 25) rfl dX8_bear_25 ⟨_, rfl, h⟩
  · have h := h.2 c
    refine R_iload_n (pc := 12) 2 rfl rfl dX8_bear_12 ?_
    refine R_i2l (pc := 13) dX8_bear_13 ?_
    refine R_lconst (pc := 14) (x := 1) rfl dX8_bear_14 ?_
    refine R_ldc2 (pc := 15) (x := 99) w_5_100 (by decide) dX8_bear_15 ?_
    refine R_callSI (pc := 18) (as := [vJ x2, vJ 1, vJ 99]) (st := []) rfl rfl kX8_in sX8_in w_4_210 (ltb rfl) rfl (leb rfl) dX8_bear_18 h (fun r4 σ3 h => ?_)
    refine R_if_ne (pc := 21) (tgt := 26) (by decide) dX8_bear_21 (fun c => ?_) (fun c => ?_)
    · have h := h.1 c
      refine R_aload_n (pc := 26) 0 rfl rfl dX8_bear_26 ?_
      refine R_getP (pc := 27) (q' := 1) lM_0 rfl flX8_7 dX8_bear_27 ?_
      refine R_iconst (pc := 30) (by decide) dX8_bear_30 ?_
      have g0 : (0 : Int) ≤ 1 := by decide
      have g1 : (1 : Int) < 78 := by decide
      refine R_iaload (pc := 31) lM_1 g0 g1 dX8_bear_31 ?_
      refine R_iconst (pc := 32) (by decide) dX8_bear_32 ?_
      refine R_icmp_ne (pc := 33) (tgt := 39) (by decide) dX8_bear_33 (fun c => ?_) (fun c => ?_)
      · have h := h.1 c
        refine R_aload_n (pc := 39) 0 rfl rfl dX8_bear_39 ?_
        refine R_getP (pc := 40) (q' := 1) lM_0 rfl flX8_7 dX8_bear_40 ?_
        refine R_iconst (pc := 43) (by decide) dX8_bear_43 ?_
        refine R_iconst (pc := 44) (by decide) dX8_bear_44 ?_
        refine R_aload_n (pc := 45) 0 rfl rfl dX8_bear_45 ?_
        refine R_getP (pc := 46) (q' := 1) lM_0 rfl flX8_7 dX8_bear_46 ?_
        refine R_iconst (pc := 49) (by decide) dX8_bear_49 ?_
        have g0 : (0 : Int) ≤ 1 := by decide
        have g1 : (1 : Int) < 78 := by decide
        refine R_iaload (pc := 50) lM_1 g0 g1 dX8_bear_50 ?_
        obtain ⟨g, h⟩ := h
        refine R_imul (pc := 51) g dX8_bear_51 ?_
        obtain ⟨g, h⟩ := h
        refine R_iadd (pc := 52) g dX8_bear_52 ?_
        refine R_iload_n (pc := 53) 1 rfl rfl dX8_bear_53 ?_
        obtain ⟨g0, g1, h⟩ := h
        refine R_iastore (pc := 54) lM_1 g0 g1 dX8_bear_54 ?_
        refine R_aload_n (pc := 55) 0 rfl rfl dX8_bear_55 ?_
        refine R_getP (pc := 56) (q' := 1) lM_0 rfl flX8_7 dX8_bear_56 ?_
        refine R_iconst (pc := 59) (by decide) dX8_bear_59 ?_
        refine R_iconst (pc := 60) (by decide) dX8_bear_60 ?_
        refine R_aload_n (pc := 61) 0 rfl rfl dX8_bear_61 ?_
        refine R_getP (pc := 62) (q' := 1) lM_0 rfl flX8_7 dX8_bear_62 ?_
        refine R_iconst (pc := 65) (by decide) dX8_bear_65 ?_
        have g0 : (0 : Int) ≤ 1 := by decide
        have g1 : (1 : Int) < 78 := by decide
        refine R_iaload (pc := 66) lM_1 g0 g1 dX8_bear_66 ?_
        obtain ⟨g, h⟩ := h
        refine R_imul (pc := 67) g dX8_bear_67 ?_
        obtain ⟨g, h⟩ := h
        refine R_iadd (pc := 68) g dX8_bear_68 ?_
        refine R_iconst (pc := 69) (by decide) dX8_bear_69 ?_
        obtain ⟨g, h⟩ := h
        refine R_iadd (pc := 70) g dX8_bear_70 ?_
        refine R_iload_n (pc := 71) 2 rfl rfl dX8_bear_71 ?_
        obtain ⟨g0, g1, h⟩ := h
        refine R_iastore (pc := 72) lM_1 g0 g1 dX8_bear_72 ?_
        refine R_aload_n (pc := 73) 0 rfl rfl dX8_bear_73 ?_
        refine R_getP (pc := 74) (q' := 1) lM_0 rfl flX8_7 dX8_bear_74 ?_
        refine R_iconst (pc := 77) (by decide) dX8_bear_77 ?_
        refine R_dup2 (pc := 78) rfl rfl dX8_bear_78 ?_
        have g0 : (0 : Int) ≤ 1 := by decide
        have g1 : (1 : Int) < 78 := by decide
        refine R_iaload (pc := 79) lM_1 g0 g1 dX8_bear_79 ?_
        refine R_iconst (pc := 80) (by decide) dX8_bear_80 ?_
        obtain ⟨g, h⟩ := h
        refine R_iadd (pc := 81) g dX8_bear_81 ?_
        have g0 : (0 : Int) ≤ 1 := by decide
        have g1 : (1 : Int) < 78 := by decide
        refine R_iastore (pc := 82) lM_1 g0 g1 dX8_bear_82 ?_
        refine R_aload_n (pc := 83) 0 rfl rfl dX8_bear_83 ?_
        refine R_getP (pc := 84) (q' := 1) lM_0 rfl flX8_7 dX8_bear_84 ?_
        refine R_iconst (pc := 87) (by decide) dX8_bear_87 ?_
        have g0 : (0 : Int) ≤ 1 := by decide
        have g1 : (1 : Int) < 78 := by decide
        refine R_iaload (pc := 88) lM_1 g0 g1 dX8_bear_88 ?_
        exact R_iret (pc := 89) rfl dX8_bear_89 ⟨_, rfl, h⟩
      · have h := h.2 c
        refine R_bipush (pc := 36) (by decide) dX8_bear_36 ?_
        exact R_iret (pc := 38) rfl dX8_bear_38 ⟨_, rfl, h⟩
    · have h := h.2 c
      refine R_iconst (pc := 24) (by decide) dX8_bear_24 ?_
      exact R_iret (pc := 25) rfl dX8_bear_25 ⟨_, rfl, h⟩
def LX8_dropsNow_16 (x2 : Int) (σ : Mem) (Q : Mem → Prop) : Prop := Rn layM MX8_dropsNow 16 [(0, vP 0), (2, vI x2)] [] σ (qV Q)
theorem X8_dropsNow_16 {x2 : Int} {σ : Mem} {Q : Mem → Prop} (h : I32 (2 * (σ 2 1)) ∧ I32 (3 + (2 * (σ 2 1))) ∧ (((3 + (2 * (σ 2 1))) ≤ x2 → CV layM MX8_reckons [vP 0] σ (fun σ1 => Q σ1)) ∧ (x2 < (3 + (2 * (σ 2 1))) → I32 (x2 + 2) ∧ 0 ≤ x2 + 2 ∧ x2 + 2 < 26 ∧ 0 ≤ x2 ∧ x2 < 26 ∧ I32 (x2 + 1) ∧ LX8_dropsNow_16 (x2 + 1) (upM σ 2 x2 (σ 2 (x2 + 2))) Q))) : LX8_dropsNow_16 x2 σ Q := by
  unfold LX8_dropsNow_16
  refine R_iload_n (pc := 16) 1 rfl rfl dX8_dropsNow_16 ?_
  refine R_iconst (pc := 17) (by decide) dX8_dropsNow_17 ?_
  refine R_iconst (pc := 18) (by decide) dX8_dropsNow_18 ?_
  refine R_aload_n (pc := 19) 0 rfl rfl dX8_dropsNow_19 ?_
  refine R_getP (pc := 20) (q' := 2) lM_0 rfl flX8_13 dX8_dropsNow_20 ?_
  refine R_iconst (pc := 23) (by decide) dX8_dropsNow_23 ?_
  have g0 : (0 : Int) ≤ 1 := by decide
  have g1 : (1 : Int) < 26 := by decide
  refine R_iaload (pc := 24) lM_2 g0 g1 dX8_dropsNow_24 ?_
  obtain ⟨g, h⟩ := h
  refine R_imul (pc := 25) g dX8_dropsNow_25 ?_
  obtain ⟨g, h⟩ := h
  refine R_iadd (pc := 26) g dX8_dropsNow_26 ?_
  refine R_icmp_ge (pc := 27) (tgt := 50) (by decide) dX8_dropsNow_27 (fun c => ?_) (fun c => ?_)
  · have h := h.1 c
    refine R_aload_n (pc := 50) 0 rfl rfl dX8_dropsNow_50 ?_
    refine R_callV0 (pc := 51) (as := []) (st := []) rfl rfl kX8_reckons sX8_reckons lM_0 rfl w_5_29 (ltb rfl) rfl (leb rfl) dX8_dropsNow_51 h (fun σ1 h => ?_)
    exact R_vret (pc := 54) rfl dX8_dropsNow_54 ⟨rfl, h⟩
  · have h := h.2 c
    refine R_aload_n (pc := 30) 0 rfl rfl dX8_dropsNow_30 ?_
    refine R_getP (pc := 31) (q' := 2) lM_0 rfl flX8_13 dX8_dropsNow_31 ?_
    refine R_iload_n (pc := 34) 1 rfl rfl dX8_dropsNow_34 ?_
    refine R_aload_n (pc := 35) 0 rfl rfl dX8_dropsNow_35 ?_
    refine R_getP (pc := 36) (q' := 2) lM_0 rfl flX8_13 dX8_dropsNow_36 ?_
    refine R_iload_n (pc := 39) 1 rfl rfl dX8_dropsNow_39 ?_
    refine R_iconst (pc := 40) (by decide) dX8_dropsNow_40 ?_
    obtain ⟨g, h⟩ := h
    refine R_iadd (pc := 41) g dX8_dropsNow_41 ?_
    obtain ⟨g0, g1, h⟩ := h
    refine R_iaload (pc := 42) lM_2 g0 g1 dX8_dropsNow_42 ?_
    obtain ⟨g0, g1, h⟩ := h
    refine R_iastore (pc := 43) lM_2 g0 g1 dX8_dropsNow_43 ?_
    obtain ⟨g, h⟩ := h
    refine R_iinc (pc := 44) 1 rfl rfl g (ls' := [(2, vI (x2 + 1)), (0, vP 0)]) rfl (ltb rfl) dX8_dropsNow_44 ?_
    refine R_goto (pc := 47) (tgt := 16) (by decide) dX8_dropsNow_47 ?_
    refine R_sub [1, 0] rfl ?_
    exact h
theorem X8_dropsNow_E {x1 : Int} {σ : Mem} {Q : Mem → Prop} (h : I32 ((σ 2 1) - 1) ∧ I32 (2 * x1) ∧ I32 (3 + (2 * x1)) ∧ LX8_dropsNow_16 (3 + (2 * x1)) (upM σ 2 1 ((σ 2 1) - 1)) Q) : CV layM MX8_dropsNow [vP 0, vI x1] σ Q := by
  refine Cl.ofR (ls := [(0, vP 0), (1, vI x1)]) (show plainName RX8 = true by decide +kernel) (leb rfl) rfl ?_
  refine R_aload_n (pc := 0) 0 rfl rfl dX8_dropsNow_0 ?_
  refine R_getP (pc := 1) (q' := 2) lM_0 rfl flX8_13 dX8_dropsNow_1 ?_
  refine R_iconst (pc := 4) (by decide) dX8_dropsNow_4 ?_
  refine R_dup2 (pc := 5) rfl rfl dX8_dropsNow_5 ?_
  have g0 : (0 : Int) ≤ 1 := by decide
  have g1 : (1 : Int) < 26 := by decide
  refine R_iaload (pc := 6) lM_2 g0 g1 dX8_dropsNow_6 ?_
  refine R_iconst (pc := 7) (by decide) dX8_dropsNow_7 ?_
  obtain ⟨g, h⟩ := h
  refine R_isub (pc := 8) g dX8_dropsNow_8 ?_
  have g0 : (0 : Int) ≤ 1 := by decide
  have g1 : (1 : Int) < 26 := by decide
  refine R_iastore (pc := 9) lM_2 g0 g1 dX8_dropsNow_9 ?_
  refine R_iconst (pc := 10) (by decide) dX8_dropsNow_10 ?_
  refine R_iconst (pc := 11) (by decide) dX8_dropsNow_11 ?_
  refine R_iload_n (pc := 12) 1 rfl rfl dX8_dropsNow_12 ?_
  obtain ⟨g, h⟩ := h
  refine R_imul (pc := 13) g dX8_dropsNow_13 ?_
  obtain ⟨g, h⟩ := h
  refine R_iadd (pc := 14) g dX8_dropsNow_14 ?_
  refine R_istore_n (pc := 15) (ls' := [(2, vI (3 + (2 * x1))), (0, vP 0), (1, vI x1)]) rfl rfl (ltb rfl) dX8_dropsNow_15 ?_
  refine R_sub [1, 0] rfl ?_
  exact h
