def LX7_divisor_9 (x4 : Int) (x6 : Int) (x8 : Int) (σ : Mem) (Q : Int → Mem → Prop) : Prop := Rn layC MX7_divisor 9 [(4, vJ x4), (6, vJ x6), (8, vI x8)] [] σ (qJ Q)
theorem X7_divisor_9 {x4 x6 x8 : Int} {σ : Mem} {Q : Int → Mem → Prop} (h : ((100 ≤ x8 → Q x4 σ) ∧ (x8 < 100 → ((x6 = 0 → Q x4 σ) ∧ (x6 ≠ 0 → CJ layC MX7_remainder [vJ x4, vJ x6] σ (fun r2 σ1 => I32 (x8 + 1) ∧ LX7_divisor_9 x6 r2 (x8 + 1) σ1 Q)))))) : LX7_divisor_9 x4 x6 x8 σ Q := by
  unfold LX7_divisor_9
  refine R_iload (pc := 9) 2 rfl dX7_divisor_9 ?_
  refine R_bipush (pc := 11) (by decide) dX7_divisor_11 ?_
  refine R_icmp_ge (pc := 13) (tgt := 46) (by decide) dX7_divisor_13 (fun c => ?_) (fun c => ?_)
  · have h := h.1 c
    refine R_lload (pc := 46) 0 rfl dX7_divisor_46 ?_
    exact R_lret (pc := 48) rfl dX7_divisor_48 ⟨_, rfl, h⟩
  · have h := h.2 c
    refine R_lload (pc := 16) 1 rfl dX7_divisor_16 ?_
    refine R_lconst (pc := 18) (x := 0) rfl dX7_divisor_18 ?_
    refine R_lcmp_eq (pc := 19) (tgt := 46) dX7_divisor_19 (by decide) dX7_divisor_20 (fun c => ?_) (fun c => ?_)
    · have h := h.1 c
      refine R_lload (pc := 46) 0 rfl dX7_divisor_46 ?_
      exact R_lret (pc := 48) rfl dX7_divisor_48 ⟨_, rfl, h⟩
    · have h := h.2 c
      refine R_lload (pc := 23) 0 rfl dX7_divisor_23 ?_
      refine R_lload (pc := 25) 1 rfl dX7_divisor_25 ?_
      refine R_callSJ (pc := 27) (as := [vJ x4, vJ x6]) (st := []) rfl rfl kX7_remainder sX7_remainder w_3_63 (ltb rfl) rfl (leb rfl) dX7_divisor_27 h (fun r2 σ1 h => ?_)
      refine R_lstore (pc := 30) (ls' := [(9, vJ r2), (4, vJ x4), (6, vJ x6), (8, vI x8)]) rfl (ltb rfl) dX7_divisor_30 ?_
      refine R_lload (pc := 32) 2 rfl dX7_divisor_32 ?_
      refine R_lstore (pc := 34) (ls' := [(4, vJ x6), (9, vJ r2), (6, vJ x6), (8, vI x8)]) rfl (ltb rfl) dX7_divisor_34 ?_
      refine R_lload (pc := 36) 1 rfl dX7_divisor_36 ?_
      refine R_lstore (pc := 38) (ls' := [(6, vJ r2), (4, vJ x6), (9, vJ r2), (8, vI x8)]) rfl (ltb rfl) dX7_divisor_38 ?_
      obtain ⟨g, h⟩ := h
      refine R_iinc (pc := 40) 3 rfl rfl g (ls' := [(8, vI (x8 + 1)), (6, vJ r2), (4, vJ x6), (9, vJ r2)]) rfl (ltb rfl) dX7_divisor_40 ?_
      refine R_goto (pc := 43) (tgt := 9) (by decide) dX7_divisor_43 ?_
      refine R_sub [2, 1, 0] rfl ?_
      exact h
theorem X7_divisor_E {x0 x2 : Int} {σ : Mem} {Q : Int → Mem → Prop} (h : LX7_divisor_9 x0 x2 0 σ Q) : CJ layC MX7_divisor [vJ x0, vJ x2] σ Q := by
  refine Cl.ofR (ls := [(0, vJ x0), (2, vJ x2)]) (show plainName RX7 = true by decide +kernel) (leb rfl) rfl ?_
  refine R_lload_n (pc := 0) 0 rfl rfl dX7_divisor_0 ?_
  refine R_lstore (pc := 1) (ls' := [(4, vJ x0), (0, vJ x0), (2, vJ x2)]) rfl (ltb rfl) dX7_divisor_1 ?_
  refine R_lload_n (pc := 3) 2 rfl rfl dX7_divisor_3 ?_
  refine R_lstore (pc := 4) (ls' := [(6, vJ x2), (4, vJ x0), (0, vJ x0), (2, vJ x2)]) rfl (ltb rfl) dX7_divisor_4 ?_
  refine R_iconst (pc := 6) (by decide) dX7_divisor_6 ?_
  refine R_istore (pc := 7) (ls' := [(8, vI 0), (6, vJ x2), (4, vJ x0), (0, vJ x0), (2, vJ x2)]) rfl (ltb rfl) dX7_divisor_7 ?_
  refine R_sub [2, 1, 0] rfl ?_
  exact h
theorem X7_end_E {x1 : Int} {σ : Mem} {Q : Int → Mem → Prop} (h : CI layC MX7_within [vI x1, vI 0, vI (σ 37 0)] σ (fun r2 σ1 => ((r2 ≠ 0 → Q (σ 37 0) (upM σ1 37 0 x1)) ∧ (r2 = 0 → Q (-1) σ1)))) : CI layC MX7_end [vP 0, vI x1] σ Q := by
  refine Cl.ofR (ls := [(0, vP 0), (1, vI x1)]) (show plainName RX7 = true by decide +kernel) (leb rfl) rfl ?_
  refine R_aload_n (pc := 0) 0 rfl rfl dX7_end_0 ?_
  refine R_getP (pc := 1) (q' := 36) lC_0 rfl flX7_40 dX7_end_1 ?_
  refine R_getP (pc := 4) (q' := 37) lC_36 rfl flX7_77 dX7_end_4 ?_
  refine R_getI (pc := 7) lC_37 rfl flX7_87 dX7_end_7 ?_
  refine R_istore_n (pc := 10) (ls' := [(2, vI (σ 37 0)), (0, vP 0), (1, vI x1)]) rfl rfl (ltb rfl) dX7_end_10 ?_
  refine R_iload_n (pc := 11) 2 rfl rfl dX7_end_11 ?_
  refine R_iconst (pc := 12) (by decide) dX7_end_12 ?_
  refine R_iload_n (pc := 13) 0 rfl rfl dX7_end_13 ?_
  refine R_callSI (pc := 14) (as := [vI x1, vI 0, vI (σ 37 0)]) (st := []) rfl rfl kX7_within sX7_within w_2_47 (ltb rfl) rfl (leb rfl) dX7_end_14 h (fun r2 σ1 h => ?_)
  refine R_if_ne (pc := 17) (tgt := 22) (by decide) dX7_end_17 (fun c => ?_) (fun c => ?_)
  · have h := h.1 c
    refine R_aload_n (pc := 22) 1 rfl rfl dX7_end_22 ?_
    refine R_getP (pc := 23) (q' := 36) lC_0 rfl flX7_40 dX7_end_23 ?_
    refine R_getP (pc := 26) (q' := 37) lC_36 rfl flX7_77 dX7_end_26 ?_
    refine R_iload_n (pc := 29) 2 rfl rfl dX7_end_29 ?_
    refine R_putI (pc := 30) lC_37 rfl fpX7_87 dX7_end_30 ?_
    refine R_iload_n (pc := 33) 0 rfl rfl dX7_end_33 ?_
    exact R_iret (pc := 34) rfl dX7_end_34 ⟨_, rfl, h⟩
  · have h := h.2 c
    refine R_iconst (pc := 20) (by decide) dX7_end_20 ?_
    exact R_iret (pc := 21) rfl dX7_end_21 ⟨_, rfl, h⟩
theorem X7_feed_E {x1 : Int} {σ : Mem} {Q : Int → Mem → Prop} (h : CI layC MX7_within [vI x1, vI 0, vI 127] σ (fun r2 σ1 => ((r2 ≠ 0 → CI layC MX5_append [vP 37, vI x1] σ1 (fun r4 σ3 => Q r4 σ3)) ∧ (r2 = 0 → Q (-1) σ1)))) : CI layC MX7_feed [vP 0, vI x1] σ Q := by
  refine Cl.ofR (ls := [(0, vP 0), (1, vI x1)]) (show plainName RX7 = true by decide +kernel) (leb rfl) rfl ?_
  refine R_iload_n (pc := 0) 1 rfl rfl dX7_feed_0 ?_
  refine R_iconst (pc := 1) (by decide) dX7_feed_1 ?_
  refine R_bipush (pc := 2) (by decide) dX7_feed_2 ?_
  refine R_callSI (pc := 4) (as := [vI x1, vI 0, vI 127]) (st := []) rfl rfl kX7_within sX7_within w_2_47 (ltb rfl) rfl (leb rfl) dX7_feed_4 h (fun r2 σ1 h => ?_)
  refine R_if_ne (pc := 7) (tgt := 12) (by decide) dX7_feed_7 (fun c => ?_) (fun c => ?_)
  · have h := h.1 c
    refine R_aload_n (pc := 12) 0 rfl rfl dX7_feed_12 ?_
    refine R_getP (pc := 13) (q' := 36) lC_0 rfl flX7_40 dX7_feed_13 ?_
    refine R_getP (pc := 16) (q' := 37) lC_36 rfl flX7_77 dX7_feed_16 ?_
    refine R_iload_n (pc := 19) 1 rfl rfl dX7_feed_19 ?_
    refine R_callVI (pc := 20) (as := [vI x1]) (st := []) rfl rfl kX5_append sX5_append lC_37 rfl w_2_50 (ltb rfl) rfl (leb rfl) dX7_feed_20 h (fun r4 σ3 h => ?_)
    exact R_iret (pc := 23) rfl dX7_feed_23 ⟨_, rfl, h⟩
  · have h := h.2 c
    refine R_iconst (pc := 10) (by decide) dX7_feed_10 ?_
    exact R_iret (pc := 11) rfl dX7_feed_11 ⟨_, rfl, h⟩
theorem X7_forget_E {x1 : Int} {σ : Mem} {Q : Int → Mem → Prop} (h : CI layC MX7_within [vI x1, vI 0, vI (σ 1 3)] σ (fun r2 σ1 => ((r2 ≠ 0 → Q (σ 1 3) (upM σ1 1 3 x1)) ∧ (r2 = 0 → Q (-1) σ1)))) : CI layC MX7_forget [vP 0, vI x1] σ Q := by
  refine Cl.ofR (ls := [(0, vP 0), (1, vI x1)]) (show plainName RX7 = true by decide +kernel) (leb rfl) rfl ?_
  refine R_aload_n (pc := 0) 0 rfl rfl dX7_forget_0 ?_
  refine R_getP (pc := 1) (q' := 1) lC_0 rfl flX7_10 dX7_forget_1 ?_
  refine R_getI (pc := 4) lC_1 rfl flX7_231 dX7_forget_4 ?_
  refine R_istore_n (pc := 7) (ls' := [(2, vI (σ 1 3)), (0, vP 0), (1, vI x1)]) rfl rfl (ltb rfl) dX7_forget_7 ?_
  refine R_iload_n (pc := 8) 2 rfl rfl dX7_forget_8 ?_
  refine R_iconst (pc := 9) (by decide) dX7_forget_9 ?_
  refine R_iload_n (pc := 10) 0 rfl rfl dX7_forget_10 ?_
  refine R_callSI (pc := 11) (as := [vI x1, vI 0, vI (σ 1 3)]) (st := []) rfl rfl kX7_within sX7_within w_2_47 (ltb rfl) rfl (leb rfl) dX7_forget_11 h (fun r2 σ1 h => ?_)
  refine R_if_ne (pc := 14) (tgt := 19) (by decide) dX7_forget_14 (fun c => ?_) (fun c => ?_)
  · have h := h.1 c
    refine R_aload_n (pc := 19) 1 rfl rfl dX7_forget_19 ?_
    refine R_getP (pc := 20) (q' := 1) lC_0 rfl flX7_10 dX7_forget_20 ?_
    refine R_iload_n (pc := 23) 2 rfl rfl dX7_forget_23 ?_
    refine R_putI (pc := 24) lC_1 rfl fpX7_231 dX7_forget_24 ?_
    refine R_iload_n (pc := 27) 0 rfl rfl dX7_forget_27 ?_
    exact R_iret (pc := 28) rfl dX7_forget_28 ⟨_, rfl, h⟩
  · have h := h.2 c
    refine R_iconst (pc := 17) (by decide) dX7_forget_17 ?_
    exact R_iret (pc := 18) rfl dX7_forget_18 ⟨_, rfl, h⟩
theorem X7_isHerd_E {x0 : Int} {σ : Mem} {Q : Int → Mem → Prop} (h : CI layC MX7_within [vI x0, vI 0, vI 999] σ (fun r2 σ1 => (r2 = 0 ∨ r2 = 1) ∧ Q r2 σ1)) : CI layC MX7_isHerd [vI x0] σ Q := by
  refine Cl.ofR (ls := [(0, vI x0)]) (show plainName RX7 = true by decide +kernel) (leb rfl) rfl ?_
  refine R_iload_n (pc := 0) 0 rfl rfl dX7_isHerd_0 ?_
  refine R_iconst (pc := 1) (by decide) dX7_isHerd_1 ?_
  refine R_sipush (pc := 2) (by decide) dX7_isHerd_2 ?_
  refine R_callSI (pc := 5) (as := [vI x0, vI 0, vI 999]) (st := []) rfl rfl kX7_within sX7_within w_2_47 (ltb rfl) rfl (leb rfl) dX7_isHerd_5 h (fun r2 σ1 h => ?_)
  obtain ⟨g, h⟩ := h
  exact R_zret (pc := 8) rfl g dX7_isHerd_8 ⟨_, rfl, h⟩
theorem X7_isKind_E {x0 : Int} {σ : Mem} {Q : Int → Mem → Prop} (h : CI layC MX7_within [vI x0, vI 0, vI 3] σ (fun r2 σ1 => (r2 = 0 ∨ r2 = 1) ∧ Q r2 σ1)) : CI layC MX7_isKind [vI x0] σ Q := by
  refine Cl.ofR (ls := [(0, vI x0)]) (show plainName RX7 = true by decide +kernel) (leb rfl) rfl ?_
  refine R_iload_n (pc := 0) 0 rfl rfl dX7_isKind_0 ?_
  refine R_iconst (pc := 1) (by decide) dX7_isKind_1 ?_
  refine R_iconst (pc := 2) (by decide) dX7_isKind_2 ?_
  refine R_callSI (pc := 3) (as := [vI x0, vI 0, vI 3]) (st := []) rfl rfl kX7_within sX7_within w_2_47 (ltb rfl) rfl (leb rfl) dX7_isKind_3 h (fun r2 σ1 h => ?_)
  obtain ⟨g, h⟩ := h
  exact R_zret (pc := 6) rfl g dX7_isKind_6 ⟨_, rfl, h⟩
theorem X7_isLane_E {x0 : Int} {σ : Mem} {Q : Int → Mem → Prop} (h : CI layC MX7_within [vI x0, vI 0, vI 2] σ (fun r2 σ1 => (r2 = 0 ∨ r2 = 1) ∧ Q r2 σ1)) : CI layC MX7_isLane [vI x0] σ Q := by
  refine Cl.ofR (ls := [(0, vI x0)]) (show plainName RX7 = true by decide +kernel) (leb rfl) rfl ?_
  refine R_iload_n (pc := 0) 0 rfl rfl dX7_isLane_0 ?_
  refine R_iconst (pc := 1) (by decide) dX7_isLane_1 ?_
  refine R_iconst (pc := 2) (by decide) dX7_isLane_2 ?_
  refine R_callSI (pc := 3) (as := [vI x0, vI 0, vI 2]) (st := []) rfl rfl kX7_within sX7_within w_2_47 (ltb rfl) rfl (leb rfl) dX7_isLane_3 h (fun r2 σ1 h => ?_)
  obtain ⟨g, h⟩ := h
  exact R_zret (pc := 6) rfl g dX7_isLane_6 ⟨_, rfl, h⟩
theorem X7_isSheet_E {x0 : Int} {σ : Mem} {Q : Int → Mem → Prop} (h : CI layC MX7_within [vI x0, vI 0, vI 3] σ (fun r2 σ1 => (r2 = 0 ∨ r2 = 1) ∧ Q r2 σ1)) : CI layC MX7_isSheet [vI x0] σ Q := by
  refine Cl.ofR (ls := [(0, vI x0)]) (show plainName RX7 = true by decide +kernel) (leb rfl) rfl ?_
  refine R_iload_n (pc := 0) 0 rfl rfl dX7_isSheet_0 ?_
  refine R_iconst (pc := 1) (by decide) dX7_isSheet_1 ?_
  refine R_iconst (pc := 2) (by decide) dX7_isSheet_2 ?_
  refine R_callSI (pc := 3) (as := [vI x0, vI 0, vI 3]) (st := []) rfl rfl kX7_within sX7_within w_2_47 (ltb rfl) rfl (leb rfl) dX7_isSheet_3 h (fun r2 σ1 h => ?_)
  obtain ⟨g, h⟩ := h
  exact R_zret (pc := 6) rfl g dX7_isSheet_6 ⟨_, rfl, h⟩
theorem X7_keep_E {x1 : Int} {σ : Mem} {Q : Int → Mem → Prop} (h : CI layC MX7_within [vI x1, vI 0, vI 1] σ (fun r2 σ1 => ((r2 ≠ 0 → 0 ≤ x1 ∧ x1 < 2 ∧ (((σ1 44 x1) = 0 → 0 ≤ x1 ∧ x1 < 2 ∧ (x1 = 0 → CV layC MX0_copy [vP 11, vP 1] σ1 (fun σ3 => 0 ≤ x1 ∧ x1 < 2 ∧ Q 0 (upM σ3 44 x1 1))) ∧ (x1 = 1 → CV layC MX0_copy [vP 16, vP 1] σ1 (fun σ4 => 0 ≤ x1 ∧ x1 < 2 ∧ Q 0 (upM σ4 44 x1 1)))) ∧ ((σ1 44 x1) ≠ 0 → 0 ≤ x1 ∧ x1 < 2 ∧ (x1 = 0 → CV layC MX0_copy [vP 11, vP 1] σ1 (fun σ5 => 0 ≤ x1 ∧ x1 < 2 ∧ Q 1 (upM σ5 44 x1 1))) ∧ (x1 = 1 → CV layC MX0_copy [vP 16, vP 1] σ1 (fun σ6 => 0 ≤ x1 ∧ x1 < 2 ∧ Q 1 (upM σ6 44 x1 1)))))) ∧ (r2 = 0 → Q (-1) σ1)))) : CI layC MX7_keep [vP 0, vI x1] σ Q := by
  refine Cl.ofR (ls := [(0, vP 0), (1, vI x1)]) (show plainName RX7 = true by decide +kernel) (leb rfl) rfl ?_
  refine R_iload_n (pc := 0) 1 rfl rfl dX7_keep_0 ?_
  refine R_iconst (pc := 1) (by decide) dX7_keep_1 ?_
  refine R_iconst (pc := 2) (by decide) dX7_keep_2 ?_
  refine R_callSI (pc := 3) (as := [vI x1, vI 0, vI 1]) (st := []) rfl rfl kX7_within sX7_within w_2_47 (ltb rfl) rfl (leb rfl) dX7_keep_3 h (fun r2 σ1 h => ?_)
  refine R_if_ne (pc := 6) (tgt := 11) (by decide) dX7_keep_6 (fun c => ?_) (fun c => ?_)
  · have h := h.1 c
    refine R_aload_n (pc := 11) 0 rfl rfl dX7_keep_11 ?_
    refine R_getP (pc := 12) (q' := 44) lC_0 rfl flX7_23 dX7_keep_12 ?_
    refine R_iload_n (pc := 15) 1 rfl rfl dX7_keep_15 ?_
    obtain ⟨g0, g1, h⟩ := h
    refine R_zaload (pc := 16) lC_44 g0 g1 dX7_keep_16 ?_
    refine R_if_eq (pc := 17) (tgt := 24) (by decide) dX7_keep_17 (fun c => ?_) (fun c => ?_)
    · have h := h.1 c
      refine R_iconst (pc := 24) (by decide) dX7_keep_24 ?_
      refine R_istore_n (pc := 25) (ls' := [(2, vI 0), (0, vP 0), (1, vI x1)]) rfl rfl (ltb rfl) dX7_keep_25 ?_
      refine R_aload_n (pc := 26) 1 rfl rfl dX7_keep_26 ?_
      refine R_getP (pc := 27) (q' := 43) lC_0 rfl flX7_19 dX7_keep_27 ?_
      refine R_iload_n (pc := 30) 2 rfl rfl dX7_keep_30 ?_
      obtain ⟨g0, g1, h⟩ := h
      rcases (show x1 = 0 ∨ x1 = 1 by omega) with hk | hk
      · have h := h.1 hk
        refine R_aaload4 (pc := 31) (q' := 11) lC_43 g0 g1 (by rw [hk]; rfl) dX7_keep_31 ?_
        refine R_aload_n (pc := 32) 1 rfl rfl dX7_keep_32 ?_
        refine R_getP (pc := 33) (q' := 1) lC_0 rfl flX7_10 dX7_keep_33 ?_
        refine R_callV0 (pc := 36) (as := [vP 1]) (st := []) rfl rfl kX0_copy sX0_copy lC_11 rfl w_2_195 (ltb rfl) rfl (leb rfl) dX7_keep_36 h (fun σ3 h => ?_)
        refine R_aload_n (pc := 39) 1 rfl rfl dX7_keep_39 ?_
        refine R_getP (pc := 40) (q' := 44) lC_0 rfl flX7_23 dX7_keep_40 ?_
        refine R_iload_n (pc := 43) 2 rfl rfl dX7_keep_43 ?_
        refine R_iconst (pc := 44) (by decide) dX7_keep_44 ?_
        obtain ⟨g0, g1, h⟩ := h
        refine R_zastore (pc := 45) (by decide) lC_44 g0 g1 dX7_keep_45 ?_
        refine R_iload_n (pc := 46) 0 rfl rfl dX7_keep_46 ?_
        exact R_iret (pc := 47) rfl dX7_keep_47 ⟨_, rfl, h⟩
      · have h := h.2 hk
        refine R_aaload4 (pc := 31) (q' := 16) lC_43 g0 g1 (by rw [hk]; rfl) dX7_keep_31 ?_
        refine R_aload_n (pc := 32) 1 rfl rfl dX7_keep_32 ?_
        refine R_getP (pc := 33) (q' := 1) lC_0 rfl flX7_10 dX7_keep_33 ?_
        refine R_callV0 (pc := 36) (as := [vP 1]) (st := []) rfl rfl kX0_copy sX0_copy lC_16 rfl w_2_195 (ltb rfl) rfl (leb rfl) dX7_keep_36 h (fun σ4 h => ?_)
        refine R_aload_n (pc := 39) 1 rfl rfl dX7_keep_39 ?_
        refine R_getP (pc := 40) (q' := 44) lC_0 rfl flX7_23 dX7_keep_40 ?_
        refine R_iload_n (pc := 43) 2 rfl rfl dX7_keep_43 ?_
        refine R_iconst (pc := 44) (by decide) dX7_keep_44 ?_
        obtain ⟨g0, g1, h⟩ := h
        refine R_zastore (pc := 45) (by decide) lC_44 g0 g1 dX7_keep_45 ?_
        refine R_iload_n (pc := 46) 0 rfl rfl dX7_keep_46 ?_
        exact R_iret (pc := 47) rfl dX7_keep_47 ⟨_, rfl, h⟩
    · have h := h.2 c
      refine R_iconst (pc := 20) (by decide) dX7_keep_20 ?_
      refine R_goto (pc := 21) (tgt := 25) (by decide) dX7_keep_21 ?_
      refine R_istore_n (pc := 25) (ls' := [(2, vI 1), (0, vP 0), (1, vI x1)]) rfl rfl (ltb rfl) dX7_keep_25 ?_
      refine R_aload_n (pc := 26) 1 rfl rfl dX7_keep_26 ?_
      refine R_getP (pc := 27) (q' := 43) lC_0 rfl flX7_19 dX7_keep_27 ?_
      refine R_iload_n (pc := 30) 2 rfl rfl dX7_keep_30 ?_
      obtain ⟨g0, g1, h⟩ := h
      rcases (show x1 = 0 ∨ x1 = 1 by omega) with hk | hk
      · have h := h.1 hk
        refine R_aaload4 (pc := 31) (q' := 11) lC_43 g0 g1 (by rw [hk]; rfl) dX7_keep_31 ?_
        refine R_aload_n (pc := 32) 1 rfl rfl dX7_keep_32 ?_
        refine R_getP (pc := 33) (q' := 1) lC_0 rfl flX7_10 dX7_keep_33 ?_
        refine R_callV0 (pc := 36) (as := [vP 1]) (st := []) rfl rfl kX0_copy sX0_copy lC_11 rfl w_2_195 (ltb rfl) rfl (leb rfl) dX7_keep_36 h (fun σ5 h => ?_)
        refine R_aload_n (pc := 39) 1 rfl rfl dX7_keep_39 ?_
        refine R_getP (pc := 40) (q' := 44) lC_0 rfl flX7_23 dX7_keep_40 ?_
        refine R_iload_n (pc := 43) 2 rfl rfl dX7_keep_43 ?_
        refine R_iconst (pc := 44) (by decide) dX7_keep_44 ?_
        obtain ⟨g0, g1, h⟩ := h
        refine R_zastore (pc := 45) (by decide) lC_44 g0 g1 dX7_keep_45 ?_
        refine R_iload_n (pc := 46) 0 rfl rfl dX7_keep_46 ?_
        exact R_iret (pc := 47) rfl dX7_keep_47 ⟨_, rfl, h⟩
      · have h := h.2 hk
        refine R_aaload4 (pc := 31) (q' := 16) lC_43 g0 g1 (by rw [hk]; rfl) dX7_keep_31 ?_
        refine R_aload_n (pc := 32) 1 rfl rfl dX7_keep_32 ?_
        refine R_getP (pc := 33) (q' := 1) lC_0 rfl flX7_10 dX7_keep_33 ?_
        refine R_callV0 (pc := 36) (as := [vP 1]) (st := []) rfl rfl kX0_copy sX0_copy lC_16 rfl w_2_195 (ltb rfl) rfl (leb rfl) dX7_keep_36 h (fun σ6 h => ?_)
        refine R_aload_n (pc := 39) 1 rfl rfl dX7_keep_39 ?_
        refine R_getP (pc := 40) (q' := 44) lC_0 rfl flX7_23 dX7_keep_40 ?_
        refine R_iload_n (pc := 43) 2 rfl rfl dX7_keep_43 ?_
        refine R_iconst (pc := 44) (by decide) dX7_keep_44 ?_
        obtain ⟨g0, g1, h⟩ := h
        refine R_zastore (pc := 45) (by decide) lC_44 g0 g1 dX7_keep_45 ?_
        refine R_iload_n (pc := 46) 0 rfl rfl dX7_keep_46 ?_
        exact R_iret (pc := 47) rfl dX7_keep_47 ⟨_, rfl, h⟩
  · have h := h.2 c
    refine R_iconst (pc := 9) (by decide) dX7_keep_9 ?_
    exact R_iret (pc := 10) rfl dX7_keep_10 ⟨_, rfl, h⟩
def LX7_odds_5 (x0 : Int) (x1 : Int) (x2 : Int) (x3 : Int) (x5 : Int) (σ : Mem) (Q : Int → Mem → Prop) : Prop := Rn layC MX7_odds 5 [(0, vI x0), (1, vI x1), (2, vI x2), (3, vJ x3), (5, vI x5)] [] σ (qJ Q)
theorem X7_odds_5 {x0 x1 x2 x3 x5 : Int} {σ : Mem} {Q : Int → Mem → Prop} (h : ((x1 < x5 → I32 (10 - x2) ∧ CJ layC MX7_power [vI (10 - x2), vI x1] σ (fun r2 σ1 => I64 (x3 * r2) ∧ I32 (x0 - x1) ∧ CJ layC MX7_power [vI x2, vI (x0 - x1)] σ1 (fun r4 σ3 => I64 ((x3 * r2) * r4) ∧ Q ((x3 * r2) * r4) σ3))) ∧ (x5 ≤ x1 → I32 (x0 - x1) ∧ I32 ((x0 - x1) + x5) ∧ I64 (x3 * ((x0 - x1) + x5)) ∧ CJ layC MX7_quotient [vJ (x3 * ((x0 - x1) + x5)), vJ x5] σ (fun r6 σ5 => I32 (x5 + 1) ∧ LX7_odds_5 x0 x1 x2 r6 (x5 + 1) σ5 Q)))) : LX7_odds_5 x0 x1 x2 x3 x5 σ Q := by
  unfold LX7_odds_5
  refine R_iload (pc := 5) 4 rfl dX7_odds_5 ?_
  refine R_iload_n (pc := 7) 1 rfl rfl dX7_odds_7 ?_
  refine R_icmp_gt (pc := 8) (tgt := 33) (by decide) dX7_odds_8 (fun c => ?_) (fun c => ?_)
  · have h := h.1 c
    refine R_lload_n (pc := 33) 3 rfl rfl dX7_odds_33 ?_
    refine R_bipush (pc := 34) (by decide) dX7_odds_34 ?_
    refine R_iload_n (pc := 36) 2 rfl rfl dX7_odds_36 ?_
    obtain ⟨g, h⟩ := h
    refine R_isub (pc := 37) g dX7_odds_37 ?_
    refine R_iload_n (pc := 38) 1 rfl rfl dX7_odds_38 ?_
    refine R_callSJ (pc := 39) (as := [vI (10 - x2), vI x1]) (st := [vJ x3]) rfl rfl kX7_power sX7_power w_3_208 (ltb rfl) rfl (leb rfl) dX7_odds_39 h (fun r2 σ1 h => ?_)
    obtain ⟨g, h⟩ := h
    refine R_lmul (pc := 42) g dX7_odds_42 ?_
    refine R_iload_n (pc := 43) 2 rfl rfl dX7_odds_43 ?_
    refine R_iload_n (pc := 44) 0 rfl rfl dX7_odds_44 ?_
    refine R_iload_n (pc := 45) 1 rfl rfl dX7_odds_45 ?_
    obtain ⟨g, h⟩ := h
    refine R_isub (pc := 46) g dX7_odds_46 ?_
    refine R_callSJ (pc := 47) (as := [vI x2, vI (x0 - x1)]) (st := [vJ (x3 * r2)]) rfl rfl kX7_power sX7_power w_3_208 (ltb rfl) rfl (leb rfl) dX7_odds_47 h (fun r4 σ3 h => ?_)
    obtain ⟨g, h⟩ := h
    refine R_lmul (pc := 50) g dX7_odds_50 ?_
    exact R_lret (pc := 51) rfl dX7_odds_51 ⟨_, rfl, h⟩
  · have h := h.2 c
    refine R_lload_n (pc := 11) 3 rfl rfl dX7_odds_11 ?_
    refine R_iload_n (pc := 12) 0 rfl rfl dX7_odds_12 ?_
    refine R_iload_n (pc := 13) 1 rfl rfl dX7_odds_13 ?_
    obtain ⟨g, h⟩ := h
    refine R_isub (pc := 14) g dX7_odds_14 ?_
    refine R_iload (pc := 15) 4 rfl dX7_odds_15 ?_
    obtain ⟨g, h⟩ := h
    refine R_iadd (pc := 17) g dX7_odds_17 ?_
    refine R_i2l (pc := 18) dX7_odds_18 ?_
    obtain ⟨g, h⟩ := h
    refine R_lmul (pc := 19) g dX7_odds_19 ?_
    refine R_iload (pc := 20) 4 rfl dX7_odds_20 ?_
    refine R_i2l (pc := 22) dX7_odds_22 ?_
    refine R_callSJ (pc := 23) (as := [vJ (x3 * ((x0 - x1) + x5)), vJ x5]) (st := []) rfl rfl kX7_quotient sX7_quotient w_3_64 (ltb rfl) rfl (leb rfl) dX7_odds_23 h (fun r6 σ5 h => ?_)
    refine R_lstore_n (pc := 26) (ls' := [(3, vJ r6), (0, vI x0), (1, vI x1), (2, vI x2), (5, vI x5)]) rfl rfl (ltb rfl) dX7_odds_26 ?_
    obtain ⟨g, h⟩ := h
    refine R_iinc (pc := 27) 4 rfl rfl g (ls' := [(5, vI (x5 + 1)), (3, vJ r6), (0, vI x0), (1, vI x1), (2, vI x2)]) rfl (ltb rfl) dX7_odds_27 ?_
    refine R_goto (pc := 30) (tgt := 5) (by decide) dX7_odds_30 ?_
    refine R_sub [2, 3, 4, 1, 0] rfl ?_
    exact h
theorem X7_odds_E {x0 x1 x2 : Int} {σ : Mem} {Q : Int → Mem → Prop} (h : LX7_odds_5 x0 x1 x2 1 1 σ Q) : CJ layC MX7_odds [vI x0, vI x1, vI x2] σ Q := by
  refine Cl.ofR (ls := [(0, vI x0), (1, vI x1), (2, vI x2)]) (show plainName RX7 = true by decide +kernel) (leb rfl) rfl ?_
  refine R_lconst (pc := 0) (x := 1) rfl dX7_odds_0 ?_
  refine R_lstore_n (pc := 1) (ls' := [(3, vJ 1), (0, vI x0), (1, vI x1), (2, vI x2)]) rfl rfl (ltb rfl) dX7_odds_1 ?_
  refine R_iconst (pc := 2) (by decide) dX7_odds_2 ?_
  refine R_istore (pc := 3) (ls' := [(5, vI 1), (3, vJ 1), (0, vI x0), (1, vI x1), (2, vI x2)]) rfl (ltb rfl) dX7_odds_3 ?_
  refine R_sub [2, 3, 4, 1, 0] rfl ?_
  exact h
theorem X7_wholePart_E {x1 x2 : Int} {σ : Mem} {Q : Int → Mem → Prop} (h : 0 ≤ x1 ∧ x1 < 5 ∧ I64 (x2 * (σ 2 x1)) ∧ 0 ≤ x1 ∧ x1 < 5 ∧ CJ layC MX7_remainder [vJ (x2 * (σ 2 x1)), vJ (σ 3 x1)] σ (fun r2 σ1 => ((r2 ≠ 0 → Q (-4) σ1) ∧ (r2 = 0 → 0 ≤ x1 ∧ x1 < 5 ∧ CJ layC MX7_quotient [vJ (x2 * (σ 2 x1)), vJ (σ1 3 x1)] σ1 (fun r4 σ3 => I32 r4 ∧ Q r4 σ3))))) : CI layC MX7_wholePart [vP 0, vI x1, vI x2] σ Q := by
  refine Cl.ofR (ls := [(0, vP 0), (1, vI x1), (2, vI x2)]) (show plainName RX7 = true by decide +kernel) (leb rfl) rfl ?_
  refine R_iload_n (pc := 0) 2 rfl rfl dX7_wholePart_0 ?_
  refine R_i2l (pc := 1) dX7_wholePart_1 ?_
  refine R_aload_n (pc := 2) 0 rfl rfl dX7_wholePart_2 ?_
  refine R_getP (pc := 3) (q' := 1) lC_0 rfl flX7_10 dX7_wholePart_3 ?_
  refine R_getP (pc := 6) (q' := 2) lC_1 rfl flX7_146 dX7_wholePart_6 ?_
  refine R_iload_n (pc := 9) 1 rfl rfl dX7_wholePart_9 ?_
  obtain ⟨g0, g1, h⟩ := h
  refine R_iaload (pc := 10) lC_2 g0 g1 dX7_wholePart_10 ?_
  refine R_i2l (pc := 11) dX7_wholePart_11 ?_
  obtain ⟨g, h⟩ := h
  refine R_lmul (pc := 12) g dX7_wholePart_12 ?_
  refine R_lstore_n (pc := 13) (ls' := [(3, vJ (x2 * (σ 2 x1))), (0, vP 0), (1, vI x1), (2, vI x2)]) rfl rfl (ltb rfl) dX7_wholePart_13 ?_
  refine R_lload_n (pc := 14) 0 rfl rfl dX7_wholePart_14 ?_
  refine R_aload_n (pc := 15) 1 rfl rfl dX7_wholePart_15 ?_
  refine R_getP (pc := 16) (q' := 1) lC_0 rfl flX7_10 dX7_wholePart_16 ?_
  refine R_getP (pc := 19) (q' := 3) lC_1 rfl flX7_149 dX7_wholePart_19 ?_
  refine R_iload_n (pc := 22) 2 rfl rfl dX7_wholePart_22 ?_
  obtain ⟨g0, g1, h⟩ := h
  refine R_iaload (pc := 23) lC_3 g0 g1 dX7_wholePart_23 ?_
  refine R_i2l (pc := 24) dX7_wholePart_24 ?_
  refine R_callSJ (pc := 25) (as := [vJ (x2 * (σ 2 x1)), vJ (σ 3 x1)]) (st := []) rfl rfl kX7_remainder sX7_remainder w_3_63 (ltb rfl) rfl (leb rfl) dX7_wholePart_25 h (fun r2 σ1 h => ?_)
  refine R_lconst (pc := 28) (x := 0) rfl dX7_wholePart_28 ?_
  refine R_lcmp_ne (pc := 29) (tgt := 51) dX7_wholePart_29 (by decide) dX7_wholePart_30 (fun c => ?_) (fun c => ?_)
  · have h := h.1 c
    refine R_bipush (pc := 51) (by decide) dX7_wholePart_51 ?_
    exact R_iret (pc := 53) rfl dX7_wholePart_53 ⟨_, rfl, h⟩
  · have h := h.2 c
    refine R_lload_n (pc := 33) 0 rfl rfl dX7_wholePart_33 ?_
    refine R_aload_n (pc := 34) 1 rfl rfl dX7_wholePart_34 ?_
    refine R_getP (pc := 35) (q' := 1) lC_0 rfl flX7_10 dX7_wholePart_35 ?_
    refine R_getP (pc := 38) (q' := 3) lC_1 rfl flX7_149 dX7_wholePart_38 ?_
    refine R_iload_n (pc := 41) 2 rfl rfl dX7_wholePart_41 ?_
    obtain ⟨g0, g1, h⟩ := h
    refine R_iaload (pc := 42) lC_3 g0 g1 dX7_wholePart_42 ?_
    refine R_i2l (pc := 43) dX7_wholePart_43 ?_
    refine R_callSJ (pc := 44) (as := [vJ (x2 * (σ 2 x1)), vJ (σ1 3 x1)]) (st := []) rfl rfl kX7_quotient sX7_quotient w_3_64 (ltb rfl) rfl (leb rfl) dX7_wholePart_44 h (fun r4 σ3 h => ?_)
    obtain ⟨g, h⟩ := h
    refine R_l2i (pc := 47) g dX7_wholePart_47 ?_
    refine R_goto (pc := 48) (tgt := 53) (by decide) dX7_wholePart_48 ?_
    exact R_iret (pc := 53) rfl dX7_wholePart_53 ⟨_, rfl, h⟩
def LX2_firstOff_2 (b : Nat) (x1 : Int) (σ : Mem) (Q : Int → Mem → Prop) : Prop := Rn layC MX2_firstOff 2 [(0, vP b), (1, vI x1)] [] σ (qI Q)
theorem X2_firstOff_2 {b : Nat} (hb : isPt b) {x1 : Int} {σ : Mem} {Q : Int → Mem → Prop} (h : (((σ b 6) ≤ x1 → Q (-1) σ) ∧ (x1 < (σ b 6) → CI layC MX2_isOff [vP b, vI x1] σ (fun r2 σ1 => ((r2 = 0 → I32 (x1 + 1) ∧ LX2_firstOff_2 b (x1 + 1) σ1 Q) ∧ (r2 ≠ 0 → Q x1 σ1)))))) : LX2_firstOff_2 b x1 σ Q := by
  unfold LX2_firstOff_2
  refine R_iload_n (pc := 2) 1 rfl rfl dX2_firstOff_2 ?_
  refine R_aload_n (pc := 3) 0 rfl rfl dX2_firstOff_3 ?_
  refine R_getI (pc := 4) hb.1 rfl flX2_32 dX2_firstOff_4 ?_
  refine R_icmp_ge (pc := 7) (tgt := 26) (by decide) dX2_firstOff_7 (fun c => ?_) (fun c => ?_)
  · have h := h.1 c
    refine R_iconst (pc := 26) (by decide) dX2_firstOff_26 ?_
    exact R_iret (pc := 27) rfl dX2_firstOff_27 ⟨_, rfl, h⟩
  · have h := h.2 c
    refine R_aload_n (pc := 10) 0 rfl rfl dX2_firstOff_10 ?_
    refine R_iload_n (pc := 11) 1 rfl rfl dX2_firstOff_11 ?_
    refine R_callVI (pc := 12) (as := [vI x1]) (st := []) rfl rfl kX2_isOff sX2_isOff hb.1 rfl w_3_174 (ltb rfl) rfl (leb rfl) dX2_firstOff_12 h (fun r2 σ1 h => ?_)
    refine R_if_eq (pc := 15) (tgt := 20) (by decide) dX2_firstOff_15 (fun c => ?_) (fun c => ?_)
    · have h := h.1 c
      obtain ⟨g, h⟩ := h
      refine R_iinc (pc := 20) 1 rfl rfl g (ls' := [(1, vI (x1 + 1)), (0, vP b)]) rfl (ltb rfl) dX2_firstOff_20 ?_
      refine R_goto (pc := 23) (tgt := 2) (by decide) dX2_firstOff_23 ?_
      refine R_sub [1, 0] rfl ?_
      exact h
    · have h := h.2 c
      refine R_iload_n (pc := 18) 1 rfl rfl dX2_firstOff_18 ?_
      exact R_iret (pc := 19) rfl dX2_firstOff_19 ⟨_, rfl, h⟩
theorem X2_firstOff_E {b : Nat} (hb : isPt b) {σ : Mem} {Q : Int → Mem → Prop} (h : LX2_firstOff_2 b 0 σ Q) : CI layC MX2_firstOff [vP b] σ Q := by
  refine Cl.ofR (ls := [(0, vP b)]) (show plainName RX2 = true by decide +kernel) (leb rfl) rfl ?_
  refine R_iconst (pc := 0) (by decide) dX2_firstOff_0 ?_
  refine R_istore_n (pc := 1) (ls' := [(1, vI 0), (0, vP b)]) rfl rfl (ltb rfl) dX2_firstOff_1 ?_
  refine R_sub [1, 0] rfl ?_
  exact h
def LX2_giveByRests_7 (b : Nat) (x1 : Int) (σ : Mem) (Q : Mem → Prop) : Prop := Rn layC MX2_giveByRests 7 [(0, vP b), (1, vI x1)] [] σ (qV Q)
def LX2_giveByRests_56 (b : Nat) (x1 : Int) (σ : Mem) (Q : Mem → Prop) : Prop := Rn layC MX2_giveByRests 56 [(0, vP b), (1, vI x1)] [] σ (qV Q)
theorem X2_giveByRests_7 {b : Nat} (hb : isPt b) {x1 : Int} {σ : Mem} {Q : Mem → Prop} (h : (((σ b 6) ≤ x1 → CI layC MX2_given [vP b] σ (fun r2 σ1 => I32 ((σ b 8) - r2) ∧ LX2_giveByRests_56 b ((σ b 8) - r2) σ1 Q)) ∧ (x1 < (σ b 6) → 0 ≤ x1 ∧ x1 < 5 ∧ I64 ((σ b 8) * (σ (b + 1) x1)) ∧ CJ layC MX7_remainder [vJ ((σ b 8) * (σ (b + 1) x1)), vJ (σ b 1)] σ (fun r4 σ3 => 0 ≤ x1 ∧ x1 < 5 ∧ I32 (x1 + 1) ∧ LX2_giveByRests_7 b (x1 + 1) (upM σ3 (b + 2) x1 r4) Q)))) : LX2_giveByRests_7 b x1 σ Q := by
  unfold LX2_giveByRests_7
  refine R_iload_n (pc := 7) 1 rfl rfl dX2_giveByRests_7 ?_
  refine R_aload_n (pc := 8) 0 rfl rfl dX2_giveByRests_8 ?_
  refine R_getI (pc := 9) hb.1 rfl flX2_32 dX2_giveByRests_9 ?_
  refine R_icmp_ge (pc := 12) (tgt := 46) (by decide) dX2_giveByRests_12 (fun c => ?_) (fun c => ?_)
  · have h := h.1 c
    refine R_aload_n (pc := 46) 0 rfl rfl dX2_giveByRests_46 ?_
    refine R_getI (pc := 47) hb.1 rfl flX2_39 dX2_giveByRests_47 ?_
    refine R_aload_n (pc := 50) 0 rfl rfl dX2_giveByRests_50 ?_
    refine R_callVI (pc := 51) (as := []) (st := [vI (σ b 8)]) rfl rfl kX2_given sX2_given hb.1 rfl w_3_10 (ltb rfl) rfl (leb rfl) dX2_giveByRests_51 h (fun r2 σ1 h => ?_)
    obtain ⟨g, h⟩ := h
    refine R_isub (pc := 54) g dX2_giveByRests_54 ?_
    refine R_istore_n (pc := 55) (ls' := [(1, vI ((σ b 8) - r2)), (0, vP b)]) rfl rfl (ltb rfl) dX2_giveByRests_55 ?_
    refine R_sub [1, 0] rfl ?_
    exact h
  · have h := h.2 c
    refine R_aload_n (pc := 15) 0 rfl rfl dX2_giveByRests_15 ?_
    refine R_getP (pc := 16) (q' := (b + 2)) hb.1 rfl flX2_22 dX2_giveByRests_16 ?_
    refine R_iload_n (pc := 19) 1 rfl rfl dX2_giveByRests_19 ?_
    refine R_aload_n (pc := 20) 0 rfl rfl dX2_giveByRests_20 ?_
    refine R_getI (pc := 21) hb.1 rfl flX2_39 dX2_giveByRests_21 ?_
    refine R_i2l (pc := 24) dX2_giveByRests_24 ?_
    refine R_aload_n (pc := 25) 0 rfl rfl dX2_giveByRests_25 ?_
    refine R_getP (pc := 26) (q' := (b + 1)) hb.1 rfl flX2_18 dX2_giveByRests_26 ?_
    refine R_iload_n (pc := 29) 1 rfl rfl dX2_giveByRests_29 ?_
    obtain ⟨g0, g1, h⟩ := h
    refine R_laload (pc := 30) hb.2.1 g0 g1 dX2_giveByRests_30 ?_
    obtain ⟨g, h⟩ := h
    refine R_lmul (pc := 31) g dX2_giveByRests_31 ?_
    refine R_aload_n (pc := 32) 0 rfl rfl dX2_giveByRests_32 ?_
    refine R_getJ (pc := 33) hb.1 rfl flX2_15 dX2_giveByRests_33 ?_
    refine R_callSNJ (pc := 36) (as := [vJ ((σ b 8) * (σ (b + 1) x1)), vJ (σ b 1)]) (st := [vI x1, vP (b + 2)]) rfl rfl kX7_remainder sX7_remainder (List.mem_of_getElem? (i := 14) rfl) (ltb rfl) rfl (leb rfl) dX2_giveByRests_36 h (fun r4 σ3 h => ?_)
    obtain ⟨g0, g1, h⟩ := h
    refine R_lastore (pc := 39) hb.2.2.1 g0 g1 dX2_giveByRests_39 ?_
    obtain ⟨g, h⟩ := h
    refine R_iinc (pc := 40) 1 rfl rfl g (ls' := [(1, vI (x1 + 1)), (0, vP b)]) rfl (ltb rfl) dX2_giveByRests_40 ?_
    refine R_goto (pc := 43) (tgt := 7) (by decide) dX2_giveByRests_43 ?_
    refine R_sub [1, 0] rfl ?_
    exact h
theorem X2_giveByRests_56 {b : Nat} (hb : isPt b) {x1 : Int} {σ : Mem} {Q : Mem → Prop} (h : ((x1 ≤ 0 → Q σ) ∧ (0 < x1 → CV layC MX2_giveByGreatestRest [vP b] σ (fun σ1 => I32 (x1 + (-1)) ∧ LX2_giveByRests_56 b (x1 + (-1)) σ1 Q)))) : LX2_giveByRests_56 b x1 σ Q := by
  unfold LX2_giveByRests_56
  refine R_iload_n (pc := 56) 1 rfl rfl dX2_giveByRests_56 ?_
  refine R_if_le (pc := 57) (tgt := 70) (by decide) dX2_giveByRests_57 (fun c => ?_) (fun c => ?_)
  · have h := h.1 c
    exact R_vret (pc := 70) rfl dX2_giveByRests_70 ⟨rfl, h⟩
  · have h := h.2 c
    refine R_aload_n (pc := 60) 0 rfl rfl dX2_giveByRests_60 ?_
    refine R_callV0 (pc := 61) (as := []) (st := []) rfl rfl kX2_giveByGreatestRest sX2_giveByGreatestRest hb.1 rfl w_3_14 (ltb rfl) rfl (leb rfl) dX2_giveByRests_61 h (fun σ1 h => ?_)
    obtain ⟨g, h⟩ := h
    refine R_iinc (pc := 64) 1 rfl rfl g (ls' := [(1, vI (x1 + (-1))), (0, vP b)]) rfl (ltb rfl) dX2_giveByRests_64 ?_
    refine R_goto (pc := 67) (tgt := 56) (by decide) dX2_giveByRests_67 ?_
    refine R_sub [1, 0] rfl ?_
    exact h
theorem X2_giveByRests_E {b : Nat} (hb : isPt b) {σ : Mem} {Q : Mem → Prop} (h : CV layC MX2_giveQuotasLess [vP b, vI 0] σ (fun σ1 => LX2_giveByRests_7 b 0 σ1 Q)) : CV layC MX2_giveByRests [vP b] σ Q := by
  refine Cl.ofR (ls := [(0, vP b)]) (show plainName RX2 = true by decide +kernel) (leb rfl) rfl ?_
  refine R_aload_n (pc := 0) 0 rfl rfl dX2_giveByRests_0 ?_
  refine R_iconst (pc := 1) (by decide) dX2_giveByRests_1 ?_
  refine R_callV0 (pc := 2) (as := [vI 0]) (st := []) rfl rfl kX2_giveQuotasLess sX2_giveQuotasLess hb.1 rfl w_3_0 (ltb rfl) rfl (leb rfl) dX2_giveByRests_2 h (fun σ1 h => ?_)
  refine R_iconst (pc := 5) (by decide) dX2_giveByRests_5 ?_
  refine R_istore_n (pc := 6) (ls' := [(1, vI 0), (0, vP b)]) rfl rfl (ltb rfl) dX2_giveByRests_6 ?_
  refine R_sub [1, 0] rfl ?_
  exact h
def LX2_giveByRow_15 (b : Nat) (x1 : Int) (σ : Mem) (Q : Mem → Prop) : Prop := Rn layC MX2_giveByRow 15 [(0, vP b), (1, vI x1)] [] σ (qV Q)
theorem X2_giveByRow_15 {b : Nat} (hb : isPt b) {x1 : Int} {σ : Mem} {Q : Mem → Prop} (h : ((x1 ≤ 0 → Q σ) ∧ (0 < x1 → CV layC MX2_giveNext [vP b] σ (fun σ1 => I32 (x1 + (-1)) ∧ LX2_giveByRow_15 b (x1 + (-1)) σ1 Q)))) : LX2_giveByRow_15 b x1 σ Q := by
  unfold LX2_giveByRow_15
  refine R_iload_n (pc := 15) 1 rfl rfl dX2_giveByRow_15 ?_
  refine R_if_le (pc := 16) (tgt := 29) (by decide) dX2_giveByRow_16 (fun c => ?_) (fun c => ?_)
  · have h := h.1 c
    exact R_vret (pc := 29) rfl dX2_giveByRow_29 ⟨rfl, h⟩
  · have h := h.2 c
    refine R_aload_n (pc := 19) 0 rfl rfl dX2_giveByRow_19 ?_
    refine R_callV0 (pc := 20) (as := []) (st := []) rfl rfl kX2_giveNext sX2_giveNext hb.1 rfl w_3_23 (ltb rfl) rfl (leb rfl) dX2_giveByRow_20 h (fun σ1 h => ?_)
    obtain ⟨g, h⟩ := h
    refine R_iinc (pc := 23) 1 rfl rfl g (ls' := [(1, vI (x1 + (-1))), (0, vP b)]) rfl (ltb rfl) dX2_giveByRow_23 ?_
    refine R_goto (pc := 26) (tgt := 15) (by decide) dX2_giveByRow_26 ?_
    refine R_sub [1, 0] rfl ?_
    exact h
theorem X2_giveByRow_E {b : Nat} (hb : isPt b) {σ : Mem} {Q : Mem → Prop} (h : CV layC MX2_giveQuotasLess [vP b, vI 3] σ (fun σ1 => CI layC MX2_given [vP b] σ1 (fun r3 σ2 => I32 ((σ1 b 8) - r3) ∧ LX2_giveByRow_15 b ((σ1 b 8) - r3) σ2 Q))) : CV layC MX2_giveByRow [vP b] σ Q := by
  refine Cl.ofR (ls := [(0, vP b)]) (show plainName RX2 = true by decide +kernel) (leb rfl) rfl ?_
  refine R_aload_n (pc := 0) 0 rfl rfl dX2_giveByRow_0 ?_
  refine R_iconst (pc := 1) (by decide) dX2_giveByRow_1 ?_
  refine R_callV0 (pc := 2) (as := [vI 3]) (st := []) rfl rfl kX2_giveQuotasLess sX2_giveQuotasLess hb.1 rfl w_3_0 (ltb rfl) rfl (leb rfl) dX2_giveByRow_2 h (fun σ1 h => ?_)
  refine R_aload_n (pc := 5) 0 rfl rfl dX2_giveByRow_5 ?_
  refine R_getI (pc := 6) hb.1 rfl flX2_39 dX2_giveByRow_6 ?_
  refine R_aload_n (pc := 9) 0 rfl rfl dX2_giveByRow_9 ?_
  refine R_callVI (pc := 10) (as := []) (st := [vI (σ1 b 8)]) rfl rfl kX2_given sX2_given hb.1 rfl w_3_10 (ltb rfl) rfl (leb rfl) dX2_giveByRow_10 h (fun r3 σ2 h => ?_)
  obtain ⟨g, h⟩ := h
  refine R_isub (pc := 13) g dX2_giveByRow_13 ?_
  refine R_istore_n (pc := 14) (ls' := [(1, vI ((σ1 b 8) - r3)), (0, vP b)]) rfl rfl (ltb rfl) dX2_giveByRow_14 ?_
  refine R_sub [1, 0] rfl ?_
  exact h
theorem X3_isInBounds_E {x1 : Int} {σ : Mem} {Q : Int → Mem → Prop} (h : (((σ 36 5) ≠ 3 → (((σ 36 5) ≠ 1 → CI layC MX7_within [vI x1, vI 1, vI 99] σ (fun r2 σ1 => (r2 = 0 ∨ r2 = 1) ∧ Q r2 σ1)) ∧ ((σ 36 5) = 1 → CI layC MX7_within [vI x1, vI 1, vI 9] σ (fun r4 σ3 => (r4 = 0 ∨ r4 = 1) ∧ Q r4 σ3)))) ∧ ((σ 36 5) = 3 → CI layC MX7_isHerd [vI x1] σ (fun r6 σ5 => (r6 = 0 ∨ r6 = 1) ∧ Q r6 σ5)))) : CI layC MX3_isInBounds [vP 36, vI x1] σ Q := by
  refine Cl.ofR (ls := [(0, vP 36), (1, vI x1)]) (show plainName RX3 = true by decide +kernel) (leb rfl) rfl ?_
  refine R_aload_n (pc := 0) 0 rfl rfl dX3_isInBounds_0 ?_
  refine R_getI (pc := 1) lC_36 rfl flX3_35 dX3_isInBounds_1 ?_
  refine R_iconst (pc := 4) (by decide) dX3_isInBounds_4 ?_
  refine R_icmp_ne (pc := 5) (tgt := 13) (by decide) dX3_isInBounds_5 (fun c => ?_) (fun c => ?_)
  · have h := h.1 c
    refine R_iload_n (pc := 13) 1 rfl rfl dX3_isInBounds_13 ?_
    refine R_iconst (pc := 14) (by decide) dX3_isInBounds_14 ?_
    refine R_aload_n (pc := 15) 0 rfl rfl dX3_isInBounds_15 ?_
    refine R_getI (pc := 16) lC_36 rfl flX3_35 dX3_isInBounds_16 ?_
    refine R_iconst (pc := 19) (by decide) dX3_isInBounds_19 ?_
    refine R_icmp_ne (pc := 20) (tgt := 28) (by decide) dX3_isInBounds_20 (fun c => ?_) (fun c => ?_)
    · have h := h.1 c
      refine R_bipush (pc := 28) (by decide) dX3_isInBounds_28 ?_
      refine R_callSNI (pc := 30) (as := [vI x1, vI 1, vI 99]) (st := []) rfl rfl kX7_within sX7_within (List.mem_of_getElem? (i := 10) rfl) (ltb rfl) rfl (leb rfl) dX3_isInBounds_30 h (fun r2 σ1 h => ?_)
      obtain ⟨g, h⟩ := h
      exact R_zret (pc := 33) rfl g dX3_isInBounds_33 ⟨_, rfl, h⟩
    · have h := h.2 c
      refine R_bipush (pc := 23) (by decide) dX3_isInBounds_23 ?_
      refine R_goto (pc := 25) (tgt := 30) (by decide) dX3_isInBounds_25 ?_
      refine R_callSNI (pc := 30) (as := [vI x1, vI 1, vI 9]) (st := []) rfl rfl kX7_within sX7_within (List.mem_of_getElem? (i := 10) rfl) (ltb rfl) rfl (leb rfl) dX3_isInBounds_30 h (fun r4 σ3 h => ?_)
      obtain ⟨g, h⟩ := h
      exact R_zret (pc := 33) rfl g dX3_isInBounds_33 ⟨_, rfl, h⟩
  · have h := h.2 c
    refine R_iload_n (pc := 8) 1 rfl rfl dX3_isInBounds_8 ?_
    refine R_callSNI (pc := 9) (as := [vI x1]) (st := []) rfl rfl kX7_isHerd sX7_isHerd (List.mem_of_getElem? (i := 9) rfl) (ltb rfl) rfl (leb rfl) dX3_isInBounds_9 h (fun r6 σ5 h => ?_)
    obtain ⟨g, h⟩ := h
    exact R_zret (pc := 12) rfl g dX3_isInBounds_12 ⟨_, rfl, h⟩
def LX5_takeName_5 (σ : Mem) (Q : Mem → Prop) : Prop := Rn layC MX5_takeName 5 [(0, vP 37)] [] σ (qV Q)
theorem X5_takeName_5 {σ : Mem} {Q : Mem → Prop} (h : (((σ 37 0) ≤ (σ 37 4) → Q σ) ∧ ((σ 37 4) < (σ 37 0) → 0 ≤ σ 37 4 ∧ σ 37 4 < 160 ∧ CI layC MX5_isLetter [vI (σ 38 (σ 37 4))] σ (fun r2 σ1 => ((r2 = 0 → Q σ1) ∧ (r2 ≠ 0 → I32 ((σ1 37 4) + 1) ∧ LX5_takeName_5 (upM σ1 37 4 ((σ1 37 4) + 1)) Q)))))) : LX5_takeName_5 σ Q := by
  unfold LX5_takeName_5
  refine R_aload_n (pc := 5) 0 rfl rfl dX5_takeName_5 ?_
  refine R_getI (pc := 6) lC_37 rfl flX5_24 dX5_takeName_6 ?_
  refine R_aload_n (pc := 9) 0 rfl rfl dX5_takeName_9 ?_
  refine R_getI (pc := 10) lC_37 rfl flX5_9 dX5_takeName_10 ?_
  refine R_icmp_ge (pc := 13) (tgt := 44) (by decide) dX5_takeName_13 (fun c => ?_) (fun c => ?_)
  · have h := h.1 c
    exact R_vret (pc := 44) rfl dX5_takeName_44 ⟨rfl, h⟩
  · have h := h.2 c
    refine R_aload_n (pc := 16) 0 rfl rfl dX5_takeName_16 ?_
    refine R_getP (pc := 17) (q' := 38) lC_37 rfl flX5_27 dX5_takeName_17 ?_
    refine R_aload_n (pc := 20) 0 rfl rfl dX5_takeName_20 ?_
    refine R_getI (pc := 21) lC_37 rfl flX5_24 dX5_takeName_21 ?_
    obtain ⟨g0, g1, h⟩ := h
    refine R_baload (pc := 24) lC_38 g0 g1 dX5_takeName_24 ?_
    refine R_callSI (pc := 25) (as := [vI (σ 38 (σ 37 4))]) (st := []) rfl rfl kX5_isLetter sX5_isLetter w_2_78 (ltb rfl) rfl (leb rfl) dX5_takeName_25 h (fun r2 σ1 h => ?_)
    refine R_if_eq (pc := 28) (tgt := 44) (by decide) dX5_takeName_28 (fun c => ?_) (fun c => ?_)
    · have h := h.1 c
      exact R_vret (pc := 44) rfl dX5_takeName_44 ⟨rfl, h⟩
    · have h := h.2 c
      refine R_aload_n (pc := 31) 0 rfl rfl dX5_takeName_31 ?_
      refine R_dup (pc := 32) rfl dX5_takeName_32 ?_
      refine R_getI (pc := 33) lC_37 rfl flX5_24 dX5_takeName_33 ?_
      refine R_iconst (pc := 36) (by decide) dX5_takeName_36 ?_
      obtain ⟨g, h⟩ := h
      refine R_iadd (pc := 37) g dX5_takeName_37 ?_
      refine R_putI (pc := 38) lC_37 rfl fpX5_24 dX5_takeName_38 ?_
      refine R_goto (pc := 41) (tgt := 5) (by decide) dX5_takeName_41 ?_
      exact h
theorem X5_takeName_E {σ : Mem} {Q : Mem → Prop} (h : LX5_takeName_5 (upM σ 37 1 0) Q) : CV layC MX5_takeName [vP 37] σ Q := by
  refine Cl.ofR (ls := [(0, vP 37)]) (show plainName RX5 = true by decide +kernel) (leb rfl) rfl ?_
  refine R_aload_n (pc := 0) 0 rfl rfl dX5_takeName_0 ?_
  refine R_iconst (pc := 1) (by decide) dX5_takeName_1 ?_
  refine R_putI (pc := 2) lC_37 rfl fpX5_15 dX5_takeName_2 ?_
  exact h
def LX5_takeNumber_5 (σ : Mem) (Q : Mem → Prop) : Prop := Rn layC MX5_takeNumber 5 [(0, vP 37)] [] σ (qV Q)
theorem X5_takeNumber_5 {σ : Mem} {Q : Mem → Prop} (h : (((σ 37 0) ≤ (σ 37 4) → (((w32 ((σ 37 4) - (σ 37 2))) ≤ 3 → Q (upM σ 37 1 1)) ∧ (3 < (w32 ((σ 37 4) - (σ 37 2))) → Q (upM σ 37 1 4)))) ∧ ((σ 37 4) < (σ 37 0) → 0 ≤ σ 37 4 ∧ σ 37 4 < 160 ∧ CI layC MX5_isFigure [vI (σ 38 (σ 37 4))] σ (fun r2 σ1 => ((r2 = 0 → (((w32 ((σ1 37 4) - (σ1 37 2))) ≤ 3 → Q (upM σ1 37 1 1)) ∧ (3 < (w32 ((σ1 37 4) - (σ1 37 2))) → Q (upM σ1 37 1 4)))) ∧ (r2 ≠ 0 → 0 ≤ σ1 37 4 ∧ σ1 37 4 < 160 ∧ LX5_takeNumber_5 (upM (upM σ1 37 3 (w32 ((w32 ((w32 ((σ1 37 3) * 10)) + (σ1 38 (σ1 37 4)))) - 48))) 37 4 (w32 (((upM σ1 37 3 (w32 ((w32 ((w32 ((σ1 37 3) * 10)) + (σ1 38 (σ1 37 4)))) - 48))) 37 4) + 1))) Q)))))) : LX5_takeNumber_5 σ Q := by
  unfold LX5_takeNumber_5
  refine R_aload_n (pc := 5) 0 rfl rfl dX5_takeNumber_5 ?_
  refine R_getI (pc := 6) lC_37 rfl flX5_24 dX5_takeNumber_6 ?_
  refine R_aload_n (pc := 9) 0 rfl rfl dX5_takeNumber_9 ?_
  refine R_getI (pc := 10) lC_37 rfl flX5_9 dX5_takeNumber_10 ?_
  refine R_icmp_ge (pc := 13) (tgt := 68) (by decide) dX5_takeNumber_13 (fun c => ?_) (fun c => ?_)
  · have h := h.1 c
    refine R_aload_n (pc := 68) 0 rfl rfl dX5_takeNumber_68 ?_
    refine R_aload_n (pc := 69) 0 rfl rfl dX5_takeNumber_69 ?_
    refine R_getI (pc := 70) lC_37 rfl flX5_24 dX5_takeNumber_70 ?_
    refine R_aload_n (pc := 73) 0 rfl rfl dX5_takeNumber_73 ?_
    refine R_getI (pc := 74) lC_37 rfl flX5_18 dX5_takeNumber_74 ?_
    refine R_isubW (pc := 77) dX5_takeNumber_77 ?_
    refine R_iconst (pc := 78) (by decide) dX5_takeNumber_78 ?_
    refine R_icmp_le (pc := 79) (tgt := 86) (by decide) dX5_takeNumber_79 (fun c => ?_) (fun c => ?_)
    · have h := h.1 c
      refine R_iconst (pc := 86) (by decide) dX5_takeNumber_86 ?_
      refine R_putI (pc := 87) lC_37 rfl fpX5_15 dX5_takeNumber_87 ?_
      exact R_vret (pc := 90) rfl dX5_takeNumber_90 ⟨rfl, h⟩
    · have h := h.2 c
      refine R_iconst (pc := 82) (by decide) dX5_takeNumber_82 ?_
      refine R_goto (pc := 83) (tgt := 87) (by decide) dX5_takeNumber_83 ?_
      refine R_putI (pc := 87) lC_37 rfl fpX5_15 dX5_takeNumber_87 ?_
      exact R_vret (pc := 90) rfl dX5_takeNumber_90 ⟨rfl, h⟩
  · have h := h.2 c
    refine R_aload_n (pc := 16) 0 rfl rfl dX5_takeNumber_16 ?_
    refine R_getP (pc := 17) (q' := 38) lC_37 rfl flX5_27 dX5_takeNumber_17 ?_
    refine R_aload_n (pc := 20) 0 rfl rfl dX5_takeNumber_20 ?_
    refine R_getI (pc := 21) lC_37 rfl flX5_24 dX5_takeNumber_21 ?_
    obtain ⟨g0, g1, h⟩ := h
    refine R_baload (pc := 24) lC_38 g0 g1 dX5_takeNumber_24 ?_
    refine R_callSI (pc := 25) (as := [vI (σ 38 (σ 37 4))]) (st := []) rfl rfl kX5_isFigure sX5_isFigure w_2_86 (ltb rfl) rfl (leb rfl) dX5_takeNumber_25 h (fun r2 σ1 h => ?_)
    refine R_if_eq (pc := 28) (tgt := 68) (by decide) dX5_takeNumber_28 (fun c => ?_) (fun c => ?_)
    · have h := h.1 c
      refine R_aload_n (pc := 68) 0 rfl rfl dX5_takeNumber_68 ?_
      refine R_aload_n (pc := 69) 0 rfl rfl dX5_takeNumber_69 ?_
      refine R_getI (pc := 70) lC_37 rfl flX5_24 dX5_takeNumber_70 ?_
      refine R_aload_n (pc := 73) 0 rfl rfl dX5_takeNumber_73 ?_
      refine R_getI (pc := 74) lC_37 rfl flX5_18 dX5_takeNumber_74 ?_
      refine R_isubW (pc := 77) dX5_takeNumber_77 ?_
      refine R_iconst (pc := 78) (by decide) dX5_takeNumber_78 ?_
      refine R_icmp_le (pc := 79) (tgt := 86) (by decide) dX5_takeNumber_79 (fun c => ?_) (fun c => ?_)
      · have h := h.1 c
        refine R_iconst (pc := 86) (by decide) dX5_takeNumber_86 ?_
        refine R_putI (pc := 87) lC_37 rfl fpX5_15 dX5_takeNumber_87 ?_
        exact R_vret (pc := 90) rfl dX5_takeNumber_90 ⟨rfl, h⟩
      · have h := h.2 c
        refine R_iconst (pc := 82) (by decide) dX5_takeNumber_82 ?_
        refine R_goto (pc := 83) (tgt := 87) (by decide) dX5_takeNumber_83 ?_
        refine R_putI (pc := 87) lC_37 rfl fpX5_15 dX5_takeNumber_87 ?_
        exact R_vret (pc := 90) rfl dX5_takeNumber_90 ⟨rfl, h⟩
    · have h := h.2 c
      refine R_aload_n (pc := 31) 0 rfl rfl dX5_takeNumber_31 ?_
      refine R_aload_n (pc := 32) 0 rfl rfl dX5_takeNumber_32 ?_
      refine R_getI (pc := 33) lC_37 rfl flX5_21 dX5_takeNumber_33 ?_
      refine R_bipush (pc := 36) (by decide) dX5_takeNumber_36 ?_
      refine R_imulW (pc := 38) dX5_takeNumber_38 ?_
      refine R_aload_n (pc := 39) 0 rfl rfl dX5_takeNumber_39 ?_
      refine R_getP (pc := 40) (q' := 38) lC_37 rfl flX5_27 dX5_takeNumber_40 ?_
      refine R_aload_n (pc := 43) 0 rfl rfl dX5_takeNumber_43 ?_
      refine R_getI (pc := 44) lC_37 rfl flX5_24 dX5_takeNumber_44 ?_
      obtain ⟨g0, g1, h⟩ := h
      refine R_baload (pc := 47) lC_38 g0 g1 dX5_takeNumber_47 ?_
      refine R_iaddW (pc := 48) dX5_takeNumber_48 ?_
      refine R_bipush (pc := 49) (by decide) dX5_takeNumber_49 ?_
      refine R_isubW (pc := 51) dX5_takeNumber_51 ?_
      refine R_putI (pc := 52) lC_37 rfl fpX5_21 dX5_takeNumber_52 ?_
      refine R_aload_n (pc := 55) 0 rfl rfl dX5_takeNumber_55 ?_
      refine R_dup (pc := 56) rfl dX5_takeNumber_56 ?_
      refine R_getI (pc := 57) lC_37 rfl flX5_24 dX5_takeNumber_57 ?_
      refine R_iconst (pc := 60) (by decide) dX5_takeNumber_60 ?_
      refine R_iaddW (pc := 61) dX5_takeNumber_61 ?_
      refine R_putI (pc := 62) lC_37 rfl fpX5_24 dX5_takeNumber_62 ?_
      refine R_goto (pc := 65) (tgt := 5) (by decide) dX5_takeNumber_65 ?_
      exact h
theorem X5_takeNumber_E {σ : Mem} {Q : Mem → Prop} (h : LX5_takeNumber_5 (upM σ 37 3 0) Q) : CV layC MX5_takeNumber [vP 37] σ Q := by
  refine Cl.ofR (ls := [(0, vP 37)]) (show plainName RX5 = true by decide +kernel) (leb rfl) rfl ?_
  refine R_aload_n (pc := 0) 0 rfl rfl dX5_takeNumber_0 ?_
  refine R_iconst (pc := 1) (by decide) dX5_takeNumber_1 ?_
  refine R_putI (pc := 2) lC_37 rfl fpX5_21 dX5_takeNumber_2 ?_
  exact h
theorem X7_bear_E {x1 x2 : Int} {σ : Mem} {Q : Int → Mem → Prop} (h : CI layC MX0_add [vP 1, vI x1, vI x2] σ (fun r2 σ1 => Q r2 σ1)) : CI layC MX7_bear [vP 0, vI x1, vI x2] σ Q := by
  refine Cl.ofR (ls := [(0, vP 0), (1, vI x1), (2, vI x2)]) (show plainName RX7 = true by decide +kernel) (leb rfl) rfl ?_
  refine R_aload_n (pc := 0) 0 rfl rfl dX7_bear_0 ?_
  refine R_getP (pc := 1) (q' := 1) lC_0 rfl flX7_10 dX7_bear_1 ?_
  refine R_iload_n (pc := 4) 1 rfl rfl dX7_bear_4 ?_
  refine R_iload_n (pc := 5) 2 rfl rfl dX7_bear_5 ?_
  refine R_callVI (pc := 6) (as := [vI x1, vI x2]) (st := []) rfl rfl kX0_add sX0_add lC_1 rfl w_3_91 (ltb rfl) rfl (leb rfl) dX7_bear_6 h (fun r2 σ1 h => ?_)
  exact R_iret (pc := 9) rfl dX7_bear_9 ⟨_, rfl, h⟩
theorem X7_dies_E {x1 : Int} {σ : Mem} {Q : Int → Mem → Prop} (h : CI layC MX0_has [vP 1, vI x1] σ (fun r2 σ1 => ((r2 ≠ 0 → CV layC MX0_remove [vP 1, vI x1] σ1 (fun σ3 => Q (σ3 1 2) σ3)) ∧ (r2 = 0 → Q (-1) σ1)))) : CI layC MX7_dies [vP 0, vI x1] σ Q := by
  refine Cl.ofR (ls := [(0, vP 0), (1, vI x1)]) (show plainName RX7 = true by decide +kernel) (leb rfl) rfl ?_
  refine R_aload_n (pc := 0) 0 rfl rfl dX7_dies_0 ?_
  refine R_getP (pc := 1) (q' := 1) lC_0 rfl flX7_10 dX7_dies_1 ?_
  refine R_iload_n (pc := 4) 1 rfl rfl dX7_dies_4 ?_
  refine R_callVI (pc := 5) (as := [vI x1]) (st := []) rfl rfl kX0_has sX0_has lC_1 rfl w_3_36 (ltb rfl) rfl (leb rfl) dX7_dies_5 h (fun r2 σ1 h => ?_)
  refine R_if_ne (pc := 8) (tgt := 13) (by decide) dX7_dies_8 (fun c => ?_) (fun c => ?_)
  · have h := h.1 c
    refine R_aload_n (pc := 13) 0 rfl rfl dX7_dies_13 ?_
    refine R_getP (pc := 14) (q' := 1) lC_0 rfl flX7_10 dX7_dies_14 ?_
    refine R_iload_n (pc := 17) 1 rfl rfl dX7_dies_17 ?_
    refine R_callV0 (pc := 18) (as := [vI x1]) (st := []) rfl rfl kX0_remove sX0_remove lC_1 rfl w_3_96 (ltb rfl) rfl (leb rfl) dX7_dies_18 h (fun σ3 h => ?_)
    refine R_aload_n (pc := 21) 0 rfl rfl dX7_dies_21 ?_
    refine R_getP (pc := 22) (q' := 1) lC_0 rfl flX7_10 dX7_dies_22 ?_
    refine R_getI (pc := 25) lC_1 rfl flX7_109 dX7_dies_25 ?_
    exact R_iret (pc := 28) rfl dX7_dies_28 ⟨_, rfl, h⟩
  · have h := h.2 c
    refine R_iconst (pc := 11) (by decide) dX7_dies_11 ?_
    exact R_iret (pc := 12) rfl dX7_dies_12 ⟨_, rfl, h⟩
theorem X7_fraction_E {x0 x2 x4 : Int} {σ : Mem} {Q : Int → Mem → Prop} (h : I64 (-x0) ∧ CJ layC MX7_divisor [vJ (absI x0), vJ x2] σ (fun r2 σ1 => ((x4 ≠ 0 → CJ layC MX7_quotient [vJ x2, vJ r2] σ1 (fun r4 σ3 => Q r4 σ3)) ∧ (x4 = 0 → CJ layC MX7_quotient [vJ x0, vJ r2] σ1 (fun r6 σ5 => Q r6 σ5))))) : CJ layC MX7_fraction [vJ x0, vJ x2, vI x4] σ Q := by
  refine Cl.ofR (ls := [(0, vJ x0), (2, vJ x2), (4, vI x4)]) (show plainName RX7 = true by decide +kernel) (leb rfl) rfl ?_
  refine R_lload_n (pc := 0) 0 rfl rfl dX7_fraction_0 ?_
  obtain ⟨g, h⟩ := h
  refine R_labs (pc := 1) g w_3_59 w_3_49 w_1_15 w_3_50 (leb rfl) (leb rfl) dX7_fraction_1 ?_
  refine R_lload_n (pc := 4) 1 rfl rfl dX7_fraction_4 ?_
  refine R_callSJ (pc := 5) (as := [vJ (absI x0), vJ x2]) (st := []) rfl rfl kX7_divisor sX7_divisor w_3_60 (ltb rfl) rfl (leb rfl) dX7_fraction_5 h (fun r2 σ1 h => ?_)
  refine R_lstore (pc := 8) (ls' := [(5, vJ r2), (0, vJ x0), (2, vJ x2), (4, vI x4)]) rfl (ltb rfl) dX7_fraction_8 ?_
  refine R_iload (pc := 10) 3 rfl dX7_fraction_10 ?_
  refine R_if_ne (pc := 12) (tgt := 19) (by decide) dX7_fraction_12 (fun c => ?_) (fun c => ?_)
  · have h := h.1 c
    refine R_lload_n (pc := 19) 2 rfl rfl dX7_fraction_19 ?_
    refine R_lload (pc := 20) 0 rfl dX7_fraction_20 ?_
    refine R_callSJ (pc := 22) (as := [vJ x2, vJ r2]) (st := []) rfl rfl kX7_quotient sX7_quotient w_3_64 (ltb rfl) rfl (leb rfl) dX7_fraction_22 h (fun r4 σ3 h => ?_)
    exact R_lret (pc := 25) rfl dX7_fraction_25 ⟨_, rfl, h⟩
  · have h := h.2 c
    refine R_lload_n (pc := 15) 1 rfl rfl dX7_fraction_15 ?_
    refine R_goto (pc := 16) (tgt := 20) (by decide) dX7_fraction_16 ?_
    refine R_lload (pc := 20) 0 rfl dX7_fraction_20 ?_
    refine R_callSJ (pc := 22) (as := [vJ x0, vJ r2]) (st := []) rfl rfl kX7_quotient sX7_quotient w_3_64 (ltb rfl) rfl (leb rfl) dX7_fraction_22 h (fun r6 σ5 h => ?_)
    exact R_lret (pc := 25) rfl dX7_fraction_25 ⟨_, rfl, h⟩
theorem X7_herd_E {x1 : Int} {σ : Mem} {Q : Int → Mem → Prop} (h : CI layC MX7_isHerd [vI x1] σ (fun r2 σ1 => ((r2 ≠ 0 → Q (σ1 1 0) (upM σ1 1 0 x1)) ∧ (r2 = 0 → Q (-1) σ1)))) : CI layC MX7_herd [vP 0, vI x1] σ Q := by
  refine Cl.ofR (ls := [(0, vP 0), (1, vI x1)]) (show plainName RX7 = true by decide +kernel) (leb rfl) rfl ?_
  refine R_iload_n (pc := 0) 1 rfl rfl dX7_herd_0 ?_
  refine R_callSI (pc := 1) (as := [vI x1]) (st := []) rfl rfl kX7_isHerd sX7_isHerd w_3_81 (ltb rfl) rfl (leb rfl) dX7_herd_1 h (fun r2 σ1 h => ?_)
  refine R_if_ne (pc := 4) (tgt := 9) (by decide) dX7_herd_4 (fun c => ?_) (fun c => ?_)
  · have h := h.1 c
    refine R_aload_n (pc := 9) 0 rfl rfl dX7_herd_9 ?_
    refine R_getP (pc := 10) (q' := 1) lC_0 rfl flX7_10 dX7_herd_10 ?_
    refine R_getI (pc := 13) lC_1 rfl flX7_112 dX7_herd_13 ?_
    refine R_istore_n (pc := 16) (ls' := [(2, vI (σ1 1 0)), (0, vP 0), (1, vI x1)]) rfl rfl (ltb rfl) dX7_herd_16 ?_
    refine R_aload_n (pc := 17) 1 rfl rfl dX7_herd_17 ?_
    refine R_getP (pc := 18) (q' := 1) lC_0 rfl flX7_10 dX7_herd_18 ?_
    refine R_iload_n (pc := 21) 2 rfl rfl dX7_herd_21 ?_
    refine R_putI (pc := 22) lC_1 rfl fpX7_112 dX7_herd_22 ?_
    refine R_iload_n (pc := 25) 0 rfl rfl dX7_herd_25 ?_
    exact R_iret (pc := 26) rfl dX7_herd_26 ⟨_, rfl, h⟩
  · have h := h.2 c
    refine R_iconst (pc := 7) (by decide) dX7_herd_7 ?_
    exact R_iret (pc := 8) rfl dX7_herd_8 ⟨_, rfl, h⟩
theorem X7_judge_E {x1 : Int} {σ : Mem} {Q : Int → Mem → Prop} (h : CI layC MX7_isKind [vI x1] σ (fun r2 σ1 => ((r2 ≠ 0 → Q (σ1 1 1) (upM σ1 1 1 x1)) ∧ (r2 = 0 → Q (-1) σ1)))) : CI layC MX7_judge [vP 0, vI x1] σ Q := by
  refine Cl.ofR (ls := [(0, vP 0), (1, vI x1)]) (show plainName RX7 = true by decide +kernel) (leb rfl) rfl ?_
  refine R_iload_n (pc := 0) 1 rfl rfl dX7_judge_0 ?_
  refine R_callSI (pc := 1) (as := [vI x1]) (st := []) rfl rfl kX7_isKind sX7_isKind w_3_86 (ltb rfl) rfl (leb rfl) dX7_judge_1 h (fun r2 σ1 h => ?_)
  refine R_if_ne (pc := 4) (tgt := 9) (by decide) dX7_judge_4 (fun c => ?_) (fun c => ?_)
  · have h := h.1 c
    refine R_aload_n (pc := 9) 0 rfl rfl dX7_judge_9 ?_
    refine R_getP (pc := 10) (q' := 1) lC_0 rfl flX7_10 dX7_judge_10 ?_
    refine R_getI (pc := 13) lC_1 rfl flX7_115 dX7_judge_13 ?_
    refine R_istore_n (pc := 16) (ls' := [(2, vI (σ1 1 1)), (0, vP 0), (1, vI x1)]) rfl rfl (ltb rfl) dX7_judge_16 ?_
    refine R_aload_n (pc := 17) 1 rfl rfl dX7_judge_17 ?_
    refine R_getP (pc := 18) (q' := 1) lC_0 rfl flX7_10 dX7_judge_18 ?_
    refine R_iload_n (pc := 21) 2 rfl rfl dX7_judge_21 ?_
    refine R_putI (pc := 22) lC_1 rfl fpX7_115 dX7_judge_22 ?_
    refine R_iload_n (pc := 25) 0 rfl rfl dX7_judge_25 ?_
    exact R_iret (pc := 26) rfl dX7_judge_26 ⟨_, rfl, h⟩
  · have h := h.2 c
    refine R_iconst (pc := 7) (by decide) dX7_judge_7 ?_
    exact R_iret (pc := 8) rfl dX7_judge_8 ⟨_, rfl, h⟩
theorem X7_lay_E {x1 x2 x3 : Int} {σ : Mem} {Q : Int → Mem → Prop} (h : CI layC MX7_isSheet [vI x1] σ (fun r2 σ1 => ((r2 ≠ 0 → 0 ≤ x1 ∧ x1 < 4 ∧ (x1 = 0 → CI layC MX4_flawAt [vP 47, vI x2] σ1 (fun r4 σ3 => ((r4 = 0 → CV layC MX4_put [vP 47, vI x2, vI x3] σ3 (fun σ5 => Q 1 σ5)) ∧ (r4 ≠ 0 → I32 ((-10) - r4) ∧ Q ((-10) - r4) σ3)))) ∧ (x1 = 1 → CI layC MX4_flawAt [vP 49, vI x2] σ1 (fun r7 σ6 => ((r7 = 0 → CV layC MX4_put [vP 49, vI x2, vI x3] σ6 (fun σ8 => Q 1 σ8)) ∧ (r7 ≠ 0 → I32 ((-10) - r7) ∧ Q ((-10) - r7) σ6)))) ∧ (x1 = 2 → CI layC MX4_flawAt [vP 51, vI x2] σ1 (fun r10 σ9 => ((r10 = 0 → CV layC MX4_put [vP 51, vI x2, vI x3] σ9 (fun σ11 => Q 1 σ11)) ∧ (r10 ≠ 0 → I32 ((-10) - r10) ∧ Q ((-10) - r10) σ9)))) ∧ (x1 = 3 → CI layC MX4_flawAt [vP 53, vI x2] σ1 (fun r13 σ12 => ((r13 = 0 → CV layC MX4_put [vP 53, vI x2, vI x3] σ12 (fun σ14 => Q 1 σ14)) ∧ (r13 ≠ 0 → I32 ((-10) - r13) ∧ Q ((-10) - r13) σ12))))) ∧ (r2 = 0 → Q (-1) σ1)))) : CI layC MX7_lay [vP 0, vI x1, vI x2, vI x3] σ Q := by
  refine Cl.ofR (ls := [(0, vP 0), (1, vI x1), (2, vI x2), (3, vI x3)]) (show plainName RX7 = true by decide +kernel) (leb rfl) rfl ?_
  refine R_iload_n (pc := 0) 1 rfl rfl dX7_lay_0 ?_
  refine R_callSI (pc := 1) (as := [vI x1]) (st := []) rfl rfl kX7_isSheet sX7_isSheet w_4_47 (ltb rfl) rfl (leb rfl) dX7_lay_1 h (fun r2 σ1 h => ?_)
  refine R_if_ne (pc := 4) (tgt := 9) (by decide) dX7_lay_4 (fun c => ?_) (fun c => ?_)
  · have h := h.1 c
    refine R_aload_n (pc := 9) 0 rfl rfl dX7_lay_9 ?_
    refine R_getP (pc := 10) (q' := 46) lC_0 rfl flX7_64 dX7_lay_10 ?_
    refine R_iload_n (pc := 13) 1 rfl rfl dX7_lay_13 ?_
    obtain ⟨g0, g1, h⟩ := h
    rcases (show x1 = 0 ∨ x1 = 1 ∨ x1 = 2 ∨ x1 = 3 by omega) with hk | hk | hk | hk
    · have h := h.1 hk
      refine R_aaload5 (pc := 14) (q' := 47) lC_46 g0 g1 (by rw [hk]; rfl) dX7_lay_14 ?_
      refine R_iload_n (pc := 15) 2 rfl rfl dX7_lay_15 ?_
      refine R_callVI (pc := 16) (as := [vI x2]) (st := []) rfl rfl kX4_flawAt sX4_flawAt lC_47 rfl w_4_62 (ltb rfl) rfl (leb rfl) dX7_lay_16 h (fun r4 σ3 h => ?_)
      refine R_istore (pc := 19) (ls' := [(4, vI r4), (0, vP 0), (1, vI x1), (2, vI x2), (3, vI x3)]) rfl (ltb rfl) dX7_lay_19 ?_
      refine R_iload (pc := 21) 0 rfl dX7_lay_21 ?_
      refine R_if_eq (pc := 23) (tgt := 32) (by decide) dX7_lay_23 (fun c => ?_) (fun c => ?_)
      · have h := h.1 c
        refine R_aload_n (pc := 32) 1 rfl rfl dX7_lay_32 ?_
        refine R_getP (pc := 33) (q' := 46) lC_0 rfl flX7_64 dX7_lay_33 ?_
        refine R_iload_n (pc := 36) 2 rfl rfl dX7_lay_36 ?_
        refine R_aaload5 (pc := 37) (q' := 47) lC_46 (by omega) (by omega) (by rw [hk]; rfl) dX7_lay_37 ?_
        refine R_iload_n (pc := 38) 3 rfl rfl dX7_lay_38 ?_
        refine R_iload_n (pc := 39) 4 rfl rfl dX7_lay_39 ?_
        refine R_callV0 (pc := 40) (as := [vI x2, vI x3]) (st := []) rfl rfl kX4_put sX4_put lC_47 rfl w_4_66 (ltb rfl) rfl (leb rfl) dX7_lay_40 h (fun σ5 h => ?_)
        refine R_iconst (pc := 43) (by decide) dX7_lay_43 ?_
        exact R_iret (pc := 44) rfl dX7_lay_44 ⟨_, rfl, h⟩
      · have h := h.2 c
        refine R_bipush (pc := 26) (by decide) dX7_lay_26 ?_
        refine R_iload (pc := 28) 0 rfl dX7_lay_28 ?_
        obtain ⟨g, h⟩ := h
        refine R_isub (pc := 30) g dX7_lay_30 ?_
        exact R_iret (pc := 31) rfl dX7_lay_31 ⟨_, rfl, h⟩
    · have h := h.2.1 hk
      refine R_aaload5 (pc := 14) (q' := 49) lC_46 g0 g1 (by rw [hk]; rfl) dX7_lay_14 ?_
      refine R_iload_n (pc := 15) 2 rfl rfl dX7_lay_15 ?_
      refine R_callVI (pc := 16) (as := [vI x2]) (st := []) rfl rfl kX4_flawAt sX4_flawAt lC_49 rfl w_4_62 (ltb rfl) rfl (leb rfl) dX7_lay_16 h (fun r7 σ6 h => ?_)
      refine R_istore (pc := 19) (ls' := [(4, vI r7), (0, vP 0), (1, vI x1), (2, vI x2), (3, vI x3)]) rfl (ltb rfl) dX7_lay_19 ?_
      refine R_iload (pc := 21) 0 rfl dX7_lay_21 ?_
      refine R_if_eq (pc := 23) (tgt := 32) (by decide) dX7_lay_23 (fun c => ?_) (fun c => ?_)
      · have h := h.1 c
        refine R_aload_n (pc := 32) 1 rfl rfl dX7_lay_32 ?_
        refine R_getP (pc := 33) (q' := 46) lC_0 rfl flX7_64 dX7_lay_33 ?_
        refine R_iload_n (pc := 36) 2 rfl rfl dX7_lay_36 ?_
        refine R_aaload5 (pc := 37) (q' := 49) lC_46 (by omega) (by omega) (by rw [hk]; rfl) dX7_lay_37 ?_
        refine R_iload_n (pc := 38) 3 rfl rfl dX7_lay_38 ?_
        refine R_iload_n (pc := 39) 4 rfl rfl dX7_lay_39 ?_
        refine R_callV0 (pc := 40) (as := [vI x2, vI x3]) (st := []) rfl rfl kX4_put sX4_put lC_49 rfl w_4_66 (ltb rfl) rfl (leb rfl) dX7_lay_40 h (fun σ8 h => ?_)
        refine R_iconst (pc := 43) (by decide) dX7_lay_43 ?_
        exact R_iret (pc := 44) rfl dX7_lay_44 ⟨_, rfl, h⟩
      · have h := h.2 c
        refine R_bipush (pc := 26) (by decide) dX7_lay_26 ?_
        refine R_iload (pc := 28) 0 rfl dX7_lay_28 ?_
        obtain ⟨g, h⟩ := h
        refine R_isub (pc := 30) g dX7_lay_30 ?_
        exact R_iret (pc := 31) rfl dX7_lay_31 ⟨_, rfl, h⟩
    · have h := h.2.2.1 hk
      refine R_aaload5 (pc := 14) (q' := 51) lC_46 g0 g1 (by rw [hk]; rfl) dX7_lay_14 ?_
      refine R_iload_n (pc := 15) 2 rfl rfl dX7_lay_15 ?_
      refine R_callVI (pc := 16) (as := [vI x2]) (st := []) rfl rfl kX4_flawAt sX4_flawAt lC_51 rfl w_4_62 (ltb rfl) rfl (leb rfl) dX7_lay_16 h (fun r10 σ9 h => ?_)
      refine R_istore (pc := 19) (ls' := [(4, vI r10), (0, vP 0), (1, vI x1), (2, vI x2), (3, vI x3)]) rfl (ltb rfl) dX7_lay_19 ?_
      refine R_iload (pc := 21) 0 rfl dX7_lay_21 ?_
      refine R_if_eq (pc := 23) (tgt := 32) (by decide) dX7_lay_23 (fun c => ?_) (fun c => ?_)
      · have h := h.1 c
        refine R_aload_n (pc := 32) 1 rfl rfl dX7_lay_32 ?_
        refine R_getP (pc := 33) (q' := 46) lC_0 rfl flX7_64 dX7_lay_33 ?_
        refine R_iload_n (pc := 36) 2 rfl rfl dX7_lay_36 ?_
        refine R_aaload5 (pc := 37) (q' := 51) lC_46 (by omega) (by omega) (by rw [hk]; rfl) dX7_lay_37 ?_
        refine R_iload_n (pc := 38) 3 rfl rfl dX7_lay_38 ?_
        refine R_iload_n (pc := 39) 4 rfl rfl dX7_lay_39 ?_
        refine R_callV0 (pc := 40) (as := [vI x2, vI x3]) (st := []) rfl rfl kX4_put sX4_put lC_51 rfl w_4_66 (ltb rfl) rfl (leb rfl) dX7_lay_40 h (fun σ11 h => ?_)
        refine R_iconst (pc := 43) (by decide) dX7_lay_43 ?_
        exact R_iret (pc := 44) rfl dX7_lay_44 ⟨_, rfl, h⟩
      · have h := h.2 c
        refine R_bipush (pc := 26) (by decide) dX7_lay_26 ?_
        refine R_iload (pc := 28) 0 rfl dX7_lay_28 ?_
        obtain ⟨g, h⟩ := h
        refine R_isub (pc := 30) g dX7_lay_30 ?_
        exact R_iret (pc := 31) rfl dX7_lay_31 ⟨_, rfl, h⟩
    · have h := h.2.2.2 hk
      refine R_aaload5 (pc := 14) (q' := 53) lC_46 g0 g1 (by rw [hk]; rfl) dX7_lay_14 ?_
      refine R_iload_n (pc := 15) 2 rfl rfl dX7_lay_15 ?_
      refine R_callVI (pc := 16) (as := [vI x2]) (st := []) rfl rfl kX4_flawAt sX4_flawAt lC_53 rfl w_4_62 (ltb rfl) rfl (leb rfl) dX7_lay_16 h (fun r13 σ12 h => ?_)
      refine R_istore (pc := 19) (ls' := [(4, vI r13), (0, vP 0), (1, vI x1), (2, vI x2), (3, vI x3)]) rfl (ltb rfl) dX7_lay_19 ?_
      refine R_iload (pc := 21) 0 rfl dX7_lay_21 ?_
      refine R_if_eq (pc := 23) (tgt := 32) (by decide) dX7_lay_23 (fun c => ?_) (fun c => ?_)
      · have h := h.1 c
        refine R_aload_n (pc := 32) 1 rfl rfl dX7_lay_32 ?_
        refine R_getP (pc := 33) (q' := 46) lC_0 rfl flX7_64 dX7_lay_33 ?_
        refine R_iload_n (pc := 36) 2 rfl rfl dX7_lay_36 ?_
        refine R_aaload5 (pc := 37) (q' := 53) lC_46 (by omega) (by omega) (by rw [hk]; rfl) dX7_lay_37 ?_
        refine R_iload_n (pc := 38) 3 rfl rfl dX7_lay_38 ?_
        refine R_iload_n (pc := 39) 4 rfl rfl dX7_lay_39 ?_
        refine R_callV0 (pc := 40) (as := [vI x2, vI x3]) (st := []) rfl rfl kX4_put sX4_put lC_53 rfl w_4_66 (ltb rfl) rfl (leb rfl) dX7_lay_40 h (fun σ14 h => ?_)
        refine R_iconst (pc := 43) (by decide) dX7_lay_43 ?_
        exact R_iret (pc := 44) rfl dX7_lay_44 ⟨_, rfl, h⟩
      · have h := h.2 c
        refine R_bipush (pc := 26) (by decide) dX7_lay_26 ?_
        refine R_iload (pc := 28) 0 rfl dX7_lay_28 ?_
        obtain ⟨g, h⟩ := h
        refine R_isub (pc := 30) g dX7_lay_30 ?_
        exact R_iret (pc := 31) rfl dX7_lay_31 ⟨_, rfl, h⟩
  · have h := h.2 c
    refine R_iconst (pc := 7) (by decide) dX7_lay_7 ?_
    exact R_iret (pc := 8) rfl dX7_lay_8 ⟨_, rfl, h⟩
def LX7_read_50 (x2 : Int) (x3 : Int) (x4 : Int) (p5 : Nat) (x6 : Int) (x7 : Int) (x8 : Int) (σ : Mem) (Q : Int → Mem → Prop) : Prop := Rn layC MX7_read 50 [(0, vP 0), (2, vI x2), (3, vI x3), (4, vI x4), (5, vP p5), (6, vI x6), (7, vI x7), (8, vI x8)] [] σ (qI Q)
theorem X7_read_50 {p5 : Nat} (hp5 : isSh p5) {x2 x3 x4 x6 x7 x8 : Int} {σ : Mem} {Q : Int → Mem → Prop} (h : ((x4 ≤ x8 → Q (w32 (((upM σ 0 11 x7) 1 2) - x6)) (upM σ 0 11 x7)) ∧ (x8 < x4 → ((x7 ≠ 0 → Q (w32 (((upM σ 0 11 x7) 1 2) - x6)) (upM σ 0 11 x7)) ∧ (x7 = 0 → CI layC MX4_pairFlaw [vP p5, vI x2, vI (w32 (x3 + (w32 (2 * x8))))] σ (fun r2 σ1 => ((r2 ≠ 0 → I32 (x8 + 1) ∧ LX7_read_50 x2 x3 x4 p5 x6 r2 (x8 + 1) σ1 Q) ∧ (r2 = 0 → CI layC MX4_cell [vP p5, vI (w32 (x3 + (w32 (2 * x8))))] σ1 (fun r4 σ3 => CI layC MX4_cell [vP p5, vI (w32 ((w32 (x3 + (w32 (2 * x8)))) + 1))] σ3 (fun r6 σ5 => CI layC MX0_add [vP 1, vI r4, vI r6] σ5 (fun r8 σ7 => ((0 ≤ r8 → I32 (x8 + 1) ∧ LX7_read_50 x2 x3 x4 p5 x6 r2 (x8 + 1) σ7 Q) ∧ (r8 < 0 → Q (w32 ((-20) - x8)) (upM σ7 1 2 x6)))))))))))))) : LX7_read_50 x2 x3 x4 p5 x6 x7 x8 σ Q := by
  unfold LX7_read_50
  refine R_iload (pc := 50) 7 rfl dX7_read_50 ?_
  refine R_iload (pc := 52) 3 rfl dX7_read_52 ?_
  refine R_icmp_ge (pc := 54) (tgt := 132) (by decide) dX7_read_54 (fun c => ?_) (fun c => ?_)
  · have h := h.1 c
    refine R_aload_n (pc := 132) 0 rfl rfl dX7_read_132 ?_
    refine R_iload (pc := 133) 6 rfl dX7_read_133 ?_
    refine R_putI (pc := 135) lC_0 rfl fpX7_68 dX7_read_135 ?_
    refine R_aload_n (pc := 138) 0 rfl rfl dX7_read_138 ?_
    refine R_getP (pc := 139) (q' := 1) lC_0 rfl flX7_10 dX7_read_139 ?_
    refine R_getI (pc := 142) lC_1 rfl flX7_109 dX7_read_142 ?_
    refine R_iload (pc := 145) 5 rfl dX7_read_145 ?_
    refine R_isubW (pc := 147) dX7_read_147 ?_
    exact R_iret (pc := 148) rfl dX7_read_148 ⟨_, rfl, h⟩
  · have h := h.2 c
    refine R_iload (pc := 57) 6 rfl dX7_read_57 ?_
    refine R_if_ne (pc := 59) (tgt := 132) (by decide) dX7_read_59 (fun c => ?_) (fun c => ?_)
    · have h := h.1 c
      refine R_aload_n (pc := 132) 0 rfl rfl dX7_read_132 ?_
      refine R_iload (pc := 133) 6 rfl dX7_read_133 ?_
      refine R_putI (pc := 135) lC_0 rfl fpX7_68 dX7_read_135 ?_
      refine R_aload_n (pc := 138) 0 rfl rfl dX7_read_138 ?_
      refine R_getP (pc := 139) (q' := 1) lC_0 rfl flX7_10 dX7_read_139 ?_
      refine R_getI (pc := 142) lC_1 rfl flX7_109 dX7_read_142 ?_
      refine R_iload (pc := 145) 5 rfl dX7_read_145 ?_
      refine R_isubW (pc := 147) dX7_read_147 ?_
      exact R_iret (pc := 148) rfl dX7_read_148 ⟨_, rfl, h⟩
    · have h := h.2 c
      refine R_iload_n (pc := 62) 2 rfl rfl dX7_read_62 ?_
      refine R_iconst (pc := 63) (by decide) dX7_read_63 ?_
      refine R_iload (pc := 64) 7 rfl dX7_read_64 ?_
      refine R_imulW (pc := 66) dX7_read_66 ?_
      refine R_iaddW (pc := 67) dX7_read_67 ?_
      refine R_istore (pc := 68) (ls' := [(9, vI (w32 (x3 + (w32 (2 * x8))))), (0, vP 0), (2, vI x2), (3, vI x3), (4, vI x4), (5, vP p5), (6, vI x6), (7, vI x7), (8, vI x8)]) rfl (ltb rfl) dX7_read_68 ?_
      refine R_aload (pc := 70) 5 rfl dX7_read_70 ?_
      refine R_iload_n (pc := 72) 2 rfl rfl dX7_read_72 ?_
      refine R_iload (pc := 73) 0 rfl dX7_read_73 ?_
      refine R_callVI (pc := 75) (as := [vI x2, vI (w32 (x3 + (w32 (2 * x8))))]) (st := []) rfl rfl kX4_pairFlaw sX4_pairFlaw hp5.1 rfl w_4_75 (ltb rfl) rfl (leb rfl) dX7_read_75 h (fun r2 σ1 h => ?_)
      refine R_istore (pc := 78) (ls' := [(7, vI r2), (9, vI (w32 (x3 + (w32 (2 * x8))))), (0, vP 0), (2, vI x2), (3, vI x3), (4, vI x4), (5, vP p5), (6, vI x6), (8, vI x8)]) rfl (ltb rfl) dX7_read_78 ?_
      refine R_iload (pc := 80) 0 rfl dX7_read_80 ?_
      refine R_if_ne (pc := 82) (tgt := 126) (by decide) dX7_read_82 (fun c => ?_) (fun c => ?_)
      · have h := h.1 c
        obtain ⟨g, h⟩ := h
        refine R_iinc (pc := 126) 8 rfl rfl g (ls' := [(8, vI (x8 + 1)), (7, vI r2), (9, vI (w32 (x3 + (w32 (2 * x8))))), (0, vP 0), (2, vI x2), (3, vI x3), (4, vI x4), (5, vP p5), (6, vI x6)]) rfl (ltb rfl) dX7_read_126 ?_
        refine R_goto (pc := 129) (tgt := 50) (by decide) dX7_read_129 ?_
        refine R_sub [3, 4, 5, 6, 7, 8, 1, 0] rfl ?_
        exact h
      · have h := h.2 c
        refine R_aload_n (pc := 85) 2 rfl rfl dX7_read_85 ?_
        refine R_getP (pc := 86) (q' := 1) lC_0 rfl flX7_10 dX7_read_86 ?_
        refine R_aload (pc := 89) 6 rfl dX7_read_89 ?_
        refine R_iload (pc := 91) 1 rfl dX7_read_91 ?_
        refine R_callVI (pc := 93) (as := [vI (w32 (x3 + (w32 (2 * x8))))]) (st := [vP 1]) rfl rfl kX4_cell sX4_cell hp5.1 rfl w_4_79 (ltb rfl) rfl (leb rfl) dX7_read_93 h (fun r4 σ3 h => ?_)
        refine R_aload (pc := 96) 6 rfl dX7_read_96 ?_
        refine R_iload (pc := 98) 1 rfl dX7_read_98 ?_
        refine R_iconst (pc := 100) (by decide) dX7_read_100 ?_
        refine R_iaddW (pc := 101) dX7_read_101 ?_
        refine R_callVI (pc := 102) (as := [vI (w32 ((w32 (x3 + (w32 (2 * x8)))) + 1))]) (st := [vI r4, vP 1]) rfl rfl kX4_cell sX4_cell hp5.1 rfl w_4_79 (ltb rfl) rfl (leb rfl) dX7_read_102 h (fun r6 σ5 h => ?_)
        refine R_callVI (pc := 105) (as := [vI r4, vI r6]) (st := []) rfl rfl kX0_add sX0_add lC_1 rfl w_3_91 (ltb rfl) rfl (leb rfl) dX7_read_105 h (fun r8 σ7 h => ?_)
        refine R_if_ge (pc := 108) (tgt := 126) (by decide) dX7_read_108 (fun c => ?_) (fun c => ?_)
        · have h := h.1 c
          obtain ⟨g, h⟩ := h
          refine R_iinc (pc := 126) 8 rfl rfl g (ls' := [(8, vI (x8 + 1)), (7, vI r2), (9, vI (w32 (x3 + (w32 (2 * x8))))), (0, vP 0), (2, vI x2), (3, vI x3), (4, vI x4), (5, vP p5), (6, vI x6)]) rfl (ltb rfl) dX7_read_126 ?_
          refine R_goto (pc := 129) (tgt := 50) (by decide) dX7_read_129 ?_
          refine R_sub [3, 4, 5, 6, 7, 8, 1, 0] rfl ?_
          exact h
        · have h := h.2 c
          refine R_aload_n (pc := 111) 2 rfl rfl dX7_read_111 ?_
          refine R_getP (pc := 112) (q' := 1) lC_0 rfl flX7_10 dX7_read_112 ?_
          refine R_iload (pc := 115) 7 rfl dX7_read_115 ?_
          refine R_putI (pc := 117) lC_1 rfl fpX7_109 dX7_read_117 ?_
          refine R_bipush (pc := 120) (by decide) dX7_read_120 ?_
          refine R_iload (pc := 122) 8 rfl dX7_read_122 ?_
          refine R_isubW (pc := 124) dX7_read_124 ?_
          exact R_iret (pc := 125) rfl dX7_read_125 ⟨_, rfl, h⟩
theorem X7_read_E {x1 x2 x3 x4 : Int} {σ : Mem} {Q : Int → Mem → Prop} (h : CI layC MX7_isSheet [vI x1] σ (fun r2 σ1 => ((r2 = 0 → Q (-1) σ1) ∧ (r2 ≠ 0 → CI layC MX7_isLane [vI x2] σ1 (fun r4 σ3 => ((r4 = 0 → Q (-1) σ3) ∧ (r4 ≠ 0 → CI layC MX7_within [vI x4, vI 0, vI 20] σ3 (fun r6 σ5 => ((r6 ≠ 0 → 0 ≤ x1 ∧ x1 < 4 ∧ (x1 = 0 → LX7_read_50 x2 x3 x4 47 (σ5 1 2) 0 0 σ5 Q) ∧ (x1 = 1 → LX7_read_50 x2 x3 x4 49 (σ5 1 2) 0 0 σ5 Q) ∧ (x1 = 2 → LX7_read_50 x2 x3 x4 51 (σ5 1 2) 0 0 σ5 Q) ∧ (x1 = 3 → LX7_read_50 x2 x3 x4 53 (σ5 1 2) 0 0 σ5 Q)) ∧ (r6 = 0 → Q (-1) σ5)))))))))) : CI layC MX7_read [vP 0, vI x1, vI x2, vI x3, vI x4] σ Q := by
  refine Cl.ofR (ls := [(0, vP 0), (1, vI x1), (2, vI x2), (3, vI x3), (4, vI x4)]) (show plainName RX7 = true by decide +kernel) (leb rfl) rfl ?_
  refine R_iload_n (pc := 0) 1 rfl rfl dX7_read_0 ?_
  refine R_callSI (pc := 1) (as := [vI x1]) (st := []) rfl rfl kX7_isSheet sX7_isSheet w_4_47 (ltb rfl) rfl (leb rfl) dX7_read_1 h (fun r2 σ1 h => ?_)
  refine R_if_eq (pc := 4) (tgt := 25) (by decide) dX7_read_4 (fun c => ?_) (fun c => ?_)
  · have h := h.1 c
    refine R_iconst (pc := 25) (by decide) dX7_read_25 ?_
    exact R_iret (pc := 26) rfl dX7_read_26 ⟨_, rfl, h⟩
  · have h := h.2 c
    refine R_iload_n (pc := 7) 2 rfl rfl dX7_read_7 ?_
    refine R_callSI (pc := 8) (as := [vI x2]) (st := []) rfl rfl kX7_isLane sX7_isLane w_4_50 (ltb rfl) rfl (leb rfl) dX7_read_8 h (fun r4 σ3 h => ?_)
    refine R_if_eq (pc := 11) (tgt := 25) (by decide) dX7_read_11 (fun c => ?_) (fun c => ?_)
    · have h := h.1 c
      refine R_iconst (pc := 25) (by decide) dX7_read_25 ?_
      exact R_iret (pc := 26) rfl dX7_read_26 ⟨_, rfl, h⟩
    · have h := h.2 c
      refine R_iload (pc := 14) 4 rfl dX7_read_14 ?_
      refine R_iconst (pc := 16) (by decide) dX7_read_16 ?_
      refine R_bipush (pc := 17) (by decide) dX7_read_17 ?_
      refine R_callSI (pc := 19) (as := [vI x4, vI 0, vI 20]) (st := []) rfl rfl kX7_within sX7_within w_2_47 (ltb rfl) rfl (leb rfl) dX7_read_19 h (fun r6 σ5 h => ?_)
      refine R_if_ne (pc := 22) (tgt := 27) (by decide) dX7_read_22 (fun c => ?_) (fun c => ?_)
      · have h := h.1 c
        refine R_aload_n (pc := 27) 0 rfl rfl dX7_read_27 ?_
        refine R_getP (pc := 28) (q' := 46) lC_0 rfl flX7_64 dX7_read_28 ?_
        refine R_iload_n (pc := 31) 1 rfl rfl dX7_read_31 ?_
        obtain ⟨g0, g1, h⟩ := h
        rcases (show x1 = 0 ∨ x1 = 1 ∨ x1 = 2 ∨ x1 = 3 by omega) with hk | hk | hk | hk
        · have h := h.1 hk
          refine R_aaload5 (pc := 32) (q' := 47) lC_46 g0 g1 (by rw [hk]; rfl) dX7_read_32 ?_
          refine R_astore (pc := 33) (ls' := [(5, vP 47), (0, vP 0), (1, vI x1), (2, vI x2), (3, vI x3), (4, vI x4)]) rfl (ltb rfl) dX7_read_33 ?_
          refine R_aload_n (pc := 35) 1 rfl rfl dX7_read_35 ?_
          refine R_getP (pc := 36) (q' := 1) lC_0 rfl flX7_10 dX7_read_36 ?_
          refine R_getI (pc := 39) lC_1 rfl flX7_109 dX7_read_39 ?_
          refine R_istore (pc := 42) (ls' := [(6, vI (σ5 1 2)), (5, vP 47), (0, vP 0), (1, vI x1), (2, vI x2), (3, vI x3), (4, vI x4)]) rfl (ltb rfl) dX7_read_42 ?_
          refine R_iconst (pc := 44) (by decide) dX7_read_44 ?_
          refine R_istore (pc := 45) (ls' := [(7, vI 0), (6, vI (σ5 1 2)), (5, vP 47), (0, vP 0), (1, vI x1), (2, vI x2), (3, vI x3), (4, vI x4)]) rfl (ltb rfl) dX7_read_45 ?_
          refine R_iconst (pc := 47) (by decide) dX7_read_47 ?_
          refine R_istore (pc := 48) (ls' := [(8, vI 0), (7, vI 0), (6, vI (σ5 1 2)), (5, vP 47), (0, vP 0), (1, vI x1), (2, vI x2), (3, vI x3), (4, vI x4)]) rfl (ltb rfl) dX7_read_48 ?_
          refine R_sub [4, 6, 7, 8, 3, 2, 1, 0] rfl ?_
          exact h
        · have h := h.2.1 hk
          refine R_aaload5 (pc := 32) (q' := 49) lC_46 g0 g1 (by rw [hk]; rfl) dX7_read_32 ?_
          refine R_astore (pc := 33) (ls' := [(5, vP 49), (0, vP 0), (1, vI x1), (2, vI x2), (3, vI x3), (4, vI x4)]) rfl (ltb rfl) dX7_read_33 ?_
          refine R_aload_n (pc := 35) 1 rfl rfl dX7_read_35 ?_
          refine R_getP (pc := 36) (q' := 1) lC_0 rfl flX7_10 dX7_read_36 ?_
          refine R_getI (pc := 39) lC_1 rfl flX7_109 dX7_read_39 ?_
          refine R_istore (pc := 42) (ls' := [(6, vI (σ5 1 2)), (5, vP 49), (0, vP 0), (1, vI x1), (2, vI x2), (3, vI x3), (4, vI x4)]) rfl (ltb rfl) dX7_read_42 ?_
          refine R_iconst (pc := 44) (by decide) dX7_read_44 ?_
          refine R_istore (pc := 45) (ls' := [(7, vI 0), (6, vI (σ5 1 2)), (5, vP 49), (0, vP 0), (1, vI x1), (2, vI x2), (3, vI x3), (4, vI x4)]) rfl (ltb rfl) dX7_read_45 ?_
          refine R_iconst (pc := 47) (by decide) dX7_read_47 ?_
          refine R_istore (pc := 48) (ls' := [(8, vI 0), (7, vI 0), (6, vI (σ5 1 2)), (5, vP 49), (0, vP 0), (1, vI x1), (2, vI x2), (3, vI x3), (4, vI x4)]) rfl (ltb rfl) dX7_read_48 ?_
          refine R_sub [4, 6, 7, 8, 3, 2, 1, 0] rfl ?_
          exact h
        · have h := h.2.2.1 hk
          refine R_aaload5 (pc := 32) (q' := 51) lC_46 g0 g1 (by rw [hk]; rfl) dX7_read_32 ?_
          refine R_astore (pc := 33) (ls' := [(5, vP 51), (0, vP 0), (1, vI x1), (2, vI x2), (3, vI x3), (4, vI x4)]) rfl (ltb rfl) dX7_read_33 ?_
          refine R_aload_n (pc := 35) 1 rfl rfl dX7_read_35 ?_
          refine R_getP (pc := 36) (q' := 1) lC_0 rfl flX7_10 dX7_read_36 ?_
          refine R_getI (pc := 39) lC_1 rfl flX7_109 dX7_read_39 ?_
          refine R_istore (pc := 42) (ls' := [(6, vI (σ5 1 2)), (5, vP 51), (0, vP 0), (1, vI x1), (2, vI x2), (3, vI x3), (4, vI x4)]) rfl (ltb rfl) dX7_read_42 ?_
          refine R_iconst (pc := 44) (by decide) dX7_read_44 ?_
          refine R_istore (pc := 45) (ls' := [(7, vI 0), (6, vI (σ5 1 2)), (5, vP 51), (0, vP 0), (1, vI x1), (2, vI x2), (3, vI x3), (4, vI x4)]) rfl (ltb rfl) dX7_read_45 ?_
          refine R_iconst (pc := 47) (by decide) dX7_read_47 ?_
          refine R_istore (pc := 48) (ls' := [(8, vI 0), (7, vI 0), (6, vI (σ5 1 2)), (5, vP 51), (0, vP 0), (1, vI x1), (2, vI x2), (3, vI x3), (4, vI x4)]) rfl (ltb rfl) dX7_read_48 ?_
          refine R_sub [4, 6, 7, 8, 3, 2, 1, 0] rfl ?_
          exact h
        · have h := h.2.2.2 hk
          refine R_aaload5 (pc := 32) (q' := 53) lC_46 g0 g1 (by rw [hk]; rfl) dX7_read_32 ?_
          refine R_astore (pc := 33) (ls' := [(5, vP 53), (0, vP 0), (1, vI x1), (2, vI x2), (3, vI x3), (4, vI x4)]) rfl (ltb rfl) dX7_read_33 ?_
          refine R_aload_n (pc := 35) 1 rfl rfl dX7_read_35 ?_
          refine R_getP (pc := 36) (q' := 1) lC_0 rfl flX7_10 dX7_read_36 ?_
          refine R_getI (pc := 39) lC_1 rfl flX7_109 dX7_read_39 ?_
          refine R_istore (pc := 42) (ls' := [(6, vI (σ5 1 2)), (5, vP 53), (0, vP 0), (1, vI x1), (2, vI x2), (3, vI x3), (4, vI x4)]) rfl (ltb rfl) dX7_read_42 ?_
          refine R_iconst (pc := 44) (by decide) dX7_read_44 ?_
          refine R_istore (pc := 45) (ls' := [(7, vI 0), (6, vI (σ5 1 2)), (5, vP 53), (0, vP 0), (1, vI x1), (2, vI x2), (3, vI x3), (4, vI x4)]) rfl (ltb rfl) dX7_read_45 ?_
          refine R_iconst (pc := 47) (by decide) dX7_read_47 ?_
          refine R_istore (pc := 48) (ls' := [(8, vI 0), (7, vI 0), (6, vI (σ5 1 2)), (5, vP 53), (0, vP 0), (1, vI x1), (2, vI x2), (3, vI x3), (4, vI x4)]) rfl (ltb rfl) dX7_read_48 ?_
          refine R_sub [4, 6, 7, 8, 3, 2, 1, 0] rfl ?_
          exact h
      · have h := h.2 c
        refine R_iconst (pc := 25) (by decide) dX7_read_25 ?_
        exact R_iret (pc := 26) rfl dX7_read_26 ⟨_, rfl, h⟩
theorem X7_see_E {x1 x2 : Int} {σ : Mem} {Q : Int → Mem → Prop} (h : CI layC MX0_has [vP 1, vI x1] σ (fun r2 σ1 => ((r2 = 0 → Q (-1) σ1) ∧ (r2 ≠ 0 → CI layC MX7_isHerd [vI x2] σ1 (fun r4 σ3 => ((r4 ≠ 0 → CI layC MX0_addSeen [vP 1, vI x1, vI x2] σ3 (fun r6 σ5 => Q r6 σ5)) ∧ (r4 = 0 → Q (-1) σ3))))))) : CI layC MX7_see [vP 0, vI x1, vI x2] σ Q := by
  refine Cl.ofR (ls := [(0, vP 0), (1, vI x1), (2, vI x2)]) (show plainName RX7 = true by decide +kernel) (leb rfl) rfl ?_
  refine R_aload_n (pc := 0) 0 rfl rfl dX7_see_0 ?_
  refine R_getP (pc := 1) (q' := 1) lC_0 rfl flX7_10 dX7_see_1 ?_
  refine R_iload_n (pc := 4) 1 rfl rfl dX7_see_4 ?_
  refine R_callVI (pc := 5) (as := [vI x1]) (st := []) rfl rfl kX0_has sX0_has lC_1 rfl w_3_36 (ltb rfl) rfl (leb rfl) dX7_see_5 h (fun r2 σ1 h => ?_)
  refine R_if_eq (pc := 8) (tgt := 18) (by decide) dX7_see_8 (fun c => ?_) (fun c => ?_)
  · have h := h.1 c
    refine R_iconst (pc := 18) (by decide) dX7_see_18 ?_
    exact R_iret (pc := 19) rfl dX7_see_19 ⟨_, rfl, h⟩
  · have h := h.2 c
    refine R_iload_n (pc := 11) 2 rfl rfl dX7_see_11 ?_
    refine R_callSI (pc := 12) (as := [vI x2]) (st := []) rfl rfl kX7_isHerd sX7_isHerd w_3_81 (ltb rfl) rfl (leb rfl) dX7_see_12 h (fun r4 σ3 h => ?_)
    refine R_if_ne (pc := 15) (tgt := 20) (by decide) dX7_see_15 (fun c => ?_) (fun c => ?_)
    · have h := h.1 c
      refine R_aload_n (pc := 20) 0 rfl rfl dX7_see_20 ?_
      refine R_getP (pc := 21) (q' := 1) lC_0 rfl flX7_10 dX7_see_21 ?_
      refine R_iload_n (pc := 24) 1 rfl rfl dX7_see_24 ?_
      refine R_iload_n (pc := 25) 2 rfl rfl dX7_see_25 ?_
      refine R_callVI (pc := 26) (as := [vI x1, vI x2]) (st := []) rfl rfl kX0_addSeen sX0_addSeen lC_1 rfl w_3_219 (ltb rfl) rfl (leb rfl) dX7_see_26 h (fun r6 σ5 h => ?_)
      exact R_iret (pc := 29) rfl dX7_see_29 ⟨_, rfl, h⟩
    · have h := h.2 c
      refine R_iconst (pc := 18) (by decide) dX7_see_18 ?_
      exact R_iret (pc := 19) rfl dX7_see_19 ⟨_, rfl, h⟩
theorem X7_share_E {x1 x2 : Int} {σ : Mem} {Q : Int → Mem → Prop} (h : CI layC MX0_has [vP 1, vI x1] σ (fun r2 σ1 => ((r2 = 0 → Q (-1) σ1) ∧ (r2 ≠ 0 → CI layC MX7_within [vI x2, vI 0, vI 999] σ1 (fun r4 σ3 => ((r4 ≠ 0 → I32 ((σ3 1 0) + x2) ∧ CI layC MX7_wholePart [vP 0, vI x1, vI ((σ3 1 0) + x2)] σ3 (fun r6 σ5 => Q r6 σ5)) ∧ (r4 = 0 → Q (-1) σ3))))))) : CI layC MX7_share [vP 0, vI x1, vI x2] σ Q := by
  refine Cl.ofR (ls := [(0, vP 0), (1, vI x1), (2, vI x2)]) (show plainName RX7 = true by decide +kernel) (leb rfl) rfl ?_
  refine R_aload_n (pc := 0) 0 rfl rfl dX7_share_0 ?_
  refine R_getP (pc := 1) (q' := 1) lC_0 rfl flX7_10 dX7_share_1 ?_
  refine R_iload_n (pc := 4) 1 rfl rfl dX7_share_4 ?_
  refine R_callVI (pc := 5) (as := [vI x1]) (st := []) rfl rfl kX0_has sX0_has lC_1 rfl w_3_36 (ltb rfl) rfl (leb rfl) dX7_share_5 h (fun r2 σ1 h => ?_)
  refine R_if_eq (pc := 8) (tgt := 22) (by decide) dX7_share_8 (fun c => ?_) (fun c => ?_)
  · have h := h.1 c
    refine R_iconst (pc := 22) (by decide) dX7_share_22 ?_
    exact R_iret (pc := 23) rfl dX7_share_23 ⟨_, rfl, h⟩
  · have h := h.2 c
    refine R_iload_n (pc := 11) 2 rfl rfl dX7_share_11 ?_
    refine R_iconst (pc := 12) (by decide) dX7_share_12 ?_
    refine R_sipush (pc := 13) (by decide) dX7_share_13 ?_
    refine R_callSI (pc := 16) (as := [vI x2, vI 0, vI 999]) (st := []) rfl rfl kX7_within sX7_within w_2_47 (ltb rfl) rfl (leb rfl) dX7_share_16 h (fun r4 σ3 h => ?_)
    refine R_if_ne (pc := 19) (tgt := 24) (by decide) dX7_share_19 (fun c => ?_) (fun c => ?_)
    · have h := h.1 c
      refine R_aload_n (pc := 24) 0 rfl rfl dX7_share_24 ?_
      refine R_iload_n (pc := 25) 1 rfl rfl dX7_share_25 ?_
      refine R_aload_n (pc := 26) 0 rfl rfl dX7_share_26 ?_
      refine R_getP (pc := 27) (q' := 1) lC_0 rfl flX7_10 dX7_share_27 ?_
      refine R_getI (pc := 30) lC_1 rfl flX7_112 dX7_share_30 ?_
      refine R_iload_n (pc := 33) 2 rfl rfl dX7_share_33 ?_
      obtain ⟨g, h⟩ := h
      refine R_iadd (pc := 34) g dX7_share_34 ?_
      refine R_callVI (pc := 35) (as := [vI x1, vI ((σ3 1 0) + x2)]) (st := []) rfl rfl kX7_wholePart sX7_wholePart lC_0 rfl w_3_109 (ltb rfl) rfl (leb rfl) dX7_share_35 h (fun r6 σ5 h => ?_)
      exact R_iret (pc := 38) rfl dX7_share_38 ⟨_, rfl, h⟩
    · have h := h.2 c
      refine R_iconst (pc := 22) (by decide) dX7_share_22 ?_
      exact R_iret (pc := 23) rfl dX7_share_23 ⟨_, rfl, h⟩
def LX7_sharedWhole_4 (x1 : Int) (x2 : Int) (x3 : Int) (σ : Mem) (Q : Int → Mem → Prop) : Prop := Rn layC MX7_sharedWhole 4 [(0, vP 0), (1, vI x1), (2, vI x2), (3, vI x3)] [] σ (qI Q)
theorem X7_sharedWhole_4 {x1 x2 x3 : Int} {σ : Mem} {Q : Int → Mem → Prop} (h : (((σ 1 2) ≤ x3 → Q x2 σ) ∧ (x3 < (σ 1 2) → CI layC MX7_wholePart [vP 0, vI x3, vI x1] σ (fun r2 σ1 => ((0 ≤ r2 → I32 (x2 + r2) ∧ I32 (x3 + 1) ∧ LX7_sharedWhole_4 x1 (x2 + r2) (x3 + 1) σ1 Q) ∧ (r2 < 0 → Q (-4) σ1)))))) : LX7_sharedWhole_4 x1 x2 x3 σ Q := by
  unfold LX7_sharedWhole_4
  refine R_iload_n (pc := 4) 3 rfl rfl dX7_sharedWhole_4 ?_
  refine R_aload_n (pc := 5) 0 rfl rfl dX7_sharedWhole_5 ?_
  refine R_getP (pc := 6) (q' := 1) lC_0 rfl flX7_10 dX7_sharedWhole_6 ?_
  refine R_getI (pc := 9) lC_1 rfl flX7_109 dX7_sharedWhole_9 ?_
  refine R_icmp_ge (pc := 12) (tgt := 42) (by decide) dX7_sharedWhole_12 (fun c => ?_) (fun c => ?_)
  · have h := h.1 c
    refine R_iload_n (pc := 42) 2 rfl rfl dX7_sharedWhole_42 ?_
    exact R_iret (pc := 43) rfl dX7_sharedWhole_43 ⟨_, rfl, h⟩
  · have h := h.2 c
    refine R_aload_n (pc := 15) 0 rfl rfl dX7_sharedWhole_15 ?_
    refine R_iload_n (pc := 16) 3 rfl rfl dX7_sharedWhole_16 ?_
    refine R_iload_n (pc := 17) 1 rfl rfl dX7_sharedWhole_17 ?_
    refine R_callVI (pc := 18) (as := [vI x3, vI x1]) (st := []) rfl rfl kX7_wholePart sX7_wholePart lC_0 rfl w_3_109 (ltb rfl) rfl (leb rfl) dX7_sharedWhole_18 h (fun r2 σ1 h => ?_)
    refine R_istore (pc := 21) (ls' := [(4, vI r2), (0, vP 0), (1, vI x1), (2, vI x2), (3, vI x3)]) rfl (ltb rfl) dX7_sharedWhole_21 ?_
    refine R_iload (pc := 23) 0 rfl dX7_sharedWhole_23 ?_
    refine R_if_ge (pc := 25) (tgt := 31) (by decide) dX7_sharedWhole_25 (fun c => ?_) (fun c => ?_)
    · have h := h.1 c
      refine R_iload_n (pc := 31) 3 rfl rfl dX7_sharedWhole_31 ?_
      refine R_iload (pc := 32) 0 rfl dX7_sharedWhole_32 ?_
      obtain ⟨g, h⟩ := h
      refine R_iadd (pc := 34) g dX7_sharedWhole_34 ?_
      refine R_istore_n (pc := 35) (ls' := [(2, vI (x2 + r2)), (4, vI r2), (0, vP 0), (1, vI x1), (3, vI x3)]) rfl rfl (ltb rfl) dX7_sharedWhole_35 ?_
      obtain ⟨g, h⟩ := h
      refine R_iinc (pc := 36) 4 rfl rfl g (ls' := [(3, vI (x3 + 1)), (2, vI (x2 + r2)), (4, vI r2), (0, vP 0), (1, vI x1)]) rfl (ltb rfl) dX7_sharedWhole_36 ?_
      refine R_goto (pc := 39) (tgt := 4) (by decide) dX7_sharedWhole_39 ?_
      refine R_sub [3, 4, 1, 0] rfl ?_
      exact h
    · have h := h.2 c
      refine R_bipush (pc := 28) (by decide) dX7_sharedWhole_28 ?_
      exact R_iret (pc := 30) rfl dX7_sharedWhole_30 ⟨_, rfl, h⟩
theorem X7_sharedWhole_E {x1 : Int} {σ : Mem} {Q : Int → Mem → Prop} (h : LX7_sharedWhole_4 x1 0 0 σ Q) : CI layC MX7_sharedWhole [vP 0, vI x1] σ Q := by
  refine Cl.ofR (ls := [(0, vP 0), (1, vI x1)]) (show plainName RX7 = true by decide +kernel) (leb rfl) rfl ?_
  refine R_iconst (pc := 0) (by decide) dX7_sharedWhole_0 ?_
  refine R_istore_n (pc := 1) (ls' := [(2, vI 0), (0, vP 0), (1, vI x1)]) rfl rfl (ltb rfl) dX7_sharedWhole_1 ?_
  refine R_iconst (pc := 2) (by decide) dX7_sharedWhole_2 ?_
  refine R_istore_n (pc := 3) (ls' := [(3, vI 0), (2, vI 0), (0, vP 0), (1, vI x1)]) rfl rfl (ltb rfl) dX7_sharedWhole_3 ?_
  refine R_sub [2, 3, 1, 0] rfl ?_
  exact h
theorem X7_sheet_E {x1 x2 x3 : Int} {σ : Mem} {Q : Int → Mem → Prop} (h : CI layC MX7_isSheet [vI x1] σ (fun r2 σ1 => ((r2 = 0 → Q (-1) σ1) ∧ (r2 ≠ 0 → CI layC MX7_isLane [vI x2] σ1 (fun r4 σ3 => ((r4 = 0 → Q (-1) σ3) ∧ (r4 ≠ 0 → ((x3 ≤ 40 → ((0 ≤ x3 → 0 ≤ x1 ∧ x1 < 4 ∧ (x1 = 0 → CV layC MX4_renew [vP 47, vI x2, vI x3] σ3 (fun σ5 => Q 1 σ5)) ∧ (x1 = 1 → CV layC MX4_renew [vP 49, vI x2, vI x3] σ3 (fun σ6 => Q 1 σ6)) ∧ (x1 = 2 → CV layC MX4_renew [vP 51, vI x2, vI x3] σ3 (fun σ7 => Q 1 σ7)) ∧ (x1 = 3 → CV layC MX4_renew [vP 53, vI x2, vI x3] σ3 (fun σ8 => Q 1 σ8))) ∧ (x3 < 0 → Q (-14) σ3))) ∧ (40 < x3 → Q (-1) σ3))))))))) : CI layC MX7_sheet [vP 0, vI x1, vI x2, vI x3] σ Q := by
  refine Cl.ofR (ls := [(0, vP 0), (1, vI x1), (2, vI x2), (3, vI x3)]) (show plainName RX7 = true by decide +kernel) (leb rfl) rfl ?_
  refine R_iload_n (pc := 0) 1 rfl rfl dX7_sheet_0 ?_
  refine R_callSI (pc := 1) (as := [vI x1]) (st := []) rfl rfl kX7_isSheet sX7_isSheet w_4_47 (ltb rfl) rfl (leb rfl) dX7_sheet_1 h (fun r2 σ1 h => ?_)
  refine R_if_eq (pc := 4) (tgt := 20) (by decide) dX7_sheet_4 (fun c => ?_) (fun c => ?_)
  · have h := h.1 c
    refine R_iconst (pc := 20) (by decide) dX7_sheet_20 ?_
    exact R_iret (pc := 21) rfl dX7_sheet_21 ⟨_, rfl, h⟩
  · have h := h.2 c
    refine R_iload_n (pc := 7) 2 rfl rfl dX7_sheet_7 ?_
    refine R_callSI (pc := 8) (as := [vI x2]) (st := []) rfl rfl kX7_isLane sX7_isLane w_4_50 (ltb rfl) rfl (leb rfl) dX7_sheet_8 h (fun r4 σ3 h => ?_)
    refine R_if_eq (pc := 11) (tgt := 20) (by decide) dX7_sheet_11 (fun c => ?_) (fun c => ?_)
    · have h := h.1 c
      refine R_iconst (pc := 20) (by decide) dX7_sheet_20 ?_
      exact R_iret (pc := 21) rfl dX7_sheet_21 ⟨_, rfl, h⟩
    · have h := h.2 c
      refine R_iload_n (pc := 14) 3 rfl rfl dX7_sheet_14 ?_
      refine R_bipush (pc := 15) (by decide) dX7_sheet_15 ?_
      refine R_icmp_le (pc := 17) (tgt := 22) (by decide) dX7_sheet_17 (fun c => ?_) (fun c => ?_)
      · have h := h.1 c
        refine R_iload_n (pc := 22) 3 rfl rfl dX7_sheet_22 ?_
        refine R_if_ge (pc := 23) (tgt := 29) (by decide) dX7_sheet_23 (fun c => ?_) (fun c => ?_)
        · have h := h.1 c
          refine R_aload_n (pc := 29) 0 rfl rfl dX7_sheet_29 ?_
          refine R_getP (pc := 30) (q' := 46) lC_0 rfl flX7_64 dX7_sheet_30 ?_
          refine R_iload_n (pc := 33) 1 rfl rfl dX7_sheet_33 ?_
          obtain ⟨g0, g1, h⟩ := h
          rcases (show x1 = 0 ∨ x1 = 1 ∨ x1 = 2 ∨ x1 = 3 by omega) with hk | hk | hk | hk
          · have h := h.1 hk
            refine R_aaload5 (pc := 34) (q' := 47) lC_46 g0 g1 (by rw [hk]; rfl) dX7_sheet_34 ?_
            refine R_iload_n (pc := 35) 2 rfl rfl dX7_sheet_35 ?_
            refine R_iload_n (pc := 36) 3 rfl rfl dX7_sheet_36 ?_
            refine R_callV0 (pc := 37) (as := [vI x2, vI x3]) (st := []) rfl rfl kX4_renew sX4_renew lC_47 rfl w_4_53 (ltb rfl) rfl (leb rfl) dX7_sheet_37 h (fun σ5 h => ?_)
            refine R_iconst (pc := 40) (by decide) dX7_sheet_40 ?_
            exact R_iret (pc := 41) rfl dX7_sheet_41 ⟨_, rfl, h⟩
          · have h := h.2.1 hk
            refine R_aaload5 (pc := 34) (q' := 49) lC_46 g0 g1 (by rw [hk]; rfl) dX7_sheet_34 ?_
            refine R_iload_n (pc := 35) 2 rfl rfl dX7_sheet_35 ?_
            refine R_iload_n (pc := 36) 3 rfl rfl dX7_sheet_36 ?_
            refine R_callV0 (pc := 37) (as := [vI x2, vI x3]) (st := []) rfl rfl kX4_renew sX4_renew lC_49 rfl w_4_53 (ltb rfl) rfl (leb rfl) dX7_sheet_37 h (fun σ6 h => ?_)
            refine R_iconst (pc := 40) (by decide) dX7_sheet_40 ?_
            exact R_iret (pc := 41) rfl dX7_sheet_41 ⟨_, rfl, h⟩
          · have h := h.2.2.1 hk
            refine R_aaload5 (pc := 34) (q' := 51) lC_46 g0 g1 (by rw [hk]; rfl) dX7_sheet_34 ?_
            refine R_iload_n (pc := 35) 2 rfl rfl dX7_sheet_35 ?_
            refine R_iload_n (pc := 36) 3 rfl rfl dX7_sheet_36 ?_
            refine R_callV0 (pc := 37) (as := [vI x2, vI x3]) (st := []) rfl rfl kX4_renew sX4_renew lC_51 rfl w_4_53 (ltb rfl) rfl (leb rfl) dX7_sheet_37 h (fun σ7 h => ?_)
            refine R_iconst (pc := 40) (by decide) dX7_sheet_40 ?_
            exact R_iret (pc := 41) rfl dX7_sheet_41 ⟨_, rfl, h⟩
          · have h := h.2.2.2 hk
            refine R_aaload5 (pc := 34) (q' := 53) lC_46 g0 g1 (by rw [hk]; rfl) dX7_sheet_34 ?_
            refine R_iload_n (pc := 35) 2 rfl rfl dX7_sheet_35 ?_
            refine R_iload_n (pc := 36) 3 rfl rfl dX7_sheet_36 ?_
            refine R_callV0 (pc := 37) (as := [vI x2, vI x3]) (st := []) rfl rfl kX4_renew sX4_renew lC_53 rfl w_4_53 (ltb rfl) rfl (leb rfl) dX7_sheet_37 h (fun σ8 h => ?_)
            refine R_iconst (pc := 40) (by decide) dX7_sheet_40 ?_
            exact R_iret (pc := 41) rfl dX7_sheet_41 ⟨_, rfl, h⟩
        · have h := h.2 c
          refine R_bipush (pc := 26) (by decide) dX7_sheet_26 ?_
          exact R_iret (pc := 28) rfl dX7_sheet_28 ⟨_, rfl, h⟩
      · have h := h.2 c
        refine R_iconst (pc := 20) (by decide) dX7_sheet_20 ?_
        exact R_iret (pc := 21) rfl dX7_sheet_21 ⟨_, rfl, h⟩
theorem X2_part_E {b : Nat} (hb : isPt b) {x1 x2 : Int} {σ : Mem} {Q : Mem → Prop} (h : ((((upM (upM σ b 7 x1) b 8 x2) b 7) ≠ 0 → ((((upM (upM σ b 7 x1) b 8 x2) b 7) ≠ 1 → CV layC MX2_giveByRow [vP b] (upM (upM σ b 7 x1) b 8 x2) (fun σ1 => Q σ1)) ∧ (((upM (upM σ b 7 x1) b 8 x2) b 7) = 1 → CV layC MX2_giveByRests [vP b] (upM (upM σ b 7 x1) b 8 x2) (fun σ2 => Q σ2)))) ∧ (((upM (upM σ b 7 x1) b 8 x2) b 7) = 0 → CV layC MX2_giveTold [vP b] (upM (upM σ b 7 x1) b 8 x2) (fun σ3 => Q σ3)))) : CV layC MX2_part [vP b, vI x1, vI x2] σ Q := by
  refine Cl.ofR (ls := [(0, vP b), (1, vI x1), (2, vI x2)]) (show plainName RX2 = true by decide +kernel) (leb rfl) rfl ?_
  refine R_aload_n (pc := 0) 0 rfl rfl dX2_part_0 ?_
  refine R_iload_n (pc := 1) 1 rfl rfl dX2_part_1 ?_
  refine R_putI (pc := 2) hb.1 rfl fpX2_36 dX2_part_2 ?_
  refine R_aload_n (pc := 5) 0 rfl rfl dX2_part_5 ?_
  refine R_iload_n (pc := 6) 2 rfl rfl dX2_part_6 ?_
  refine R_putI (pc := 7) hb.1 rfl fpX2_39 dX2_part_7 ?_
  refine R_aload_n (pc := 10) 0 rfl rfl dX2_part_10 ?_
  refine R_getI (pc := 11) hb.1 rfl flX2_36 dX2_part_11 ?_
  refine R_if_ne (pc := 14) (tgt := 24) (by decide) dX2_part_14 (fun c => ?_) (fun c => ?_)
  · have h := h.1 c
    refine R_aload_n (pc := 24) 0 rfl rfl dX2_part_24 ?_
    refine R_getI (pc := 25) hb.1 rfl flX2_36 dX2_part_25 ?_
    refine R_iconst (pc := 28) (by decide) dX2_part_28 ?_
    refine R_icmp_ne (pc := 29) (tgt := 39) (by decide) dX2_part_29 (fun c => ?_) (fun c => ?_)
    · have h := h.1 c
      refine R_aload_n (pc := 39) 0 rfl rfl dX2_part_39 ?_
      refine R_callV0 (pc := 40) (as := []) (st := []) rfl rfl kX2_giveByRow sX2_giveByRow hb.1 rfl w_3_19 (ltb rfl) rfl (leb rfl) dX2_part_40 h (fun σ1 h => ?_)
      exact R_vret (pc := 43) rfl dX2_part_43 ⟨rfl, h⟩
    · have h := h.2 c
      refine R_aload_n (pc := 32) 0 rfl rfl dX2_part_32 ?_
      refine R_callV0 (pc := 33) (as := []) (st := []) rfl rfl kX2_giveByRests sX2_giveByRests hb.1 rfl w_2_236 (ltb rfl) rfl (leb rfl) dX2_part_33 h (fun σ2 h => ?_)
      refine R_goto (pc := 36) (tgt := 43) (by decide) dX2_part_36 ?_
      exact R_vret (pc := 43) rfl dX2_part_43 ⟨rfl, h⟩
  · have h := h.2 c
    refine R_aload_n (pc := 17) 0 rfl rfl dX2_part_17 ?_
    refine R_callV0 (pc := 18) (as := []) (st := []) rfl rfl kX2_giveTold sX2_giveTold hb.1 rfl w_2_229 (ltb rfl) rfl (leb rfl) dX2_part_18 h (fun σ3 h => ?_)
    refine R_goto (pc := 21) (tgt := 43) (by decide) dX2_part_21 ?_
    exact R_vret (pc := 43) rfl dX2_part_43 ⟨rfl, h⟩
theorem X3_takeNumber_E {σ : Mem} {Q : Mem → Prop} (h : (((σ 37 1) = 1 → CI layC MX3_isInBounds [vP 36, vI (σ 37 3)] σ (fun r2 σ1 => ((r2 ≠ 0 → (((σ1 36 5) ≠ 1 → (((σ1 36 5) ≠ 2 → Q (upM (upM σ1 21 0 (σ1 37 3)) 36 5 4)) ∧ ((σ1 36 5) = 2 → CI layC MX0_add [vP 21, vI (σ1 36 6), vI (σ1 37 3)] σ1 (fun r4 σ3 => Q (upM σ3 36 5 4))))) ∧ ((σ1 36 5) = 1 → Q (upM (upM σ1 36 6 (σ1 37 3)) 36 5 2)))) ∧ (r2 = 0 → CV layC MX3_refuse [vP 36, vI 3] σ1 (fun σ5 => Q σ5))))) ∧ ((σ 37 1) ≠ 1 → CV layC MX3_refuse [vP 36, vI 2] σ (fun σ6 => Q σ6)))) : CV layC MX3_takeNumber [vP 36] σ Q := by
  refine Cl.ofR (ls := [(0, vP 36)]) (show plainName RX3 = true by decide +kernel) (leb rfl) rfl ?_
  refine R_aload_n (pc := 0) 0 rfl rfl dX3_takeNumber_0 ?_
  refine R_getP (pc := 1) (q' := 37) lC_36 rfl flX3_12 dX3_takeNumber_1 ?_
  refine R_getI (pc := 4) lC_37 rfl flX3_60 dX3_takeNumber_4 ?_
  refine R_iconst (pc := 7) (by decide) dX3_takeNumber_7 ?_
  refine R_icmp_eq (pc := 8) (tgt := 19) (by decide) dX3_takeNumber_8 (fun c => ?_) (fun c => ?_)
  · have h := h.1 c
    refine R_aload_n (pc := 19) 0 rfl rfl dX3_takeNumber_19 ?_
    refine R_aload_n (pc := 20) 0 rfl rfl dX3_takeNumber_20 ?_
    refine R_getP (pc := 21) (q' := 37) lC_36 rfl flX3_12 dX3_takeNumber_21 ?_
    refine R_getI (pc := 24) lC_37 rfl flX3_110 dX3_takeNumber_24 ?_
    refine R_callVI (pc := 27) (as := [vI (σ 37 3)]) (st := []) rfl rfl kX3_isInBounds sX3_isInBounds lC_36 rfl w_2_109 (ltb rfl) rfl (leb rfl) dX3_takeNumber_27 h (fun r2 σ1 h => ?_)
    refine R_if_ne (pc := 30) (tgt := 41) (by decide) dX3_takeNumber_30 (fun c => ?_) (fun c => ?_)
    · have h := h.1 c
      refine R_aload_n (pc := 41) 0 rfl rfl dX3_takeNumber_41 ?_
      refine R_getI (pc := 42) lC_36 rfl flX3_35 dX3_takeNumber_42 ?_
      refine R_iconst (pc := 45) (by decide) dX3_takeNumber_45 ?_
      refine R_icmp_ne (pc := 46) (tgt := 68) (by decide) dX3_takeNumber_46 (fun c => ?_) (fun c => ?_)
      · have h := h.1 c
        refine R_aload_n (pc := 68) 0 rfl rfl dX3_takeNumber_68 ?_
        refine R_getI (pc := 69) lC_36 rfl flX3_35 dX3_takeNumber_69 ?_
        refine R_iconst (pc := 72) (by decide) dX3_takeNumber_72 ?_
        refine R_icmp_ne (pc := 73) (tgt := 103) (by decide) dX3_takeNumber_73 (fun c => ?_) (fun c => ?_)
        · have h := h.1 c
          refine R_aload_n (pc := 103) 0 rfl rfl dX3_takeNumber_103 ?_
          refine R_getP (pc := 104) (q' := 21) lC_36 rfl flX3_21 dX3_takeNumber_104 ?_
          refine R_aload_n (pc := 107) 0 rfl rfl dX3_takeNumber_107 ?_
          refine R_getP (pc := 108) (q' := 37) lC_36 rfl flX3_12 dX3_takeNumber_108 ?_
          refine R_getI (pc := 111) lC_37 rfl flX3_110 dX3_takeNumber_111 ?_
          refine R_putI (pc := 114) lC_21 rfl fpX3_120 dX3_takeNumber_114 ?_
          refine R_aload_n (pc := 117) 0 rfl rfl dX3_takeNumber_117 ?_
          refine R_iconst (pc := 118) (by decide) dX3_takeNumber_118 ?_
          refine R_putI (pc := 119) lC_36 rfl fpX3_35 dX3_takeNumber_119 ?_
          exact R_vret (pc := 122) rfl dX3_takeNumber_122 ⟨rfl, h⟩
        · have h := h.2 c
          refine R_aload_n (pc := 76) 0 rfl rfl dX3_takeNumber_76 ?_
          refine R_getP (pc := 77) (q' := 21) lC_36 rfl flX3_21 dX3_takeNumber_77 ?_
          refine R_aload_n (pc := 80) 0 rfl rfl dX3_takeNumber_80 ?_
          refine R_getI (pc := 81) lC_36 rfl flX3_38 dX3_takeNumber_81 ?_
          refine R_aload_n (pc := 84) 0 rfl rfl dX3_takeNumber_84 ?_
          refine R_getP (pc := 85) (q' := 37) lC_36 rfl flX3_12 dX3_takeNumber_85 ?_
          refine R_getI (pc := 88) lC_37 rfl flX3_110 dX3_takeNumber_88 ?_
          refine R_callVI (pc := 91) (as := [vI (σ1 36 6), vI (σ1 37 3)]) (st := []) rfl rfl kX0_add sX0_add lC_21 rfl w_2_117 (ltb rfl) rfl (leb rfl) dX3_takeNumber_91 h (fun r4 σ3 h => ?_)
          refine R_pop (pc := 94) rfl dX3_takeNumber_94 ?_
          refine R_aload_n (pc := 95) 0 rfl rfl dX3_takeNumber_95 ?_
          refine R_iconst (pc := 96) (by decide) dX3_takeNumber_96 ?_
          refine R_putI (pc := 97) lC_36 rfl fpX3_35 dX3_takeNumber_97 ?_
          refine R_goto (pc := 100) (tgt := 122) (by decide) dX3_takeNumber_100 ?_
          exact R_vret (pc := 122) rfl dX3_takeNumber_122 ⟨rfl, h⟩
      · have h := h.2 c
        refine R_aload_n (pc := 49) 0 rfl rfl dX3_takeNumber_49 ?_
        refine R_aload_n (pc := 50) 0 rfl rfl dX3_takeNumber_50 ?_
        refine R_getP (pc := 51) (q' := 37) lC_36 rfl flX3_12 dX3_takeNumber_51 ?_
        refine R_getI (pc := 54) lC_37 rfl flX3_110 dX3_takeNumber_54 ?_
        refine R_putI (pc := 57) lC_36 rfl fpX3_38 dX3_takeNumber_57 ?_
        refine R_aload_n (pc := 60) 0 rfl rfl dX3_takeNumber_60 ?_
        refine R_iconst (pc := 61) (by decide) dX3_takeNumber_61 ?_
        refine R_putI (pc := 62) lC_36 rfl fpX3_35 dX3_takeNumber_62 ?_
        refine R_goto (pc := 65) (tgt := 122) (by decide) dX3_takeNumber_65 ?_
        exact R_vret (pc := 122) rfl dX3_takeNumber_122 ⟨rfl, h⟩
    · have h := h.2 c
      refine R_aload_n (pc := 33) 0 rfl rfl dX3_takeNumber_33 ?_
      refine R_iconst (pc := 34) (by decide) dX3_takeNumber_34 ?_
      refine R_callV0 (pc := 35) (as := [vI 3]) (st := []) rfl rfl kX3_refuse sX3_refuse lC_36 rfl w_2_97 (ltb rfl) rfl (leb rfl) dX3_takeNumber_35 h (fun σ5 h => ?_)
      refine R_goto (pc := 38) (tgt := 122) (by decide) dX3_takeNumber_38 ?_
      exact R_vret (pc := 122) rfl dX3_takeNumber_122 ⟨rfl, h⟩
  · have h := h.2 c
    refine R_aload_n (pc := 11) 0 rfl rfl dX3_takeNumber_11 ?_
    refine R_iconst (pc := 12) (by decide) dX3_takeNumber_12 ?_
    refine R_callV0 (pc := 13) (as := [vI 2]) (st := []) rfl rfl kX3_refuse sX3_refuse lC_36 rfl w_2_97 (ltb rfl) rfl (leb rfl) dX3_takeNumber_13 h (fun σ6 h => ?_)
    refine R_goto (pc := 16) (tgt := 122) (by decide) dX3_takeNumber_16 ?_
    exact R_vret (pc := 122) rfl dX3_takeNumber_122 ⟨rfl, h⟩
def LX5_advance_0 (σ : Mem) (Q : Mem → Prop) : Prop := Rn layC MX5_advance 0 [(0, vP 37)] [] σ (qV Q)
def LX5_advance_38 (σ : Mem) (Q : Mem → Prop) : Prop := Rn layC MX5_advance 38 [(0, vP 37)] [] σ (qV Q)
theorem X5_advance_0 {σ : Mem} {Q : Mem → Prop} (h : (((σ 37 0) ≤ (σ 37 4) → LX5_advance_38 σ Q) ∧ ((σ 37 4) < (σ 37 0) → 0 ≤ σ 37 4 ∧ σ 37 4 < 160 ∧ (((σ 38 (σ 37 4)) ≠ 32 → LX5_advance_38 σ Q) ∧ ((σ 38 (σ 37 4)) = 32 → I32 ((σ 37 4) + 1) ∧ LX5_advance_0 (upM σ 37 4 ((σ 37 4) + 1)) Q))))) : LX5_advance_0 σ Q := by
  unfold LX5_advance_0
  refine R_aload_n (pc := 0) 0 rfl rfl dX5_advance_0 ?_
  refine R_getI (pc := 1) lC_37 rfl flX5_24 dX5_advance_1 ?_
  refine R_aload_n (pc := 4) 0 rfl rfl dX5_advance_4 ?_
  refine R_getI (pc := 5) lC_37 rfl flX5_9 dX5_advance_5 ?_
  refine R_icmp_ge (pc := 8) (tgt := 38) (by decide) dX5_advance_8 (fun c => ?_) (fun c => ?_)
  · have h := h.1 c
    exact h
  · have h := h.2 c
    refine R_aload_n (pc := 11) 0 rfl rfl dX5_advance_11 ?_
    refine R_getP (pc := 12) (q' := 38) lC_37 rfl flX5_27 dX5_advance_12 ?_
    refine R_aload_n (pc := 15) 0 rfl rfl dX5_advance_15 ?_
    refine R_getI (pc := 16) lC_37 rfl flX5_24 dX5_advance_16 ?_
    obtain ⟨g0, g1, h⟩ := h
    refine R_baload (pc := 19) lC_38 g0 g1 dX5_advance_19 ?_
    refine R_bipush (pc := 20) (by decide) dX5_advance_20 ?_
    refine R_icmp_ne (pc := 22) (tgt := 38) (by decide) dX5_advance_22 (fun c => ?_) (fun c => ?_)
    · have h := h.1 c
      exact h
    · have h := h.2 c
      refine R_aload_n (pc := 25) 0 rfl rfl dX5_advance_25 ?_
      refine R_dup (pc := 26) rfl dX5_advance_26 ?_
      refine R_getI (pc := 27) lC_37 rfl flX5_24 dX5_advance_27 ?_
      refine R_iconst (pc := 30) (by decide) dX5_advance_30 ?_
      obtain ⟨g, h⟩ := h
      refine R_iadd (pc := 31) g dX5_advance_31 ?_
      refine R_putI (pc := 32) lC_37 rfl fpX5_24 dX5_advance_32 ?_
      refine R_goto (pc := 35) (tgt := 0) (by decide) dX5_advance_35 ?_
      exact h
theorem X5_advance_38 {σ : Mem} {Q : Mem → Prop} (h : ((((upM σ 37 2 (σ 37 4)) 37 4) < ((upM σ 37 2 (σ 37 4)) 37 0) → 0 ≤ (upM σ 37 2 (σ 37 4)) 37 4 ∧ (upM σ 37 2 (σ 37 4)) 37 4 < 160 ∧ CI layC MX5_isLetter [vI ((upM σ 37 2 (σ 37 4)) 38 ((upM σ 37 2 (σ 37 4)) 37 4))] (upM σ 37 2 (σ 37 4)) (fun r2 σ1 => ((r2 = 0 → 0 ≤ σ1 37 4 ∧ σ1 37 4 < 160 ∧ CI layC MX5_isFigure [vI (σ1 38 (σ1 37 4))] σ1 (fun r4 σ3 => ((r4 = 0 → 0 ≤ σ3 37 4 ∧ σ3 37 4 < 160 ∧ (((σ3 38 (σ3 37 4)) ≠ 59 → I32 (((upM σ3 37 1 4) 37 4) + 1) ∧ Q (upM (upM σ3 37 1 4) 37 4 (((upM σ3 37 1 4) 37 4) + 1))) ∧ ((σ3 38 (σ3 37 4)) = 59 → I32 (((upM σ3 37 1 2) 37 4) + 1) ∧ Q (upM (upM σ3 37 1 2) 37 4 (((upM σ3 37 1 2) 37 4) + 1))))) ∧ (r4 ≠ 0 → CV layC MX5_takeNumber [vP 37] σ3 (fun σ5 => Q σ5))))) ∧ (r2 ≠ 0 → CV layC MX5_takeName [vP 37] σ1 (fun σ6 => Q σ6))))) ∧ (((upM σ 37 2 (σ 37 4)) 37 0) ≤ ((upM σ 37 2 (σ 37 4)) 37 4) → Q (upM (upM σ 37 2 (σ 37 4)) 37 1 3)))) : LX5_advance_38 σ Q := by
  unfold LX5_advance_38
  refine R_aload_n (pc := 38) 0 rfl rfl dX5_advance_38 ?_
  refine R_aload_n (pc := 39) 0 rfl rfl dX5_advance_39 ?_
  refine R_getI (pc := 40) lC_37 rfl flX5_24 dX5_advance_40 ?_
  refine R_putI (pc := 43) lC_37 rfl fpX5_18 dX5_advance_43 ?_
  refine R_aload_n (pc := 46) 0 rfl rfl dX5_advance_46 ?_
  refine R_getI (pc := 47) lC_37 rfl flX5_24 dX5_advance_47 ?_
  refine R_aload_n (pc := 50) 0 rfl rfl dX5_advance_50 ?_
  refine R_getI (pc := 51) lC_37 rfl flX5_9 dX5_advance_51 ?_
  refine R_icmp_lt (pc := 54) (tgt := 65) (by decide) dX5_advance_54 (fun c => ?_) (fun c => ?_)
  · have h := h.1 c
    refine R_aload_n (pc := 65) 0 rfl rfl dX5_advance_65 ?_
    refine R_getP (pc := 66) (q' := 38) lC_37 rfl flX5_27 dX5_advance_66 ?_
    refine R_aload_n (pc := 69) 0 rfl rfl dX5_advance_69 ?_
    refine R_getI (pc := 70) lC_37 rfl flX5_24 dX5_advance_70 ?_
    obtain ⟨g0, g1, h⟩ := h
    refine R_baload (pc := 73) lC_38 g0 g1 dX5_advance_73 ?_
    refine R_callSI (pc := 74) (as := [vI ((upM σ 37 2 (σ 37 4)) 38 ((upM σ 37 2 (σ 37 4)) 37 4))]) (st := []) rfl rfl kX5_isLetter sX5_isLetter w_2_78 (ltb rfl) rfl (leb rfl) dX5_advance_74 h (fun r2 σ1 h => ?_)
    refine R_if_eq (pc := 77) (tgt := 87) (by decide) dX5_advance_77 (fun c => ?_) (fun c => ?_)
    · have h := h.1 c
      refine R_aload_n (pc := 87) 0 rfl rfl dX5_advance_87 ?_
      refine R_getP (pc := 88) (q' := 38) lC_37 rfl flX5_27 dX5_advance_88 ?_
      refine R_aload_n (pc := 91) 0 rfl rfl dX5_advance_91 ?_
      refine R_getI (pc := 92) lC_37 rfl flX5_24 dX5_advance_92 ?_
      obtain ⟨g0, g1, h⟩ := h
      refine R_baload (pc := 95) lC_38 g0 g1 dX5_advance_95 ?_
      refine R_callSI (pc := 96) (as := [vI (σ1 38 (σ1 37 4))]) (st := []) rfl rfl kX5_isFigure sX5_isFigure w_2_86 (ltb rfl) rfl (leb rfl) dX5_advance_96 h (fun r4 σ3 h => ?_)
      refine R_if_eq (pc := 99) (tgt := 109) (by decide) dX5_advance_99 (fun c => ?_) (fun c => ?_)
      · have h := h.1 c
        refine R_aload_n (pc := 109) 0 rfl rfl dX5_advance_109 ?_
        refine R_aload_n (pc := 110) 0 rfl rfl dX5_advance_110 ?_
        refine R_getP (pc := 111) (q' := 38) lC_37 rfl flX5_27 dX5_advance_111 ?_
        refine R_aload_n (pc := 114) 0 rfl rfl dX5_advance_114 ?_
        refine R_getI (pc := 115) lC_37 rfl flX5_24 dX5_advance_115 ?_
        obtain ⟨g0, g1, h⟩ := h
        refine R_baload (pc := 118) lC_38 g0 g1 dX5_advance_118 ?_
        refine R_bipush (pc := 119) (by decide) dX5_advance_119 ?_
        refine R_icmp_ne (pc := 121) (tgt := 128) (by decide) dX5_advance_121 (fun c => ?_) (fun c => ?_)
        · have h := h.1 c
          refine R_iconst (pc := 128) (by decide) dX5_advance_128 ?_
          refine R_putI (pc := 129) lC_37 rfl fpX5_15 dX5_advance_129 ?_
          refine R_aload_n (pc := 132) 0 rfl rfl dX5_advance_132 ?_
          refine R_dup (pc := 133) rfl dX5_advance_133 ?_
          refine R_getI (pc := 134) lC_37 rfl flX5_24 dX5_advance_134 ?_
          refine R_iconst (pc := 137) (by decide) dX5_advance_137 ?_
          obtain ⟨g, h⟩ := h
          refine R_iadd (pc := 138) g dX5_advance_138 ?_
          refine R_putI (pc := 139) lC_37 rfl fpX5_24 dX5_advance_139 ?_
          exact R_vret (pc := 142) rfl dX5_advance_142 ⟨rfl, h⟩
        · have h := h.2 c
          refine R_iconst (pc := 124) (by decide) dX5_advance_124 ?_
          refine R_goto (pc := 125) (tgt := 129) (by decide) dX5_advance_125 ?_
          refine R_putI (pc := 129) lC_37 rfl fpX5_15 dX5_advance_129 ?_
          refine R_aload_n (pc := 132) 0 rfl rfl dX5_advance_132 ?_
          refine R_dup (pc := 133) rfl dX5_advance_133 ?_
          refine R_getI (pc := 134) lC_37 rfl flX5_24 dX5_advance_134 ?_
          refine R_iconst (pc := 137) (by decide) dX5_advance_137 ?_
          obtain ⟨g, h⟩ := h
          refine R_iadd (pc := 138) g dX5_advance_138 ?_
          refine R_putI (pc := 139) lC_37 rfl fpX5_24 dX5_advance_139 ?_
          exact R_vret (pc := 142) rfl dX5_advance_142 ⟨rfl, h⟩
      · have h := h.2 c
        refine R_aload_n (pc := 102) 0 rfl rfl dX5_advance_102 ?_
        refine R_callV0 (pc := 103) (as := []) (st := []) rfl rfl kX5_takeNumber sX5_takeNumber lC_37 rfl w_2_89 (ltb rfl) rfl (leb rfl) dX5_advance_103 h (fun σ5 h => ?_)
        refine R_goto (pc := 106) (tgt := 142) (by decide) dX5_advance_106 ?_
        exact R_vret (pc := 142) rfl dX5_advance_142 ⟨rfl, h⟩
    · have h := h.2 c
      refine R_aload_n (pc := 80) 0 rfl rfl dX5_advance_80 ?_
      refine R_callV0 (pc := 81) (as := []) (st := []) rfl rfl kX5_takeName sX5_takeName lC_37 rfl w_2_82 (ltb rfl) rfl (leb rfl) dX5_advance_81 h (fun σ6 h => ?_)
      refine R_goto (pc := 84) (tgt := 142) (by decide) dX5_advance_84 ?_
      exact R_vret (pc := 142) rfl dX5_advance_142 ⟨rfl, h⟩
  · have h := h.2 c
    refine R_aload_n (pc := 57) 0 rfl rfl dX5_advance_57 ?_
    refine R_iconst (pc := 58) (by decide) dX5_advance_58 ?_
    refine R_putI (pc := 59) lC_37 rfl fpX5_15 dX5_advance_59 ?_
    refine R_goto (pc := 62) (tgt := 142) (by decide) dX5_advance_62 ?_
    exact R_vret (pc := 142) rfl dX5_advance_142 ⟨rfl, h⟩
theorem X5_advance_E {σ : Mem} {Q : Mem → Prop} (h : LX5_advance_0 σ Q) : CV layC MX5_advance [vP 37] σ Q := by
  refine Cl.ofR (ls := [(0, vP 37)]) (show plainName RX5 = true by decide +kernel) (leb rfl) rfl ?_
  exact h
def LX7_lend_13 (x1 : Int) (x2 : Int) (σ : Mem) (Q : Int → Mem → Prop) : Prop := Rn layC MX7_lend 13 [(0, vP 0), (1, vI x1), (2, vI x2)] [] σ (qI Q)
theorem X7_lend_13 {x1 x2 : Int} {σ : Mem} {Q : Int → Mem → Prop} (h : ((999 < x2 → Q (-4) σ) ∧ (x2 ≤ 999 → I32 ((σ 1 0) + x2) ∧ CI layC MX7_sharedWhole [vP 0, vI ((σ 1 0) + x2)] σ (fun r2 σ1 => ((r2 < 0 → I32 (x2 + 1) ∧ LX7_lend_13 x1 (x2 + 1) σ1 Q) ∧ (0 ≤ r2 → ((x1 = 0 → Q x2 σ1) ∧ (x1 ≠ 0 → ((r2 ≠ (σ1 1 0) → I32 (x2 + 1) ∧ LX7_lend_13 x1 (x2 + 1) σ1 Q) ∧ (r2 = (σ1 1 0) → Q x2 σ1)))))))))) : LX7_lend_13 x1 x2 σ Q := by
  unfold LX7_lend_13
  refine R_iload_n (pc := 13) 2 rfl rfl dX7_lend_13 ?_
  refine R_sipush (pc := 14) (by decide) dX7_lend_14 ?_
  refine R_icmp_gt (pc := 17) (tgt := 61) (by decide) dX7_lend_17 (fun c => ?_) (fun c => ?_)
  · have h := h.1 c
    refine R_bipush (pc := 61) (by decide) dX7_lend_61 ?_
    exact R_iret (pc := 63) rfl dX7_lend_63 ⟨_, rfl, h⟩
  · have h := h.2 c
    refine R_aload_n (pc := 20) 0 rfl rfl dX7_lend_20 ?_
    refine R_aload_n (pc := 21) 0 rfl rfl dX7_lend_21 ?_
    refine R_getP (pc := 22) (q' := 1) lC_0 rfl flX7_10 dX7_lend_22 ?_
    refine R_getI (pc := 25) lC_1 rfl flX7_112 dX7_lend_25 ?_
    refine R_iload_n (pc := 28) 2 rfl rfl dX7_lend_28 ?_
    obtain ⟨g, h⟩ := h
    refine R_iadd (pc := 29) g dX7_lend_29 ?_
    refine R_callVI (pc := 30) (as := [vI ((σ 1 0) + x2)]) (st := []) rfl rfl kX7_sharedWhole sX7_sharedWhole lC_0 rfl w_3_105 (ltb rfl) rfl (leb rfl) dX7_lend_30 h (fun r2 σ1 h => ?_)
    refine R_istore_n (pc := 33) (ls' := [(3, vI r2), (0, vP 0), (1, vI x1), (2, vI x2)]) rfl rfl (ltb rfl) dX7_lend_33 ?_
    refine R_iload_n (pc := 34) 0 rfl rfl dX7_lend_34 ?_
    refine R_if_lt (pc := 35) (tgt := 55) (by decide) dX7_lend_35 (fun c => ?_) (fun c => ?_)
    · have h := h.1 c
      obtain ⟨g, h⟩ := h
      refine R_iinc (pc := 55) 3 rfl rfl g (ls' := [(2, vI (x2 + 1)), (3, vI r2), (0, vP 0), (1, vI x1)]) rfl (ltb rfl) dX7_lend_55 ?_
      refine R_goto (pc := 58) (tgt := 13) (by decide) dX7_lend_58 ?_
      refine R_sub [2, 3, 0] rfl ?_
      exact h
    · have h := h.2 c
      refine R_iload_n (pc := 38) 2 rfl rfl dX7_lend_38 ?_
      refine R_if_eq (pc := 39) (tgt := 53) (by decide) dX7_lend_39 (fun c => ?_) (fun c => ?_)
      · have h := h.1 c
        refine R_iload_n (pc := 53) 3 rfl rfl dX7_lend_53 ?_
        exact R_iret (pc := 54) rfl dX7_lend_54 ⟨_, rfl, h⟩
      · have h := h.2 c
        refine R_iload_n (pc := 42) 0 rfl rfl dX7_lend_42 ?_
        refine R_aload_n (pc := 43) 1 rfl rfl dX7_lend_43 ?_
        refine R_getP (pc := 44) (q' := 1) lC_0 rfl flX7_10 dX7_lend_44 ?_
        refine R_getI (pc := 47) lC_1 rfl flX7_112 dX7_lend_47 ?_
        refine R_icmp_ne (pc := 50) (tgt := 55) (by decide) dX7_lend_50 (fun c => ?_) (fun c => ?_)
        · have h := h.1 c
          obtain ⟨g, h⟩ := h
          refine R_iinc (pc := 55) 3 rfl rfl g (ls' := [(2, vI (x2 + 1)), (3, vI r2), (0, vP 0), (1, vI x1)]) rfl (ltb rfl) dX7_lend_55 ?_
          refine R_goto (pc := 58) (tgt := 13) (by decide) dX7_lend_58 ?_
          refine R_sub [2, 3, 0] rfl ?_
          exact h
        · have h := h.2 c
          refine R_iload_n (pc := 53) 3 rfl rfl dX7_lend_53 ?_
          exact R_iret (pc := 54) rfl dX7_lend_54 ⟨_, rfl, h⟩
theorem X7_lend_E {x1 : Int} {σ : Mem} {Q : Int → Mem → Prop} (h : CI layC MX7_within [vI x1, vI 0, vI 1] σ (fun r2 σ1 => ((r2 ≠ 0 → LX7_lend_13 x1 0 σ1 Q) ∧ (r2 = 0 → Q (-1) σ1)))) : CI layC MX7_lend [vP 0, vI x1] σ Q := by
  refine Cl.ofR (ls := [(0, vP 0), (1, vI x1)]) (show plainName RX7 = true by decide +kernel) (leb rfl) rfl ?_
  refine R_iload_n (pc := 0) 1 rfl rfl dX7_lend_0 ?_
  refine R_iconst (pc := 1) (by decide) dX7_lend_1 ?_
  refine R_iconst (pc := 2) (by decide) dX7_lend_2 ?_
  refine R_callSI (pc := 3) (as := [vI x1, vI 0, vI 1]) (st := []) rfl rfl kX7_within sX7_within w_2_47 (ltb rfl) rfl (leb rfl) dX7_lend_3 h (fun r2 σ1 h => ?_)
  refine R_if_ne (pc := 6) (tgt := 11) (by decide) dX7_lend_6 (fun c => ?_) (fun c => ?_)
  · have h := h.1 c
    refine R_iconst (pc := 11) (by decide) dX7_lend_11 ?_
    refine R_istore_n (pc := 12) (ls' := [(2, vI 0), (0, vP 0), (1, vI x1)]) rfl rfl (ltb rfl) dX7_lend_12 ?_
    refine R_sub [1, 2, 0] rfl ?_
    exact h
  · have h := h.2 c
    refine R_iconst (pc := 9) (by decide) dX7_lend_9 ?_
    exact R_iret (pc := 10) rfl dX7_lend_10 ⟨_, rfl, h⟩
theorem X7_sum_E {x1 : Int} {σ : Mem} {Q : Int → Mem → Prop} (h : CI layC MX7_within [vI x1, vI 0, vI 1] σ (fun r2 σ1 => ((r2 ≠ 0 → CV layC MX2_load [vP 26, vP 1] σ1 (fun σ3 => CJ layC MX7_fraction [vJ (σ3 26 1), vJ (σ3 26 0), vI x1] σ3 (fun r5 σ4 => Q r5 σ4))) ∧ (r2 = 0 → Q (-1) σ1)))) : CJ layC MX7_sum [vP 0, vI x1] σ Q := by
  refine Cl.ofR (ls := [(0, vP 0), (1, vI x1)]) (show plainName RX7 = true by decide +kernel) (leb rfl) rfl ?_
  refine R_iload_n (pc := 0) 1 rfl rfl dX7_sum_0 ?_
  refine R_iconst (pc := 1) (by decide) dX7_sum_1 ?_
  refine R_iconst (pc := 2) (by decide) dX7_sum_2 ?_
  refine R_callSI (pc := 3) (as := [vI x1, vI 0, vI 1]) (st := []) rfl rfl kX7_within sX7_within w_2_47 (ltb rfl) rfl (leb rfl) dX7_sum_3 h (fun r2 σ1 h => ?_)
  refine R_if_ne (pc := 6) (tgt := 13) (by decide) dX7_sum_6 (fun c => ?_) (fun c => ?_)
  · have h := h.1 c
    refine R_aload_n (pc := 13) 0 rfl rfl dX7_sum_13 ?_
    refine R_getP (pc := 14) (q' := 26) lC_0 rfl flX7_30 dX7_sum_14 ?_
    refine R_aload_n (pc := 17) 0 rfl rfl dX7_sum_17 ?_
    refine R_getP (pc := 18) (q' := 1) lC_0 rfl flX7_10 dX7_sum_18 ?_
    refine R_callV0 (pc := 21) (as := [vP 1]) (st := []) rfl rfl kX2_load sX2_load lC_26 rfl w_2_207 (ltb rfl) rfl (leb rfl) dX7_sum_21 h (fun σ3 h => ?_)
    refine R_aload_n (pc := 24) 0 rfl rfl dX7_sum_24 ?_
    refine R_getP (pc := 25) (q' := 26) lC_0 rfl flX7_30 dX7_sum_25 ?_
    refine R_getJ (pc := 28) lC_26 rfl flX7_121 dX7_sum_28 ?_
    refine R_aload_n (pc := 31) 0 rfl rfl dX7_sum_31 ?_
    refine R_getP (pc := 32) (q' := 26) lC_0 rfl flX7_30 dX7_sum_32 ?_
    refine R_getJ (pc := 35) lC_26 rfl flX7_125 dX7_sum_35 ?_
    refine R_iload_n (pc := 38) 1 rfl rfl dX7_sum_38 ?_
    refine R_callSJ (pc := 39) (as := [vJ (σ3 26 1), vJ (σ3 26 0), vI x1]) (st := []) rfl rfl kX7_fraction sX7_fraction w_3_56 (ltb rfl) rfl (leb rfl) dX7_sum_39 h (fun r5 σ4 h => ?_)
    exact R_lret (pc := 42) rfl dX7_sum_42 ⟨_, rfl, h⟩
  · have h := h.2 c
    refine R_ldc2 (pc := 9) (x := (-1)) w_3_55 (by decide) dX7_sum_9 ?_
    exact R_lret (pc := 12) rfl dX7_sum_12 ⟨_, rfl, h⟩
theorem X7_told_E {x1 x2 : Int} {σ : Mem} {Q : Int → Mem → Prop} (h : CI layC MX0_has [vP 1, vI x1] σ (fun r2 σ1 => ((r2 = 0 → Q (-1) σ1) ∧ (r2 ≠ 0 → CI layC MX7_within [vI x2, vI 0, vI 1] σ1 (fun r4 σ3 => ((r4 ≠ 0 → 0 ≤ x1 ∧ x1 < 5 ∧ I64 ((σ3 1 0) * (σ3 2 x1)) ∧ 0 ≤ x1 ∧ x1 < 5 ∧ CJ layC MX7_fraction [vJ ((σ3 1 0) * (σ3 2 x1)), vJ (σ3 3 x1), vI x2] σ3 (fun r6 σ5 => Q r6 σ5)) ∧ (r4 = 0 → Q (-1) σ3))))))) : CJ layC MX7_told [vP 0, vI x1, vI x2] σ Q := by
  refine Cl.ofR (ls := [(0, vP 0), (1, vI x1), (2, vI x2)]) (show plainName RX7 = true by decide +kernel) (leb rfl) rfl ?_
  refine R_aload_n (pc := 0) 0 rfl rfl dX7_told_0 ?_
  refine R_getP (pc := 1) (q' := 1) lC_0 rfl flX7_10 dX7_told_1 ?_
  refine R_iload_n (pc := 4) 1 rfl rfl dX7_told_4 ?_
  refine R_callVI (pc := 5) (as := [vI x1]) (st := []) rfl rfl kX0_has sX0_has lC_1 rfl w_3_36 (ltb rfl) rfl (leb rfl) dX7_told_5 h (fun r2 σ1 h => ?_)
  refine R_if_eq (pc := 8) (tgt := 20) (by decide) dX7_told_8 (fun c => ?_) (fun c => ?_)
  · have h := h.1 c
    refine R_ldc2 (pc := 20) (x := (-1)) w_3_55 (by decide) dX7_told_20 ?_
    exact R_lret (pc := 23) rfl dX7_told_23 ⟨_, rfl, h⟩
  · have h := h.2 c
    refine R_iload_n (pc := 11) 2 rfl rfl dX7_told_11 ?_
    refine R_iconst (pc := 12) (by decide) dX7_told_12 ?_
    refine R_iconst (pc := 13) (by decide) dX7_told_13 ?_
    refine R_callSI (pc := 14) (as := [vI x2, vI 0, vI 1]) (st := []) rfl rfl kX7_within sX7_within w_2_47 (ltb rfl) rfl (leb rfl) dX7_told_14 h (fun r4 σ3 h => ?_)
    refine R_if_ne (pc := 17) (tgt := 24) (by decide) dX7_told_17 (fun c => ?_) (fun c => ?_)
    · have h := h.1 c
      refine R_aload_n (pc := 24) 0 rfl rfl dX7_told_24 ?_
      refine R_getP (pc := 25) (q' := 1) lC_0 rfl flX7_10 dX7_told_25 ?_
      refine R_getI (pc := 28) lC_1 rfl flX7_112 dX7_told_28 ?_
      refine R_i2l (pc := 31) dX7_told_31 ?_
      refine R_aload_n (pc := 32) 0 rfl rfl dX7_told_32 ?_
      refine R_getP (pc := 33) (q' := 1) lC_0 rfl flX7_10 dX7_told_33 ?_
      refine R_getP (pc := 36) (q' := 2) lC_1 rfl flX7_146 dX7_told_36 ?_
      refine R_iload_n (pc := 39) 1 rfl rfl dX7_told_39 ?_
      obtain ⟨g0, g1, h⟩ := h
      refine R_iaload (pc := 40) lC_2 g0 g1 dX7_told_40 ?_
      refine R_i2l (pc := 41) dX7_told_41 ?_
      obtain ⟨g, h⟩ := h
      refine R_lmul (pc := 42) g dX7_told_42 ?_
      refine R_aload_n (pc := 43) 0 rfl rfl dX7_told_43 ?_
      refine R_getP (pc := 44) (q' := 1) lC_0 rfl flX7_10 dX7_told_44 ?_
      refine R_getP (pc := 47) (q' := 3) lC_1 rfl flX7_149 dX7_told_47 ?_
      refine R_iload_n (pc := 50) 1 rfl rfl dX7_told_50 ?_
      obtain ⟨g0, g1, h⟩ := h
      refine R_iaload (pc := 51) lC_3 g0 g1 dX7_told_51 ?_
      refine R_i2l (pc := 52) dX7_told_52 ?_
      refine R_iload_n (pc := 53) 2 rfl rfl dX7_told_53 ?_
      refine R_callSJ (pc := 54) (as := [vJ ((σ3 1 0) * (σ3 2 x1)), vJ (σ3 3 x1), vI x2]) (st := []) rfl rfl kX7_fraction sX7_fraction w_3_56 (ltb rfl) rfl (leb rfl) dX7_told_54 h (fun r6 σ5 h => ?_)
      exact R_lret (pc := 57) rfl dX7_told_57 ⟨_, rfl, h⟩
    · have h := h.2 c
      refine R_ldc2 (pc := 20) (x := (-1)) w_3_55 (by decide) dX7_told_20 ?_
      exact R_lret (pc := 23) rfl dX7_told_23 ⟨_, rfl, h⟩
def LX2_grow_2 (b : Nat) (x1 : Int) (σ : Mem) (Q : Mem → Prop) : Prop := Rn layC MX2_grow 2 [(0, vP b), (1, vI x1)] [] σ (qV Q)
theorem X2_grow_2 {b : Nat} (hb : isPt b) {x1 : Int} {σ : Mem} {Q : Mem → Prop} (h : (((σ b 6) ≤ x1 → (((σ b 7) = 2 → I32 ((σ b 8) + 1) ∧ CV layC MX2_giveNext [vP b] (upM σ b 8 ((σ b 8) + 1)) (fun σ1 => Q σ1)) ∧ ((σ b 7) ≠ 2 → (((σ b 7) ≠ 3 → I32 ((σ b 8) + 1) ∧ CV layC MX2_part [vP b, vI (σ b 7), vI ((σ b 8) + 1)] σ (fun σ2 => Q σ2)) ∧ ((σ b 7) = 3 → I32 ((σ b 8) + 1) ∧ CV layC MX2_giveNext [vP b] (upM σ b 8 ((σ b 8) + 1)) (fun σ3 => Q σ3)))))) ∧ (x1 < (σ b 6) → 0 ≤ x1 ∧ x1 < 5 ∧ 0 ≤ x1 ∧ x1 < 5 ∧ I32 (x1 + 1) ∧ LX2_grow_2 b (x1 + 1) (upM σ (b + 4) x1 (σ (b + 3) x1)) Q))) : LX2_grow_2 b x1 σ Q := by
  unfold LX2_grow_2
  refine R_iload_n (pc := 2) 1 rfl rfl dX2_grow_2 ?_
  refine R_aload_n (pc := 3) 0 rfl rfl dX2_grow_3 ?_
  refine R_getI (pc := 4) hb.1 rfl flX2_32 dX2_grow_4 ?_
  refine R_icmp_ge (pc := 7) (tgt := 28) (by decide) dX2_grow_7 (fun c => ?_) (fun c => ?_)
  · have h := h.1 c
    refine R_aload_n (pc := 28) 0 rfl rfl dX2_grow_28 ?_
    refine R_getI (pc := 29) hb.1 rfl flX2_36 dX2_grow_29 ?_
    refine R_iconst (pc := 32) (by decide) dX2_grow_32 ?_
    refine R_icmp_eq (pc := 33) (tgt := 44) (by decide) dX2_grow_33 (fun c => ?_) (fun c => ?_)
    · have h := h.1 c
      refine R_aload_n (pc := 44) 0 rfl rfl dX2_grow_44 ?_
      refine R_dup (pc := 45) rfl dX2_grow_45 ?_
      refine R_getI (pc := 46) hb.1 rfl flX2_39 dX2_grow_46 ?_
      refine R_iconst (pc := 49) (by decide) dX2_grow_49 ?_
      obtain ⟨g, h⟩ := h
      refine R_iadd (pc := 50) g dX2_grow_50 ?_
      refine R_putI (pc := 51) hb.1 rfl fpX2_39 dX2_grow_51 ?_
      refine R_aload_n (pc := 54) 0 rfl rfl dX2_grow_54 ?_
      refine R_callV0 (pc := 55) (as := []) (st := []) rfl rfl kX2_giveNext sX2_giveNext hb.1 rfl w_3_23 (ltb rfl) rfl (leb rfl) dX2_grow_55 h (fun σ1 h => ?_)
      refine R_goto (pc := 58) (tgt := 75) (by decide) dX2_grow_58 ?_
      exact R_vret (pc := 75) rfl dX2_grow_75 ⟨rfl, h⟩
    · have h := h.2 c
      refine R_aload_n (pc := 36) 0 rfl rfl dX2_grow_36 ?_
      refine R_getI (pc := 37) hb.1 rfl flX2_36 dX2_grow_37 ?_
      refine R_iconst (pc := 40) (by decide) dX2_grow_40 ?_
      refine R_icmp_ne (pc := 41) (tgt := 61) (by decide) dX2_grow_41 (fun c => ?_) (fun c => ?_)
      · have h := h.1 c
        refine R_aload_n (pc := 61) 0 rfl rfl dX2_grow_61 ?_
        refine R_aload_n (pc := 62) 0 rfl rfl dX2_grow_62 ?_
        refine R_getI (pc := 63) hb.1 rfl flX2_36 dX2_grow_63 ?_
        refine R_aload_n (pc := 66) 0 rfl rfl dX2_grow_66 ?_
        refine R_getI (pc := 67) hb.1 rfl flX2_39 dX2_grow_67 ?_
        refine R_iconst (pc := 70) (by decide) dX2_grow_70 ?_
        obtain ⟨g, h⟩ := h
        refine R_iadd (pc := 71) g dX2_grow_71 ?_
        refine R_callV0 (pc := 72) (as := [vI (σ b 7), vI ((σ b 8) + 1)]) (st := []) rfl rfl kX2_part sX2_part hb.1 rfl w_3_161 (ltb rfl) rfl (leb rfl) dX2_grow_72 h (fun σ2 h => ?_)
        exact R_vret (pc := 75) rfl dX2_grow_75 ⟨rfl, h⟩
      · have h := h.2 c
        refine R_aload_n (pc := 44) 0 rfl rfl dX2_grow_44 ?_
        refine R_dup (pc := 45) rfl dX2_grow_45 ?_
        refine R_getI (pc := 46) hb.1 rfl flX2_39 dX2_grow_46 ?_
        refine R_iconst (pc := 49) (by decide) dX2_grow_49 ?_
        obtain ⟨g, h⟩ := h
        refine R_iadd (pc := 50) g dX2_grow_50 ?_
        refine R_putI (pc := 51) hb.1 rfl fpX2_39 dX2_grow_51 ?_
        refine R_aload_n (pc := 54) 0 rfl rfl dX2_grow_54 ?_
        refine R_callV0 (pc := 55) (as := []) (st := []) rfl rfl kX2_giveNext sX2_giveNext hb.1 rfl w_3_23 (ltb rfl) rfl (leb rfl) dX2_grow_55 h (fun σ3 h => ?_)
        refine R_goto (pc := 58) (tgt := 75) (by decide) dX2_grow_58 ?_
        exact R_vret (pc := 75) rfl dX2_grow_75 ⟨rfl, h⟩
  · have h := h.2 c
    refine R_aload_n (pc := 10) 0 rfl rfl dX2_grow_10 ?_
    refine R_getP (pc := 11) (q' := (b + 4)) hb.1 rfl flX2_29 dX2_grow_11 ?_
    refine R_iload_n (pc := 14) 1 rfl rfl dX2_grow_14 ?_
    refine R_aload_n (pc := 15) 0 rfl rfl dX2_grow_15 ?_
    refine R_getP (pc := 16) (q' := (b + 3)) hb.1 rfl flX2_25 dX2_grow_16 ?_
    refine R_iload_n (pc := 19) 1 rfl rfl dX2_grow_19 ?_
    obtain ⟨g0, g1, h⟩ := h
    refine R_iaload (pc := 20) hb.2.2.2.1 g0 g1 dX2_grow_20 ?_
    obtain ⟨g0, g1, h⟩ := h
    refine R_iastore (pc := 21) hb.2.2.2.2 g0 g1 dX2_grow_21 ?_
    obtain ⟨g, h⟩ := h
    refine R_iinc (pc := 22) 1 rfl rfl g (ls' := [(1, vI (x1 + 1)), (0, vP b)]) rfl (ltb rfl) dX2_grow_22 ?_
    refine R_goto (pc := 25) (tgt := 2) (by decide) dX2_grow_25 ?_
    refine R_sub [1, 0] rfl ?_
    exact h
theorem X2_grow_E {b : Nat} (hb : isPt b) {σ : Mem} {Q : Mem → Prop} (h : LX2_grow_2 b 0 σ Q) : CV layC MX2_grow [vP b] σ Q := by
  refine Cl.ofR (ls := [(0, vP b)]) (show plainName RX2 = true by decide +kernel) (leb rfl) rfl ?_
  refine R_iconst (pc := 0) (by decide) dX2_grow_0 ?_
  refine R_istore_n (pc := 1) (ls' := [(1, vI 0), (0, vP b)]) rfl rfl (ltb rfl) dX2_grow_1 ?_
  refine R_sub [1, 0] rfl ?_
  exact h
