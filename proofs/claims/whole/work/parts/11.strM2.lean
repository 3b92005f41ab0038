theorem X8_end_E {x1 : Int} {σ : Mem} {Q : Int → Mem → Prop} (h : CI layM MX8_in [vJ x1, vJ 0, vJ (σ 0 7)] σ (fun r2 σ1 => ((r2 ≠ 0 → Q (σ1 0 7) (upM σ1 0 7 x1)) ∧ (r2 = 0 → Q (-1) σ1)))) : CI layM MX8_end [vP 0, vI x1] σ Q := by
  refine Cl.ofR (ls := [(0, vP 0), (1, vI x1)]) (show plainName RX8 = true by decide +kernel) (leb rfl) rfl ?_
  refine R_iload_n (pc := 0) 1 rfl rfl dX8_end_0 ?_
  refine R_i2l (pc := 1) dX8_end_1 ?_
  refine R_lconst (pc := 2) (x := 0) rfl dX8_end_2 ?_
  refine R_aload_n (pc := 3) 0 rfl rfl dX8_end_3 ?_
  refine R_getI (pc := 4) lM_0 rfl flX8_79 dX8_end_4 ?_
  refine R_i2l (pc := 7) dX8_end_7 ?_
  refine R_callSI (pc := 8) (as := [vJ x1, vJ 0, vJ (σ 0 7)]) (st := []) rfl rfl kX8_in sX8_in w_4_210 (ltb rfl) rfl (leb rfl) dX8_end_8 h (fun r2 σ1 h => ?_)
  refine R_if_ne (pc := 11) (tgt := 16) (by decide) dX8_end_11 (fun c => ?_) (fun c => ?_)
  · have h := h.1 c
    refine R_aload_n (pc := 16) 0 rfl rfl dX8_end_16 ?_
    refine R_getI (pc := 17) lM_0 rfl flX8_79 dX8_end_17 ?_
    refine R_istore_n (pc := 20) (ls' := [(2, vI (σ1 0 7)), (0, vP 0), (1, vI x1)]) rfl rfl (ltb rfl) dX8_end_20 ?_
    refine R_aload_n (pc := 21) 1 rfl rfl dX8_end_21 ?_
    refine R_iload_n (pc := 22) 2 rfl rfl dX8_end_22 ?_
    refine R_putI (pc := 23) lM_0 rfl fpX8_79 dX8_end_23 ?_
    refine R_iload_n (pc := 26) 0 rfl rfl dX8_end_26 ?_
    exact R_iret (pc := 27) rfl dX8_end_27 ⟨_, rfl, h⟩
  · have h := h.2 c
    refine R_iconst (pc := 14) (by decide) dX8_end_14 ?_
    exact R_iret (pc := 15) rfl dX8_end_15 ⟨_, rfl, h⟩
theorem X8_feed_E {x1 : Int} {σ : Mem} {Q : Int → Mem → Prop} (h : CI layM MX8_in [vJ x1, vJ 0, vJ 127] σ (fun r2 σ1 => ((r2 ≠ 0 → (((σ1 0 7) ≠ 160 → 0 ≤ σ1 0 7 ∧ σ1 0 7 < 160 ∧ I32 (((upM σ1 5 (σ1 0 7) x1) 0 7) + 1) ∧ Q ((upM (upM σ1 5 (σ1 0 7) x1) 0 7 (((upM σ1 5 (σ1 0 7) x1) 0 7) + 1)) 0 7) (upM (upM σ1 5 (σ1 0 7) x1) 0 7 (((upM σ1 5 (σ1 0 7) x1) 0 7) + 1))) ∧ ((σ1 0 7) = 160 → Q (-3) σ1))) ∧ (r2 = 0 → Q (-1) σ1)))) : CI layM MX8_feed [vP 0, vI x1] σ Q := by
  refine Cl.ofR (ls := [(0, vP 0), (1, vI x1)]) (show plainName RX8 = true by decide +kernel) (leb rfl) rfl ?_
  refine R_iload_n (pc := 0) 1 rfl rfl dX8_feed_0 ?_
  refine R_i2l (pc := 1) dX8_feed_1 ?_
  refine R_lconst (pc := 2) (x := 0) rfl dX8_feed_2 ?_
  refine R_ldc2 (pc := 3) (x := 127) w_4_209 (by decide) dX8_feed_3 ?_
  refine R_callSI (pc := 6) (as := [vJ x1, vJ 0, vJ 127]) (st := []) rfl rfl kX8_in sX8_in w_4_210 (ltb rfl) rfl (leb rfl) dX8_feed_6 h (fun r2 σ1 h => ?_)
  refine R_if_ne (pc := 9) (tgt := 14) (by decide) dX8_feed_9 (fun c => ?_) (fun c => ?_)
  · have h := h.1 c
    refine R_aload_n (pc := 14) 0 rfl rfl dX8_feed_14 ?_
    refine R_getI (pc := 15) lM_0 rfl flX8_79 dX8_feed_15 ?_
    refine R_sipush (pc := 18) (by decide) dX8_feed_18 ?_
    refine R_icmp_ne (pc := 21) (tgt := 27) (by decide) dX8_feed_21 (fun c => ?_) (fun c => ?_)
    · have h := h.1 c
      refine R_aload_n (pc := 27) 0 rfl rfl dX8_feed_27 ?_
      refine R_getP (pc := 28) (q' := 5) lM_0 rfl flX8_23 dX8_feed_28 ?_
      refine R_aload_n (pc := 31) 0 rfl rfl dX8_feed_31 ?_
      refine R_getI (pc := 32) lM_0 rfl flX8_79 dX8_feed_32 ?_
      refine R_iload_n (pc := 35) 1 rfl rfl dX8_feed_35 ?_
      obtain ⟨g0, g1, h⟩ := h
      refine R_iastore (pc := 36) lM_5 g0 g1 dX8_feed_36 ?_
      refine R_aload_n (pc := 37) 0 rfl rfl dX8_feed_37 ?_
      refine R_dup (pc := 38) rfl dX8_feed_38 ?_
      refine R_getI (pc := 39) lM_0 rfl flX8_79 dX8_feed_39 ?_
      refine R_iconst (pc := 42) (by decide) dX8_feed_42 ?_
      obtain ⟨g, h⟩ := h
      refine R_iadd (pc := 43) g dX8_feed_43 ?_
      refine R_putI (pc := 44) lM_0 rfl fpX8_79 dX8_feed_44 ?_
      refine R_aload_n (pc := 47) 0 rfl rfl dX8_feed_47 ?_
      refine R_getI (pc := 48) lM_0 rfl flX8_79 dX8_feed_48 ?_
      exact R_iret (pc := 51) rfl dX8_feed_51 ⟨_, rfl, h⟩
    · have h := h.2 c
      refine R_bipush (pc := 24) (by decide) dX8_feed_24 ?_
      exact R_iret (pc := 26) rfl dX8_feed_26 ⟨_, rfl, h⟩
  · have h := h.2 c
    refine R_iconst (pc := 12) (by decide) dX8_feed_12 ?_
    exact R_iret (pc := 13) rfl dX8_feed_13 ⟨_, rfl, h⟩
def LX8_firstOff_2 (x1 : Int) (x2 : Int) (σ : Mem) (Q : Int → Mem → Prop) : Prop := Rn layM MX8_firstOff 2 [(0, vP 0), (1, vI x1), (2, vI x2)] [] σ (qI Q)
theorem X8_firstOff_2 {x1 x2 : Int} {σ : Mem} {Q : Int → Mem → Prop} (h : (((σ 2 1) ≤ x2 → Q (-4) σ) ∧ (x2 < (σ 2 1) → CI layM MX8_isOff [vP 0, vI x2, vI x1] σ (fun r2 σ1 => ((r2 = 0 → I32 (x2 + 1) ∧ LX8_firstOff_2 x1 (x2 + 1) σ1 Q) ∧ (r2 ≠ 0 → Q x2 σ1)))))) : LX8_firstOff_2 x1 x2 σ Q := by
  unfold LX8_firstOff_2
  refine R_iload_n (pc := 2) 2 rfl rfl dX8_firstOff_2 ?_
  refine R_aload_n (pc := 3) 0 rfl rfl dX8_firstOff_3 ?_
  refine R_getP (pc := 4) (q' := 2) lM_0 rfl flX8_13 dX8_firstOff_4 ?_
  refine R_iconst (pc := 7) (by decide) dX8_firstOff_7 ?_
  have g0 : (0 : Int) ≤ 1 := by decide
  have g1 : (1 : Int) < 26 := by decide
  refine R_iaload (pc := 8) lM_2 g0 g1 dX8_firstOff_8 ?_
  refine R_icmp_ge (pc := 9) (tgt := 29) (by decide) dX8_firstOff_9 (fun c => ?_) (fun c => ?_)
  · have h := h.1 c
    refine R_bipush (pc := 29) (by decide) dX8_firstOff_29 ?_
    exact R_iret (pc := 31) rfl dX8_firstOff_31 ⟨_, rfl, h⟩
  · have h := h.2 c
    refine R_aload_n (pc := 12) 0 rfl rfl dX8_firstOff_12 ?_
    refine R_iload_n (pc := 13) 2 rfl rfl dX8_firstOff_13 ?_
    refine R_iload_n (pc := 14) 1 rfl rfl dX8_firstOff_14 ?_
    refine R_callVI (pc := 15) (as := [vI x2, vI x1]) (st := []) rfl rfl kX8_isOff sX8_isOff lM_0 rfl w_5_66 (ltb rfl) rfl (leb rfl) dX8_firstOff_15 h (fun r2 σ1 h => ?_)
    refine R_if_eq (pc := 18) (tgt := 23) (by decide) dX8_firstOff_18 (fun c => ?_) (fun c => ?_)
    · have h := h.1 c
      obtain ⟨g, h⟩ := h
      refine R_iinc (pc := 23) 2 rfl rfl g (ls' := [(2, vI (x2 + 1)), (0, vP 0), (1, vI x1)]) rfl (ltb rfl) dX8_firstOff_23 ?_
      refine R_goto (pc := 26) (tgt := 2) (by decide) dX8_firstOff_26 ?_
      refine R_sub [1, 2, 0] rfl ?_
      exact h
    · have h := h.2 c
      refine R_iload_n (pc := 21) 2 rfl rfl dX8_firstOff_21 ?_
      exact R_iret (pc := 22) rfl dX8_firstOff_22 ⟨_, rfl, h⟩
theorem X8_firstOff_E {x1 : Int} {σ : Mem} {Q : Int → Mem → Prop} (h : LX8_firstOff_2 x1 0 σ Q) : CI layM MX8_firstOff [vP 0, vI x1] σ Q := by
  refine Cl.ofR (ls := [(0, vP 0), (1, vI x1)]) (show plainName RX8 = true by decide +kernel) (leb rfl) rfl ?_
  refine R_iconst (pc := 0) (by decide) dX8_firstOff_0 ?_
  refine R_istore_n (pc := 1) (ls' := [(2, vI 0), (0, vP 0), (1, vI x1)]) rfl rfl (ltb rfl) dX8_firstOff_1 ?_
  refine R_sub [1, 2, 0] rfl ?_
  exact h
theorem X8_forget_E {x1 : Int} {σ : Mem} {Q : Int → Mem → Prop} (h : CI layM MX8_in [vJ x1, vJ 0, vJ (σ 1 13)] σ (fun r2 σ1 => ((r2 = 0 → Q (-1) σ1) ∧ (r2 ≠ 0 → CI layM MX8_becomes [vP 0, vI 13, vI x1] σ1 (fun r4 σ3 => Q r4 σ3))))) : CI layM MX8_forget [vP 0, vI x1] σ Q := by
  refine Cl.ofR (ls := [(0, vP 0), (1, vI x1)]) (show plainName RX8 = true by decide +kernel) (leb rfl) rfl ?_
  refine R_iload_n (pc := 0) 1 rfl rfl dX8_forget_0 ?_
  refine R_i2l (pc := 1) dX8_forget_1 ?_
  refine R_lconst (pc := 2) (x := 0) rfl dX8_forget_2 ?_
  refine R_aload_n (pc := 3) 0 rfl rfl dX8_forget_3 ?_
  refine R_getP (pc := 4) (q' := 1) lM_0 rfl flX8_7 dX8_forget_4 ?_
  refine R_bipush (pc := 7) (by decide) dX8_forget_7 ?_
  have g0 : (0 : Int) ≤ 13 := by decide
  have g1 : (13 : Int) < 78 := by decide
  refine R_iaload (pc := 9) lM_1 g0 g1 dX8_forget_9 ?_
  refine R_i2l (pc := 10) dX8_forget_10 ?_
  refine R_callSI (pc := 11) (as := [vJ x1, vJ 0, vJ (σ 1 13)]) (st := []) rfl rfl kX8_in sX8_in w_4_210 (ltb rfl) rfl (leb rfl) dX8_forget_11 h (fun r2 σ1 h => ?_)
  refine R_if_eq (pc := 14) (tgt := 27) (by decide) dX8_forget_14 (fun c => ?_) (fun c => ?_)
  · have h := h.1 c
    refine R_iconst (pc := 27) (by decide) dX8_forget_27 ?_
    exact R_iret (pc := 28) rfl dX8_forget_28 ⟨_, rfl, h⟩
  · have h := h.2 c
    refine R_aload_n (pc := 17) 0 rfl rfl dX8_forget_17 ?_
    refine R_bipush (pc := 18) (by decide) dX8_forget_18 ?_
    refine R_iload_n (pc := 20) 1 rfl rfl dX8_forget_20 ?_
    refine R_callVI (pc := 21) (as := [vI 13, vI x1]) (st := []) rfl rfl kX8_becomes sX8_becomes lM_0 rfl w_5_101 (ltb rfl) rfl (leb rfl) dX8_forget_21 h (fun r4 σ3 h => ?_)
    refine R_goto (pc := 24) (tgt := 28) (by decide) dX8_forget_24 ?_
    exact R_iret (pc := 28) rfl dX8_forget_28 ⟨_, rfl, h⟩
def LX8_gives_2 (x1 : Int) (x2 : Int) (x3 : Int) (σ : Mem) (Q : Mem → Prop) : Prop := Rn layM MX8_gives 2 [(0, vP 0), (1, vI x1), (2, vI x2), (3, vI x3)] [] σ (qV Q)
theorem X8_gives_2 {x1 x2 x3 : Int} {σ : Mem} {Q : Mem → Prop} (h : ((5 ≤ x3 → (((σ 2 1) ≤ 0 → Q σ) ∧ (0 < (σ 2 1) → ((x2 ≠ 0 → ((x2 ≠ 1 → ((x2 ≠ 2 → CV layM MX8_givesRow [vP 0, vI x1, vI 2] σ (fun σ1 => Q σ1)) ∧ (x2 = 2 → CV layM MX8_givesRow [vP 0, vI x1, vI 1] σ (fun σ2 => Q σ2)))) ∧ (x2 = 1 → CV layM MX8_givesRests [vP 0, vI x1] σ (fun σ3 => Q σ3)))) ∧ (x2 = 0 → CV layM MX8_givesTold [vP 0, vI x1] σ (fun σ4 => Q σ4)))))) ∧ (x3 < 5 → 0 ≤ x3 ∧ x3 < 5 ∧ I32 (x3 + 1) ∧ LX8_gives_2 x1 x2 (x3 + 1) (upM σ 7 x3 0) Q))) : LX8_gives_2 x1 x2 x3 σ Q := by
  unfold LX8_gives_2
  refine R_iload_n (pc := 2) 3 rfl rfl dX8_gives_2 ?_
  refine R_iconst (pc := 3) (by decide) dX8_gives_3 ?_
  refine R_icmp_ge (pc := 4) (tgt := 20) (by decide) dX8_gives_4 (fun c => ?_) (fun c => ?_)
  · have h := h.1 c
    refine R_aload_n (pc := 20) 0 rfl rfl dX8_gives_20 ?_
    refine R_getP (pc := 21) (q' := 2) lM_0 rfl flX8_13 dX8_gives_21 ?_
    refine R_iconst (pc := 24) (by decide) dX8_gives_24 ?_
    have g0 : (0 : Int) ≤ 1 := by decide
    have g1 : (1 : Int) < 26 := by decide
    refine R_iaload (pc := 25) lM_2 g0 g1 dX8_gives_25 ?_
    refine R_if_le (pc := 26) (tgt := 69) (by decide) dX8_gives_26 (fun c => ?_) (fun c => ?_)
    · have h := h.1 c
      exact R_vret (pc := 69) rfl dX8_gives_69 ⟨rfl, h⟩
    · have h := h.2 c
      refine R_iload_n (pc := 29) 2 rfl rfl dX8_gives_29 ?_
      refine R_if_ne (pc := 30) (tgt := 41) (by decide) dX8_gives_30 (fun c => ?_) (fun c => ?_)
      · have h := h.1 c
        refine R_iload_n (pc := 41) 2 rfl rfl dX8_gives_41 ?_
        refine R_iconst (pc := 42) (by decide) dX8_gives_42 ?_
        refine R_icmp_ne (pc := 43) (tgt := 54) (by decide) dX8_gives_43 (fun c => ?_) (fun c => ?_)
        · have h := h.1 c
          refine R_aload_n (pc := 54) 0 rfl rfl dX8_gives_54 ?_
          refine R_iload_n (pc := 55) 1 rfl rfl dX8_gives_55 ?_
          refine R_iload_n (pc := 56) 2 rfl rfl dX8_gives_56 ?_
          refine R_iconst (pc := 57) (by decide) dX8_gives_57 ?_
          refine R_icmp_ne (pc := 58) (tgt := 65) (by decide) dX8_gives_58 (fun c => ?_) (fun c => ?_)
          · have h := h.1 c
            refine R_iconst (pc := 65) (by decide) dX8_gives_65 ?_
            refine R_callV0 (pc := 66) (as := [vI x1, vI 2]) (st := []) rfl rfl kX8_givesRow sX8_givesRow lM_0 rfl w_5_49 (ltb rfl) rfl (leb rfl) dX8_gives_66 h (fun σ1 h => ?_)
            exact R_vret (pc := 69) rfl dX8_gives_69 ⟨rfl, h⟩
          · have h := h.2 c
            refine R_iconst (pc := 61) (by decide) dX8_gives_61 ?_
            refine R_goto (pc := 62) (tgt := 66) (by decide) dX8_gives_62 ?_
            refine R_callV0 (pc := 66) (as := [vI x1, vI 1]) (st := []) rfl rfl kX8_givesRow sX8_givesRow lM_0 rfl w_5_49 (ltb rfl) rfl (leb rfl) dX8_gives_66 h (fun σ2 h => ?_)
            exact R_vret (pc := 69) rfl dX8_gives_69 ⟨rfl, h⟩
        · have h := h.2 c
          refine R_aload_n (pc := 46) 0 rfl rfl dX8_gives_46 ?_
          refine R_iload_n (pc := 47) 1 rfl rfl dX8_gives_47 ?_
          refine R_callV0 (pc := 48) (as := [vI x1]) (st := []) rfl rfl kX8_givesRests sX8_givesRests lM_0 rfl w_5_45 (ltb rfl) rfl (leb rfl) dX8_gives_48 h (fun σ3 h => ?_)
          refine R_goto (pc := 51) (tgt := 69) (by decide) dX8_gives_51 ?_
          exact R_vret (pc := 69) rfl dX8_gives_69 ⟨rfl, h⟩
      · have h := h.2 c
        refine R_aload_n (pc := 33) 0 rfl rfl dX8_gives_33 ?_
        refine R_iload_n (pc := 34) 1 rfl rfl dX8_gives_34 ?_
        refine R_callV0 (pc := 35) (as := [vI x1]) (st := []) rfl rfl kX8_givesTold sX8_givesTold lM_0 rfl w_5_41 (ltb rfl) rfl (leb rfl) dX8_gives_35 h (fun σ4 h => ?_)
        refine R_goto (pc := 38) (tgt := 69) (by decide) dX8_gives_38 ?_
        exact R_vret (pc := 69) rfl dX8_gives_69 ⟨rfl, h⟩
  · have h := h.2 c
    refine R_aload_n (pc := 7) 0 rfl rfl dX8_gives_7 ?_
    refine R_getP (pc := 8) (q' := 7) lM_0 rfl flX8_30 dX8_gives_8 ?_
    refine R_iload_n (pc := 11) 3 rfl rfl dX8_gives_11 ?_
    refine R_iconst (pc := 12) (by decide) dX8_gives_12 ?_
    obtain ⟨g0, g1, h⟩ := h
    refine R_iastore (pc := 13) lM_7 g0 g1 dX8_gives_13 ?_
    obtain ⟨g, h⟩ := h
    refine R_iinc (pc := 14) 3 rfl rfl g (ls' := [(3, vI (x3 + 1)), (0, vP 0), (1, vI x1), (2, vI x2)]) rfl (ltb rfl) dX8_gives_14 ?_
    refine R_goto (pc := 17) (tgt := 2) (by decide) dX8_gives_17 ?_
    refine R_sub [1, 2, 3, 0] rfl ?_
    exact h
theorem X8_gives_E {x1 x2 : Int} {σ : Mem} {Q : Mem → Prop} (h : LX8_gives_2 x1 x2 0 σ Q) : CV layM MX8_gives [vP 0, vI x1, vI x2] σ Q := by
  refine Cl.ofR (ls := [(0, vP 0), (1, vI x1), (2, vI x2)]) (show plainName RX8 = true by decide +kernel) (leb rfl) rfl ?_
  refine R_iconst (pc := 0) (by decide) dX8_gives_0 ?_
  refine R_istore_n (pc := 1) (ls' := [(3, vI 0), (0, vP 0), (1, vI x1), (2, vI x2)]) rfl rfl (ltb rfl) dX8_gives_1 ?_
  refine R_sub [1, 2, 3, 0] rfl ?_
  exact h
theorem X8_herd_E {x1 : Int} {σ : Mem} {Q : Int → Mem → Prop} (h : CI layM MX8_in [vJ x1, vJ 0, vJ 999] σ (fun r2 σ1 => ((r2 = 0 → Q (-1) σ1) ∧ (r2 ≠ 0 → CI layM MX8_becomes [vP 0, vI 0, vI x1] σ1 (fun r4 σ3 => Q r4 σ3))))) : CI layM MX8_herd [vP 0, vI x1] σ Q := by
  refine Cl.ofR (ls := [(0, vP 0), (1, vI x1)]) (show plainName RX8 = true by decide +kernel) (leb rfl) rfl ?_
  refine R_iload_n (pc := 0) 1 rfl rfl dX8_herd_0 ?_
  refine R_i2l (pc := 1) dX8_herd_1 ?_
  refine R_lconst (pc := 2) (x := 0) rfl dX8_herd_2 ?_
  refine R_ldc2 (pc := 3) (x := 999) w_5_109 (by decide) dX8_herd_3 ?_
  refine R_callSI (pc := 6) (as := [vJ x1, vJ 0, vJ 999]) (st := []) rfl rfl kX8_in sX8_in w_4_210 (ltb rfl) rfl (leb rfl) dX8_herd_6 h (fun r2 σ1 h => ?_)
  refine R_if_eq (pc := 9) (tgt := 21) (by decide) dX8_herd_9 (fun c => ?_) (fun c => ?_)
  · have h := h.1 c
    refine R_iconst (pc := 21) (by decide) dX8_herd_21 ?_
    exact R_iret (pc := 22) rfl dX8_herd_22 ⟨_, rfl, h⟩
  · have h := h.2 c
    refine R_aload_n (pc := 12) 0 rfl rfl dX8_herd_12 ?_
    refine R_iconst (pc := 13) (by decide) dX8_herd_13 ?_
    refine R_iload_n (pc := 14) 1 rfl rfl dX8_herd_14 ?_
    refine R_callVI (pc := 15) (as := [vI 0, vI x1]) (st := []) rfl rfl kX8_becomes sX8_becomes lM_0 rfl w_5_101 (ltb rfl) rfl (leb rfl) dX8_herd_15 h (fun r4 σ3 h => ?_)
    refine R_goto (pc := 18) (tgt := 22) (by decide) dX8_herd_18 ?_
    exact R_iret (pc := 22) rfl dX8_herd_22 ⟨_, rfl, h⟩
def LX8_is_59 (x5 : Int) (x6 : Int) (s0 : Int) (σ : Mem) (Q : Int → Mem → Prop) : Prop := Rn layM MX8_is 59 [(0, vP 0), (5, vI x5), (6, vI x6)] [vI s0] σ (qI Q)
theorem X8_is_59 {x5 x6 s0 : Int} {σ : Mem} {Q : Int → Mem → Prop} (h : ((s0 = 0 → Q 0 σ) ∧ (s0 ≠ 0 → ((x5 = 0 → ((x6 = 0 → Q 1 σ) ∧ (x6 ≠ 0 → I32 ((σ 0 9) + 4) ∧ CI layM MX8_byteAt [vP 0, vI ((σ 0 9) + 4)] σ (fun r2 σ1 => ((r2 ≠ x6 → Q 0 σ1) ∧ (r2 = x6 → Q 1 σ1)))))) ∧ (x5 ≠ 0 → I32 ((σ 0 9) + 3) ∧ CI layM MX8_byteAt [vP 0, vI ((σ 0 9) + 3)] σ (fun r4 σ3 => ((r4 ≠ x5 → Q 0 σ3) ∧ (r4 = x5 → ((x6 = 0 → Q 1 σ3) ∧ (x6 ≠ 0 → I32 ((σ3 0 9) + 4) ∧ CI layM MX8_byteAt [vP 0, vI ((σ3 0 9) + 4)] σ3 (fun r6 σ5 => ((r6 ≠ x6 → Q 0 σ5) ∧ (r6 = x6 → Q 1 σ5))))))))))))) : LX8_is_59 x5 x6 s0 σ Q := by
  unfold LX8_is_59
  refine R_istore (pc := 59) (ls' := [(7, vI s0), (0, vP 0), (5, vI x5), (6, vI x6)]) rfl (ltb rfl) dX8_is_59 ?_
  refine R_iload (pc := 61) 0 rfl dX8_is_61 ?_
  refine R_if_eq (pc := 63) (tgt := 110) (by decide) dX8_is_63 (fun c => ?_) (fun c => ?_)
  · have h := h.1 c
    refine R_iconst (pc := 110) (by decide) dX8_is_110 ?_
    exact R_zret (pc := 111) rfl (by decide) dX8_is_111 ⟨_, rfl, h⟩
  · have h := h.2 c
    refine R_iload (pc := 66) 2 rfl dX8_is_66 ?_
    refine R_if_eq (pc := 68) (tgt := 86) (by decide) dX8_is_68 (fun c => ?_) (fun c => ?_)
    · have h := h.1 c
      refine R_iload (pc := 86) 3 rfl dX8_is_86 ?_
      refine R_if_eq (pc := 88) (tgt := 106) (by decide) dX8_is_88 (fun c => ?_) (fun c => ?_)
      · have h := h.1 c
        refine R_iconst (pc := 106) (by decide) dX8_is_106 ?_
        refine R_goto (pc := 107) (tgt := 111) (by decide) dX8_is_107 ?_
        exact R_zret (pc := 111) rfl (by decide) dX8_is_111 ⟨_, rfl, h⟩
      · have h := h.2 c
        refine R_aload_n (pc := 91) 1 rfl rfl dX8_is_91 ?_
        refine R_aload_n (pc := 92) 1 rfl rfl dX8_is_92 ?_
        refine R_getI (pc := 93) lM_0 rfl flX8_86 dX8_is_93 ?_
        refine R_iconst (pc := 96) (by decide) dX8_is_96 ?_
        obtain ⟨g, h⟩ := h
        refine R_iadd (pc := 97) g dX8_is_97 ?_
        refine R_callVI (pc := 98) (as := [vI ((σ 0 9) + 4)]) (st := []) rfl rfl kX8_byteAt sX8_byteAt lM_0 rfl w_4_225 (ltb rfl) rfl (leb rfl) dX8_is_98 h (fun r2 σ1 h => ?_)
        refine R_iload (pc := 101) 3 rfl dX8_is_101 ?_
        refine R_icmp_ne (pc := 103) (tgt := 110) (by decide) dX8_is_103 (fun c => ?_) (fun c => ?_)
        · have h := h.1 c
          refine R_iconst (pc := 110) (by decide) dX8_is_110 ?_
          exact R_zret (pc := 111) rfl (by decide) dX8_is_111 ⟨_, rfl, h⟩
        · have h := h.2 c
          refine R_iconst (pc := 106) (by decide) dX8_is_106 ?_
          refine R_goto (pc := 107) (tgt := 111) (by decide) dX8_is_107 ?_
          exact R_zret (pc := 111) rfl (by decide) dX8_is_111 ⟨_, rfl, h⟩
    · have h := h.2 c
      refine R_aload_n (pc := 71) 1 rfl rfl dX8_is_71 ?_
      refine R_aload_n (pc := 72) 1 rfl rfl dX8_is_72 ?_
      refine R_getI (pc := 73) lM_0 rfl flX8_86 dX8_is_73 ?_
      refine R_iconst (pc := 76) (by decide) dX8_is_76 ?_
      obtain ⟨g, h⟩ := h
      refine R_iadd (pc := 77) g dX8_is_77 ?_
      refine R_callVI (pc := 78) (as := [vI ((σ 0 9) + 3)]) (st := []) rfl rfl kX8_byteAt sX8_byteAt lM_0 rfl w_4_225 (ltb rfl) rfl (leb rfl) dX8_is_78 h (fun r4 σ3 h => ?_)
      refine R_iload (pc := 81) 2 rfl dX8_is_81 ?_
      refine R_icmp_ne (pc := 83) (tgt := 110) (by decide) dX8_is_83 (fun c => ?_) (fun c => ?_)
      · have h := h.1 c
        refine R_iconst (pc := 110) (by decide) dX8_is_110 ?_
        exact R_zret (pc := 111) rfl (by decide) dX8_is_111 ⟨_, rfl, h⟩
      · have h := h.2 c
        refine R_iload (pc := 86) 3 rfl dX8_is_86 ?_
        refine R_if_eq (pc := 88) (tgt := 106) (by decide) dX8_is_88 (fun c => ?_) (fun c => ?_)
        · have h := h.1 c
          refine R_iconst (pc := 106) (by decide) dX8_is_106 ?_
          refine R_goto (pc := 107) (tgt := 111) (by decide) dX8_is_107 ?_
          exact R_zret (pc := 111) rfl (by decide) dX8_is_111 ⟨_, rfl, h⟩
        · have h := h.2 c
          refine R_aload_n (pc := 91) 1 rfl rfl dX8_is_91 ?_
          refine R_aload_n (pc := 92) 1 rfl rfl dX8_is_92 ?_
          refine R_getI (pc := 93) lM_0 rfl flX8_86 dX8_is_93 ?_
          refine R_iconst (pc := 96) (by decide) dX8_is_96 ?_
          obtain ⟨g, h⟩ := h
          refine R_iadd (pc := 97) g dX8_is_97 ?_
          refine R_callVI (pc := 98) (as := [vI ((σ3 0 9) + 4)]) (st := []) rfl rfl kX8_byteAt sX8_byteAt lM_0 rfl w_4_225 (ltb rfl) rfl (leb rfl) dX8_is_98 h (fun r6 σ5 h => ?_)
          refine R_iload (pc := 101) 3 rfl dX8_is_101 ?_
          refine R_icmp_ne (pc := 103) (tgt := 110) (by decide) dX8_is_103 (fun c => ?_) (fun c => ?_)
          · have h := h.1 c
            refine R_iconst (pc := 110) (by decide) dX8_is_110 ?_
            exact R_zret (pc := 111) rfl (by decide) dX8_is_111 ⟨_, rfl, h⟩
          · have h := h.2 c
            refine R_iconst (pc := 106) (by decide) dX8_is_106 ?_
            refine R_goto (pc := 107) (tgt := 111) (by decide) dX8_is_107 ?_
            exact R_zret (pc := 111) rfl (by decide) dX8_is_111 ⟨_, rfl, h⟩
theorem X8_is_E {x1 x2 x3 x4 x5 x6 : Int} {σ : Mem} {Q : Int → Mem → Prop} (h : I32 ((σ 0 8) - (σ 0 9)) ∧ ((((σ 0 8) - (σ 0 9)) ≠ x1 → LX8_is_59 x5 x6 0 σ Q) ∧ (((σ 0 8) - (σ 0 9)) = x1 → CI layM MX8_byteAt [vP 0, vI (σ 0 9)] σ (fun r2 σ1 => ((r2 ≠ x2 → LX8_is_59 x5 x6 0 σ1 Q) ∧ (r2 = x2 → I32 ((σ1 0 9) + 1) ∧ CI layM MX8_byteAt [vP 0, vI ((σ1 0 9) + 1)] σ1 (fun r4 σ3 => ((r4 ≠ x3 → LX8_is_59 x5 x6 0 σ3 Q) ∧ (r4 = x3 → I32 ((σ3 0 9) + 2) ∧ CI layM MX8_byteAt [vP 0, vI ((σ3 0 9) + 2)] σ3 (fun r6 σ5 => ((r6 ≠ x4 → LX8_is_59 x5 x6 0 σ5 Q) ∧ (r6 = x4 → LX8_is_59 x5 x6 1 σ5 Q)))))))))))) : CI layM MX8_is [vP 0, vI x1, vI x2, vI x3, vI x4, vI x5, vI x6] σ Q := by
  refine Cl.ofR (ls := [(0, vP 0), (1, vI x1), (2, vI x2), (3, vI x3), (4, vI x4), (5, vI x5), (6, vI x6)]) (show plainName RX8 = true by decide +kernel) (leb rfl) rfl ?_
  refine R_aload_n (pc := 0) 0 rfl rfl dX8_is_0 ?_
  refine R_getI (pc := 1) lM_0 rfl flX8_92 dX8_is_1 ?_
  refine R_aload_n (pc := 4) 0 rfl rfl dX8_is_4 ?_
  refine R_getI (pc := 5) lM_0 rfl flX8_86 dX8_is_5 ?_
  obtain ⟨g, h⟩ := h
  refine R_isub (pc := 8) g dX8_is_8 ?_
  refine R_iload_n (pc := 9) 1 rfl rfl dX8_is_9 ?_
  refine R_icmp_ne (pc := 10) (tgt := 58) (by decide) dX8_is_10 (fun c => ?_) (fun c => ?_)
  · have h := h.1 c
    refine R_iconst (pc := 58) (by decide) dX8_is_58 ?_
    refine R_sub [0, 5, 6] rfl ?_
    exact h
  · have h := h.2 c
    refine R_aload_n (pc := 13) 0 rfl rfl dX8_is_13 ?_
    refine R_aload_n (pc := 14) 0 rfl rfl dX8_is_14 ?_
    refine R_getI (pc := 15) lM_0 rfl flX8_86 dX8_is_15 ?_
    refine R_callVI (pc := 18) (as := [vI (σ 0 9)]) (st := []) rfl rfl kX8_byteAt sX8_byteAt lM_0 rfl w_4_225 (ltb rfl) rfl (leb rfl) dX8_is_18 h (fun r2 σ1 h => ?_)
    refine R_iload_n (pc := 21) 2 rfl rfl dX8_is_21 ?_
    refine R_icmp_ne (pc := 22) (tgt := 58) (by decide) dX8_is_22 (fun c => ?_) (fun c => ?_)
    · have h := h.1 c
      refine R_iconst (pc := 58) (by decide) dX8_is_58 ?_
      refine R_sub [0, 5, 6] rfl ?_
      exact h
    · have h := h.2 c
      refine R_aload_n (pc := 25) 0 rfl rfl dX8_is_25 ?_
      refine R_aload_n (pc := 26) 0 rfl rfl dX8_is_26 ?_
      refine R_getI (pc := 27) lM_0 rfl flX8_86 dX8_is_27 ?_
      refine R_iconst (pc := 30) (by decide) dX8_is_30 ?_
      obtain ⟨g, h⟩ := h
      refine R_iadd (pc := 31) g dX8_is_31 ?_
      refine R_callVI (pc := 32) (as := [vI ((σ1 0 9) + 1)]) (st := []) rfl rfl kX8_byteAt sX8_byteAt lM_0 rfl w_4_225 (ltb rfl) rfl (leb rfl) dX8_is_32 h (fun r4 σ3 h => ?_)
      refine R_iload_n (pc := 35) 3 rfl rfl dX8_is_35 ?_
      refine R_icmp_ne (pc := 36) (tgt := 58) (by decide) dX8_is_36 (fun c => ?_) (fun c => ?_)
      · have h := h.1 c
        refine R_iconst (pc := 58) (by decide) dX8_is_58 ?_
        refine R_sub [0, 5, 6] rfl ?_
        exact h
      · have h := h.2 c
        refine R_aload_n (pc := 39) 0 rfl rfl dX8_is_39 ?_
        refine R_aload_n (pc := 40) 0 rfl rfl dX8_is_40 ?_
        refine R_getI (pc := 41) lM_0 rfl flX8_86 dX8_is_41 ?_
        refine R_iconst (pc := 44) (by decide) dX8_is_44 ?_
        obtain ⟨g, h⟩ := h
        refine R_iadd (pc := 45) g dX8_is_45 ?_
        refine R_callVI (pc := 46) (as := [vI ((σ3 0 9) + 2)]) (st := []) rfl rfl kX8_byteAt sX8_byteAt lM_0 rfl w_4_225 (ltb rfl) rfl (leb rfl) dX8_is_46 h (fun r6 σ5 h => ?_)
        refine R_iload (pc := 49) 4 rfl dX8_is_49 ?_
        refine R_icmp_ne (pc := 51) (tgt := 58) (by decide) dX8_is_51 (fun c => ?_) (fun c => ?_)
        · have h := h.1 c
          refine R_iconst (pc := 58) (by decide) dX8_is_58 ?_
          refine R_sub [0, 5, 6] rfl ?_
          exact h
        · have h := h.2 c
          refine R_iconst (pc := 54) (by decide) dX8_is_54 ?_
          refine R_goto (pc := 55) (tgt := 59) (by decide) dX8_is_55 ?_
          refine R_sub [0, 5, 6] rfl ?_
          exact h
theorem X8_isHeir_E {x1 : Int} {σ : Mem} {Q : Int → Mem → Prop} (h : I32 ((σ 1 1) - 1) ∧ CI layM MX8_in [vJ x1, vJ 0, vJ ((σ 1 1) - 1)] σ (fun r2 σ1 => (r2 = 0 ∨ r2 = 1) ∧ Q r2 σ1)) : CI layM MX8_isHeir [vP 0, vI x1] σ Q := by
  refine Cl.ofR (ls := [(0, vP 0), (1, vI x1)]) (show plainName RX8 = true by decide +kernel) (leb rfl) rfl ?_
  refine R_iload_n (pc := 0) 1 rfl rfl dX8_isHeir_0 ?_
  refine R_i2l (pc := 1) dX8_isHeir_1 ?_
  refine R_lconst (pc := 2) (x := 0) rfl dX8_isHeir_2 ?_
  refine R_aload_n (pc := 3) 0 rfl rfl dX8_isHeir_3 ?_
  refine R_getP (pc := 4) (q' := 1) lM_0 rfl flX8_7 dX8_isHeir_4 ?_
  refine R_iconst (pc := 7) (by decide) dX8_isHeir_7 ?_
  have g0 : (0 : Int) ≤ 1 := by decide
  have g1 : (1 : Int) < 78 := by decide
  refine R_iaload (pc := 8) lM_1 g0 g1 dX8_isHeir_8 ?_
  refine R_iconst (pc := 9) (by decide) dX8_isHeir_9 ?_
  obtain ⟨g, h⟩ := h
  refine R_isub (pc := 10) g dX8_isHeir_10 ?_
  refine R_i2l (pc := 11) dX8_isHeir_11 ?_
  refine R_callSI (pc := 12) (as := [vJ x1, vJ 0, vJ ((σ 1 1) - 1)]) (st := []) rfl rfl kX8_in sX8_in w_4_210 (ltb rfl) rfl (leb rfl) dX8_isHeir_12 h (fun r2 σ1 h => ?_)
  obtain ⟨g, h⟩ := h
  exact R_zret (pc := 15) rfl g dX8_isHeir_15 ⟨_, rfl, h⟩
theorem X8_isKind_E {x0 : Int} {σ : Mem} {Q : Int → Mem → Prop} (h : CI layM MX8_in [vJ x0, vJ 0, vJ 3] σ (fun r2 σ1 => (r2 = 0 ∨ r2 = 1) ∧ Q r2 σ1)) : CI layM MX8_isKind [vI x0] σ Q := by
  refine Cl.ofR (ls := [(0, vI x0)]) (show plainName RX8 = true by decide +kernel) (leb rfl) rfl ?_
  refine R_iload_n (pc := 0) 0 rfl rfl dX8_isKind_0 ?_
  refine R_i2l (pc := 1) dX8_isKind_1 ?_
  refine R_lconst (pc := 2) (x := 0) rfl dX8_isKind_2 ?_
  refine R_ldc2 (pc := 3) (x := 3) w_5_65 (by decide) dX8_isKind_3 ?_
  refine R_callSI (pc := 6) (as := [vJ x0, vJ 0, vJ 3]) (st := []) rfl rfl kX8_in sX8_in w_4_210 (ltb rfl) rfl (leb rfl) dX8_isKind_6 h (fun r2 σ1 h => ?_)
  obtain ⟨g, h⟩ := h
  exact R_zret (pc := 9) rfl g dX8_isKind_9 ⟨_, rfl, h⟩
theorem X8_isPart_E {x0 : Int} {σ : Mem} {Q : Int → Mem → Prop} (h : CI layM MX8_in [vJ x0, vJ 0, vJ 1] σ (fun r2 σ1 => (r2 = 0 ∨ r2 = 1) ∧ Q r2 σ1)) : CI layM MX8_isPart [vI x0] σ Q := by
  refine Cl.ofR (ls := [(0, vI x0)]) (show plainName RX8 = true by decide +kernel) (leb rfl) rfl ?_
  refine R_iload_n (pc := 0) 0 rfl rfl dX8_isPart_0 ?_
  refine R_i2l (pc := 1) dX8_isPart_1 ?_
  refine R_lconst (pc := 2) (x := 0) rfl dX8_isPart_2 ?_
  refine R_lconst (pc := 3) (x := 1) rfl dX8_isPart_3 ?_
  refine R_callSI (pc := 4) (as := [vJ x0, vJ 0, vJ 1]) (st := []) rfl rfl kX8_in sX8_in w_4_210 (ltb rfl) rfl (leb rfl) dX8_isPart_4 h (fun r2 σ1 h => ?_)
  obtain ⟨g, h⟩ := h
  exact R_zret (pc := 7) rfl g dX8_isPart_7 ⟨_, rfl, h⟩
theorem X8_isSheet_E {x0 x1 : Int} {σ : Mem} {Q : Int → Mem → Prop} (h : CI layM MX8_in [vJ x0, vJ 0, vJ 3] σ (fun r2 σ1 => ((r2 = 0 → Q 0 σ1) ∧ (r2 ≠ 0 → CI layM MX8_in [vJ x1, vJ 0, vJ 2] σ1 (fun r4 σ3 => ((r4 = 0 → Q 0 σ3) ∧ (r4 ≠ 0 → Q 1 σ3))))))) : CI layM MX8_isSheet [vI x0, vI x1] σ Q := by
  refine Cl.ofR (ls := [(0, vI x0), (1, vI x1)]) (show plainName RX8 = true by decide +kernel) (leb rfl) rfl ?_
  refine R_iload_n (pc := 0) 0 rfl rfl dX8_isSheet_0 ?_
  refine R_i2l (pc := 1) dX8_isSheet_1 ?_
  refine R_lconst (pc := 2) (x := 0) rfl dX8_isSheet_2 ?_
  refine R_ldc2 (pc := 3) (x := 3) w_5_65 (by decide) dX8_isSheet_3 ?_
  refine R_callSI (pc := 6) (as := [vJ x0, vJ 0, vJ 3]) (st := []) rfl rfl kX8_in sX8_in w_4_210 (ltb rfl) rfl (leb rfl) dX8_isSheet_6 h (fun r2 σ1 h => ?_)
  refine R_if_eq (pc := 9) (tgt := 28) (by decide) dX8_isSheet_9 (fun c => ?_) (fun c => ?_)
  · have h := h.1 c
    refine R_iconst (pc := 28) (by decide) dX8_isSheet_28 ?_
    exact R_zret (pc := 29) rfl (by decide) dX8_isSheet_29 ⟨_, rfl, h⟩
  · have h := h.2 c
    refine R_iload_n (pc := 12) 1 rfl rfl dX8_isSheet_12 ?_
    refine R_i2l (pc := 13) dX8_isSheet_13 ?_
    refine R_lconst (pc := 14) (x := 0) rfl dX8_isSheet_14 ?_
    refine R_ldc2 (pc := 15) (x := 2) w_5_232 (by decide) dX8_isSheet_15 ?_
    refine R_callSI (pc := 18) (as := [vJ x1, vJ 0, vJ 2]) (st := []) rfl rfl kX8_in sX8_in w_4_210 (ltb rfl) rfl (leb rfl) dX8_isSheet_18 h (fun r4 σ3 h => ?_)
    refine R_if_eq (pc := 21) (tgt := 28) (by decide) dX8_isSheet_21 (fun c => ?_) (fun c => ?_)
    · have h := h.1 c
      refine R_iconst (pc := 28) (by decide) dX8_isSheet_28 ?_
      exact R_zret (pc := 29) rfl (by decide) dX8_isSheet_29 ⟨_, rfl, h⟩
    · have h := h.2 c
      refine R_iconst (pc := 24) (by decide) dX8_isSheet_24 ?_
      refine R_goto (pc := 25) (tgt := 29) (by decide) dX8_isSheet_25 ?_
      exact R_zret (pc := 29) rfl (by decide) dX8_isSheet_29 ⟨_, rfl, h⟩
theorem X8_isWill_E {x0 x1 : Int} {σ : Mem} {Q : Int → Mem → Prop} (h : CI layM MX8_in [vJ x0, vJ 1, vJ 4] σ (fun r2 σ1 => ((r2 = 0 → Q 0 σ1) ∧ (r2 ≠ 0 → CI layM MX8_in [vJ x1, vJ 0, vJ 9] σ1 (fun r4 σ3 => ((r4 = 0 → Q 0 σ3) ∧ (r4 ≠ 0 → Q 1 σ3))))))) : CI layM MX8_isWill [vI x0, vI x1] σ Q := by
  refine Cl.ofR (ls := [(0, vI x0), (1, vI x1)]) (show plainName RX8 = true by decide +kernel) (leb rfl) rfl ?_
  refine R_iload_n (pc := 0) 0 rfl rfl dX8_isWill_0 ?_
  refine R_i2l (pc := 1) dX8_isWill_1 ?_
  refine R_lconst (pc := 2) (x := 1) rfl dX8_isWill_2 ?_
  refine R_ldc2 (pc := 3) (x := 4) w_5_148 (by decide) dX8_isWill_3 ?_
  refine R_callSI (pc := 6) (as := [vJ x0, vJ 1, vJ 4]) (st := []) rfl rfl kX8_in sX8_in w_4_210 (ltb rfl) rfl (leb rfl) dX8_isWill_6 h (fun r2 σ1 h => ?_)
  refine R_if_eq (pc := 9) (tgt := 28) (by decide) dX8_isWill_9 (fun c => ?_) (fun c => ?_)
  · have h := h.1 c
    refine R_iconst (pc := 28) (by decide) dX8_isWill_28 ?_
    exact R_zret (pc := 29) rfl (by decide) dX8_isWill_29 ⟨_, rfl, h⟩
  · have h := h.2 c
    refine R_iload_n (pc := 12) 1 rfl rfl dX8_isWill_12 ?_
    refine R_i2l (pc := 13) dX8_isWill_13 ?_
    refine R_lconst (pc := 14) (x := 0) rfl dX8_isWill_14 ?_
    refine R_ldc2 (pc := 15) (x := 9) w_5_99 (by decide) dX8_isWill_15 ?_
    refine R_callSI (pc := 18) (as := [vJ x1, vJ 0, vJ 9]) (st := []) rfl rfl kX8_in sX8_in w_4_210 (ltb rfl) rfl (leb rfl) dX8_isWill_18 h (fun r4 σ3 h => ?_)
    refine R_if_eq (pc := 21) (tgt := 28) (by decide) dX8_isWill_21 (fun c => ?_) (fun c => ?_)
    · have h := h.1 c
      refine R_iconst (pc := 28) (by decide) dX8_isWill_28 ?_
      exact R_zret (pc := 29) rfl (by decide) dX8_isWill_29 ⟨_, rfl, h⟩
    · have h := h.2 c
      refine R_iconst (pc := 24) (by decide) dX8_isWill_24 ?_
      refine R_goto (pc := 25) (tgt := 29) (by decide) dX8_isWill_25 ?_
      exact R_zret (pc := 29) rfl (by decide) dX8_isWill_29 ⟨_, rfl, h⟩
theorem X8_keep_E {x1 : Int} {σ : Mem} {Q : Int → Mem → Prop} (h : CI layM MX8_in [vJ x1, vJ 0, vJ 1] σ (fun r2 σ1 => ((r2 ≠ 0 → 0 ≤ x1 ∧ x1 < 2 ∧ CI layM MX8_flag [vI (σ1 3 x1)] σ1 (fun r4 σ3 => 0 ≤ x1 ∧ x1 < 2 ∧ I32 (x1 + 1) ∧ I32 (26 * (x1 + 1)) ∧ CV layM MX8_copies [vP 0, vI (26 * (x1 + 1)), vI 0] (upM σ3 3 x1 1) (fun σ5 => Q r4 σ5))) ∧ (r2 = 0 → Q (-1) σ1)))) : CI layM MX8_keep [vP 0, vI x1] σ Q := by
  refine Cl.ofR (ls := [(0, vP 0), (1, vI x1)]) (show plainName RX8 = true by decide +kernel) (leb rfl) rfl ?_
  refine R_iload_n (pc := 0) 1 rfl rfl dX8_keep_0 ?_
  refine R_i2l (pc := 1) dX8_keep_1 ?_
  refine R_lconst (pc := 2) (x := 0) rfl dX8_keep_2 ?_
  refine R_lconst (pc := 3) (x := 1) rfl dX8_keep_3 ?_
  refine R_callSI (pc := 4) (as := [vJ x1, vJ 0, vJ 1]) (st := []) rfl rfl kX8_in sX8_in w_4_210 (ltb rfl) rfl (leb rfl) dX8_keep_4 h (fun r2 σ1 h => ?_)
  refine R_if_ne (pc := 7) (tgt := 12) (by decide) dX8_keep_7 (fun c => ?_) (fun c => ?_)
  · have h := h.1 c
    refine R_aload_n (pc := 12) 0 rfl rfl dX8_keep_12 ?_
    refine R_getP (pc := 13) (q' := 3) lM_0 rfl flX8_16 dX8_keep_13 ?_
    refine R_iload_n (pc := 16) 1 rfl rfl dX8_keep_16 ?_
    obtain ⟨g0, g1, h⟩ := h
    refine R_zaload (pc := 17) lM_3 g0 g1 dX8_keep_17 ?_
    refine R_callSI (pc := 18) (as := [vI (σ1 3 x1)]) (st := []) rfl rfl kX8_flag sX8_flag w_5_70 (ltb rfl) rfl (leb rfl) dX8_keep_18 h (fun r4 σ3 h => ?_)
    refine R_istore_n (pc := 21) (ls' := [(2, vI r4), (0, vP 0), (1, vI x1)]) rfl rfl (ltb rfl) dX8_keep_21 ?_
    refine R_aload_n (pc := 22) 1 rfl rfl dX8_keep_22 ?_
    refine R_getP (pc := 23) (q' := 3) lM_0 rfl flX8_16 dX8_keep_23 ?_
    refine R_iload_n (pc := 26) 2 rfl rfl dX8_keep_26 ?_
    refine R_iconst (pc := 27) (by decide) dX8_keep_27 ?_
    obtain ⟨g0, g1, h⟩ := h
    refine R_zastore (pc := 28) (by decide) lM_3 g0 g1 dX8_keep_28 ?_
    refine R_aload_n (pc := 29) 1 rfl rfl dX8_keep_29 ?_
    refine R_bipush (pc := 30) (by decide) dX8_keep_30 ?_
    refine R_iload_n (pc := 32) 2 rfl rfl dX8_keep_32 ?_
    refine R_iconst (pc := 33) (by decide) dX8_keep_33 ?_
    obtain ⟨g, h⟩ := h
    refine R_iadd (pc := 34) g dX8_keep_34 ?_
    obtain ⟨g, h⟩ := h
    refine R_imul (pc := 35) g dX8_keep_35 ?_
    refine R_iconst (pc := 36) (by decide) dX8_keep_36 ?_
    refine R_callV0 (pc := 37) (as := [vI (26 * (x1 + 1)), vI 0]) (st := []) rfl rfl kX8_copies sX8_copies lM_0 rfl w_6_23 (ltb rfl) rfl (leb rfl) dX8_keep_37 h (fun σ5 h => ?_)
    refine R_iload_n (pc := 40) 0 rfl rfl dX8_keep_40 ?_
    exact R_iret (pc := 41) rfl dX8_keep_41 ⟨_, rfl, h⟩
  · have h := h.2 c
    refine R_iconst (pc := 10) (by decide) dX8_keep_10 ?_
    exact R_iret (pc := 11) rfl dX8_keep_11 ⟨_, rfl, h⟩
theorem X8_lowest_E {x0 x2 x4 : Int} {σ : Mem} {Q : Int → Mem → Prop} (h : ((0 ≤ x0 → CJ layM MX8_common [vJ x2, vJ x0] σ (fun r2 σ1 => ((x4 ≠ 0 → r2 ≠ 0 ∧ I64 (Int.tdiv x2 r2) ∧ Q (Int.tdiv x2 r2) σ1) ∧ (x4 = 0 → r2 ≠ 0 ∧ I64 (Int.tdiv x0 r2) ∧ Q (Int.tdiv x0 r2) σ1)))) ∧ (x0 < 0 → I64 (-x0) ∧ CJ layM MX8_common [vJ x2, vJ (-x0)] σ (fun r4 σ3 => ((x4 ≠ 0 → r4 ≠ 0 ∧ I64 (Int.tdiv x2 r4) ∧ Q (Int.tdiv x2 r4) σ3) ∧ (x4 = 0 → r4 ≠ 0 ∧ I64 (Int.tdiv x0 r4) ∧ Q (Int.tdiv x0 r4) σ3)))))) : CJ layM MX8_lowest [vJ x0, vJ x2, vI x4] σ Q := by
  refine Cl.ofR (ls := [(0, vJ x0), (2, vJ x2), (4, vI x4)]) (show plainName RX8 = true by decide +kernel) (leb rfl) rfl ?_
  refine R_lload_n (pc := 0) 1 rfl rfl dX8_lowest_0 ?_
  refine R_lload_n (pc := 1) 0 rfl rfl dX8_lowest_1 ?_
  refine R_lconst (pc := 2) (x := 0) rfl dX8_lowest_2 ?_
  refine R_lcmp_ge (pc := 3) (tgt := 12) dX8_lowest_3 (by decide) dX8_lowest_4 (fun c => ?_) (fun c => ?_)
  · have h := h.1 c
    refine R_lload_n (pc := 12) 0 rfl rfl dX8_lowest_12 ?_
    refine R_callSJ (pc := 13) (as := [vJ x2, vJ x0]) (st := []) rfl rfl kX8_common sX8_common w_5_83 (ltb rfl) rfl (leb rfl) dX8_lowest_13 h (fun r2 σ1 h => ?_)
    refine R_lstore (pc := 16) (ls' := [(5, vJ r2), (0, vJ x0), (2, vJ x2), (4, vI x4)]) rfl (ltb rfl) dX8_lowest_16 ?_
    refine R_iload (pc := 18) 3 rfl dX8_lowest_18 ?_
    refine R_if_ne (pc := 20) (tgt := 30) (by decide) dX8_lowest_20 (fun c => ?_) (fun c => ?_)
    · have h := h.1 c
      refine R_lload_n (pc := 30) 2 rfl rfl dX8_lowest_30 ?_
      refine R_lload (pc := 31) 0 rfl dX8_lowest_31 ?_
      obtain ⟨g0, h⟩ := h
      obtain ⟨g, h⟩ := h
      refine R_ldiv (pc := 33) g0 g dX8_lowest_33 ?_
      exact R_lret (pc := 34) rfl dX8_lowest_34 ⟨_, rfl, h⟩
    · have h := h.2 c
      refine R_lload_n (pc := 23) 1 rfl rfl dX8_lowest_23 ?_
      refine R_lload (pc := 24) 0 rfl dX8_lowest_24 ?_
      obtain ⟨g0, h⟩ := h
      obtain ⟨g, h⟩ := h
      refine R_ldiv (pc := 26) g0 g dX8_lowest_26 ?_
      refine R_goto (pc := 27) (tgt := 34) (by decide) dX8_lowest_27 ?_
      exact R_lret (pc := 34) rfl dX8_lowest_34 ⟨_, rfl, h⟩
  · have h := h.2 c
    refine R_lload_n (pc := 7) 0 rfl rfl dX8_lowest_7 ?_
    obtain ⟨g, h⟩ := h
    refine R_lneg (pc := 8) g dX8_lowest_8 ?_
    refine R_goto (pc := 9) (tgt := 13) (by decide) dX8_lowest_9 ?_
    refine R_callSJ (pc := 13) (as := [vJ x2, vJ (-x0)]) (st := []) rfl rfl kX8_common sX8_common w_5_83 (ltb rfl) rfl (leb rfl) dX8_lowest_13 h (fun r4 σ3 h => ?_)
    refine R_lstore (pc := 16) (ls' := [(5, vJ r4), (0, vJ x0), (2, vJ x2), (4, vI x4)]) rfl (ltb rfl) dX8_lowest_16 ?_
    refine R_iload (pc := 18) 3 rfl dX8_lowest_18 ?_
    refine R_if_ne (pc := 20) (tgt := 30) (by decide) dX8_lowest_20 (fun c => ?_) (fun c => ?_)
    · have h := h.1 c
      refine R_lload_n (pc := 30) 2 rfl rfl dX8_lowest_30 ?_
      refine R_lload (pc := 31) 0 rfl dX8_lowest_31 ?_
      obtain ⟨g0, h⟩ := h
      obtain ⟨g, h⟩ := h
      refine R_ldiv (pc := 33) g0 g dX8_lowest_33 ?_
      exact R_lret (pc := 34) rfl dX8_lowest_34 ⟨_, rfl, h⟩
    · have h := h.2 c
      refine R_lload_n (pc := 23) 1 rfl rfl dX8_lowest_23 ?_
      refine R_lload (pc := 24) 0 rfl dX8_lowest_24 ?_
      obtain ⟨g0, h⟩ := h
      obtain ⟨g, h⟩ := h
      refine R_ldiv (pc := 26) g0 g dX8_lowest_26 ?_
      refine R_goto (pc := 27) (tgt := 34) (by decide) dX8_lowest_27 ?_
      exact R_lret (pc := 34) rfl dX8_lowest_34 ⟨_, rfl, h⟩
def LX8_starts_2 (x1 : Int) (σ : Mem) (Q : Mem → Prop) : Prop := Rn layM MX8_starts 2 [(0, vP 0), (1, vI x1)] [] σ (qV Q)
theorem X8_starts_2 {x1 : Int} {σ : Mem} {Q : Mem → Prop} (h : ((26 ≤ x1 → CV layM MX8_reckons [vP 0] σ (fun σ1 => Q σ1)) ∧ (x1 < 26 → 0 ≤ x1 ∧ x1 < 78 ∧ 0 ≤ x1 ∧ x1 < 26 ∧ I32 (x1 + 1) ∧ LX8_starts_2 (x1 + 1) (upM σ 2 x1 (σ 1 x1)) Q))) : LX8_starts_2 x1 σ Q := by
  unfold LX8_starts_2
  refine R_iload_n (pc := 2) 1 rfl rfl dX8_starts_2 ?_
  refine R_bipush (pc := 3) (by decide) dX8_starts_3 ?_
  refine R_icmp_ge (pc := 5) (tgt := 26) (by decide) dX8_starts_5 (fun c => ?_) (fun c => ?_)
  · have h := h.1 c
    refine R_aload_n (pc := 26) 0 rfl rfl dX8_starts_26 ?_
    refine R_callV0 (pc := 27) (as := []) (st := []) rfl rfl kX8_reckons sX8_reckons lM_0 rfl w_5_29 (ltb rfl) rfl (leb rfl) dX8_starts_27 h (fun σ1 h => ?_)
    exact R_vret (pc := 30) rfl dX8_starts_30 ⟨rfl, h⟩
  · have h := h.2 c
    refine R_aload_n (pc := 8) 0 rfl rfl dX8_starts_8 ?_
    refine R_getP (pc := 9) (q' := 2) lM_0 rfl flX8_13 dX8_starts_9 ?_
    refine R_iload_n (pc := 12) 1 rfl rfl dX8_starts_12 ?_
    refine R_aload_n (pc := 13) 0 rfl rfl dX8_starts_13 ?_
    refine R_getP (pc := 14) (q' := 1) lM_0 rfl flX8_7 dX8_starts_14 ?_
    refine R_iload_n (pc := 17) 1 rfl rfl dX8_starts_17 ?_
    obtain ⟨g0, g1, h⟩ := h
    refine R_iaload (pc := 18) lM_1 g0 g1 dX8_starts_18 ?_
    obtain ⟨g0, g1, h⟩ := h
    refine R_iastore (pc := 19) lM_2 g0 g1 dX8_starts_19 ?_
    obtain ⟨g, h⟩ := h
    refine R_iinc (pc := 20) 1 rfl rfl g (ls' := [(1, vI (x1 + 1)), (0, vP 0)]) rfl (ltb rfl) dX8_starts_20 ?_
    refine R_goto (pc := 23) (tgt := 2) (by decide) dX8_starts_23 ?_
    refine R_sub [1, 0] rfl ?_
    exact h
theorem X8_starts_E {σ : Mem} {Q : Mem → Prop} (h : LX8_starts_2 0 σ Q) : CV layM MX8_starts [vP 0] σ Q := by
  refine Cl.ofR (ls := [(0, vP 0)]) (show plainName RX8 = true by decide +kernel) (leb rfl) rfl ?_
  refine R_iconst (pc := 0) (by decide) dX8_starts_0 ?_
  refine R_istore_n (pc := 1) (ls' := [(1, vI 0), (0, vP 0)]) rfl rfl (ltb rfl) dX8_starts_1 ?_
  refine R_sub [1, 0] rfl ?_
  exact h
def LX8_takes_8 (σ : Mem) (Q : Mem → Prop) : Prop := Rn layM MX8_takes 8 [(0, vP 0)] [] σ (qV Q)
def LX8_takes_82 (σ : Mem) (Q : Mem → Prop) : Prop := Rn layM MX8_takes 82 [(0, vP 0)] [] σ (qV Q)
def LX8_takes_140 (σ : Mem) (Q : Mem → Prop) : Prop := Rn layM MX8_takes 140 [(0, vP 0)] [] σ (qV Q)
theorem X8_takes_8 {σ : Mem} {Q : Mem → Prop} (h : CI layM MX8_byteAt [vP 0, vI (σ 0 8)] σ (fun r2 σ1 => ((r2 ≠ 32 → CI layM MX8_byteAt [vP 0, vI ((upM σ1 0 9 (σ1 0 8)) 0 8)] (upM σ1 0 9 (σ1 0 8)) (fun r4 σ3 => ((0 ≤ r4 → CI layM MX8_in [vJ r4, vJ 97, vJ 122] σ3 (fun r6 σ5 => ((r6 = 0 → CI layM MX8_in [vJ r4, vJ 48, vJ 57] σ5 (fun r8 σ7 => ((r8 = 0 → ((r4 ≠ 59 → CV layM MX8_needs [vP 0, vI 0, vI 1] (upM σ7 0 10 3) (fun σ9 => I32 ((σ9 0 8) + 1) ∧ Q (upM σ9 0 8 ((σ9 0 8) + 1)))) ∧ (r4 = 59 → CV layM MX8_needs [vP 0, vI 1, vI 1] (upM σ7 0 10 3) (fun σ10 => I32 ((σ10 0 8) + 1) ∧ Q (upM σ10 0 8 ((σ10 0 8) + 1)))))) ∧ (r8 ≠ 0 → LX8_takes_140 (upM (upM σ7 0 10 2) 0 11 0) Q)))) ∧ (r6 ≠ 0 → LX8_takes_82 (upM σ5 0 10 1) Q)))) ∧ (r4 < 0 → Q (upM σ3 0 10 0))))) ∧ (r2 = 32 → I32 ((σ1 0 8) + 1) ∧ LX8_takes_8 (upM σ1 0 8 ((σ1 0 8) + 1)) Q)))) : LX8_takes_8 σ Q := by
  unfold LX8_takes_8
  refine R_aload_n (pc := 8) 0 rfl rfl dX8_takes_8 ?_
  refine R_aload_n (pc := 9) 0 rfl rfl dX8_takes_9 ?_
  refine R_getI (pc := 10) lM_0 rfl flX8_92 dX8_takes_10 ?_
  refine R_callVI (pc := 13) (as := [vI (σ 0 8)]) (st := []) rfl rfl kX8_byteAt sX8_byteAt lM_0 rfl w_4_225 (ltb rfl) rfl (leb rfl) dX8_takes_13 h (fun r2 σ1 h => ?_)
  refine R_bipush (pc := 16) (by decide) dX8_takes_16 ?_
  refine R_icmp_ne (pc := 18) (tgt := 34) (by decide) dX8_takes_18 (fun c => ?_) (fun c => ?_)
  · have h := h.1 c
    refine R_aload_n (pc := 34) 0 rfl rfl dX8_takes_34 ?_
    refine R_aload_n (pc := 35) 0 rfl rfl dX8_takes_35 ?_
    refine R_getI (pc := 36) lM_0 rfl flX8_92 dX8_takes_36 ?_
    refine R_putI (pc := 39) lM_0 rfl fpX8_86 dX8_takes_39 ?_
    refine R_aload_n (pc := 42) 0 rfl rfl dX8_takes_42 ?_
    refine R_aload_n (pc := 43) 0 rfl rfl dX8_takes_43 ?_
    refine R_getI (pc := 44) lM_0 rfl flX8_92 dX8_takes_44 ?_
    refine R_callVI (pc := 47) (as := [vI ((upM σ1 0 9 (σ1 0 8)) 0 8)]) (st := []) rfl rfl kX8_byteAt sX8_byteAt lM_0 rfl w_4_225 (ltb rfl) rfl (leb rfl) dX8_takes_47 h (fun r4 σ3 h => ?_)
    refine R_istore_n (pc := 50) (ls' := [(1, vI r4), (0, vP 0)]) rfl rfl (ltb rfl) dX8_takes_50 ?_
    refine R_iload_n (pc := 51) 0 rfl rfl dX8_takes_51 ?_
    refine R_if_ge (pc := 52) (tgt := 63) (by decide) dX8_takes_52 (fun c => ?_) (fun c => ?_)
    · have h := h.1 c
      refine R_iload_n (pc := 63) 0 rfl rfl dX8_takes_63 ?_
      refine R_i2l (pc := 64) dX8_takes_64 ?_
      refine R_ldc2 (pc := 65) (x := 97) w_4_229 (by decide) dX8_takes_65 ?_
      refine R_ldc2 (pc := 68) (x := 122) w_4_230 (by decide) dX8_takes_68 ?_
      refine R_callSI (pc := 71) (as := [vJ r4, vJ 97, vJ 122]) (st := []) rfl rfl kX8_in sX8_in w_4_210 (ltb rfl) rfl (leb rfl) dX8_takes_71 h (fun r6 σ5 h => ?_)
      refine R_if_eq (pc := 74) (tgt := 116) (by decide) dX8_takes_74 (fun c => ?_) (fun c => ?_)
      · have h := h.1 c
        refine R_iload_n (pc := 116) 0 rfl rfl dX8_takes_116 ?_
        refine R_i2l (pc := 117) dX8_takes_117 ?_
        refine R_ldc2 (pc := 118) (x := 48) w_4_231 (by decide) dX8_takes_118 ?_
        refine R_ldc2 (pc := 121) (x := 57) w_4_232 (by decide) dX8_takes_121 ?_
        refine R_callSI (pc := 124) (as := [vJ r4, vJ 48, vJ 57]) (st := []) rfl rfl kX8_in sX8_in w_4_210 (ltb rfl) rfl (leb rfl) dX8_takes_124 h (fun r8 σ7 h => ?_)
        refine R_if_eq (pc := 127) (tgt := 243) (by decide) dX8_takes_127 (fun c => ?_) (fun c => ?_)
        · have h := h.1 c
          refine R_aload_n (pc := 243) 1 rfl rfl dX8_takes_243 ?_
          refine R_iconst (pc := 244) (by decide) dX8_takes_244 ?_
          refine R_putI (pc := 245) lM_0 rfl fpX8_103 dX8_takes_245 ?_
          refine R_aload_n (pc := 248) 1 rfl rfl dX8_takes_248 ?_
          refine R_iload_n (pc := 249) 0 rfl rfl dX8_takes_249 ?_
          refine R_bipush (pc := 250) (by decide) dX8_takes_250 ?_
          refine R_icmp_ne (pc := 252) (tgt := 259) (by decide) dX8_takes_252 (fun c => ?_) (fun c => ?_)
          · have h := h.1 c
            refine R_iconst (pc := 259) (by decide) dX8_takes_259 ?_
            refine R_iconst (pc := 260) (by decide) dX8_takes_260 ?_
            refine R_callV0 (pc := 261) (as := [vI 0, vI 1]) (st := []) rfl rfl kX8_needs sX8_needs lM_0 rfl w_4_233 (ltb rfl) rfl (leb rfl) dX8_takes_261 h (fun σ9 h => ?_)
            refine R_aload_n (pc := 264) 1 rfl rfl dX8_takes_264 ?_
            refine R_dup (pc := 265) rfl dX8_takes_265 ?_
            refine R_getI (pc := 266) lM_0 rfl flX8_92 dX8_takes_266 ?_
            refine R_iconst (pc := 269) (by decide) dX8_takes_269 ?_
            obtain ⟨g, h⟩ := h
            refine R_iadd (pc := 270) g dX8_takes_270 ?_
            refine R_putI (pc := 271) lM_0 rfl fpX8_92 dX8_takes_271 ?_
            exact R_vret (pc := 274) rfl dX8_takes_274 ⟨rfl, h⟩
          · have h := h.2 c
            refine R_iconst (pc := 255) (by decide) dX8_takes_255 ?_
            refine R_goto (pc := 256) (tgt := 260) (by decide) dX8_takes_256 ?_
            refine R_iconst (pc := 260) (by decide) dX8_takes_260 ?_
            refine R_callV0 (pc := 261) (as := [vI 1, vI 1]) (st := []) rfl rfl kX8_needs sX8_needs lM_0 rfl w_4_233 (ltb rfl) rfl (leb rfl) dX8_takes_261 h (fun σ10 h => ?_)
            refine R_aload_n (pc := 264) 1 rfl rfl dX8_takes_264 ?_
            refine R_dup (pc := 265) rfl dX8_takes_265 ?_
            refine R_getI (pc := 266) lM_0 rfl flX8_92 dX8_takes_266 ?_
            refine R_iconst (pc := 269) (by decide) dX8_takes_269 ?_
            obtain ⟨g, h⟩ := h
            refine R_iadd (pc := 270) g dX8_takes_270 ?_
            refine R_putI (pc := 271) lM_0 rfl fpX8_92 dX8_takes_271 ?_
            exact R_vret (pc := 274) rfl dX8_takes_274 ⟨rfl, h⟩
        · have h := h.2 c
          refine R_aload_n (pc := 130) 1 rfl rfl dX8_takes_130 ?_
          refine R_iconst (pc := 131) (by decide) dX8_takes_131 ?_
          refine R_putI (pc := 132) lM_0 rfl fpX8_103 dX8_takes_132 ?_
          refine R_aload_n (pc := 135) 1 rfl rfl dX8_takes_135 ?_
          refine R_iconst (pc := 136) (by decide) dX8_takes_136 ?_
          refine R_putI (pc := 137) lM_0 rfl fpX8_114 dX8_takes_137 ?_
          refine R_sub [1] rfl ?_
          exact h
      · have h := h.2 c
        refine R_aload_n (pc := 77) 1 rfl rfl dX8_takes_77 ?_
        refine R_iconst (pc := 78) (by decide) dX8_takes_78 ?_
        refine R_putI (pc := 79) lM_0 rfl fpX8_103 dX8_takes_79 ?_
        refine R_sub [1] rfl ?_
        exact h
    · have h := h.2 c
      refine R_aload_n (pc := 55) 1 rfl rfl dX8_takes_55 ?_
      refine R_iconst (pc := 56) (by decide) dX8_takes_56 ?_
      refine R_putI (pc := 57) lM_0 rfl fpX8_103 dX8_takes_57 ?_
      refine R_goto (pc := 60) (tgt := 274) (by decide) dX8_takes_60 ?_
      exact R_vret (pc := 274) rfl dX8_takes_274 ⟨rfl, h⟩
  · have h := h.2 c
    refine R_aload_n (pc := 21) 0 rfl rfl dX8_takes_21 ?_
    refine R_dup (pc := 22) rfl dX8_takes_22 ?_
    refine R_getI (pc := 23) lM_0 rfl flX8_92 dX8_takes_23 ?_
    refine R_iconst (pc := 26) (by decide) dX8_takes_26 ?_
    obtain ⟨g, h⟩ := h
    refine R_iadd (pc := 27) g dX8_takes_27 ?_
    refine R_putI (pc := 28) lM_0 rfl fpX8_92 dX8_takes_28 ?_
    refine R_goto (pc := 31) (tgt := 8) (by decide) dX8_takes_31 ?_
    exact h
theorem X8_takes_82 {σ : Mem} {Q : Mem → Prop} (h : CI layM MX8_byteAt [vP 0, vI (σ 0 8)] σ (fun r2 σ1 => CI layM MX8_in [vJ r2, vJ 97, vJ 122] σ1 (fun r4 σ3 => ((r4 = 0 → Q σ3) ∧ (r4 ≠ 0 → I32 ((σ3 0 8) + 1) ∧ LX8_takes_82 (upM σ3 0 8 ((σ3 0 8) + 1)) Q))))) : LX8_takes_82 σ Q := by
  unfold LX8_takes_82
  refine R_aload_n (pc := 82) 0 rfl rfl dX8_takes_82 ?_
  refine R_aload_n (pc := 83) 0 rfl rfl dX8_takes_83 ?_
  refine R_getI (pc := 84) lM_0 rfl flX8_92 dX8_takes_84 ?_
  refine R_callVI (pc := 87) (as := [vI (σ 0 8)]) (st := []) rfl rfl kX8_byteAt sX8_byteAt lM_0 rfl w_4_225 (ltb rfl) rfl (leb rfl) dX8_takes_87 h (fun r2 σ1 h => ?_)
  refine R_i2l (pc := 90) dX8_takes_90 ?_
  refine R_ldc2 (pc := 91) (x := 97) w_4_229 (by decide) dX8_takes_91 ?_
  refine R_ldc2 (pc := 94) (x := 122) w_4_230 (by decide) dX8_takes_94 ?_
  refine R_callSI (pc := 97) (as := [vJ r2, vJ 97, vJ 122]) (st := []) rfl rfl kX8_in sX8_in w_4_210 (ltb rfl) rfl (leb rfl) dX8_takes_97 h (fun r4 σ3 h => ?_)
  refine R_if_eq (pc := 100) (tgt := 274) (by decide) dX8_takes_100 (fun c => ?_) (fun c => ?_)
  · have h := h.1 c
    exact R_vret (pc := 274) rfl dX8_takes_274 ⟨rfl, h⟩
  · have h := h.2 c
    refine R_aload_n (pc := 103) 0 rfl rfl dX8_takes_103 ?_
    refine R_dup (pc := 104) rfl dX8_takes_104 ?_
    refine R_getI (pc := 105) lM_0 rfl flX8_92 dX8_takes_105 ?_
    refine R_iconst (pc := 108) (by decide) dX8_takes_108 ?_
    obtain ⟨g, h⟩ := h
    refine R_iadd (pc := 109) g dX8_takes_109 ?_
    refine R_putI (pc := 110) lM_0 rfl fpX8_92 dX8_takes_110 ?_
    refine R_goto (pc := 113) (tgt := 82) (by decide) dX8_takes_113 ?_
    exact h
theorem X8_takes_140 {σ : Mem} {Q : Mem → Prop} (h : CI layM MX8_byteAt [vP 0, vI (σ 0 8)] σ (fun r2 σ1 => CI layM MX8_in [vJ r2, vJ 48, vJ 57] σ1 (fun r4 σ3 => ((r4 = 0 → I32 ((σ3 0 8) - (σ3 0 9)) ∧ ((3 < ((σ3 0 8) - (σ3 0 9)) → CV layM MX8_needs [vP 0, vI 0, vI 1] σ3 (fun σ5 => Q σ5)) ∧ (((σ3 0 8) - (σ3 0 9)) ≤ 3 → CV layM MX8_needs [vP 0, vI 1, vI 1] σ3 (fun σ6 => Q σ6)))) ∧ (r4 ≠ 0 → I32 ((σ3 0 8) - (σ3 0 9)) ∧ ((3 ≤ ((σ3 0 8) - (σ3 0 9)) → I32 (((upM σ3 0 11 (σ3 0 11)) 0 8) + 1) ∧ LX8_takes_140 (upM (upM σ3 0 11 (σ3 0 11)) 0 8 (((upM σ3 0 11 (σ3 0 11)) 0 8) + 1)) Q) ∧ (((σ3 0 8) - (σ3 0 9)) < 3 → I32 (10 * (σ3 0 11)) ∧ CI layM MX8_byteAt [vP 0, vI (σ3 0 8)] σ3 (fun r8 σ7 => I32 ((10 * (σ3 0 11)) + r8) ∧ I32 (((10 * (σ3 0 11)) + r8) - 48) ∧ I32 (((upM σ7 0 11 (((10 * (σ3 0 11)) + r8) - 48)) 0 8) + 1) ∧ LX8_takes_140 (upM (upM σ7 0 11 (((10 * (σ3 0 11)) + r8) - 48)) 0 8 (((upM σ7 0 11 (((10 * (σ3 0 11)) + r8) - 48)) 0 8) + 1)) Q)))))))) : LX8_takes_140 σ Q := by
  unfold LX8_takes_140
  refine R_aload_n (pc := 140) 0 rfl rfl dX8_takes_140 ?_
  refine R_aload_n (pc := 141) 0 rfl rfl dX8_takes_141 ?_
  refine R_getI (pc := 142) lM_0 rfl flX8_92 dX8_takes_142 ?_
  refine R_callVI (pc := 145) (as := [vI (σ 0 8)]) (st := []) rfl rfl kX8_byteAt sX8_byteAt lM_0 rfl w_4_225 (ltb rfl) rfl (leb rfl) dX8_takes_145 h (fun r2 σ1 h => ?_)
  refine R_i2l (pc := 148) dX8_takes_148 ?_
  refine R_ldc2 (pc := 149) (x := 48) w_4_231 (by decide) dX8_takes_149 ?_
  refine R_ldc2 (pc := 152) (x := 57) w_4_232 (by decide) dX8_takes_152 ?_
  refine R_callSI (pc := 155) (as := [vJ r2, vJ 48, vJ 57]) (st := []) rfl rfl kX8_in sX8_in w_4_210 (ltb rfl) rfl (leb rfl) dX8_takes_155 h (fun r4 σ3 h => ?_)
  refine R_if_eq (pc := 158) (tgt := 217) (by decide) dX8_takes_158 (fun c => ?_) (fun c => ?_)
  · have h := h.1 c
    refine R_aload_n (pc := 217) 0 rfl rfl dX8_takes_217 ?_
    refine R_aload_n (pc := 218) 0 rfl rfl dX8_takes_218 ?_
    refine R_getI (pc := 219) lM_0 rfl flX8_92 dX8_takes_219 ?_
    refine R_aload_n (pc := 222) 0 rfl rfl dX8_takes_222 ?_
    refine R_getI (pc := 223) lM_0 rfl flX8_86 dX8_takes_223 ?_
    obtain ⟨g, h⟩ := h
    refine R_isub (pc := 226) g dX8_takes_226 ?_
    refine R_iconst (pc := 227) (by decide) dX8_takes_227 ?_
    refine R_icmp_gt (pc := 228) (tgt := 235) (by decide) dX8_takes_228 (fun c => ?_) (fun c => ?_)
    · have h := h.1 c
      refine R_iconst (pc := 235) (by decide) dX8_takes_235 ?_
      refine R_iconst (pc := 236) (by decide) dX8_takes_236 ?_
      refine R_callV0 (pc := 237) (as := [vI 0, vI 1]) (st := []) rfl rfl kX8_needs sX8_needs lM_0 rfl w_4_233 (ltb rfl) rfl (leb rfl) dX8_takes_237 h (fun σ5 h => ?_)
      refine R_goto (pc := 240) (tgt := 274) (by decide) dX8_takes_240 ?_
      exact R_vret (pc := 274) rfl dX8_takes_274 ⟨rfl, h⟩
    · have h := h.2 c
      refine R_iconst (pc := 231) (by decide) dX8_takes_231 ?_
      refine R_goto (pc := 232) (tgt := 236) (by decide) dX8_takes_232 ?_
      refine R_iconst (pc := 236) (by decide) dX8_takes_236 ?_
      refine R_callV0 (pc := 237) (as := [vI 1, vI 1]) (st := []) rfl rfl kX8_needs sX8_needs lM_0 rfl w_4_233 (ltb rfl) rfl (leb rfl) dX8_takes_237 h (fun σ6 h => ?_)
      refine R_goto (pc := 240) (tgt := 274) (by decide) dX8_takes_240 ?_
      exact R_vret (pc := 274) rfl dX8_takes_274 ⟨rfl, h⟩
  · have h := h.2 c
    refine R_aload_n (pc := 161) 0 rfl rfl dX8_takes_161 ?_
    refine R_aload_n (pc := 162) 0 rfl rfl dX8_takes_162 ?_
    refine R_getI (pc := 163) lM_0 rfl flX8_92 dX8_takes_163 ?_
    refine R_aload_n (pc := 166) 0 rfl rfl dX8_takes_166 ?_
    refine R_getI (pc := 167) lM_0 rfl flX8_86 dX8_takes_167 ?_
    obtain ⟨g, h⟩ := h
    refine R_isub (pc := 170) g dX8_takes_170 ?_
    refine R_iconst (pc := 171) (by decide) dX8_takes_171 ?_
    refine R_icmp_ge (pc := 172) (tgt := 197) (by decide) dX8_takes_172 (fun c => ?_) (fun c => ?_)
    · have h := h.1 c
      refine R_aload_n (pc := 197) 0 rfl rfl dX8_takes_197 ?_
      refine R_getI (pc := 198) lM_0 rfl flX8_114 dX8_takes_198 ?_
      refine R_putI (pc := 201) lM_0 rfl fpX8_114 dX8_takes_201 ?_
      refine R_aload_n (pc := 204) 0 rfl rfl dX8_takes_204 ?_
      refine R_dup (pc := 205) rfl dX8_takes_205 ?_
      refine R_getI (pc := 206) lM_0 rfl flX8_92 dX8_takes_206 ?_
      refine R_iconst (pc := 209) (by decide) dX8_takes_209 ?_
      obtain ⟨g, h⟩ := h
      refine R_iadd (pc := 210) g dX8_takes_210 ?_
      refine R_putI (pc := 211) lM_0 rfl fpX8_92 dX8_takes_211 ?_
      refine R_goto (pc := 214) (tgt := 140) (by decide) dX8_takes_214 ?_
      exact h
    · have h := h.2 c
      refine R_bipush (pc := 175) (by decide) dX8_takes_175 ?_
      refine R_aload_n (pc := 177) 0 rfl rfl dX8_takes_177 ?_
      refine R_getI (pc := 178) lM_0 rfl flX8_114 dX8_takes_178 ?_
      obtain ⟨g, h⟩ := h
      refine R_imul (pc := 181) g dX8_takes_181 ?_
      refine R_aload_n (pc := 182) 0 rfl rfl dX8_takes_182 ?_
      refine R_aload_n (pc := 183) 0 rfl rfl dX8_takes_183 ?_
      refine R_getI (pc := 184) lM_0 rfl flX8_92 dX8_takes_184 ?_
      refine R_callVI (pc := 187) (as := [vI (σ3 0 8)]) (st := [vI (10 * (σ3 0 11)), vP 0]) rfl rfl kX8_byteAt sX8_byteAt lM_0 rfl w_4_225 (ltb rfl) rfl (leb rfl) dX8_takes_187 h (fun r8 σ7 h => ?_)
      obtain ⟨g, h⟩ := h
      refine R_iadd (pc := 190) g dX8_takes_190 ?_
      refine R_bipush (pc := 191) (by decide) dX8_takes_191 ?_
      obtain ⟨g, h⟩ := h
      refine R_isub (pc := 193) g dX8_takes_193 ?_
      refine R_goto (pc := 194) (tgt := 201) (by decide) dX8_takes_194 ?_
      refine R_putI (pc := 201) lM_0 rfl fpX8_114 dX8_takes_201 ?_
      refine R_aload_n (pc := 204) 0 rfl rfl dX8_takes_204 ?_
      refine R_dup (pc := 205) rfl dX8_takes_205 ?_
      refine R_getI (pc := 206) lM_0 rfl flX8_92 dX8_takes_206 ?_
      refine R_iconst (pc := 209) (by decide) dX8_takes_209 ?_
      obtain ⟨g, h⟩ := h
      refine R_iadd (pc := 210) g dX8_takes_210 ?_
      refine R_putI (pc := 211) lM_0 rfl fpX8_92 dX8_takes_211 ?_
      refine R_goto (pc := 214) (tgt := 140) (by decide) dX8_takes_214 ?_
      exact h
theorem X8_takes_E {σ : Mem} {Q : Mem → Prop} (h : (((σ 0 12) ≤ 0 → LX8_takes_8 σ Q) ∧ (0 < (σ 0 12) → Q σ))) : CV layM MX8_takes [vP 0] σ Q := by
  refine Cl.ofR (ls := [(0, vP 0)]) (show plainName RX8 = true by decide +kernel) (leb rfl) rfl ?_
  refine R_aload_n (pc := 0) 0 rfl rfl dX8_takes_0 ?_
  refine R_getI (pc := 1) lM_0 rfl flX8_83 dX8_takes_1 ?_
  refine R_if_le (pc := 4) (tgt := 8) (by decide) dX8_takes_4 (fun c => ?_) (fun c => ?_)
  · have h := h.1 c
    exact h
  · have h := h.2 c
    exact R_vret (pc := 7) rfl dX8_takes_7 ⟨rfl, h⟩
theorem X8_alter_E {x1 x2 x3 : Int} {σ : Mem} {Q : Int → Mem → Prop} (h : CI layM MX8_isHeir [vP 0, vI x1] σ (fun r2 σ1 => ((r2 = 0 → Q (-1) σ1) ∧ (r2 ≠ 0 → CI layM MX8_isPart [vI x2] σ1 (fun r4 σ3 => ((r4 = 0 → Q (-1) σ3) ∧ (r4 ≠ 0 → ((x2 ≠ 0 → CI layM MX8_in [vJ x3, vJ 1, vJ 99] σ3 (fun r6 σ5 => ((r6 = 0 → Q (-1) σ5) ∧ (r6 ≠ 0 → I32 (2 * x1) ∧ I32 (3 + (2 * x1)) ∧ I32 ((3 + (2 * x1)) + x2) ∧ CI layM MX8_becomes [vP 0, vI ((3 + (2 * x1)) + x2), vI x3] σ5 (fun r8 σ7 => Q r8 σ7))))) ∧ (x2 = 0 → CI layM MX8_in [vJ x3, vJ 1, vJ 9] σ3 (fun r10 σ9 => ((r10 = 0 → Q (-1) σ9) ∧ (r10 ≠ 0 → I32 (2 * x1) ∧ I32 (3 + (2 * x1)) ∧ I32 ((3 + (2 * x1)) + x2) ∧ CI layM MX8_becomes [vP 0, vI ((3 + (2 * x1)) + x2), vI x3] σ9 (fun r12 σ11 => Q r12 σ11))))))))))))) : CI layM MX8_alter [vP 0, vI x1, vI x2, vI x3] σ Q := by
  refine Cl.ofR (ls := [(0, vP 0), (1, vI x1), (2, vI x2), (3, vI x3)]) (show plainName RX8 = true by decide +kernel) (leb rfl) rfl ?_
  refine R_aload_n (pc := 0) 0 rfl rfl dX8_alter_0 ?_
  refine R_iload_n (pc := 1) 1 rfl rfl dX8_alter_1 ?_
  refine R_callVI (pc := 2) (as := [vI x1]) (st := []) rfl rfl kX8_isHeir sX8_isHeir lM_0 rfl w_5_61 (ltb rfl) rfl (leb rfl) dX8_alter_2 h (fun r2 σ1 h => ?_)
  refine R_if_eq (pc := 5) (tgt := 52) (by decide) dX8_alter_5 (fun c => ?_) (fun c => ?_)
  · have h := h.1 c
    refine R_iconst (pc := 52) (by decide) dX8_alter_52 ?_
    exact R_iret (pc := 53) rfl dX8_alter_53 ⟨_, rfl, h⟩
  · have h := h.2 c
    refine R_iload_n (pc := 8) 2 rfl rfl dX8_alter_8 ?_
    refine R_callSI (pc := 9) (as := [vI x2]) (st := []) rfl rfl kX8_isPart sX8_isPart w_5_77 (ltb rfl) rfl (leb rfl) dX8_alter_9 h (fun r4 σ3 h => ?_)
    refine R_if_eq (pc := 12) (tgt := 52) (by decide) dX8_alter_12 (fun c => ?_) (fun c => ?_)
    · have h := h.1 c
      refine R_iconst (pc := 52) (by decide) dX8_alter_52 ?_
      exact R_iret (pc := 53) rfl dX8_alter_53 ⟨_, rfl, h⟩
    · have h := h.2 c
      refine R_iload_n (pc := 15) 3 rfl rfl dX8_alter_15 ?_
      refine R_i2l (pc := 16) dX8_alter_16 ?_
      refine R_lconst (pc := 17) (x := 1) rfl dX8_alter_17 ?_
      refine R_iload_n (pc := 18) 2 rfl rfl dX8_alter_18 ?_
      refine R_if_ne (pc := 19) (tgt := 28) (by decide) dX8_alter_19 (fun c => ?_) (fun c => ?_)
      · have h := h.1 c
        refine R_ldc2 (pc := 28) (x := 99) w_5_100 (by decide) dX8_alter_28 ?_
        refine R_callSI (pc := 31) (as := [vJ x3, vJ 1, vJ 99]) (st := []) rfl rfl kX8_in sX8_in w_4_210 (ltb rfl) rfl (leb rfl) dX8_alter_31 h (fun r6 σ5 h => ?_)
        refine R_if_eq (pc := 34) (tgt := 52) (by decide) dX8_alter_34 (fun c => ?_) (fun c => ?_)
        · have h := h.1 c
          refine R_iconst (pc := 52) (by decide) dX8_alter_52 ?_
          exact R_iret (pc := 53) rfl dX8_alter_53 ⟨_, rfl, h⟩
        · have h := h.2 c
          refine R_aload_n (pc := 37) 0 rfl rfl dX8_alter_37 ?_
          refine R_iconst (pc := 38) (by decide) dX8_alter_38 ?_
          refine R_iconst (pc := 39) (by decide) dX8_alter_39 ?_
          refine R_iload_n (pc := 40) 1 rfl rfl dX8_alter_40 ?_
          obtain ⟨g, h⟩ := h
          refine R_imul (pc := 41) g dX8_alter_41 ?_
          obtain ⟨g, h⟩ := h
          refine R_iadd (pc := 42) g dX8_alter_42 ?_
          refine R_iload_n (pc := 43) 2 rfl rfl dX8_alter_43 ?_
          obtain ⟨g, h⟩ := h
          refine R_iadd (pc := 44) g dX8_alter_44 ?_
          refine R_iload_n (pc := 45) 3 rfl rfl dX8_alter_45 ?_
          refine R_callVI (pc := 46) (as := [vI ((3 + (2 * x1)) + x2), vI x3]) (st := []) rfl rfl kX8_becomes sX8_becomes lM_0 rfl w_5_101 (ltb rfl) rfl (leb rfl) dX8_alter_46 h (fun r8 σ7 h => ?_)
          refine R_goto (pc := 49) (tgt := 53) (by decide) dX8_alter_49 ?_
          exact R_iret (pc := 53) rfl dX8_alter_53 ⟨_, rfl, h⟩
      · have h := h.2 c
        refine R_ldc2 (pc := 22) (x := 9) w_5_99 (by decide) dX8_alter_22 ?_
        refine R_goto (pc := 25) (tgt := 31) (by decide) dX8_alter_25 ?_
        refine R_callSI (pc := 31) (as := [vJ x3, vJ 1, vJ 9]) (st := []) rfl rfl kX8_in sX8_in w_4_210 (ltb rfl) rfl (leb rfl) dX8_alter_31 h (fun r10 σ9 h => ?_)
        refine R_if_eq (pc := 34) (tgt := 52) (by decide) dX8_alter_34 (fun c => ?_) (fun c => ?_)
        · have h := h.1 c
          refine R_iconst (pc := 52) (by decide) dX8_alter_52 ?_
          exact R_iret (pc := 53) rfl dX8_alter_53 ⟨_, rfl, h⟩
        · have h := h.2 c
          refine R_aload_n (pc := 37) 0 rfl rfl dX8_alter_37 ?_
          refine R_iconst (pc := 38) (by decide) dX8_alter_38 ?_
          refine R_iconst (pc := 39) (by decide) dX8_alter_39 ?_
          refine R_iload_n (pc := 40) 1 rfl rfl dX8_alter_40 ?_
          obtain ⟨g, h⟩ := h
          refine R_imul (pc := 41) g dX8_alter_41 ?_
          obtain ⟨g, h⟩ := h
          refine R_iadd (pc := 42) g dX8_alter_42 ?_
          refine R_iload_n (pc := 43) 2 rfl rfl dX8_alter_43 ?_
          obtain ⟨g, h⟩ := h
          refine R_iadd (pc := 44) g dX8_alter_44 ?_
          refine R_iload_n (pc := 45) 3 rfl rfl dX8_alter_45 ?_
          refine R_callVI (pc := 46) (as := [vI ((3 + (2 * x1)) + x2), vI x3]) (st := []) rfl rfl kX8_becomes sX8_becomes lM_0 rfl w_5_101 (ltb rfl) rfl (leb rfl) dX8_alter_46 h (fun r12 σ11 h => ?_)
          refine R_goto (pc := 49) (tgt := 53) (by decide) dX8_alter_49 ?_
          exact R_iret (pc := 53) rfl dX8_alter_53 ⟨_, rfl, h⟩
def LX8_best_21 (x1 : Int) (x2 : Int) (x3 : Int) (x4 : Int) (σ : Mem) (Q : Int → Mem → Prop) : Prop := Rn layM MX8_best 21 [(0, vP 0), (1, vI x1), (2, vI x2), (3, vI x3), (4, vI x4)] [] σ (qI Q)
def LX8_best_55 (x1 : Int) (x2 : Int) (x4 : Int) (s0 : Int) (σ : Mem) (Q : Int → Mem → Prop) : Prop := Rn layM MX8_best 55 [(0, vP 0), (1, vI x1), (2, vI x2), (4, vI x4)] [vI s0] σ (qI Q)
theorem X8_best_21 {x1 x2 x3 x4 : Int} {σ : Mem} {Q : Int → Mem → Prop} (h : ((4 ≤ x4 → Q x3 σ) ∧ (x4 < 4 → CV layM MX8_gives [vP 0, vI (σ 1 0), vI x4] σ (fun σ1 => 0 ≤ x1 ∧ x1 < 5 ∧ (((σ1 7 x1) ≤ x2 → LX8_best_55 x1 x2 x4 x3 σ1 Q) ∧ (x2 < (σ1 7 x1) → LX8_best_55 x1 x2 x4 x4 σ1 Q)))))) : LX8_best_21 x1 x2 x3 x4 σ Q := by
  unfold LX8_best_21
  refine R_iload (pc := 21) 4 rfl dX8_best_21 ?_
  refine R_iconst (pc := 23) (by decide) dX8_best_23 ?_
  refine R_icmp_ge (pc := 24) (tgt := 83) (by decide) dX8_best_24 (fun c => ?_) (fun c => ?_)
  · have h := h.1 c
    refine R_iload_n (pc := 83) 3 rfl rfl dX8_best_83 ?_
    exact R_iret (pc := 84) rfl dX8_best_84 ⟨_, rfl, h⟩
  · have h := h.2 c
    refine R_aload_n (pc := 27) 0 rfl rfl dX8_best_27 ?_
    refine R_aload_n (pc := 28) 0 rfl rfl dX8_best_28 ?_
    refine R_getP (pc := 29) (q' := 1) lM_0 rfl flX8_7 dX8_best_29 ?_
    refine R_iconst (pc := 32) (by decide) dX8_best_32 ?_
    have g0 : (0 : Int) ≤ 0 := by decide
    have g1 : (0 : Int) < 78 := by decide
    refine R_iaload (pc := 33) lM_1 g0 g1 dX8_best_33 ?_
    refine R_iload (pc := 34) 4 rfl dX8_best_34 ?_
    refine R_callV0 (pc := 36) (as := [vI (σ 1 0), vI x4]) (st := []) rfl rfl kX8_gives sX8_gives lM_0 rfl w_5_37 (ltb rfl) rfl (leb rfl) dX8_best_36 h (fun σ1 h => ?_)
    refine R_aload_n (pc := 39) 0 rfl rfl dX8_best_39 ?_
    refine R_getP (pc := 40) (q' := 7) lM_0 rfl flX8_30 dX8_best_40 ?_
    refine R_iload_n (pc := 43) 1 rfl rfl dX8_best_43 ?_
    obtain ⟨g0, g1, h⟩ := h
    refine R_iaload (pc := 44) lM_7 g0 g1 dX8_best_44 ?_
    refine R_iload_n (pc := 45) 2 rfl rfl dX8_best_45 ?_
    refine R_icmp_le (pc := 46) (tgt := 54) (by decide) dX8_best_46 (fun c => ?_) (fun c => ?_)
    · have h := h.1 c
      refine R_iload_n (pc := 54) 3 rfl rfl dX8_best_54 ?_
      refine R_sub [0, 1, 2, 4] rfl ?_
      exact h
    · have h := h.2 c
      refine R_iload (pc := 49) 4 rfl dX8_best_49 ?_
      refine R_goto (pc := 51) (tgt := 55) (by decide) dX8_best_51 ?_
      refine R_sub [0, 1, 2, 4] rfl ?_
      exact h
theorem X8_best_55 {x1 x2 x4 s0 : Int} {σ : Mem} {Q : Int → Mem → Prop} (h : 0 ≤ x1 ∧ x1 < 5 ∧ (((σ 7 x1) ≤ x2 → I32 (x4 + 1) ∧ LX8_best_21 x1 x2 s0 (x4 + 1) σ Q) ∧ (x2 < (σ 7 x1) → 0 ≤ x1 ∧ x1 < 5 ∧ I32 (x4 + 1) ∧ LX8_best_21 x1 (σ 7 x1) s0 (x4 + 1) σ Q))) : LX8_best_55 x1 x2 x4 s0 σ Q := by
  unfold LX8_best_55
  refine R_istore_n (pc := 55) (ls' := [(3, vI s0), (0, vP 0), (1, vI x1), (2, vI x2), (4, vI x4)]) rfl rfl (ltb rfl) dX8_best_55 ?_
  refine R_aload_n (pc := 56) 1 rfl rfl dX8_best_56 ?_
  refine R_getP (pc := 57) (q' := 7) lM_0 rfl flX8_30 dX8_best_57 ?_
  refine R_iload_n (pc := 60) 2 rfl rfl dX8_best_60 ?_
  obtain ⟨g0, g1, h⟩ := h
  refine R_iaload (pc := 61) lM_7 g0 g1 dX8_best_61 ?_
  refine R_iload_n (pc := 62) 3 rfl rfl dX8_best_62 ?_
  refine R_icmp_le (pc := 63) (tgt := 75) (by decide) dX8_best_63 (fun c => ?_) (fun c => ?_)
  · have h := h.1 c
    refine R_iload_n (pc := 75) 3 rfl rfl dX8_best_75 ?_
    refine R_istore_n (pc := 76) (ls' := [(2, vI x2), (3, vI s0), (0, vP 0), (1, vI x1), (4, vI x4)]) rfl rfl (ltb rfl) dX8_best_76 ?_
    obtain ⟨g, h⟩ := h
    refine R_iinc (pc := 77) 4 rfl rfl g (ls' := [(4, vI (x4 + 1)), (2, vI x2), (3, vI s0), (0, vP 0), (1, vI x1)]) rfl (ltb rfl) dX8_best_77 ?_
    refine R_goto (pc := 80) (tgt := 21) (by decide) dX8_best_80 ?_
    refine R_sub [3, 4, 1, 2, 0] rfl ?_
    exact h
  · have h := h.2 c
    refine R_aload_n (pc := 66) 1 rfl rfl dX8_best_66 ?_
    refine R_getP (pc := 67) (q' := 7) lM_0 rfl flX8_30 dX8_best_67 ?_
    refine R_iload_n (pc := 70) 2 rfl rfl dX8_best_70 ?_
    obtain ⟨g0, g1, h⟩ := h
    refine R_iaload (pc := 71) lM_7 g0 g1 dX8_best_71 ?_
    refine R_goto (pc := 72) (tgt := 76) (by decide) dX8_best_72 ?_
    refine R_istore_n (pc := 76) (ls' := [(2, vI (σ 7 x1)), (3, vI s0), (0, vP 0), (1, vI x1), (4, vI x4)]) rfl rfl (ltb rfl) dX8_best_76 ?_
    obtain ⟨g, h⟩ := h
    refine R_iinc (pc := 77) 4 rfl rfl g (ls' := [(4, vI (x4 + 1)), (2, vI (σ 7 x1)), (3, vI s0), (0, vP 0), (1, vI x1)]) rfl (ltb rfl) dX8_best_77 ?_
    refine R_goto (pc := 80) (tgt := 21) (by decide) dX8_best_80 ?_
    refine R_sub [3, 4, 1, 2, 0] rfl ?_
    exact h
theorem X8_best_E {x1 : Int} {σ : Mem} {Q : Int → Mem → Prop} (h : CI layM MX8_isHeir [vP 0, vI x1] σ (fun r2 σ1 => ((r2 ≠ 0 → CV layM MX8_starts [vP 0] σ1 (fun σ3 => LX8_best_21 x1 (-1) 0 0 σ3 Q)) ∧ (r2 = 0 → Q (-1) σ1)))) : CI layM MX8_best [vP 0, vI x1] σ Q := by
  refine Cl.ofR (ls := [(0, vP 0), (1, vI x1)]) (show plainName RX8 = true by decide +kernel) (leb rfl) rfl ?_
  refine R_aload_n (pc := 0) 0 rfl rfl dX8_best_0 ?_
  refine R_iload_n (pc := 1) 1 rfl rfl dX8_best_1 ?_
  refine R_callVI (pc := 2) (as := [vI x1]) (st := []) rfl rfl kX8_isHeir sX8_isHeir lM_0 rfl w_5_61 (ltb rfl) rfl (leb rfl) dX8_best_2 h (fun r2 σ1 h => ?_)
  refine R_if_ne (pc := 5) (tgt := 10) (by decide) dX8_best_5 (fun c => ?_) (fun c => ?_)
  · have h := h.1 c
    refine R_iconst (pc := 10) (by decide) dX8_best_10 ?_
    refine R_istore_n (pc := 11) (ls' := [(2, vI (-1)), (0, vP 0), (1, vI x1)]) rfl rfl (ltb rfl) dX8_best_11 ?_
    refine R_iconst (pc := 12) (by decide) dX8_best_12 ?_
    refine R_istore_n (pc := 13) (ls' := [(3, vI 0), (2, vI (-1)), (0, vP 0), (1, vI x1)]) rfl rfl (ltb rfl) dX8_best_13 ?_
    refine R_aload_n (pc := 14) 2 rfl rfl dX8_best_14 ?_
    refine R_callV0 (pc := 15) (as := []) (st := []) rfl rfl kX8_starts sX8_starts lM_0 rfl w_5_25 (ltb rfl) rfl (leb rfl) dX8_best_15 h (fun σ3 h => ?_)
    refine R_iconst (pc := 18) (by decide) dX8_best_18 ?_
    refine R_istore (pc := 19) (ls' := [(4, vI 0), (3, vI 0), (2, vI (-1)), (0, vP 0), (1, vI x1)]) rfl (ltb rfl) dX8_best_19 ?_
    refine R_sub [3, 4, 2, 1, 0] rfl ?_
    exact h
  · have h := h.2 c
    refine R_iconst (pc := 8) (by decide) dX8_best_8 ?_
    exact R_iret (pc := 9) rfl dX8_best_9 ⟨_, rfl, h⟩
theorem X8_by_E {x1 x2 : Int} {σ : Mem} {Q : Int → Mem → Prop} (h : CI layM MX8_isKind [vI x1] σ (fun r2 σ1 => ((r2 = 0 → Q (-1) σ1) ∧ (r2 ≠ 0 → CI layM MX8_isHeir [vP 0, vI x2] σ1 (fun r4 σ3 => ((r4 ≠ 0 → CV layM MX8_starts [vP 0] σ3 (fun σ5 => CV layM MX8_gives [vP 0, vI (σ5 1 0), vI x1] σ5 (fun σ6 => 0 ≤ x2 ∧ x2 < 5 ∧ Q (σ6 7 x2) σ6))) ∧ (r4 = 0 → Q (-1) σ3))))))) : CI layM MX8_by [vP 0, vI x1, vI x2] σ Q := by
  refine Cl.ofR (ls := [(0, vP 0), (1, vI x1), (2, vI x2)]) (show plainName RX8 = true by decide +kernel) (leb rfl) rfl ?_
  refine R_iload_n (pc := 0) 1 rfl rfl dX8_by_0 ?_
  refine R_callSI (pc := 1) (as := [vI x1]) (st := []) rfl rfl kX8_isKind sX8_isKind w_5_114 (ltb rfl) rfl (leb rfl) dX8_by_1 h (fun r2 σ1 h => ?_)
  refine R_if_eq (pc := 4) (tgt := 15) (by decide) dX8_by_4 (fun c => ?_) (fun c => ?_)
  · have h := h.1 c
    refine R_iconst (pc := 15) (by decide) dX8_by_15 ?_
    exact R_iret (pc := 16) rfl dX8_by_16 ⟨_, rfl, h⟩
  · have h := h.2 c
    refine R_aload_n (pc := 7) 0 rfl rfl dX8_by_7 ?_
    refine R_iload_n (pc := 8) 2 rfl rfl dX8_by_8 ?_
    refine R_callVI (pc := 9) (as := [vI x2]) (st := []) rfl rfl kX8_isHeir sX8_isHeir lM_0 rfl w_5_61 (ltb rfl) rfl (leb rfl) dX8_by_9 h (fun r4 σ3 h => ?_)
    refine R_if_ne (pc := 12) (tgt := 17) (by decide) dX8_by_12 (fun c => ?_) (fun c => ?_)
    · have h := h.1 c
      refine R_aload_n (pc := 17) 0 rfl rfl dX8_by_17 ?_
      refine R_callV0 (pc := 18) (as := []) (st := []) rfl rfl kX8_starts sX8_starts lM_0 rfl w_5_25 (ltb rfl) rfl (leb rfl) dX8_by_18 h (fun σ5 h => ?_)
      refine R_aload_n (pc := 21) 0 rfl rfl dX8_by_21 ?_
      refine R_aload_n (pc := 22) 0 rfl rfl dX8_by_22 ?_
      refine R_getP (pc := 23) (q' := 1) lM_0 rfl flX8_7 dX8_by_23 ?_
      refine R_iconst (pc := 26) (by decide) dX8_by_26 ?_
      have g0 : (0 : Int) ≤ 0 := by decide
      have g1 : (0 : Int) < 78 := by decide
      refine R_iaload (pc := 27) lM_1 g0 g1 dX8_by_27 ?_
      refine R_iload_n (pc := 28) 1 rfl rfl dX8_by_28 ?_
      refine R_callV0 (pc := 29) (as := [vI (σ5 1 0), vI x1]) (st := []) rfl rfl kX8_gives sX8_gives lM_0 rfl w_5_37 (ltb rfl) rfl (leb rfl) dX8_by_29 h (fun σ6 h => ?_)
      refine R_aload_n (pc := 32) 0 rfl rfl dX8_by_32 ?_
      refine R_getP (pc := 33) (q' := 7) lM_0 rfl flX8_30 dX8_by_33 ?_
      refine R_iload_n (pc := 36) 2 rfl rfl dX8_by_36 ?_
      obtain ⟨g0, g1, h⟩ := h
      refine R_iaload (pc := 37) lM_7 g0 g1 dX8_by_37 ?_
      exact R_iret (pc := 38) rfl dX8_by_38 ⟨_, rfl, h⟩
    · have h := h.2 c
      refine R_iconst (pc := 15) (by decide) dX8_by_15 ?_
      exact R_iret (pc := 16) rfl dX8_by_16 ⟨_, rfl, h⟩
def LX8_dies_21 (x2 : Int) (σ : Mem) (Q : Int → Mem → Prop) : Prop := Rn layM MX8_dies 21 [(0, vP 0), (2, vI x2)] [] σ (qI Q)
theorem X8_dies_21 {x2 : Int} {σ : Mem} {Q : Int → Mem → Prop} (h : ((26 ≤ x2 → Q (σ 1 1) σ) ∧ (x2 < 26 → 0 ≤ x2 ∧ x2 < 26 ∧ 0 ≤ x2 ∧ x2 < 78 ∧ I32 (x2 + 1) ∧ LX8_dies_21 (x2 + 1) (upM σ 1 x2 (σ 2 x2)) Q))) : LX8_dies_21 x2 σ Q := by
  unfold LX8_dies_21
  refine R_iload_n (pc := 21) 1 rfl rfl dX8_dies_21 ?_
  refine R_bipush (pc := 22) (by decide) dX8_dies_22 ?_
  refine R_icmp_ge (pc := 24) (tgt := 45) (by decide) dX8_dies_24 (fun c => ?_) (fun c => ?_)
  · have h := h.1 c
    refine R_aload_n (pc := 45) 0 rfl rfl dX8_dies_45 ?_
    refine R_getP (pc := 46) (q' := 1) lM_0 rfl flX8_7 dX8_dies_46 ?_
    refine R_iconst (pc := 49) (by decide) dX8_dies_49 ?_
    have g0 : (0 : Int) ≤ 1 := by decide
    have g1 : (1 : Int) < 78 := by decide
    refine R_iaload (pc := 50) lM_1 g0 g1 dX8_dies_50 ?_
    exact R_iret (pc := 51) rfl dX8_dies_51 ⟨_, rfl, h⟩
  · have h := h.2 c
    refine R_aload_n (pc := 27) 0 rfl rfl dX8_dies_27 ?_
    refine R_getP (pc := 28) (q' := 1) lM_0 rfl flX8_7 dX8_dies_28 ?_
    refine R_iload_n (pc := 31) 1 rfl rfl dX8_dies_31 ?_
    refine R_aload_n (pc := 32) 0 rfl rfl dX8_dies_32 ?_
    refine R_getP (pc := 33) (q' := 2) lM_0 rfl flX8_13 dX8_dies_33 ?_
    refine R_iload_n (pc := 36) 1 rfl rfl dX8_dies_36 ?_
    obtain ⟨g0, g1, h⟩ := h
    refine R_iaload (pc := 37) lM_2 g0 g1 dX8_dies_37 ?_
    obtain ⟨g0, g1, h⟩ := h
    refine R_iastore (pc := 38) lM_1 g0 g1 dX8_dies_38 ?_
    obtain ⟨g, h⟩ := h
    refine R_iinc (pc := 39) 1 rfl rfl g (ls' := [(2, vI (x2 + 1)), (0, vP 0)]) rfl (ltb rfl) dX8_dies_39 ?_
    refine R_goto (pc := 42) (tgt := 21) (by decide) dX8_dies_42 ?_
    refine R_sub [1, 0] rfl ?_
    exact h
theorem X8_dies_E {x1 : Int} {σ : Mem} {Q : Int → Mem → Prop} (h : CI layM MX8_isHeir [vP 0, vI x1] σ (fun r2 σ1 => ((r2 ≠ 0 → CV layM MX8_starts [vP 0] σ1 (fun σ3 => CV layM MX8_dropsNow [vP 0, vI x1] σ3 (fun σ4 => LX8_dies_21 0 σ4 Q))) ∧ (r2 = 0 → Q (-1) σ1)))) : CI layM MX8_dies [vP 0, vI x1] σ Q := by
  refine Cl.ofR (ls := [(0, vP 0), (1, vI x1)]) (show plainName RX8 = true by decide +kernel) (leb rfl) rfl ?_
  refine R_aload_n (pc := 0) 0 rfl rfl dX8_dies_0 ?_
  refine R_iload_n (pc := 1) 1 rfl rfl dX8_dies_1 ?_
  refine R_callVI (pc := 2) (as := [vI x1]) (st := []) rfl rfl kX8_isHeir sX8_isHeir lM_0 rfl w_5_61 (ltb rfl) rfl (leb rfl) dX8_dies_2 h (fun r2 σ1 h => ?_)
  refine R_if_ne (pc := 5) (tgt := 10) (by decide) dX8_dies_5 (fun c => ?_) (fun c => ?_)
  · have h := h.1 c
    refine R_aload_n (pc := 10) 0 rfl rfl dX8_dies_10 ?_
    refine R_callV0 (pc := 11) (as := []) (st := []) rfl rfl kX8_starts sX8_starts lM_0 rfl w_5_25 (ltb rfl) rfl (leb rfl) dX8_dies_11 h (fun σ3 h => ?_)
    refine R_aload_n (pc := 14) 0 rfl rfl dX8_dies_14 ?_
    refine R_iload_n (pc := 15) 1 rfl rfl dX8_dies_15 ?_
    refine R_callV0 (pc := 16) (as := [vI x1]) (st := []) rfl rfl kX8_dropsNow sX8_dropsNow lM_0 rfl w_5_125 (ltb rfl) rfl (leb rfl) dX8_dies_16 h (fun σ4 h => ?_)
    refine R_iconst (pc := 19) (by decide) dX8_dies_19 ?_
    refine R_istore_n (pc := 20) (ls' := [(2, vI 0), (0, vP 0), (1, vI x1)]) rfl rfl (ltb rfl) dX8_dies_20 ?_
    refine R_sub [1, 0] rfl ?_
    exact h
  · have h := h.2 c
    refine R_iconst (pc := 8) (by decide) dX8_dies_8 ?_
    exact R_iret (pc := 9) rfl dX8_dies_9 ⟨_, rfl, h⟩
def LX8_drift_49 (x2 : Int) (x3 : Int) (x4 : Int) (x5 : Int) (x6 : Int) (x7 : Int) (σ : Mem) (Q : Int → Mem → Prop) : Prop := Rn layM MX8_drift 49 [(0, vP 0), (2, vI x2), (3, vI x3), (4, vI x4), (5, vI x5), (6, vI x6), (7, vI x7)] [] σ (qI Q)
theorem X8_drift_49 {x2 x3 x4 x5 x6 x7 : Int} {σ : Mem} {Q : Int → Mem → Prop} (h : ((x2 ≤ x7 → ((x3 ≠ 0 → Q x6 σ) ∧ (x3 = 0 → Q x5 σ))) ∧ (x7 < x2 → CV layM MX8_gives [vP 0, vI (Int.tmod (bAnd (bShr (w32 ((w32 (x4 * 1103515245)) + 12345)) 16) 32767) 100), vI (σ 2 2)] σ (fun σ1 => CI layM MX8_firstOff [vP 0, vI (Int.tmod (bAnd (bShr (w32 ((w32 (x4 * 1103515245)) + 12345)) 16) 32767) 100)] σ1 (fun r3 σ2 => ((r3 = (-4) → CI layM MX8_flag [vI 0] σ2 (fun r5 σ4 => I32 (x7 + 1) ∧ LX8_drift_49 x2 x3 (w32 ((w32 (x4 * 1103515245)) + 12345)) (w32 (x5 + (σ1 7 0))) (w32 (x6 + r5)) (x7 + 1) σ4 Q)) ∧ (r3 ≠ (-4) → CI layM MX8_flag [vI 1] σ2 (fun r7 σ6 => I32 (x7 + 1) ∧ LX8_drift_49 x2 x3 (w32 ((w32 (x4 * 1103515245)) + 12345)) (w32 (x5 + (σ1 7 0))) (w32 (x6 + r7)) (x7 + 1) σ6 Q)))))))) : LX8_drift_49 x2 x3 x4 x5 x6 x7 σ Q := by
  unfold LX8_drift_49
  refine R_iload (pc := 49) 6 rfl dX8_drift_49 ?_
  refine R_iload_n (pc := 51) 1 rfl rfl dX8_drift_51 ?_
  refine R_icmp_ge (pc := 52) (tgt := 134) (by decide) dX8_drift_52 (fun c => ?_) (fun c => ?_)
  · have h := h.1 c
    refine R_iload_n (pc := 134) 2 rfl rfl dX8_drift_134 ?_
    refine R_if_ne (pc := 135) (tgt := 143) (by decide) dX8_drift_135 (fun c => ?_) (fun c => ?_)
    · have h := h.1 c
      refine R_iload (pc := 143) 5 rfl dX8_drift_143 ?_
      exact R_iret (pc := 145) rfl dX8_drift_145 ⟨_, rfl, h⟩
    · have h := h.2 c
      refine R_iload (pc := 138) 4 rfl dX8_drift_138 ?_
      refine R_goto (pc := 140) (tgt := 145) (by decide) dX8_drift_140 ?_
      exact R_iret (pc := 145) rfl dX8_drift_145 ⟨_, rfl, h⟩
  · have h := h.2 c
    refine R_iload (pc := 55) 3 rfl dX8_drift_55 ?_
    refine R_ldcw (pc := 57) (x := 1103515245) w_6_18 (by decide) dX8_drift_57 ?_
    refine R_imulW (pc := 60) dX8_drift_60 ?_
    refine R_sipush (pc := 61) (by decide) dX8_drift_61 ?_
    refine R_iaddW (pc := 64) dX8_drift_64 ?_
    refine R_istore (pc := 65) (ls' := [(4, vI (w32 ((w32 (x4 * 1103515245)) + 12345))), (0, vP 0), (2, vI x2), (3, vI x3), (5, vI x5), (6, vI x6), (7, vI x7)]) rfl (ltb rfl) dX8_drift_65 ?_
    refine R_iload (pc := 67) 0 rfl dX8_drift_67 ?_
    refine R_bipush (pc := 69) (by decide) dX8_drift_69 ?_
    refine R_ishr (pc := 71) dX8_drift_71 ?_
    refine R_sipush (pc := 72) (by decide) dX8_drift_72 ?_
    refine R_iand (pc := 75) dX8_drift_75 ?_
    refine R_bipush (pc := 76) (by decide) dX8_drift_76 ?_
    have g0 : (100 : Int) ≠ 0 := by decide
    refine R_irem (pc := 78) g0 dX8_drift_78 ?_
    refine R_istore (pc := 79) (ls' := [(8, vI (Int.tmod (bAnd (bShr (w32 ((w32 (x4 * 1103515245)) + 12345)) 16) 32767) 100)), (4, vI (w32 ((w32 (x4 * 1103515245)) + 12345))), (0, vP 0), (2, vI x2), (3, vI x3), (5, vI x5), (6, vI x6), (7, vI x7)]) rfl (ltb rfl) dX8_drift_79 ?_
    refine R_aload_n (pc := 81) 2 rfl rfl dX8_drift_81 ?_
    refine R_iload (pc := 82) 0 rfl dX8_drift_82 ?_
    refine R_aload_n (pc := 84) 2 rfl rfl dX8_drift_84 ?_
    refine R_getP (pc := 85) (q' := 2) lM_0 rfl flX8_13 dX8_drift_85 ?_
    refine R_iconst (pc := 88) (by decide) dX8_drift_88 ?_
    have g0 : (0 : Int) ≤ 2 := by decide
    have g1 : (2 : Int) < 26 := by decide
    refine R_iaload (pc := 89) lM_2 g0 g1 dX8_drift_89 ?_
    refine R_callV0 (pc := 90) (as := [vI (Int.tmod (bAnd (bShr (w32 ((w32 (x4 * 1103515245)) + 12345)) 16) 32767) 100), vI (σ 2 2)]) (st := []) rfl rfl kX8_gives sX8_gives lM_0 rfl w_5_37 (ltb rfl) rfl (leb rfl) dX8_drift_90 h (fun σ1 h => ?_)
    refine R_iload (pc := 93) 5 rfl dX8_drift_93 ?_
    refine R_aload_n (pc := 95) 2 rfl rfl dX8_drift_95 ?_
    refine R_getP (pc := 96) (q' := 7) lM_0 rfl flX8_30 dX8_drift_96 ?_
    refine R_iconst (pc := 99) (by decide) dX8_drift_99 ?_
    have g0 : (0 : Int) ≤ 0 := by decide
    have g1 : (0 : Int) < 5 := by decide
    refine R_iaload (pc := 100) lM_7 g0 g1 dX8_drift_100 ?_
    refine R_iaddW (pc := 101) dX8_drift_101 ?_
    refine R_istore (pc := 102) (ls' := [(5, vI (w32 (x5 + (σ1 7 0)))), (8, vI (Int.tmod (bAnd (bShr (w32 ((w32 (x4 * 1103515245)) + 12345)) 16) 32767) 100)), (4, vI (w32 ((w32 (x4 * 1103515245)) + 12345))), (0, vP 0), (2, vI x2), (3, vI x3), (6, vI x6), (7, vI x7)]) rfl (ltb rfl) dX8_drift_102 ?_
    refine R_iload (pc := 104) 6 rfl dX8_drift_104 ?_
    refine R_aload_n (pc := 106) 3 rfl rfl dX8_drift_106 ?_
    refine R_iload (pc := 107) 1 rfl dX8_drift_107 ?_
    refine R_callVI (pc := 109) (as := [vI (Int.tmod (bAnd (bShr (w32 ((w32 (x4 * 1103515245)) + 12345)) 16) 32767) 100)]) (st := [vI x6]) rfl rfl kX8_firstOff sX8_firstOff lM_0 rfl w_5_178 (ltb rfl) rfl (leb rfl) dX8_drift_109 h (fun r3 σ2 h => ?_)
    refine R_bipush (pc := 112) (by decide) dX8_drift_112 ?_
    refine R_icmp_eq (pc := 114) (tgt := 121) (by decide) dX8_drift_114 (fun c => ?_) (fun c => ?_)
    · have h := h.1 c
      refine R_iconst (pc := 121) (by decide) dX8_drift_121 ?_
      refine R_callSI (pc := 122) (as := [vI 0]) (st := [vI x6]) rfl rfl kX8_flag sX8_flag w_5_70 (ltb rfl) rfl (leb rfl) dX8_drift_122 h (fun r5 σ4 h => ?_)
      refine R_iaddW (pc := 125) dX8_drift_125 ?_
      refine R_istore (pc := 126) (ls' := [(6, vI (w32 (x6 + r5))), (5, vI (w32 (x5 + (σ1 7 0)))), (8, vI (Int.tmod (bAnd (bShr (w32 ((w32 (x4 * 1103515245)) + 12345)) 16) 32767) 100)), (4, vI (w32 ((w32 (x4 * 1103515245)) + 12345))), (0, vP 0), (2, vI x2), (3, vI x3), (7, vI x7)]) rfl (ltb rfl) dX8_drift_126 ?_
      obtain ⟨g, h⟩ := h
      refine R_iinc (pc := 128) 7 rfl rfl g (ls' := [(7, vI (x7 + 1)), (6, vI (w32 (x6 + r5))), (5, vI (w32 (x5 + (σ1 7 0)))), (8, vI (Int.tmod (bAnd (bShr (w32 ((w32 (x4 * 1103515245)) + 12345)) 16) 32767) 100)), (4, vI (w32 ((w32 (x4 * 1103515245)) + 12345))), (0, vP 0), (2, vI x2), (3, vI x3)]) rfl (ltb rfl) dX8_drift_128 ?_
      refine R_goto (pc := 131) (tgt := 49) (by decide) dX8_drift_131 ?_
      refine R_sub [5, 6, 7, 4, 2, 1, 0] rfl ?_
      exact h
    · have h := h.2 c
      refine R_iconst (pc := 117) (by decide) dX8_drift_117 ?_
      refine R_goto (pc := 118) (tgt := 122) (by decide) dX8_drift_118 ?_
      refine R_callSI (pc := 122) (as := [vI 1]) (st := [vI x6]) rfl rfl kX8_flag sX8_flag w_5_70 (ltb rfl) rfl (leb rfl) dX8_drift_122 h (fun r7 σ6 h => ?_)
      refine R_iaddW (pc := 125) dX8_drift_125 ?_
      refine R_istore (pc := 126) (ls' := [(6, vI (w32 (x6 + r7))), (5, vI (w32 (x5 + (σ1 7 0)))), (8, vI (Int.tmod (bAnd (bShr (w32 ((w32 (x4 * 1103515245)) + 12345)) 16) 32767) 100)), (4, vI (w32 ((w32 (x4 * 1103515245)) + 12345))), (0, vP 0), (2, vI x2), (3, vI x3), (7, vI x7)]) rfl (ltb rfl) dX8_drift_126 ?_
      obtain ⟨g, h⟩ := h
      refine R_iinc (pc := 128) 7 rfl rfl g (ls' := [(7, vI (x7 + 1)), (6, vI (w32 (x6 + r7))), (5, vI (w32 (x5 + (σ1 7 0)))), (8, vI (Int.tmod (bAnd (bShr (w32 ((w32 (x4 * 1103515245)) + 12345)) 16) 32767) 100)), (4, vI (w32 ((w32 (x4 * 1103515245)) + 12345))), (0, vP 0), (2, vI x2), (3, vI x3)]) rfl (ltb rfl) dX8_drift_128 ?_
      refine R_goto (pc := 131) (tgt := 49) (by decide) dX8_drift_131 ?_
      refine R_sub [5, 6, 7, 4, 2, 1, 0] rfl ?_
      exact h
theorem X8_drift_E {x1 x2 x3 : Int} {σ : Mem} {Q : Int → Mem → Prop} (h : CI layM MX8_in [vJ x2, vJ 1, vJ 60] σ (fun r2 σ1 => ((r2 = 0 → Q (-1) σ1) ∧ (r2 ≠ 0 → CI layM MX8_isPart [vI x3] σ1 (fun r4 σ3 => ((r4 ≠ 0 → (((σ3 1 1) ≠ 0 → CV layM MX8_starts [vP 0] σ3 (fun σ5 => LX8_drift_49 x2 x3 x1 0 0 0 σ5 Q)) ∧ ((σ3 1 1) = 0 → Q (-2) σ3))) ∧ (r4 = 0 → Q (-1) σ3))))))) : CI layM MX8_drift [vP 0, vI x1, vI x2, vI x3] σ Q := by
  refine Cl.ofR (ls := [(0, vP 0), (1, vI x1), (2, vI x2), (3, vI x3)]) (show plainName RX8 = true by decide +kernel) (leb rfl) rfl ?_
  refine R_iload_n (pc := 0) 2 rfl rfl dX8_drift_0 ?_
  refine R_i2l (pc := 1) dX8_drift_1 ?_
  refine R_lconst (pc := 2) (x := 1) rfl dX8_drift_2 ?_
  refine R_ldc2 (pc := 3) (x := 60) w_6_17 (by decide) dX8_drift_3 ?_
  refine R_callSI (pc := 6) (as := [vJ x2, vJ 1, vJ 60]) (st := []) rfl rfl kX8_in sX8_in w_4_210 (ltb rfl) rfl (leb rfl) dX8_drift_6 h (fun r2 σ1 h => ?_)
  refine R_if_eq (pc := 9) (tgt := 19) (by decide) dX8_drift_9 (fun c => ?_) (fun c => ?_)
  · have h := h.1 c
    refine R_iconst (pc := 19) (by decide) dX8_drift_19 ?_
    exact R_iret (pc := 20) rfl dX8_drift_20 ⟨_, rfl, h⟩
  · have h := h.2 c
    refine R_iload_n (pc := 12) 3 rfl rfl dX8_drift_12 ?_
    refine R_callSI (pc := 13) (as := [vI x3]) (st := []) rfl rfl kX8_isPart sX8_isPart w_5_77 (ltb rfl) rfl (leb rfl) dX8_drift_13 h (fun r4 σ3 h => ?_)
    refine R_if_ne (pc := 16) (tgt := 21) (by decide) dX8_drift_16 (fun c => ?_) (fun c => ?_)
    · have h := h.1 c
      refine R_aload_n (pc := 21) 0 rfl rfl dX8_drift_21 ?_
      refine R_getP (pc := 22) (q' := 1) lM_0 rfl flX8_7 dX8_drift_22 ?_
      refine R_iconst (pc := 25) (by decide) dX8_drift_25 ?_
      have g0 : (0 : Int) ≤ 1 := by decide
      have g1 : (1 : Int) < 78 := by decide
      refine R_iaload (pc := 26) lM_1 g0 g1 dX8_drift_26 ?_
      refine R_if_ne (pc := 27) (tgt := 33) (by decide) dX8_drift_27 (fun c => ?_) (fun c => ?_)
      · have h := h.1 c
        refine R_iload_n (pc := 33) 1 rfl rfl dX8_drift_33 ?_
        refine R_istore (pc := 34) (ls' := [(4, vI x1), (0, vP 0), (1, vI x1), (2, vI x2), (3, vI x3)]) rfl (ltb rfl) dX8_drift_34 ?_
        refine R_iconst (pc := 36) (by decide) dX8_drift_36 ?_
        refine R_istore (pc := 37) (ls' := [(5, vI 0), (4, vI x1), (0, vP 0), (1, vI x1), (2, vI x2), (3, vI x3)]) rfl (ltb rfl) dX8_drift_37 ?_
        refine R_iconst (pc := 39) (by decide) dX8_drift_39 ?_
        refine R_istore (pc := 40) (ls' := [(6, vI 0), (5, vI 0), (4, vI x1), (0, vP 0), (1, vI x1), (2, vI x2), (3, vI x3)]) rfl (ltb rfl) dX8_drift_40 ?_
        refine R_aload_n (pc := 42) 3 rfl rfl dX8_drift_42 ?_
        refine R_callV0 (pc := 43) (as := []) (st := []) rfl rfl kX8_starts sX8_starts lM_0 rfl w_5_25 (ltb rfl) rfl (leb rfl) dX8_drift_43 h (fun σ5 h => ?_)
        refine R_iconst (pc := 46) (by decide) dX8_drift_46 ?_
        refine R_istore (pc := 47) (ls' := [(7, vI 0), (6, vI 0), (5, vI 0), (4, vI x1), (0, vP 0), (1, vI x1), (2, vI x2), (3, vI x3)]) rfl (ltb rfl) dX8_drift_47 ?_
        refine R_sub [4, 6, 7, 3, 2, 1, 0] rfl ?_
        exact h
      · have h := h.2 c
        refine R_bipush (pc := 30) (by decide) dX8_drift_30 ?_
        exact R_iret (pc := 32) rfl dX8_drift_32 ⟨_, rfl, h⟩
    · have h := h.2 c
      refine R_iconst (pc := 19) (by decide) dX8_drift_19 ?_
      exact R_iret (pc := 20) rfl dX8_drift_20 ⟨_, rfl, h⟩
def LX8_findOdds_30 (x1 : Int) (x2 : Int) (x3 : Int) (x4 : Int) (x5 : Int) (σ : Mem) (Q : Mem → Prop) : Prop := Rn layM MX8_findOdds 30 [(0, vP 0), (1, vI x1), (2, vI x2), (3, vI x3), (4, vI x4), (5, vI x5)] [] σ (qV Q)
def LX8_findOdds_61 (x1 : Int) (x2 : Int) (x3 : Int) (x4 : Int) (x5 : Int) (x7 : Int) (σ : Mem) (Q : Mem → Prop) : Prop := Rn layM MX8_findOdds 61 [(0, vP 0), (1, vI x1), (2, vI x2), (3, vI x3), (4, vI x4), (5, vJ x5), (7, vI x7)] [] σ (qV Q)
def LX8_findOdds_75 (x1 : Int) (x2 : Int) (x3 : Int) (x4 : Int) (x5 : Int) (x7 : Int) (x8 : Int) (x10 : Int) (σ : Mem) (Q : Mem → Prop) : Prop := Rn layM MX8_findOdds 75 [(0, vP 0), (1, vI x1), (2, vI x2), (3, vI x3), (4, vI x4), (5, vJ x5), (7, vI x7), (8, vJ x8), (10, vI x10)] [] σ (qV Q)
theorem X8_findOdds_30 {x1 x2 x3 x4 x5 : Int} {σ : Mem} {Q : Mem → Prop} (h : ((x4 ≤ x5 → LX8_findOdds_61 x1 x2 x3 x4 1 0 σ Q) ∧ (x5 < x4 → I64 ((σ 0 26) * 10) ∧ I32 (x5 + 1) ∧ LX8_findOdds_30 x1 x2 x3 x4 (x5 + 1) (upM σ 0 26 ((σ 0 26) * 10)) Q))) : LX8_findOdds_30 x1 x2 x3 x4 x5 σ Q := by
  unfold LX8_findOdds_30
  refine R_iload (pc := 30) 5 rfl dX8_findOdds_30 ?_
  refine R_iload (pc := 32) 4 rfl dX8_findOdds_32 ?_
  refine R_icmp_ge (pc := 34) (tgt := 55) (by decide) dX8_findOdds_34 (fun c => ?_) (fun c => ?_)
  · have h := h.1 c
    refine R_lconst (pc := 55) (x := 1) rfl dX8_findOdds_55 ?_
    refine R_lstore (pc := 56) (ls' := [(5, vJ 1), (0, vP 0), (1, vI x1), (2, vI x2), (3, vI x3), (4, vI x4)]) rfl (ltb rfl) dX8_findOdds_56 ?_
    refine R_iconst (pc := 58) (by decide) dX8_findOdds_58 ?_
    refine R_istore (pc := 59) (ls' := [(7, vI 0), (5, vJ 1), (0, vP 0), (1, vI x1), (2, vI x2), (3, vI x3), (4, vI x4)]) rfl (ltb rfl) dX8_findOdds_59 ?_
    refine R_sub [2, 3, 4, 5, 6, 1, 0] rfl ?_
    exact h
  · have h := h.2 c
    refine R_aload_n (pc := 37) 0 rfl rfl dX8_findOdds_37 ?_
    refine R_dup (pc := 38) rfl dX8_findOdds_38 ?_
    refine R_getJ (pc := 39) lM_0 rfl flX8_245 dX8_findOdds_39 ?_
    refine R_ldc2 (pc := 42) (x := 10) w_5_202 (by decide) dX8_findOdds_42 ?_
    obtain ⟨g, h⟩ := h
    refine R_lmul (pc := 45) g dX8_findOdds_45 ?_
    refine R_putJ (pc := 46) lM_0 rfl fpX8_245 dX8_findOdds_46 ?_
    obtain ⟨g, h⟩ := h
    refine R_iinc (pc := 49) 5 rfl rfl g (ls' := [(5, vI (x5 + 1)), (0, vP 0), (1, vI x1), (2, vI x2), (3, vI x3), (4, vI x4)]) rfl (ltb rfl) dX8_findOdds_49 ?_
    refine R_goto (pc := 52) (tgt := 30) (by decide) dX8_findOdds_52 ?_
    refine R_sub [1, 2, 3, 4, 5, 0] rfl ?_
    exact h
theorem X8_findOdds_61 {x1 x2 x3 x4 x5 x7 : Int} {σ : Mem} {Q : Mem → Prop} (h : ((x4 < x7 → Q σ) ∧ (x7 ≤ x4 → LX8_findOdds_75 x1 x2 x3 x4 x5 x7 x5 0 σ Q))) : LX8_findOdds_61 x1 x2 x3 x4 x5 x7 σ Q := by
  unfold LX8_findOdds_61
  refine R_iload (pc := 61) 6 rfl dX8_findOdds_61 ?_
  refine R_iload (pc := 63) 4 rfl dX8_findOdds_63 ?_
  refine R_icmp_gt (pc := 65) (tgt := 192) (by decide) dX8_findOdds_65 (fun c => ?_) (fun c => ?_)
  · have h := h.1 c
    exact R_vret (pc := 192) rfl dX8_findOdds_192 ⟨rfl, h⟩
  · have h := h.2 c
    refine R_lload (pc := 68) 5 rfl dX8_findOdds_68 ?_
    refine R_lstore (pc := 70) (ls' := [(8, vJ x5), (0, vP 0), (1, vI x1), (2, vI x2), (3, vI x3), (4, vI x4), (5, vJ x5), (7, vI x7)]) rfl (ltb rfl) dX8_findOdds_70 ?_
    refine R_iconst (pc := 72) (by decide) dX8_findOdds_72 ?_
    refine R_istore (pc := 73) (ls' := [(10, vI 0), (8, vJ x5), (0, vP 0), (1, vI x1), (2, vI x2), (3, vI x3), (4, vI x4), (5, vJ x5), (7, vI x7)]) rfl (ltb rfl) dX8_findOdds_73 ?_
    refine R_sub [2, 3, 4, 5, 6, 7, 8, 1, 0] rfl ?_
    exact h
theorem X8_findOdds_75 {x1 x2 x3 x4 x5 x7 x8 x10 : Int} {σ : Mem} {Q : Mem → Prop} (h : ((x4 ≤ x10 → I32 (x4 - x7) ∧ CV layM MX8_gives [vP 0, vI (x4 - x7), vI (σ 2 2)] σ (fun σ1 => 0 ≤ x2 ∧ x2 < 5 ∧ I64 (x8 * (σ1 7 x2)) ∧ I64 ((σ1 0 24) + (x8 * (σ1 7 x2))) ∧ 0 ≤ x2 ∧ x2 < 5 ∧ ((((upM σ1 0 24 ((σ1 0 24) + (x8 * (σ1 7 x2)))) 7 x2) < x3 → I64 (((upM σ1 0 24 ((σ1 0 24) + (x8 * (σ1 7 x2)))) 0 25) + 0) ∧ I32 (x4 - x7) ∧ I64 (x5 * (x4 - x7)) ∧ I32 (x7 + 1) ∧ (x7 + 1) ≠ 0 ∧ I64 (Int.tdiv (x5 * (x4 - x7)) (x7 + 1)) ∧ I32 (x7 + 1) ∧ LX8_findOdds_61 x1 x2 x3 x4 (Int.tdiv (x5 * (x4 - x7)) (x7 + 1)) (x7 + 1) (upM (upM σ1 0 24 ((σ1 0 24) + (x8 * (σ1 7 x2)))) 0 25 (((upM σ1 0 24 ((σ1 0 24) + (x8 * (σ1 7 x2)))) 0 25) + 0)) Q) ∧ (x3 ≤ ((upM σ1 0 24 ((σ1 0 24) + (x8 * (σ1 7 x2)))) 7 x2) → I64 (((upM σ1 0 24 ((σ1 0 24) + (x8 * (σ1 7 x2)))) 0 25) + x8) ∧ I32 (x4 - x7) ∧ I64 (x5 * (x4 - x7)) ∧ I32 (x7 + 1) ∧ (x7 + 1) ≠ 0 ∧ I64 (Int.tdiv (x5 * (x4 - x7)) (x7 + 1)) ∧ I32 (x7 + 1) ∧ LX8_findOdds_61 x1 x2 x3 x4 (Int.tdiv (x5 * (x4 - x7)) (x7 + 1)) (x7 + 1) (upM (upM σ1 0 24 ((σ1 0 24) + (x8 * (σ1 7 x2)))) 0 25 (((upM σ1 0 24 ((σ1 0 24) + (x8 * (σ1 7 x2)))) 0 25) + x8)) Q)))) ∧ (x10 < x4 → ((x7 ≤ x10 → I32 (10 - x1) ∧ I64 (x8 * (10 - x1)) ∧ I32 (x10 + 1) ∧ LX8_findOdds_75 x1 x2 x3 x4 x5 x7 (x8 * (10 - x1)) (x10 + 1) σ Q) ∧ (x10 < x7 → I64 (x8 * x1) ∧ I32 (x10 + 1) ∧ LX8_findOdds_75 x1 x2 x3 x4 x5 x7 (x8 * x1) (x10 + 1) σ Q))))) : LX8_findOdds_75 x1 x2 x3 x4 x5 x7 x8 x10 σ Q := by
  unfold LX8_findOdds_75
  refine R_iload (pc := 75) 8 rfl dX8_findOdds_75 ?_
  refine R_iload (pc := 77) 4 rfl dX8_findOdds_77 ?_
  refine R_icmp_ge (pc := 79) (tgt := 110) (by decide) dX8_findOdds_79 (fun c => ?_) (fun c => ?_)
  · have h := h.1 c
    refine R_aload_n (pc := 110) 0 rfl rfl dX8_findOdds_110 ?_
    refine R_iload (pc := 111) 4 rfl dX8_findOdds_111 ?_
    refine R_iload (pc := 113) 6 rfl dX8_findOdds_113 ?_
    obtain ⟨g, h⟩ := h
    refine R_isub (pc := 115) g dX8_findOdds_115 ?_
    refine R_aload_n (pc := 116) 0 rfl rfl dX8_findOdds_116 ?_
    refine R_getP (pc := 117) (q' := 2) lM_0 rfl flX8_13 dX8_findOdds_117 ?_
    refine R_iconst (pc := 120) (by decide) dX8_findOdds_120 ?_
    have g0 : (0 : Int) ≤ 2 := by decide
    have g1 : (2 : Int) < 26 := by decide
    refine R_iaload (pc := 121) lM_2 g0 g1 dX8_findOdds_121 ?_
    refine R_callV0 (pc := 122) (as := [vI (x4 - x7), vI (σ 2 2)]) (st := []) rfl rfl kX8_gives sX8_gives lM_0 rfl w_5_37 (ltb rfl) rfl (leb rfl) dX8_findOdds_122 h (fun σ1 h => ?_)
    refine R_aload_n (pc := 125) 0 rfl rfl dX8_findOdds_125 ?_
    refine R_dup (pc := 126) rfl dX8_findOdds_126 ?_
    refine R_getJ (pc := 127) lM_0 rfl flX8_239 dX8_findOdds_127 ?_
    refine R_lload (pc := 130) 7 rfl dX8_findOdds_130 ?_
    refine R_aload_n (pc := 132) 0 rfl rfl dX8_findOdds_132 ?_
    refine R_getP (pc := 133) (q' := 7) lM_0 rfl flX8_30 dX8_findOdds_133 ?_
    refine R_iload_n (pc := 136) 2 rfl rfl dX8_findOdds_136 ?_
    obtain ⟨g0, g1, h⟩ := h
    refine R_iaload (pc := 137) lM_7 g0 g1 dX8_findOdds_137 ?_
    refine R_i2l (pc := 138) dX8_findOdds_138 ?_
    obtain ⟨g, h⟩ := h
    refine R_lmul (pc := 139) g dX8_findOdds_139 ?_
    obtain ⟨g, h⟩ := h
    refine R_ladd (pc := 140) g dX8_findOdds_140 ?_
    refine R_putJ (pc := 141) lM_0 rfl fpX8_239 dX8_findOdds_141 ?_
    refine R_aload_n (pc := 144) 0 rfl rfl dX8_findOdds_144 ?_
    refine R_dup (pc := 145) rfl dX8_findOdds_145 ?_
    refine R_getJ (pc := 146) lM_0 rfl flX8_242 dX8_findOdds_146 ?_
    refine R_aload_n (pc := 149) 0 rfl rfl dX8_findOdds_149 ?_
    refine R_getP (pc := 150) (q' := 7) lM_0 rfl flX8_30 dX8_findOdds_150 ?_
    refine R_iload_n (pc := 153) 2 rfl rfl dX8_findOdds_153 ?_
    obtain ⟨g0, g1, h⟩ := h
    refine R_iaload (pc := 154) lM_7 g0 g1 dX8_findOdds_154 ?_
    refine R_iload_n (pc := 155) 3 rfl rfl dX8_findOdds_155 ?_
    refine R_icmp_lt (pc := 156) (tgt := 164) (by decide) dX8_findOdds_156 (fun c => ?_) (fun c => ?_)
    · have h := h.1 c
      refine R_lconst (pc := 164) (x := 0) rfl dX8_findOdds_164 ?_
      obtain ⟨g, h⟩ := h
      refine R_ladd (pc := 165) g dX8_findOdds_165 ?_
      refine R_putJ (pc := 166) lM_0 rfl fpX8_242 dX8_findOdds_166 ?_
      refine R_lload (pc := 169) 5 rfl dX8_findOdds_169 ?_
      refine R_iload (pc := 171) 4 rfl dX8_findOdds_171 ?_
      refine R_iload (pc := 173) 6 rfl dX8_findOdds_173 ?_
      obtain ⟨g, h⟩ := h
      refine R_isub (pc := 175) g dX8_findOdds_175 ?_
      refine R_i2l (pc := 176) dX8_findOdds_176 ?_
      obtain ⟨g, h⟩ := h
      refine R_lmul (pc := 177) g dX8_findOdds_177 ?_
      refine R_iload (pc := 178) 6 rfl dX8_findOdds_178 ?_
      refine R_iconst (pc := 180) (by decide) dX8_findOdds_180 ?_
      obtain ⟨g, h⟩ := h
      refine R_iadd (pc := 181) g dX8_findOdds_181 ?_
      refine R_i2l (pc := 182) dX8_findOdds_182 ?_
      obtain ⟨g0, h⟩ := h
      obtain ⟨g, h⟩ := h
      refine R_ldiv (pc := 183) g0 g dX8_findOdds_183 ?_
      refine R_lstore (pc := 184) (ls' := [(5, vJ (Int.tdiv (x5 * (x4 - x7)) (x7 + 1))), (0, vP 0), (1, vI x1), (2, vI x2), (3, vI x3), (4, vI x4), (7, vI x7), (8, vJ x8), (10, vI x10)]) rfl (ltb rfl) dX8_findOdds_184 ?_
      obtain ⟨g, h⟩ := h
      refine R_iinc (pc := 186) 6 rfl rfl g (ls' := [(7, vI (x7 + 1)), (5, vJ (Int.tdiv (x5 * (x4 - x7)) (x7 + 1))), (0, vP 0), (1, vI x1), (2, vI x2), (3, vI x3), (4, vI x4), (8, vJ x8), (10, vI x10)]) rfl (ltb rfl) dX8_findOdds_186 ?_
      refine R_goto (pc := 189) (tgt := 61) (by decide) dX8_findOdds_189 ?_
      refine R_sub [2, 3, 4, 5, 6, 1, 0] rfl ?_
      exact h
    · have h := h.2 c
      refine R_lload (pc := 159) 7 rfl dX8_findOdds_159 ?_
      refine R_goto (pc := 161) (tgt := 165) (by decide) dX8_findOdds_161 ?_
      obtain ⟨g, h⟩ := h
      refine R_ladd (pc := 165) g dX8_findOdds_165 ?_
      refine R_putJ (pc := 166) lM_0 rfl fpX8_242 dX8_findOdds_166 ?_
      refine R_lload (pc := 169) 5 rfl dX8_findOdds_169 ?_
      refine R_iload (pc := 171) 4 rfl dX8_findOdds_171 ?_
      refine R_iload (pc := 173) 6 rfl dX8_findOdds_173 ?_
      obtain ⟨g, h⟩ := h
      refine R_isub (pc := 175) g dX8_findOdds_175 ?_
      refine R_i2l (pc := 176) dX8_findOdds_176 ?_
      obtain ⟨g, h⟩ := h
      refine R_lmul (pc := 177) g dX8_findOdds_177 ?_
      refine R_iload (pc := 178) 6 rfl dX8_findOdds_178 ?_
      refine R_iconst (pc := 180) (by decide) dX8_findOdds_180 ?_
      obtain ⟨g, h⟩ := h
      refine R_iadd (pc := 181) g dX8_findOdds_181 ?_
      refine R_i2l (pc := 182) dX8_findOdds_182 ?_
      obtain ⟨g0, h⟩ := h
      obtain ⟨g, h⟩ := h
      refine R_ldiv (pc := 183) g0 g dX8_findOdds_183 ?_
      refine R_lstore (pc := 184) (ls' := [(5, vJ (Int.tdiv (x5 * (x4 - x7)) (x7 + 1))), (0, vP 0), (1, vI x1), (2, vI x2), (3, vI x3), (4, vI x4), (7, vI x7), (8, vJ x8), (10, vI x10)]) rfl (ltb rfl) dX8_findOdds_184 ?_
      obtain ⟨g, h⟩ := h
      refine R_iinc (pc := 186) 6 rfl rfl g (ls' := [(7, vI (x7 + 1)), (5, vJ (Int.tdiv (x5 * (x4 - x7)) (x7 + 1))), (0, vP 0), (1, vI x1), (2, vI x2), (3, vI x3), (4, vI x4), (8, vJ x8), (10, vI x10)]) rfl (ltb rfl) dX8_findOdds_186 ?_
      refine R_goto (pc := 189) (tgt := 61) (by decide) dX8_findOdds_189 ?_
      refine R_sub [2, 3, 4, 5, 6, 1, 0] rfl ?_
      exact h
  · have h := h.2 c
    refine R_lload (pc := 82) 7 rfl dX8_findOdds_82 ?_
    refine R_iload (pc := 84) 8 rfl dX8_findOdds_84 ?_
    refine R_iload (pc := 86) 6 rfl dX8_findOdds_86 ?_
    refine R_icmp_ge (pc := 88) (tgt := 96) (by decide) dX8_findOdds_88 (fun c => ?_) (fun c => ?_)
    · have h := h.1 c
      refine R_bipush (pc := 96) (by decide) dX8_findOdds_96 ?_
      refine R_iload_n (pc := 98) 1 rfl rfl dX8_findOdds_98 ?_
      obtain ⟨g, h⟩ := h
      refine R_isub (pc := 99) g dX8_findOdds_99 ?_
      refine R_i2l (pc := 100) dX8_findOdds_100 ?_
      obtain ⟨g, h⟩ := h
      refine R_lmul (pc := 101) g dX8_findOdds_101 ?_
      refine R_lstore (pc := 102) (ls' := [(8, vJ (x8 * (10 - x1))), (0, vP 0), (1, vI x1), (2, vI x2), (3, vI x3), (4, vI x4), (5, vJ x5), (7, vI x7), (10, vI x10)]) rfl (ltb rfl) dX8_findOdds_102 ?_
      obtain ⟨g, h⟩ := h
      refine R_iinc (pc := 104) 8 rfl rfl g (ls' := [(10, vI (x10 + 1)), (8, vJ (x8 * (10 - x1))), (0, vP 0), (1, vI x1), (2, vI x2), (3, vI x3), (4, vI x4), (5, vJ x5), (7, vI x7)]) rfl (ltb rfl) dX8_findOdds_104 ?_
      refine R_goto (pc := 107) (tgt := 75) (by decide) dX8_findOdds_107 ?_
      refine R_sub [2, 3, 4, 5, 6, 7, 8, 1, 0] rfl ?_
      exact h
    · have h := h.2 c
      refine R_iload_n (pc := 91) 1 rfl rfl dX8_findOdds_91 ?_
      refine R_i2l (pc := 92) dX8_findOdds_92 ?_
      refine R_goto (pc := 93) (tgt := 101) (by decide) dX8_findOdds_93 ?_
      obtain ⟨g, h⟩ := h
      refine R_lmul (pc := 101) g dX8_findOdds_101 ?_
      refine R_lstore (pc := 102) (ls' := [(8, vJ (x8 * x1)), (0, vP 0), (1, vI x1), (2, vI x2), (3, vI x3), (4, vI x4), (5, vJ x5), (7, vI x7), (10, vI x10)]) rfl (ltb rfl) dX8_findOdds_102 ?_
      obtain ⟨g, h⟩ := h
      refine R_iinc (pc := 104) 8 rfl rfl g (ls' := [(10, vI (x10 + 1)), (8, vJ (x8 * x1)), (0, vP 0), (1, vI x1), (2, vI x2), (3, vI x3), (4, vI x4), (5, vJ x5), (7, vI x7)]) rfl (ltb rfl) dX8_findOdds_104 ?_
      refine R_goto (pc := 107) (tgt := 75) (by decide) dX8_findOdds_107 ?_
      refine R_sub [2, 3, 4, 5, 6, 7, 8, 1, 0] rfl ?_
      exact h
theorem X8_findOdds_E {x1 x2 x3 : Int} {σ : Mem} {Q : Mem → Prop} (h : CV layM MX8_starts [vP 0] (upM (upM (upM σ 0 24 0) 0 25 0) 0 26 1) (fun σ1 => LX8_findOdds_30 x1 x2 x3 (σ 1 0) 0 σ1 Q)) : CV layM MX8_findOdds [vP 0, vI x1, vI x2, vI x3] σ Q := by
  refine Cl.ofR (ls := [(0, vP 0), (1, vI x1), (2, vI x2), (3, vI x3)]) (show plainName RX8 = true by decide +kernel) (leb rfl) rfl ?_
  refine R_aload_n (pc := 0) 0 rfl rfl dX8_findOdds_0 ?_
  refine R_getP (pc := 1) (q' := 1) lM_0 rfl flX8_7 dX8_findOdds_1 ?_
  refine R_iconst (pc := 4) (by decide) dX8_findOdds_4 ?_
  have g0 : (0 : Int) ≤ 0 := by decide
  have g1 : (0 : Int) < 78 := by decide
  refine R_iaload (pc := 5) lM_1 g0 g1 dX8_findOdds_5 ?_
  refine R_istore (pc := 6) (ls' := [(4, vI (σ 1 0)), (0, vP 0), (1, vI x1), (2, vI x2), (3, vI x3)]) rfl (ltb rfl) dX8_findOdds_6 ?_
  refine R_aload_n (pc := 8) 1 rfl rfl dX8_findOdds_8 ?_
  refine R_lconst (pc := 9) (x := 0) rfl dX8_findOdds_9 ?_
  refine R_putJ (pc := 10) lM_0 rfl fpX8_239 dX8_findOdds_10 ?_
  refine R_aload_n (pc := 13) 1 rfl rfl dX8_findOdds_13 ?_
  refine R_lconst (pc := 14) (x := 0) rfl dX8_findOdds_14 ?_
  refine R_putJ (pc := 15) lM_0 rfl fpX8_242 dX8_findOdds_15 ?_
  refine R_aload_n (pc := 18) 1 rfl rfl dX8_findOdds_18 ?_
  refine R_lconst (pc := 19) (x := 1) rfl dX8_findOdds_19 ?_
  refine R_putJ (pc := 20) lM_0 rfl fpX8_245 dX8_findOdds_20 ?_
  refine R_aload_n (pc := 23) 1 rfl rfl dX8_findOdds_23 ?_
  refine R_callV0 (pc := 24) (as := []) (st := []) rfl rfl kX8_starts sX8_starts lM_0 rfl w_5_25 (ltb rfl) rfl (leb rfl) dX8_findOdds_24 h (fun σ1 h => ?_)
  refine R_iconst (pc := 27) (by decide) dX8_findOdds_27 ?_
  refine R_istore (pc := 28) (ls' := [(5, vI 0), (4, vI (σ 1 0)), (0, vP 0), (1, vI x1), (2, vI x2), (3, vI x3)]) rfl (ltb rfl) dX8_findOdds_28 ?_
  refine R_sub [2, 3, 4, 5, 1, 0] rfl ?_
  exact h
theorem X8_givesNow_E {σ : Mem} {Q : Mem → Prop} (h : CV layM MX8_gives [vP 0, vI (σ 2 0), vI (σ 2 2)] σ (fun σ1 => Q σ1)) : CV layM MX8_givesNow [vP 0] σ Q := by
  refine Cl.ofR (ls := [(0, vP 0)]) (show plainName RX8 = true by decide +kernel) (leb rfl) rfl ?_
  refine R_aload_n (pc := 0) 0 rfl rfl dX8_givesNow_0 ?_
  refine R_aload_n (pc := 1) 0 rfl rfl dX8_givesNow_1 ?_
  refine R_getP (pc := 2) (q' := 2) lM_0 rfl flX8_13 dX8_givesNow_2 ?_
  refine R_iconst (pc := 5) (by decide) dX8_givesNow_5 ?_
  have g0 : (0 : Int) ≤ 0 := by decide
  have g1 : (0 : Int) < 26 := by decide
  refine R_iaload (pc := 6) lM_2 g0 g1 dX8_givesNow_6 ?_
  refine R_aload_n (pc := 7) 0 rfl rfl dX8_givesNow_7 ?_
  refine R_getP (pc := 8) (q' := 2) lM_0 rfl flX8_13 dX8_givesNow_8 ?_
  refine R_iconst (pc := 11) (by decide) dX8_givesNow_11 ?_
  have g0 : (0 : Int) ≤ 2 := by decide
  have g1 : (2 : Int) < 26 := by decide
  refine R_iaload (pc := 12) lM_2 g0 g1 dX8_givesNow_12 ?_
  refine R_callV0 (pc := 13) (as := [vI (σ 2 0), vI (σ 2 2)]) (st := []) rfl rfl kX8_gives sX8_gives lM_0 rfl w_5_37 (ltb rfl) rfl (leb rfl) dX8_givesNow_13 h (fun σ1 h => ?_)
  exact R_vret (pc := 16) rfl dX8_givesNow_16 ⟨rfl, h⟩
theorem X8_isHerdSo_E {x1 : Int} {σ : Mem} {Q : Int → Mem → Prop} (h : CV layM MX8_gives [vP 0, vI x1, vI (σ 2 2)] σ (fun σ1 => CI layM MX8_isSo [vP 0] σ1 (fun r3 σ2 => (r3 = 0 ∨ r3 = 1) ∧ Q r3 σ2))) : CI layM MX8_isHerdSo [vP 0, vI x1] σ Q := by
  refine Cl.ofR (ls := [(0, vP 0), (1, vI x1)]) (show plainName RX8 = true by decide +kernel) (leb rfl) rfl ?_
  refine R_aload_n (pc := 0) 0 rfl rfl dX8_isHerdSo_0 ?_
  refine R_iload_n (pc := 1) 1 rfl rfl dX8_isHerdSo_1 ?_
  refine R_aload_n (pc := 2) 0 rfl rfl dX8_isHerdSo_2 ?_
  refine R_getP (pc := 3) (q' := 2) lM_0 rfl flX8_13 dX8_isHerdSo_3 ?_
  refine R_iconst (pc := 6) (by decide) dX8_isHerdSo_6 ?_
  have g0 : (0 : Int) ≤ 2 := by decide
  have g1 : (2 : Int) < 26 := by decide
  refine R_iaload (pc := 7) lM_2 g0 g1 dX8_isHerdSo_7 ?_
  refine R_callV0 (pc := 8) (as := [vI x1, vI (σ 2 2)]) (st := []) rfl rfl kX8_gives sX8_gives lM_0 rfl w_5_37 (ltb rfl) rfl (leb rfl) dX8_isHerdSo_8 h (fun σ1 h => ?_)
  refine R_aload_n (pc := 11) 0 rfl rfl dX8_isHerdSo_11 ?_
  refine R_callVI (pc := 12) (as := []) (st := []) rfl rfl kX8_isSo sX8_isSo lM_0 rfl w_5_224 (ltb rfl) rfl (leb rfl) dX8_isHerdSo_12 h (fun r3 σ2 h => ?_)
  obtain ⟨g, h⟩ := h
  exact R_zret (pc := 15) rfl g dX8_isHerdSo_15 ⟨_, rfl, h⟩
theorem X8_judge_E {x1 : Int} {σ : Mem} {Q : Int → Mem → Prop} (h : CI layM MX8_isKind [vI x1] σ (fun r2 σ1 => ((r2 = 0 → Q (-1) σ1) ∧ (r2 ≠ 0 → CI layM MX8_becomes [vP 0, vI 2, vI x1] σ1 (fun r4 σ3 => Q r4 σ3))))) : CI layM MX8_judge [vP 0, vI x1] σ Q := by
  refine Cl.ofR (ls := [(0, vP 0), (1, vI x1)]) (show plainName RX8 = true by decide +kernel) (leb rfl) rfl ?_
  refine R_iload_n (pc := 0) 1 rfl rfl dX8_judge_0 ?_
  refine R_callSI (pc := 1) (as := [vI x1]) (st := []) rfl rfl kX8_isKind sX8_isKind w_5_114 (ltb rfl) rfl (leb rfl) dX8_judge_1 h (fun r2 σ1 h => ?_)
  refine R_if_eq (pc := 4) (tgt := 16) (by decide) dX8_judge_4 (fun c => ?_) (fun c => ?_)
  · have h := h.1 c
    refine R_iconst (pc := 16) (by decide) dX8_judge_16 ?_
    exact R_iret (pc := 17) rfl dX8_judge_17 ⟨_, rfl, h⟩
  · have h := h.2 c
    refine R_aload_n (pc := 7) 0 rfl rfl dX8_judge_7 ?_
    refine R_iconst (pc := 8) (by decide) dX8_judge_8 ?_
    refine R_iload_n (pc := 9) 1 rfl rfl dX8_judge_9 ?_
    refine R_callVI (pc := 10) (as := [vI 2, vI x1]) (st := []) rfl rfl kX8_becomes sX8_becomes lM_0 rfl w_5_101 (ltb rfl) rfl (leb rfl) dX8_judge_10 h (fun r4 σ3 h => ?_)
    refine R_goto (pc := 13) (tgt := 17) (by decide) dX8_judge_13 ?_
    exact R_iret (pc := 17) rfl dX8_judge_17 ⟨_, rfl, h⟩
def LX8_judges_8 (x1 : Int) (x2 : Int) (σ : Mem) (Q : Int → Mem → Prop) : Prop := Rn layM MX8_judges 8 [(0, vP 0), (1, vI x1), (2, vI x2)] [] σ (qI Q)
theorem X8_judges_8 {x1 x2 : Int} {σ : Mem} {Q : Int → Mem → Prop} (h : ((4 ≤ x2 → Q x1 σ) ∧ (x2 < 4 → CV layM MX8_gives [vP 0, vI (σ 2 0), vI x2] σ (fun σ1 => CI layM MX8_isSo [vP 0] σ1 (fun r3 σ2 => CI layM MX8_flag [vI r3] σ2 (fun r5 σ4 => I32 (x2 + 1) ∧ LX8_judges_8 (bOr x1 (bShl r5 x2)) (x2 + 1) σ4 Q)))))) : LX8_judges_8 x1 x2 σ Q := by
  unfold LX8_judges_8
  refine R_iload_n (pc := 8) 2 rfl rfl dX8_judges_8 ?_
  refine R_iconst (pc := 9) (by decide) dX8_judges_9 ?_
  refine R_icmp_ge (pc := 10) (tgt := 42) (by decide) dX8_judges_10 (fun c => ?_) (fun c => ?_)
  · have h := h.1 c
    refine R_iload_n (pc := 42) 1 rfl rfl dX8_judges_42 ?_
    exact R_iret (pc := 43) rfl dX8_judges_43 ⟨_, rfl, h⟩
  · have h := h.2 c
    refine R_aload_n (pc := 13) 0 rfl rfl dX8_judges_13 ?_
    refine R_aload_n (pc := 14) 0 rfl rfl dX8_judges_14 ?_
    refine R_getP (pc := 15) (q' := 2) lM_0 rfl flX8_13 dX8_judges_15 ?_
    refine R_iconst (pc := 18) (by decide) dX8_judges_18 ?_
    have g0 : (0 : Int) ≤ 0 := by decide
    have g1 : (0 : Int) < 26 := by decide
    refine R_iaload (pc := 19) lM_2 g0 g1 dX8_judges_19 ?_
    refine R_iload_n (pc := 20) 2 rfl rfl dX8_judges_20 ?_
    refine R_callV0 (pc := 21) (as := [vI (σ 2 0), vI x2]) (st := []) rfl rfl kX8_gives sX8_gives lM_0 rfl w_5_37 (ltb rfl) rfl (leb rfl) dX8_judges_21 h (fun σ1 h => ?_)
    refine R_iload_n (pc := 24) 1 rfl rfl dX8_judges_24 ?_
    refine R_aload_n (pc := 25) 0 rfl rfl dX8_judges_25 ?_
    refine R_callVI (pc := 26) (as := []) (st := [vI x1]) rfl rfl kX8_isSo sX8_isSo lM_0 rfl w_5_224 (ltb rfl) rfl (leb rfl) dX8_judges_26 h (fun r3 σ2 h => ?_)
    refine R_callSI (pc := 29) (as := [vI r3]) (st := [vI x1]) rfl rfl kX8_flag sX8_flag w_5_70 (ltb rfl) rfl (leb rfl) dX8_judges_29 h (fun r5 σ4 h => ?_)
    refine R_iload_n (pc := 32) 2 rfl rfl dX8_judges_32 ?_
    refine R_ishl (pc := 33) dX8_judges_33 ?_
    refine R_ior (pc := 34) dX8_judges_34 ?_
    refine R_istore_n (pc := 35) (ls' := [(1, vI (bOr x1 (bShl r5 x2))), (0, vP 0), (2, vI x2)]) rfl rfl (ltb rfl) dX8_judges_35 ?_
    obtain ⟨g, h⟩ := h
    refine R_iinc (pc := 36) 2 rfl rfl g (ls' := [(2, vI (x2 + 1)), (1, vI (bOr x1 (bShl r5 x2))), (0, vP 0)]) rfl (ltb rfl) dX8_judges_36 ?_
    refine R_goto (pc := 39) (tgt := 8) (by decide) dX8_judges_39 ?_
    refine R_sub [2, 1, 0] rfl ?_
    exact h
theorem X8_judges_E {σ : Mem} {Q : Int → Mem → Prop} (h : CV layM MX8_starts [vP 0] σ (fun σ1 => LX8_judges_8 0 0 σ1 Q)) : CI layM MX8_judges [vP 0] σ Q := by
  refine Cl.ofR (ls := [(0, vP 0)]) (show plainName RX8 = true by decide +kernel) (leb rfl) rfl ?_
  refine R_iconst (pc := 0) (by decide) dX8_judges_0 ?_
  refine R_istore_n (pc := 1) (ls' := [(1, vI 0), (0, vP 0)]) rfl rfl (ltb rfl) dX8_judges_1 ?_
  refine R_aload_n (pc := 2) 1 rfl rfl dX8_judges_2 ?_
  refine R_callV0 (pc := 3) (as := []) (st := []) rfl rfl kX8_starts sX8_starts lM_0 rfl w_5_25 (ltb rfl) rfl (leb rfl) dX8_judges_3 h (fun σ1 h => ?_)
  refine R_iconst (pc := 6) (by decide) dX8_judges_6 ?_
  refine R_istore_n (pc := 7) (ls' := [(2, vI 0), (1, vI 0), (0, vP 0)]) rfl rfl (ltb rfl) dX8_judges_7 ?_
  refine R_sub [2, 1, 0] rfl ?_
  exact h
def LX8_keeps_27 (x1 : Int) (x2 : Int) (x3 : Int) (σ : Mem) (Q : Int → Mem → Prop) : Prop := Rn layM MX8_keeps 27 [(0, vP 0), (1, vI x1), (2, vI x2), (3, vI x3)] [] σ (qI Q)
theorem X8_keeps_27 {x1 x2 x3 : Int} {σ : Mem} {Q : Int → Mem → Prop} (h : ((x1 < x3 → Q (-4) σ) ∧ (x3 ≤ x1 → CV layM MX8_gives [vP 0, vI x3, vI (σ 2 2)] σ (fun σ1 => CI layM MX8_firstOff [vP 0, vI x3] σ1 (fun r3 σ2 => ((r3 = (-4) → I32 (x3 + 1) ∧ LX8_keeps_27 x1 x2 (x3 + 1) σ2 Q) ∧ (r3 ≠ (-4) → ((x2 ≠ 0 → Q r3 σ2) ∧ (x2 = 0 → Q x3 σ2))))))))) : LX8_keeps_27 x1 x2 x3 σ Q := by
  unfold LX8_keeps_27
  refine R_iload_n (pc := 27) 3 rfl rfl dX8_keeps_27 ?_
  refine R_iload_n (pc := 28) 1 rfl rfl dX8_keeps_28 ?_
  refine R_icmp_gt (pc := 29) (tgt := 74) (by decide) dX8_keeps_29 (fun c => ?_) (fun c => ?_)
  · have h := h.1 c
    refine R_bipush (pc := 74) (by decide) dX8_keeps_74 ?_
    exact R_iret (pc := 76) rfl dX8_keeps_76 ⟨_, rfl, h⟩
  · have h := h.2 c
    refine R_aload_n (pc := 32) 0 rfl rfl dX8_keeps_32 ?_
    refine R_iload_n (pc := 33) 3 rfl rfl dX8_keeps_33 ?_
    refine R_aload_n (pc := 34) 0 rfl rfl dX8_keeps_34 ?_
    refine R_getP (pc := 35) (q' := 2) lM_0 rfl flX8_13 dX8_keeps_35 ?_
    refine R_iconst (pc := 38) (by decide) dX8_keeps_38 ?_
    have g0 : (0 : Int) ≤ 2 := by decide
    have g1 : (2 : Int) < 26 := by decide
    refine R_iaload (pc := 39) lM_2 g0 g1 dX8_keeps_39 ?_
    refine R_callV0 (pc := 40) (as := [vI x3, vI (σ 2 2)]) (st := []) rfl rfl kX8_gives sX8_gives lM_0 rfl w_5_37 (ltb rfl) rfl (leb rfl) dX8_keeps_40 h (fun σ1 h => ?_)
    refine R_aload_n (pc := 43) 0 rfl rfl dX8_keeps_43 ?_
    refine R_iload_n (pc := 44) 3 rfl rfl dX8_keeps_44 ?_
    refine R_callVI (pc := 45) (as := [vI x3]) (st := []) rfl rfl kX8_firstOff sX8_firstOff lM_0 rfl w_5_178 (ltb rfl) rfl (leb rfl) dX8_keeps_45 h (fun r3 σ2 h => ?_)
    refine R_istore (pc := 48) (ls' := [(4, vI r3), (0, vP 0), (1, vI x1), (2, vI x2), (3, vI x3)]) rfl (ltb rfl) dX8_keeps_48 ?_
    refine R_iload (pc := 50) 0 rfl dX8_keeps_50 ?_
    refine R_bipush (pc := 52) (by decide) dX8_keeps_52 ?_
    refine R_icmp_eq (pc := 54) (tgt := 68) (by decide) dX8_keeps_54 (fun c => ?_) (fun c => ?_)
    · have h := h.1 c
      obtain ⟨g, h⟩ := h
      refine R_iinc (pc := 68) 4 rfl rfl g (ls' := [(3, vI (x3 + 1)), (4, vI r3), (0, vP 0), (1, vI x1), (2, vI x2)]) rfl (ltb rfl) dX8_keeps_68 ?_
      refine R_goto (pc := 71) (tgt := 27) (by decide) dX8_keeps_71 ?_
      refine R_sub [2, 3, 4, 0] rfl ?_
      exact h
    · have h := h.2 c
      refine R_iload_n (pc := 57) 3 rfl rfl dX8_keeps_57 ?_
      refine R_if_ne (pc := 58) (tgt := 65) (by decide) dX8_keeps_58 (fun c => ?_) (fun c => ?_)
      · have h := h.1 c
        refine R_iload (pc := 65) 0 rfl dX8_keeps_65 ?_
        exact R_iret (pc := 67) rfl dX8_keeps_67 ⟨_, rfl, h⟩
      · have h := h.2 c
        refine R_iload_n (pc := 61) 4 rfl rfl dX8_keeps_61 ?_
        refine R_goto (pc := 62) (tgt := 67) (by decide) dX8_keeps_62 ?_
        exact R_iret (pc := 67) rfl dX8_keeps_67 ⟨_, rfl, h⟩
theorem X8_keeps_E {x1 x2 : Int} {σ : Mem} {Q : Int → Mem → Prop} (h : CI layM MX8_in [vJ x1, vJ 0, vJ 200] σ (fun r2 σ1 => ((r2 = 0 → Q (-1) σ1) ∧ (r2 ≠ 0 → CI layM MX8_isPart [vI x2] σ1 (fun r4 σ3 => ((r4 ≠ 0 → CV layM MX8_starts [vP 0] σ3 (fun σ5 => LX8_keeps_27 x1 x2 0 σ5 Q)) ∧ (r4 = 0 → Q (-1) σ3))))))) : CI layM MX8_keeps [vP 0, vI x1, vI x2] σ Q := by
  refine Cl.ofR (ls := [(0, vP 0), (1, vI x1), (2, vI x2)]) (show plainName RX8 = true by decide +kernel) (leb rfl) rfl ?_
  refine R_iload_n (pc := 0) 1 rfl rfl dX8_keeps_0 ?_
  refine R_i2l (pc := 1) dX8_keeps_1 ?_
  refine R_lconst (pc := 2) (x := 0) rfl dX8_keeps_2 ?_
  refine R_ldc2 (pc := 3) (x := 200) w_5_169 (by decide) dX8_keeps_3 ?_
  refine R_callSI (pc := 6) (as := [vJ x1, vJ 0, vJ 200]) (st := []) rfl rfl kX8_in sX8_in w_4_210 (ltb rfl) rfl (leb rfl) dX8_keeps_6 h (fun r2 σ1 h => ?_)
  refine R_if_eq (pc := 9) (tgt := 19) (by decide) dX8_keeps_9 (fun c => ?_) (fun c => ?_)
  · have h := h.1 c
    refine R_iconst (pc := 19) (by decide) dX8_keeps_19 ?_
    exact R_iret (pc := 20) rfl dX8_keeps_20 ⟨_, rfl, h⟩
  · have h := h.2 c
    refine R_iload_n (pc := 12) 2 rfl rfl dX8_keeps_12 ?_
    refine R_callSI (pc := 13) (as := [vI x2]) (st := []) rfl rfl kX8_isPart sX8_isPart w_5_77 (ltb rfl) rfl (leb rfl) dX8_keeps_13 h (fun r4 σ3 h => ?_)
    refine R_if_ne (pc := 16) (tgt := 21) (by decide) dX8_keeps_16 (fun c => ?_) (fun c => ?_)
    · have h := h.1 c
      refine R_aload_n (pc := 21) 0 rfl rfl dX8_keeps_21 ?_
      refine R_callV0 (pc := 22) (as := []) (st := []) rfl rfl kX8_starts sX8_starts lM_0 rfl w_5_25 (ltb rfl) rfl (leb rfl) dX8_keeps_22 h (fun σ5 h => ?_)
      refine R_iconst (pc := 25) (by decide) dX8_keeps_25 ?_
      refine R_istore_n (pc := 26) (ls' := [(3, vI 0), (0, vP 0), (1, vI x1), (2, vI x2)]) rfl rfl (ltb rfl) dX8_keeps_26 ?_
      refine R_sub [1, 2, 3, 0] rfl ?_
      exact h
    · have h := h.2 c
      refine R_iconst (pc := 19) (by decide) dX8_keeps_19 ?_
      exact R_iret (pc := 20) rfl dX8_keeps_20 ⟨_, rfl, h⟩
theorem X8_lay_E {x1 x2 x3 : Int} {σ : Mem} {Q : Int → Mem → Prop} (h : CI layM MX8_isSheet [vI x1, vI 0] σ (fun r2 σ1 => ((r2 ≠ 0 → 0 ≤ x1 ∧ x1 < 4 ∧ (((σ1 13 x1) ≠ (-4) → 0 ≤ x1 ∧ x1 < 4 ∧ I32 ((σ1 14 x1) - 1) ∧ CI layM MX8_in [vJ x2, vJ 0, vJ ((σ1 14 x1) - 1)] σ1 (fun r4 σ3 => ((r4 ≠ 0 → I32 (40 * x1) ∧ I32 ((40 * x1) + x2) ∧ 0 ≤ x1 ∧ x1 < 4 ∧ (((σ3 13 x1) ≠ 0 → 0 ≤ x1 ∧ x1 < 4 ∧ (((σ3 13 x1) ≠ 1 → 0 ≤ (40 * x1) + x2 ∧ (40 * x1) + x2 < 160 ∧ Q 1 (upM σ3 15 ((40 * x1) + x2) x3)) ∧ ((σ3 13 x1) = 1 → 0 ≤ (40 * x1) + x2 ∧ (40 * x1) + x2 < 160 ∧ Q 1 (upM σ3 15 ((40 * x1) + x2) (w16 x3))))) ∧ ((σ3 13 x1) = 0 → 0 ≤ (40 * x1) + x2 ∧ (40 * x1) + x2 < 160 ∧ Q 1 (upM σ3 15 ((40 * x1) + x2) (w8 x3))))) ∧ (r4 = 0 → Q (-12) σ3)))) ∧ ((σ1 13 x1) = (-4) → Q (-11) σ1))) ∧ (r2 = 0 → Q (-1) σ1)))) : CI layM MX8_lay [vP 0, vI x1, vI x2, vI x3] σ Q := by
  refine Cl.ofR (ls := [(0, vP 0), (1, vI x1), (2, vI x2), (3, vI x3)]) (show plainName RX8 = true by decide +kernel) (leb rfl) rfl ?_
  refine R_iload_n (pc := 0) 1 rfl rfl dX8_lay_0 ?_
  refine R_iconst (pc := 1) (by decide) dX8_lay_1 ?_
  refine R_callSI (pc := 2) (as := [vI x1, vI 0]) (st := []) rfl rfl kX8_isSheet sX8_isSheet w_6_35 (ltb rfl) rfl (leb rfl) dX8_lay_2 h (fun r2 σ1 h => ?_)
  refine R_if_ne (pc := 5) (tgt := 10) (by decide) dX8_lay_5 (fun c => ?_) (fun c => ?_)
  · have h := h.1 c
    refine R_aload_n (pc := 10) 0 rfl rfl dX8_lay_10 ?_
    refine R_getP (pc := 11) (q' := 13) lM_0 rfl flX8_48 dX8_lay_11 ?_
    refine R_iload_n (pc := 14) 1 rfl rfl dX8_lay_14 ?_
    obtain ⟨g0, g1, h⟩ := h
    refine R_iaload (pc := 15) lM_13 g0 g1 dX8_lay_15 ?_
    refine R_bipush (pc := 16) (by decide) dX8_lay_16 ?_
    refine R_icmp_ne (pc := 18) (tgt := 24) (by decide) dX8_lay_18 (fun c => ?_) (fun c => ?_)
    · have h := h.1 c
      refine R_iload_n (pc := 24) 2 rfl rfl dX8_lay_24 ?_
      refine R_i2l (pc := 25) dX8_lay_25 ?_
      refine R_lconst (pc := 26) (x := 0) rfl dX8_lay_26 ?_
      refine R_aload_n (pc := 27) 0 rfl rfl dX8_lay_27 ?_
      refine R_getP (pc := 28) (q' := 14) lM_0 rfl flX8_51 dX8_lay_28 ?_
      refine R_iload_n (pc := 31) 1 rfl rfl dX8_lay_31 ?_
      obtain ⟨g0, g1, h⟩ := h
      refine R_iaload (pc := 32) lM_14 g0 g1 dX8_lay_32 ?_
      refine R_iconst (pc := 33) (by decide) dX8_lay_33 ?_
      obtain ⟨g, h⟩ := h
      refine R_isub (pc := 34) g dX8_lay_34 ?_
      refine R_i2l (pc := 35) dX8_lay_35 ?_
      refine R_callSI (pc := 36) (as := [vJ x2, vJ 0, vJ ((σ1 14 x1) - 1)]) (st := []) rfl rfl kX8_in sX8_in w_4_210 (ltb rfl) rfl (leb rfl) dX8_lay_36 h (fun r4 σ3 h => ?_)
      refine R_if_ne (pc := 39) (tgt := 45) (by decide) dX8_lay_39 (fun c => ?_) (fun c => ?_)
      · have h := h.1 c
        refine R_aload_n (pc := 45) 0 rfl rfl dX8_lay_45 ?_
        refine R_getP (pc := 46) (q' := 15) lM_0 rfl flX8_54 dX8_lay_46 ?_
        refine R_bipush (pc := 49) (by decide) dX8_lay_49 ?_
        refine R_iload_n (pc := 51) 1 rfl rfl dX8_lay_51 ?_
        obtain ⟨g, h⟩ := h
        refine R_imul (pc := 52) g dX8_lay_52 ?_
        refine R_iload_n (pc := 53) 2 rfl rfl dX8_lay_53 ?_
        obtain ⟨g, h⟩ := h
        refine R_iadd (pc := 54) g dX8_lay_54 ?_
        refine R_aload_n (pc := 55) 0 rfl rfl dX8_lay_55 ?_
        refine R_getP (pc := 56) (q' := 13) lM_0 rfl flX8_48 dX8_lay_56 ?_
        refine R_iload_n (pc := 59) 1 rfl rfl dX8_lay_59 ?_
        obtain ⟨g0, g1, h⟩ := h
        refine R_iaload (pc := 60) lM_13 g0 g1 dX8_lay_60 ?_
        refine R_if_ne (pc := 61) (tgt := 69) (by decide) dX8_lay_61 (fun c => ?_) (fun c => ?_)
        · have h := h.1 c
          refine R_aload_n (pc := 69) 0 rfl rfl dX8_lay_69 ?_
          refine R_getP (pc := 70) (q' := 13) lM_0 rfl flX8_48 dX8_lay_70 ?_
          refine R_iload_n (pc := 73) 1 rfl rfl dX8_lay_73 ?_
          obtain ⟨g0, g1, h⟩ := h
          refine R_iaload (pc := 74) lM_13 g0 g1 dX8_lay_74 ?_
          refine R_iconst (pc := 75) (by decide) dX8_lay_75 ?_
          refine R_icmp_ne (pc := 76) (tgt := 84) (by decide) dX8_lay_76 (fun c => ?_) (fun c => ?_)
          · have h := h.1 c
            refine R_iload_n (pc := 84) 3 rfl rfl dX8_lay_84 ?_
            obtain ⟨g0, g1, h⟩ := h
            refine R_iastore (pc := 85) lM_15 g0 g1 dX8_lay_85 ?_
            refine R_iconst (pc := 86) (by decide) dX8_lay_86 ?_
            exact R_iret (pc := 87) rfl dX8_lay_87 ⟨_, rfl, h⟩
          · have h := h.2 c
            refine R_iload_n (pc := 79) 3 rfl rfl dX8_lay_79 ?_
            refine R_i2s (pc := 80) dX8_lay_80 ?_
            refine R_goto (pc := 81) (tgt := 85) (by decide) dX8_lay_81 ?_
            obtain ⟨g0, g1, h⟩ := h
            refine R_iastore (pc := 85) lM_15 g0 g1 dX8_lay_85 ?_
            refine R_iconst (pc := 86) (by decide) dX8_lay_86 ?_
            exact R_iret (pc := 87) rfl dX8_lay_87 ⟨_, rfl, h⟩
        · have h := h.2 c
          refine R_iload_n (pc := 64) 3 rfl rfl dX8_lay_64 ?_
          refine R_i2b (pc := 65) dX8_lay_65 ?_
          refine R_goto (pc := 66) (tgt := 85) (by decide) dX8_lay_66 ?_
          obtain ⟨g0, g1, h⟩ := h
          refine R_iastore (pc := 85) lM_15 g0 g1 dX8_lay_85 ?_
          refine R_iconst (pc := 86) (by decide) dX8_lay_86 ?_
          exact R_iret (pc := 87) rfl dX8_lay_87 ⟨_, rfl, h⟩
      · have h := h.2 c
        refine R_bipush (pc := 42) (by decide) dX8_lay_42 ?_
        exact R_iret (pc := 44) rfl dX8_lay_44 ⟨_, rfl, h⟩
    · have h := h.2 c
      refine R_bipush (pc := 21) (by decide) dX8_lay_21 ?_
      exact R_iret (pc := 23) rfl dX8_lay_23 ⟨_, rfl, h⟩
  · have h := h.2 c
    refine R_iconst (pc := 8) (by decide) dX8_lay_8 ?_
    exact R_iret (pc := 9) rfl dX8_lay_9 ⟨_, rfl, h⟩
