theorem J13_compare_74951_E {x0 x2 : Int} {σ : Mem} {Q : Int → Mem → Prop} (h : ((x2 ≤ x0 → ((x0 ≠ x2 → Q 1 σ) ∧ (x0 = x2 → Q 0 σ))) ∧ (x0 < x2 → Q (-1) σ))) : CI layC MJ13_compare_74951 [vJ x0, vJ x2] σ Q := by
  refine Cl.ofR (ls := [(0, vJ x0), (2, vJ x2)]) (show plainName RJ13 = true by decide +kernel) (leb rfl) rfl ?_
  refine R_lload_n (pc := 0) 0 rfl rfl dJ13_compare_74951_0 ?_
  refine R_lload_n (pc := 1) 1 rfl rfl dJ13_compare_74951_1 ?_
  refine R_lcmp_ge (pc := 2) (tgt := 10) dJ13_compare_74951_2 (by decide) dJ13_compare_74951_3 (fun c => ?_) (fun c => ?_)
  · have h := h.1 c
    refine R_lload_n (pc := 10) 0 rfl rfl dJ13_compare_74951_10 ?_
    refine R_lload_n (pc := 11) 1 rfl rfl dJ13_compare_74951_11 ?_
    refine R_lcmp_ne (pc := 12) (tgt := 20) dJ13_compare_74951_12 (by decide) dJ13_compare_74951_13 (fun c => ?_) (fun c => ?_)
    · have h := h.1 c
      refine R_iconst (pc := 20) (by decide) dJ13_compare_74951_20 ?_
      exact R_iret (pc := 21) rfl dJ13_compare_74951_21 ⟨_, rfl, h⟩
    · have h := h.2 c
      refine R_iconst (pc := 16) (by decide) dJ13_compare_74951_16 ?_
      refine R_goto (pc := 17) (tgt := 21) (by decide) dJ13_compare_74951_17 ?_
      exact R_iret (pc := 21) rfl dJ13_compare_74951_21 ⟨_, rfl, h⟩
  · have h := h.2 c
    refine R_iconst (pc := 6) (by decide) dJ13_compare_74951_6 ?_
    refine R_goto (pc := 7) (tgt := 21) (by decide) dJ13_compare_74951_7 ?_
    exact R_iret (pc := 21) rfl dJ13_compare_74951_21 ⟨_, rfl, h⟩
theorem X0_addSeen_E {b : Nat} (hb : isE b) {x1 x2 : Int} {σ : Mem} {Q : Int → Mem → Prop} (h : (((σ b 3) < 6 → 0 ≤ σ b 3 ∧ σ b 3 < 6 ∧ 0 ≤ (upM σ (b + 3) (σ b 3) x1) b 3 ∧ (upM σ (b + 3) (σ b 3) x1) b 3 < 6 ∧ I32 (((upM (upM σ (b + 3) (σ b 3) x1) (b + 4) ((upM σ (b + 3) (σ b 3) x1) b 3) x2) b 3) + 1) ∧ Q ((upM (upM (upM σ (b + 3) (σ b 3) x1) (b + 4) ((upM σ (b + 3) (σ b 3) x1) b 3) x2) b 3 (((upM (upM σ (b + 3) (σ b 3) x1) (b + 4) ((upM σ (b + 3) (σ b 3) x1) b 3) x2) b 3) + 1)) b 3) (upM (upM (upM σ (b + 3) (σ b 3) x1) (b + 4) ((upM σ (b + 3) (σ b 3) x1) b 3) x2) b 3 (((upM (upM σ (b + 3) (σ b 3) x1) (b + 4) ((upM σ (b + 3) (σ b 3) x1) b 3) x2) b 3) + 1))) ∧ (6 ≤ (σ b 3) → Q (-3) σ))) : CI layC MX0_addSeen [vP b, vI x1, vI x2] σ Q := by
  refine Cl.ofR (ls := [(0, vP b), (1, vI x1), (2, vI x2)]) (show plainName RX0 = true by decide +kernel) (leb rfl) rfl ?_
  refine R_aload_n (pc := 0) 0 rfl rfl dX0_addSeen_0 ?_
  refine R_getI (pc := 1) hb.1 rfl flX0_21 dX0_addSeen_1 ?_
  refine R_bipush (pc := 4) (by decide) dX0_addSeen_4 ?_
  refine R_icmp_lt (pc := 6) (tgt := 12) (by decide) dX0_addSeen_6 (fun c => ?_) (fun c => ?_)
  · have h := h.1 c
    refine R_aload_n (pc := 12) 0 rfl rfl dX0_addSeen_12 ?_
    refine R_getP (pc := 13) (q' := (b + 3)) hb.1 rfl flX0_31 dX0_addSeen_13 ?_
    refine R_aload_n (pc := 16) 0 rfl rfl dX0_addSeen_16 ?_
    refine R_getI (pc := 17) hb.1 rfl flX0_21 dX0_addSeen_17 ?_
    refine R_iload_n (pc := 20) 1 rfl rfl dX0_addSeen_20 ?_
    obtain ⟨g0, g1, h⟩ := h
    refine R_iastore (pc := 21) hb.2.2.2.1 g0 g1 dX0_addSeen_21 ?_
    refine R_aload_n (pc := 22) 0 rfl rfl dX0_addSeen_22 ?_
    refine R_getP (pc := 23) (q' := (b + 4)) hb.1 rfl flX0_34 dX0_addSeen_23 ?_
    refine R_aload_n (pc := 26) 0 rfl rfl dX0_addSeen_26 ?_
    refine R_getI (pc := 27) hb.1 rfl flX0_21 dX0_addSeen_27 ?_
    refine R_iload_n (pc := 30) 2 rfl rfl dX0_addSeen_30 ?_
    obtain ⟨g0, g1, h⟩ := h
    refine R_iastore (pc := 31) hb.2.2.2.2 g0 g1 dX0_addSeen_31 ?_
    refine R_aload_n (pc := 32) 0 rfl rfl dX0_addSeen_32 ?_
    refine R_dup (pc := 33) rfl dX0_addSeen_33 ?_
    refine R_getI (pc := 34) hb.1 rfl flX0_21 dX0_addSeen_34 ?_
    refine R_iconst (pc := 37) (by decide) dX0_addSeen_37 ?_
    obtain ⟨g, h⟩ := h
    refine R_iadd (pc := 38) g dX0_addSeen_38 ?_
    refine R_putI (pc := 39) hb.1 rfl fpX0_21 dX0_addSeen_39 ?_
    refine R_aload_n (pc := 42) 0 rfl rfl dX0_addSeen_42 ?_
    refine R_getI (pc := 43) hb.1 rfl flX0_21 dX0_addSeen_43 ?_
    exact R_iret (pc := 46) rfl dX0_addSeen_46 ⟨_, rfl, h⟩
  · have h := h.2 c
    refine R_bipush (pc := 9) (by decide) dX0_addSeen_9 ?_
    exact R_iret (pc := 11) rfl dX0_addSeen_11 ⟨_, rfl, h⟩
theorem X0_clear_E {b : Nat} (hb : isE b) {σ : Mem} {Q : Mem → Prop} (h : Q (upM (upM (upM (upM σ b 0 17) b 1 0) b 2 0) b 3 0)) : CV layC MX0_clear [vP b] σ Q := by
  refine Cl.ofR (ls := [(0, vP b)]) (show plainName RX0 = true by decide +kernel) (leb rfl) rfl ?_
  refine R_aload_n (pc := 0) 0 rfl rfl dX0_clear_0 ?_
  refine R_bipush (pc := 1) (by decide) dX0_clear_1 ?_
  refine R_putI (pc := 3) hb.1 rfl fpX0_9 dX0_clear_3 ?_
  refine R_aload_n (pc := 6) 0 rfl rfl dX0_clear_6 ?_
  refine R_iconst (pc := 7) (by decide) dX0_clear_7 ?_
  refine R_putI (pc := 8) hb.1 rfl fpX0_15 dX0_clear_8 ?_
  refine R_aload_n (pc := 11) 0 rfl rfl dX0_clear_11 ?_
  refine R_iconst (pc := 12) (by decide) dX0_clear_12 ?_
  refine R_putI (pc := 13) hb.1 rfl fpX0_18 dX0_clear_13 ?_
  refine R_aload_n (pc := 16) 0 rfl rfl dX0_clear_16 ?_
  refine R_iconst (pc := 17) (by decide) dX0_clear_17 ?_
  refine R_putI (pc := 18) hb.1 rfl fpX0_21 dX0_clear_18 ?_
  exact R_vret (pc := 21) rfl dX0_clear_21 ⟨rfl, h⟩
def LX0_copy_34 (b : Nat) (e : Nat) (x2 : Int) (σ : Mem) (Q : Mem → Prop) : Prop := Rn layC MX0_copy 34 [(0, vP b), (1, vP e), (2, vI x2)] [] σ (qV Q)
def LX0_copy_71 (b : Nat) (e : Nat) (x2 : Int) (σ : Mem) (Q : Mem → Prop) : Prop := Rn layC MX0_copy 71 [(0, vP b), (1, vP e), (2, vI x2)] [] σ (qV Q)
theorem X0_copy_34 {b : Nat} (hb : isE b) {e : Nat} (he : isE e) {x2 : Int} {σ : Mem} {Q : Mem → Prop} (h : ((5 ≤ x2 → LX0_copy_71 b e 0 σ Q) ∧ (x2 < 5 → 0 ≤ x2 ∧ x2 < 5 ∧ 0 ≤ x2 ∧ x2 < 5 ∧ 0 ≤ x2 ∧ x2 < 5 ∧ 0 ≤ x2 ∧ x2 < 5 ∧ I32 (x2 + 1) ∧ LX0_copy_34 b e (x2 + 1) (upM (upM σ (b + 1) x2 (σ (e + 1) x2)) (b + 2) x2 ((upM σ (b + 1) x2 (σ (e + 1) x2)) (e + 2) x2)) Q))) : LX0_copy_34 b e x2 σ Q := by
  unfold LX0_copy_34
  refine R_iload_n (pc := 34) 2 rfl rfl dX0_copy_34 ?_
  refine R_iconst (pc := 35) (by decide) dX0_copy_35 ?_
  refine R_icmp_ge (pc := 36) (tgt := 69) (by decide) dX0_copy_36 (fun c => ?_) (fun c => ?_)
  · have h := h.1 c
    refine R_iconst (pc := 69) (by decide) dX0_copy_69 ?_
    refine R_istore_n (pc := 70) (ls' := [(2, vI 0), (0, vP b), (1, vP e)]) rfl rfl (ltb rfl) dX0_copy_70 ?_
    refine R_sub [1, 2, 0] rfl ?_
    exact h
  · have h := h.2 c
    refine R_aload_n (pc := 39) 0 rfl rfl dX0_copy_39 ?_
    refine R_getP (pc := 40) (q' := (b + 1)) hb.1 rfl flX0_24 dX0_copy_40 ?_
    refine R_iload_n (pc := 43) 2 rfl rfl dX0_copy_43 ?_
    refine R_aload_n (pc := 44) 1 rfl rfl dX0_copy_44 ?_
    refine R_getP (pc := 45) (q' := (e + 1)) he.1 rfl flX0_24 dX0_copy_45 ?_
    refine R_iload_n (pc := 48) 2 rfl rfl dX0_copy_48 ?_
    obtain ⟨g0, g1, h⟩ := h
    refine R_iaload (pc := 49) he.2.1 g0 g1 dX0_copy_49 ?_
    obtain ⟨g0, g1, h⟩ := h
    refine R_iastore (pc := 50) hb.2.1 g0 g1 dX0_copy_50 ?_
    refine R_aload_n (pc := 51) 0 rfl rfl dX0_copy_51 ?_
    refine R_getP (pc := 52) (q' := (b + 2)) hb.1 rfl flX0_28 dX0_copy_52 ?_
    refine R_iload_n (pc := 55) 2 rfl rfl dX0_copy_55 ?_
    refine R_aload_n (pc := 56) 1 rfl rfl dX0_copy_56 ?_
    refine R_getP (pc := 57) (q' := (e + 2)) he.1 rfl flX0_28 dX0_copy_57 ?_
    refine R_iload_n (pc := 60) 2 rfl rfl dX0_copy_60 ?_
    obtain ⟨g0, g1, h⟩ := h
    refine R_iaload (pc := 61) he.2.2.1 g0 g1 dX0_copy_61 ?_
    obtain ⟨g0, g1, h⟩ := h
    refine R_iastore (pc := 62) hb.2.2.1 g0 g1 dX0_copy_62 ?_
    obtain ⟨g, h⟩ := h
    refine R_iinc (pc := 63) 2 rfl rfl g (ls' := [(2, vI (x2 + 1)), (0, vP b), (1, vP e)]) rfl (ltb rfl) dX0_copy_63 ?_
    refine R_goto (pc := 66) (tgt := 34) (by decide) dX0_copy_66 ?_
    refine R_sub [1, 2, 0] rfl ?_
    exact h
theorem X0_copy_71 {b : Nat} (hb : isE b) {e : Nat} (he : isE e) {x2 : Int} {σ : Mem} {Q : Mem → Prop} (h : ((6 ≤ x2 → Q σ) ∧ (x2 < 6 → 0 ≤ x2 ∧ x2 < 6 ∧ 0 ≤ x2 ∧ x2 < 6 ∧ 0 ≤ x2 ∧ x2 < 6 ∧ 0 ≤ x2 ∧ x2 < 6 ∧ I32 (x2 + 1) ∧ LX0_copy_71 b e (x2 + 1) (upM (upM σ (b + 3) x2 (σ (e + 3) x2)) (b + 4) x2 ((upM σ (b + 3) x2 (σ (e + 3) x2)) (e + 4) x2)) Q))) : LX0_copy_71 b e x2 σ Q := by
  unfold LX0_copy_71
  refine R_iload_n (pc := 71) 2 rfl rfl dX0_copy_71 ?_
  refine R_bipush (pc := 72) (by decide) dX0_copy_72 ?_
  refine R_icmp_ge (pc := 74) (tgt := 107) (by decide) dX0_copy_74 (fun c => ?_) (fun c => ?_)
  · have h := h.1 c
    exact R_vret (pc := 107) rfl dX0_copy_107 ⟨rfl, h⟩
  · have h := h.2 c
    refine R_aload_n (pc := 77) 0 rfl rfl dX0_copy_77 ?_
    refine R_getP (pc := 78) (q' := (b + 3)) hb.1 rfl flX0_31 dX0_copy_78 ?_
    refine R_iload_n (pc := 81) 2 rfl rfl dX0_copy_81 ?_
    refine R_aload_n (pc := 82) 1 rfl rfl dX0_copy_82 ?_
    refine R_getP (pc := 83) (q' := (e + 3)) he.1 rfl flX0_31 dX0_copy_83 ?_
    refine R_iload_n (pc := 86) 2 rfl rfl dX0_copy_86 ?_
    obtain ⟨g0, g1, h⟩ := h
    refine R_iaload (pc := 87) he.2.2.2.1 g0 g1 dX0_copy_87 ?_
    obtain ⟨g0, g1, h⟩ := h
    refine R_iastore (pc := 88) hb.2.2.2.1 g0 g1 dX0_copy_88 ?_
    refine R_aload_n (pc := 89) 0 rfl rfl dX0_copy_89 ?_
    refine R_getP (pc := 90) (q' := (b + 4)) hb.1 rfl flX0_34 dX0_copy_90 ?_
    refine R_iload_n (pc := 93) 2 rfl rfl dX0_copy_93 ?_
    refine R_aload_n (pc := 94) 1 rfl rfl dX0_copy_94 ?_
    refine R_getP (pc := 95) (q' := (e + 4)) he.1 rfl flX0_34 dX0_copy_95 ?_
    refine R_iload_n (pc := 98) 2 rfl rfl dX0_copy_98 ?_
    obtain ⟨g0, g1, h⟩ := h
    refine R_iaload (pc := 99) he.2.2.2.2 g0 g1 dX0_copy_99 ?_
    obtain ⟨g0, g1, h⟩ := h
    refine R_iastore (pc := 100) hb.2.2.2.2 g0 g1 dX0_copy_100 ?_
    obtain ⟨g, h⟩ := h
    refine R_iinc (pc := 101) 2 rfl rfl g (ls' := [(2, vI (x2 + 1)), (0, vP b), (1, vP e)]) rfl (ltb rfl) dX0_copy_101 ?_
    refine R_goto (pc := 104) (tgt := 71) (by decide) dX0_copy_104 ?_
    refine R_sub [1, 2, 0] rfl ?_
    exact h
theorem X0_copy_E {b : Nat} (hb : isE b) {e : Nat} (he : isE e) {σ : Mem} {Q : Mem → Prop} (h : LX0_copy_34 b e 0 (upM (upM (upM (upM σ b 0 (σ e 0)) b 1 ((upM σ b 0 (σ e 0)) e 1)) b 2 ((upM (upM σ b 0 (σ e 0)) b 1 ((upM σ b 0 (σ e 0)) e 1)) e 2)) b 3 ((upM (upM (upM σ b 0 (σ e 0)) b 1 ((upM σ b 0 (σ e 0)) e 1)) b 2 ((upM (upM σ b 0 (σ e 0)) b 1 ((upM σ b 0 (σ e 0)) e 1)) e 2)) e 3)) Q) : CV layC MX0_copy [vP b, vP e] σ Q := by
  refine Cl.ofR (ls := [(0, vP b), (1, vP e)]) (show plainName RX0 = true by decide +kernel) (leb rfl) rfl ?_
  refine R_aload_n (pc := 0) 0 rfl rfl dX0_copy_0 ?_
  refine R_aload_n (pc := 1) 1 rfl rfl dX0_copy_1 ?_
  refine R_getI (pc := 2) he.1 rfl flX0_9 dX0_copy_2 ?_
  refine R_putI (pc := 5) hb.1 rfl fpX0_9 dX0_copy_5 ?_
  refine R_aload_n (pc := 8) 0 rfl rfl dX0_copy_8 ?_
  refine R_aload_n (pc := 9) 1 rfl rfl dX0_copy_9 ?_
  refine R_getI (pc := 10) he.1 rfl flX0_15 dX0_copy_10 ?_
  refine R_putI (pc := 13) hb.1 rfl fpX0_15 dX0_copy_13 ?_
  refine R_aload_n (pc := 16) 0 rfl rfl dX0_copy_16 ?_
  refine R_aload_n (pc := 17) 1 rfl rfl dX0_copy_17 ?_
  refine R_getI (pc := 18) he.1 rfl flX0_18 dX0_copy_18 ?_
  refine R_putI (pc := 21) hb.1 rfl fpX0_18 dX0_copy_21 ?_
  refine R_aload_n (pc := 24) 0 rfl rfl dX0_copy_24 ?_
  refine R_aload_n (pc := 25) 1 rfl rfl dX0_copy_25 ?_
  refine R_getI (pc := 26) he.1 rfl flX0_21 dX0_copy_26 ?_
  refine R_putI (pc := 29) hb.1 rfl fpX0_21 dX0_copy_29 ?_
  refine R_iconst (pc := 32) (by decide) dX0_copy_32 ?_
  refine R_istore_n (pc := 33) (ls' := [(2, vI 0), (0, vP b), (1, vP e)]) rfl rfl (ltb rfl) dX0_copy_33 ?_
  refine R_sub [1, 2, 0] rfl ?_
  exact h
theorem X0_has_E {b : Nat} (hb : isE b) {x1 : Int} {σ : Mem} {Q : Int → Mem → Prop} (h : ((x1 < 0 → Q 0 σ) ∧ (0 ≤ x1 → (((σ b 2) ≤ x1 → Q 0 σ) ∧ (x1 < (σ b 2) → Q 1 σ))))) : CI layC MX0_has [vP b, vI x1] σ Q := by
  refine Cl.ofR (ls := [(0, vP b), (1, vI x1)]) (show plainName RX0 = true by decide +kernel) (leb rfl) rfl ?_
  refine R_iload_n (pc := 0) 1 rfl rfl dX0_has_0 ?_
  refine R_if_lt (pc := 1) (tgt := 16) (by decide) dX0_has_1 (fun c => ?_) (fun c => ?_)
  · have h := h.1 c
    refine R_iconst (pc := 16) (by decide) dX0_has_16 ?_
    exact R_zret (pc := 17) rfl (by decide) dX0_has_17 ⟨_, rfl, h⟩
  · have h := h.2 c
    refine R_iload_n (pc := 4) 1 rfl rfl dX0_has_4 ?_
    refine R_aload_n (pc := 5) 0 rfl rfl dX0_has_5 ?_
    refine R_getI (pc := 6) hb.1 rfl flX0_18 dX0_has_6 ?_
    refine R_icmp_ge (pc := 9) (tgt := 16) (by decide) dX0_has_9 (fun c => ?_) (fun c => ?_)
    · have h := h.1 c
      refine R_iconst (pc := 16) (by decide) dX0_has_16 ?_
      exact R_zret (pc := 17) rfl (by decide) dX0_has_17 ⟨_, rfl, h⟩
    · have h := h.2 c
      refine R_iconst (pc := 12) (by decide) dX0_has_12 ?_
      refine R_goto (pc := 13) (tgt := 17) (by decide) dX0_has_13 ?_
      exact R_zret (pc := 17) rfl (by decide) dX0_has_17 ⟨_, rfl, h⟩
theorem X1_answer_E {x1 : Int} {σ : Mem} {Q : Int → Mem → Prop} (h : ((x1 ≠ 0 → ((x1 ≠ 1 → Q (σ 42 2) σ) ∧ (x1 = 1 → Q (σ 42 1) σ))) ∧ (x1 = 0 → Q (σ 42 0) σ))) : CI layC MX1_answer [vP 42, vI x1] σ Q := by
  refine Cl.ofR (ls := [(0, vP 42), (1, vI x1)]) (show plainName RX1 = true by decide +kernel) (leb rfl) rfl ?_
  refine R_iload_n (pc := 0) 1 rfl rfl dX1_answer_0 ?_
  refine R_if_ne (pc := 1) (tgt := 9) (by decide) dX1_answer_1 (fun c => ?_) (fun c => ?_)
  · have h := h.1 c
    refine R_iload_n (pc := 9) 1 rfl rfl dX1_answer_9 ?_
    refine R_iconst (pc := 10) (by decide) dX1_answer_10 ?_
    refine R_icmp_ne (pc := 11) (tgt := 21) (by decide) dX1_answer_11 (fun c => ?_) (fun c => ?_)
    · have h := h.1 c
      refine R_aload_n (pc := 21) 0 rfl rfl dX1_answer_21 ?_
      refine R_getI (pc := 22) lC_42 rfl flX1_18 dX1_answer_22 ?_
      exact R_iret (pc := 25) rfl dX1_answer_25 ⟨_, rfl, h⟩
    · have h := h.2 c
      refine R_aload_n (pc := 14) 0 rfl rfl dX1_answer_14 ?_
      refine R_getI (pc := 15) lC_42 rfl flX1_15 dX1_answer_15 ?_
      refine R_goto (pc := 18) (tgt := 25) (by decide) dX1_answer_18 ?_
      exact R_iret (pc := 25) rfl dX1_answer_25 ⟨_, rfl, h⟩
  · have h := h.2 c
    refine R_aload_n (pc := 4) 0 rfl rfl dX1_answer_4 ?_
    refine R_getI (pc := 5) lC_42 rfl flX1_9 dX1_answer_5 ?_
    exact R_iret (pc := 8) rfl dX1_answer_8 ⟨_, rfl, h⟩
theorem X1_clear_E {σ : Mem} {Q : Mem → Prop} (h : Q (upM (upM (upM σ 42 0 0) 42 1 (-4)) 42 2 (-4))) : CV layC MX1_clear [vP 42] σ Q := by
  refine Cl.ofR (ls := [(0, vP 42)]) (show plainName RX1 = true by decide +kernel) (leb rfl) rfl ?_
  refine R_aload_n (pc := 0) 0 rfl rfl dX1_clear_0 ?_
  refine R_iconst (pc := 1) (by decide) dX1_clear_1 ?_
  refine R_putI (pc := 2) lC_42 rfl fpX1_9 dX1_clear_2 ?_
  refine R_aload_n (pc := 5) 0 rfl rfl dX1_clear_5 ?_
  refine R_bipush (pc := 6) (by decide) dX1_clear_6 ?_
  refine R_putI (pc := 8) lC_42 rfl fpX1_15 dX1_clear_8 ?_
  refine R_aload_n (pc := 11) 0 rfl rfl dX1_clear_11 ?_
  refine R_bipush (pc := 12) (by decide) dX1_clear_12 ?_
  refine R_putI (pc := 14) lC_42 rfl fpX1_18 dX1_clear_14 ?_
  exact R_vret (pc := 17) rfl dX1_clear_17 ⟨rfl, h⟩
theorem X1_note_E {x1 : Int} {σ : Mem} {Q : Mem → Prop} (h : (((σ 42 0) ≠ 0 → I32 (((upM σ 42 2 x1) 42 0) + 1) ∧ Q (upM (upM σ 42 2 x1) 42 0 (((upM σ 42 2 x1) 42 0) + 1))) ∧ ((σ 42 0) = 0 → I32 (((upM (upM σ 42 1 x1) 42 2 x1) 42 0) + 1) ∧ Q (upM (upM (upM σ 42 1 x1) 42 2 x1) 42 0 (((upM (upM σ 42 1 x1) 42 2 x1) 42 0) + 1))))) : CV layC MX1_note [vP 42, vI x1] σ Q := by
  refine Cl.ofR (ls := [(0, vP 42), (1, vI x1)]) (show plainName RX1 = true by decide +kernel) (leb rfl) rfl ?_
  refine R_aload_n (pc := 0) 0 rfl rfl dX1_note_0 ?_
  refine R_getI (pc := 1) lC_42 rfl flX1_9 dX1_note_1 ?_
  refine R_if_ne (pc := 4) (tgt := 12) (by decide) dX1_note_4 (fun c => ?_) (fun c => ?_)
  · have h := h.1 c
    refine R_aload_n (pc := 12) 0 rfl rfl dX1_note_12 ?_
    refine R_iload_n (pc := 13) 1 rfl rfl dX1_note_13 ?_
    refine R_putI (pc := 14) lC_42 rfl fpX1_18 dX1_note_14 ?_
    refine R_aload_n (pc := 17) 0 rfl rfl dX1_note_17 ?_
    refine R_dup (pc := 18) rfl dX1_note_18 ?_
    refine R_getI (pc := 19) lC_42 rfl flX1_9 dX1_note_19 ?_
    refine R_iconst (pc := 22) (by decide) dX1_note_22 ?_
    obtain ⟨g, h⟩ := h
    refine R_iadd (pc := 23) g dX1_note_23 ?_
    refine R_putI (pc := 24) lC_42 rfl fpX1_9 dX1_note_24 ?_
    exact R_vret (pc := 27) rfl dX1_note_27 ⟨rfl, h⟩
  · have h := h.2 c
    refine R_aload_n (pc := 7) 0 rfl rfl dX1_note_7 ?_
    refine R_iload_n (pc := 8) 1 rfl rfl dX1_note_8 ?_
    refine R_putI (pc := 9) lC_42 rfl fpX1_15 dX1_note_9 ?_
    refine R_aload_n (pc := 12) 0 rfl rfl dX1_note_12 ?_
    refine R_iload_n (pc := 13) 1 rfl rfl dX1_note_13 ?_
    refine R_putI (pc := 14) lC_42 rfl fpX1_18 dX1_note_14 ?_
    refine R_aload_n (pc := 17) 0 rfl rfl dX1_note_17 ?_
    refine R_dup (pc := 18) rfl dX1_note_18 ?_
    refine R_getI (pc := 19) lC_42 rfl flX1_9 dX1_note_19 ?_
    refine R_iconst (pc := 22) (by decide) dX1_note_22 ?_
    obtain ⟨g, h⟩ := h
    refine R_iadd (pc := 23) g dX1_note_23 ?_
    refine R_putI (pc := 24) lC_42 rfl fpX1_9 dX1_note_24 ?_
    exact R_vret (pc := 27) rfl dX1_note_27 ⟨rfl, h⟩
def LX2_firstLoser_2 (b : Nat) (x1 : Int) (σ : Mem) (Q : Int → Mem → Prop) : Prop := Rn layC MX2_firstLoser 2 [(0, vP b), (1, vI x1)] [] σ (qI Q)
theorem X2_firstLoser_2 {b : Nat} (hb : isPt b) {x1 : Int} {σ : Mem} {Q : Int → Mem → Prop} (h : (((σ b 6) ≤ x1 → Q (-1) σ) ∧ (x1 < (σ b 6) → 0 ≤ x1 ∧ x1 < 5 ∧ 0 ≤ x1 ∧ x1 < 5 ∧ (((σ (b + 4) x1) ≤ (σ (b + 3) x1) → I32 (x1 + 1) ∧ LX2_firstLoser_2 b (x1 + 1) σ Q) ∧ ((σ (b + 3) x1) < (σ (b + 4) x1) → Q x1 σ))))) : LX2_firstLoser_2 b x1 σ Q := by
  unfold LX2_firstLoser_2
  refine R_iload_n (pc := 2) 1 rfl rfl dX2_firstLoser_2 ?_
  refine R_aload_n (pc := 3) 0 rfl rfl dX2_firstLoser_3 ?_
  refine R_getI (pc := 4) hb.1 rfl flX2_32 dX2_firstLoser_4 ?_
  refine R_icmp_ge (pc := 7) (tgt := 33) (by decide) dX2_firstLoser_7 (fun c => ?_) (fun c => ?_)
  · have h := h.1 c
    refine R_iconst (pc := 33) (by decide) dX2_firstLoser_33 ?_
    exact R_iret (pc := 34) rfl dX2_firstLoser_34 ⟨_, rfl, h⟩
  · have h := h.2 c
    refine R_aload_n (pc := 10) 0 rfl rfl dX2_firstLoser_10 ?_
    refine R_getP (pc := 11) (q' := (b + 3)) hb.1 rfl flX2_25 dX2_firstLoser_11 ?_
    refine R_iload_n (pc := 14) 1 rfl rfl dX2_firstLoser_14 ?_
    obtain ⟨g0, g1, h⟩ := h
    refine R_iaload (pc := 15) hb.2.2.2.1 g0 g1 dX2_firstLoser_15 ?_
    refine R_aload_n (pc := 16) 0 rfl rfl dX2_firstLoser_16 ?_
    refine R_getP (pc := 17) (q' := (b + 4)) hb.1 rfl flX2_29 dX2_firstLoser_17 ?_
    refine R_iload_n (pc := 20) 1 rfl rfl dX2_firstLoser_20 ?_
    obtain ⟨g0, g1, h⟩ := h
    refine R_iaload (pc := 21) hb.2.2.2.2 g0 g1 dX2_firstLoser_21 ?_
    refine R_icmp_ge (pc := 22) (tgt := 27) (by decide) dX2_firstLoser_22 (fun c => ?_) (fun c => ?_)
    · have h := h.1 c
      obtain ⟨g, h⟩ := h
      refine R_iinc (pc := 27) 1 rfl rfl g (ls' := [(1, vI (x1 + 1)), (0, vP b)]) rfl (ltb rfl) dX2_firstLoser_27 ?_
      refine R_goto (pc := 30) (tgt := 2) (by decide) dX2_firstLoser_30 ?_
      refine R_sub [1, 0] rfl ?_
      exact h
    · have h := h.2 c
      refine R_iload_n (pc := 25) 1 rfl rfl dX2_firstLoser_25 ?_
      exact R_iret (pc := 26) rfl dX2_firstLoser_26 ⟨_, rfl, h⟩
theorem X2_firstLoser_E {b : Nat} (hb : isPt b) {σ : Mem} {Q : Int → Mem → Prop} (h : LX2_firstLoser_2 b 0 σ Q) : CI layC MX2_firstLoser [vP b] σ Q := by
  refine Cl.ofR (ls := [(0, vP b)]) (show plainName RX2 = true by decide +kernel) (leb rfl) rfl ?_
  refine R_iconst (pc := 0) (by decide) dX2_firstLoser_0 ?_
  refine R_istore_n (pc := 1) (ls' := [(1, vI 0), (0, vP b)]) rfl rfl (ltb rfl) dX2_firstLoser_1 ?_
  refine R_sub [1, 0] rfl ?_
  exact h
def LX2_giveByGreatestRest_4 (b : Nat) (x1 : Int) (x2 : Int) (σ : Mem) (Q : Mem → Prop) : Prop := Rn layC MX2_giveByGreatestRest 4 [(0, vP b), (1, vI x1), (2, vI x2)] [] σ (qV Q)
theorem X2_giveByGreatestRest_4 {b : Nat} (hb : isPt b) {x1 x2 : Int} {σ : Mem} {Q : Mem → Prop} (h : (((σ b 6) ≤ x2 → (((σ b 6) ≤ x1 → Q σ) ∧ (x1 < (σ b 6) → 0 ≤ x1 ∧ x1 < 5 ∧ I32 ((σ (b + 3) x1) + 1) ∧ 0 ≤ x1 ∧ x1 < 5 ∧ 0 ≤ x1 ∧ x1 < 5 ∧ Q (upM (upM σ (b + 3) x1 ((σ (b + 3) x1) + 1)) (b + 2) x1 (-1))))) ∧ (x2 < (σ b 6) → 0 ≤ x2 ∧ x2 < 5 ∧ 0 ≤ x1 ∧ x1 < 5 ∧ (((σ (b + 2) x2) ≤ (σ (b + 2) x1) → I32 (x2 + 1) ∧ LX2_giveByGreatestRest_4 b x1 (x2 + 1) σ Q) ∧ ((σ (b + 2) x1) < (σ (b + 2) x2) → I32 (x2 + 1) ∧ LX2_giveByGreatestRest_4 b x2 (x2 + 1) σ Q))))) : LX2_giveByGreatestRest_4 b x1 x2 σ Q := by
  unfold LX2_giveByGreatestRest_4
  refine R_iload_n (pc := 4) 2 rfl rfl dX2_giveByGreatestRest_4 ?_
  refine R_aload_n (pc := 5) 0 rfl rfl dX2_giveByGreatestRest_5 ?_
  refine R_getI (pc := 6) hb.1 rfl flX2_32 dX2_giveByGreatestRest_6 ?_
  refine R_icmp_ge (pc := 9) (tgt := 36) (by decide) dX2_giveByGreatestRest_9 (fun c => ?_) (fun c => ?_)
  · have h := h.1 c
    refine R_iload_n (pc := 36) 1 rfl rfl dX2_giveByGreatestRest_36 ?_
    refine R_aload_n (pc := 37) 0 rfl rfl dX2_giveByGreatestRest_37 ?_
    refine R_getI (pc := 38) hb.1 rfl flX2_32 dX2_giveByGreatestRest_38 ?_
    refine R_icmp_ge (pc := 41) (tgt := 63) (by decide) dX2_giveByGreatestRest_41 (fun c => ?_) (fun c => ?_)
    · have h := h.1 c
      exact R_vret (pc := 63) rfl dX2_giveByGreatestRest_63 ⟨rfl, h⟩
    · have h := h.2 c
      refine R_aload_n (pc := 44) 0 rfl rfl dX2_giveByGreatestRest_44 ?_
      refine R_getP (pc := 45) (q' := (b + 3)) hb.1 rfl flX2_25 dX2_giveByGreatestRest_45 ?_
      refine R_iload_n (pc := 48) 1 rfl rfl dX2_giveByGreatestRest_48 ?_
      refine R_dup2 (pc := 49) rfl rfl dX2_giveByGreatestRest_49 ?_
      obtain ⟨g0, g1, h⟩ := h
      refine R_iaload (pc := 50) hb.2.2.2.1 g0 g1 dX2_giveByGreatestRest_50 ?_
      refine R_iconst (pc := 51) (by decide) dX2_giveByGreatestRest_51 ?_
      obtain ⟨g, h⟩ := h
      refine R_iadd (pc := 52) g dX2_giveByGreatestRest_52 ?_
      obtain ⟨g0, g1, h⟩ := h
      refine R_iastore (pc := 53) hb.2.2.2.1 g0 g1 dX2_giveByGreatestRest_53 ?_
      refine R_aload_n (pc := 54) 0 rfl rfl dX2_giveByGreatestRest_54 ?_
      refine R_getP (pc := 55) (q' := (b + 2)) hb.1 rfl flX2_22 dX2_giveByGreatestRest_55 ?_
      refine R_iload_n (pc := 58) 1 rfl rfl dX2_giveByGreatestRest_58 ?_
      refine R_ldc2 (pc := 59) (x := (-1)) w_3_18 (by decide) dX2_giveByGreatestRest_59 ?_
      obtain ⟨g0, g1, h⟩ := h
      refine R_lastore (pc := 62) hb.2.2.1 g0 g1 dX2_giveByGreatestRest_62 ?_
      exact R_vret (pc := 63) rfl dX2_giveByGreatestRest_63 ⟨rfl, h⟩
  · have h := h.2 c
    refine R_aload_n (pc := 12) 0 rfl rfl dX2_giveByGreatestRest_12 ?_
    refine R_getP (pc := 13) (q' := (b + 2)) hb.1 rfl flX2_22 dX2_giveByGreatestRest_13 ?_
    refine R_iload_n (pc := 16) 2 rfl rfl dX2_giveByGreatestRest_16 ?_
    obtain ⟨g0, g1, h⟩ := h
    refine R_laload (pc := 17) hb.2.2.1 g0 g1 dX2_giveByGreatestRest_17 ?_
    refine R_aload_n (pc := 18) 0 rfl rfl dX2_giveByGreatestRest_18 ?_
    refine R_getP (pc := 19) (q' := (b + 2)) hb.1 rfl flX2_22 dX2_giveByGreatestRest_19 ?_
    refine R_iload_n (pc := 22) 1 rfl rfl dX2_giveByGreatestRest_22 ?_
    obtain ⟨g0, g1, h⟩ := h
    refine R_laload (pc := 23) hb.2.2.1 g0 g1 dX2_giveByGreatestRest_23 ?_
    refine R_lcmp_le (pc := 24) (tgt := 30) dX2_giveByGreatestRest_24 (by decide) dX2_giveByGreatestRest_25 (fun c => ?_) (fun c => ?_)
    · have h := h.1 c
      obtain ⟨g, h⟩ := h
      refine R_iinc (pc := 30) 2 rfl rfl g (ls' := [(2, vI (x2 + 1)), (0, vP b), (1, vI x1)]) rfl (ltb rfl) dX2_giveByGreatestRest_30 ?_
      refine R_goto (pc := 33) (tgt := 4) (by decide) dX2_giveByGreatestRest_33 ?_
      refine R_sub [1, 2, 0] rfl ?_
      exact h
    · have h := h.2 c
      refine R_iload_n (pc := 28) 2 rfl rfl dX2_giveByGreatestRest_28 ?_
      refine R_istore_n (pc := 29) (ls' := [(1, vI x2), (0, vP b), (2, vI x2)]) rfl rfl (ltb rfl) dX2_giveByGreatestRest_29 ?_
      obtain ⟨g, h⟩ := h
      refine R_iinc (pc := 30) 2 rfl rfl g (ls' := [(2, vI (x2 + 1)), (1, vI x2), (0, vP b)]) rfl (ltb rfl) dX2_giveByGreatestRest_30 ?_
      refine R_goto (pc := 33) (tgt := 4) (by decide) dX2_giveByGreatestRest_33 ?_
      refine R_sub [2, 1, 0] rfl ?_
      exact h
theorem X2_giveByGreatestRest_E {b : Nat} (hb : isPt b) {σ : Mem} {Q : Mem → Prop} (h : LX2_giveByGreatestRest_4 b 0 1 σ Q) : CV layC MX2_giveByGreatestRest [vP b] σ Q := by
  refine Cl.ofR (ls := [(0, vP b)]) (show plainName RX2 = true by decide +kernel) (leb rfl) rfl ?_
  refine R_iconst (pc := 0) (by decide) dX2_giveByGreatestRest_0 ?_
  refine R_istore_n (pc := 1) (ls' := [(1, vI 0), (0, vP b)]) rfl rfl (ltb rfl) dX2_giveByGreatestRest_1 ?_
  refine R_iconst (pc := 2) (by decide) dX2_giveByGreatestRest_2 ?_
  refine R_istore_n (pc := 3) (ls' := [(2, vI 1), (1, vI 0), (0, vP b)]) rfl rfl (ltb rfl) dX2_giveByGreatestRest_3 ?_
  refine R_sub [2, 1, 0] rfl ?_
  exact h
def LX2_given_4 (b : Nat) (x1 : Int) (x2 : Int) (σ : Mem) (Q : Int → Mem → Prop) : Prop := Rn layC MX2_given 4 [(0, vP b), (1, vI x1), (2, vI x2)] [] σ (qI Q)
theorem X2_given_4 {b : Nat} (hb : isPt b) {x1 x2 : Int} {σ : Mem} {Q : Int → Mem → Prop} (h : (((σ b 6) ≤ x2 → Q x1 σ) ∧ (x2 < (σ b 6) → 0 ≤ x2 ∧ x2 < 5 ∧ I32 (x1 + (σ (b + 3) x2)) ∧ I32 (x2 + 1) ∧ LX2_given_4 b (x1 + (σ (b + 3) x2)) (x2 + 1) σ Q))) : LX2_given_4 b x1 x2 σ Q := by
  unfold LX2_given_4
  refine R_iload_n (pc := 4) 2 rfl rfl dX2_given_4 ?_
  refine R_aload_n (pc := 5) 0 rfl rfl dX2_given_5 ?_
  refine R_getI (pc := 6) hb.1 rfl flX2_32 dX2_given_6 ?_
  refine R_icmp_ge (pc := 9) (tgt := 27) (by decide) dX2_given_9 (fun c => ?_) (fun c => ?_)
  · have h := h.1 c
    refine R_iload_n (pc := 27) 1 rfl rfl dX2_given_27 ?_
    exact R_iret (pc := 28) rfl dX2_given_28 ⟨_, rfl, h⟩
  · have h := h.2 c
    refine R_iload_n (pc := 12) 1 rfl rfl dX2_given_12 ?_
    refine R_aload_n (pc := 13) 0 rfl rfl dX2_given_13 ?_
    refine R_getP (pc := 14) (q' := (b + 3)) hb.1 rfl flX2_25 dX2_given_14 ?_
    refine R_iload_n (pc := 17) 2 rfl rfl dX2_given_17 ?_
    obtain ⟨g0, g1, h⟩ := h
    refine R_iaload (pc := 18) hb.2.2.2.1 g0 g1 dX2_given_18 ?_
    obtain ⟨g, h⟩ := h
    refine R_iadd (pc := 19) g dX2_given_19 ?_
    refine R_istore_n (pc := 20) (ls' := [(1, vI (x1 + (σ (b + 3) x2))), (0, vP b), (2, vI x2)]) rfl rfl (ltb rfl) dX2_given_20 ?_
    obtain ⟨g, h⟩ := h
    refine R_iinc (pc := 21) 2 rfl rfl g (ls' := [(2, vI (x2 + 1)), (1, vI (x1 + (σ (b + 3) x2))), (0, vP b)]) rfl (ltb rfl) dX2_given_21 ?_
    refine R_goto (pc := 24) (tgt := 4) (by decide) dX2_given_24 ?_
    refine R_sub [2, 1, 0] rfl ?_
    exact h
theorem X2_given_E {b : Nat} (hb : isPt b) {σ : Mem} {Q : Int → Mem → Prop} (h : LX2_given_4 b 0 0 σ Q) : CI layC MX2_given [vP b] σ Q := by
  refine Cl.ofR (ls := [(0, vP b)]) (show plainName RX2 = true by decide +kernel) (leb rfl) rfl ?_
  refine R_iconst (pc := 0) (by decide) dX2_given_0 ?_
  refine R_istore_n (pc := 1) (ls' := [(1, vI 0), (0, vP b)]) rfl rfl (ltb rfl) dX2_given_1 ?_
  refine R_iconst (pc := 2) (by decide) dX2_given_2 ?_
  refine R_istore_n (pc := 3) (ls' := [(2, vI 0), (1, vI 0), (0, vP b)]) rfl rfl (ltb rfl) dX2_given_3 ?_
  refine R_sub [2, 1, 0] rfl ?_
  exact h
theorem X2_got_E {b : Nat} (hb : isPt b) {x1 : Int} {σ : Mem} {Q : Int → Mem → Prop} (h : ((x1 < 0 → Q 0 σ) ∧ (0 ≤ x1 → (((σ b 6) ≤ x1 → Q 0 σ) ∧ (x1 < (σ b 6) → 0 ≤ x1 ∧ x1 < 5 ∧ Q (σ (b + 3) x1) σ))))) : CI layC MX2_got [vP b, vI x1] σ Q := by
  refine Cl.ofR (ls := [(0, vP b), (1, vI x1)]) (show plainName RX2 = true by decide +kernel) (leb rfl) rfl ?_
  refine R_iload_n (pc := 0) 1 rfl rfl dX2_got_0 ?_
  refine R_if_lt (pc := 1) (tgt := 21) (by decide) dX2_got_1 (fun c => ?_) (fun c => ?_)
  · have h := h.1 c
    refine R_iconst (pc := 21) (by decide) dX2_got_21 ?_
    exact R_iret (pc := 22) rfl dX2_got_22 ⟨_, rfl, h⟩
  · have h := h.2 c
    refine R_iload_n (pc := 4) 1 rfl rfl dX2_got_4 ?_
    refine R_aload_n (pc := 5) 0 rfl rfl dX2_got_5 ?_
    refine R_getI (pc := 6) hb.1 rfl flX2_32 dX2_got_6 ?_
    refine R_icmp_ge (pc := 9) (tgt := 21) (by decide) dX2_got_9 (fun c => ?_) (fun c => ?_)
    · have h := h.1 c
      refine R_iconst (pc := 21) (by decide) dX2_got_21 ?_
      exact R_iret (pc := 22) rfl dX2_got_22 ⟨_, rfl, h⟩
    · have h := h.2 c
      refine R_aload_n (pc := 12) 0 rfl rfl dX2_got_12 ?_
      refine R_getP (pc := 13) (q' := (b + 3)) hb.1 rfl flX2_25 dX2_got_13 ?_
      refine R_iload_n (pc := 16) 1 rfl rfl dX2_got_16 ?_
      obtain ⟨g0, g1, h⟩ := h
      refine R_iaload (pc := 17) hb.2.2.2.1 g0 g1 dX2_got_17 ?_
      refine R_goto (pc := 18) (tgt := 22) (by decide) dX2_got_18 ?_
      exact R_iret (pc := 22) rfl dX2_got_22 ⟨_, rfl, h⟩
theorem X2_rowDivisor_E {b : Nat} (hb : isPt b) {x1 : Int} {σ : Mem} {Q : Int → Mem → Prop} (h : (((σ b 7) ≠ 3 → 0 ≤ x1 ∧ x1 < 5 ∧ I32 ((σ (b + 3) x1) + 1) ∧ Q ((σ (b + 3) x1) + 1) σ) ∧ ((σ b 7) = 3 → 0 ≤ x1 ∧ x1 < 5 ∧ I32 (2 * (σ (b + 3) x1)) ∧ I32 ((2 * (σ (b + 3) x1)) + 1) ∧ Q ((2 * (σ (b + 3) x1)) + 1) σ))) : CI layC MX2_rowDivisor [vP b, vI x1] σ Q := by
  refine Cl.ofR (ls := [(0, vP b), (1, vI x1)]) (show plainName RX2 = true by decide +kernel) (leb rfl) rfl ?_
  refine R_aload_n (pc := 0) 0 rfl rfl dX2_rowDivisor_0 ?_
  refine R_getI (pc := 1) hb.1 rfl flX2_36 dX2_rowDivisor_1 ?_
  refine R_iconst (pc := 4) (by decide) dX2_rowDivisor_4 ?_
  refine R_icmp_ne (pc := 5) (tgt := 21) (by decide) dX2_rowDivisor_5 (fun c => ?_) (fun c => ?_)
  · have h := h.1 c
    refine R_aload_n (pc := 21) 0 rfl rfl dX2_rowDivisor_21 ?_
    refine R_getP (pc := 22) (q' := (b + 3)) hb.1 rfl flX2_25 dX2_rowDivisor_22 ?_
    refine R_iload_n (pc := 25) 1 rfl rfl dX2_rowDivisor_25 ?_
    obtain ⟨g0, g1, h⟩ := h
    refine R_iaload (pc := 26) hb.2.2.2.1 g0 g1 dX2_rowDivisor_26 ?_
    refine R_iconst (pc := 27) (by decide) dX2_rowDivisor_27 ?_
    obtain ⟨g, h⟩ := h
    refine R_iadd (pc := 28) g dX2_rowDivisor_28 ?_
    exact R_iret (pc := 29) rfl dX2_rowDivisor_29 ⟨_, rfl, h⟩
  · have h := h.2 c
    refine R_iconst (pc := 8) (by decide) dX2_rowDivisor_8 ?_
    refine R_aload_n (pc := 9) 0 rfl rfl dX2_rowDivisor_9 ?_
    refine R_getP (pc := 10) (q' := (b + 3)) hb.1 rfl flX2_25 dX2_rowDivisor_10 ?_
    refine R_iload_n (pc := 13) 1 rfl rfl dX2_rowDivisor_13 ?_
    obtain ⟨g0, g1, h⟩ := h
    refine R_iaload (pc := 14) hb.2.2.2.1 g0 g1 dX2_rowDivisor_14 ?_
    obtain ⟨g, h⟩ := h
    refine R_imul (pc := 15) g dX2_rowDivisor_15 ?_
    refine R_iconst (pc := 16) (by decide) dX2_rowDivisor_16 ?_
    obtain ⟨g, h⟩ := h
    refine R_iadd (pc := 17) g dX2_rowDivisor_17 ?_
    refine R_goto (pc := 18) (tgt := 29) (by decide) dX2_rowDivisor_18 ?_
    exact R_iret (pc := 29) rfl dX2_rowDivisor_29 ⟨_, rfl, h⟩
theorem X3_refuse_E {x1 : Int} {σ : Mem} {Q : Mem → Prop} (h : Q (upM (upM (upM σ 36 3 x1) 36 4 ((upM σ 36 3 x1) 37 2)) 36 5 5)) : CV layC MX3_refuse [vP 36, vI x1] σ Q := by
  refine Cl.ofR (ls := [(0, vP 36), (1, vI x1)]) (show plainName RX3 = true by decide +kernel) (leb rfl) rfl ?_
  refine R_aload_n (pc := 0) 0 rfl rfl dX3_refuse_0 ?_
  refine R_iload_n (pc := 1) 1 rfl rfl dX3_refuse_1 ?_
  refine R_putI (pc := 2) lC_36 rfl fpX3_29 dX3_refuse_2 ?_
  refine R_aload_n (pc := 5) 0 rfl rfl dX3_refuse_5 ?_
  refine R_aload_n (pc := 6) 0 rfl rfl dX3_refuse_6 ?_
  refine R_getP (pc := 7) (q' := 37) lC_36 rfl flX3_12 dX3_refuse_7 ?_
  refine R_getI (pc := 10) lC_37 rfl flX3_130 dX3_refuse_10 ?_
  refine R_putI (pc := 13) lC_36 rfl fpX3_32 dX3_refuse_13 ?_
  refine R_aload_n (pc := 16) 0 rfl rfl dX3_refuse_16 ?_
  refine R_iconst (pc := 17) (by decide) dX3_refuse_17 ?_
  refine R_putI (pc := 18) lC_36 rfl fpX3_35 dX3_refuse_18 ?_
  exact R_vret (pc := 21) rfl dX3_refuse_21 ⟨rfl, h⟩
theorem X4_flawAt_E {b : Nat} (hb : isSh b) {x1 : Int} {σ : Mem} {Q : Int → Mem → Prop} (h : ((0 ≤ (σ b 0) → ((x1 < 0 → Q 2 σ) ∧ (0 ≤ x1 → (((σ b 0) ≤ x1 → Q 2 σ) ∧ (x1 < (σ b 0) → Q 0 σ))))) ∧ ((σ b 0) < 0 → Q 1 σ))) : CI layC MX4_flawAt [vP b, vI x1] σ Q := by
  refine Cl.ofR (ls := [(0, vP b), (1, vI x1)]) (show plainName RX4 = true by decide +kernel) (leb rfl) rfl ?_
  refine R_aload_n (pc := 0) 0 rfl rfl dX4_flawAt_0 ?_
  refine R_getI (pc := 1) hb.1 rfl flX4_9 dX4_flawAt_1 ?_
  refine R_if_ge (pc := 4) (tgt := 9) (by decide) dX4_flawAt_4 (fun c => ?_) (fun c => ?_)
  · have h := h.1 c
    refine R_iload_n (pc := 9) 1 rfl rfl dX4_flawAt_9 ?_
    refine R_if_lt (pc := 10) (tgt := 25) (by decide) dX4_flawAt_10 (fun c => ?_) (fun c => ?_)
    · have h := h.1 c
      refine R_iconst (pc := 25) (by decide) dX4_flawAt_25 ?_
      exact R_iret (pc := 26) rfl dX4_flawAt_26 ⟨_, rfl, h⟩
    · have h := h.2 c
      refine R_iload_n (pc := 13) 1 rfl rfl dX4_flawAt_13 ?_
      refine R_aload_n (pc := 14) 0 rfl rfl dX4_flawAt_14 ?_
      refine R_getI (pc := 15) hb.1 rfl flX4_9 dX4_flawAt_15 ?_
      refine R_icmp_ge (pc := 18) (tgt := 25) (by decide) dX4_flawAt_18 (fun c => ?_) (fun c => ?_)
      · have h := h.1 c
        refine R_iconst (pc := 25) (by decide) dX4_flawAt_25 ?_
        exact R_iret (pc := 26) rfl dX4_flawAt_26 ⟨_, rfl, h⟩
      · have h := h.2 c
        refine R_iconst (pc := 21) (by decide) dX4_flawAt_21 ?_
        refine R_goto (pc := 22) (tgt := 26) (by decide) dX4_flawAt_22 ?_
        exact R_iret (pc := 26) rfl dX4_flawAt_26 ⟨_, rfl, h⟩
  · have h := h.2 c
    refine R_iconst (pc := 7) (by decide) dX4_flawAt_7 ?_
    exact R_iret (pc := 8) rfl dX4_flawAt_8 ⟨_, rfl, h⟩
theorem X5_append_E {x1 : Int} {σ : Mem} {Q : Int → Mem → Prop} (h : (((σ 37 0) < 160 → 0 ≤ σ 37 0 ∧ σ 37 0 < 160 ∧ I32 (((upM σ 38 (σ 37 0) (w8 x1)) 37 0) + 1) ∧ Q ((upM (upM σ 38 (σ 37 0) (w8 x1)) 37 0 (((upM σ 38 (σ 37 0) (w8 x1)) 37 0) + 1)) 37 0) (upM (upM σ 38 (σ 37 0) (w8 x1)) 37 0 (((upM σ 38 (σ 37 0) (w8 x1)) 37 0) + 1))) ∧ (160 ≤ (σ 37 0) → Q (-3) σ))) : CI layC MX5_append [vP 37, vI x1] σ Q := by
  refine Cl.ofR (ls := [(0, vP 37), (1, vI x1)]) (show plainName RX5 = true by decide +kernel) (leb rfl) rfl ?_
  refine R_aload_n (pc := 0) 0 rfl rfl dX5_append_0 ?_
  refine R_getI (pc := 1) lC_37 rfl flX5_9 dX5_append_1 ?_
  refine R_sipush (pc := 4) (by decide) dX5_append_4 ?_
  refine R_icmp_lt (pc := 7) (tgt := 13) (by decide) dX5_append_7 (fun c => ?_) (fun c => ?_)
  · have h := h.1 c
    refine R_aload_n (pc := 13) 0 rfl rfl dX5_append_13 ?_
    refine R_getP (pc := 14) (q' := 38) lC_37 rfl flX5_27 dX5_append_14 ?_
    refine R_aload_n (pc := 17) 0 rfl rfl dX5_append_17 ?_
    refine R_getI (pc := 18) lC_37 rfl flX5_9 dX5_append_18 ?_
    refine R_iload_n (pc := 21) 1 rfl rfl dX5_append_21 ?_
    refine R_i2b (pc := 22) dX5_append_22 ?_
    obtain ⟨g0, g1, h⟩ := h
    refine R_bastore (pc := 23) (w8_in _) lC_38 g0 g1 dX5_append_23 ?_
    refine R_aload_n (pc := 24) 0 rfl rfl dX5_append_24 ?_
    refine R_dup (pc := 25) rfl dX5_append_25 ?_
    refine R_getI (pc := 26) lC_37 rfl flX5_9 dX5_append_26 ?_
    refine R_iconst (pc := 29) (by decide) dX5_append_29 ?_
    obtain ⟨g, h⟩ := h
    refine R_iadd (pc := 30) g dX5_append_30 ?_
    refine R_putI (pc := 31) lC_37 rfl fpX5_9 dX5_append_31 ?_
    refine R_aload_n (pc := 34) 0 rfl rfl dX5_append_34 ?_
    refine R_getI (pc := 35) lC_37 rfl flX5_9 dX5_append_35 ?_
    exact R_iret (pc := 38) rfl dX5_append_38 ⟨_, rfl, h⟩
  · have h := h.2 c
    refine R_bipush (pc := 10) (by decide) dX5_append_10 ?_
    exact R_iret (pc := 12) rfl dX5_append_12 ⟨_, rfl, h⟩
theorem X5_rewind_E {σ : Mem} {Q : Mem → Prop} (h : Q (upM σ 37 4 0)) : CV layC MX5_rewind [vP 37] σ Q := by
  refine Cl.ofR (ls := [(0, vP 37)]) (show plainName RX5 = true by decide +kernel) (leb rfl) rfl ?_
  refine R_aload_n (pc := 0) 0 rfl rfl dX5_rewind_0 ?_
  refine R_iconst (pc := 1) (by decide) dX5_rewind_1 ?_
  refine R_putI (pc := 2) lC_37 rfl fpX5_24 dX5_rewind_2 ?_
  exact R_vret (pc := 5) rfl dX5_rewind_5 ⟨rfl, h⟩
theorem X6_isFound_E {σ : Mem} {Q : Int → Mem → Prop} (h : (((σ 39 6) < 0 → Q 0 σ) ∧ (0 ≤ (σ 39 6) → (((σ 39 0) ≤ (σ 39 6) → Q 0 σ) ∧ ((σ 39 6) < (σ 39 0) → Q 1 σ))))) : CI layC MX6_isFound [vP 39] σ Q := by
  refine Cl.ofR (ls := [(0, vP 39)]) (show plainName RX6 = true by decide +kernel) (leb rfl) rfl ?_
  refine R_aload_n (pc := 0) 0 rfl rfl dX6_isFound_0 ?_
  refine R_getI (pc := 1) lC_39 rfl flX6_31 dX6_isFound_1 ?_
  refine R_if_lt (pc := 4) (tgt := 22) (by decide) dX6_isFound_4 (fun c => ?_) (fun c => ?_)
  · have h := h.1 c
    refine R_iconst (pc := 22) (by decide) dX6_isFound_22 ?_
    exact R_zret (pc := 23) rfl (by decide) dX6_isFound_23 ⟨_, rfl, h⟩
  · have h := h.2 c
    refine R_aload_n (pc := 7) 0 rfl rfl dX6_isFound_7 ?_
    refine R_getI (pc := 8) lC_39 rfl flX6_9 dX6_isFound_8 ?_
    refine R_aload_n (pc := 11) 0 rfl rfl dX6_isFound_11 ?_
    refine R_getI (pc := 12) lC_39 rfl flX6_31 dX6_isFound_12 ?_
    refine R_icmp_le (pc := 15) (tgt := 22) (by decide) dX6_isFound_15 (fun c => ?_) (fun c => ?_)
    · have h := h.1 c
      refine R_iconst (pc := 22) (by decide) dX6_isFound_22 ?_
      exact R_zret (pc := 23) rfl (by decide) dX6_isFound_23 ⟨_, rfl, h⟩
    · have h := h.2 c
      refine R_iconst (pc := 18) (by decide) dX6_isFound_18 ?_
      refine R_goto (pc := 19) (tgt := 23) (by decide) dX6_isFound_19 ?_
      exact R_zret (pc := 23) rfl (by decide) dX6_isFound_23 ⟨_, rfl, h⟩
theorem X7_fault_E {σ : Mem} {Q : Int → Mem → Prop} (h : Q (σ 36 3) σ) : CI layC MX7_fault [vP 0] σ Q := by
  refine Cl.ofR (ls := [(0, vP 0)]) (show plainName RX7 = true by decide +kernel) (leb rfl) rfl ?_
  refine R_aload_n (pc := 0) 0 rfl rfl dX7_fault_0 ?_
  refine R_getP (pc := 1) (q' := 36) lC_0 rfl flX7_40 dX7_fault_1 ?_
  refine R_getI (pc := 4) lC_36 rfl flX7_93 dX7_fault_4 ?_
  exact R_iret (pc := 7) rfl dX7_fault_7 ⟨_, rfl, h⟩
def LX7_power_5 (x0 : Int) (x1 : Int) (x2 : Int) (x4 : Int) (σ : Mem) (Q : Int → Mem → Prop) : Prop := Rn layC MX7_power 5 [(0, vI x0), (1, vI x1), (2, vJ x2), (4, vI x4)] [] σ (qJ Q)
theorem X7_power_5 {x0 x1 x2 x4 : Int} {σ : Mem} {Q : Int → Mem → Prop} (h : ((x1 ≤ x4 → Q x2 σ) ∧ (x4 < x1 → I64 (x2 * x0) ∧ I32 (x4 + 1) ∧ LX7_power_5 x0 x1 (x2 * x0) (x4 + 1) σ Q))) : LX7_power_5 x0 x1 x2 x4 σ Q := by
  unfold LX7_power_5
  refine R_iload (pc := 5) 3 rfl dX7_power_5 ?_
  refine R_iload_n (pc := 7) 1 rfl rfl dX7_power_7 ?_
  refine R_icmp_ge (pc := 8) (tgt := 22) (by decide) dX7_power_8 (fun c => ?_) (fun c => ?_)
  · have h := h.1 c
    refine R_lload_n (pc := 22) 2 rfl rfl dX7_power_22 ?_
    exact R_lret (pc := 23) rfl dX7_power_23 ⟨_, rfl, h⟩
  · have h := h.2 c
    refine R_lload_n (pc := 11) 2 rfl rfl dX7_power_11 ?_
    refine R_iload_n (pc := 12) 0 rfl rfl dX7_power_12 ?_
    refine R_i2l (pc := 13) dX7_power_13 ?_
    obtain ⟨g, h⟩ := h
    refine R_lmul (pc := 14) g dX7_power_14 ?_
    refine R_lstore_n (pc := 15) (ls' := [(2, vJ (x2 * x0)), (0, vI x0), (1, vI x1), (4, vI x4)]) rfl rfl (ltb rfl) dX7_power_15 ?_
    obtain ⟨g, h⟩ := h
    refine R_iinc (pc := 16) 3 rfl rfl g (ls' := [(4, vI (x4 + 1)), (2, vJ (x2 * x0)), (0, vI x0), (1, vI x1)]) rfl (ltb rfl) dX7_power_16 ?_
    refine R_goto (pc := 19) (tgt := 5) (by decide) dX7_power_19 ?_
    refine R_sub [2, 3, 1, 0] rfl ?_
    exact h
theorem X7_power_E {x0 x1 : Int} {σ : Mem} {Q : Int → Mem → Prop} (h : LX7_power_5 x0 x1 1 0 σ Q) : CJ layC MX7_power [vI x0, vI x1] σ Q := by
  refine Cl.ofR (ls := [(0, vI x0), (1, vI x1)]) (show plainName RX7 = true by decide +kernel) (leb rfl) rfl ?_
  refine R_lconst (pc := 0) (x := 1) rfl dX7_power_0 ?_
  refine R_lstore_n (pc := 1) (ls' := [(2, vJ 1), (0, vI x0), (1, vI x1)]) rfl rfl (ltb rfl) dX7_power_1 ?_
  refine R_iconst (pc := 2) (by decide) dX7_power_2 ?_
  refine R_istore (pc := 3) (ls' := [(4, vI 0), (2, vJ 1), (0, vI x0), (1, vI x1)]) rfl (ltb rfl) dX7_power_3 ?_
  refine R_sub [2, 3, 1, 0] rfl ?_
  exact h
theorem X7_quotient_E {x0 x2 : Int} {σ : Mem} {Q : Int → Mem → Prop} (h : ((x2 ≤ 0 → Q 0 σ) ∧ (0 < x2 → x2 ≠ 0 ∧ I64 (Int.tdiv x0 x2) ∧ Q (Int.tdiv x0 x2) σ))) : CJ layC MX7_quotient [vJ x0, vJ x2] σ Q := by
  refine Cl.ofR (ls := [(0, vJ x0), (2, vJ x2)]) (show plainName RX7 = true by decide +kernel) (leb rfl) rfl ?_
  refine R_lload_n (pc := 0) 1 rfl rfl dX7_quotient_0 ?_
  refine R_lconst (pc := 1) (x := 0) rfl dX7_quotient_1 ?_
  refine R_lcmp_le (pc := 2) (tgt := 12) dX7_quotient_2 (by decide) dX7_quotient_3 (fun c => ?_) (fun c => ?_)
  · have h := h.1 c
    refine R_lconst (pc := 12) (x := 0) rfl dX7_quotient_12 ?_
    exact R_lret (pc := 13) rfl dX7_quotient_13 ⟨_, rfl, h⟩
  · have h := h.2 c
    refine R_lload_n (pc := 6) 0 rfl rfl dX7_quotient_6 ?_
    refine R_lload_n (pc := 7) 1 rfl rfl dX7_quotient_7 ?_
    obtain ⟨g0, h⟩ := h
    obtain ⟨g, h⟩ := h
    refine R_ldiv (pc := 8) g0 g dX7_quotient_8 ?_
    refine R_goto (pc := 9) (tgt := 13) (by decide) dX7_quotient_9 ?_
    exact R_lret (pc := 13) rfl dX7_quotient_13 ⟨_, rfl, h⟩
theorem X7_remainder_E {x0 x2 : Int} {σ : Mem} {Q : Int → Mem → Prop} (h : ((x2 ≤ 0 → Q 0 σ) ∧ (0 < x2 → x2 ≠ 0 ∧ Q (Int.tmod x0 x2) σ))) : CJ layC MX7_remainder [vJ x0, vJ x2] σ Q := by
  refine Cl.ofR (ls := [(0, vJ x0), (2, vJ x2)]) (show plainName RX7 = true by decide +kernel) (leb rfl) rfl ?_
  refine R_lload_n (pc := 0) 1 rfl rfl dX7_remainder_0 ?_
  refine R_lconst (pc := 1) (x := 0) rfl dX7_remainder_1 ?_
  refine R_lcmp_le (pc := 2) (tgt := 12) dX7_remainder_2 (by decide) dX7_remainder_3 (fun c => ?_) (fun c => ?_)
  · have h := h.1 c
    refine R_lconst (pc := 12) (x := 0) rfl dX7_remainder_12 ?_
    exact R_lret (pc := 13) rfl dX7_remainder_13 ⟨_, rfl, h⟩
  · have h := h.2 c
    refine R_lload_n (pc := 6) 0 rfl rfl dX7_remainder_6 ?_
    refine R_lload_n (pc := 7) 1 rfl rfl dX7_remainder_7 ?_
    obtain ⟨g0, h⟩ := h
    refine R_lrem (pc := 8) g0 dX7_remainder_8 ?_
    refine R_goto (pc := 9) (tgt := 13) (by decide) dX7_remainder_9 ?_
    exact R_lret (pc := 13) rfl dX7_remainder_13 ⟨_, rfl, h⟩
theorem X7_torn_E {σ : Mem} {Q : Int → Mem → Prop} (h : Q (σ 0 11) σ) : CI layC MX7_torn [vP 0] σ Q := by
  refine Cl.ofR (ls := [(0, vP 0)]) (show plainName RX7 = true by decide +kernel) (leb rfl) rfl ?_
  refine R_aload_n (pc := 0) 0 rfl rfl dX7_torn_0 ?_
  refine R_getI (pc := 1) lC_0 rfl flX7_68 dX7_torn_1 ?_
  exact R_iret (pc := 4) rfl dX7_torn_4 ⟨_, rfl, h⟩
theorem X7_within_E {x0 x1 x2 : Int} {σ : Mem} {Q : Int → Mem → Prop} (h : ((x0 < x1 → Q 0 σ) ∧ (x1 ≤ x0 → ((x2 < x0 → Q 0 σ) ∧ (x0 ≤ x2 → Q 1 σ))))) : CI layC MX7_within [vI x0, vI x1, vI x2] σ Q := by
  refine Cl.ofR (ls := [(0, vI x0), (1, vI x1), (2, vI x2)]) (show plainName RX7 = true by decide +kernel) (leb rfl) rfl ?_
  refine R_iload_n (pc := 0) 0 rfl rfl dX7_within_0 ?_
  refine R_iload_n (pc := 1) 1 rfl rfl dX7_within_1 ?_
  refine R_icmp_lt (pc := 2) (tgt := 14) (by decide) dX7_within_2 (fun c => ?_) (fun c => ?_)
  · have h := h.1 c
    refine R_iconst (pc := 14) (by decide) dX7_within_14 ?_
    exact R_zret (pc := 15) rfl (by decide) dX7_within_15 ⟨_, rfl, h⟩
  · have h := h.2 c
    refine R_iload_n (pc := 5) 0 rfl rfl dX7_within_5 ?_
    refine R_iload_n (pc := 6) 2 rfl rfl dX7_within_6 ?_
    refine R_icmp_gt (pc := 7) (tgt := 14) (by decide) dX7_within_7 (fun c => ?_) (fun c => ?_)
    · have h := h.1 c
      refine R_iconst (pc := 14) (by decide) dX7_within_14 ?_
      exact R_zret (pc := 15) rfl (by decide) dX7_within_15 ⟨_, rfl, h⟩
    · have h := h.2 c
      refine R_iconst (pc := 10) (by decide) dX7_within_10 ?_
      refine R_goto (pc := 11) (tgt := 15) (by decide) dX7_within_11 ?_
      exact R_zret (pc := 15) rfl (by decide) dX7_within_15 ⟨_, rfl, h⟩
theorem X0_add_E {b : Nat} (hb : isE b) {x1 x2 : Int} {σ : Mem} {Q : Int → Mem → Prop} (h : CI layC MX7_within [vI x1, vI 1, vI 9] σ (fun r2 σ1 => ((r2 = 0 → Q (-1) σ1) ∧ (r2 ≠ 0 → CI layC MX7_within [vI x2, vI 1, vI 99] σ1 (fun r4 σ3 => ((r4 ≠ 0 → (((σ3 b 2) < 5 → 0 ≤ σ3 b 2 ∧ σ3 b 2 < 5 ∧ 0 ≤ (upM σ3 (b + 1) (σ3 b 2) x1) b 2 ∧ (upM σ3 (b + 1) (σ3 b 2) x1) b 2 < 5 ∧ I32 (((upM (upM σ3 (b + 1) (σ3 b 2) x1) (b + 2) ((upM σ3 (b + 1) (σ3 b 2) x1) b 2) x2) b 2) + 1) ∧ Q ((upM (upM (upM σ3 (b + 1) (σ3 b 2) x1) (b + 2) ((upM σ3 (b + 1) (σ3 b 2) x1) b 2) x2) b 2 (((upM (upM σ3 (b + 1) (σ3 b 2) x1) (b + 2) ((upM σ3 (b + 1) (σ3 b 2) x1) b 2) x2) b 2) + 1)) b 2) (upM (upM (upM σ3 (b + 1) (σ3 b 2) x1) (b + 2) ((upM σ3 (b + 1) (σ3 b 2) x1) b 2) x2) b 2 (((upM (upM σ3 (b + 1) (σ3 b 2) x1) (b + 2) ((upM σ3 (b + 1) (σ3 b 2) x1) b 2) x2) b 2) + 1))) ∧ (5 ≤ (σ3 b 2) → Q (-3) σ3))) ∧ (r4 = 0 → Q (-1) σ3))))))) : CI layC MX0_add [vP b, vI x1, vI x2] σ Q := by
  refine Cl.ofR (ls := [(0, vP b), (1, vI x1), (2, vI x2)]) (show plainName RX0 = true by decide +kernel) (leb rfl) rfl ?_
  refine R_iload_n (pc := 0) 1 rfl rfl dX0_add_0 ?_
  refine R_iconst (pc := 1) (by decide) dX0_add_1 ?_
  refine R_bipush (pc := 2) (by decide) dX0_add_2 ?_
  refine R_callSNI (pc := 4) (as := [vI x1, vI 1, vI 9]) (st := []) rfl rfl kX7_within sX7_within (List.mem_of_getElem? (i := 11) rfl) (ltb rfl) rfl (leb rfl) dX0_add_4 h (fun r2 σ1 h => ?_)
  refine R_if_eq (pc := 7) (tgt := 20) (by decide) dX0_add_7 (fun c => ?_) (fun c => ?_)
  · have h := h.1 c
    refine R_iconst (pc := 20) (by decide) dX0_add_20 ?_
    exact R_iret (pc := 21) rfl dX0_add_21 ⟨_, rfl, h⟩
  · have h := h.2 c
    refine R_iload_n (pc := 10) 2 rfl rfl dX0_add_10 ?_
    refine R_iconst (pc := 11) (by decide) dX0_add_11 ?_
    refine R_bipush (pc := 12) (by decide) dX0_add_12 ?_
    refine R_callSNI (pc := 14) (as := [vI x2, vI 1, vI 99]) (st := []) rfl rfl kX7_within sX7_within (List.mem_of_getElem? (i := 11) rfl) (ltb rfl) rfl (leb rfl) dX0_add_14 h (fun r4 σ3 h => ?_)
    refine R_if_ne (pc := 17) (tgt := 22) (by decide) dX0_add_17 (fun c => ?_) (fun c => ?_)
    · have h := h.1 c
      refine R_aload_n (pc := 22) 0 rfl rfl dX0_add_22 ?_
      refine R_getI (pc := 23) hb.1 rfl flX0_18 dX0_add_23 ?_
      refine R_iconst (pc := 26) (by decide) dX0_add_26 ?_
      refine R_icmp_lt (pc := 27) (tgt := 33) (by decide) dX0_add_27 (fun c => ?_) (fun c => ?_)
      · have h := h.1 c
        refine R_aload_n (pc := 33) 0 rfl rfl dX0_add_33 ?_
        refine R_getP (pc := 34) (q' := (b + 1)) hb.1 rfl flX0_24 dX0_add_34 ?_
        refine R_aload_n (pc := 37) 0 rfl rfl dX0_add_37 ?_
        refine R_getI (pc := 38) hb.1 rfl flX0_18 dX0_add_38 ?_
        refine R_iload_n (pc := 41) 1 rfl rfl dX0_add_41 ?_
        obtain ⟨g0, g1, h⟩ := h
        refine R_iastore (pc := 42) hb.2.1 g0 g1 dX0_add_42 ?_
        refine R_aload_n (pc := 43) 0 rfl rfl dX0_add_43 ?_
        refine R_getP (pc := 44) (q' := (b + 2)) hb.1 rfl flX0_28 dX0_add_44 ?_
        refine R_aload_n (pc := 47) 0 rfl rfl dX0_add_47 ?_
        refine R_getI (pc := 48) hb.1 rfl flX0_18 dX0_add_48 ?_
        refine R_iload_n (pc := 51) 2 rfl rfl dX0_add_51 ?_
        obtain ⟨g0, g1, h⟩ := h
        refine R_iastore (pc := 52) hb.2.2.1 g0 g1 dX0_add_52 ?_
        refine R_aload_n (pc := 53) 0 rfl rfl dX0_add_53 ?_
        refine R_dup (pc := 54) rfl dX0_add_54 ?_
        refine R_getI (pc := 55) hb.1 rfl flX0_18 dX0_add_55 ?_
        refine R_iconst (pc := 58) (by decide) dX0_add_58 ?_
        obtain ⟨g, h⟩ := h
        refine R_iadd (pc := 59) g dX0_add_59 ?_
        refine R_putI (pc := 60) hb.1 rfl fpX0_18 dX0_add_60 ?_
        refine R_aload_n (pc := 63) 0 rfl rfl dX0_add_63 ?_
        refine R_getI (pc := 64) hb.1 rfl flX0_18 dX0_add_64 ?_
        exact R_iret (pc := 67) rfl dX0_add_67 ⟨_, rfl, h⟩
      · have h := h.2 c
        refine R_bipush (pc := 30) (by decide) dX0_add_30 ?_
        exact R_iret (pc := 32) rfl dX0_add_32 ⟨_, rfl, h⟩
    · have h := h.2 c
      refine R_iconst (pc := 20) (by decide) dX0_add_20 ?_
      exact R_iret (pc := 21) rfl dX0_add_21 ⟨_, rfl, h⟩
def LX0_remove_11 (b : Nat) (x2 : Int) (σ : Mem) (Q : Mem → Prop) : Prop := Rn layC MX0_remove 11 [(0, vP b), (2, vI x2)] [] σ (qV Q)
theorem X0_remove_11 {b : Nat} (hb : isE b) {x2 : Int} {σ : Mem} {Q : Mem → Prop} (h : I32 ((σ b 2) - 1) ∧ ((((σ b 2) - 1) ≤ x2 → I32 ((σ b 2) - 1) ∧ Q (upM σ b 2 ((σ b 2) - 1))) ∧ (x2 < ((σ b 2) - 1) → I32 (x2 + 1) ∧ 0 ≤ x2 + 1 ∧ x2 + 1 < 5 ∧ 0 ≤ x2 ∧ x2 < 5 ∧ I32 (x2 + 1) ∧ 0 ≤ x2 + 1 ∧ x2 + 1 < 5 ∧ 0 ≤ x2 ∧ x2 < 5 ∧ I32 (x2 + 1) ∧ LX0_remove_11 b (x2 + 1) (upM (upM σ (b + 1) x2 (σ (b + 1) (x2 + 1))) (b + 2) x2 ((upM σ (b + 1) x2 (σ (b + 1) (x2 + 1))) (b + 2) (x2 + 1))) Q))) : LX0_remove_11 b x2 σ Q := by
  unfold LX0_remove_11
  refine R_iload_n (pc := 11) 1 rfl rfl dX0_remove_11 ?_
  refine R_aload_n (pc := 12) 0 rfl rfl dX0_remove_12 ?_
  refine R_getI (pc := 13) hb.1 rfl flX0_18 dX0_remove_13 ?_
  refine R_iconst (pc := 16) (by decide) dX0_remove_16 ?_
  obtain ⟨g, h⟩ := h
  refine R_isub (pc := 17) g dX0_remove_17 ?_
  refine R_icmp_ge (pc := 18) (tgt := 55) (by decide) dX0_remove_18 (fun c => ?_) (fun c => ?_)
  · have h := h.1 c
    refine R_aload_n (pc := 55) 0 rfl rfl dX0_remove_55 ?_
    refine R_dup (pc := 56) rfl dX0_remove_56 ?_
    refine R_getI (pc := 57) hb.1 rfl flX0_18 dX0_remove_57 ?_
    refine R_iconst (pc := 60) (by decide) dX0_remove_60 ?_
    obtain ⟨g, h⟩ := h
    refine R_isub (pc := 61) g dX0_remove_61 ?_
    refine R_putI (pc := 62) hb.1 rfl fpX0_18 dX0_remove_62 ?_
    exact R_vret (pc := 65) rfl dX0_remove_65 ⟨rfl, h⟩
  · have h := h.2 c
    refine R_aload_n (pc := 21) 0 rfl rfl dX0_remove_21 ?_
    refine R_getP (pc := 22) (q' := (b + 1)) hb.1 rfl flX0_24 dX0_remove_22 ?_
    refine R_iload_n (pc := 25) 1 rfl rfl dX0_remove_25 ?_
    refine R_aload_n (pc := 26) 0 rfl rfl dX0_remove_26 ?_
    refine R_getP (pc := 27) (q' := (b + 1)) hb.1 rfl flX0_24 dX0_remove_27 ?_
    refine R_iload_n (pc := 30) 1 rfl rfl dX0_remove_30 ?_
    refine R_iconst (pc := 31) (by decide) dX0_remove_31 ?_
    obtain ⟨g, h⟩ := h
    refine R_iadd (pc := 32) g dX0_remove_32 ?_
    obtain ⟨g0, g1, h⟩ := h
    refine R_iaload (pc := 33) hb.2.1 g0 g1 dX0_remove_33 ?_
    obtain ⟨g0, g1, h⟩ := h
    refine R_iastore (pc := 34) hb.2.1 g0 g1 dX0_remove_34 ?_
    refine R_aload_n (pc := 35) 0 rfl rfl dX0_remove_35 ?_
    refine R_getP (pc := 36) (q' := (b + 2)) hb.1 rfl flX0_28 dX0_remove_36 ?_
    refine R_iload_n (pc := 39) 1 rfl rfl dX0_remove_39 ?_
    refine R_aload_n (pc := 40) 0 rfl rfl dX0_remove_40 ?_
    refine R_getP (pc := 41) (q' := (b + 2)) hb.1 rfl flX0_28 dX0_remove_41 ?_
    refine R_iload_n (pc := 44) 1 rfl rfl dX0_remove_44 ?_
    refine R_iconst (pc := 45) (by decide) dX0_remove_45 ?_
    obtain ⟨g, h⟩ := h
    refine R_iadd (pc := 46) g dX0_remove_46 ?_
    obtain ⟨g0, g1, h⟩ := h
    refine R_iaload (pc := 47) hb.2.2.1 g0 g1 dX0_remove_47 ?_
    obtain ⟨g0, g1, h⟩ := h
    refine R_iastore (pc := 48) hb.2.2.1 g0 g1 dX0_remove_48 ?_
    obtain ⟨g, h⟩ := h
    refine R_iinc (pc := 49) 1 rfl rfl g (ls' := [(2, vI (x2 + 1)), (0, vP b)]) rfl (ltb rfl) dX0_remove_49 ?_
    refine R_goto (pc := 52) (tgt := 11) (by decide) dX0_remove_52 ?_
    refine R_sub [1, 0] rfl ?_
    exact h
theorem X0_remove_E {b : Nat} (hb : isE b) {x1 : Int} {σ : Mem} {Q : Mem → Prop} (h : CI layC MX0_has [vP b, vI x1] σ (fun r2 σ1 => ((r2 ≠ 0 → LX0_remove_11 b x1 σ1 Q) ∧ (r2 = 0 → Q σ1)))) : CV layC MX0_remove [vP b, vI x1] σ Q := by
  refine Cl.ofR (ls := [(0, vP b), (1, vI x1)]) (show plainName RX0 = true by decide +kernel) (leb rfl) rfl ?_
  refine R_aload_n (pc := 0) 0 rfl rfl dX0_remove_0 ?_
  refine R_iload_n (pc := 1) 1 rfl rfl dX0_remove_1 ?_
  refine R_callVI (pc := 2) (as := [vI x1]) (st := []) rfl rfl kX0_has sX0_has hb.1 rfl w_3_100 (ltb rfl) rfl (leb rfl) dX0_remove_2 h (fun r2 σ1 h => ?_)
  refine R_if_ne (pc := 5) (tgt := 9) (by decide) dX0_remove_5 (fun c => ?_) (fun c => ?_)
  · have h := h.1 c
    refine R_iload_n (pc := 9) 1 rfl rfl dX0_remove_9 ?_
    refine R_istore_n (pc := 10) (ls' := [(2, vI x1), (0, vP b), (1, vI x1)]) rfl rfl (ltb rfl) dX0_remove_10 ?_
    refine R_sub [1, 0] rfl ?_
    exact h
  · have h := h.2 c
    exact R_vret (pc := 8) rfl dX0_remove_8 ⟨rfl, h⟩
def LX2_giveNext_4 (b : Nat) (x1 : Int) (x2 : Int) (σ : Mem) (Q : Mem → Prop) : Prop := Rn layC MX2_giveNext 4 [(0, vP b), (1, vI x1), (2, vI x2)] [] σ (qV Q)
theorem X2_giveNext_4 {b : Nat} (hb : isPt b) {x1 x2 : Int} {σ : Mem} {Q : Mem → Prop} (h : (((σ b 6) ≤ x2 → (((σ b 6) ≤ x1 → Q σ) ∧ (x1 < (σ b 6) → 0 ≤ x1 ∧ x1 < 5 ∧ I32 ((σ (b + 3) x1) + 1) ∧ 0 ≤ x1 ∧ x1 < 5 ∧ Q (upM σ (b + 3) x1 ((σ (b + 3) x1) + 1))))) ∧ (x2 < (σ b 6) → 0 ≤ x2 ∧ x2 < 5 ∧ CI layC MX2_rowDivisor [vP b, vI x1] σ (fun r2 σ1 => I64 ((σ (b + 1) x2) * r2) ∧ 0 ≤ x1 ∧ x1 < 5 ∧ CI layC MX2_rowDivisor [vP b, vI x2] σ1 (fun r4 σ3 => I64 ((σ1 (b + 1) x1) * r4) ∧ ((((σ (b + 1) x2) * r2) ≤ ((σ1 (b + 1) x1) * r4) → I32 (x2 + 1) ∧ LX2_giveNext_4 b x1 (x2 + 1) σ3 Q) ∧ (((σ1 (b + 1) x1) * r4) < ((σ (b + 1) x2) * r2) → I32 (x2 + 1) ∧ LX2_giveNext_4 b x2 (x2 + 1) σ3 Q))))))) : LX2_giveNext_4 b x1 x2 σ Q := by
  unfold LX2_giveNext_4
  refine R_iload_n (pc := 4) 2 rfl rfl dX2_giveNext_4 ?_
  refine R_aload_n (pc := 5) 0 rfl rfl dX2_giveNext_5 ?_
  refine R_getI (pc := 6) hb.1 rfl flX2_32 dX2_giveNext_6 ?_
  refine R_icmp_ge (pc := 9) (tgt := 50) (by decide) dX2_giveNext_9 (fun c => ?_) (fun c => ?_)
  · have h := h.1 c
    refine R_iload_n (pc := 50) 1 rfl rfl dX2_giveNext_50 ?_
    refine R_aload_n (pc := 51) 0 rfl rfl dX2_giveNext_51 ?_
    refine R_getI (pc := 52) hb.1 rfl flX2_32 dX2_giveNext_52 ?_
    refine R_icmp_ge (pc := 55) (tgt := 68) (by decide) dX2_giveNext_55 (fun c => ?_) (fun c => ?_)
    · have h := h.1 c
      exact R_vret (pc := 68) rfl dX2_giveNext_68 ⟨rfl, h⟩
    · have h := h.2 c
      refine R_aload_n (pc := 58) 0 rfl rfl dX2_giveNext_58 ?_
      refine R_getP (pc := 59) (q' := (b + 3)) hb.1 rfl flX2_25 dX2_giveNext_59 ?_
      refine R_iload_n (pc := 62) 1 rfl rfl dX2_giveNext_62 ?_
      refine R_dup2 (pc := 63) rfl rfl dX2_giveNext_63 ?_
      obtain ⟨g0, g1, h⟩ := h
      refine R_iaload (pc := 64) hb.2.2.2.1 g0 g1 dX2_giveNext_64 ?_
      refine R_iconst (pc := 65) (by decide) dX2_giveNext_65 ?_
      obtain ⟨g, h⟩ := h
      refine R_iadd (pc := 66) g dX2_giveNext_66 ?_
      obtain ⟨g0, g1, h⟩ := h
      refine R_iastore (pc := 67) hb.2.2.2.1 g0 g1 dX2_giveNext_67 ?_
      exact R_vret (pc := 68) rfl dX2_giveNext_68 ⟨rfl, h⟩
  · have h := h.2 c
    refine R_aload_n (pc := 12) 0 rfl rfl dX2_giveNext_12 ?_
    refine R_getP (pc := 13) (q' := (b + 1)) hb.1 rfl flX2_18 dX2_giveNext_13 ?_
    refine R_iload_n (pc := 16) 2 rfl rfl dX2_giveNext_16 ?_
    obtain ⟨g0, g1, h⟩ := h
    refine R_laload (pc := 17) hb.2.1 g0 g1 dX2_giveNext_17 ?_
    refine R_aload_n (pc := 18) 0 rfl rfl dX2_giveNext_18 ?_
    refine R_iload_n (pc := 19) 1 rfl rfl dX2_giveNext_19 ?_
    refine R_callVI (pc := 20) (as := [vI x1]) (st := [vJ (σ (b + 1) x2)]) rfl rfl kX2_rowDivisor sX2_rowDivisor hb.1 rfl w_3_27 (ltb rfl) rfl (leb rfl) dX2_giveNext_20 h (fun r2 σ1 h => ?_)
    refine R_i2l (pc := 23) dX2_giveNext_23 ?_
    obtain ⟨g, h⟩ := h
    refine R_lmul (pc := 24) g dX2_giveNext_24 ?_
    refine R_aload_n (pc := 25) 0 rfl rfl dX2_giveNext_25 ?_
    refine R_getP (pc := 26) (q' := (b + 1)) hb.1 rfl flX2_18 dX2_giveNext_26 ?_
    refine R_iload_n (pc := 29) 1 rfl rfl dX2_giveNext_29 ?_
    obtain ⟨g0, g1, h⟩ := h
    refine R_laload (pc := 30) hb.2.1 g0 g1 dX2_giveNext_30 ?_
    refine R_aload_n (pc := 31) 0 rfl rfl dX2_giveNext_31 ?_
    refine R_iload_n (pc := 32) 2 rfl rfl dX2_giveNext_32 ?_
    refine R_callVI (pc := 33) (as := [vI x2]) (st := [vJ (σ1 (b + 1) x1), vJ ((σ (b + 1) x2) * r2)]) rfl rfl kX2_rowDivisor sX2_rowDivisor hb.1 rfl w_3_27 (ltb rfl) rfl (leb rfl) dX2_giveNext_33 h (fun r4 σ3 h => ?_)
    refine R_i2l (pc := 36) dX2_giveNext_36 ?_
    obtain ⟨g, h⟩ := h
    refine R_lmul (pc := 37) g dX2_giveNext_37 ?_
    refine R_lcmp_le (pc := 38) (tgt := 44) dX2_giveNext_38 (by decide) dX2_giveNext_39 (fun c => ?_) (fun c => ?_)
    · have h := h.1 c
      obtain ⟨g, h⟩ := h
      refine R_iinc (pc := 44) 2 rfl rfl g (ls' := [(2, vI (x2 + 1)), (0, vP b), (1, vI x1)]) rfl (ltb rfl) dX2_giveNext_44 ?_
      refine R_goto (pc := 47) (tgt := 4) (by decide) dX2_giveNext_47 ?_
      refine R_sub [1, 2, 0] rfl ?_
      exact h
    · have h := h.2 c
      refine R_iload_n (pc := 42) 2 rfl rfl dX2_giveNext_42 ?_
      refine R_istore_n (pc := 43) (ls' := [(1, vI x2), (0, vP b), (2, vI x2)]) rfl rfl (ltb rfl) dX2_giveNext_43 ?_
      obtain ⟨g, h⟩ := h
      refine R_iinc (pc := 44) 2 rfl rfl g (ls' := [(2, vI (x2 + 1)), (1, vI x2), (0, vP b)]) rfl (ltb rfl) dX2_giveNext_44 ?_
      refine R_goto (pc := 47) (tgt := 4) (by decide) dX2_giveNext_47 ?_
      refine R_sub [2, 1, 0] rfl ?_
      exact h
theorem X2_giveNext_E {b : Nat} (hb : isPt b) {σ : Mem} {Q : Mem → Prop} (h : LX2_giveNext_4 b 0 1 σ Q) : CV layC MX2_giveNext [vP b] σ Q := by
  refine Cl.ofR (ls := [(0, vP b)]) (show plainName RX2 = true by decide +kernel) (leb rfl) rfl ?_
  refine R_iconst (pc := 0) (by decide) dX2_giveNext_0 ?_
  refine R_istore_n (pc := 1) (ls' := [(1, vI 0), (0, vP b)]) rfl rfl (ltb rfl) dX2_giveNext_1 ?_
  refine R_iconst (pc := 2) (by decide) dX2_giveNext_2 ?_
  refine R_istore_n (pc := 3) (ls' := [(2, vI 1), (1, vI 0), (0, vP b)]) rfl rfl (ltb rfl) dX2_giveNext_3 ?_
  refine R_sub [2, 1, 0] rfl ?_
  exact h
def LX2_giveQuotasLess_2 (b : Nat) (x1 : Int) (x2 : Int) (σ : Mem) (Q : Mem → Prop) : Prop := Rn layC MX2_giveQuotasLess 2 [(0, vP b), (1, vI x1), (2, vI x2)] [] σ (qV Q)
theorem X2_giveQuotasLess_2 {b : Nat} (hb : isPt b) {x1 x2 : Int} {σ : Mem} {Q : Mem → Prop} (h : (((σ b 6) ≤ x2 → Q σ) ∧ (x2 < (σ b 6) → 0 ≤ x2 ∧ x2 < 5 ∧ I64 ((σ b 8) * (σ (b + 1) x2)) ∧ CJ layC MX7_quotient [vJ ((σ b 8) * (σ (b + 1) x2)), vJ (σ b 1)] σ (fun r2 σ1 => I64 (r2 - x1) ∧ I32 (max 0 (r2 - x1)) ∧ 0 ≤ x2 ∧ x2 < 5 ∧ I32 (x2 + 1) ∧ LX2_giveQuotasLess_2 b x1 (x2 + 1) (upM σ1 (b + 3) x2 (max 0 (r2 - x1))) Q)))) : LX2_giveQuotasLess_2 b x1 x2 σ Q := by
  unfold LX2_giveQuotasLess_2
  refine R_iload_n (pc := 2) 2 rfl rfl dX2_giveQuotasLess_2 ?_
  refine R_aload_n (pc := 3) 0 rfl rfl dX2_giveQuotasLess_3 ?_
  refine R_getI (pc := 4) hb.1 rfl flX2_32 dX2_giveQuotasLess_4 ?_
  refine R_icmp_ge (pc := 7) (tgt := 49) (by decide) dX2_giveQuotasLess_7 (fun c => ?_) (fun c => ?_)
  · have h := h.1 c
    exact R_vret (pc := 49) rfl dX2_giveQuotasLess_49 ⟨rfl, h⟩
  · have h := h.2 c
    refine R_aload_n (pc := 10) 0 rfl rfl dX2_giveQuotasLess_10 ?_
    refine R_getP (pc := 11) (q' := (b + 3)) hb.1 rfl flX2_25 dX2_giveQuotasLess_11 ?_
    refine R_iload_n (pc := 14) 2 rfl rfl dX2_giveQuotasLess_14 ?_
    refine R_lconst (pc := 15) (x := 0) rfl dX2_giveQuotasLess_15 ?_
    refine R_aload_n (pc := 16) 0 rfl rfl dX2_giveQuotasLess_16 ?_
    refine R_getI (pc := 17) hb.1 rfl flX2_39 dX2_giveQuotasLess_17 ?_
    refine R_i2l (pc := 20) dX2_giveQuotasLess_20 ?_
    refine R_aload_n (pc := 21) 0 rfl rfl dX2_giveQuotasLess_21 ?_
    refine R_getP (pc := 22) (q' := (b + 1)) hb.1 rfl flX2_18 dX2_giveQuotasLess_22 ?_
    refine R_iload_n (pc := 25) 2 rfl rfl dX2_giveQuotasLess_25 ?_
    obtain ⟨g0, g1, h⟩ := h
    refine R_laload (pc := 26) hb.2.1 g0 g1 dX2_giveQuotasLess_26 ?_
    obtain ⟨g, h⟩ := h
    refine R_lmul (pc := 27) g dX2_giveQuotasLess_27 ?_
    refine R_aload_n (pc := 28) 0 rfl rfl dX2_giveQuotasLess_28 ?_
    refine R_getJ (pc := 29) hb.1 rfl flX2_15 dX2_giveQuotasLess_29 ?_
    refine R_callSNJ (pc := 32) (as := [vJ ((σ b 8) * (σ (b + 1) x2)), vJ (σ b 1)]) (st := [vJ 0, vI x2, vP (b + 3)]) rfl rfl kX7_quotient sX7_quotient (List.mem_of_getElem? (i := 13) rfl) (ltb rfl) rfl (leb rfl) dX2_giveQuotasLess_32 h (fun r2 σ1 h => ?_)
    refine R_iload_n (pc := 35) 1 rfl rfl dX2_giveQuotasLess_35 ?_
    refine R_i2l (pc := 36) dX2_giveQuotasLess_36 ?_
    obtain ⟨g, h⟩ := h
    refine R_lsub (pc := 37) g dX2_giveQuotasLess_37 ?_
    refine R_lmax (pc := 38) w_3_4 w_3_5 w_1_15 w_3_6 (leb rfl) (leb rfl) dX2_giveQuotasLess_38 ?_
    obtain ⟨g, h⟩ := h
    refine R_l2i (pc := 41) g dX2_giveQuotasLess_41 ?_
    obtain ⟨g0, g1, h⟩ := h
    refine R_iastore (pc := 42) hb.2.2.2.1 g0 g1 dX2_giveQuotasLess_42 ?_
    obtain ⟨g, h⟩ := h
    refine R_iinc (pc := 43) 2 rfl rfl g (ls' := [(2, vI (x2 + 1)), (0, vP b), (1, vI x1)]) rfl (ltb rfl) dX2_giveQuotasLess_43 ?_
    refine R_goto (pc := 46) (tgt := 2) (by decide) dX2_giveQuotasLess_46 ?_
    refine R_sub [1, 2, 0] rfl ?_
    exact h
theorem X2_giveQuotasLess_E {b : Nat} (hb : isPt b) {x1 : Int} {σ : Mem} {Q : Mem → Prop} (h : LX2_giveQuotasLess_2 b x1 0 σ Q) : CV layC MX2_giveQuotasLess [vP b, vI x1] σ Q := by
  refine Cl.ofR (ls := [(0, vP b), (1, vI x1)]) (show plainName RX2 = true by decide +kernel) (leb rfl) rfl ?_
  refine R_iconst (pc := 0) (by decide) dX2_giveQuotasLess_0 ?_
  refine R_istore_n (pc := 1) (ls' := [(2, vI 0), (0, vP b), (1, vI x1)]) rfl rfl (ltb rfl) dX2_giveQuotasLess_1 ?_
  refine R_sub [1, 2, 0] rfl ?_
  exact h
def LX2_giveTold_7 (b : Nat) (x1 : Int) (x2 : Int) (σ : Mem) (Q : Mem → Prop) : Prop := Rn layC MX2_giveTold 7 [(0, vP b), (1, vI x1), (2, vI x2)] [] σ (qV Q)
theorem X2_giveTold_7 {b : Nat} (hb : isPt b) {x1 x2 : Int} {σ : Mem} {Q : Mem → Prop} (h : (((σ b 6) ≤ x2 → Q σ) ∧ (x2 < (σ b 6) → 0 ≤ x2 ∧ x2 < 5 ∧ I64 ((σ b 8) * (σ (b + 1) x2)) ∧ CJ layC MX7_quotient [vJ ((σ b 8) * (σ (b + 1) x2)), vJ (σ b 0)] σ (fun r2 σ1 => I32 (min x1 r2) ∧ 0 ≤ x2 ∧ x2 < 5 ∧ 0 ≤ x2 ∧ x2 < 5 ∧ I32 (x1 - ((upM σ1 (b + 3) x2 (min x1 r2)) (b + 3) x2)) ∧ I32 (x2 + 1) ∧ LX2_giveTold_7 b (x1 - ((upM σ1 (b + 3) x2 (min x1 r2)) (b + 3) x2)) (x2 + 1) (upM σ1 (b + 3) x2 (min x1 r2)) Q)))) : LX2_giveTold_7 b x1 x2 σ Q := by
  unfold LX2_giveTold_7
  refine R_iload_n (pc := 7) 2 rfl rfl dX2_giveTold_7 ?_
  refine R_aload_n (pc := 8) 0 rfl rfl dX2_giveTold_8 ?_
  refine R_getI (pc := 9) hb.1 rfl flX2_32 dX2_giveTold_9 ?_
  refine R_icmp_ge (pc := 12) (tgt := 61) (by decide) dX2_giveTold_12 (fun c => ?_) (fun c => ?_)
  · have h := h.1 c
    exact R_vret (pc := 61) rfl dX2_giveTold_61 ⟨rfl, h⟩
  · have h := h.2 c
    refine R_aload_n (pc := 15) 0 rfl rfl dX2_giveTold_15 ?_
    refine R_getP (pc := 16) (q' := (b + 3)) hb.1 rfl flX2_25 dX2_giveTold_16 ?_
    refine R_iload_n (pc := 19) 2 rfl rfl dX2_giveTold_19 ?_
    refine R_iload_n (pc := 20) 1 rfl rfl dX2_giveTold_20 ?_
    refine R_i2l (pc := 21) dX2_giveTold_21 ?_
    refine R_aload_n (pc := 22) 0 rfl rfl dX2_giveTold_22 ?_
    refine R_getI (pc := 23) hb.1 rfl flX2_39 dX2_giveTold_23 ?_
    refine R_i2l (pc := 26) dX2_giveTold_26 ?_
    refine R_aload_n (pc := 27) 0 rfl rfl dX2_giveTold_27 ?_
    refine R_getP (pc := 28) (q' := (b + 1)) hb.1 rfl flX2_18 dX2_giveTold_28 ?_
    refine R_iload_n (pc := 31) 2 rfl rfl dX2_giveTold_31 ?_
    obtain ⟨g0, g1, h⟩ := h
    refine R_laload (pc := 32) hb.2.1 g0 g1 dX2_giveTold_32 ?_
    obtain ⟨g, h⟩ := h
    refine R_lmul (pc := 33) g dX2_giveTold_33 ?_
    refine R_aload_n (pc := 34) 0 rfl rfl dX2_giveTold_34 ?_
    refine R_getJ (pc := 35) hb.1 rfl flX2_9 dX2_giveTold_35 ?_
    refine R_callSNJ (pc := 38) (as := [vJ ((σ b 8) * (σ (b + 1) x2)), vJ (σ b 0)]) (st := [vJ x1, vI x2, vP (b + 3)]) rfl rfl kX7_quotient sX7_quotient (List.mem_of_getElem? (i := 13) rfl) (ltb rfl) rfl (leb rfl) dX2_giveTold_38 h (fun r2 σ1 h => ?_)
    refine R_lmin (pc := 41) w_2_233 w_2_234 w_1_15 w_2_235 (leb rfl) (leb rfl) dX2_giveTold_41 ?_
    obtain ⟨g, h⟩ := h
    refine R_l2i (pc := 44) g dX2_giveTold_44 ?_
    obtain ⟨g0, g1, h⟩ := h
    refine R_iastore (pc := 45) hb.2.2.2.1 g0 g1 dX2_giveTold_45 ?_
    refine R_iload_n (pc := 46) 1 rfl rfl dX2_giveTold_46 ?_
    refine R_aload_n (pc := 47) 0 rfl rfl dX2_giveTold_47 ?_
    refine R_getP (pc := 48) (q' := (b + 3)) hb.1 rfl flX2_25 dX2_giveTold_48 ?_
    refine R_iload_n (pc := 51) 2 rfl rfl dX2_giveTold_51 ?_
    obtain ⟨g0, g1, h⟩ := h
    refine R_iaload (pc := 52) hb.2.2.2.1 g0 g1 dX2_giveTold_52 ?_
    obtain ⟨g, h⟩ := h
    refine R_isub (pc := 53) g dX2_giveTold_53 ?_
    refine R_istore_n (pc := 54) (ls' := [(1, vI (x1 - ((upM σ1 (b + 3) x2 (min x1 r2)) (b + 3) x2))), (0, vP b), (2, vI x2)]) rfl rfl (ltb rfl) dX2_giveTold_54 ?_
    obtain ⟨g, h⟩ := h
    refine R_iinc (pc := 55) 2 rfl rfl g (ls' := [(2, vI (x2 + 1)), (1, vI (x1 - ((upM σ1 (b + 3) x2 (min x1 r2)) (b + 3) x2))), (0, vP b)]) rfl (ltb rfl) dX2_giveTold_55 ?_
    refine R_goto (pc := 58) (tgt := 7) (by decide) dX2_giveTold_58 ?_
    refine R_sub [2, 1, 0] rfl ?_
    exact h
theorem X2_giveTold_E {b : Nat} (hb : isPt b) {σ : Mem} {Q : Mem → Prop} (h : LX2_giveTold_7 b (σ b 8) 0 σ Q) : CV layC MX2_giveTold [vP b] σ Q := by
  refine Cl.ofR (ls := [(0, vP b)]) (show plainName RX2 = true by decide +kernel) (leb rfl) rfl ?_
  refine R_aload_n (pc := 0) 0 rfl rfl dX2_giveTold_0 ?_
  refine R_getI (pc := 1) hb.1 rfl flX2_39 dX2_giveTold_1 ?_
  refine R_istore_n (pc := 4) (ls' := [(1, vI (σ b 8)), (0, vP b)]) rfl rfl (ltb rfl) dX2_giveTold_4 ?_
  refine R_iconst (pc := 5) (by decide) dX2_giveTold_5 ?_
  refine R_istore_n (pc := 6) (ls' := [(2, vI 0), (1, vI (σ b 8)), (0, vP b)]) rfl rfl (ltb rfl) dX2_giveTold_6 ?_
  refine R_sub [2, 1, 0] rfl ?_
  exact h
def LX2_givesAs_2 (b : Nat) (e : Nat) (x2 : Int) (σ : Mem) (Q : Int → Mem → Prop) : Prop := Rn layC MX2_givesAs 2 [(0, vP b), (1, vP e), (2, vI x2)] [] σ (qI Q)
theorem X2_givesAs_2 {b : Nat} (hb : isPt b) {e : Nat} (he : isPt e) {x2 : Int} {σ : Mem} {Q : Int → Mem → Prop} (h : (((σ b 6) ≤ x2 → Q 1 σ) ∧ (x2 < (σ b 6) → 0 ≤ x2 ∧ x2 < 5 ∧ CI layC MX2_got [vP e, vI x2] σ (fun r2 σ1 => (((σ (b + 3) x2) = r2 → I32 (x2 + 1) ∧ LX2_givesAs_2 b e (x2 + 1) σ1 Q) ∧ ((σ (b + 3) x2) ≠ r2 → Q 0 σ1)))))) : LX2_givesAs_2 b e x2 σ Q := by
  unfold LX2_givesAs_2
  refine R_iload_n (pc := 2) 2 rfl rfl dX2_givesAs_2 ?_
  refine R_aload_n (pc := 3) 0 rfl rfl dX2_givesAs_3 ?_
  refine R_getI (pc := 4) hb.1 rfl flX2_32 dX2_givesAs_4 ?_
  refine R_icmp_ge (pc := 7) (tgt := 32) (by decide) dX2_givesAs_7 (fun c => ?_) (fun c => ?_)
  · have h := h.1 c
    refine R_iconst (pc := 32) (by decide) dX2_givesAs_32 ?_
    exact R_zret (pc := 33) rfl (by decide) dX2_givesAs_33 ⟨_, rfl, h⟩
  · have h := h.2 c
    refine R_aload_n (pc := 10) 0 rfl rfl dX2_givesAs_10 ?_
    refine R_getP (pc := 11) (q' := (b + 3)) hb.1 rfl flX2_25 dX2_givesAs_11 ?_
    refine R_iload_n (pc := 14) 2 rfl rfl dX2_givesAs_14 ?_
    obtain ⟨g0, g1, h⟩ := h
    refine R_iaload (pc := 15) hb.2.2.2.1 g0 g1 dX2_givesAs_15 ?_
    refine R_aload_n (pc := 16) 1 rfl rfl dX2_givesAs_16 ?_
    refine R_iload_n (pc := 17) 2 rfl rfl dX2_givesAs_17 ?_
    refine R_callVI (pc := 18) (as := [vI x2]) (st := [vI (σ (b + 3) x2)]) rfl rfl kX2_got sX2_got he.1 rfl w_3_183 (ltb rfl) rfl (leb rfl) dX2_givesAs_18 h (fun r2 σ1 h => ?_)
    refine R_icmp_eq (pc := 21) (tgt := 26) (by decide) dX2_givesAs_21 (fun c => ?_) (fun c => ?_)
    · have h := h.1 c
      obtain ⟨g, h⟩ := h
      refine R_iinc (pc := 26) 2 rfl rfl g (ls' := [(2, vI (x2 + 1)), (0, vP b), (1, vP e)]) rfl (ltb rfl) dX2_givesAs_26 ?_
      refine R_goto (pc := 29) (tgt := 2) (by decide) dX2_givesAs_29 ?_
      refine R_sub [1, 2, 0] rfl ?_
      exact h
    · have h := h.2 c
      refine R_iconst (pc := 24) (by decide) dX2_givesAs_24 ?_
      exact R_zret (pc := 25) rfl (by decide) dX2_givesAs_25 ⟨_, rfl, h⟩
theorem X2_givesAs_E {b : Nat} (hb : isPt b) {e : Nat} (he : isPt e) {σ : Mem} {Q : Int → Mem → Prop} (h : LX2_givesAs_2 b e 0 σ Q) : CI layC MX2_givesAs [vP b, vP e] σ Q := by
  refine Cl.ofR (ls := [(0, vP b), (1, vP e)]) (show plainName RX2 = true by decide +kernel) (leb rfl) rfl ?_
  refine R_iconst (pc := 0) (by decide) dX2_givesAs_0 ?_
  refine R_istore_n (pc := 1) (ls' := [(2, vI 0), (0, vP b), (1, vP e)]) rfl rfl (ltb rfl) dX2_givesAs_1 ?_
  refine R_sub [1, 2, 0] rfl ?_
  exact h
def LX2_isAsSeen_2 (b : Nat) (e : Nat) (x2 : Int) (σ : Mem) (Q : Int → Mem → Prop) : Prop := Rn layC MX2_isAsSeen 2 [(0, vP b), (1, vP e), (2, vI x2)] [] σ (qI Q)
theorem X2_isAsSeen_2 {b : Nat} (hb : isPt b) {e : Nat} (he : isE e) {x2 : Int} {σ : Mem} {Q : Int → Mem → Prop} (h : (((σ e 3) ≤ x2 → Q 1 σ) ∧ (x2 < (σ e 3) → 0 ≤ x2 ∧ x2 < 6 ∧ (((σ b 6) ≤ (σ (e + 3) x2) → Q 0 σ) ∧ ((σ (e + 3) x2) < (σ b 6) → CI layC MX2_got [vP b, vI (σ (e + 3) x2)] σ (fun r2 σ1 => 0 ≤ x2 ∧ x2 < 6 ∧ ((r2 = (σ1 (e + 4) x2) → I32 (x2 + 1) ∧ LX2_isAsSeen_2 b e (x2 + 1) σ1 Q) ∧ (r2 ≠ (σ1 (e + 4) x2) → Q 0 σ1)))))))) : LX2_isAsSeen_2 b e x2 σ Q := by
  unfold LX2_isAsSeen_2
  refine R_iload_n (pc := 2) 2 rfl rfl dX2_isAsSeen_2 ?_
  refine R_aload_n (pc := 3) 1 rfl rfl dX2_isAsSeen_3 ?_
  refine R_getI (pc := 4) he.1 rfl flX2_85 dX2_isAsSeen_4 ?_
  refine R_icmp_ge (pc := 7) (tgt := 47) (by decide) dX2_isAsSeen_7 (fun c => ?_) (fun c => ?_)
  · have h := h.1 c
    refine R_iconst (pc := 47) (by decide) dX2_isAsSeen_47 ?_
    exact R_zret (pc := 48) rfl (by decide) dX2_isAsSeen_48 ⟨_, rfl, h⟩
  · have h := h.2 c
    refine R_aload_n (pc := 10) 1 rfl rfl dX2_isAsSeen_10 ?_
    refine R_getP (pc := 11) (q' := (e + 3)) he.1 rfl flX2_88 dX2_isAsSeen_11 ?_
    refine R_iload_n (pc := 14) 2 rfl rfl dX2_isAsSeen_14 ?_
    obtain ⟨g0, g1, h⟩ := h
    refine R_iaload (pc := 15) he.2.2.2.1 g0 g1 dX2_isAsSeen_15 ?_
    refine R_istore_n (pc := 16) (ls' := [(3, vI (σ (e + 3) x2)), (0, vP b), (1, vP e), (2, vI x2)]) rfl rfl (ltb rfl) dX2_isAsSeen_16 ?_
    refine R_iload_n (pc := 17) 0 rfl rfl dX2_isAsSeen_17 ?_
    refine R_aload_n (pc := 18) 1 rfl rfl dX2_isAsSeen_18 ?_
    refine R_getI (pc := 19) hb.1 rfl flX2_32 dX2_isAsSeen_19 ?_
    refine R_icmp_ge (pc := 22) (tgt := 39) (by decide) dX2_isAsSeen_22 (fun c => ?_) (fun c => ?_)
    · have h := h.1 c
      refine R_iconst (pc := 39) (by decide) dX2_isAsSeen_39 ?_
      exact R_zret (pc := 40) rfl (by decide) dX2_isAsSeen_40 ⟨_, rfl, h⟩
    · have h := h.2 c
      refine R_aload_n (pc := 25) 1 rfl rfl dX2_isAsSeen_25 ?_
      refine R_iload_n (pc := 26) 0 rfl rfl dX2_isAsSeen_26 ?_
      refine R_callVI (pc := 27) (as := [vI (σ (e + 3) x2)]) (st := []) rfl rfl kX2_got sX2_got hb.1 rfl w_3_183 (ltb rfl) rfl (leb rfl) dX2_isAsSeen_27 h (fun r2 σ1 h => ?_)
      refine R_aload_n (pc := 30) 2 rfl rfl dX2_isAsSeen_30 ?_
      refine R_getP (pc := 31) (q' := (e + 4)) he.1 rfl flX2_91 dX2_isAsSeen_31 ?_
      refine R_iload_n (pc := 34) 3 rfl rfl dX2_isAsSeen_34 ?_
      obtain ⟨g0, g1, h⟩ := h
      refine R_iaload (pc := 35) he.2.2.2.2 g0 g1 dX2_isAsSeen_35 ?_
      refine R_icmp_eq (pc := 36) (tgt := 41) (by decide) dX2_isAsSeen_36 (fun c => ?_) (fun c => ?_)
      · have h := h.1 c
        obtain ⟨g, h⟩ := h
        refine R_iinc (pc := 41) 3 rfl rfl g (ls' := [(2, vI (x2 + 1)), (3, vI (σ (e + 3) x2)), (0, vP b), (1, vP e)]) rfl (ltb rfl) dX2_isAsSeen_41 ?_
        refine R_goto (pc := 44) (tgt := 2) (by decide) dX2_isAsSeen_44 ?_
        refine R_sub [2, 3, 0] rfl ?_
        exact h
      · have h := h.2 c
        refine R_iconst (pc := 39) (by decide) dX2_isAsSeen_39 ?_
        exact R_zret (pc := 40) rfl (by decide) dX2_isAsSeen_40 ⟨_, rfl, h⟩
theorem X2_isAsSeen_E {b : Nat} (hb : isPt b) {e : Nat} (he : isE e) {σ : Mem} {Q : Int → Mem → Prop} (h : LX2_isAsSeen_2 b e 0 σ Q) : CI layC MX2_isAsSeen [vP b, vP e] σ Q := by
  refine Cl.ofR (ls := [(0, vP b), (1, vP e)]) (show plainName RX2 = true by decide +kernel) (leb rfl) rfl ?_
  refine R_iconst (pc := 0) (by decide) dX2_isAsSeen_0 ?_
  refine R_istore_n (pc := 1) (ls' := [(2, vI 0), (0, vP b), (1, vP e)]) rfl rfl (ltb rfl) dX2_isAsSeen_1 ?_
  refine R_sub [1, 2, 0] rfl ?_
  exact h
theorem X2_isOff_E {b : Nat} (hb : isPt b) {x1 : Int} {σ : Mem} {Q : Int → Mem → Prop} (h : ((x1 < 0 → Q 0 σ) ∧ (0 ≤ x1 → (((σ b 6) ≤ x1 → Q 0 σ) ∧ (x1 < (σ b 6) → 0 ≤ x1 ∧ x1 < 5 ∧ I64 ((σ (b + 3) x1) * (σ b 1)) ∧ 0 ≤ x1 ∧ x1 < 5 ∧ I64 ((σ b 8) * (σ (b + 1) x1)) ∧ I64 (((σ (b + 3) x1) * (σ b 1)) - ((σ b 8) * (σ (b + 1) x1))) ∧ I64 (-(((σ (b + 3) x1) * (σ b 1)) - ((σ b 8) * (σ (b + 1) x1)))) ∧ (((absI (((σ (b + 3) x1) * (σ b 1)) - ((σ b 8) * (σ (b + 1) x1)))) < (σ b 1) → Q 0 σ) ∧ ((σ b 1) ≤ (absI (((σ (b + 3) x1) * (σ b 1)) - ((σ b 8) * (σ (b + 1) x1)))) → Q 1 σ))))))) : CI layC MX2_isOff [vP b, vI x1] σ Q := by
  refine Cl.ofR (ls := [(0, vP b), (1, vI x1)]) (show plainName RX2 = true by decide +kernel) (leb rfl) rfl ?_
  refine R_iload_n (pc := 0) 1 rfl rfl dX2_isOff_0 ?_
  refine R_if_lt (pc := 1) (tgt := 52) (by decide) dX2_isOff_1 (fun c => ?_) (fun c => ?_)
  · have h := h.1 c
    refine R_iconst (pc := 52) (by decide) dX2_isOff_52 ?_
    exact R_zret (pc := 53) rfl (by decide) dX2_isOff_53 ⟨_, rfl, h⟩
  · have h := h.2 c
    refine R_iload_n (pc := 4) 1 rfl rfl dX2_isOff_4 ?_
    refine R_aload_n (pc := 5) 0 rfl rfl dX2_isOff_5 ?_
    refine R_getI (pc := 6) hb.1 rfl flX2_32 dX2_isOff_6 ?_
    refine R_icmp_ge (pc := 9) (tgt := 52) (by decide) dX2_isOff_9 (fun c => ?_) (fun c => ?_)
    · have h := h.1 c
      refine R_iconst (pc := 52) (by decide) dX2_isOff_52 ?_
      exact R_zret (pc := 53) rfl (by decide) dX2_isOff_53 ⟨_, rfl, h⟩
    · have h := h.2 c
      refine R_aload_n (pc := 12) 0 rfl rfl dX2_isOff_12 ?_
      refine R_getP (pc := 13) (q' := (b + 3)) hb.1 rfl flX2_25 dX2_isOff_13 ?_
      refine R_iload_n (pc := 16) 1 rfl rfl dX2_isOff_16 ?_
      obtain ⟨g0, g1, h⟩ := h
      refine R_iaload (pc := 17) hb.2.2.2.1 g0 g1 dX2_isOff_17 ?_
      refine R_i2l (pc := 18) dX2_isOff_18 ?_
      refine R_aload_n (pc := 19) 0 rfl rfl dX2_isOff_19 ?_
      refine R_getJ (pc := 20) hb.1 rfl flX2_15 dX2_isOff_20 ?_
      obtain ⟨g, h⟩ := h
      refine R_lmul (pc := 23) g dX2_isOff_23 ?_
      refine R_aload_n (pc := 24) 0 rfl rfl dX2_isOff_24 ?_
      refine R_getI (pc := 25) hb.1 rfl flX2_39 dX2_isOff_25 ?_
      refine R_i2l (pc := 28) dX2_isOff_28 ?_
      refine R_aload_n (pc := 29) 0 rfl rfl dX2_isOff_29 ?_
      refine R_getP (pc := 30) (q' := (b + 1)) hb.1 rfl flX2_18 dX2_isOff_30 ?_
      refine R_iload_n (pc := 33) 1 rfl rfl dX2_isOff_33 ?_
      obtain ⟨g0, g1, h⟩ := h
      refine R_laload (pc := 34) hb.2.1 g0 g1 dX2_isOff_34 ?_
      obtain ⟨g, h⟩ := h
      refine R_lmul (pc := 35) g dX2_isOff_35 ?_
      obtain ⟨g, h⟩ := h
      refine R_lsub (pc := 36) g dX2_isOff_36 ?_
      obtain ⟨g, h⟩ := h
      refine R_labs (pc := 37) g w_3_48 w_3_49 w_1_15 w_3_50 (leb rfl) (leb rfl) dX2_isOff_37 ?_
      refine R_aload_n (pc := 40) 0 rfl rfl dX2_isOff_40 ?_
      refine R_getJ (pc := 41) hb.1 rfl flX2_15 dX2_isOff_41 ?_
      refine R_lcmp_lt (pc := 44) (tgt := 52) dX2_isOff_44 (by decide) dX2_isOff_45 (fun c => ?_) (fun c => ?_)
      · have h := h.1 c
        refine R_iconst (pc := 52) (by decide) dX2_isOff_52 ?_
        exact R_zret (pc := 53) rfl (by decide) dX2_isOff_53 ⟨_, rfl, h⟩
      · have h := h.2 c
        refine R_iconst (pc := 48) (by decide) dX2_isOff_48 ?_
        refine R_goto (pc := 49) (tgt := 53) (by decide) dX2_isOff_49 ?_
        exact R_zret (pc := 53) rfl (by decide) dX2_isOff_53 ⟨_, rfl, h⟩
def LX2_load_20 (b : Nat) (e : Nat) (x2 : Int) (σ : Mem) (Q : Mem → Prop) : Prop := Rn layC MX2_load 20 [(0, vP b), (1, vP e), (2, vI x2)] [] σ (qV Q)
def LX2_load_52 (b : Nat) (e : Nat) (x2 : Int) (σ : Mem) (Q : Mem → Prop) : Prop := Rn layC MX2_load 52 [(0, vP b), (1, vP e), (2, vI x2)] [] σ (qV Q)
theorem X2_load_20 {b : Nat} (hb : isPt b) {e : Nat} (he : isE e) {x2 : Int} {σ : Mem} {Q : Mem → Prop} (h : (((σ b 6) ≤ x2 → LX2_load_52 b e 0 σ Q) ∧ (x2 < (σ b 6) → 0 ≤ x2 ∧ x2 < 5 ∧ I64 ((σ b 0) * (σ (e + 2) x2)) ∧ I32 (x2 + 1) ∧ LX2_load_20 b e (x2 + 1) (upM σ b 0 ((σ b 0) * (σ (e + 2) x2))) Q))) : LX2_load_20 b e x2 σ Q := by
  unfold LX2_load_20
  refine R_iload_n (pc := 20) 2 rfl rfl dX2_load_20 ?_
  refine R_aload_n (pc := 21) 0 rfl rfl dX2_load_21 ?_
  refine R_getI (pc := 22) hb.1 rfl flX2_32 dX2_load_22 ?_
  refine R_icmp_ge (pc := 25) (tgt := 50) (by decide) dX2_load_25 (fun c => ?_) (fun c => ?_)
  · have h := h.1 c
    refine R_iconst (pc := 50) (by decide) dX2_load_50 ?_
    refine R_istore_n (pc := 51) (ls' := [(2, vI 0), (0, vP b), (1, vP e)]) rfl rfl (ltb rfl) dX2_load_51 ?_
    refine R_sub [1, 2, 0] rfl ?_
    exact h
  · have h := h.2 c
    refine R_aload_n (pc := 28) 0 rfl rfl dX2_load_28 ?_
    refine R_dup (pc := 29) rfl dX2_load_29 ?_
    refine R_getJ (pc := 30) hb.1 rfl flX2_9 dX2_load_30 ?_
    refine R_aload_n (pc := 33) 1 rfl rfl dX2_load_33 ?_
    refine R_getP (pc := 34) (q' := (e + 2)) he.1 rfl flX2_45 dX2_load_34 ?_
    refine R_iload_n (pc := 37) 2 rfl rfl dX2_load_37 ?_
    obtain ⟨g0, g1, h⟩ := h
    refine R_iaload (pc := 38) he.2.2.1 g0 g1 dX2_load_38 ?_
    refine R_i2l (pc := 39) dX2_load_39 ?_
    obtain ⟨g, h⟩ := h
    refine R_lmul (pc := 40) g dX2_load_40 ?_
    refine R_putJ (pc := 41) hb.1 rfl fpX2_9 dX2_load_41 ?_
    obtain ⟨g, h⟩ := h
    refine R_iinc (pc := 44) 2 rfl rfl g (ls' := [(2, vI (x2 + 1)), (0, vP b), (1, vP e)]) rfl (ltb rfl) dX2_load_44 ?_
    refine R_goto (pc := 47) (tgt := 20) (by decide) dX2_load_47 ?_
    refine R_sub [1, 2, 0] rfl ?_
    exact h
theorem X2_load_52 {b : Nat} (hb : isPt b) {e : Nat} (he : isE e) {x2 : Int} {σ : Mem} {Q : Mem → Prop} (h : (((σ b 6) ≤ x2 → Q σ) ∧ (x2 < (σ b 6) → 0 ≤ x2 ∧ x2 < 5 ∧ CJ layC MX7_quotient [vJ (σ b 0), vJ (σ (e + 2) x2)] σ (fun r2 σ1 => 0 ≤ x2 ∧ x2 < 5 ∧ I64 (r2 * (σ1 (e + 1) x2)) ∧ 0 ≤ x2 ∧ x2 < 5 ∧ 0 ≤ x2 ∧ x2 < 5 ∧ I64 (((upM σ1 (b + 1) x2 (r2 * (σ1 (e + 1) x2))) b 1) + ((upM σ1 (b + 1) x2 (r2 * (σ1 (e + 1) x2))) (b + 1) x2)) ∧ I32 (x2 + 1) ∧ LX2_load_52 b e (x2 + 1) (upM (upM σ1 (b + 1) x2 (r2 * (σ1 (e + 1) x2))) b 1 (((upM σ1 (b + 1) x2 (r2 * (σ1 (e + 1) x2))) b 1) + ((upM σ1 (b + 1) x2 (r2 * (σ1 (e + 1) x2))) (b + 1) x2))) Q)))) : LX2_load_52 b e x2 σ Q := by
  unfold LX2_load_52
  refine R_iload_n (pc := 52) 2 rfl rfl dX2_load_52 ?_
  refine R_aload_n (pc := 53) 0 rfl rfl dX2_load_53 ?_
  refine R_getI (pc := 54) hb.1 rfl flX2_32 dX2_load_54 ?_
  refine R_icmp_ge (pc := 57) (tgt := 109) (by decide) dX2_load_57 (fun c => ?_) (fun c => ?_)
  · have h := h.1 c
    exact R_vret (pc := 109) rfl dX2_load_109 ⟨rfl, h⟩
  · have h := h.2 c
    refine R_aload_n (pc := 60) 0 rfl rfl dX2_load_60 ?_
    refine R_getP (pc := 61) (q' := (b + 1)) hb.1 rfl flX2_18 dX2_load_61 ?_
    refine R_iload_n (pc := 64) 2 rfl rfl dX2_load_64 ?_
    refine R_aload_n (pc := 65) 0 rfl rfl dX2_load_65 ?_
    refine R_getJ (pc := 66) hb.1 rfl flX2_9 dX2_load_66 ?_
    refine R_aload_n (pc := 69) 1 rfl rfl dX2_load_69 ?_
    refine R_getP (pc := 70) (q' := (e + 2)) he.1 rfl flX2_45 dX2_load_70 ?_
    refine R_iload_n (pc := 73) 2 rfl rfl dX2_load_73 ?_
    obtain ⟨g0, g1, h⟩ := h
    refine R_iaload (pc := 74) he.2.2.1 g0 g1 dX2_load_74 ?_
    refine R_i2l (pc := 75) dX2_load_75 ?_
    refine R_callSNJ (pc := 76) (as := [vJ (σ b 0), vJ (σ (e + 2) x2)]) (st := [vI x2, vP (b + 1)]) rfl rfl kX7_quotient sX7_quotient (List.mem_of_getElem? (i := 13) rfl) (ltb rfl) rfl (leb rfl) dX2_load_76 h (fun r2 σ1 h => ?_)
    refine R_aload_n (pc := 79) 1 rfl rfl dX2_load_79 ?_
    refine R_getP (pc := 80) (q' := (e + 1)) he.1 rfl flX2_52 dX2_load_80 ?_
    refine R_iload_n (pc := 83) 2 rfl rfl dX2_load_83 ?_
    obtain ⟨g0, g1, h⟩ := h
    refine R_iaload (pc := 84) he.2.1 g0 g1 dX2_load_84 ?_
    refine R_i2l (pc := 85) dX2_load_85 ?_
    obtain ⟨g, h⟩ := h
    refine R_lmul (pc := 86) g dX2_load_86 ?_
    obtain ⟨g0, g1, h⟩ := h
    refine R_lastore (pc := 87) hb.2.1 g0 g1 dX2_load_87 ?_
    refine R_aload_n (pc := 88) 0 rfl rfl dX2_load_88 ?_
    refine R_dup (pc := 89) rfl dX2_load_89 ?_
    refine R_getJ (pc := 90) hb.1 rfl flX2_15 dX2_load_90 ?_
    refine R_aload_n (pc := 93) 0 rfl rfl dX2_load_93 ?_
    refine R_getP (pc := 94) (q' := (b + 1)) hb.1 rfl flX2_18 dX2_load_94 ?_
    refine R_iload_n (pc := 97) 2 rfl rfl dX2_load_97 ?_
    obtain ⟨g0, g1, h⟩ := h
    refine R_laload (pc := 98) hb.2.1 g0 g1 dX2_load_98 ?_
    obtain ⟨g, h⟩ := h
    refine R_ladd (pc := 99) g dX2_load_99 ?_
    refine R_putJ (pc := 100) hb.1 rfl fpX2_15 dX2_load_100 ?_
    obtain ⟨g, h⟩ := h
    refine R_iinc (pc := 103) 2 rfl rfl g (ls' := [(2, vI (x2 + 1)), (0, vP b), (1, vP e)]) rfl (ltb rfl) dX2_load_103 ?_
    refine R_goto (pc := 106) (tgt := 52) (by decide) dX2_load_106 ?_
    refine R_sub [1, 2, 0] rfl ?_
    exact h
theorem X2_load_E {b : Nat} (hb : isPt b) {e : Nat} (he : isE e) {σ : Mem} {Q : Mem → Prop} (h : LX2_load_20 b e 0 (upM (upM (upM σ b 6 (σ e 2)) b 0 1) b 1 0) Q) : CV layC MX2_load [vP b, vP e] σ Q := by
  refine Cl.ofR (ls := [(0, vP b), (1, vP e)]) (show plainName RX2 = true by decide +kernel) (leb rfl) rfl ?_
  refine R_aload_n (pc := 0) 0 rfl rfl dX2_load_0 ?_
  refine R_aload_n (pc := 1) 1 rfl rfl dX2_load_1 ?_
  refine R_getI (pc := 2) he.1 rfl flX2_42 dX2_load_2 ?_
  refine R_putI (pc := 5) hb.1 rfl fpX2_32 dX2_load_5 ?_
  refine R_aload_n (pc := 8) 0 rfl rfl dX2_load_8 ?_
  refine R_lconst (pc := 9) (x := 1) rfl dX2_load_9 ?_
  refine R_putJ (pc := 10) hb.1 rfl fpX2_9 dX2_load_10 ?_
  refine R_aload_n (pc := 13) 0 rfl rfl dX2_load_13 ?_
  refine R_lconst (pc := 14) (x := 0) rfl dX2_load_14 ?_
  refine R_putJ (pc := 15) hb.1 rfl fpX2_15 dX2_load_15 ?_
  refine R_iconst (pc := 18) (by decide) dX2_load_18 ?_
  refine R_istore_n (pc := 19) (ls' := [(2, vI 0), (0, vP b), (1, vP e)]) rfl rfl (ltb rfl) dX2_load_19 ?_
  refine R_sub [1, 2, 0] rfl ?_
  exact h
theorem X3_begin_E {x1 x2 x3 : Int} {σ : Mem} {Q : Mem → Prop} (h : ((x2 = 0 → Q (upM σ 36 5 x1)) ∧ (x2 ≠ 0 → CV layC MX3_refuse [vP 36, vI x3] σ (fun σ1 => Q σ1)))) : CV layC MX3_begin [vP 36, vI x1, vI x2, vI x3] σ Q := by
  refine Cl.ofR (ls := [(0, vP 36), (1, vI x1), (2, vI x2), (3, vI x3)]) (show plainName RX3 = true by decide +kernel) (leb rfl) rfl ?_
  refine R_iload_n (pc := 0) 2 rfl rfl dX3_begin_0 ?_
  refine R_if_eq (pc := 1) (tgt := 12) (by decide) dX3_begin_1 (fun c => ?_) (fun c => ?_)
  · have h := h.1 c
    refine R_aload_n (pc := 12) 0 rfl rfl dX3_begin_12 ?_
    refine R_iload_n (pc := 13) 1 rfl rfl dX3_begin_13 ?_
    refine R_putI (pc := 14) lC_36 rfl fpX3_35 dX3_begin_14 ?_
    exact R_vret (pc := 17) rfl dX3_begin_17 ⟨rfl, h⟩
  · have h := h.2 c
    refine R_aload_n (pc := 4) 0 rfl rfl dX3_begin_4 ?_
    refine R_iload_n (pc := 5) 3 rfl rfl dX3_begin_5 ?_
    refine R_callV0 (pc := 6) (as := [vI x3]) (st := []) rfl rfl kX3_refuse sX3_refuse lC_36 rfl w_2_97 (ltb rfl) rfl (leb rfl) dX3_begin_6 h (fun σ1 h => ?_)
    refine R_goto (pc := 9) (tgt := 17) (by decide) dX3_begin_9 ?_
    exact R_vret (pc := 17) rfl dX3_begin_17 ⟨rfl, h⟩
theorem X3_takeSemicolon_E {σ : Mem} {Q : Mem → Prop} (h : (((σ 37 1) = 2 → I32 ((σ 36 2) + 1) ∧ Q (upM (upM σ 36 2 ((σ 36 2) + 1)) 36 5 0)) ∧ ((σ 37 1) ≠ 2 → CV layC MX3_refuse [vP 36, vI 2] σ (fun σ1 => Q σ1)))) : CV layC MX3_takeSemicolon [vP 36] σ Q := by
  refine Cl.ofR (ls := [(0, vP 36)]) (show plainName RX3 = true by decide +kernel) (leb rfl) rfl ?_
  refine R_aload_n (pc := 0) 0 rfl rfl dX3_takeSemicolon_0 ?_
  refine R_getP (pc := 1) (q' := 37) lC_36 rfl flX3_12 dX3_takeSemicolon_1 ?_
  refine R_getI (pc := 4) lC_37 rfl flX3_60 dX3_takeSemicolon_4 ?_
  refine R_iconst (pc := 7) (by decide) dX3_takeSemicolon_7 ?_
  refine R_icmp_eq (pc := 8) (tgt := 17) (by decide) dX3_takeSemicolon_8 (fun c => ?_) (fun c => ?_)
  · have h := h.1 c
    refine R_aload_n (pc := 17) 0 rfl rfl dX3_takeSemicolon_17 ?_
    refine R_dup (pc := 18) rfl dX3_takeSemicolon_18 ?_
    refine R_getI (pc := 19) lC_36 rfl flX3_25 dX3_takeSemicolon_19 ?_
    refine R_iconst (pc := 22) (by decide) dX3_takeSemicolon_22 ?_
    obtain ⟨g, h⟩ := h
    refine R_iadd (pc := 23) g dX3_takeSemicolon_23 ?_
    refine R_putI (pc := 24) lC_36 rfl fpX3_25 dX3_takeSemicolon_24 ?_
    refine R_aload_n (pc := 27) 0 rfl rfl dX3_takeSemicolon_27 ?_
    refine R_iconst (pc := 28) (by decide) dX3_takeSemicolon_28 ?_
    refine R_putI (pc := 29) lC_36 rfl fpX3_35 dX3_takeSemicolon_29 ?_
    exact R_vret (pc := 32) rfl dX3_takeSemicolon_32 ⟨rfl, h⟩
  · have h := h.2 c
    refine R_aload_n (pc := 11) 0 rfl rfl dX3_takeSemicolon_11 ?_
    refine R_iconst (pc := 12) (by decide) dX3_takeSemicolon_12 ?_
    refine R_callV0 (pc := 13) (as := [vI 2]) (st := []) rfl rfl kX3_refuse sX3_refuse lC_36 rfl w_2_97 (ltb rfl) rfl (leb rfl) dX3_takeSemicolon_13 h (fun σ1 h => ?_)
    exact R_vret (pc := 16) rfl dX3_takeSemicolon_16 ⟨rfl, h⟩
theorem X4_cell_E {b : Nat} (hb : isSh b) {x1 : Int} {σ : Mem} {Q : Int → Mem → Prop} (h : CI layC MX4_flawAt [vP b, vI x1] σ (fun r2 σ1 => ((r2 ≠ 0 → Q 0 σ1) ∧ (r2 = 0 → 0 ≤ x1 ∧ x1 < 40 ∧ Q (σ1 (b + 1) x1) σ1)))) : CI layC MX4_cell [vP b, vI x1] σ Q := by
  refine Cl.ofR (ls := [(0, vP b), (1, vI x1)]) (show plainName RX4 = true by decide +kernel) (leb rfl) rfl ?_
  refine R_aload_n (pc := 0) 0 rfl rfl dX4_cell_0 ?_
  refine R_iload_n (pc := 1) 1 rfl rfl dX4_cell_1 ?_
  refine R_callVI (pc := 2) (as := [vI x1]) (st := []) rfl rfl kX4_flawAt sX4_flawAt hb.1 rfl w_4_70 (ltb rfl) rfl (leb rfl) dX4_cell_2 h (fun r2 σ1 h => ?_)
  refine R_if_ne (pc := 5) (tgt := 17) (by decide) dX4_cell_5 (fun c => ?_) (fun c => ?_)
  · have h := h.1 c
    refine R_iconst (pc := 17) (by decide) dX4_cell_17 ?_
    exact R_iret (pc := 18) rfl dX4_cell_18 ⟨_, rfl, h⟩
  · have h := h.2 c
    refine R_aload_n (pc := 8) 0 rfl rfl dX4_cell_8 ?_
    refine R_getP (pc := 9) (q' := (b + 1)) hb.1 rfl flX4_18 dX4_cell_9 ?_
    refine R_iload_n (pc := 12) 1 rfl rfl dX4_cell_12 ?_
    obtain ⟨g0, g1, h⟩ := h
    refine R_iaload (pc := 13) hb.2 g0 g1 dX4_cell_13 ?_
    refine R_goto (pc := 14) (tgt := 18) (by decide) dX4_cell_14 ?_
    exact R_iret (pc := 18) rfl dX4_cell_18 ⟨_, rfl, h⟩
theorem X4_pairFlaw_E {b : Nat} (hb : isSh b) {x1 x2 : Int} {σ : Mem} {Q : Int → Mem → Prop} (h : (((σ b 0) < 0 → CI layC MX4_flawAt [vP b, vI x2] σ (fun r2 σ1 => ((r2 = 0 → CI layC MX4_flawAt [vP b, vI (w32 (x2 + 1))] σ1 (fun r4 σ3 => Q r4 σ3)) ∧ (r2 ≠ 0 → Q r2 σ1)))) ∧ (0 ≤ (σ b 0) → (((σ b 1) = x1 → CI layC MX4_flawAt [vP b, vI x2] σ (fun r6 σ5 => ((r6 = 0 → CI layC MX4_flawAt [vP b, vI (w32 (x2 + 1))] σ5 (fun r8 σ7 => Q r8 σ7)) ∧ (r6 ≠ 0 → Q r6 σ5)))) ∧ ((σ b 1) ≠ x1 → Q 3 σ))))) : CI layC MX4_pairFlaw [vP b, vI x1, vI x2] σ Q := by
  refine Cl.ofR (ls := [(0, vP b), (1, vI x1), (2, vI x2)]) (show plainName RX4 = true by decide +kernel) (leb rfl) rfl ?_
  refine R_aload_n (pc := 0) 0 rfl rfl dX4_pairFlaw_0 ?_
  refine R_getI (pc := 1) hb.1 rfl flX4_9 dX4_pairFlaw_1 ?_
  refine R_if_lt (pc := 4) (tgt := 17) (by decide) dX4_pairFlaw_4 (fun c => ?_) (fun c => ?_)
  · have h := h.1 c
    refine R_aload_n (pc := 17) 0 rfl rfl dX4_pairFlaw_17 ?_
    refine R_iload_n (pc := 18) 2 rfl rfl dX4_pairFlaw_18 ?_
    refine R_callVI (pc := 19) (as := [vI x2]) (st := []) rfl rfl kX4_flawAt sX4_flawAt hb.1 rfl w_4_70 (ltb rfl) rfl (leb rfl) dX4_pairFlaw_19 h (fun r2 σ1 h => ?_)
    refine R_istore_n (pc := 22) (ls' := [(3, vI r2), (0, vP b), (1, vI x1), (2, vI x2)]) rfl rfl (ltb rfl) dX4_pairFlaw_22 ?_
    refine R_iload_n (pc := 23) 0 rfl rfl dX4_pairFlaw_23 ?_
    refine R_if_eq (pc := 24) (tgt := 31) (by decide) dX4_pairFlaw_24 (fun c => ?_) (fun c => ?_)
    · have h := h.1 c
      refine R_aload_n (pc := 31) 1 rfl rfl dX4_pairFlaw_31 ?_
      refine R_iload_n (pc := 32) 3 rfl rfl dX4_pairFlaw_32 ?_
      refine R_iconst (pc := 33) (by decide) dX4_pairFlaw_33 ?_
      refine R_iaddW (pc := 34) dX4_pairFlaw_34 ?_
      refine R_callVI (pc := 35) (as := [vI (w32 (x2 + 1))]) (st := []) rfl rfl kX4_flawAt sX4_flawAt hb.1 rfl w_4_70 (ltb rfl) rfl (leb rfl) dX4_pairFlaw_35 h (fun r4 σ3 h => ?_)
      exact R_iret (pc := 38) rfl dX4_pairFlaw_38 ⟨_, rfl, h⟩
    · have h := h.2 c
      refine R_iload_n (pc := 27) 0 rfl rfl dX4_pairFlaw_27 ?_
      refine R_goto (pc := 28) (tgt := 38) (by decide) dX4_pairFlaw_28 ?_
      exact R_iret (pc := 38) rfl dX4_pairFlaw_38 ⟨_, rfl, h⟩
  · have h := h.2 c
    refine R_aload_n (pc := 7) 0 rfl rfl dX4_pairFlaw_7 ?_
    refine R_getI (pc := 8) hb.1 rfl flX4_15 dX4_pairFlaw_8 ?_
    refine R_iload_n (pc := 11) 1 rfl rfl dX4_pairFlaw_11 ?_
    refine R_icmp_eq (pc := 12) (tgt := 17) (by decide) dX4_pairFlaw_12 (fun c => ?_) (fun c => ?_)
    · have h := h.1 c
      refine R_aload_n (pc := 17) 0 rfl rfl dX4_pairFlaw_17 ?_
      refine R_iload_n (pc := 18) 2 rfl rfl dX4_pairFlaw_18 ?_
      refine R_callVI (pc := 19) (as := [vI x2]) (st := []) rfl rfl kX4_flawAt sX4_flawAt hb.1 rfl w_4_70 (ltb rfl) rfl (leb rfl) dX4_pairFlaw_19 h (fun r6 σ5 h => ?_)
      refine R_istore_n (pc := 22) (ls' := [(3, vI r6), (0, vP b), (1, vI x1), (2, vI x2)]) rfl rfl (ltb rfl) dX4_pairFlaw_22 ?_
      refine R_iload_n (pc := 23) 0 rfl rfl dX4_pairFlaw_23 ?_
      refine R_if_eq (pc := 24) (tgt := 31) (by decide) dX4_pairFlaw_24 (fun c => ?_) (fun c => ?_)
      · have h := h.1 c
        refine R_aload_n (pc := 31) 1 rfl rfl dX4_pairFlaw_31 ?_
        refine R_iload_n (pc := 32) 3 rfl rfl dX4_pairFlaw_32 ?_
        refine R_iconst (pc := 33) (by decide) dX4_pairFlaw_33 ?_
        refine R_iaddW (pc := 34) dX4_pairFlaw_34 ?_
        refine R_callVI (pc := 35) (as := [vI (w32 (x2 + 1))]) (st := []) rfl rfl kX4_flawAt sX4_flawAt hb.1 rfl w_4_70 (ltb rfl) rfl (leb rfl) dX4_pairFlaw_35 h (fun r8 σ7 h => ?_)
        exact R_iret (pc := 38) rfl dX4_pairFlaw_38 ⟨_, rfl, h⟩
      · have h := h.2 c
        refine R_iload_n (pc := 27) 0 rfl rfl dX4_pairFlaw_27 ?_
        refine R_goto (pc := 28) (tgt := 38) (by decide) dX4_pairFlaw_28 ?_
        exact R_iret (pc := 38) rfl dX4_pairFlaw_38 ⟨_, rfl, h⟩
    · have h := h.2 c
      refine R_iconst (pc := 15) (by decide) dX4_pairFlaw_15 ?_
      exact R_iret (pc := 16) rfl dX4_pairFlaw_16 ⟨_, rfl, h⟩
theorem X4_put_E {b : Nat} (hb : isSh b) {x1 x2 : Int} {σ : Mem} {Q : Mem → Prop} (h : CI layC MX4_flawAt [vP b, vI x1] σ (fun r2 σ1 => ((r2 = 0 → (((σ1 b 1) ≠ 0 → (((σ1 b 1) ≠ 1 → 0 ≤ x1 ∧ x1 < 40 ∧ Q (upM σ1 (b + 1) x1 x2)) ∧ ((σ1 b 1) = 1 → 0 ≤ x1 ∧ x1 < 40 ∧ Q (upM σ1 (b + 1) x1 (w16 x2))))) ∧ ((σ1 b 1) = 0 → 0 ≤ x1 ∧ x1 < 40 ∧ Q (upM σ1 (b + 1) x1 (w8 x2))))) ∧ (r2 ≠ 0 → Q σ1)))) : CV layC MX4_put [vP b, vI x1, vI x2] σ Q := by
  refine Cl.ofR (ls := [(0, vP b), (1, vI x1), (2, vI x2)]) (show plainName RX4 = true by decide +kernel) (leb rfl) rfl ?_
  refine R_aload_n (pc := 0) 0 rfl rfl dX4_put_0 ?_
  refine R_iload_n (pc := 1) 1 rfl rfl dX4_put_1 ?_
  refine R_callVI (pc := 2) (as := [vI x1]) (st := []) rfl rfl kX4_flawAt sX4_flawAt hb.1 rfl w_4_70 (ltb rfl) rfl (leb rfl) dX4_put_2 h (fun r2 σ1 h => ?_)
  refine R_if_eq (pc := 5) (tgt := 9) (by decide) dX4_put_5 (fun c => ?_) (fun c => ?_)
  · have h := h.1 c
    refine R_aload_n (pc := 9) 0 rfl rfl dX4_put_9 ?_
    refine R_getI (pc := 10) hb.1 rfl flX4_15 dX4_put_10 ?_
    refine R_if_ne (pc := 13) (tgt := 27) (by decide) dX4_put_13 (fun c => ?_) (fun c => ?_)
    · have h := h.1 c
      refine R_aload_n (pc := 27) 0 rfl rfl dX4_put_27 ?_
      refine R_getI (pc := 28) hb.1 rfl flX4_15 dX4_put_28 ?_
      refine R_iconst (pc := 31) (by decide) dX4_put_31 ?_
      refine R_icmp_ne (pc := 32) (tgt := 46) (by decide) dX4_put_32 (fun c => ?_) (fun c => ?_)
      · have h := h.1 c
        refine R_aload_n (pc := 46) 0 rfl rfl dX4_put_46 ?_
        refine R_getP (pc := 47) (q' := (b + 1)) hb.1 rfl flX4_18 dX4_put_47 ?_
        refine R_iload_n (pc := 50) 1 rfl rfl dX4_put_50 ?_
        refine R_iload_n (pc := 51) 2 rfl rfl dX4_put_51 ?_
        obtain ⟨g0, g1, h⟩ := h
        refine R_iastore (pc := 52) hb.2 g0 g1 dX4_put_52 ?_
        exact R_vret (pc := 53) rfl dX4_put_53 ⟨rfl, h⟩
      · have h := h.2 c
        refine R_aload_n (pc := 35) 0 rfl rfl dX4_put_35 ?_
        refine R_getP (pc := 36) (q' := (b + 1)) hb.1 rfl flX4_18 dX4_put_36 ?_
        refine R_iload_n (pc := 39) 1 rfl rfl dX4_put_39 ?_
        refine R_iload_n (pc := 40) 2 rfl rfl dX4_put_40 ?_
        refine R_i2s (pc := 41) dX4_put_41 ?_
        obtain ⟨g0, g1, h⟩ := h
        refine R_iastore (pc := 42) hb.2 g0 g1 dX4_put_42 ?_
        refine R_goto (pc := 43) (tgt := 53) (by decide) dX4_put_43 ?_
        exact R_vret (pc := 53) rfl dX4_put_53 ⟨rfl, h⟩
    · have h := h.2 c
      refine R_aload_n (pc := 16) 0 rfl rfl dX4_put_16 ?_
      refine R_getP (pc := 17) (q' := (b + 1)) hb.1 rfl flX4_18 dX4_put_17 ?_
      refine R_iload_n (pc := 20) 1 rfl rfl dX4_put_20 ?_
      refine R_iload_n (pc := 21) 2 rfl rfl dX4_put_21 ?_
      refine R_i2b (pc := 22) dX4_put_22 ?_
      obtain ⟨g0, g1, h⟩ := h
      refine R_iastore (pc := 23) hb.2 g0 g1 dX4_put_23 ?_
      refine R_goto (pc := 24) (tgt := 53) (by decide) dX4_put_24 ?_
      exact R_vret (pc := 53) rfl dX4_put_53 ⟨rfl, h⟩
  · have h := h.2 c
    exact R_vret (pc := 8) rfl dX4_put_8 ⟨rfl, h⟩
def LX4_renew_17 (b : Nat) (x3 : Int) (σ : Mem) (Q : Mem → Prop) : Prop := Rn layC MX4_renew 17 [(0, vP b), (3, vI x3)] [] σ (qV Q)
theorem X4_renew_17 {b : Nat} (hb : isSh b) {x3 : Int} {σ : Mem} {Q : Mem → Prop} (h : ((40 ≤ x3 → Q σ) ∧ (x3 < 40 → 0 ≤ x3 ∧ x3 < 40 ∧ I32 (x3 + 1) ∧ LX4_renew_17 b (x3 + 1) (upM σ (b + 1) x3 0) Q))) : LX4_renew_17 b x3 σ Q := by
  unfold LX4_renew_17
  refine R_iload_n (pc := 17) 1 rfl rfl dX4_renew_17 ?_
  refine R_bipush (pc := 18) (by decide) dX4_renew_18 ?_
  refine R_icmp_ge (pc := 20) (tgt := 36) (by decide) dX4_renew_20 (fun c => ?_) (fun c => ?_)
  · have h := h.1 c
    exact R_vret (pc := 36) rfl dX4_renew_36 ⟨rfl, h⟩
  · have h := h.2 c
    refine R_aload_n (pc := 23) 0 rfl rfl dX4_renew_23 ?_
    refine R_getP (pc := 24) (q' := (b + 1)) hb.1 rfl flX4_18 dX4_renew_24 ?_
    refine R_iload_n (pc := 27) 1 rfl rfl dX4_renew_27 ?_
    refine R_iconst (pc := 28) (by decide) dX4_renew_28 ?_
    obtain ⟨g0, g1, h⟩ := h
    refine R_iastore (pc := 29) hb.2 g0 g1 dX4_renew_29 ?_
    obtain ⟨g, h⟩ := h
    refine R_iinc (pc := 30) 1 rfl rfl g (ls' := [(3, vI (x3 + 1)), (0, vP b)]) rfl (ltb rfl) dX4_renew_30 ?_
    refine R_goto (pc := 33) (tgt := 17) (by decide) dX4_renew_33 ?_
    refine R_sub [1, 0] rfl ?_
    exact h
theorem X4_renew_E {b : Nat} (hb : isSh b) {x1 x2 : Int} {σ : Mem} {Q : Mem → Prop} (h : LX4_renew_17 b 0 (upM (upM σ b 1 x1) b 0 (min x2 40)) Q) : CV layC MX4_renew [vP b, vI x1, vI x2] σ Q := by
  refine Cl.ofR (ls := [(0, vP b), (1, vI x1), (2, vI x2)]) (show plainName RX4 = true by decide +kernel) (leb rfl) rfl ?_
  refine R_aload_n (pc := 0) 0 rfl rfl dX4_renew_0 ?_
  refine R_iload_n (pc := 1) 1 rfl rfl dX4_renew_1 ?_
  refine R_putI (pc := 2) hb.1 rfl fpX4_15 dX4_renew_2 ?_
  refine R_aload_n (pc := 5) 0 rfl rfl dX4_renew_5 ?_
  refine R_iload_n (pc := 6) 2 rfl rfl dX4_renew_6 ?_
  refine R_bipush (pc := 7) (by decide) dX4_renew_7 ?_
  refine R_mmin (pc := 9) w_4_57 w_3_126 w_1_15 w_3_127 (leb rfl) (leb rfl) dX4_renew_9 ?_
  refine R_putI (pc := 12) hb.1 rfl fpX4_9 dX4_renew_12 ?_
  refine R_iconst (pc := 15) (by decide) dX4_renew_15 ?_
  refine R_istore_n (pc := 16) (ls' := [(3, vI 0), (0, vP b), (1, vI x1), (2, vI x2)]) rfl rfl (ltb rfl) dX4_renew_16 ?_
  refine R_sub [1, 0] rfl ?_
  exact h
theorem X5_isFigure_E {x0 : Int} {σ : Mem} {Q : Int → Mem → Prop} (h : CI layC MX7_within [vI x0, vI 48, vI 57] σ (fun r2 σ1 => (r2 = 0 ∨ r2 = 1) ∧ Q r2 σ1)) : CI layC MX5_isFigure [vI x0] σ Q := by
  refine Cl.ofR (ls := [(0, vI x0)]) (show plainName RX5 = true by decide +kernel) (leb rfl) rfl ?_
  refine R_iload_n (pc := 0) 0 rfl rfl dX5_isFigure_0 ?_
  refine R_bipush (pc := 1) (by decide) dX5_isFigure_1 ?_
  refine R_bipush (pc := 3) (by decide) dX5_isFigure_3 ?_
  refine R_callSNI (pc := 5) (as := [vI x0, vI 48, vI 57]) (st := []) rfl rfl kX7_within sX7_within (List.mem_of_getElem? (i := 8) rfl) (ltb rfl) rfl (leb rfl) dX5_isFigure_5 h (fun r2 σ1 h => ?_)
  obtain ⟨g, h⟩ := h
  exact R_zret (pc := 8) rfl g dX5_isFigure_8 ⟨_, rfl, h⟩
theorem X5_isLetter_E {x0 : Int} {σ : Mem} {Q : Int → Mem → Prop} (h : CI layC MX7_within [vI x0, vI 97, vI 122] σ (fun r2 σ1 => (r2 = 0 ∨ r2 = 1) ∧ Q r2 σ1)) : CI layC MX5_isLetter [vI x0] σ Q := by
  refine Cl.ofR (ls := [(0, vI x0)]) (show plainName RX5 = true by decide +kernel) (leb rfl) rfl ?_
  refine R_iload_n (pc := 0) 0 rfl rfl dX5_isLetter_0 ?_
  refine R_bipush (pc := 1) (by decide) dX5_isLetter_1 ?_
  refine R_bipush (pc := 3) (by decide) dX5_isLetter_3 ?_
  refine R_callSNI (pc := 5) (as := [vI x0, vI 97, vI 122]) (st := []) rfl rfl kX7_within sX7_within (List.mem_of_getElem? (i := 8) rfl) (ltb rfl) rfl (leb rfl) dX5_isLetter_5 h (fun r2 σ1 h => ?_)
  obtain ⟨g, h⟩ := h
  exact R_zret (pc := 8) rfl g dX5_isLetter_8 ⟨_, rfl, h⟩
def LX6_findDowns_7 (x1 : Int) (σ : Mem) (Q : Mem → Prop) : Prop := Rn layC MX6_findDowns 7 [(0, vP 39), (1, vI x1)] [] σ (qV Q)
theorem X6_findDowns_7 {x1 : Int} {σ : Mem} {Q : Mem → Prop} (h : (((σ 39 4) < x1 → Q σ) ∧ (x1 ≤ (σ 39 4) → CJ layC MX7_remainder [vJ (σ 39 4), vJ x1] σ (fun r2 σ1 => ((r2 ≠ 0 → I32 (x1 + 1) ∧ LX6_findDowns_7 (x1 + 1) σ1 Q) ∧ (r2 = 0 → ((32 ≤ (σ1 39 3) → I32 (x1 + 1) ∧ LX6_findDowns_7 (x1 + 1) σ1 Q) ∧ ((σ1 39 3) < 32 → 0 ≤ σ1 39 3 ∧ σ1 39 3 < 32 ∧ I32 (((upM σ1 41 (σ1 39 3) x1) 39 3) + 1) ∧ I32 (x1 + 1) ∧ LX6_findDowns_7 (x1 + 1) (upM (upM σ1 41 (σ1 39 3) x1) 39 3 (((upM σ1 41 (σ1 39 3) x1) 39 3) + 1)) Q)))))))) : LX6_findDowns_7 x1 σ Q := by
  unfold LX6_findDowns_7
  refine R_iload_n (pc := 7) 1 rfl rfl dX6_findDowns_7 ?_
  refine R_aload_n (pc := 8) 0 rfl rfl dX6_findDowns_8 ?_
  refine R_getI (pc := 9) lC_39 rfl flX6_25 dX6_findDowns_9 ?_
  refine R_icmp_gt (pc := 12) (tgt := 68) (by decide) dX6_findDowns_12 (fun c => ?_) (fun c => ?_)
  · have h := h.1 c
    exact R_vret (pc := 68) rfl dX6_findDowns_68 ⟨rfl, h⟩
  · have h := h.2 c
    refine R_aload_n (pc := 15) 0 rfl rfl dX6_findDowns_15 ?_
    refine R_getI (pc := 16) lC_39 rfl flX6_25 dX6_findDowns_16 ?_
    refine R_i2l (pc := 19) dX6_findDowns_19 ?_
    refine R_iload_n (pc := 20) 1 rfl rfl dX6_findDowns_20 ?_
    refine R_i2l (pc := 21) dX6_findDowns_21 ?_
    refine R_callSNJ (pc := 22) (as := [vJ (σ 39 4), vJ x1]) (st := []) rfl rfl kX7_remainder sX7_remainder (List.mem_of_getElem? (i := 15) rfl) (ltb rfl) rfl (leb rfl) dX6_findDowns_22 h (fun r2 σ1 h => ?_)
    refine R_lconst (pc := 25) (x := 0) rfl dX6_findDowns_25 ?_
    refine R_lcmp_ne (pc := 26) (tgt := 62) dX6_findDowns_26 (by decide) dX6_findDowns_27 (fun c => ?_) (fun c => ?_)
    · have h := h.1 c
      obtain ⟨g, h⟩ := h
      refine R_iinc (pc := 62) 1 rfl rfl g (ls' := [(1, vI (x1 + 1)), (0, vP 39)]) rfl (ltb rfl) dX6_findDowns_62 ?_
      refine R_goto (pc := 65) (tgt := 7) (by decide) dX6_findDowns_65 ?_
      refine R_sub [1, 0] rfl ?_
      exact h
    · have h := h.2 c
      refine R_aload_n (pc := 30) 0 rfl rfl dX6_findDowns_30 ?_
      refine R_getI (pc := 31) lC_39 rfl flX6_22 dX6_findDowns_31 ?_
      refine R_aload_n (pc := 34) 0 rfl rfl dX6_findDowns_34 ?_
      refine R_getP (pc := 35) (q' := 41) lC_39 rfl flX6_19 dX6_findDowns_35 ?_
      refine R_alen (pc := 38) lC_41 (by decide) dX6_findDowns_38 ?_
      refine R_icmp_ge (pc := 39) (tgt := 62) (by decide) dX6_findDowns_39 (fun c => ?_) (fun c => ?_)
      · have h := h.1 c
        obtain ⟨g, h⟩ := h
        refine R_iinc (pc := 62) 1 rfl rfl g (ls' := [(1, vI (x1 + 1)), (0, vP 39)]) rfl (ltb rfl) dX6_findDowns_62 ?_
        refine R_goto (pc := 65) (tgt := 7) (by decide) dX6_findDowns_65 ?_
        refine R_sub [1, 0] rfl ?_
        exact h
      · have h := h.2 c
        refine R_aload_n (pc := 42) 0 rfl rfl dX6_findDowns_42 ?_
        refine R_getP (pc := 43) (q' := 41) lC_39 rfl flX6_19 dX6_findDowns_43 ?_
        refine R_aload_n (pc := 46) 0 rfl rfl dX6_findDowns_46 ?_
        refine R_getI (pc := 47) lC_39 rfl flX6_22 dX6_findDowns_47 ?_
        refine R_iload_n (pc := 50) 1 rfl rfl dX6_findDowns_50 ?_
        obtain ⟨g0, g1, h⟩ := h
        refine R_iastore (pc := 51) lC_41 g0 g1 dX6_findDowns_51 ?_
        refine R_aload_n (pc := 52) 0 rfl rfl dX6_findDowns_52 ?_
        refine R_dup (pc := 53) rfl dX6_findDowns_53 ?_
        refine R_getI (pc := 54) lC_39 rfl flX6_22 dX6_findDowns_54 ?_
        refine R_iconst (pc := 57) (by decide) dX6_findDowns_57 ?_
        obtain ⟨g, h⟩ := h
        refine R_iadd (pc := 58) g dX6_findDowns_58 ?_
        refine R_putI (pc := 59) lC_39 rfl fpX6_22 dX6_findDowns_59 ?_
        obtain ⟨g, h⟩ := h
        refine R_iinc (pc := 62) 1 rfl rfl g (ls' := [(1, vI (x1 + 1)), (0, vP 39)]) rfl (ltb rfl) dX6_findDowns_62 ?_
        refine R_goto (pc := 65) (tgt := 7) (by decide) dX6_findDowns_65 ?_
        refine R_sub [1, 0] rfl ?_
        exact h
theorem X6_findDowns_E {σ : Mem} {Q : Mem → Prop} (h : LX6_findDowns_7 2 (upM σ 39 3 0) Q) : CV layC MX6_findDowns [vP 39] σ Q := by
  refine Cl.ofR (ls := [(0, vP 39)]) (show plainName RX6 = true by decide +kernel) (leb rfl) rfl ?_
  refine R_aload_n (pc := 0) 0 rfl rfl dX6_findDowns_0 ?_
  refine R_iconst (pc := 1) (by decide) dX6_findDowns_1 ?_
  refine R_putI (pc := 2) lC_39 rfl fpX6_22 dX6_findDowns_2 ?_
  refine R_iconst (pc := 5) (by decide) dX6_findDowns_5 ?_
  refine R_istore_n (pc := 6) (ls' := [(1, vI 2), (0, vP 39)]) rfl rfl (ltb rfl) dX6_findDowns_6 ?_
  refine R_sub [1, 0] rfl ?_
  exact h
def LX7_alter_54 (x1 : Int) (x2 : Int) (x3 : Int) (x4 : Int) (σ : Mem) (Q : Int → Mem → Prop) : Prop := Rn layC MX7_alter 54 [(0, vP 0), (1, vI x1), (2, vI x2), (3, vI x3), (4, vI x4)] [] σ (qI Q)
theorem X7_alter_54 {x1 x2 x3 x4 : Int} {σ : Mem} {Q : Int → Mem → Prop} (h : ((x2 ≠ 1 → Q x4 σ) ∧ (x2 = 1 → CI layC MX7_within [vI x3, vI 1, vI 99] σ (fun r2 σ1 => ((r2 = 0 → Q x4 σ1) ∧ (r2 ≠ 0 → 0 ≤ x1 ∧ x1 < 5 ∧ 0 ≤ x1 ∧ x1 < 5 ∧ Q (σ1 3 x1) (upM σ1 3 x1 x3))))))) : LX7_alter_54 x1 x2 x3 x4 σ Q := by
  unfold LX7_alter_54
  refine R_iload_n (pc := 54) 2 rfl rfl dX7_alter_54 ?_
  refine R_iconst (pc := 55) (by decide) dX7_alter_55 ?_
  refine R_icmp_ne (pc := 56) (tgt := 90) (by decide) dX7_alter_56 (fun c => ?_) (fun c => ?_)
  · have h := h.1 c
    refine R_iload (pc := 90) 4 rfl dX7_alter_90 ?_
    exact R_iret (pc := 92) rfl dX7_alter_92 ⟨_, rfl, h⟩
  · have h := h.2 c
    refine R_iload_n (pc := 59) 3 rfl rfl dX7_alter_59 ?_
    refine R_iconst (pc := 60) (by decide) dX7_alter_60 ?_
    refine R_bipush (pc := 61) (by decide) dX7_alter_61 ?_
    refine R_callSI (pc := 63) (as := [vI x3, vI 1, vI 99]) (st := []) rfl rfl kX7_within sX7_within w_2_47 (ltb rfl) rfl (leb rfl) dX7_alter_63 h (fun r2 σ1 h => ?_)
    refine R_if_eq (pc := 66) (tgt := 90) (by decide) dX7_alter_66 (fun c => ?_) (fun c => ?_)
    · have h := h.1 c
      refine R_iload (pc := 90) 4 rfl dX7_alter_90 ?_
      exact R_iret (pc := 92) rfl dX7_alter_92 ⟨_, rfl, h⟩
    · have h := h.2 c
      refine R_aload_n (pc := 69) 0 rfl rfl dX7_alter_69 ?_
      refine R_getP (pc := 70) (q' := 1) lC_0 rfl flX7_10 dX7_alter_70 ?_
      refine R_getP (pc := 73) (q' := 3) lC_1 rfl flX7_149 dX7_alter_73 ?_
      refine R_iload_n (pc := 76) 1 rfl rfl dX7_alter_76 ?_
      obtain ⟨g0, g1, h⟩ := h
      refine R_iaload (pc := 77) lC_3 g0 g1 dX7_alter_77 ?_
      refine R_istore (pc := 78) (ls' := [(4, vI (σ1 3 x1)), (0, vP 0), (1, vI x1), (2, vI x2), (3, vI x3)]) rfl (ltb rfl) dX7_alter_78 ?_
      refine R_aload_n (pc := 80) 1 rfl rfl dX7_alter_80 ?_
      refine R_getP (pc := 81) (q' := 1) lC_0 rfl flX7_10 dX7_alter_81 ?_
      refine R_getP (pc := 84) (q' := 3) lC_1 rfl flX7_149 dX7_alter_84 ?_
      refine R_iload_n (pc := 87) 2 rfl rfl dX7_alter_87 ?_
      refine R_iload_n (pc := 88) 4 rfl rfl dX7_alter_88 ?_
      obtain ⟨g0, g1, h⟩ := h
      refine R_iastore (pc := 89) lC_3 g0 g1 dX7_alter_89 ?_
      refine R_iload (pc := 90) 0 rfl dX7_alter_90 ?_
      exact R_iret (pc := 92) rfl dX7_alter_92 ⟨_, rfl, h⟩
theorem X7_alter_E {x1 x2 x3 : Int} {σ : Mem} {Q : Int → Mem → Prop} (h : CI layC MX0_has [vP 1, vI x1] σ (fun r2 σ1 => ((r2 ≠ 0 → ((x2 ≠ 0 → LX7_alter_54 x1 x2 x3 (-1) σ1 Q) ∧ (x2 = 0 → CI layC MX7_within [vI x3, vI 1, vI 9] σ1 (fun r4 σ3 => ((r4 = 0 → LX7_alter_54 x1 x2 x3 (-1) σ3 Q) ∧ (r4 ≠ 0 → 0 ≤ x1 ∧ x1 < 5 ∧ 0 ≤ x1 ∧ x1 < 5 ∧ Q (σ3 2 x1) (upM σ3 2 x1 x3))))))) ∧ (r2 = 0 → Q (-1) σ1)))) : CI layC MX7_alter [vP 0, vI x1, vI x2, vI x3] σ Q := by
  refine Cl.ofR (ls := [(0, vP 0), (1, vI x1), (2, vI x2), (3, vI x3)]) (show plainName RX7 = true by decide +kernel) (leb rfl) rfl ?_
  refine R_aload_n (pc := 0) 0 rfl rfl dX7_alter_0 ?_
  refine R_getP (pc := 1) (q' := 1) lC_0 rfl flX7_10 dX7_alter_1 ?_
  refine R_iload_n (pc := 4) 1 rfl rfl dX7_alter_4 ?_
  refine R_callVI (pc := 5) (as := [vI x1]) (st := []) rfl rfl kX0_has sX0_has lC_1 rfl w_3_36 (ltb rfl) rfl (leb rfl) dX7_alter_5 h (fun r2 σ1 h => ?_)
  refine R_if_ne (pc := 8) (tgt := 13) (by decide) dX7_alter_8 (fun c => ?_) (fun c => ?_)
  · have h := h.1 c
    refine R_iconst (pc := 13) (by decide) dX7_alter_13 ?_
    refine R_istore (pc := 14) (ls' := [(4, vI (-1)), (0, vP 0), (1, vI x1), (2, vI x2), (3, vI x3)]) rfl (ltb rfl) dX7_alter_14 ?_
    refine R_iload_n (pc := 16) 3 rfl rfl dX7_alter_16 ?_
    refine R_if_ne (pc := 17) (tgt := 54) (by decide) dX7_alter_17 (fun c => ?_) (fun c => ?_)
    · have h := h.1 c
      refine R_sub [1, 2, 3, 4, 0] rfl ?_
      exact h
    · have h := h.2 c
      refine R_iload_n (pc := 20) 4 rfl rfl dX7_alter_20 ?_
      refine R_iconst (pc := 21) (by decide) dX7_alter_21 ?_
      refine R_bipush (pc := 22) (by decide) dX7_alter_22 ?_
      refine R_callSI (pc := 24) (as := [vI x3, vI 1, vI 9]) (st := []) rfl rfl kX7_within sX7_within w_2_47 (ltb rfl) rfl (leb rfl) dX7_alter_24 h (fun r4 σ3 h => ?_)
      refine R_if_eq (pc := 27) (tgt := 54) (by decide) dX7_alter_27 (fun c => ?_) (fun c => ?_)
      · have h := h.1 c
        refine R_sub [1, 2, 3, 4, 0] rfl ?_
        exact h
      · have h := h.2 c
        refine R_aload_n (pc := 30) 1 rfl rfl dX7_alter_30 ?_
        refine R_getP (pc := 31) (q' := 1) lC_0 rfl flX7_10 dX7_alter_31 ?_
        refine R_getP (pc := 34) (q' := 2) lC_1 rfl flX7_146 dX7_alter_34 ?_
        refine R_iload_n (pc := 37) 2 rfl rfl dX7_alter_37 ?_
        obtain ⟨g0, g1, h⟩ := h
        refine R_iaload (pc := 38) lC_2 g0 g1 dX7_alter_38 ?_
        refine R_istore (pc := 39) (ls' := [(4, vI (σ3 2 x1)), (0, vP 0), (1, vI x1), (2, vI x2), (3, vI x3)]) rfl (ltb rfl) dX7_alter_39 ?_
        refine R_aload_n (pc := 41) 1 rfl rfl dX7_alter_41 ?_
        refine R_getP (pc := 42) (q' := 1) lC_0 rfl flX7_10 dX7_alter_42 ?_
        refine R_getP (pc := 45) (q' := 2) lC_1 rfl flX7_146 dX7_alter_45 ?_
        refine R_iload_n (pc := 48) 2 rfl rfl dX7_alter_48 ?_
        refine R_iload_n (pc := 49) 4 rfl rfl dX7_alter_49 ?_
        obtain ⟨g0, g1, h⟩ := h
        refine R_iastore (pc := 50) lC_2 g0 g1 dX7_alter_50 ?_
        refine R_goto (pc := 51) (tgt := 90) (by decide) dX7_alter_51 ?_
        refine R_iload (pc := 90) 0 rfl dX7_alter_90 ?_
        exact R_iret (pc := 92) rfl dX7_alter_92 ⟨_, rfl, h⟩
  · have h := h.2 c
    refine R_iconst (pc := 11) (by decide) dX7_alter_11 ?_
    exact R_iret (pc := 12) rfl dX7_alter_12 ⟨_, rfl, h⟩
theorem X7_back_E {x1 : Int} {σ : Mem} {Q : Int → Mem → Prop} (h : CI layC MX7_within [vI x1, vI 0, vI 1] σ (fun r2 σ1 => ((r2 ≠ 0 → 0 ≤ x1 ∧ x1 < 2 ∧ (((σ1 44 x1) ≠ 0 → 0 ≤ x1 ∧ x1 < 2 ∧ (x1 = 0 → CV layC MX0_copy [vP 1, vP 11] σ1 (fun σ3 => Q (σ3 1 0) σ3)) ∧ (x1 = 1 → CV layC MX0_copy [vP 1, vP 16] σ1 (fun σ4 => Q (σ4 1 0) σ4))) ∧ ((σ1 44 x1) = 0 → Q (-2) σ1))) ∧ (r2 = 0 → Q (-1) σ1)))) : CI layC MX7_back [vP 0, vI x1] σ Q := by
  refine Cl.ofR (ls := [(0, vP 0), (1, vI x1)]) (show plainName RX7 = true by decide +kernel) (leb rfl) rfl ?_
  refine R_iload_n (pc := 0) 1 rfl rfl dX7_back_0 ?_
  refine R_iconst (pc := 1) (by decide) dX7_back_1 ?_
  refine R_iconst (pc := 2) (by decide) dX7_back_2 ?_
  refine R_callSI (pc := 3) (as := [vI x1, vI 0, vI 1]) (st := []) rfl rfl kX7_within sX7_within w_2_47 (ltb rfl) rfl (leb rfl) dX7_back_3 h (fun r2 σ1 h => ?_)
  refine R_if_ne (pc := 6) (tgt := 11) (by decide) dX7_back_6 (fun c => ?_) (fun c => ?_)
  · have h := h.1 c
    refine R_aload_n (pc := 11) 0 rfl rfl dX7_back_11 ?_
    refine R_getP (pc := 12) (q' := 44) lC_0 rfl flX7_23 dX7_back_12 ?_
    refine R_iload_n (pc := 15) 1 rfl rfl dX7_back_15 ?_
    obtain ⟨g0, g1, h⟩ := h
    refine R_zaload (pc := 16) lC_44 g0 g1 dX7_back_16 ?_
    refine R_if_ne (pc := 17) (tgt := 23) (by decide) dX7_back_17 (fun c => ?_) (fun c => ?_)
    · have h := h.1 c
      refine R_aload_n (pc := 23) 0 rfl rfl dX7_back_23 ?_
      refine R_getP (pc := 24) (q' := 1) lC_0 rfl flX7_10 dX7_back_24 ?_
      refine R_aload_n (pc := 27) 0 rfl rfl dX7_back_27 ?_
      refine R_getP (pc := 28) (q' := 43) lC_0 rfl flX7_19 dX7_back_28 ?_
      refine R_iload_n (pc := 31) 1 rfl rfl dX7_back_31 ?_
      obtain ⟨g0, g1, h⟩ := h
      rcases (show x1 = 0 ∨ x1 = 1 by omega) with hk | hk
      · have h := h.1 hk
        refine R_aaload4 (pc := 32) (q' := 11) lC_43 g0 g1 (by rw [hk]; rfl) dX7_back_32 ?_
        refine R_callV0 (pc := 33) (as := [vP 11]) (st := []) rfl rfl kX0_copy sX0_copy lC_1 rfl w_2_195 (ltb rfl) rfl (leb rfl) dX7_back_33 h (fun σ3 h => ?_)
        refine R_aload_n (pc := 36) 0 rfl rfl dX7_back_36 ?_
        refine R_getP (pc := 37) (q' := 1) lC_0 rfl flX7_10 dX7_back_37 ?_
        refine R_getI (pc := 40) lC_1 rfl flX7_112 dX7_back_40 ?_
        exact R_iret (pc := 43) rfl dX7_back_43 ⟨_, rfl, h⟩
      · have h := h.2 hk
        refine R_aaload4 (pc := 32) (q' := 16) lC_43 g0 g1 (by rw [hk]; rfl) dX7_back_32 ?_
        refine R_callV0 (pc := 33) (as := [vP 16]) (st := []) rfl rfl kX0_copy sX0_copy lC_1 rfl w_2_195 (ltb rfl) rfl (leb rfl) dX7_back_33 h (fun σ4 h => ?_)
        refine R_aload_n (pc := 36) 0 rfl rfl dX7_back_36 ?_
        refine R_getP (pc := 37) (q' := 1) lC_0 rfl flX7_10 dX7_back_37 ?_
        refine R_getI (pc := 40) lC_1 rfl flX7_112 dX7_back_40 ?_
        exact R_iret (pc := 43) rfl dX7_back_43 ⟨_, rfl, h⟩
    · have h := h.2 c
      refine R_bipush (pc := 20) (by decide) dX7_back_20 ?_
      exact R_iret (pc := 22) rfl dX7_back_22 ⟨_, rfl, h⟩
  · have h := h.2 c
    refine R_iconst (pc := 9) (by decide) dX7_back_9 ?_
    exact R_iret (pc := 10) rfl dX7_back_10 ⟨_, rfl, h⟩
