def MX8_init : MI := (yX8_init, cX8_init, 2, none, 3)
def stM : Mem := fun _ _ => 0
def permM : List Nat := [0, 1, 2, 3, 4, 5, 6, 7, 8, 9, 10, 11, 12, 13, 14, 15, 16]
theorem permM_inj : ∀ i, i < 17 → ∀ j, j < 17 → permM.getD i 0 = permM.getD j 0 → i = j := by decide +kernel
theorem wn_4_96 : Cond.methodLink RX8 1 Lib.objectInit ∈ WT := wtm (tb4 (List.mem_of_getElem? (i := 96) rfl)) rfl
theorem wn_4_105 : Cond.fieldLink RX8 7 "CamelPartsModel" "st" "[I" ∈ WT := wtm (tb4 (List.mem_of_getElem? (i := 105) rfl)) rfl
theorem ffX8_7 : FF RX8 7 8 0 (tyX8 0) := ⟨_, _, _, tyX8, rfl, by decide, inX8, wn_4_105, tyX8_ok, nmX8, rfl, rfl, rfl⟩
theorem wn_4_106 : Cond.fieldLink RX8 13 "CamelPartsModel" "now" "[I" ∈ WT := wtm (tb4 (List.mem_of_getElem? (i := 106) rfl)) rfl
theorem ffX8_13 : FF RX8 13 8 1 (tyX8 1) := ⟨_, _, _, tyX8, rfl, by decide, inX8, wn_4_106, tyX8_ok, nmX8, rfl, rfl, rfl⟩
theorem wn_4_107 : Cond.fieldLink RX8 16 "CamelPartsModel" "isKept" "[Z" ∈ WT := wtm (tb4 (List.mem_of_getElem? (i := 107) rfl)) rfl
theorem ffX8_16 : FF RX8 16 8 2 (tyX8 2) := ⟨_, _, _, tyX8, rfl, by decide, inX8, wn_4_107, tyX8_ok, nmX8, rfl, rfl, rfl⟩
theorem wn_4_108 : Cond.fieldLink RX8 20 "CamelPartsModel" "draft" "[I" ∈ WT := wtm (tb4 (List.mem_of_getElem? (i := 108) rfl)) rfl
theorem ffX8_20 : FF RX8 20 8 3 (tyX8 3) := ⟨_, _, _, tyX8, rfl, by decide, inX8, wn_4_108, tyX8_ok, nmX8, rfl, rfl, rfl⟩
theorem wn_4_111 : Cond.fieldLink RX8 23 "CamelPartsModel" "tape" "[I" ∈ WT := wtm (tb4 (List.mem_of_getElem? (i := 111) rfl)) rfl
theorem ffX8_23 : FF RX8 23 8 6 (tyX8 6) := ⟨_, _, _, tyX8, rfl, by decide, inX8, wn_4_111, tyX8_ok, nmX8, rfl, rfl, rfl⟩
theorem wn_4_119 : Cond.fieldLink RX8 26 "CamelPartsModel" "parts" "[J" ∈ WT := wtm (tb4 (List.mem_of_getElem? (i := 119) rfl)) rfl
theorem ffX8_26 : FF RX8 26 8 14 (tyX8 14) := ⟨_, _, _, tyX8, rfl, by decide, inX8, wn_4_119, tyX8_ok, nmX8, rfl, rfl, rfl⟩
theorem wn_4_122 : Cond.fieldLink RX8 30 "CamelPartsModel" "got" "[I" ∈ WT := wtm (tb4 (List.mem_of_getElem? (i := 122) rfl)) rfl
theorem ffX8_30 : FF RX8 30 8 17 (tyX8 17) := ⟨_, _, _, tyX8, rfl, by decide, inX8, wn_4_122, tyX8_ok, nmX8, rfl, rfl, rfl⟩
theorem wn_4_123 : Cond.fieldLink RX8 33 "CamelPartsModel" "isRisen" "[Z" ∈ WT := wtm (tb4 (List.mem_of_getElem? (i := 123) rfl)) rfl
theorem ffX8_33 : FF RX8 33 8 18 (tyX8 18) := ⟨_, _, _, tyX8, rfl, by decide, inX8, wn_4_123, tyX8_ok, nmX8, rfl, rfl, rfl⟩
theorem wn_4_124 : Cond.fieldLink RX8 36 "CamelPartsModel" "divisors" "[I" ∈ WT := wtm (tb4 (List.mem_of_getElem? (i := 124) rfl)) rfl
theorem ffX8_36 : FF RX8 36 8 19 (tyX8 19) := ⟨_, _, _, tyX8, rfl, by decide, inX8, wn_4_124, tyX8_ok, nmX8, rfl, rfl, rfl⟩
theorem wn_4_126 : Cond.fieldLink RX8 39 "CamelPartsModel" "row" "[I" ∈ WT := wtm (tb4 (List.mem_of_getElem? (i := 126) rfl)) rfl
theorem ffX8_39 : FF RX8 39 8 21 (tyX8 21) := ⟨_, _, _, tyX8, rfl, by decide, inX8, wn_4_126, tyX8_ok, nmX8, rfl, rfl, rfl⟩
theorem wn_4_128 : Cond.fieldLink RX8 42 "CamelPartsModel" "was" "[I" ∈ WT := wtm (tb4 (List.mem_of_getElem? (i := 128) rfl)) rfl
theorem ffX8_42 : FF RX8 42 8 23 (tyX8 23) := ⟨_, _, _, tyX8, rfl, by decide, inX8, wn_4_128, tyX8_ok, nmX8, rfl, rfl, rfl⟩
theorem wn_4_132 : Cond.fieldLink RX8 45 "CamelPartsModel" "ways" "[I" ∈ WT := wtm (tb4 (List.mem_of_getElem? (i := 132) rfl)) rfl
theorem ffX8_45 : FF RX8 45 8 27 (tyX8 27) := ⟨_, _, _, tyX8, rfl, by decide, inX8, wn_4_132, tyX8_ok, nmX8, rfl, rfl, rfl⟩
theorem wn_4_133 : Cond.fieldLink RX8 48 "CamelPartsModel" "lanes" "[I" ∈ WT := wtm (tb4 (List.mem_of_getElem? (i := 133) rfl)) rfl
theorem ffX8_48 : FF RX8 48 8 28 (tyX8 28) := ⟨_, _, _, tyX8, rfl, by decide, inX8, wn_4_133, tyX8_ok, nmX8, rfl, rfl, rfl⟩
theorem wn_4_134 : Cond.fieldLink RX8 51 "CamelPartsModel" "sizes" "[I" ∈ WT := wtm (tb4 (List.mem_of_getElem? (i := 134) rfl)) rfl
theorem ffX8_51 : FF RX8 51 8 29 (tyX8 29) := ⟨_, _, _, tyX8, rfl, by decide, inX8, wn_4_134, tyX8_ok, nmX8, rfl, rfl, rfl⟩
theorem wn_4_135 : Cond.fieldLink RX8 54 "CamelPartsModel" "cells" "[I" ∈ WT := wtm (tb4 (List.mem_of_getElem? (i := 135) rfl)) rfl
theorem ffX8_54 : FF RX8 54 8 30 (tyX8 30) := ⟨_, _, _, tyX8, rfl, by decide, inX8, wn_4_135, tyX8_ok, nmX8, rfl, rfl, rfl⟩
theorem wn_4_137 : Cond.fieldLink RX8 57 "CamelPartsModel" "before" "[I" ∈ WT := wtm (tb4 (List.mem_of_getElem? (i := 137) rfl)) rfl
theorem ffX8_57 : FF RX8 57 8 32 (tyX8 32) := ⟨_, _, _, tyX8, rfl, by decide, inX8, wn_4_137, tyX8_ok, nmX8, rfl, rfl, rfl⟩
theorem fgX8_48 : FL RX8 48 8 28 := ⟨_, _, _, rfl, by decide, inX8, wn_4_133⟩
theorem SK.swap {g F : Nat → Nat} {A : Nat → Prop} {U : State} {H : Heap} (h : SK g A U H) (hF : ∀ i, 200 ≤ i → F i = g i) : SK F A U H := by
  have e1 : (fun i => F (200 + i)) = fun i => g (200 + i) := funext fun i => hF _ (by omega)
  have e2 : (fun i => F (210 + i)) = fun i => g (210 + i) := funext fun i => hF _ (by omega)
  refine ⟨by rw [e1, e2]; exact h.1, fun i hi => by rw [hF _ (by omega)]; exact h.2.1 i hi, h.2.2.1, h.2.2.2⟩
theorem stM_rng : rng layM stM := by
  intro q c _
  rcases c with ⟨t, n, rs⟩ | ⟨k, fs⟩
  · intro j _
    show inT t 0
    match t with
    | 0 => exact ⟨by decide, by decide⟩
    | 1 => exact ⟨by decide, by decide⟩
    | 2 => exact ⟨by decide, by decide⟩
    | 3 => exact ⟨by decide, by decide⟩
    | t + 4 => trivial
  · intro j d _
    show inT d 0
    match d with
    | 0 => exact ⟨by decide, by decide⟩
    | 1 => exact ⟨by decide, by decide⟩
    | 2 => exact ⟨by decide, by decide⟩
    | 3 => exact ⟨by decide, by decide⟩
    | t + 4 => trivial
/-- a constructor's rest over the memory -/
theorem Rn_tail {lay : List LC} {M : MI} {pc : Nat} {ls : List (Nat × AV)} {σ : Mem} {P : Mem → Prop} {NC NS : Nat} {p : Program} {l : Launch} {e : Env} {Rm : Room} {s : State} {m : MethodId} {args : Array Value} {below : List Frame} {meth : Method} {c : Code} {g F : Nat → Nat} {D : va_G} {cA : Nat → ClassId} {A : Nat → Prop} {H : Heap} {locs : List Loc} {lr : Array Slot} {h0 : Nat} {lv : List (Nat × Value)}
    (h : Rn lay M pc ls [] σ (qV P)) (hl : ∀ q ∈ ls, okV q.2) (hs : ∀ v ∈ ([] : List AV), okV v) (hg : rng lay σ) (C : NX M NC NS p Rm s m args c g D cA A) (hr : meth.sig.returnType = none) (hlk : meth.locks = false) (hR : mR M = none) (hDD : (∀ i j, i < lay.length → j < lay.length → F i = F j → i = j) ∧ ∀ i, i < lay.length → A (F i)) (hF : F 0 = h0 ∧ ∀ i, 200 ≤ i → F i = g i) (hP : va_P D vwCl (cW F cA lay σ) H) (hS : va_S A s.heap H locs) (hlv : lv_has lr (mL M) lv) (hlv2 : lv = ls.map fun q => (q.1, rv F q.2)) :
    W p l e Rm s m args below meth c H locs NC NS (MQ below (QN D cA g h0 (fun cA _ (u : (Nat → Nat) × Mem) => cW u.1 cA lay u.2) (fun h0 g u => (u.1 0 = h0 ∧ ∀ i, 200 ≤ i → u.1 i = g i) ∧ rng lay u.2 ∧ P u.2) A) args s NC NS A) (F0 m pc lr []) := by
  obtain ⟨hx, hb, hml, hown, hts, hK, hA, hr1, hr2, hr3, hr4⟩ := C
  intro T hT X
  obtain ⟨t, a, o, b1, b2, ⟨v, τ, c1, c2, c3, c4, c5, c6⟩, b4⟩ := h hl hs hg p l e Rm s m args below meth c F D cA A NC NS H locs lr ⟨hx, hb, hr.trans hR.symm, hml, hown, hts, hlk, hK.1, hDD, hA, ⟨hr3, hr4, hr1, hr2⟩, hK.2.2.2.swap hF.2⟩ hP hS (hlv2 ▸ hlv) T hT X
  refine ⟨t, a, o, b1, b2, ⟨⟨(F, τ), ?_, ⟨hF, c4, c2.2⟩, c5, cD hDD⟩, c6⟩, b4⟩
  rw [c1]
  unfold roV
  rw [hR]
theorem first_rel {τ1 τ2 : Mem} (f1 : ∀ q, q ≠ 0 → q ≠ 4 → τ1 q = (upM (upM (upM (upM stM 13 0 (-4)) 13 1 (-4)) 13 2 (-4)) 13 3 (-4)) q) (f2 : ∀ j : Int, j ≠ 4 → j ≠ 5 → τ1 0 j = (upM (upM (upM (upM stM 13 0 (-4)) 13 1 (-4)) 13 2 (-4)) 13 3 (-4)) 0 j) (f3 : τ1 0 4 = 0 ∧ τ1 0 5 = 0) (f4 : τ1 4 0 = 17) (f5 : ∀ j : Int, 1 ≤ j → j < 26 → τ1 4 j = 0) (g1 : ∀ q, q ≠ 1 → q ≠ 3 → τ2 q = τ1 q) (g2 : ∀ j : Int, 0 ≤ j → j < 26 → τ2 1 j = τ1 4 j) (g3 : ∀ j : Int, 26 ≤ j → τ2 1 j = τ1 1 j) (g4 : τ2 3 0 = 0 ∧ τ2 3 1 = 0) : Rel stC τ2 := by
  have z0 : ∀ j : Int, j ≠ 4 → j ≠ 5 → τ2 0 j = 0 := fun j a b => by
    rw [g1 0 (by decide) (by decide), f2 j a b, upM_q (by decide), upM_q (by decide), upM_q (by decide), upM_q (by decide)]; rfl
  have z13 : τ2 13 = (upM (upM (upM (upM stM 13 0 (-4)) 13 1 (-4)) 13 2 (-4)) 13 3 (-4)) 13 := by rw [g1 13 (by decide) (by decide), f1 13 (by decide) (by decide)]
  have m1 : ∀ j : Int, 1 ≤ j → j < 26 → τ2 1 j = 0 := fun j a b => by rw [g2 j (by omega) b, f5 j a b]
  refine ⟨⟨17, 0, 0, 0, ⟨by decide, rfl, by rw [g2 0 (by decide) (by decide), f4]; rfl⟩, ⟨by decide, rfl, m1 2 (by decide) (by decide)⟩, ⟨rfl, m1 1 (by decide) (by decide), ?_, fun i a b => by omega⟩, by decide, rfl, m1 13 (by decide) (by decide), fun i a b => by omega⟩, ⟨Or.inl ⟨rfl, g4.1⟩, Or.inl ⟨rfl, g4.2⟩⟩, ⟨0, by decide, rfl, z0 7 (by decide) (by decide), fun i a b => by omega⟩, ⟨(z0 12 (by decide) (by decide)).symm, by rw [z0 12 (by decide) (by decide)]; decide, by rw [z0 12 (by decide) (by decide)]; decide⟩, (z0 31 (by decide) (by decide)).symm, Or.inl ⟨rfl, by rw [z13]; rfl⟩, Or.inl ⟨rfl, by rw [z13]; rfl⟩, Or.inl ⟨rfl, by rw [z13]; rfl⟩, Or.inl ⟨rfl, by rw [z13]; rfl⟩⟩
  exact ⟨by decide, fun i a b => by omega⟩
theorem c8 {F : Nat → Nat} {cA : Nat → ClassId} : cE F cA stM 0 (.inr (8, [5, 6, 7, 8, 2, 2, 9, 0, 0, 0, 0, 0, 0, 0, 10, 1, 1, 11, 12, 13, 0, 14, 0, 15, 1, 1, 1, 16, 17, 18, 19, 0, 20])) = .inr (8, [.ref (F 1), .ref (F 2), .ref (F 3), .ref (F 4), .int 0, .int 0, .ref (F 5), .int 0, .int 0, .int 0, .int 0, .int 0, .int 0, .int 0, .ref (F 6), .long 0, .long 0, .ref (F 7), .ref (F 8), .ref (F 9), .int 0, .ref (F 10), .int 0, .ref (F 11), .long 0, .long 0, .long 0, .ref (F 12), .ref (F 13), .ref (F 14), .ref (F 15), .int 0, .ref (F 16)]) := by
  unfold cE
  simp only [List.mapIdx_cons, List.mapIdx_nil]
  rfl
theorem X8_rest : Rn layM MX8_init 127 [(0, vP 0)] [] stM (qV (fun τ => Rel stC τ)) := by
  refine R_iconst (pc := 127) (by decide) dX8_init_127 ?_
  refine R_istore_n (pc := 128) (ls' := [(1, vI 0), (0, vP 0)]) rfl rfl (ltb rfl) dX8_init_128 ?_
  refine R_iload_n (pc := 129) 0 rfl rfl dX8_init_129 ?_
  refine R_iconst (pc := 130) (by decide) dX8_init_130 ?_
  refine R_icmp_ge (pc := 131) (tgt := 148) (by decide) dX8_init_131 (fun z => absurd z (by decide)) (fun _ => ?_)
  refine R_aload_n (pc := 134) 1 rfl rfl dX8_init_134 ?_
  refine R_getP (pc := 135) lM_0 (k := 28) (q' := 13) rfl fgX8_48 dX8_init_135 ?_
  refine R_iload_n (pc := 138) 0 rfl rfl dX8_init_138 ?_
  refine R_bipush (pc := 139) (by decide) dX8_init_139 ?_
  refine R_iastore (pc := 141) lM_13 (by decide) (by decide) dX8_init_141 ?_
  refine R_iinc (pc := 142) 0 rfl rfl ⟨by decide, by decide⟩ (y := 1) (ls' := [(1, vI 1), (0, vP 0)]) rfl (ltb rfl) dX8_init_142 ?_
  refine R_goto (pc := 145) (tgt := 129) (by decide) dX8_init_145 ?_
  refine R_iload_n (pc := 129) 0 rfl rfl dX8_init_129 ?_
  refine R_iconst (pc := 130) (by decide) dX8_init_130 ?_
  refine R_icmp_ge (pc := 131) (tgt := 148) (by decide) dX8_init_131 (fun z => absurd z (by decide)) (fun _ => ?_)
  refine R_aload_n (pc := 134) 1 rfl rfl dX8_init_134 ?_
  refine R_getP (pc := 135) lM_0 (k := 28) (q' := 13) rfl fgX8_48 dX8_init_135 ?_
  refine R_iload_n (pc := 138) 0 rfl rfl dX8_init_138 ?_
  refine R_bipush (pc := 139) (by decide) dX8_init_139 ?_
  refine R_iastore (pc := 141) lM_13 (by decide) (by decide) dX8_init_141 ?_
  refine R_iinc (pc := 142) 0 rfl rfl ⟨by decide, by decide⟩ (y := 2) (ls' := [(1, vI 2), (0, vP 0)]) rfl (ltb rfl) dX8_init_142 ?_
  refine R_goto (pc := 145) (tgt := 129) (by decide) dX8_init_145 ?_
  refine R_iload_n (pc := 129) 0 rfl rfl dX8_init_129 ?_
  refine R_iconst (pc := 130) (by decide) dX8_init_130 ?_
  refine R_icmp_ge (pc := 131) (tgt := 148) (by decide) dX8_init_131 (fun z => absurd z (by decide)) (fun _ => ?_)
  refine R_aload_n (pc := 134) 1 rfl rfl dX8_init_134 ?_
  refine R_getP (pc := 135) lM_0 (k := 28) (q' := 13) rfl fgX8_48 dX8_init_135 ?_
  refine R_iload_n (pc := 138) 0 rfl rfl dX8_init_138 ?_
  refine R_bipush (pc := 139) (by decide) dX8_init_139 ?_
  refine R_iastore (pc := 141) lM_13 (by decide) (by decide) dX8_init_141 ?_
  refine R_iinc (pc := 142) 0 rfl rfl ⟨by decide, by decide⟩ (y := 3) (ls' := [(1, vI 3), (0, vP 0)]) rfl (ltb rfl) dX8_init_142 ?_
  refine R_goto (pc := 145) (tgt := 129) (by decide) dX8_init_145 ?_
  refine R_iload_n (pc := 129) 0 rfl rfl dX8_init_129 ?_
  refine R_iconst (pc := 130) (by decide) dX8_init_130 ?_
  refine R_icmp_ge (pc := 131) (tgt := 148) (by decide) dX8_init_131 (fun z => absurd z (by decide)) (fun _ => ?_)
  refine R_aload_n (pc := 134) 1 rfl rfl dX8_init_134 ?_
  refine R_getP (pc := 135) lM_0 (k := 28) (q' := 13) rfl fgX8_48 dX8_init_135 ?_
  refine R_iload_n (pc := 138) 0 rfl rfl dX8_init_138 ?_
  refine R_bipush (pc := 139) (by decide) dX8_init_139 ?_
  refine R_iastore (pc := 141) lM_13 (by decide) (by decide) dX8_init_141 ?_
  refine R_iinc (pc := 142) 0 rfl rfl ⟨by decide, by decide⟩ (y := 4) (ls' := [(1, vI 4), (0, vP 0)]) rfl (ltb rfl) dX8_init_142 ?_
  refine R_goto (pc := 145) (tgt := 129) (by decide) dX8_init_145 ?_
  refine R_iload_n (pc := 129) 0 rfl rfl dX8_init_129 ?_
  refine R_iconst (pc := 130) (by decide) dX8_init_130 ?_
  refine R_icmp_ge (pc := 131) (tgt := 148) (by decide) dX8_init_131 (fun _ => ?_) (fun z => absurd z (by decide))
  refine R_aload_n (pc := 148) 1 rfl rfl dX8_init_148 ?_
  refine R_callV0 (P := fun τ1 => Rn layM MX8_init 152 [(1, vI 4), (0, vP 0)] [] τ1 (qV (fun τ => Rel stC τ))) (pc := 149) (as := []) (q := 0) (st := []) rfl rfl kX8_firstDraft sX8_firstDraft lM_0 rfl w_4_97 (ltb rfl) rfl (leb rfl) dX8_init_149 (firstDraft_s (fun τ1 f1 f2 f3 f4 f5 => ?_)) (fun τ1 hf => hf)
  refine R_aload_n (pc := 152) 1 rfl rfl dX8_init_152 ?_
  refine R_callV0 (P := fun τ2 => Rn layM MX8_init 156 [(1, vI 4), (0, vP 0)] [] τ2 (qV (fun τ => Rel stC τ))) (pc := 153) (as := []) (q := 0) (st := []) rfl rfl kX8_keepDraft sX8_keepDraft lM_0 rfl w_4_101 (ltb rfl) rfl (leb rfl) dX8_init_153 (keepDraft_s (fun τ2 g1 g2 g3 g4 => ?_)) (fun τ2 hg => hg)
  refine R_vret (pc := 156) rfl dX8_init_156 ⟨rfl, ?_⟩
  exact first_rel f1 f2 f3 f4 f5 g1 g2 g3 g4
set_option maxRecDepth 100000 in
set_option maxHeartbeats 4000000 in
theorem mkX8 : Mk MX8_init 8 [.null, .null, .null, .null, .int 0, .int 0, .null, .int 0, .int 0, .int 0, .int 0, .int 0, .int 0, .int 0, .null, .long 0, .long 0, .null, .null, .null, .int 0, .null, .int 0, .null, .long 0, .long 0, .long 0, .null, .null, .null, .null, .int 0, .null] 16 1579 (fun cA _ (u : (Nat → Nat) × Mem) => cW u.1 cA layM u.2) (fun h0 g u => (u.1 0 = h0 ∧ ∀ i, 200 ≤ i → u.1 i = g i) ∧ rng layM u.2 ∧ Rel stC u.2) := by
  refine Mk.of (by decide +kernel) rfl rfl (by decide) ?_
  intro p l e Rm s m args below meth c g D cA A h0 lr C hin hr hlk hW hl
  have hx := C.1
  have hb := C.2.1
  refine lv_aload_n hx hb dX8_init_0 rfl (lv_at hl 0 rfl) ?_
  refine N_obj C wn_4_96 hl.1 rfl dX8_init_1 ?_
  refine lv_aload_n hx hb dX8_init_4 rfl (lv_at hl 0 rfl) ?_
  refine lv_bipush (v := 78) hx hb dX8_init_5 (by decide) ?_
  refine N_newa (t := 0) (n := 78) (ns := 0) (nc := 0) C hW (by decide) wn_1_70 (by decide) rfl rfl rfl rfl dX8_init_7 (fun q1 H hW => ?_)
  refine N_putF 0 C hW hin ffX8_7 rfl rfl rfl (ltb rfl) dX8_init_9 (fun H locs hW => ?_)
  have hW : Wd D A s.heap [(h0, .inr (8, [.ref q1, .null, .null, .null, .int 0, .int 0, .null, .int 0, .int 0, .int 0, .int 0, .int 0, .int 0, .int 0, .null, .long 0, .long 0, .null, .null, .null, .int 0, .null, .int 0, .null, .long 0, .long 0, .long 0, .null, .null, .null, .null, .int 0, .null])), (q1, .inl (cA 0, 78, zA 0))] _ _ := hW
  refine lv_aload_n hx hb dX8_init_12 rfl (lv_at hl 0 rfl) ?_
  refine lv_bipush (v := 26) hx hb dX8_init_13 (by decide) ?_
  refine N_newa (t := 0) (n := 26) (ns := 78) (nc := 1) C hW (by decide) wn_1_70 (by decide) rfl rfl rfl rfl dX8_init_15 (fun q2 H hW => ?_)
  refine N_putF 0 C hW hin ffX8_13 rfl rfl rfl (ltb rfl) dX8_init_17 (fun H locs hW => ?_)
  have hW : Wd D A s.heap [(h0, .inr (8, [.ref q1, .ref q2, .null, .null, .int 0, .int 0, .null, .int 0, .int 0, .int 0, .int 0, .int 0, .int 0, .int 0, .null, .long 0, .long 0, .null, .null, .null, .int 0, .null, .int 0, .null, .long 0, .long 0, .long 0, .null, .null, .null, .null, .int 0, .null])), (q1, .inl (cA 0, 78, zA 0)), (q2, .inl (cA 0, 26, zA 0))] _ _ := hW
  refine lv_aload_n hx hb dX8_init_20 rfl (lv_at hl 0 rfl) ?_
  refine lv_iconst (v := 2) hx hb dX8_init_21 (by decide) ?_
  refine N_newa (t := 2) (n := 2) (ns := 104) (nc := 2) C hW (by decide) wn_1_108 (by decide) rfl rfl rfl rfl dX8_init_22 (fun q3 H hW => ?_)
  refine N_putF 0 C hW hin ffX8_16 rfl rfl rfl (ltb rfl) dX8_init_24 (fun H locs hW => ?_)
  have hW : Wd D A s.heap [(h0, .inr (8, [.ref q1, .ref q2, .ref q3, .null, .int 0, .int 0, .null, .int 0, .int 0, .int 0, .int 0, .int 0, .int 0, .int 0, .null, .long 0, .long 0, .null, .null, .null, .int 0, .null, .int 0, .null, .long 0, .long 0, .long 0, .null, .null, .null, .null, .int 0, .null])), (q1, .inl (cA 0, 78, zA 0)), (q2, .inl (cA 0, 26, zA 0)), (q3, .inl (cA 2, 2, zA 2))] _ _ := hW
  refine lv_aload_n hx hb dX8_init_27 rfl (lv_at hl 0 rfl) ?_
  refine lv_bipush (v := 26) hx hb dX8_init_28 (by decide) ?_
  refine N_newa (t := 0) (n := 26) (ns := 106) (nc := 3) C hW (by decide) wn_1_70 (by decide) rfl rfl rfl rfl dX8_init_30 (fun q4 H hW => ?_)
  refine N_putF 0 C hW hin ffX8_20 rfl rfl rfl (ltb rfl) dX8_init_32 (fun H locs hW => ?_)
  have hW : Wd D A s.heap [(h0, .inr (8, [.ref q1, .ref q2, .ref q3, .ref q4, .int 0, .int 0, .null, .int 0, .int 0, .int 0, .int 0, .int 0, .int 0, .int 0, .null, .long 0, .long 0, .null, .null, .null, .int 0, .null, .int 0, .null, .long 0, .long 0, .long 0, .null, .null, .null, .null, .int 0, .null])), (q1, .inl (cA 0, 78, zA 0)), (q2, .inl (cA 0, 26, zA 0)), (q3, .inl (cA 2, 2, zA 2)), (q4, .inl (cA 0, 26, zA 0))] _ _ := hW
  refine lv_aload_n hx hb dX8_init_35 rfl (lv_at hl 0 rfl) ?_
  refine lv_sipush (v := 160) hx hb dX8_init_36 (by decide) ?_
  refine N_newa (t := 0) (n := 160) (ns := 132) (nc := 4) C hW (by decide) wn_1_70 (by decide) rfl rfl rfl rfl dX8_init_39 (fun q5 H hW => ?_)
  refine N_putF 0 C hW hin ffX8_23 rfl rfl rfl (ltb rfl) dX8_init_41 (fun H locs hW => ?_)
  have hW : Wd D A s.heap [(h0, .inr (8, [.ref q1, .ref q2, .ref q3, .ref q4, .int 0, .int 0, .ref q5, .int 0, .int 0, .int 0, .int 0, .int 0, .int 0, .int 0, .null, .long 0, .long 0, .null, .null, .null, .int 0, .null, .int 0, .null, .long 0, .long 0, .long 0, .null, .null, .null, .null, .int 0, .null])), (q1, .inl (cA 0, 78, zA 0)), (q2, .inl (cA 0, 26, zA 0)), (q3, .inl (cA 2, 2, zA 2)), (q4, .inl (cA 0, 26, zA 0)), (q5, .inl (cA 0, 160, zA 0))] _ _ := hW
  refine lv_aload_n hx hb dX8_init_44 rfl (lv_at hl 0 rfl) ?_
  refine lv_iconst (v := 5) hx hb dX8_init_45 (by decide) ?_
  refine N_newa (t := 1) (n := 5) (ns := 292) (nc := 5) C hW (by decide) wn_1_109 (by decide) rfl rfl rfl rfl dX8_init_46 (fun q6 H hW => ?_)
  refine N_putF 0 C hW hin ffX8_26 rfl rfl rfl (ltb rfl) dX8_init_48 (fun H locs hW => ?_)
  have hW : Wd D A s.heap [(h0, .inr (8, [.ref q1, .ref q2, .ref q3, .ref q4, .int 0, .int 0, .ref q5, .int 0, .int 0, .int 0, .int 0, .int 0, .int 0, .int 0, .ref q6, .long 0, .long 0, .null, .null, .null, .int 0, .null, .int 0, .null, .long 0, .long 0, .long 0, .null, .null, .null, .null, .int 0, .null])), (q1, .inl (cA 0, 78, zA 0)), (q2, .inl (cA 0, 26, zA 0)), (q3, .inl (cA 2, 2, zA 2)), (q4, .inl (cA 0, 26, zA 0)), (q5, .inl (cA 0, 160, zA 0)), (q6, .inl (cA 1, 5, zA 1))] _ _ := hW
  refine lv_aload_n hx hb dX8_init_51 rfl (lv_at hl 0 rfl) ?_
  refine lv_iconst (v := 5) hx hb dX8_init_52 (by decide) ?_
  refine N_newa (t := 0) (n := 5) (ns := 297) (nc := 6) C hW (by decide) wn_1_70 (by decide) rfl rfl rfl rfl dX8_init_53 (fun q7 H hW => ?_)
  refine N_putF 0 C hW hin ffX8_30 rfl rfl rfl (ltb rfl) dX8_init_55 (fun H locs hW => ?_)
  have hW : Wd D A s.heap [(h0, .inr (8, [.ref q1, .ref q2, .ref q3, .ref q4, .int 0, .int 0, .ref q5, .int 0, .int 0, .int 0, .int 0, .int 0, .int 0, .int 0, .ref q6, .long 0, .long 0, .ref q7, .null, .null, .int 0, .null, .int 0, .null, .long 0, .long 0, .long 0, .null, .null, .null, .null, .int 0, .null])), (q1, .inl (cA 0, 78, zA 0)), (q2, .inl (cA 0, 26, zA 0)), (q3, .inl (cA 2, 2, zA 2)), (q4, .inl (cA 0, 26, zA 0)), (q5, .inl (cA 0, 160, zA 0)), (q6, .inl (cA 1, 5, zA 1)), (q7, .inl (cA 0, 5, zA 0))] _ _ := hW
  refine lv_aload_n hx hb dX8_init_58 rfl (lv_at hl 0 rfl) ?_
  refine lv_iconst (v := 5) hx hb dX8_init_59 (by decide) ?_
  refine N_newa (t := 2) (n := 5) (ns := 302) (nc := 7) C hW (by decide) wn_1_108 (by decide) rfl rfl rfl rfl dX8_init_60 (fun q8 H hW => ?_)
  refine N_putF 0 C hW hin ffX8_33 rfl rfl rfl (ltb rfl) dX8_init_62 (fun H locs hW => ?_)
  have hW : Wd D A s.heap [(h0, .inr (8, [.ref q1, .ref q2, .ref q3, .ref q4, .int 0, .int 0, .ref q5, .int 0, .int 0, .int 0, .int 0, .int 0, .int 0, .int 0, .ref q6, .long 0, .long 0, .ref q7, .ref q8, .null, .int 0, .null, .int 0, .null, .long 0, .long 0, .long 0, .null, .null, .null, .null, .int 0, .null])), (q1, .inl (cA 0, 78, zA 0)), (q2, .inl (cA 0, 26, zA 0)), (q3, .inl (cA 2, 2, zA 2)), (q4, .inl (cA 0, 26, zA 0)), (q5, .inl (cA 0, 160, zA 0)), (q6, .inl (cA 1, 5, zA 1)), (q7, .inl (cA 0, 5, zA 0)), (q8, .inl (cA 2, 5, zA 2))] _ _ := hW
  refine lv_aload_n hx hb dX8_init_65 rfl (lv_at hl 0 rfl) ?_
  refine lv_bipush (v := 64) hx hb dX8_init_66 (by decide) ?_
  refine N_newa (t := 0) (n := 64) (ns := 307) (nc := 8) C hW (by decide) wn_1_70 (by decide) rfl rfl rfl rfl dX8_init_68 (fun q9 H hW => ?_)
  refine N_putF 0 C hW hin ffX8_36 rfl rfl rfl (ltb rfl) dX8_init_70 (fun H locs hW => ?_)
  have hW : Wd D A s.heap [(h0, .inr (8, [.ref q1, .ref q2, .ref q3, .ref q4, .int 0, .int 0, .ref q5, .int 0, .int 0, .int 0, .int 0, .int 0, .int 0, .int 0, .ref q6, .long 0, .long 0, .ref q7, .ref q8, .ref q9, .int 0, .null, .int 0, .null, .long 0, .long 0, .long 0, .null, .null, .null, .null, .int 0, .null])), (q1, .inl (cA 0, 78, zA 0)), (q2, .inl (cA 0, 26, zA 0)), (q3, .inl (cA 2, 2, zA 2)), (q4, .inl (cA 0, 26, zA 0)), (q5, .inl (cA 0, 160, zA 0)), (q6, .inl (cA 1, 5, zA 1)), (q7, .inl (cA 0, 5, zA 0)), (q8, .inl (cA 2, 5, zA 2)), (q9, .inl (cA 0, 64, zA 0))] _ _ := hW
  refine lv_aload_n hx hb dX8_init_73 rfl (lv_at hl 0 rfl) ?_
  refine lv_iconst (v := 4) hx hb dX8_init_74 (by decide) ?_
  refine N_newa (t := 0) (n := 4) (ns := 371) (nc := 9) C hW (by decide) wn_1_70 (by decide) rfl rfl rfl rfl dX8_init_75 (fun q10 H hW => ?_)
  refine N_putF 0 C hW hin ffX8_39 rfl rfl rfl (ltb rfl) dX8_init_77 (fun H locs hW => ?_)
  have hW : Wd D A s.heap [(h0, .inr (8, [.ref q1, .ref q2, .ref q3, .ref q4, .int 0, .int 0, .ref q5, .int 0, .int 0, .int 0, .int 0, .int 0, .int 0, .int 0, .ref q6, .long 0, .long 0, .ref q7, .ref q8, .ref q9, .int 0, .ref q10, .int 0, .null, .long 0, .long 0, .long 0, .null, .null, .null, .null, .int 0, .null])), (q1, .inl (cA 0, 78, zA 0)), (q2, .inl (cA 0, 26, zA 0)), (q3, .inl (cA 2, 2, zA 2)), (q4, .inl (cA 0, 26, zA 0)), (q5, .inl (cA 0, 160, zA 0)), (q6, .inl (cA 1, 5, zA 1)), (q7, .inl (cA 0, 5, zA 0)), (q8, .inl (cA 2, 5, zA 2)), (q9, .inl (cA 0, 64, zA 0)), (q10, .inl (cA 0, 4, zA 0))] _ _ := hW
  refine lv_aload_n hx hb dX8_init_80 rfl (lv_at hl 0 rfl) ?_
  refine lv_iconst (v := 5) hx hb dX8_init_81 (by decide) ?_
  refine N_newa (t := 0) (n := 5) (ns := 375) (nc := 10) C hW (by decide) wn_1_70 (by decide) rfl rfl rfl rfl dX8_init_82 (fun q11 H hW => ?_)
  refine N_putF 0 C hW hin ffX8_42 rfl rfl rfl (ltb rfl) dX8_init_84 (fun H locs hW => ?_)
  have hW : Wd D A s.heap [(h0, .inr (8, [.ref q1, .ref q2, .ref q3, .ref q4, .int 0, .int 0, .ref q5, .int 0, .int 0, .int 0, .int 0, .int 0, .int 0, .int 0, .ref q6, .long 0, .long 0, .ref q7, .ref q8, .ref q9, .int 0, .ref q10, .int 0, .ref q11, .long 0, .long 0, .long 0, .null, .null, .null, .null, .int 0, .null])), (q1, .inl (cA 0, 78, zA 0)), (q2, .inl (cA 0, 26, zA 0)), (q3, .inl (cA 2, 2, zA 2)), (q4, .inl (cA 0, 26, zA 0)), (q5, .inl (cA 0, 160, zA 0)), (q6, .inl (cA 1, 5, zA 1)), (q7, .inl (cA 0, 5, zA 0)), (q8, .inl (cA 2, 5, zA 2)), (q9, .inl (cA 0, 64, zA 0)), (q10, .inl (cA 0, 4, zA 0)), (q11, .inl (cA 0, 5, zA 0))] _ _ := hW
  refine lv_aload_n hx hb dX8_init_87 rfl (lv_at hl 0 rfl) ?_
  refine lv_sipush (v := 1005) hx hb dX8_init_88 (by decide) ?_
  refine N_newa (t := 0) (n := 1005) (ns := 380) (nc := 11) C hW (by decide) wn_1_70 (by decide) rfl rfl rfl rfl dX8_init_91 (fun q12 H hW => ?_)
  refine N_putF 0 C hW hin ffX8_45 rfl rfl rfl (ltb rfl) dX8_init_93 (fun H locs hW => ?_)
  have hW : Wd D A s.heap [(h0, .inr (8, [.ref q1, .ref q2, .ref q3, .ref q4, .int 0, .int 0, .ref q5, .int 0, .int 0, .int 0, .int 0, .int 0, .int 0, .int 0, .ref q6, .long 0, .long 0, .ref q7, .ref q8, .ref q9, .int 0, .ref q10, .int 0, .ref q11, .long 0, .long 0, .long 0, .ref q12, .null, .null, .null, .int 0, .null])), (q1, .inl (cA 0, 78, zA 0)), (q2, .inl (cA 0, 26, zA 0)), (q3, .inl (cA 2, 2, zA 2)), (q4, .inl (cA 0, 26, zA 0)), (q5, .inl (cA 0, 160, zA 0)), (q6, .inl (cA 1, 5, zA 1)), (q7, .inl (cA 0, 5, zA 0)), (q8, .inl (cA 2, 5, zA 2)), (q9, .inl (cA 0, 64, zA 0)), (q10, .inl (cA 0, 4, zA 0)), (q11, .inl (cA 0, 5, zA 0)), (q12, .inl (cA 0, 1005, zA 0))] _ _ := hW
  refine lv_aload_n hx hb dX8_init_96 rfl (lv_at hl 0 rfl) ?_
  refine lv_iconst (v := 4) hx hb dX8_init_97 (by decide) ?_
  refine N_newa (t := 0) (n := 4) (ns := 1385) (nc := 12) C hW (by decide) wn_1_70 (by decide) rfl rfl rfl rfl dX8_init_98 (fun q13 H hW => ?_)
  refine N_putF 0 C hW hin ffX8_48 rfl rfl rfl (ltb rfl) dX8_init_100 (fun H locs hW => ?_)
  have hW : Wd D A s.heap [(h0, .inr (8, [.ref q1, .ref q2, .ref q3, .ref q4, .int 0, .int 0, .ref q5, .int 0, .int 0, .int 0, .int 0, .int 0, .int 0, .int 0, .ref q6, .long 0, .long 0, .ref q7, .ref q8, .ref q9, .int 0, .ref q10, .int 0, .ref q11, .long 0, .long 0, .long 0, .ref q12, .ref q13, .null, .null, .int 0, .null])), (q1, .inl (cA 0, 78, zA 0)), (q2, .inl (cA 0, 26, zA 0)), (q3, .inl (cA 2, 2, zA 2)), (q4, .inl (cA 0, 26, zA 0)), (q5, .inl (cA 0, 160, zA 0)), (q6, .inl (cA 1, 5, zA 1)), (q7, .inl (cA 0, 5, zA 0)), (q8, .inl (cA 2, 5, zA 2)), (q9, .inl (cA 0, 64, zA 0)), (q10, .inl (cA 0, 4, zA 0)), (q11, .inl (cA 0, 5, zA 0)), (q12, .inl (cA 0, 1005, zA 0)), (q13, .inl (cA 0, 4, zA 0))] _ _ := hW
  refine lv_aload_n hx hb dX8_init_103 rfl (lv_at hl 0 rfl) ?_
  refine lv_iconst (v := 4) hx hb dX8_init_104 (by decide) ?_
  refine N_newa (t := 0) (n := 4) (ns := 1389) (nc := 13) C hW (by decide) wn_1_70 (by decide) rfl rfl rfl rfl dX8_init_105 (fun q14 H hW => ?_)
  refine N_putF 0 C hW hin ffX8_51 rfl rfl rfl (ltb rfl) dX8_init_107 (fun H locs hW => ?_)
  have hW : Wd D A s.heap [(h0, .inr (8, [.ref q1, .ref q2, .ref q3, .ref q4, .int 0, .int 0, .ref q5, .int 0, .int 0, .int 0, .int 0, .int 0, .int 0, .int 0, .ref q6, .long 0, .long 0, .ref q7, .ref q8, .ref q9, .int 0, .ref q10, .int 0, .ref q11, .long 0, .long 0, .long 0, .ref q12, .ref q13, .ref q14, .null, .int 0, .null])), (q1, .inl (cA 0, 78, zA 0)), (q2, .inl (cA 0, 26, zA 0)), (q3, .inl (cA 2, 2, zA 2)), (q4, .inl (cA 0, 26, zA 0)), (q5, .inl (cA 0, 160, zA 0)), (q6, .inl (cA 1, 5, zA 1)), (q7, .inl (cA 0, 5, zA 0)), (q8, .inl (cA 2, 5, zA 2)), (q9, .inl (cA 0, 64, zA 0)), (q10, .inl (cA 0, 4, zA 0)), (q11, .inl (cA 0, 5, zA 0)), (q12, .inl (cA 0, 1005, zA 0)), (q13, .inl (cA 0, 4, zA 0)), (q14, .inl (cA 0, 4, zA 0))] _ _ := hW
  refine lv_aload_n hx hb dX8_init_110 rfl (lv_at hl 0 rfl) ?_
  refine lv_sipush (v := 160) hx hb dX8_init_111 (by decide) ?_
  refine N_newa (t := 0) (n := 160) (ns := 1393) (nc := 14) C hW (by decide) wn_1_70 (by decide) rfl rfl rfl rfl dX8_init_114 (fun q15 H hW => ?_)
  refine N_putF 0 C hW hin ffX8_54 rfl rfl rfl (ltb rfl) dX8_init_116 (fun H locs hW => ?_)
  have hW : Wd D A s.heap [(h0, .inr (8, [.ref q1, .ref q2, .ref q3, .ref q4, .int 0, .int 0, .ref q5, .int 0, .int 0, .int 0, .int 0, .int 0, .int 0, .int 0, .ref q6, .long 0, .long 0, .ref q7, .ref q8, .ref q9, .int 0, .ref q10, .int 0, .ref q11, .long 0, .long 0, .long 0, .ref q12, .ref q13, .ref q14, .ref q15, .int 0, .null])), (q1, .inl (cA 0, 78, zA 0)), (q2, .inl (cA 0, 26, zA 0)), (q3, .inl (cA 2, 2, zA 2)), (q4, .inl (cA 0, 26, zA 0)), (q5, .inl (cA 0, 160, zA 0)), (q6, .inl (cA 1, 5, zA 1)), (q7, .inl (cA 0, 5, zA 0)), (q8, .inl (cA 2, 5, zA 2)), (q9, .inl (cA 0, 64, zA 0)), (q10, .inl (cA 0, 4, zA 0)), (q11, .inl (cA 0, 5, zA 0)), (q12, .inl (cA 0, 1005, zA 0)), (q13, .inl (cA 0, 4, zA 0)), (q14, .inl (cA 0, 4, zA 0)), (q15, .inl (cA 0, 160, zA 0))] _ _ := hW
  refine lv_aload_n hx hb dX8_init_119 rfl (lv_at hl 0 rfl) ?_
  refine lv_bipush (v := 26) hx hb dX8_init_120 (by decide) ?_
  refine N_newa (t := 0) (n := 26) (ns := 1553) (nc := 15) C hW (by decide) wn_1_70 (by decide) rfl rfl rfl rfl dX8_init_122 (fun q16 H hW => ?_)
  refine N_putF 0 C hW hin ffX8_57 rfl rfl rfl (ltb rfl) dX8_init_124 (fun H locs hW => ?_)
  have hW : Wd D A s.heap [(h0, .inr (8, [.ref q1, .ref q2, .ref q3, .ref q4, .int 0, .int 0, .ref q5, .int 0, .int 0, .int 0, .int 0, .int 0, .int 0, .int 0, .ref q6, .long 0, .long 0, .ref q7, .ref q8, .ref q9, .int 0, .ref q10, .int 0, .ref q11, .long 0, .long 0, .long 0, .ref q12, .ref q13, .ref q14, .ref q15, .int 0, .ref q16])), (q1, .inl (cA 0, 78, zA 0)), (q2, .inl (cA 0, 26, zA 0)), (q3, .inl (cA 2, 2, zA 2)), (q4, .inl (cA 0, 26, zA 0)), (q5, .inl (cA 0, 160, zA 0)), (q6, .inl (cA 1, 5, zA 1)), (q7, .inl (cA 0, 5, zA 0)), (q8, .inl (cA 2, 5, zA 2)), (q9, .inl (cA 0, 64, zA 0)), (q10, .inl (cA 0, 4, zA 0)), (q11, .inl (cA 0, 5, zA 0)), (q12, .inl (cA 0, 1005, zA 0)), (q13, .inl (cA 0, 4, zA 0)), (q14, .inl (cA 0, 4, zA 0)), (q15, .inl (cA 0, 160, zA 0)), (q16, .inl (cA 0, 26, zA 0))] _ _ := hW
  obtain ⟨F, hF⟩ : ∃ F : Nat → Nat, F = fun i => ([h0, q1, q2, q3, q4, q5, q6, q7, q8, q9, q10, q11, q12, q13, q14, q15, q16] : List Nat).getD i (g i) := ⟨_, rfl⟩
  obtain ⟨hP, hD, hS⟩ := hW
  have c0 : va_at D vwCl (F 0, cE F cA stM 0 (.inr (8, [5, 6, 7, 8, 2, 2, 9, 0, 0, 0, 0, 0, 0, 0, 10, 1, 1, 11, 12, 13, 0, 14, 0, 15, 1, 1, 1, 16, 17, 18, 19, 0, 20]))) H := by rw [c8]; subst hF; exact hP 0 _ rfl
  have c1 : va_at D vwCl (F 1, cE F cA stM 1 (.inl (0, 78, []))) H := by subst hF; exact hP 1 _ rfl
  have c2 : va_at D vwCl (F 2, cE F cA stM 2 (.inl (0, 26, []))) H := by subst hF; exact hP 2 _ rfl
  have c3 : va_at D vwCl (F 3, cE F cA stM 3 (.inl (2, 2, []))) H := by subst hF; exact hP 3 _ rfl
  have c4 : va_at D vwCl (F 4, cE F cA stM 4 (.inl (0, 26, []))) H := by subst hF; exact hP 4 _ rfl
  have c5 : va_at D vwCl (F 5, cE F cA stM 5 (.inl (0, 160, []))) H := by subst hF; exact hP 5 _ rfl
  have c6 : va_at D vwCl (F 6, cE F cA stM 6 (.inl (1, 5, []))) H := by subst hF; exact hP 6 _ rfl
  have c7 : va_at D vwCl (F 7, cE F cA stM 7 (.inl (0, 5, []))) H := by subst hF; exact hP 7 _ rfl
  have c8 : va_at D vwCl (F 8, cE F cA stM 8 (.inl (2, 5, []))) H := by subst hF; exact hP 8 _ rfl
  have c9 : va_at D vwCl (F 9, cE F cA stM 9 (.inl (0, 64, []))) H := by subst hF; exact hP 9 _ rfl
  have c10 : va_at D vwCl (F 10, cE F cA stM 10 (.inl (0, 4, []))) H := by subst hF; exact hP 10 _ rfl
  have c11 : va_at D vwCl (F 11, cE F cA stM 11 (.inl (0, 5, []))) H := by subst hF; exact hP 11 _ rfl
  have c12 : va_at D vwCl (F 12, cE F cA stM 12 (.inl (0, 1005, []))) H := by subst hF; exact hP 12 _ rfl
  have c13 : va_at D vwCl (F 13, cE F cA stM 13 (.inl (0, 4, []))) H := by subst hF; exact hP 13 _ rfl
  have c14 : va_at D vwCl (F 14, cE F cA stM 14 (.inl (0, 4, []))) H := by subst hF; exact hP 14 _ rfl
  have c15 : va_at D vwCl (F 15, cE F cA stM 15 (.inl (0, 160, []))) H := by subst hF; exact hP 15 _ rfl
  have c16 : va_at D vwCl (F 16, cE F cA stM 16 (.inl (0, 26, []))) H := by subst hF; exact hP 16 _ rfl
  have hP2 : va_P D vwCl (cW F cA layM stM) H := P_of (fun k c hc => by
    match k, hc with
    | 0, hc => cases hc; exact c0
    | 1, hc => cases hc; exact c1
    | 2, hc => cases hc; exact c2
    | 3, hc => cases hc; exact c3
    | 4, hc => cases hc; exact c4
    | 5, hc => cases hc; exact c5
    | 6, hc => cases hc; exact c6
    | 7, hc => cases hc; exact c7
    | 8, hc => cases hc; exact c8
    | 9, hc => cases hc; exact c9
    | 10, hc => cases hc; exact c10
    | 11, hc => cases hc; exact c11
    | 12, hc => cases hc; exact c12
    | 13, hc => cases hc; exact c13
    | 14, hc => cases hc; exact c14
    | 15, hc => cases hc; exact c15
    | 16, hc => cases hc; exact c16
    | k + 17, hc => simp [layM] at hc)
  have hF1 : ∀ i, i < 17 → ∃ (k : Nat) (e : va_E), k = permM.getD i 0 ∧ ([(h0, .inr (8, [.ref q1, .ref q2, .ref q3, .ref q4, .int 0, .int 0, .ref q5, .int 0, .int 0, .int 0, .int 0, .int 0, .int 0, .int 0, .ref q6, .long 0, .long 0, .ref q7, .ref q8, .ref q9, .int 0, .ref q10, .int 0, .ref q11, .long 0, .long 0, .long 0, .ref q12, .ref q13, .ref q14, .ref q15, .int 0, .ref q16])), (q1, .inl (cA 0, 78, zA 0)), (q2, .inl (cA 0, 26, zA 0)), (q3, .inl (cA 2, 2, zA 2)), (q4, .inl (cA 0, 26, zA 0)), (q5, .inl (cA 0, 160, zA 0)), (q6, .inl (cA 1, 5, zA 1)), (q7, .inl (cA 0, 5, zA 0)), (q8, .inl (cA 2, 5, zA 2)), (q9, .inl (cA 0, 64, zA 0)), (q10, .inl (cA 0, 4, zA 0)), (q11, .inl (cA 0, 5, zA 0)), (q12, .inl (cA 0, 1005, zA 0)), (q13, .inl (cA 0, 4, zA 0)), (q14, .inl (cA 0, 4, zA 0)), (q15, .inl (cA 0, 160, zA 0)), (q16, .inl (cA 0, 26, zA 0))] : va_W)[k]? = some (F i, e) := by
    intro i hi
    subst hF
    match i, hi with
    | 0, _ => exact ⟨0, _, rfl, rfl⟩
    | 1, _ => exact ⟨1, _, rfl, rfl⟩
    | 2, _ => exact ⟨2, _, rfl, rfl⟩
    | 3, _ => exact ⟨3, _, rfl, rfl⟩
    | 4, _ => exact ⟨4, _, rfl, rfl⟩
    | 5, _ => exact ⟨5, _, rfl, rfl⟩
    | 6, _ => exact ⟨6, _, rfl, rfl⟩
    | 7, _ => exact ⟨7, _, rfl, rfl⟩
    | 8, _ => exact ⟨8, _, rfl, rfl⟩
    | 9, _ => exact ⟨9, _, rfl, rfl⟩
    | 10, _ => exact ⟨10, _, rfl, rfl⟩
    | 11, _ => exact ⟨11, _, rfl, rfl⟩
    | 12, _ => exact ⟨12, _, rfl, rfl⟩
    | 13, _ => exact ⟨13, _, rfl, rfl⟩
    | 14, _ => exact ⟨14, _, rfl, rfl⟩
    | 15, _ => exact ⟨15, _, rfl, rfl⟩
    | 16, _ => exact ⟨16, _, rfl, rfl⟩
    | i + 17, hi => omega
  have hDD : (∀ i j, i < layM.length → j < layM.length → F i = F j → i = j) ∧ ∀ i, i < layM.length → A (F i) := by
    refine ⟨fun i j hi hj hij => ?_, fun i hi => ?_⟩
    · obtain ⟨k1, e1, p1, g1⟩ := hF1 i hi
      obtain ⟨k2, e2, p2, g2⟩ := hF1 j hj
      have h := hD.1 k1 k2 _ _ g1 g2 hij
      exact permM_inj i hi j hj (by rw [← p1, ← p2, h])
    · obtain ⟨k1, e1, p1, g1⟩ := hF1 i hi
      exact hD.2 k1 (F i, e1) g1
  have hFg : F 0 = h0 ∧ ∀ i, 200 ≤ i → F i = g i := ⟨by rw [hF]; rfl, fun i hi => by rw [hF]; exact getD_far _ (show 17 ≤ i by omega)⟩
  refine W.widen (k := 16) (n := 1579) (leb rfl) (leb rfl) ?_
  exact Rn_tail X8_rest (fun q hq => by rcases List.mem_singleton.mp hq with rfl; trivial) (fun _ hv => by cases hv) stM_rng C hr hlk rfl hDD hFg hP2 hS hl (by rw [← hFg.1]; rfl)
