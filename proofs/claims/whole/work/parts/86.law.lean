section LQ
variable {nc ns : Nat} {p : Program} {l : Launch} {e : Env} {Rm : Room} {s : State} {m : MethodId} {args : Array Value} {below : List Frame} {meth : Method} {c : Code} {g FC FM : Nat → Nat} {D : va_G} {cA : Nat → ClassId} {A : Nat → Prop} {b L : Nat} {xs : Nat → Int32} {σ τ : Mem} {H : Heap} {locs : List Loc} {pc : Nat} {Q : State → Prop} {lr : Array Slot} {rest : List Value} {n : Nat}
theorem sw_case {v : Int32} (h1 : ¬ v.toInt < 0) (h2 : ¬ (41 : Int) < v.toInt) : ∃ k : Nat, k < 42 ∧ v.toInt = (k : Int) := ⟨v.toInt.toNat, by omega, by omega⟩
theorem law_body (B : LB nc ns p Rm s m args c g FC FM D cA A b L xs) (hW : LW D cA A s FC FM σ τ H locs) (hR : Rel σ τ) (hl : lv_has lr 4 (lvL FC FM b n)) (hn : n + 4 < L)
    (kk : ∀ σ' τ' H1 locs1, LW D cA A s FC FM σ' τ' H1 locs1 → Rel σ' τ' → W p l e Rm s m args below meth c H1 locs1 nc ns Q (F0 m 1487 lr [])) : W p l e Rm s m args below meth c H locs nc ns Q (F0 m 26 lr []) := by
  have hx := B.1.1
  have hb : c.code = code := B.1.2.1
  have hL := B.2.2.2
  refine lv_aload_n hx hb dL_law_26 rfl (lv_at hl 3 rfl) ?_
  refine lv_iload_n hx hb dL_law_27 rfl (lv_at hl 0 rfl) ?_
  have hin : inT 0 (n : Int) := ⟨by omega, by omega⟩
  refine va_sld hx hb B.2.2.1.1 B.2.2.1.2.1 B.2.2.1.2.2 hW.2.2.1 (vpin hin (by omega) (by omega)) dL_law_28 ?_
  refine lv_bipush hx hb dL_law_29 rfl ?_
  refine lv_iand hx hb dL_law_31 ?_
  refine lv_topi (fun v _ => ?_)
  by_cases h1 : v.toInt < 0
  · exact lv_tableOut (tgt := 1487) hx hb dL_law_32 (Or.inl h1) (by decide) (kk σ τ H locs hW hR)
  by_cases h2 : (41 : Int) < v.toInt
  · exact lv_tableOut (tgt := 1487) hx hb dL_law_32 (Or.inr h2) (by decide) (kk σ τ H locs hW hR)
  obtain ⟨k, hk, hv⟩ := sw_case h1 h2
  match k, hk, hv with
  | 0, _, hv => exact lv_tableIn (off := 184) (tgt := 216) hx hb dL_law_32 h1 h2 (by rw [hv]; rfl) (by decide) (case_0 B hW hR hl hn kk)
  | 1, _, hv => exact lv_tableIn (off := 207) (tgt := 239) hx hb dL_law_32 h1 h2 (by rw [hv]; rfl) (by decide) (case_1 B hW hR hl hn kk)
  | 2, _, hv => exact lv_tableIn (off := 230) (tgt := 262) hx hb dL_law_32 h1 h2 (by rw [hv]; rfl) (by decide) (case_2 B hW hR hl hn kk)
  | 3, _, hv => exact lv_tableIn (off := 243) (tgt := 275) hx hb dL_law_32 h1 h2 (by rw [hv]; rfl) (by decide) (case_3 B hW hR hl hn kk)
  | 4, _, hv => exact lv_tableIn (off := 256) (tgt := 288) hx hb dL_law_32 h1 h2 (by rw [hv]; rfl) (by decide) (case_4 B hW hR hl hn kk)
  | 5, _, hv => exact lv_tableIn (off := 279) (tgt := 311) hx hb dL_law_32 h1 h2 (by rw [hv]; rfl) (by decide) (case_5 B hW hR hl hn kk)
  | 6, _, hv => exact lv_tableIn (off := 312) (tgt := 344) hx hb dL_law_32 h1 h2 (by rw [hv]; rfl) (by decide) (case_6 B hW hR hl hn kk)
  | 7, _, hv => exact lv_tableIn (off := 346) (tgt := 378) hx hb dL_law_32 h1 h2 (by rw [hv]; rfl) (by decide) (case_7 B hW hR hl hn kk)
  | 8, _, hv => exact lv_tableIn (off := 370) (tgt := 402) hx hb dL_law_32 h1 h2 (by rw [hv]; rfl) (by decide) (case_8 B hW hR hl hn kk)
  | 9, _, hv => exact lv_tableIn (off := 404) (tgt := 436) hx hb dL_law_32 h1 h2 (by rw [hv]; rfl) (by decide) (case_9 B hW hR hl hn kk)
  | 10, _, hv => exact lv_tableIn (off := 447) (tgt := 479) hx hb dL_law_32 h1 h2 (by rw [hv]; rfl) (by decide) (case_10 B hW hR hl hn kk)
  | 11, _, hv => exact lv_tableIn (off := 470) (tgt := 502) hx hb dL_law_32 h1 h2 (by rw [hv]; rfl) (by decide) (case_11 B hW hR hl hn kk)
  | 12, _, hv => exact lv_tableIn (off := 493) (tgt := 525) hx hb dL_law_32 h1 h2 (by rw [hv]; rfl) (by decide) (case_12 B hW hR hl hn kk)
  | 13, _, hv => exact lv_tableIn (off := 526) (tgt := 558) hx hb dL_law_32 h1 h2 (by rw [hv]; rfl) (by decide) (case_13 B hW hR hl hn kk)
  | 14, _, hv => exact lv_tableIn (off := 549) (tgt := 581) hx hb dL_law_32 h1 h2 (by rw [hv]; rfl) (by decide) (case_14 B hW hR hl hn kk)
  | 15, _, hv => exact lv_tableIn (off := 572) (tgt := 604) hx hb dL_law_32 h1 h2 (by rw [hv]; rfl) (by decide) (case_15 B hW hR hl hn kk)
  | 16, _, hv => exact lv_tableIn (off := 605) (tgt := 637) hx hb dL_law_32 h1 h2 (by rw [hv]; rfl) (by decide) (case_16 B hW hR hl hn kk)
  | 17, _, hv => exact lv_tableIn (off := 638) (tgt := 670) hx hb dL_law_32 h1 h2 (by rw [hv]; rfl) (by decide) (case_17 B hW hR hl hn kk)
  | 18, _, hv => exact lv_tableIn (off := 691) (tgt := 723) hx hb dL_law_32 h1 h2 (by rw [hv]; rfl) (by decide) (case_18 B hW hR hl hn kk)
  | 19, _, hv => exact lv_tableIn (off := 724) (tgt := 756) hx hb dL_law_32 h1 h2 (by rw [hv]; rfl) (by decide) (case_19 B hW hR hl hn kk)
  | 20, _, hv => exact lv_tableIn (off := 757) (tgt := 789) hx hb dL_law_32 h1 h2 (by rw [hv]; rfl) (by decide) (case_20 B hW hR hl hn kk)
  | 21, _, hv => exact lv_tableIn (off := 790) (tgt := 822) hx hb dL_law_32 h1 h2 (by rw [hv]; rfl) (by decide) (case_21 B hW hR hl hn kk)
  | 22, _, hv => exact lv_tableIn (off := 823) (tgt := 855) hx hb dL_law_32 h1 h2 (by rw [hv]; rfl) (by decide) (case_22 B hW hR hl hn kk)
  | 23, _, hv => exact lv_tableIn (off := 856) (tgt := 888) hx hb dL_law_32 h1 h2 (by rw [hv]; rfl) (by decide) (case_23 B hW hR hl hn kk)
  | 24, _, hv => exact lv_tableIn (off := 879) (tgt := 911) hx hb dL_law_32 h1 h2 (by rw [hv]; rfl) (by decide) (case_24 B hW hR hl hn kk)
  | 25, _, hv => exact lv_tableIn (off := 912) (tgt := 944) hx hb dL_law_32 h1 h2 (by rw [hv]; rfl) (by decide) (case_25 B hW hR hl hn kk)
  | 26, _, hv => exact lv_tableIn (off := 945) (tgt := 977) hx hb dL_law_32 h1 h2 (by rw [hv]; rfl) (by decide) (case_26 B hW hR hl hn kk)
  | 27, _, hv => exact lv_tableIn (off := 989) (tgt := 1021) hx hb dL_law_32 h1 h2 (by rw [hv]; rfl) (by decide) (case_27 B hW hR hl hn kk)
  | 28, _, hv => exact lv_tableIn (off := 1043) (tgt := 1075) hx hb dL_law_32 h1 h2 (by rw [hv]; rfl) (by decide) (case_28 B hW hR hl hn kk)
  | 29, _, hv => exact lv_tableIn (off := 1076) (tgt := 1108) hx hb dL_law_32 h1 h2 (by rw [hv]; rfl) (by decide) (case_29 B hW hR hl hn kk)
  | 30, _, hv => exact lv_tableIn (off := 1099) (tgt := 1131) hx hb dL_law_32 h1 h2 (by rw [hv]; rfl) (by decide) (case_30 B hW hR hl hn kk)
  | 31, _, hv => exact lv_tableIn (off := 1112) (tgt := 1144) hx hb dL_law_32 h1 h2 (by rw [hv]; rfl) (by decide) (case_31 B hW hR hl hn kk)
  | 32, _, hv => exact lv_tableIn (off := 1135) (tgt := 1167) hx hb dL_law_32 h1 h2 (by rw [hv]; rfl) (by decide) (case_32 B hW hR hl hn kk)
  | 33, _, hv => exact lv_tableIn (off := 1168) (tgt := 1200) hx hb dL_law_32 h1 h2 (by rw [hv]; rfl) (by decide) (case_33 B hW hR hl hn kk)
  | 34, _, hv => exact lv_tableIn (off := 1191) (tgt := 1223) hx hb dL_law_32 h1 h2 (by rw [hv]; rfl) (by decide) (case_34 B hW hR hl hn kk)
  | 35, _, hv => exact lv_tableIn (off := 1234) (tgt := 1266) hx hb dL_law_32 h1 h2 (by rw [hv]; rfl) (by decide) (case_35 B hW hR hl hn kk)
  | 36, _, hv => exact lv_tableIn (off := 1257) (tgt := 1289) hx hb dL_law_32 h1 h2 (by rw [hv]; rfl) (by decide) (case_36 B hW hR hl hn kk)
  | 37, _, hv => exact lv_tableIn (off := 1280) (tgt := 1312) hx hb dL_law_32 h1 h2 (by rw [hv]; rfl) (by decide) (case_37 B hW hR hl hn kk)
  | 38, _, hv => exact lv_tableIn (off := 1323) (tgt := 1355) hx hb dL_law_32 h1 h2 (by rw [hv]; rfl) (by decide) (case_38 B hW hR hl hn kk)
  | 39, _, hv => exact lv_tableIn (off := 1366) (tgt := 1398) hx hb dL_law_32 h1 h2 (by rw [hv]; rfl) (by decide) (case_39 B hW hR hl hn kk)
  | 40, _, hv => exact lv_tableIn (off := 1419) (tgt := 1451) hx hb dL_law_32 h1 h2 (by rw [hv]; rfl) (by decide) (case_40 B hW hR hl hn kk)
  | 41, _, hv => exact lv_tableIn (off := 1432) (tgt := 1464) hx hb dL_law_32 h1 h2 (by rw [hv]; rfl) (by decide) (case_41 B hW hR hl hn kk)
  | k + 42, hk, _ => omega
theorem law_loop (B : LB nc ns p Rm s m args c g FC FM D cA A b L xs) (fin : ∀ (H : Heap) (locs : List Loc) (lr : Array Slot), va_S A s.heap H locs → W p l e Rm s m args below meth c H locs nc ns Q (F0 m 1493 lr [])) :
    ∀ (fuel n : Nat) (σ τ : Mem) (H : Heap) (locs : List Loc) (lr : Array Slot), L < n + fuel → n ≤ 325 → LW D cA A s FC FM σ τ H locs → Rel σ τ → lv_has lr 4 (lvL FC FM b n) → W p l e Rm s m args below meth c H locs nc ns Q (F0 m 18 lr []) := by
  have hx := B.1.1
  have hb : c.code = code := B.1.2.1
  have hL := B.2.2.2
  have eL : Int32.ofNat L - Int32.ofInt 5 = Int32.ofInt ((L : Int) - 5) := by rw [Int32.ofInt_sub]; rfl
  intro fuel
  induction fuel with
  | zero =>
    intro n σ τ H locs lr hf hn hW hR hl
    refine lv_iload_n hx hb dL_law_18 rfl (lv_at hl 0 rfl) ?_
    refine lv_aload_n hx hb dL_law_19 rfl (lv_at hl 3 rfl) ?_
    refine va_slen hx hb B.2.2.1.1 B.2.2.1.2.1 B.2.2.1.2.2 hW.2.2.1 dL_law_20 ?_
    refine lv_iconst hx hb dL_law_21 rfl ?_
    refine lv_isub hx hb dL_law_22 ?_
    rw [eL]
    exact lv_icmp_gt (tgt := 1493) hx hb dL_law_23 (by decide) (fun _ => fin H locs lr hW.2.2.1) (fun z => absurd ((i32lt ⟨by omega, by omega⟩ ⟨by omega, by omega⟩).mpr (by omega)) z)
  | succ fuel ih =>
    intro n σ τ H locs lr hf hn hW hR hl
    refine lv_iload_n hx hb dL_law_18 rfl (lv_at hl 0 rfl) ?_
    refine lv_aload_n hx hb dL_law_19 rfl (lv_at hl 3 rfl) ?_
    refine va_slen hx hb B.2.2.1.1 B.2.2.1.2.1 B.2.2.1.2.2 hW.2.2.1 dL_law_20 ?_
    refine lv_iconst hx hb dL_law_21 rfl ?_
    refine lv_isub hx hb dL_law_22 ?_
    rw [eL]
    refine lv_icmp_gt (tgt := 1493) hx hb dL_law_23 (by decide) (fun _ => fin H locs lr hW.2.2.1) (fun z => ?_)
    have hn4 : n + 4 < L := by
      rw [i32lt ⟨by omega, by omega⟩ ⟨by omega, by omega⟩] at z
      omega
    refine law_body B hW hR hl hn4 (fun σ' τ' H1 locs1 hW1 hR1 => ?_)
    refine lv_iinc (v := Int32.ofInt ((n + 5 : Nat) : Int)) (lv' := lvL FC FM b (n + 5)) hx hb dL_law_1487 hl (k := 0) rfl (by rw [← Int32.ofInt_add]; rfl) (by decide) rfl (fun lr hl => ?_)
    refine lv_goto (tgt := 18) hx hb dL_law_1490 (by decide) ?_
    exact ih (n + 5) σ' τ' H1 locs1 lr (by omega) (by omega) hW1 hR1 hl
end LQ
