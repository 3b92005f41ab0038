/-! ===== String.length and what it calls ===== -/
section STRM
theorem R_callVs {lay : List LC} {M : MI} {pc : Nat} {ls : List (Nat × AV)} {st : List AV} {σ : Mem} {Q : AV → Mem → Prop} {My : MI} {n k idx : Nat} {as : List AV} {P : AV → Mem → Prop} {stk : List AV} (hs : stk = as.reverse ++ vP (200 + k) :: st) (hk6 : k < 6) (hM : MOK My n) (hV : MOV My) (hc : (mY My).cls = "java/lang/String") (hlink : Cond.methodLink (mY M).cls idx (mY My) ∈ WT) (hk : mK My < mK M) (hn : as.length = n) (hst : (st.map catA).sum ≤ 8) (hd : decode (mC M) pc = .ok (.invokevirtual idx, 3)) (h : Cl lay My (vP (200 + k) :: as) σ P) (kk : ∀ v σ', P v σ' → Rn lay M (pc + 3) ls (roA My v ++ st) σ' Q) : Rn lay M pc ls stk σ Q := by
  subst hs
  refine R_call hk (fun v hv => ?_) (fun v hv => List.mem_append_right _ (List.mem_cons_of_mem _ hv)) h (fun p l e Rm s m args below meth c ad D cA A nc ns H locs lr C hP hS hlr hmet => ?_) kk
  · rcases List.mem_cons.mp hv with rfl | hv
    · exact List.mem_append_right _ List.mem_cons_self
    · exact List.mem_append_left _ (List.mem_reverse.mpr hv)
  · obtain ⟨hx, hb, hr, hml, hown, hts, hlk, hKN, hDD, hA, hrm, hSK⟩ := C
    refine va_runV (As := as.map (rv ad)) (rest := st.map (rv ad)) (b := ad (200 + k)) (C := (mY My).cls) (own := (mY M).cls) (Ts := WT) (bytes := mC My) (maxL := mL My) (ret := mR My) (n := n) ⟨hx, hb, hml, hown, hts⟩ hmet ⟨callB_of n hts (wsM_good hM.1) rfl rfl rfl (hts _ hM.2.1) (hts _ hlink) hM.2.2.1 ⟨?_, ?_⟩, hts _ hV.1, hts _ hV.2⟩ ⟨fun a U g mk hq => ⟨hq.1, hq.2.calling⟩, ?_, fun U hU hW => ⟨rfl, PB.at hP hKN hSK hS hDD hA hU hW⟩⟩ rfl (by rw [List.length_map]; exact hn) hlr ?_ ?_ hd ⟨hrm.2.2.1, hrm.2.2.2⟩
    · show mK My + 1 ≤ Rm.frames
      have := hrm.1; omega
    · show 8 + (mL My + 11) + 100 * mK My ≤ Rm.locals
      have := hrm.2.1; have := hM.2.2.2; omega
    · obtain ⟨cell, h1, h2, h3⟩ := vk_recv hSK.1 hk6 hS
      exact ⟨cell, h1, h2, by rw [hc]; exact h3⟩
    · rw [List.map_append, List.map_reverse]; rfl
    · show 2 * 0 + _ ≤ 8
      rw [catSum]; omega
theorem coder_s {k : Nat} (hk : k < 6) {σ : Mem} {Q : Int → Mem → Prop} (h : Q 0 σ) : CI layC MJ0_coder_7d493 [vP (200 + k)] σ Q := by
  refine Cl.ofR (ls := [(0, vP (200 + k))]) plJ0.1 (leb rfl) rfl ?_
  refine R_scs (pc := 0) ws_2_143 dJ0_coder_7d493_0 ?_
  refine R_if_eq (pc := 3) (tgt := 13) (by decide) dJ0_coder_7d493_3 (fun c => absurd c (by decide)) (fun _ => ?_)
  refine R_aload_n (pc := 6) 0 rfl rfl dJ0_coder_7d493_6 ?_
  refine R_scod (pc := 7) hk ws_6_57 dJ0_coder_7d493_7 ?_
  refine R_goto (pc := 10) (tgt := 14) (by decide) dJ0_coder_7d493_10 ?_
  exact R_nret (pc := 14) rfl rfl dJ0_coder_7d493_14 ⟨_, rfl, h⟩
theorem isLatin1_s {k : Nat} (hk : k < 6) {σ : Mem} {Q : Int → Mem → Prop} (h : Q 1 σ) : CI layC MJ0_isLatin1_aae02 [vP (200 + k)] σ Q := by
  refine Cl.ofR (ls := [(0, vP (200 + k))]) plJ0.1 (leb rfl) rfl ?_
  refine R_scs (pc := 0) ws_2_143 dJ0_isLatin1_aae02_0 ?_
  refine R_if_eq (pc := 3) (tgt := 17) (by decide) dJ0_isLatin1_aae02_3 (fun c => absurd c (by decide)) (fun _ => ?_)
  refine R_aload_n (pc := 6) 0 rfl rfl dJ0_isLatin1_aae02_6 ?_
  refine R_scod (pc := 7) hk ws_6_57 dJ0_isLatin1_aae02_7 ?_
  refine R_if_ne (pc := 10) (tgt := 17) (by decide) dJ0_isLatin1_aae02_10 (fun c => absurd rfl c) (fun _ => ?_)
  refine R_iconst (pc := 13) (by decide) dJ0_isLatin1_aae02_13 ?_
  refine R_goto (pc := 14) (tgt := 18) (by decide) dJ0_isLatin1_aae02_14 ?_
  exact R_zret (pc := 18) rfl (Or.inr rfl) dJ0_isLatin1_aae02_18 ⟨_, rfl, h⟩
theorem strLen_s {k : Nat} (hk : k < 6) {σ : Mem} {Q : Int → Mem → Prop} (h : Q (strL.getD k 0 : Nat) σ) : CI layC MJ0_length_8abf5 [vP (200 + k)] σ Q := by
  have e : bShr ((strL.getD k 0 : Nat) : Int) 0 = ((strL.getD k 0 : Nat) : Int) := by
    have : ∀ k : Fin 6, bShr ((strL.getD k.val 0 : Nat) : Int) 0 = ((strL.getD k.val 0 : Nat) : Int) := by decide +kernel
    exact this ⟨k, hk⟩
  refine Cl.ofR (ls := [(0, vP (200 + k))]) plJ0.1 (leb rfl) rfl ?_
  refine R_aload_n (pc := 0) 0 rfl rfl dJ0_length_8abf5_0 ?_
  refine R_sval (pc := 1) hk ws_6_56 dJ0_length_8abf5_1 ?_
  refine R_slen (pc := 4) hk dJ0_length_8abf5_4 ?_
  refine R_aload_n (pc := 5) 0 rfl rfl dJ0_length_8abf5_5 ?_
  refine R_callVs (pc := 6) (as := []) (st := [vI (strL.getD k 0 : Nat)]) rfl hk kJ0_coder_7d493 sJ0_coder_7d493 rfl ws_2_139 (ltb rfl) rfl (leb rfl) dJ0_length_8abf5_6 (coder_s hk (Q := fun r σ1 => r = 0 ∧ σ1 = σ) ⟨rfl, rfl⟩) (fun v σ1 hv => ?_)
  obtain ⟨x, rfl, rfl, rfl⟩ := hv
  refine R_ishr (pc := 9) dJ0_length_8abf5_9 ?_
  rw [e]
  exact R_iret (pc := 10) rfl dJ0_length_8abf5_10 ⟨_, rfl, h⟩
end STRM
