/-! ===== String.charAt and what it calls ===== -/
section STRC
theorem R_i2c {lay : List LC} {M : MI} {pc : Nat} {ls : List (Nat × AV)} {st : List AV} {σ : Mem} {Q : AV → Mem → Prop} {a : Int} (hv : ((Int32.ofInt a).toUInt32 % 65536).toInt32 = Int32.ofInt a) (hd : decode (mC M) pc = .ok (.i2c, 1)) (h : Rn lay M (pc + 1) ls (vI a :: st) σ Q) : Rn lay M pc ls (vI a :: st) σ Q :=
  R_un h (fun z => z) (fun p l e Rm s m args below meth c nc ns H locs Z lr ad rest hx hb h1 k => lv_i2c hx hb hd hv k)
/-- Preconditions.checkIndex of an index within: what makes the exception is only carried (it may be null) -/
theorem pre_met (l : Launch) {i n : Int} (hi : inT 0 i) (hn : inT 0 n) (h0 : 0 ≤ i) (h1 : i < n) (fv : Value) (hfv : fv = .null ∨ ∃ t, fv = .ref t) : Met l (mY MJ3_checkIndex_8e157) (wsM MJ3_checkIndex_8e157) (rmK 0) (va_Pc [.int (Int32.ofInt i), .int (Int32.ofInt n), fv] (fun _ => True)) (fun _ st o t => o = .returned (some (.int (Int32.ofInt i))) ∧ t.heap = st.heap) 0 0 (fun _ => False) := by
  refine Met.ofW (cc := cJ3_checkIndex_8e157) (maxL := 3) (ret := some .int) plJ0.2.2 rfl ?_
  intro p e s m args below meth c s₁ B hml hv
  obtain ⟨rfl, -⟩ := hv
  have hx := B.exec
  have hb := B.bytes
  have hr := B.returns
  have hlk := B.notSynchronized
  have hl : ∃ ls : Array Slot, lv_has ls 3 [(0, .int (Int32.ofInt i)), (1, .int (Int32.ofInt n))] ∧ entryFrame m ([.int (Int32.ofInt i), .int (Int32.ofInt n), fv] : List Value).toArray 3 = F0 m 0 ls [] := by
    rcases hfv with rfl | ⟨t, rfl⟩
    · have hl := lv_entry [.int (Int32.ofInt i), .int (Int32.ofInt n), .null] (n := 3) (Nat.le_of_ble_eq_true rfl)
      exact ⟨_, lv_sub hl [0, 1] rfl, lg_entry_eq _ _ _⟩
    · have hl := lv_entry [.int (Int32.ofInt i), .int (Int32.ofInt n), .ref t] (n := 3) (Nat.le_of_ble_eq_true rfl)
      exact ⟨_, lv_sub hl [0, 1] rfl, lg_entry_eq _ _ _⟩
  obtain ⟨ls, hl, he⟩ := hl
  rw [he]
  refine lv_iload_n hx hb dJ3_checkIndex_8e157_0 rfl (lv_at hl 0 rfl) ?_
  refine lv_if_lt (tgt := 9) hx hb dJ3_checkIndex_8e157_1 (by decide) (fun c => ?_) (fun _ => ?_)
  · rw [← i32_0, i32lt hi in0_0] at c
    omega
  refine lv_iload_n hx hb dJ3_checkIndex_8e157_4 rfl (lv_at hl 0 rfl) ?_
  refine lv_iload_n hx hb dJ3_checkIndex_8e157_5 rfl (lv_at hl 1 rfl) ?_
  refine lv_icmp_lt (tgt := 16) hx hb dJ3_checkIndex_8e157_6 (by decide) (fun _ => ?_) (fun c => absurd ((i32lt hi hn).mpr h1) c)
  refine lv_iload_n hx hb dJ3_checkIndex_8e157_16 rfl (lv_at hl 0 rfl) ?_
  exact W.iret hx hb hr (fun t ht _ => ⟨rfl, ht⟩) (fun q hq => by cases hq) dJ3_checkIndex_8e157_17 hlk
theorem R_chk {i n : Int} (h0 : 0 ≤ i) (h1 : i < n) {ls : List (Nat × AV)} {σ : Mem} {Q : AV → Mem → Prop} (h : Rn layC MJ0_checkIndex_df160 8 ls [vI i] σ Q) : Rn layC MJ0_checkIndex_df160 2 ls [vI n, vI i] σ Q := by
  intro hl hs hg p l e Rm s m args below meth c ad D cA A nc ns H locs lr C hP hS hlv
  have hn : inT 0 n := okh hs
  have hi : inT 0 i := okh (okt hs)
  obtain ⟨hx, hb, hr, hml, hown, hts, hlk, hKN, hDD, hA, hrm, hSK⟩ := id C
  obtain ⟨fv, hfv, hz⟩ : ∃ fv : Value, (fv = .null ∨ ∃ t, fv = .ref t) ∧ va_Z "jdk/internal/util/Preconditions" "SIOOBE_FORMATTER" "Ljava/util/function/BiFunction;" fv A s s.heap := by
    rcases hSK.2.2.2 with hz | ⟨t, hz⟩
    · exact ⟨_, Or.inl rfl, hz⟩
    · exact ⟨_, Or.inr ⟨t, rfl⟩, hz⟩
  refine va_gets hx hb hz hS hown (hts _ ws_2_159) (fun _ z => z) dJ0_checkIndex_df160_2 ?_
  have hrun : va_Run p l e Rm s m args below meth c H locs nc ns 0 0 (F0 m 5 lr [fv, .int (Int32.ofInt n), .int (Int32.ofInt i)]) [] (fun st o t => o = .returned (some (.int (Int32.ofInt i))) ∧ t.heap = st.heap) (fun _ => False) := by
    refine va_runS (As := [.int (Int32.ofInt i), .int (Int32.ofInt n), fv]) (rest := []) (own := (mY MJ0_checkIndex_df160).cls) (Ts := WT) (bytes := mC MJ3_checkIndex_8e157) (maxL := 3) (ret := some .int) (n := 3) ⟨hx, hb, hml, hown, hts⟩ (pre_met l hi hn h0 h1 fv hfv) ⟨callB_of 3 hts (wsM_good kJ3_checkIndex_8e157.1) rfl rfl rfl (hts _ kJ3_checkIndex_8e157.2.1) (hts _ ws_2_161) kJ3_checkIndex_8e157.2.2.1 ⟨?_, ?_⟩, hts _ sJ3_checkIndex_8e157⟩ ⟨fun a U g mk hq => hq, fun U hU hW => ⟨rfl, trivial⟩⟩ rfl rfl hlv.1 rfl (lv_room (Nat.le_of_ble_eq_true rfl)) dJ0_checkIndex_df160_5 ⟨hrm.2.2.1, hrm.2.2.2⟩
    · show 0 + 1 ≤ Rm.frames
      have : 1 ≤ Rm.frames := hrm.1
      omega
    · show 8 + (3 + 11) + 100 * 0 ≤ Rm.locals
      have : 100 * 1 ≤ Rm.locals := hrm.2.1
      omega
  intro T hT X
  obtain ⟨v, st₀, t, T', Ls, g0, X', hL, e1, e2, ⟨hv, hh⟩, hgo⟩ := hrun T hT X
  have hH : T'.heap = H := by rw [e1, hh, g0]
  have hS' : va_S A s.heap T'.heap (locs ++ Ls) := by
    rw [hH]
    refine ⟨hS.1, hS.2.1, fun q hq => ?_⟩
    rcases List.mem_append.mp hq with hq | hq
    · exact hS.2.2 q hq
    · exact (hL q hq).elim
  obtain ⟨t2, a1, b1⟩ := h hl (okt hs) hg p l e Rm s m args below meth c ad D cA A nc ns T'.heap (locs ++ Ls) lr C (by rw [hH]; exact hP) hS' hlv T' rfl X'
  refine ⟨t2, hgo t2 ?_, b1⟩
  have e4 : v = some (.int (Int32.ofInt i)) := by injection hv
  rw [e4]
  exact a1
theorem strIx_s {i n : Int} (h0 : 0 ≤ i) (h1 : i < n) {σ : Mem} {Q : Mem → Prop} (h : Q σ) : CV layC MJ0_checkIndex_df160 [vI i, vI n] σ Q := by
  refine Cl.ofR (ls := [(0, vI i), (1, vI n)]) plJ0.1 (leb rfl) rfl ?_
  refine R_iload_n (pc := 0) 0 rfl rfl dJ0_checkIndex_df160_0 ?_
  refine R_iload_n (pc := 1) 1 rfl rfl dJ0_checkIndex_df160_1 ?_
  refine R_chk h0 h1 ?_
  refine R_pop (pc := 8) rfl dJ0_checkIndex_df160_8 ?_
  exact R_vret (pc := 9) rfl dJ0_checkIndex_df160_9 ⟨rfl, h⟩
/-- the k-th word's i-th letter -/
def chr (k i : Nat) : Int := ((strB.getD k []).getD i 0).toInt
theorem chr_ok : ∀ k : Fin 6, ∀ i : Fin 5, bAnd (chr k.val i.val) 255 = chr k.val i.val ∧ ((Int32.ofInt (chr k.val i.val)).toUInt32 % 65536).toInt32 = Int32.ofInt (chr k.val i.val) ∧ narrow .char (.int (Int32.ofInt (chr k.val i.val))) = .int (Int32.ofInt (chr k.val i.val)) := by decide +kernel
theorem latAt_s {k : Nat} (hk : k < 6) {i : Int} (h0 : 0 ≤ i) (h1 : i < (strL.getD k 0 : Nat)) {σ : Mem} {Q : Int → Mem → Prop} (h : Q (chr k i.toNat) σ) : CI layC MJ1_charAt_3b067 [vP (210 + k), vI i] σ Q := by
  have hb : strL.getD k 0 ≤ 5 := by
    have : ∀ k : Fin 6, strL.getD k.val 0 ≤ 5 := by decide
    exact this ⟨k, hk⟩
  obtain ⟨c1, c2, c3⟩ := chr_ok ⟨k, hk⟩ ⟨i.toNat, by omega⟩
  refine Cl.ofR (ls := [(0, vP (210 + k)), (1, vI i)]) plJ0.2.1 (leb rfl) rfl ?_
  refine R_iload_n (pc := 0) 1 rfl rfl dJ1_charAt_3b067_0 ?_
  refine R_aload_n (pc := 1) 0 rfl rfl dJ1_charAt_3b067_1 ?_
  refine R_slen (pc := 2) hk dJ1_charAt_3b067_2 ?_
  refine R_callS (pc := 3) (as := [vI i, vI (strL.getD k 0 : Nat)]) (st := []) rfl kJ0_checkIndex_df160 sJ0_checkIndex_df160 ws_2_156 (ltb rfl) rfl (leb rfl) dJ1_charAt_3b067_3 (strIx_s h0 h1 (Q := fun σ1 => σ1 = σ) rfl) (fun v σ1 hv => ?_)
  obtain ⟨_, rfl⟩ := hv
  show Rn layC MJ1_charAt_3b067 6 _ [] _ _
  refine R_aload_n (pc := 6) 0 rfl rfl dJ1_charAt_3b067_6 ?_
  refine R_iload_n (pc := 7) 1 rfl rfl dJ1_charAt_3b067_7 ?_
  refine R_sbld (pc := 8) hk h0 h1 dJ1_charAt_3b067_8 ?_
  refine R_sipush (pc := 9) (by decide) dJ1_charAt_3b067_9 ?_
  refine R_iand (pc := 12) dJ1_charAt_3b067_12 ?_
  rw [show bAnd (((strB.getD k []).getD i.toNat 0).toInt) 255 = chr k i.toNat from c1]
  refine R_i2c (pc := 13) c2 dJ1_charAt_3b067_13 ?_
  exact R_nret (pc := 14) rfl c3 dJ1_charAt_3b067_14 ⟨_, rfl, h⟩
theorem chrAt_s {k : Nat} (hk : k < 6) {i : Int} (h0 : 0 ≤ i) (h1 : i < (strL.getD k 0 : Nat)) {σ : Mem} {Q : Int → Mem → Prop} (h : Q (chr k i.toNat) σ) : CI layC MJ0_charAt_5068e [vP (200 + k), vI i] σ Q := by
  have hb : strL.getD k 0 ≤ 5 := by
    have : ∀ k : Fin 6, strL.getD k.val 0 ≤ 5 := by decide
    exact this ⟨k, hk⟩
  obtain ⟨c1, c2, c3⟩ := chr_ok ⟨k, hk⟩ ⟨i.toNat, by omega⟩
  refine Cl.ofR (ls := [(0, vP (200 + k)), (1, vI i)]) plJ0.1 (leb rfl) rfl ?_
  refine R_aload_n (pc := 0) 0 rfl rfl dJ0_charAt_5068e_0 ?_
  refine R_callVs (pc := 1) (as := []) (st := []) rfl hk kJ0_isLatin1_aae02 sJ0_isLatin1_aae02 rfl ws_2_149 (ltb rfl) rfl (leb rfl) dJ0_charAt_5068e_1 (isLatin1_s hk (Q := fun r σ1 => r = 1 ∧ σ1 = σ) ⟨rfl, rfl⟩) (fun v σ1 hv => ?_)
  obtain ⟨x, rfl, rfl, rfl⟩ := hv
  refine R_if_eq (pc := 4) (tgt := 16) (by decide) dJ0_charAt_5068e_4 (fun c => absurd c (by decide)) (fun _ => ?_)
  refine R_aload_n (pc := 7) 0 rfl rfl dJ0_charAt_5068e_7 ?_
  refine R_sval (pc := 8) hk ws_6_56 dJ0_charAt_5068e_8 ?_
  refine R_iload_n (pc := 11) 1 rfl rfl dJ0_charAt_5068e_11 ?_
  refine R_callS (pc := 12) (as := [vP (210 + k), vI i]) (st := []) rfl kJ1_charAt_3b067 sJ1_charAt_3b067 ws_2_153 (ltb rfl) rfl (leb rfl) dJ0_charAt_5068e_12 (latAt_s hk h0 h1 (Q := fun r σ2 => r = chr k i.toNat ∧ σ2 = σ1) ⟨rfl, rfl⟩) (fun v σ2 hv => ?_)
  obtain ⟨x, rfl, rfl, rfl⟩ := hv
  exact R_nret (pc := 15) rfl c3 dJ0_charAt_5068e_15 ⟨_, rfl, h⟩
end STRC
