/-! ===== String.charAt and what it calls ===== -/
section STRC
theorem R_i2c {lay : List LC} {M : MI} {pc : Nat} {ls : List (Nat × AV)} {st : List AV} {σ : Mem} {Q : AV → Mem → Prop} {a : Int} (hv : ((Int32.ofInt a).toUInt32 % 65536).toInt32 = Int32.ofInt a) (hd : decode (mC M) pc = .ok (.i2c, 1)) (h : Rn lay M (pc + 1) ls (vI a :: st) σ Q) : Rn lay M pc ls (vI a :: st) σ Q :=
  R_un h (fun z => z) (fun p l e Rm s m args below meth c nc ns H locs Z lr ad rest hx hb h1 k => lv_i2c hx hb hd hv k)
theorem pre_s {i n : Int} (h0 : 0 ≤ i) (h1 : i < n) {σ : Mem} {Q : Int → Mem → Prop} (h : Q i σ) : CI layC MJ3_checkIndex_8e157 [vI i, vI n, vP 220] σ Q := by
  refine Cl.ofR (ls := [(0, vI i), (1, vI n), (2, vP 220)]) plJ0.2.2 (leb rfl) rfl ?_
  refine R_iload_n (pc := 0) 0 rfl rfl dJ3_checkIndex_8e157_0 ?_
  refine R_if_lt (pc := 1) (tgt := 9) (by decide) dJ3_checkIndex_8e157_1 (fun c => by omega) (fun _ => ?_)
  refine R_iload_n (pc := 4) 0 rfl rfl dJ3_checkIndex_8e157_4 ?_
  refine R_iload_n (pc := 5) 1 rfl rfl dJ3_checkIndex_8e157_5 ?_
  refine R_icmp_lt (pc := 6) (tgt := 16) (by decide) dJ3_checkIndex_8e157_6 (fun _ => ?_) (fun c => by omega)
  refine R_iload_n (pc := 16) 0 rfl rfl dJ3_checkIndex_8e157_16 ?_
  exact R_iret (pc := 17) rfl dJ3_checkIndex_8e157_17 ⟨_, rfl, h⟩
theorem strIx_s {i n : Int} (h0 : 0 ≤ i) (h1 : i < n) {σ : Mem} {Q : Mem → Prop} (h : Q σ) : CV layC MJ0_checkIndex_df160 [vI i, vI n] σ Q := by
  refine Cl.ofR (ls := [(0, vI i), (1, vI n)]) plJ0.1 (leb rfl) rfl ?_
  refine R_iload_n (pc := 0) 0 rfl rfl dJ0_checkIndex_df160_0 ?_
  refine R_iload_n (pc := 1) 1 rfl rfl dJ0_checkIndex_df160_1 ?_
  refine R_fmt (pc := 2) ws_2_159 dJ0_checkIndex_df160_2 ?_
  refine R_callS (pc := 5) (as := [vI i, vI n, vP 220]) (st := []) rfl kJ3_checkIndex_8e157 sJ3_checkIndex_8e157 ws_2_161 (ltb rfl) rfl (leb rfl) dJ0_checkIndex_df160_5 (pre_s h0 h1 (Q := fun r σ1 => σ1 = σ) rfl) (fun v σ1 hv => ?_)
  obtain ⟨x, rfl, rfl⟩ := hv
  refine R_pop (pc := 8) rfl dJ0_checkIndex_df160_8 ?_
  exact R_vret (pc := 9) rfl dJ0_checkIndex_df160_9 ⟨rfl, h⟩
/-- the k-th word's i-th letter -/
def chr (k i : Nat) : Int := ((strB.getD k []).getD i 0).toInt
theorem chr_ok : ∀ k : Fin 6, ∀ i : Fin 5, bAnd (chr k.val i.val) 255 = chr k.val i.val ∧ ((Int32.ofInt (chr k.val i.val)).toUInt32 % 65536).toInt32 = Int32.ofInt (chr k.val i.val) ∧ narrow .char (.int (Int32.ofInt (chr k.val i.val))) = .int (Int32.ofInt (chr k.val i.val)) := by decide +kernel
theorem latAt_s {k : Nat} (hk : k < 6) {i : Int} (h0 : 0 ≤ i) (h1 : i < (strL.getD k 0 : Nat)) {σ : Mem} {Q : Int → Mem → Prop} (h : Q (chr k i.toNat) σ) : CI layC MJ1_charAt_3b067 [vP (210 + k), vI i] σ Q := by
  have hb : strL.getD k 0 ≤ 5 := by
    have : ∀ k : Fin 6, strL.getD k.val 0 ≤ 5 := by decide
    exact this ⟨k, hk⟩
  obtain ⟨c1, c2, c3⟩ := chr_ok ⟨k, hk⟩ ⟨i.toNat, by omega⟩
  refine Cl.ofR (ls := [(0, vP (210 + k)), (1, vI i)]) plJ0.2.1 (leb rfl) rfl ?_
  refine R_iload_n (pc := 0) 1 rfl rfl dJ1_charAt_3b067_0 ?_
  refine R_aload_n (pc := 1) 0 rfl rfl dJ1_charAt_3b067_1 ?_
  refine R_slen (pc := 2) hk dJ1_charAt_3b067_2 ?_
  refine R_callS (pc := 3) (as := [vI i, vI (strL.getD k 0 : Nat)]) (st := []) rfl kJ0_checkIndex_df160 sJ0_checkIndex_df160 ws_2_156 (ltb rfl) rfl (leb rfl) dJ1_charAt_3b067_3 (strIx_s h0 h1 (Q := fun σ1 => σ1 = σ) rfl) (fun v σ1 hv => ?_)
  obtain ⟨_, rfl⟩ := hv
  show Rn layC MJ1_charAt_3b067 6 _ [] _ _
  refine R_aload_n (pc := 6) 0 rfl rfl dJ1_charAt_3b067_6 ?_
  refine R_iload_n (pc := 7) 1 rfl rfl dJ1_charAt_3b067_7 ?_
  refine R_sbld (pc := 8) hk h0 h1 dJ1_charAt_3b067_8 ?_
  refine R_sipush (pc := 9) (by decide) dJ1_charAt_3b067_9 ?_
  refine R_iand (pc := 12) dJ1_charAt_3b067_12 ?_
  rw [show bAnd (((strB.getD k []).getD i.toNat 0).toInt) 255 = chr k i.toNat from c1]
  refine R_i2c (pc := 13) c2 dJ1_charAt_3b067_13 ?_
  exact R_nret (pc := 14) rfl c3 dJ1_charAt_3b067_14 ⟨_, rfl, h⟩
theorem chrAt_s {k : Nat} (hk : k < 6) {i : Int} (h0 : 0 ≤ i) (h1 : i < (strL.getD k 0 : Nat)) {σ : Mem} {Q : Int → Mem → Prop} (h : Q (chr k i.toNat) σ) : CI layC MJ0_charAt_5068e [vP (200 + k), vI i] σ Q := by
  have hb : strL.getD k 0 ≤ 5 := by
    have : ∀ k : Fin 6, strL.getD k.val 0 ≤ 5 := by decide
    exact this ⟨k, hk⟩
  obtain ⟨c1, c2, c3⟩ := chr_ok ⟨k, hk⟩ ⟨i.toNat, by omega⟩
  refine Cl.ofR (ls := [(0, vP (200 + k)), (1, vI i)]) plJ0.1 (leb rfl) rfl ?_
  refine R_aload_n (pc := 0) 0 rfl rfl dJ0_charAt_5068e_0 ?_
  refine R_callVs (pc := 1) (as := []) (st := []) rfl hk kJ0_isLatin1_aae02 sJ0_isLatin1_aae02 rfl ws_2_149 (ltb rfl) rfl (leb rfl) dJ0_charAt_5068e_1 (isLatin1_s hk (Q := fun r σ1 => r = 1 ∧ σ1 = σ) ⟨rfl, rfl⟩) (fun v σ1 hv => ?_)
  obtain ⟨x, rfl, rfl, rfl⟩ := hv
  refine R_if_eq (pc := 4) (tgt := 16) (by decide) dJ0_charAt_5068e_4 (fun c => absurd c (by decide)) (fun _ => ?_)
  refine R_aload_n (pc := 7) 0 rfl rfl dJ0_charAt_5068e_7 ?_
  refine R_sval (pc := 8) hk ws_6_56 dJ0_charAt_5068e_8 ?_
  refine R_iload_n (pc := 11) 1 rfl rfl dJ0_charAt_5068e_11 ?_
  refine R_callS (pc := 12) (as := [vP (210 + k), vI i]) (st := []) rfl kJ1_charAt_3b067 sJ1_charAt_3b067 ws_2_153 (ltb rfl) rfl (leb rfl) dJ0_charAt_5068e_12 (latAt_s hk h0 h1 (Q := fun r σ2 => r = chr k i.toNat ∧ σ2 = σ1) ⟨rfl, rfl⟩) (fun v σ2 hv => ?_)
  obtain ⟨x, rfl, rfl, rfl⟩ := hv
  exact R_nret (pc := 15) rfl c3 dJ0_charAt_5068e_15 ⟨_, rfl, h⟩
end STRC
