/-! ===== the law's calls ===== -/
def MLaw : MI := (x, code, 4, ret, 20)
/-- two worlds beside each other: where their cells lie -/
def LD (g FC FM : Nat → Nat) (A : Nat → Prop) : Prop :=
  ((∀ i j, i < layC.length → j < layC.length → FC i = FC j → i = j) ∧ ∀ i, i < layC.length → A (FC i)) ∧ ((∀ i j, i < layM.length → j < layM.length → FM i = FM j → i = j) ∧ ∀ i, i < layM.length → A (FM i)) ∧ (∀ i j, i < layC.length → j < layM.length → FC i ≠ FM j) ∧ (∀ i, 200 ≤ i → FC i = g i) ∧ ∀ i, 200 ≤ i → FM i = g i
def LB (nc ns : Nat) (p : Program) (Rm : Room) (s : State) (m : MethodId) (args : Array Value) (c : Code) (g FC FM : Nat → Nat) (D : va_G) (cA : Nat → ClassId) (A : Nat → Prop) (b L : Nat) (xs : Nat → Int32) : Prop :=
  NX MLaw nc ns p Rm s m args c g D cA A ∧ LD g FC FM A ∧ (va_X b L xs s s.heap ∧ b < s.heap.size ∧ ¬ A b) ∧ L ≤ 320
def LW (D : va_G) (cA : Nat → ClassId) (A : Nat → Prop) (s : State) (FC FM : Nat → Nat) (σ τ : Mem) (H : Heap) (locs : List Loc) : Prop := va_P D vwCl (cW FC cA layC σ) H ∧ va_P D vwCl (cW FM cA layM τ) H ∧ va_S A s.heap H locs ∧ rng layC σ ∧ rng layM τ
def lvL (FC FM : Nat → Nat) (b n : Nat) : List (Nat × Value) := [(3, .int (Int32.ofInt (n : Int))), (2, .ref (FM 0)), (1, .ref (FC 0)), (0, .ref b)]
section LL
variable {nc ns : Nat} {p : Program} {l : Launch} {e : Env} {Rm : Room} {s : State} {m : MethodId} {args : Array Value} {below : List Frame} {meth : Method} {c : Code} {g FC FM : Nat → Nat} {D : va_G} {cA : Nat → ClassId} {A : Nat → Prop} {b L : Nat} {xs : Nat → Int32} {σ τ : Mem} {H : Heap} {locs : List Loc} {pc : Nat} {Q : State → Prop} {lr : Array Slot} {rest : List Value} {n : Nat}
theorem L_call {lay : List LC} {F : Nat → Nat} {My : MI} {k ci idx : Nat} {fs : List Nat} {as : List AV} {P : AV → Mem → Prop} (C : NX MLaw nc ns p Rm s m args c g D cA A) (hDD : (∀ i j, i < lay.length → j < lay.length → F i = F j → i = j) ∧ ∀ i, i < lay.length → A (F i)) (hF : ∀ i, 200 ≤ i → F i = g i) (hP : va_P D vwCl (cW F cA lay σ) H) (hS : va_S A s.heap H locs) (hg : rng lay σ) (hM : MOK My k) (hV : MOV My) (hq : lay[0]? = some (.inr (ci, fs))) (hc : (vwCl[ci]?).map (fun z => z.1) = some (mY My).cls) (hlink : Cond.methodLink (mY MLaw).cls idx (mY My) ∈ WT) (hk : mK My < 20) (hn : as.length = k) (hok : ∀ v ∈ as, okV v) (hst : (rest.map fun v => v.category).sum ≤ 8) (hlr : lr.size = 4) (hd : decode code pc = .ok (.invokevirtual idx, 3)) (h : Cl lay My (vP 0 :: as) σ P)
    (kk : ∀ v σ' H1 locs1, P v σ' → okV v → rng lay σ' → va_P D vwCl (cW F cA lay σ') H1 → va_S A s.heap H1 locs1 → (∀ q, q < H.size → ¬ aA lay F H.size q → H1[q]? = H[q]?) → W p l e Rm s m args below meth c H1 locs1 nc ns Q (F0 m (pc + 3) lr ((roV My F v).toList ++ rest))) : W p l e Rm s m args below meth c H locs nc ns Q (F0 m pc lr ((as.map (rv F)).reverse ++ .ref (F 0) :: rest)) := by
  obtain ⟨hx, hb, hml, hown, hts, hK, hA, hr1, hr2, hr3, hr4⟩ := C
  have hr3' : 20 ≤ Rm.frames := hr3
  have hr4' : 100 * 20 ≤ Rm.locals := hr4
  have hAA := aA_in hDD hA hS
  have hSK : SK F A s s.heap := hK.2.2.2.swap hF
  have hmet := h (fun v hv => by
    rcases List.mem_cons.mp hv with rfl | hv
    · trivial
    · exact hok v hv) hg l F D cA H.size hDD.1
  obtain ⟨cl1, hcl1⟩ : ∃ z, vwCl[ci]? = some z := by
    cases hz : vwCl[ci]? with
    | none => rw [hz] at hc; cases hc
    | some z => exact ⟨z, rfl⟩
  have hcn : cl1.1 = (mY My).cls := by rw [hcl1] at hc; exact Option.some.inj hc
  have hr : va_Run p l e Rm s m args below meth c H locs nc ns 0 0 (F0 m pc lr ((as.map (rv F)).reverse ++ .ref (F 0) :: rest)) rest (QC lay My F D cA (aA lay F H.size) P ((vP 0 :: as).map (rv F)).toArray) (aA lay F H.size) := by
    refine va_runV (As := as.map (rv F)) (rest := rest) (b := F 0) (C := (mY My).cls) (own := (mY MLaw).cls) (Ts := WT) (bytes := mC My) (maxL := mL My) (ret := mR My) (n := k) ⟨hx, hb, hml, hown, hts⟩ hmet ⟨callB_of k hts (wsM_good hM.1) rfl rfl rfl (hts _ hM.2.1) (hts _ hlink) hM.2.2.1 ⟨?_, ?_⟩, hts _ hV.1, hts _ hV.2⟩ ⟨fun a U g mk hq => ⟨hq.1, hq.2.calling⟩, ?_, fun U hU hW => ⟨rfl, PB.at hP hK.1 hSK hS hDD hA hU hW⟩⟩ rfl (by rw [List.length_map]; exact hn) hlr rfl (lv_room hst) hd ⟨hr1, hr2⟩
    · show mK My + 1 ≤ Rm.frames
      omega
    · show 8 + (mL My + 11) + 100 * mK My ≤ Rm.locals
      have := hM.2.2.2; omega
    · obtain ⟨cell, h1, h2, h3⟩ := va_recv hK.1.1 hP hcl1 (cW_at hq)
      exact ⟨cell, h1, h2, by rw [← hcn]; exact h3⟩
  intro T hT X
  obtain ⟨v, st₀, t, T', Ls, h0, X', hL, e1, e2, ⟨w, σ', hv', hPw, hokw, hg', hP', hF1, hF2⟩, hgo⟩ := hr T hT X
  rw [h0] at hF1 hF2
  have hS' : va_S A s.heap T'.heap (locs ++ Ls) := by
    refine ⟨Nat.le_trans hS.1 (by rw [e1]; exact hF1), fun q h1 h2 => ?_, fun q hq => ?_⟩
    · rw [e1, hF2 q (Nat.lt_of_lt_of_le h1 hS.1) (fun z => h2 (hAA q z))]
      exact hS.2.1 q h1 h2
    · rcases List.mem_append.mp hq with hq | hq
      · exact hS.2.2 q hq
      · exact hAA _ (hL q hq)
  obtain ⟨t2, a1, b1⟩ := kk w σ' T'.heap (locs ++ Ls) hPw hokw hg' (by rw [e1]; exact hP') hS' (fun q h1 h2 => by rw [e1]; exact hF2 q h1 h2) T' rfl X'
  refine ⟨t2, hgo t2 ?_, b1⟩
  have e4 : v = roV My F w := by injection hv'
  rw [e4]
  exact a1
/-- the other world stays -/
theorem other {lay lay' : List LC} {F F' : Nat → Nat} {H1 : Heap} (hap : ∀ i j, i < lay.length → j < lay'.length → F i ≠ F' j) (hP : va_P D vwCl (cW F' cA lay' τ) H) (hk : ∀ q, q < H.size → ¬ aA lay F H.size q → H1[q]? = H[q]?) : va_P D vwCl (cW F' cA lay' τ) H1 := by
  refine hP.kept (fun k q hq => ?_)
  have hlt := (hP k q hq).lt
  refine hk q.1 hlt (fun hz => ?_)
  have hk' : k < lay'.length ∧ q.1 = F' k := by
    unfold cW at hq
    rw [List.getElem?_mapIdx] at hq
    cases hc : lay'[k]? with
    | none => rw [hc] at hq; cases hq
    | some c => rw [hc] at hq; cases hq; exact ⟨(List.getElem?_eq_some_iff.mp hc).1, rfl⟩
  rcases hz with ⟨i, hi, hz⟩ | hz
  · exact hap i k hi hk'.1 (by rw [← hz, hk'.2])
  · omega
theorem L_callC {My : MI} {k idx : Nat} {as : List AV} {P : AV → Mem → Prop} (B : LB nc ns p Rm s m args c g FC FM D cA A b L xs) (hW : LW D cA A s FC FM σ τ H locs) (hM : MOK My k) (hV : MOV My) (hc : (mY My).cls = RX7) (hlink : Cond.methodLink (mY MLaw).cls idx (mY My) ∈ WT) (hk : mK My < 20) (hn : as.length = k) (hok : ∀ v ∈ as, okV v) (hst : (rest.map fun v => v.category).sum ≤ 8) (hlr : lr.size = 4) (hd : decode code pc = .ok (.invokevirtual idx, 3)) (h : Cl layC My (vP 0 :: as) σ P)
    (kk : ∀ v σ' H1 locs1, P v σ' → LW D cA A s FC FM σ' τ H1 locs1 → W p l e Rm s m args below meth c H1 locs1 nc ns Q (F0 m (pc + 3) lr ((roV My FC v).toList ++ rest))) : W p l e Rm s m args below meth c H locs nc ns Q (F0 m pc lr ((as.map (rv FC)).reverse ++ .ref (FC 0) :: rest)) :=
  L_call B.1 B.2.1.1 B.2.1.2.2.2.1 hW.1 hW.2.2.1 hW.2.2.2.1 hM hV lC_0 (by rw [hc]; rfl) hlink hk hn hok hst hlr hd h (fun v σ' H1 locs1 h1 _ h3 h4 h5 h6 => kk v σ' H1 locs1 h1 ⟨h4, other B.2.1.2.2.1 hW.2.1 h6, h5, h3, hW.2.2.2.2⟩)
theorem L_callM {My : MI} {k idx : Nat} {as : List AV} {P : AV → Mem → Prop} (B : LB nc ns p Rm s m args c g FC FM D cA A b L xs) (hW : LW D cA A s FC FM σ τ H locs) (hM : MOK My k) (hV : MOV My) (hc : (mY My).cls = RX8) (hlink : Cond.methodLink (mY MLaw).cls idx (mY My) ∈ WT) (hk : mK My < 20) (hn : as.length = k) (hok : ∀ v ∈ as, okV v) (hst : (rest.map fun v => v.category).sum ≤ 8) (hlr : lr.size = 4) (hd : decode code pc = .ok (.invokevirtual idx, 3)) (h : Cl layM My (vP 0 :: as) τ P)
    (kk : ∀ v τ' H1 locs1, P v τ' → LW D cA A s FC FM σ τ' H1 locs1 → W p l e Rm s m args below meth c H1 locs1 nc ns Q (F0 m (pc + 3) lr ((roV My FM v).toList ++ rest))) : W p l e Rm s m args below meth c H locs nc ns Q (F0 m pc lr ((as.map (rv FM)).reverse ++ .ref (FM 0) :: rest)) :=
  L_call B.1 B.2.1.2.1 B.2.1.2.2.2.2 hW.2.1 hW.2.2.1 hW.2.2.2.2 hM hV lM_0 (by rw [hc]; rfl) hlink hk hn hok hst hlr hd h (fun v τ' H1 locs1 h1 _ h3 h4 h5 h6 => kk v τ' H1 locs1 h1 ⟨other (fun i j hi hj z => B.2.1.2.2.1 j i hj hi z.symm) hW.1 h6, h4, h5, hW.2.2.2.1, h3⟩)
theorem roV_I {My : MI} (h : (mR My).isSome = true) (F : Nat → Nat) (r : Int) : (roV My F (vI r)).toList = [.int (Int32.ofInt r)] := by
  unfold roV
  cases hz : mR My with
  | none => rw [hz] at h; cases h
  | some z => rfl
theorem roV_J {My : MI} (h : (mR My).isSome = true) (F : Nat → Nat) (r : Int) : (roV My F (vJ r)).toList = [.long (Int64.ofInt r)] := by
  unfold roV
  cases hz : mR My with
  | none => rw [hz] at h; cases h
  | some z => rfl
theorem lg_self (a : Int64) : lg_cmp a a = 0 := by simp [lg_cmp]
/-- a call on both sides, and the compare -/
theorem L_TI {MC MM : MI} {k pc2 idx1 idx2 : Nat} {off : Int} {as : List AV} (B : LB nc ns p Rm s m args c g FC FM D cA A b L xs) (hW : LW D cA A s FC FM σ τ H locs) (hT : TI MC MM as σ τ) (hok : ∀ v ∈ as, okV v) (hn : as.length = k) (hlr : lr.size = 4)
    (h1 : MOK MC k) (h2 : MOV MC) (h3 : (mY MC).cls = RX7) (h4 : Cond.methodLink (mY MLaw).cls idx1 (mY MC) ∈ WT) (h5 : mK MC < 20) (h6 : (mR MC).isSome = true)
    (g1 : MOK MM k) (g2 : MOV MM) (g3 : (mY MM).cls = RX8) (g4 : Cond.methodLink (mY MLaw).cls idx2 (mY MM) ∈ WT) (g5 : mK MM < 20) (g6 : (mR MM).isSome = true)
    (hd1 : decode code pc = .ok (.invokevirtual idx1, 3)) (hd2 : decode code pc2 = .ok (.invokevirtual idx2, 3)) (hd3 : decode code (pc2 + 3) = .ok (.if_icmp .eq off, 3)) (hoff : ((pc2 + 3 : Nat) : Int) + off = ((1487 : Nat) : Int))
    (mid : ∀ (v : Value) (H1 : Heap) (locs1 : List Loc), va_S A s.heap H1 locs1 → W p l e Rm s m args below meth c H1 locs1 nc ns Q (F0 m pc2 lr ((as.map (rv FM)).reverse ++ [.ref (FM 0), v])) → W p l e Rm s m args below meth c H1 locs1 nc ns Q (F0 m (pc + 3) lr [v]))
    (kk : ∀ σ' τ' H1 locs1, LW D cA A s FC FM σ' τ' H1 locs1 → Rel σ' τ' → W p l e Rm s m args below meth c H1 locs1 nc ns Q (F0 m 1487 lr [])) : W p l e Rm s m args below meth c H locs nc ns Q (F0 m pc lr ((as.map (rv FC)).reverse ++ [.ref (FC 0)])) := by
  refine L_callC B hW h1 h2 h3 h4 h5 hn hok (leb rfl) hlr hd1 hT (fun v σ' H1 locs1 hv hW1 => ?_)
  obtain ⟨r, rfl, hr⟩ := hv
  rw [roV_I h6]
  refine mid _ H1 locs1 hW1.2.2.1 ?_
  refine L_callM B hW1 g1 g2 g3 g4 g5 hn hok (leb rfl) hlr hd2 hr (fun v2 τ' H2 locs2 hv2 hW2 => ?_)
  obtain ⟨r2, rfl, hr2, hR⟩ := hv2
  subst hr2
  rw [roV_I g6]
  exact lv_icmp_eq (tgt := 1487) B.1.1 B.1.2.1 hd3 hoff (fun _ => kk σ' τ' H2 locs2 hW2 hR) (fun z => absurd rfl z)
theorem L_TJ {MC MM : MI} {k pc2 idx1 idx2 : Nat} {off : Int} {as : List AV} (B : LB nc ns p Rm s m args c g FC FM D cA A b L xs) (hW : LW D cA A s FC FM σ τ H locs) (hT : TJ MC MM as σ τ) (hok : ∀ v ∈ as, okV v) (hn : as.length = k) (hlr : lr.size = 4)
    (h1 : MOK MC k) (h2 : MOV MC) (h3 : (mY MC).cls = RX7) (h4 : Cond.methodLink (mY MLaw).cls idx1 (mY MC) ∈ WT) (h5 : mK MC < 20) (h6 : (mR MC).isSome = true)
    (g1 : MOK MM k) (g2 : MOV MM) (g3 : (mY MM).cls = RX8) (g4 : Cond.methodLink (mY MLaw).cls idx2 (mY MM) ∈ WT) (g5 : mK MM < 20) (g6 : (mR MM).isSome = true)
    (hd1 : decode code pc = .ok (.invokevirtual idx1, 3)) (hd2 : decode code pc2 = .ok (.invokevirtual idx2, 3)) (hd3 : decode code (pc2 + 3) = .ok (.lcmp, 1)) (hd4 : decode code (pc2 + 3 + 1) = .ok (.ifCond .eq off, 3)) (hoff : ((pc2 + 3 + 1 : Nat) : Int) + off = ((1487 : Nat) : Int))
    (mid : ∀ (v : Value) (H1 : Heap) (locs1 : List Loc), va_S A s.heap H1 locs1 → W p l e Rm s m args below meth c H1 locs1 nc ns Q (F0 m pc2 lr ((as.map (rv FM)).reverse ++ [.ref (FM 0), v])) → W p l e Rm s m args below meth c H1 locs1 nc ns Q (F0 m (pc + 3) lr [v]))
    (kk : ∀ σ' τ' H1 locs1, LW D cA A s FC FM σ' τ' H1 locs1 → Rel σ' τ' → W p l e Rm s m args below meth c H1 locs1 nc ns Q (F0 m 1487 lr [])) : W p l e Rm s m args below meth c H locs nc ns Q (F0 m pc lr ((as.map (rv FC)).reverse ++ [.ref (FC 0)])) := by
  refine L_callC B hW h1 h2 h3 h4 h5 hn hok (leb rfl) hlr hd1 hT (fun v σ' H1 locs1 hv hW1 => ?_)
  obtain ⟨r, rfl, hr⟩ := hv
  rw [roV_J h6]
  refine mid _ H1 locs1 hW1.2.2.1 ?_
  refine L_callM B hW1 g1 g2 g3 g4 g5 hn hok (leb rfl) hlr hd2 hr (fun v2 τ' H2 locs2 hv2 hW2 => ?_)
  obtain ⟨r2, rfl, hr2, hR⟩ := hv2
  subst hr2
  rw [roV_J g6]
  refine W.lcmp B.1.1 B.1.2.1 hd3 ?_
  exact lv_if_eq (tgt := 1487) B.1.1 B.1.2.1 hd4 hoff (fun _ => kk σ' τ' H2 locs2 hW2 hR) (fun z => absurd (lg_self _) z)
/-- one int of the script -/
theorem L_arg {j : Int} {nj : Nat} (B : LB nc ns p Rm s m args c g FC FM D cA A b L xs) (hS : va_S A s.heap H locs) (hl : lv_has lr 4 (lvL FC FM b n)) (hj : ((n : Nat) : Int) + j = (nj : Int)) (hlt : nj < L) (d0 : decode code pc = .ok (.aload_n 0, 1)) (d1 : decode code (pc + 1) = .ok (.iload_n 3, 1)) (d2 : decode code (pc + 1 + 1) = .ok (.iconst j, 1)) (d3 : decode code (pc + 1 + 1 + 1) = .ok (.iadd, 1)) (d4 : decode code (pc + 1 + 1 + 1 + 1) = .ok (.iaload, 1))
    (kk : W p l e Rm s m args below meth c H locs nc ns Q (F0 m (pc + 5) lr (.int (Int32.ofInt (xs nj).toInt) :: rest))) : W p l e Rm s m args below meth c H locs nc ns Q (F0 m pc lr rest) := by
  have hx := B.1.1
  have hb : c.code = code := B.1.2.1
  have hL := B.2.2.2
  refine lv_aload_n hx hb d0 rfl (lv_at hl 3 rfl) ?_
  refine lv_iload_n hx hb d1 rfl (lv_at hl 0 rfl) ?_
  refine lv_iconst hx hb d2 rfl ?_
  refine lv_iadd hx hb d3 ?_
  rw [← Int32.ofInt_add, hj]
  have hin : inT 0 (nj : Int) := ⟨by omega, by omega⟩
  refine va_sld hx hb B.2.2.1.1 B.2.2.1.2.1 B.2.2.1.2.2 hS (vpin hin (by omega) (by omega)) d4 ?_
  rw [clampN hin (by omega), Int.toNat_natCast]
  rw [show xs nj = Int32.ofInt (xs nj).toInt from (Int32.ofInt_toInt _).symm] 
  exact kk
end LL
