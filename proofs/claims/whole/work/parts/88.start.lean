theorem inT_0 (t : Nat) : inT t 0 := by
  match t with
  | 0 => exact ⟨by decide, by decide⟩
  | 1 => exact ⟨by decide, by decide⟩
  | 2 => exact ⟨by decide, by decide⟩
  | 3 => exact ⟨by decide, by decide⟩
  | t + 4 => trivial
theorem rg1 {fs : List Nat} {a : Nat} {v : Int} (hv : -4 ≤ v ∧ v ≤ 17) (hd : fs[a]? = some 0 ∨ fs[a]? = some 1) : ∀ (j d : Nat), fs[j]? = some d → inT d (if (j : Int) = (a : Int) then v else 0) := by
  intro j d h
  split
  · next e =>
    have : j = a := by omega
    subst this
    rcases hd with hd | hd
    · rw [hd] at h; cases h; exact ⟨by omega, by omega⟩
    · rw [hd] at h; cases h; exact ⟨by omega, by omega⟩
  · exact inT_0 d
theorem stC_rng : rng layC stC := by
  intro q c hc
  match q, hc with
  | 0, hc => cases hc; exact fun j d _ => inT_0 _
  | 1, hc => cases hc; exact rg1 (a := 0) (v := 17) (by decide) (Or.inl rfl)
  | 2, hc => cases hc; exact fun j _ => inT_0 _
  | 3, hc => cases hc; exact fun j _ => inT_0 _
  | 4, hc => cases hc; exact fun j _ => inT_0 _
  | 5, hc => cases hc; exact fun j _ => inT_0 _
  | 6, hc => cases hc; exact rg1 (a := 0) (v := 17) (by decide) (Or.inl rfl)
  | 7, hc => cases hc; exact fun j _ => inT_0 _
  | 8, hc => cases hc; exact fun j _ => inT_0 _
  | 9, hc => cases hc; exact fun j _ => inT_0 _
  | 10, hc => cases hc; exact fun j _ => inT_0 _
  | 11, hc => cases hc; exact rg1 (a := 0) (v := 17) (by decide) (Or.inl rfl)
  | 12, hc => cases hc; exact fun j _ => inT_0 _
  | 13, hc => cases hc; exact fun j _ => inT_0 _
  | 14, hc => cases hc; exact fun j _ => inT_0 _
  | 15, hc => cases hc; exact fun j _ => inT_0 _
  | 16, hc => cases hc; exact rg1 (a := 0) (v := 17) (by decide) (Or.inl rfl)
  | 17, hc => cases hc; exact fun j _ => inT_0 _
  | 18, hc => cases hc; exact fun j _ => inT_0 _
  | 19, hc => cases hc; exact fun j _ => inT_0 _
  | 20, hc => cases hc; exact fun j _ => inT_0 _
  | 21, hc => cases hc; exact rg1 (a := 0) (v := 17) (by decide) (Or.inl rfl)
  | 22, hc => cases hc; exact fun j _ => inT_0 _
  | 23, hc => cases hc; exact fun j _ => inT_0 _
  | 24, hc => cases hc; exact fun j _ => inT_0 _
  | 25, hc => cases hc; exact fun j _ => inT_0 _
  | 26, hc => cases hc; exact rg1 (a := 0) (v := 1) (by decide) (Or.inr rfl)
  | 27, hc => cases hc; exact fun j _ => inT_0 _
  | 28, hc => cases hc; exact fun j _ => inT_0 _
  | 29, hc => cases hc; exact fun j _ => inT_0 _
  | 30, hc => cases hc; exact fun j _ => inT_0 _
  | 31, hc => cases hc; exact rg1 (a := 0) (v := 1) (by decide) (Or.inr rfl)
  | 32, hc => cases hc; exact fun j _ => inT_0 _
  | 33, hc => cases hc; exact fun j _ => inT_0 _
  | 34, hc => cases hc; exact fun j _ => inT_0 _
  | 35, hc => cases hc; exact fun j _ => inT_0 _
  | 36, hc => cases hc; exact rg1 (a := 5) (v := 5) (by decide) (Or.inl rfl)
  | 37, hc => cases hc; exact rg1 (a := 1) (v := 3) (by decide) (Or.inl rfl)
  | 38, hc => cases hc; exact fun j _ => inT_0 _
  | 39, hc => cases hc; exact fun j d _ => inT_0 _
  | 40, hc => cases hc; exact fun j _ => inT_0 _
  | 41, hc => cases hc; exact fun j _ => inT_0 _
  | 42, hc =>
    cases hc
    intro j d h
    match j, h with
    | 0, h => cases h; exact inT_0 0
    | 1, h => cases h; exact ⟨by decide, by decide⟩
    | 2, h => cases h; exact ⟨by decide, by decide⟩
    | j + 3, h => simp at h
  | 43, hc => cases hc; exact fun j _ => inT_0 _
  | 44, hc => cases hc; exact fun j _ => inT_0 _
  | 45, hc => cases hc; exact fun j _ => inT_0 _
  | 46, hc => cases hc; exact fun j _ => inT_0 _
  | 47, hc => cases hc; exact rg1 (a := 0) (v := (-1)) (by decide) (Or.inl rfl)
  | 48, hc => cases hc; exact fun j _ => inT_0 _
  | 49, hc => cases hc; exact rg1 (a := 0) (v := (-1)) (by decide) (Or.inl rfl)
  | 50, hc => cases hc; exact fun j _ => inT_0 _
  | 51, hc => cases hc; exact rg1 (a := 0) (v := (-1)) (by decide) (Or.inl rfl)
  | 52, hc => cases hc; exact fun j _ => inT_0 _
  | 53, hc => cases hc; exact rg1 (a := 0) (v := (-1)) (by decide) (Or.inl rfl)
  | 54, hc => cases hc; exact fun j _ => inT_0 _
  | q + 55, hc => simp [layC] at hc
theorem LD_of {g FC FM : Nat → Nat} {A : Nat → Prop} {cA : Nat → ClassId} {σ τ : Mem} (hD : va_D A (cW FC cA layC σ ++ cW FM cA layM τ)) (hC : ∀ i, 200 ≤ i → FC i = g i) (hM : ∀ i, 200 ≤ i → FM i = g i) : LD g FC FM A := by
  have lenC : (cW FC cA layC σ).length = layC.length := by unfold cW; rw [List.length_mapIdx]
  have aC : ∀ i, i < layC.length → ∃ e, (cW FC cA layC σ ++ cW FM cA layM τ)[i]? = some (FC i, e) := fun i hi => by
    obtain ⟨c, hc⟩ : ∃ c, layC[i]? = some c := ⟨_, List.getElem?_eq_getElem hi⟩
    exact ⟨_, by rw [List.getElem?_append_left (by rw [lenC]; exact hi)]; exact cW_at hc⟩
  have aM : ∀ i, i < layM.length → ∃ e, (cW FC cA layC σ ++ cW FM cA layM τ)[layC.length + i]? = some (FM i, e) := fun i hi => by
    obtain ⟨c, hc⟩ : ∃ c, layM[i]? = some c := ⟨_, List.getElem?_eq_getElem hi⟩
    exact ⟨_, by rw [List.getElem?_append_right (by rw [lenC]; omega), lenC, Nat.add_sub_cancel_left]; exact cW_at hc⟩
  refine ⟨⟨fun i j hi hj h => ?_, fun i hi => ?_⟩, ⟨fun i j hi hj h => ?_, fun i hi => ?_⟩, fun i j hi hj h => ?_, hC, hM⟩
  · obtain ⟨e1, h1⟩ := aC i hi
    obtain ⟨e2, h2⟩ := aC j hj
    exact hD.1 i j _ _ h1 h2 h
  · obtain ⟨e1, h1⟩ := aC i hi
    exact hD.2 i _ h1
  · obtain ⟨e1, h1⟩ := aM i hi
    obtain ⟨e2, h2⟩ := aM j hj
    have := hD.1 _ _ _ _ h1 h2 h
    omega
  · obtain ⟨e1, h1⟩ := aM i hi
    exact hD.2 _ _ h1
  · obtain ⟨e1, h1⟩ := aC i hi
    obtain ⟨e2, h2⟩ := aM j hj
    have := hD.1 _ _ _ _ h1 h2 h
    omega
theorem cnL_7 : CN (mY MLaw).cls 7 7 [.null, .null, .null, .null, .null, .null, .null, .null, .null, .null, .null, .int 0] 12 := ⟨_, _, tyX7, rfl, inX7, tyX7_ok, wtm (tb1 (List.mem_of_getElem? (i := 16) rfl)) rfl, wtm (tb1 (List.mem_of_getElem? (i := 17) rfl)) rfl, wtm (tb1 (List.mem_of_getElem? (i := 1) rfl)) rfl, fun j hj => by match j, hj with | 0, _ => rfl | 1, _ => rfl | 2, _ => rfl | 3, _ => rfl | 4, _ => rfl | 5, _ => rfl | 6, _ => rfl | 7, _ => rfl | 8, _ => rfl | 9, _ => rfl | 10, _ => rfl | 11, _ => rfl | j + 12, hj => exact absurd hj (Nat.not_lt.mpr (Nat.le_add_left _ _))⟩
theorem iX7_1 : Cond.code (mY MX7_init) (mC MX7_init) (mL MX7_init) none ∈ WT := wtm (tb1 (List.mem_of_getElem? (i := 20) rfl)) rfl
theorem iX7_2 : Cond.initialized (mY MX7_init).cls ∈ WT := wtm (tb1 (List.mem_of_getElem? (i := 1) rfl)) rfl
theorem iX7_3 : Cond.instanceMethod (mY MX7_init) ∈ WT := wtm (tb1 (List.mem_of_getElem? (i := 19) rfl)) rfl
theorem iX7_4 : Cond.methodLink (mY MLaw).cls 9 (mY MX7_init) ∈ WT := wtm (tb1 (List.mem_of_getElem? (i := 18) rfl)) rfl
theorem cnL_10 : CN (mY MLaw).cls 10 8 [.null, .null, .null, .null, .int 0, .int 0, .null, .int 0, .int 0, .int 0, .int 0, .int 0, .int 0, .int 0, .null, .long 0, .long 0, .null, .null, .null, .int 0, .null, .int 0, .null, .long 0, .long 0, .long 0, .null, .null, .null, .null, .int 0, .null] 33 := ⟨_, _, tyX8, rfl, inX8, tyX8_ok, wtm (tb4 (List.mem_of_getElem? (i := 91) rfl)) rfl, wtm (tb4 (List.mem_of_getElem? (i := 92) rfl)) rfl, wtm (tb1 (List.mem_of_getElem? (i := 9) rfl)) rfl, fun j hj => by match j, hj with | 0, _ => rfl | 1, _ => rfl | 2, _ => rfl | 3, _ => rfl | 4, _ => rfl | 5, _ => rfl | 6, _ => rfl | 7, _ => rfl | 8, _ => rfl | 9, _ => rfl | 10, _ => rfl | 11, _ => rfl | 12, _ => rfl | 13, _ => rfl | 14, _ => rfl | 15, _ => rfl | 16, _ => rfl | 17, _ => rfl | 18, _ => rfl | 19, _ => rfl | 20, _ => rfl | 21, _ => rfl | 22, _ => rfl | 23, _ => rfl | 24, _ => rfl | 25, _ => rfl | 26, _ => rfl | 27, _ => rfl | 28, _ => rfl | 29, _ => rfl | 30, _ => rfl | 31, _ => rfl | 32, _ => rfl | j + 33, hj => exact absurd hj (Nat.not_lt.mpr (Nat.le_add_left _ _))⟩
theorem iX8_1 : Cond.code (mY MX8_init) (mC MX8_init) (mL MX8_init) none ∈ WT := wtm (tb4 (List.mem_of_getElem? (i := 95) rfl)) rfl
theorem iX8_2 : Cond.initialized (mY MX8_init).cls ∈ WT := wtm (tb1 (List.mem_of_getElem? (i := 9) rfl)) rfl
theorem iX8_3 : Cond.instanceMethod (mY MX8_init) ∈ WT := wtm (tb4 (List.mem_of_getElem? (i := 94) rfl)) rfl
theorem iX8_4 : Cond.methodLink (mY MLaw).cls 12 (mY MX8_init) ∈ WT := wtm (tb4 (List.mem_of_getElem? (i := 93) rfl)) rfl
set_option maxRecDepth 20000 in
/-- the law from its entry on, whatever its end asks -/
theorem law_start {p : Program} {l : Launch} {e : Env} {s : State} {m : MethodId} {args : Array Value} {below : List Frame} {meth : Method} {c : Code} {b L : Nat} {xs : Nat → Int32} {Q : State → Prop} {lr : Array Slot} (hx : p.tables.exec = Jvm.exec) (hb : c.code = code) (hml : c.maxLocals = 4) (hown : s.vm.findClass (mY MLaw).cls = some m.cls) (hts : ∀ w ∈ lw_tbl, w.before args s = true) (hX : va_X b L xs s s.heap) (hbl : b < s.heap.size) (hL : L ≤ 320) (hgv : (Jvm.Cond.and given_1 narrow_1).before args s = true) (hl : lv_has lr 4 [(0, .ref b)])
    (fin : ∀ (H : Heap) (locs : List Loc) (lr : Array Slot), va_S (fun q => s.heap.size ≤ q) s.heap H locs → W p l e room_1 s m args below meth c H locs 600000 7302250 Q (F0 m 1493 lr [])) : W p l e room_1 s m args below meth c s.heap [] 0 0 Q (F0 m 0 lr []) := by
  obtain ⟨D, cA, hK1, hK2, hK3⟩ := start_K hts
  obtain ⟨g, hSK⟩ := start_S hts hgv
  have C : NX MLaw 600000 7302250 p room_1 s m args c g D cA (fun q => s.heap.size ≤ q) := ⟨hx, hb, hml, hown, fun w hw => hts w (wt_sub hw).1, ⟨hK1, hK2, hK3, hSK⟩, fun _ h => h, Nat.le_refl 600000, Nat.le_refl 7302250, (show 20 ≤ 2048 from leb rfl), (show 100 * 20 ≤ 84000 from leb rfl)⟩
  have hW0 : Wd D (fun q => s.heap.size ≤ q) s.heap [] s.heap [] := ⟨fun k q h => by simp at h, ⟨fun i j p q h => by simp at h, fun k q h => by simp at h⟩, va_S.rf⟩
  refine N_new (ns := 0) (nc := 0) C hW0 cnL_7 rfl rfl dL_law_0 (fun q1 H1 hW1 => ?_)
  refine lv_dup hx hb dL_law_3 rfl ?_
  refine N_init (ws := []) (ns := 12) (nc := 1) mkX7 C hW1 iX7_1 rfl iX7_2 (by decide +kernel) (by decide) iX7_3 rfl (Or.inl iX7_4) rfl rfl rfl hl.1 (leb rfl) dL_law_4 (fun FC H2 locs2 hG hW2 => ?_)
  obtain ⟨rfl, hFC⟩ := hG
  refine lv_astore_n (lv' := [(1, .ref (FC 0)), (0, .ref b)]) hx hb dL_law_7 rfl hl (by decide) rfl (fun lr hl => ?_)
  rw [List.nil_append] at hW2
  refine N_new (ns := 822) (nc := 55) C hW2 cnL_10 rfl rfl dL_law_8 (fun q2 H3 hW3 => ?_)
  refine lv_dup hx hb dL_law_11 rfl ?_
  refine N_init (ns := 855) (nc := 56) mkX8 C hW3 iX8_1 rfl iX8_2 (by decide +kernel) (by decide) iX8_3 rfl (Or.inl iX8_4) rfl rfl rfl hl.1 (leb rfl) dL_law_12 (fun u H locs hG hW => ?_)
  obtain ⟨⟨rfl, hFM⟩, hrM, hR⟩ := hG
  obtain ⟨FM, τ⟩ := u
  refine lv_astore_n (lv' := [(2, .ref (FM 0)), (1, .ref (FC 0)), (0, .ref b)]) hx hb dL_law_15 rfl hl (by decide) rfl (fun lr hl => ?_)
  refine lv_iconst (v := Int32.ofInt ((0 : Nat) : Int)) hx hb dL_law_16 rfl ?_
  refine lv_istore_n (lv' := lvL FC FM b 0) hx hb dL_law_17 rfl hl (by decide) rfl (fun lr hl => ?_)
  refine W.widen (k := 600000) (n := 7302250) (leb rfl) (leb rfl) ?_
  have hLD := LD_of (g := g) hW.2.1 hFC hFM
  have hPC : va_P D vwCl (cW FC cA layC stC) H := fun k q hq => hW.1 k q (by rw [List.getElem?_append_left (List.getElem?_eq_some_iff.mp hq).1]; exact hq)
  have hPM : va_P D vwCl (cW FM cA layM τ) H := fun k q hq => hW.1 ((cW FC cA layC stC).length + k) q (by rw [List.getElem?_append_right (by omega), Nat.add_sub_cancel_left]; exact hq)
  exact law_loop (xs := xs) (L := L) (b := b) ⟨C, hLD, ⟨hX, hbl, Nat.not_le.mpr hbl⟩, hL⟩ fin (L + 1) 0 stC τ H locs lr (by omega) (by omega) ⟨hPC, hPM, hW.2.2, stC_rng, hrM⟩ hR hl
