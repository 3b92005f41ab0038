/-! ===== Tape.isName ===== -/
section NAME
theorem wrd_len : ∀ k : Fin 6, (wrd k.val).length = strL.getD k.val 0 := by decide
theorem wrd_chr : ∀ k : Fin 6, ∀ i : Fin 5, i.val < strL.getD k.val 0 → (wrd k.val).getD i.val 0 = chr k.val i.val := by decide +kernel
theorem match_at {b : Int → Int} : ∀ (l : List Int) (p : Nat), matchL b p l = true ↔ ∀ i : Nat, i < l.length → b ((p + i : Nat) : Int) = l.getD i 0
  | [], p => ⟨fun _ i h => absurd h (Nat.not_lt_zero _), fun _ => rfl⟩
  | c :: l, p => by
    rw [matchL, Bool.and_eq_true, decide_eq_true_eq, match_at l (p + 1)]
    constructor
    · rintro ⟨h0, h1⟩ i hi
      cases i with
      | zero => exact h0
      | succ i =>
        have := h1 i (by rw [List.length_cons] at hi; omega)
        rw [show p + (i + 1) = p + 1 + i by omega]; exact this
    · intro h
      refine ⟨h 0 (by rw [List.length_cons]; omega), fun i hi => ?_⟩
      have := h (i + 1) (by rw [List.length_cons]; omega)
      rw [show p + 1 + i = p + (i + 1) by omega]; exact this
theorem nameSpec : NameSpec := by
  intro k hk σ b s n T hT hs hn h2 h4 hb Q hQ
  have hL5 : strL.getD k 0 ≤ 5 := by
    have : ∀ k : Fin 6, strL.getD k.val 0 ≤ 5 := by decide
    exact this ⟨k, hk⟩
  have hwl : (wrd k).length = strL.getD k 0 := wrd_len ⟨k, hk⟩
  have hwc : ∀ i : Nat, i < strL.getD k 0 → (wrd k).getD i 0 = chr k i := fun i hi => wrd_chr ⟨k, hk⟩ ⟨i, by omega⟩ hi
  have no : ¬ (σ 37 1 = 0 ∧ isW b s n (wrd k) = true) → Q 0 σ := fun z => by rwa [if_neg z] at hQ
  refine Cl.ofR (ls := [(0, vP 37), (1, vP (200 + k))]) (show plainName RX5 = true by decide +kernel) (leb rfl) rfl ?_
  refine R_aload_n (pc := 0) 0 rfl rfl dX5_isName_0 ?_
  refine R_getI (pc := 1) lC_37 rfl flX5_15 dX5_isName_1 ?_
  have ret0 : ∀ {ls : List (Nat × AV)}, ¬ (σ 37 1 = 0 ∧ isW b s n (wrd k) = true) → Rn layC MX5_isName 23 ls [] σ (qI Q) := fun z => R_iconst (pc := 23) (by decide) dX5_isName_23 (R_zret (pc := 24) rfl (Or.inl rfl) dX5_isName_24 ⟨_, rfl, no z⟩)
  refine R_if_ne (pc := 4) (tgt := 23) (by decide) dX5_isName_4 (fun c => ret0 (fun y => c y.1)) (fun c0 => ?_)
  refine R_aload_n (pc := 7) 0 rfl rfl dX5_isName_7 ?_
  refine R_getI (pc := 8) lC_37 rfl flX5_24 dX5_isName_8 ?_
  refine R_aload_n (pc := 11) 0 rfl rfl dX5_isName_11 ?_
  refine R_getI (pc := 12) lC_37 rfl flX5_18 dX5_isName_12 ?_
  rw [show σ 37 ((2 : Nat) : Int) = s from h2, show σ 37 ((4 : Nat) : Int) = n from h4]
  refine R_isub (pc := 15) ⟨by omega, by omega⟩ dX5_isName_15 ?_
  refine R_aload_n (pc := 16) 1 rfl rfl dX5_isName_16 ?_
  refine R_callVs (pc := 17) (as := []) (st := [vI ((n : Int) - s)]) rfl hk kJ0_length_8abf5 sJ0_length_8abf5 rfl ws_2_135 (ltb rfl) rfl (leb rfl) dX5_isName_17 (strLen_s hk (Q := fun r σ1 => r = (strL.getD k 0 : Nat) ∧ σ1 = σ) ⟨rfl, rfl⟩) (fun v σ1 hv => ?_)
  obtain ⟨x, rfl, rfl, rfl⟩ := hv
  refine R_icmp_eq (pc := 20) (tgt := 25) (by decide) dX5_isName_20 (fun c => ?_) (fun c => ret0 (fun y => ?_))
  · refine R_iconst (pc := 25) (by decide) dX5_isName_25 ?_
    refine R_istore_n (pc := 26) (ls' := [(2, vI 0), (0, vP 37), (1, vP (200 + k))]) rfl rfl (ltb rfl) dX5_isName_26 ?_
    have key : ∀ (m i : Nat), i + m = strL.getD k 0 → (∀ j : Nat, j < i → b ((s + j : Nat) : Int) = chr k j) → Rn layC MX5_isName 27 [(2, vI (i : Int)), (0, vP 37), (1, vP (200 + k))] [] σ1 (qI Q) := by
      intro m
      induction m with
      | zero =>
        intro i hi hall
        refine R_iload_n (pc := 27) 0 rfl rfl dX5_isName_27 ?_
        refine R_aload_n (pc := 28) 2 rfl rfl dX5_isName_28 ?_
        refine R_callVs (pc := 29) (as := []) (st := [vI (i : Int)]) rfl hk kJ0_length_8abf5 sJ0_length_8abf5 rfl ws_2_135 (ltb rfl) rfl (leb rfl) dX5_isName_29 (strLen_s hk (Q := fun r σ2 => r = (strL.getD k 0 : Nat) ∧ σ2 = σ1) ⟨rfl, rfl⟩) (fun v σ2 hv => ?_)
        obtain ⟨x, rfl, rfl, rfl⟩ := hv
        refine R_icmp_ge (pc := 32) (tgt := 62) (by decide) dX5_isName_32 (fun _ => ?_) (fun c => by omega)
        refine R_iconst (pc := 62) (by decide) dX5_isName_62 ?_
        refine R_zret (pc := 63) rfl (Or.inr rfl) dX5_isName_63 ⟨_, rfl, ?_⟩
        rwa [if_pos ⟨c0, by
          unfold isW
          rw [Bool.and_eq_true, decide_eq_true_eq, match_at]
          exact ⟨by omega, fun j hj => by rw [hwc j (by omega)]; exact hall j (by omega)⟩⟩] at hQ
      | succ m ih =>
        intro i hi hall
        refine R_iload_n (pc := 27) 0 rfl rfl dX5_isName_27 ?_
        refine R_aload_n (pc := 28) 2 rfl rfl dX5_isName_28 ?_
        refine R_callVs (pc := 29) (as := []) (st := [vI (i : Int)]) rfl hk kJ0_length_8abf5 sJ0_length_8abf5 rfl ws_2_135 (ltb rfl) rfl (leb rfl) dX5_isName_29 (strLen_s hk (Q := fun r σ2 => r = (strL.getD k 0 : Nat) ∧ σ2 = σ1) ⟨rfl, rfl⟩) (fun v σ2 hv => ?_)
        obtain ⟨x, rfl, rfl, rfl⟩ := hv
        refine R_icmp_ge (pc := 32) (tgt := 62) (by decide) dX5_isName_32 (fun c => by omega) (fun _ => ?_)
        refine R_aload_n (pc := 35) 1 rfl rfl dX5_isName_35 ?_
        refine R_getP (pc := 36) (q' := 38) lC_37 rfl flX5_27 dX5_isName_36 ?_
        refine R_aload_n (pc := 39) 1 rfl rfl dX5_isName_39 ?_
        refine R_getI (pc := 40) lC_37 rfl flX5_18 dX5_isName_40 ?_
        rw [show σ2 37 ((2 : Nat) : Int) = s from h2]
        refine R_iload_n (pc := 43) 0 rfl rfl dX5_isName_43 ?_
        refine R_iadd (pc := 44) ⟨by omega, by omega⟩ dX5_isName_44 ?_
        refine R_baload (pc := 45) lC_38 (by omega) (by omega) dX5_isName_45 ?_
        rw [hb _ (by omega) (by omega)]
        refine R_aload_n (pc := 46) 2 rfl rfl dX5_isName_46 ?_
        refine R_iload_n (pc := 47) 0 rfl rfl dX5_isName_47 ?_
        refine R_callVs (pc := 48) (as := [vI (i : Int)]) (st := [vI (b ((s : Int) + i))]) rfl hk kJ0_charAt_5068e sJ0_charAt_5068e rfl ws_2_145 (ltb rfl) rfl (leb rfl) dX5_isName_48 (chrAt_s hk (i := (i : Int)) (by omega) (by omega) (Q := fun r σ3 => r = chr k i ∧ σ3 = σ2) ⟨rfl, rfl⟩) (fun v σ3 hv => ?_)
        obtain ⟨x, rfl, rfl, rfl⟩ := hv
        refine R_icmp_eq (pc := 51) (tgt := 56) (by decide) dX5_isName_51 (fun ce => ?_) (fun ce => ?_)
        · refine R_iinc (pc := 56) 0 rfl rfl ⟨by omega, by omega⟩ (ls' := [(2, vI ((i : Int) + 1)), (0, vP 37), (1, vP (200 + k))]) rfl (ltb rfl) dX5_isName_56 ?_
          refine R_goto (pc := 59) (tgt := 27) (by decide) dX5_isName_59 ?_
          have := ih (i + 1) (by omega) (fun j hj => by
            by_cases e : j = i
            · rw [e]; exact ce
            · exact hall j (by omega))
          simpa using this
        · refine R_iconst (pc := 54) (by decide) dX5_isName_54 (R_zret (pc := 55) rfl (Or.inl rfl) dX5_isName_55 ⟨_, rfl, no (fun y => ?_)⟩)
          have y2 := y.2
          unfold isW at y2
          rw [Bool.and_eq_true, match_at] at y2
          have := y2.2 i (by omega)
          rw [hwc i (by omega)] at this
          exact ce this
    exact key (strL.getD k 0) 0 (by omega) (fun j hj => by omega)
  · have y2 := y.2
    unfold isW at y2
    rw [Bool.and_eq_true, decide_eq_true_eq] at y2
    have := y2.1
    omega
end NAME
