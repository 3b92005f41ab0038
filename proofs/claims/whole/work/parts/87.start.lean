theorem start_K {args : Array Value} {s : State} (hts : ∀ w ∈ lw_tbl, w.before args s = true) : ∃ (D : va_G) (cA : Nat → ClassId), KN D cA s ∧ va_AO RX0 s ∧ va_AO RX4 s := by
  obtain ⟨c0, i0, h0⟩ := u_known (C := RX0) (T := TX0) (N := 8) (n := 8) hts (fun w hw => (wt_sub (inX0 w hw)).1) (hts (.instantiable RX0 8) (tb1 (List.mem_of_getElem? (i := 25) rfl)))
  obtain ⟨c1, i1, h1⟩ := u_known (C := RX1) (T := TX1) (N := 3) (n := 3) hts (fun w hw => (wt_sub (inX1 w hw)).1) (hts (.instantiable RX1 3) (tb1 (List.mem_of_getElem? (i := 212) rfl)))
  obtain ⟨c2, i2, h2⟩ := u_known (C := RX2) (T := TX2) (N := 9) (n := 9) hts (fun w hw => (wt_sub (inX2 w hw)).1) (hts (.instantiable RX2 9) (tb1 (List.mem_of_getElem? (i := 73) rfl)))
  obtain ⟨c3, i3, h3⟩ := u_known (C := RX3) (T := TX3) (N := 9) (n := 9) hts (fun w hw => (wt_sub (inX3 w hw)).1) (hts (.instantiable RX3 9) (tb1 (List.mem_of_getElem? (i := 111) rfl)))
  obtain ⟨c4, i4, h4⟩ := u_known (C := RX4) (T := TX4) (N := 3) (n := 3) hts (fun w hw => (wt_sub (inX4 w hw)).1) (hts (.instantiable RX4 3) (tb1 (List.mem_of_getElem? (i := 230) rfl)))
  obtain ⟨c5, i5, h5⟩ := u_known (C := RX5) (T := TX5) (N := 6) (n := 6) hts (fun w hw => (wt_sub (inX5 w hw)).1) (hts (.instantiable RX5 6) (tb1 (List.mem_of_getElem? (i := 117) rfl)))
  obtain ⟨c6, i6, h6⟩ := u_known (C := RX6) (T := TX6) (N := 7) (n := 7) hts (fun w hw => (wt_sub (inX6 w hw)).1) (hts (.instantiable RX6 7) (tb1 (List.mem_of_getElem? (i := 182) rfl)))
  obtain ⟨c7, i7, h7⟩ := u_known (C := RX7) (T := TX7) (N := 12) (n := 12) hts (fun w hw => (wt_sub (inX7 w hw)).1) (hts (.instantiable RX7 12) (tb1 (List.mem_of_getElem? (i := 17) rfl)))
  obtain ⟨c8, i8, h8⟩ := u_known (C := RX8) (T := TX8) (N := 33) (n := 33) hts (fun w hw => (wt_sub (inX8 w hw)).1) (hts (.instantiable RX8 33) (tb4 (List.mem_of_getElem? (i := 92) rfl)))
  obtain ⟨a0, k0, m0, x0, y0, z0⟩ := Cond.arrayClass_spec (hts (.arrayClass .int) (tb1 (List.mem_of_getElem? (i := 70) rfl)))
  obtain ⟨a1, k1, m1, x1, y1, z1⟩ := Cond.arrayClass_spec (hts (.arrayClass .long) (tb1 (List.mem_of_getElem? (i := 109) rfl)))
  obtain ⟨a2, k2, m2, x2, y2, z2⟩ := Cond.arrayClass_spec (hts (.arrayClass .boolean) (tb1 (List.mem_of_getElem? (i := 108) rfl)))
  obtain ⟨a3, k3, m3, x3, y3, z3⟩ := Cond.arrayClass_spec (hts (.arrayClass .byte) (tb1 (List.mem_of_getElem? (i := 145) rfl)))
  have o4 := hts (.arrayOver (.object RX0)) (tb1 (List.mem_of_getElem? (i := 71) rfl))
  obtain ⟨m4, a4, k4, x4, v4, y4, z4, w4⟩ := Cond.arrayOver_spec o4
  have o5 := hts (.arrayOver (.object RX4)) (tb1 (List.mem_of_getElem? (i := 229) rfl))
  obtain ⟨m5, a5, k5, x5, v5, y5, z5, w5⟩ := Cond.arrayOver_spec o5
  refine ⟨(fun k => match k with | 0 => c0 | 1 => c1 | 2 => c2 | 3 => c3 | 4 => c4 | 5 => c5 | 6 => c6 | 7 => c7 | _ => c8, fun k => match k with | 0 => i0 | 1 => i1 | 2 => i2 | 3 => i3 | 4 => i4 | 5 => i5 | 6 => i6 | 7 => i7 | _ => i8), fun t => match t with | 0 => a0 | 1 => a1 | 2 => a2 | 3 => a3 | 4 => a4 | _ => a5, ⟨⟨fun k q hq => ?_, fun k q hq => ?_⟩, ?_⟩, va_AO.of o4, va_AO.of o5⟩
  · match k, hq with
    | 0, hq => cases hq; exact h0
    | 1, hq => cases hq; exact h1
    | 2, hq => cases hq; exact h2
    | 3, hq => cases hq; exact h3
    | 4, hq => cases hq; exact h4
    | 5, hq => cases hq; exact h5
    | 6, hq => cases hq; exact h6
    | 7, hq => cases hq; exact h7
    | 8, hq => cases hq; exact h8
    | k + 9, hq => simp [vwCl] at hq
  · match k, hq with
    | 0, hq => cases hq; exact ⟨fun n z => ⟨fun k h => (by cases h), k0, y0, m0, z0⟩, x0⟩
    | 1, hq => cases hq; exact ⟨fun n z => ⟨fun k h => (by cases h), k1, y1, m1, z1⟩, x1⟩
    | 2, hq => cases hq; exact ⟨fun n z => ⟨fun k h => (by cases h), k2, y2, m2, z2⟩, x2⟩
    | 3, hq => cases hq; exact ⟨fun n z => ⟨fun k h => (by cases h), k3, y3, m3, z3⟩, x3⟩
    | 4, hq => cases hq; exact ⟨fun n z => ⟨fun k h => (by cases h), k4, y4, m4, z4⟩, k4, m4, y4, z4, x4, w4⟩
    | 5, hq => cases hq; exact ⟨fun n z => ⟨fun k h => (by cases h), k5, y5, m5, z5⟩, k5, m5, y5, z5, x5, w5⟩
    | k + 6, hq => simp [tyA] at hq
  · have hn : ∀ w ∈ nestW, w ∈ lw_tbl := List.forall_mem_cons.mpr ⟨tb1 (List.mem_of_getElem? (i := 26) rfl), List.forall_mem_cons.mpr ⟨tb1 (List.mem_of_getElem? (i := 74) rfl), List.forall_mem_cons.mpr ⟨tb1 (List.mem_of_getElem? (i := 112) rfl), List.forall_mem_cons.mpr ⟨tb1 (List.mem_of_getElem? (i := 118) rfl), List.forall_mem_cons.mpr ⟨tb1 (List.mem_of_getElem? (i := 147) rfl), List.forall_mem_cons.mpr ⟨tb1 (List.mem_of_getElem? (i := 183) rfl), List.forall_mem_cons.mpr ⟨tb1 (List.mem_of_getElem? (i := 213) rfl), List.forall_mem_cons.mpr ⟨tb1 (List.mem_of_getElem? (i := 231) rfl), List.forall_mem_cons.mpr ⟨tb2 (List.mem_of_getElem? (i := 81) rfl), List.forall_mem_cons.mpr ⟨tb2 (List.mem_of_getElem? (i := 113) rfl), List.forall_mem_cons.mpr ⟨tb2 (List.mem_of_getElem? (i := 116) rfl), List.forall_mem_cons.mpr ⟨tb2 (List.mem_of_getElem? (i := 121) rfl), List.forall_mem_cons.mpr ⟨tb2 (List.mem_of_getElem? (i := 192) rfl), List.forall_mem_cons.mpr ⟨tb2 (List.mem_of_getElem? (i := 211) rfl), List.forall_mem_cons.mpr ⟨tb3 (List.mem_of_getElem? (i := 7) rfl), List.forall_mem_cons.mpr ⟨tb3 (List.mem_of_getElem? (i := 132) rfl), List.forall_mem_cons.mpr ⟨tb3 (List.mem_of_getElem? (i := 140) rfl), fun _ h => absurd h List.not_mem_nil⟩⟩⟩⟩⟩⟩⟩⟩⟩⟩⟩⟩⟩⟩⟩⟩⟩
    intro w hw
    have h9 := hts w (hn w hw)
    obtain ⟨q, -, rfl⟩ := List.mem_map.mp hw
    exact va_Nw.of rfl h9
theorem start_S {args : Array Value} {s : State} (hts : ∀ w ∈ lw_tbl, w.before args s = true) (hgv : (Jvm.Cond.and given_1 narrow_1).before args s = true) : ∃ g : Nat → Nat, SK g (fun q => s.heap.size ≤ q) s s.heap := by
  have hs := flat_of_before _ hgv
  have hA : ∀ a : Nat, a < s.heap.size → ¬ (fun q : Nat => s.heap.size ≤ q) a := fun a h => Nat.not_le.mpr h
  obtain ⟨adK, adV, hS, hev⟩ := vk_Sof (args := args) (s := s) (N := 6) (tm := fun i => Term.string RX3 (strI.getD i 0)) (len := strL) (byt := strB) (A := fun q : Nat => s.heap.size ≤ q)
    (fun i hi => by match i, hi with | 0, _ => decide | 1, _ => decide | 2, _ => decide | 3, _ => decide | 4, _ => decide | 5, _ => decide)
    (fun i hi => by match i, hi with | 0, _ => exact hs _ (by decide +kernel) | 1, _ => exact hs _ (by decide +kernel) | 2, _ => exact hs _ (by decide +kernel) | 3, _ => exact hs _ (by decide +kernel) | 4, _ => exact hs _ (by decide +kernel) | 5, _ => exact hs _ (by decide +kernel))
    (fun i hi => by match i, hi with | 0, _ => exact hs _ (by decide +kernel) | 1, _ => exact hs _ (by decide +kernel) | 2, _ => exact hs _ (by decide +kernel) | 3, _ => exact hs _ (by decide +kernel) | 4, _ => exact hs _ (by decide +kernel) | 5, _ => exact hs _ (by decide +kernel))
    (fun i hi => by match i, hi with | 0, _ => exact hs _ (by decide +kernel) | 1, _ => exact hs _ (by decide +kernel) | 2, _ => exact hs _ (by decide +kernel) | 3, _ => exact hs _ (by decide +kernel) | 4, _ => exact hs _ (by decide +kernel) | 5, _ => exact hs _ (by decide +kernel))
    (fun i hi => by match i, hi with | 0, _ => exact hs _ (by decide +kernel) | 1, _ => exact hs _ (by decide +kernel) | 2, _ => exact hs _ (by decide +kernel) | 3, _ => exact hs _ (by decide +kernel) | 4, _ => exact hs _ (by decide +kernel) | 5, _ => exact hs _ (by decide +kernel))
    (fun i hi j hj => by match i, hi, j, hj with | 0, _, 0, _ => exact hs _ (by decide +kernel) | 0, _, 1, _ => exact hs _ (by decide +kernel) | 0, _, 2, _ => exact hs _ (by decide +kernel) | 0, _, 3, _ => exact hs _ (by decide +kernel) | 0, _, j + 4, hj => exact absurd hj (Nat.not_lt.mpr (Nat.le_add_left _ _)) | 1, _, 0, _ => exact hs _ (by decide +kernel) | 1, _, 1, _ => exact hs _ (by decide +kernel) | 1, _, 2, _ => exact hs _ (by decide +kernel) | 1, _, 3, _ => exact hs _ (by decide +kernel) | 1, _, j + 4, hj => exact absurd hj (Nat.not_lt.mpr (Nat.le_add_left _ _)) | 2, _, 0, _ => exact hs _ (by decide +kernel) | 2, _, 1, _ => exact hs _ (by decide +kernel) | 2, _, 2, _ => exact hs _ (by decide +kernel) | 2, _, 3, _ => exact hs _ (by decide +kernel) | 2, _, j + 4, hj => exact absurd hj (Nat.not_lt.mpr (Nat.le_add_left _ _)) | 3, _, 0, _ => exact hs _ (by decide +kernel) | 3, _, 1, _ => exact hs _ (by decide +kernel) | 3, _, 2, _ => exact hs _ (by decide +kernel) | 3, _, 3, _ => exact hs _ (by decide +kernel) | 3, _, 4, _ => exact hs _ (by decide +kernel) | 3, _, j + 5, hj => exact absurd hj (Nat.not_lt.mpr (Nat.le_add_left _ _)) | 4, _, 0, _ => exact hs _ (by decide +kernel) | 4, _, 1, _ => exact hs _ (by decide +kernel) | 4, _, 2, _ => exact hs _ (by decide +kernel) | 4, _, j + 3, hj => exact absurd hj (Nat.not_lt.mpr (Nat.le_add_left _ _)) | 5, _, 0, _ => exact hs _ (by decide +kernel) | 5, _, 1, _ => exact hs _ (by decide +kernel) | 5, _, 2, _ => exact hs _ (by decide +kernel) | 5, _, j + 3, hj => exact absurd hj (Nat.not_lt.mpr (Nat.le_add_left _ _)))
    (fun i j hi hj hij => by match i, hi, j, hj, hij with | 0, _, 0, _, hij => exact absurd rfl hij | 0, _, 1, _, _ => exact Or.inl (hs _ (by decide +kernel)) | 0, _, 2, _, _ => exact Or.inl (hs _ (by decide +kernel)) | 0, _, 3, _, _ => exact Or.inl (hs _ (by decide +kernel)) | 0, _, 4, _, _ => exact Or.inl (hs _ (by decide +kernel)) | 0, _, 5, _, _ => exact Or.inl (hs _ (by decide +kernel)) | 1, _, 0, _, _ => exact Or.inr (hs _ (by decide +kernel)) | 1, _, 1, _, hij => exact absurd rfl hij | 1, _, 2, _, _ => exact Or.inl (hs _ (by decide +kernel)) | 1, _, 3, _, _ => exact Or.inl (hs _ (by decide +kernel)) | 1, _, 4, _, _ => exact Or.inl (hs _ (by decide +kernel)) | 1, _, 5, _, _ => exact Or.inl (hs _ (by decide +kernel)) | 2, _, 0, _, _ => exact Or.inr (hs _ (by decide +kernel)) | 2, _, 1, _, _ => exact Or.inr (hs _ (by decide +kernel)) | 2, _, 2, _, hij => exact absurd rfl hij | 2, _, 3, _, _ => exact Or.inl (hs _ (by decide +kernel)) | 2, _, 4, _, _ => exact Or.inl (hs _ (by decide +kernel)) | 2, _, 5, _, _ => exact Or.inl (hs _ (by decide +kernel)) | 3, _, 0, _, _ => exact Or.inr (hs _ (by decide +kernel)) | 3, _, 1, _, _ => exact Or.inr (hs _ (by decide +kernel)) | 3, _, 2, _, _ => exact Or.inr (hs _ (by decide +kernel)) | 3, _, 3, _, hij => exact absurd rfl hij | 3, _, 4, _, _ => exact Or.inl (hs _ (by decide +kernel)) | 3, _, 5, _, _ => exact Or.inl (hs _ (by decide +kernel)) | 4, _, 0, _, _ => exact Or.inr (hs _ (by decide +kernel)) | 4, _, 1, _, _ => exact Or.inr (hs _ (by decide +kernel)) | 4, _, 2, _, _ => exact Or.inr (hs _ (by decide +kernel)) | 4, _, 3, _, _ => exact Or.inr (hs _ (by decide +kernel)) | 4, _, 4, _, hij => exact absurd rfl hij | 4, _, 5, _, _ => exact Or.inl (hs _ (by decide +kernel)) | 5, _, 0, _, _ => exact Or.inr (hs _ (by decide +kernel)) | 5, _, 1, _, _ => exact Or.inr (hs _ (by decide +kernel)) | 5, _, 2, _, _ => exact Or.inr (hs _ (by decide +kernel)) | 5, _, 3, _, _ => exact Or.inr (hs _ (by decide +kernel)) | 5, _, 4, _, _ => exact Or.inr (hs _ (by decide +kernel)) | 5, _, 5, _, hij => exact absurd rfl hij) hA
  refine ⟨fun i => if i < 210 then adK (i - 200) else adV (i - 210), ?_, fun i hi => ?_, ?_, ?_⟩
  · have e1 : ∀ i, i < 6 → (if 200 + i < 210 then adK (200 + i - 200) else adV (200 + i - 210)) = adK i := fun i hi => by rw [if_pos (by omega), Nat.add_sub_cancel_left]
    have e2 : ∀ i, i < 6 → (if 210 + i < 210 then adK (210 + i - 200) else adV (210 + i - 210)) = adV i := fun i hi => by rw [if_neg (by omega), Nat.add_sub_cancel_left]
    refine ⟨fun i hi => ?_, fun i j hi hj e => ?_⟩
    · have h := hS.1 i hi
      dsimp only
      rw [e1 i hi, e2 i hi]
      exact h
    · dsimp only at e
      rw [e1 i hi, e1 j hj] at e
      exact hS.2 i j hi hj e
  · dsimp only
    rw [if_pos (by omega), Nat.add_sub_cancel_left]
    have h := hev i hi
    match i, hi with
    | 0, _ => exact vk_R.of (hts (.stringRef RX3 94 "heir") (tb2 (List.mem_of_getElem? (i := 130) rfl))) h
    | 1, _ => exact vk_R.of (hts (.stringRef RX3 100 "herd") (tb2 (List.mem_of_getElem? (i := 183) rfl))) h
    | 2, _ => exact vk_R.of (hts (.stringRef RX3 102 "told") (tb2 (List.mem_of_getElem? (i := 184) rfl))) h
    | 3, _ => exact vk_R.of (hts (.stringRef RX3 104 "rests") (tb2 (List.mem_of_getElem? (i := 185) rfl))) h
    | 4, _ => exact vk_R.of (hts (.stringRef RX3 106 "row") (tb2 (List.mem_of_getElem? (i := 186) rfl))) h
    | 5, _ => exact vk_R.of (hts (.stringRef RX3 108 "odd") (tb2 (List.mem_of_getElem? (i := 187) rfl))) h
  · exact va_Zof (hts (.laysStatic "java/lang/String" "COMPACT_STRINGS" "Z") (tb2 (List.mem_of_getElem? (i := 144) rfl))) (hts (.initialized "java/lang/String") (tb1 (List.mem_of_getElem? (i := 10) rfl))) (va_eqt (hs (.eq (.static "java/lang/String" "COMPACT_STRINGS" "Z") (.int 1)) (by decide +kernel))) hA
  · exact va_Zqof (hts (.laysStatic "jdk/internal/util/Preconditions" "SIOOBE_FORMATTER" "Ljava/util/function/BiFunction;") (tb2 (List.mem_of_getElem? (i := 160) rfl))) (hts (.initialized "jdk/internal/util/Preconditions") (tb1 (List.mem_of_getElem? (i := 12) rfl))) (hs _ (by decide +kernel)) hA
