/-! ===== gains, ask ===== -/
section GAINS
variable {V N S : Nat} {K : Int} {σs τs σ τ : Mem} {f : Int → Int}
/-- what all others get when the j-th is dead -/
abbrev GC (σs : Mem) (N : Nat) (K : Int) (V : Nat) (j : Int) : Int → Int := allo (N - 1) (wtD (cutF (σs 2) j) (cutF (σs 3) j) (N - 1)) (cmD (cutF (σs 3) j) (N - 1)) (alD (cutF (σs 2) j) (cutF (σs 3) j) (N - 1)) K V
abbrev ixC (x j : Int) : Int := if j < x then x - 1 else x
def gainF (F : Nat → Int) (x y had : Int) : Nat → Nat → Int → Int → Int
  | 0, _, most, dead => if dead = -4 then -4 else if y = 0 then dead else most
  | m + 1, j, most, dead => if (j : Int) = x then gainF F x y had m (j + 1) most dead else if most < F j - had then gainF F x y had m (j + 1) (F j - had) j else gainF F x y had m (j + 1) most dead
theorem getsWithout_s (hE : rE σs 1 f V N S K) (hC : KC σs σ) {x j : Int} (hx : 0 ≤ x ∧ x < N) (hj : 0 ≤ j ∧ j < N) (hne : j ≠ x) {Q : Int → Mem → Prop} (hQ : ∀ σ', KC σs σ' → Q (GC σs N K V j (ixC x j)) σ') : CI layC MX7_getsWithout [vP 0, vI x, vI j] σ Q := by
  have hV := hE.1.1
  have hok := hE.2.2.1.2.2.1
  have h5 := hok.1
  have kc6 : ∀ {a b : Mem}, (∀ q, q < 6 ∨ 6 + 4 < q → b q = a q) → KC a b := fun h => ⟨fun q a => h q (by omega), by rw [h 0 (by omega)], by rw [h 36 (by omega)], by rw [h 37 (by omega)]⟩
  refine X7_getsWithout_E (copy_s isE_6 isE_1 (by omega) (fun σ1 p1 p2 p3 p4 => ?_))
  have c1 : KC σs σ1 := hC.trans (kc6 p1)
  have n1 : σ1 6 2 = N := by rw [p2 2 (by decide), hC.1 1 (by omega)]; exact hE.2.2.1.1
  rw [hC.1 (1 + 1) (by omega), hC.1 (1 + 2) (by omega)] at p3
  refine remove_s isE_6 n1 h5 hj.1 hj.2 (fun σ2 r1 r2 r3 r4 => ?_)
  have c2 : KC σs σ2 := c1.trans (kc6 (fun q hq => r1 q (by omega) (by omega) (by omega)))
  have cut : ∀ i : Int, 0 ≤ i → i < ((N - 1 : Nat) : Int) → σ2 (6 + 1) i = cutF (σs 2) j i ∧ σ2 (6 + 2) i = cutF (σs 3) j i := by
    intro i a b
    have := r4 i a (by omega)
    rw [this.1, this.2]
    unfold cutF
    split
    · exact p3 i a (by omega)
    · exact p3 (i + 1) (by omega) (by omega)
  have okc := okP_cut hok hj.1 hj.2
  refine load_s isPt_26 isE_6 (by omega) r3 (okc.congr (fun i a b => (cut i a b).1.symm) (fun i a b => (cut i a b).2.symm)) (fun σ3 hF hL => ?_)
  have hL2 := hL.congr (fun i a b => (cut i a b).1) (fun i a b => (cut i a b).2)
  have c3 := c2.trans hF.kc
  rw [c3.1 1 (by omega), hE.2.1.2.1, hE.1.2.1]
  refine part_s isPt_26 (okW_of okc) hE.2.1.1 (by omega) hL2 (fun σ4 hF4 _ _ hg => ?_)
  have fr4 : Fr 26 σ3 σ4 := fun q hq => hF4.1 q (by omega) (by omega) (by omega)
  have c4 := c3.trans fr4.kc
  have h6 := (hL2.fp hF4).1
  refine ⟨fun z => got_s isPt_26 (by omega) h6 hx.1 (by omega) ?_, fun z => ⟨⟨by omega, by omega⟩, got_s isPt_26 (by omega) h6 (by omega) (by omega) ?_⟩⟩
  · rw [hg x hx.1 (by omega)]
    have := hQ σ4 c4
    rwa [show ixC x j = x from if_neg (by omega)] at this
  · rw [hg (x - 1) (by omega) (by omega)]
    have := hQ σ4 c4
    rwa [show ixC x j = x - 1 from if_pos z] at this
theorem T_gains (h : Rel σs τs) (x y : Int) : TI MX7_gains MX8_gains [vI x, vI y] σs τs := by
  obtain ⟨V, N, S, K, hE⟩ := h.1
  have hV := hE.1.1
  have hok := hE.2.2.1.2.2.1
  have h5 := hok.1
  by_cases hx : 0 ≤ x ∧ x < N
  · by_cases hy : 0 ≤ y ∧ y ≤ 1
    · have bF : ∀ j : Nat, (j : Int) < N → (j : Int) ≠ x → 0 ≤ GC σs N K V j (ixC x j) ∧ GC σs N K V j (ixC x j) ≤ V := fun j a b => allo_bd (okW_of (okP_cut hok (by omega) a)) K V (by unfold ixC; split <;> omega) (by unfold ixC; split <;> omega)
      have bH := GE_bd hE K V hx.1 hx.2
      have kC : ∀ (m j : Nat) (most dead : Int) (σ : Mem), j + m = N → 0 ≤ most → KC σs σ → LX7_gains_41 x y (GE σs N K V x) most dead j σ (fun r σ' => r = gainF (fun j => GC σs N K V j (ixC x j)) x y (GE σs N K V x) m j most dead ∧ KC σs σ') := by
        intro m
        induction m with
        | zero =>
          intro j most dead σ hj hm hK
          refine X7_gains_41 ⟨fun _ => ⟨fun e => ⟨?_, hK⟩, fun e => ⟨fun e2 => ⟨?_, hK⟩, fun e2 => ⟨?_, hK⟩⟩⟩, fun z => by rw [hK.1 1 (by omega), hE.2.2.1.1] at z; omega⟩
          · unfold gainF; split
            · assumption
            · rfl
          · unfold gainF; rw [if_neg e2, if_neg e]
          · unfold gainF; rw [if_pos e2, e2]
        | succ m ih =>
          intro j most dead σ hj hm hK
          have i32 : I32 ((j : Int) + 1) := ⟨by omega, by omega⟩
          refine X7_gains_41 ⟨fun z => by rw [hK.1 1 (by omega), hE.2.2.1.1] at z; omega, fun _ => ⟨fun e => getsWithout_s hE hK hx ⟨by omega, by omega⟩ e (fun σ2 hK2 => ?_), fun e => ⟨fun _ => ⟨i32, ?_⟩, fun z => by omega⟩⟩⟩
          · have b := bF j (by omega) e
            refine ⟨⟨by omega, by omega⟩, fun z => ⟨i32, ?_⟩, fun z => ⟨i32, ?_⟩⟩
            · have := ih (j + 1) most dead σ2 (by omega) hm hK2
              rw [gainF, if_neg e, if_neg (by omega)]
              simpa using this
            · have := ih (j + 1) (GC σs N K V j (ixC x j) - GE σs N K V x) j σ2 (by omega) (by omega) hK2
              rw [gainF, if_neg e, if_pos z]
              simpa using this
          · have := ih (j + 1) most dead σ (by omega) hm hK
            rw [gainF, if_pos e]
            simpa using this
      have kM : ∀ (m j : Nat) (most dead : Int) (τ : Mem), j + m = N → 0 ≤ most → KM τs τ → LX8_gains_42 x y (GE σs N K V x) most dead j τ (fun r τ' => r = gainF (fun j => GC σs N K V j (ixC x j)) x y (GE σs N K V x) m j most dead ∧ KM τs τ') := by
        intro m
        induction m with
        | zero =>
          intro j most dead τ hj hm hM
          refine X8_gains_42 ⟨fun _ => ⟨fun e2 => ⟨fun e => ⟨?_, hM⟩, fun e => ⟨?_, hM⟩⟩, fun e2 => ⟨?_, hM⟩⟩, fun z => by rw [hM.1 1 (by omega), hE.2.2.1.2.1] at z; omega⟩
          · unfold gainF; rw [if_neg e2, if_neg e]
          · unfold gainF; rw [if_neg e2, if_pos e]
          · unfold gainF; rw [if_pos e2]
        | succ m ih =>
          intro j most dead τ hj hm hM
          have i32 : I32 ((j : Int) + 1) := ⟨by omega, by omega⟩
          have hE' : rE σs 1 (τ 1) V N S K := by rw [hM.1 1 (by omega)]; exact hE
          refine X8_gains_42 ⟨fun z => by rw [hM.1 1 (by omega), hE.2.2.1.2.1] at z; omega, fun _ => ⟨fun e => ⟨i32, ?_⟩, fun e => msStart_s hE' (fun τ1 hM1 => drops_s hok (msMany hM1) hM1.2.2.2.1 (by omega) (by omega) (fun τ2 d1 d2 d3 hL2 => X8_givesNow_E ?_))⟩⟩
          · have := ih (j + 1) most dead τ (by omega) hm hM
            rw [gainF, if_pos e]
            simpa using this
          · rw [d3 0 (by decide) (by decide), d3 2 (by decide) (by decide), msKind hE' hM1, hM1.2.1 0 (by decide) (by decide), hE'.1.2.2]
            refine gives_s (okP_cut hok (by omega) (by omega)) hL2 (by omega) hE.2.1.1 (fun τ3 hG hg => ?_)
            have m2 : KM τs τ2 := (hM.trans hM1.1).trans ⟨fun q a => d1 q (by omega) (by omega) (by omega), d2 7 (by decide) (by decide), d2 12 (by decide) (by decide), d2 31 (by decide) (by decide)⟩
            have m3 : KM τs τ3 := m2.trans hG.sm.km
            have b := bF j (by omega) e
            have fin : ∀ s0 : Int, s0 = ixC x j → LX8_gains_90 x y (GE σs N K V x) most dead j s0 τ3 (fun r τ' => r = gainF (fun j => GC σs N K V j (ixC x j)) x y (GE σs N K V x) (m + 1) j most dead ∧ KM τs τ') := by
              intro s0 hs
              have e7 : τ3 7 s0 = GC σs N K V j (ixC x j) := by rw [hs]; exact hg _ (by unfold ixC; split <;> omega) (by unfold ixC; split <;> omega)
              refine X8_gains_90 ?_
              rw [e7]
              refine ⟨by rw [hs]; unfold ixC; split <;> omega, by rw [hs]; unfold ixC; split <;> omega, ⟨by omega, by omega⟩, fun z => ⟨fun _ => ⟨i32, ?_⟩, fun z2 => by omega⟩, fun z => ⟨fun z2 => by omega, fun _ => ⟨i32, ?_⟩⟩⟩
              · have := ih (j + 1) most dead τ3 (by omega) hm m3
                rw [gainF, if_neg e, if_neg (by omega)]
                simpa using this
              · have := ih (j + 1) (GC σs N K V j (ixC x j) - GE σs N K V x) j τ3 (by omega) (by omega) m3
                rw [gainF, if_neg e, if_pos z]
                simpa using this
            exact ⟨fun z => fin x (by unfold ixC; rw [if_neg (by omega)]), fun z => ⟨⟨by omega, by omega⟩, fin (x - 1) (by unfold ixC; rw [if_pos z])⟩⟩
      refine TI_of h (F := gainF (fun j => GC σs N K V j (ixC x j)) x y (GE σs N K V x) N 0 0 (-4)) (X7_gains_E (has_s isE_1 hE.2.2.1.1 (gF (fun _ => within_s (gT (fun _ => pgNow_s hE (fun σ' hK hP => ⟨rfl, got_s isPt_26 h5 hP.1.1 hx.1 hx.2 ?_⟩)) (fun z => absurd hy z))) (fun z => absurd hx z)))) (X8_gains_E (isHeir_s hE.2.2.1.2.1 h5 (gF (fun _ => isPart_s (gT (fun _ => msStart_s hE (fun τ1 hM => msNow_s hE hM (fun τ2 hG hM2 hg => ⟨hx.1, by omega, ?_⟩))) (fun z => absurd hy z))) (fun z => absurd hx z))))
      · rw [hP.2.2.2 x hx.1 hx.2]
        exact kC N 0 0 (-4) σ' (by omega) (by decide) hK
      · rw [hg x hx.1 hx.2]
        exact kM N 0 0 (-4) τ2 (by omega) (by decide) hM2.1
    · exact TI_of h (F := -1) (X7_gains_E (has_s isE_1 hE.2.2.1.1 (gF (fun _ => within_s (gT (fun z => absurd z hy) (fun _ => ⟨rfl, KC.rf⟩))) (fun z => absurd hx z)))) (X8_gains_E (isHeir_s hE.2.2.1.2.1 h5 (gF (fun _ => isPart_s (gT (fun z => absurd z hy) (fun _ => ⟨rfl, KM.rf⟩))) (fun z => absurd hx z))))
  · exact TI_of h (F := -1) (X7_gains_E (has_s isE_1 hE.2.2.1.1 (gF (fun z => absurd z hx) (fun _ => ⟨rfl, KC.rf⟩)))) (X8_gains_E (isHeir_s hE.2.2.1.2.1 h5 (gF (fun z => absurd z hx) (fun _ => ⟨rfl, KM.rf⟩))))
/-! ask -/
def cntT (b : Nat → Bool) (G : Nat → Int) : Nat → Int → Int
  | 0, _ => 0
  | n + 1, k => if b n = true ∧ G n = k then cntT b G n k + 1 else cntT b G n k
def mxW (b : Nat → Bool) (G : Nat → Int) : Nat → Int
  | 0 => 0
  | n + 1 => if b n = true then max (mxW b G n) (cntT b G (n + 1) (G n)) else mxW b G n
def mxK (T : Int → Int) : Nat → Int
  | 0 => 0
  | k + 1 => if mxK T k < T k then T k else mxK T k
theorem cntT_bd {b : Nat → Bool} {G : Nat → Int} : ∀ (n : Nat) (k : Int), 0 ≤ cntT b G n k ∧ cntT b G n k ≤ n
  | 0, _ => ⟨Int.le_refl _, Int.le_refl _⟩
  | n + 1, k => by have := cntT_bd (b := b) (G := G) n k; unfold cntT; split <;> omega
theorem cntT_le {b : Nat → Bool} {G : Nat → Int} : ∀ (n : Nat) (k : Int), cntT b G n k ≤ mxW b G n
  | 0, _ => Int.le_refl _
  | n + 1, k => by
    have ih := cntT_le (b := b) (G := G) n
    by_cases hb : b n = true
    · rw [mxW, if_pos hb]
      by_cases hk : G n = k
      · rw [hk]; omega
      · rw [cntT, if_neg (fun z => hk z.2)]; have := ih k; omega
    · rw [mxW, if_neg hb, cntT, if_neg (fun z => hb z.1)]; exact ih k
theorem mxW_at {b : Nat → Bool} {G : Nat → Int} (hG : ∀ n : Nat, 0 ≤ G n ∧ G n ≤ n) : ∀ (n : Nat), mxW b G n = 0 ∨ ∃ k : Int, 0 ≤ k ∧ k < n ∧ mxW b G n = cntT b G n k
  | 0 => Or.inl rfl
  | n + 1 => by
    have ih := mxW_at (b := b) hG n
    have hg := hG n
    by_cases hb : b n = true
    · rcases ltge (mxW b G n) (cntT b G (n + 1) (G n)) with z | z
      · exact Or.inr ⟨G n, hg.1, by omega, by rw [mxW, if_pos hb]; omega⟩
      · rw [mxW, if_pos hb, show max (mxW b G n) (cntT b G (n + 1) (G n)) = mxW b G n by omega]
        rcases ih with e | ⟨k, k0, k1, e⟩
        · exact Or.inl e
        · refine Or.inr ⟨k, k0, by omega, ?_⟩
          by_cases hk : G n = k
          · rw [hk, cntT, if_pos ⟨hb, hk⟩] at z; omega
          · rw [cntT, if_neg (fun z => hk z.2)]; exact e
    · rw [mxW, if_neg hb]
      rcases ih with e | ⟨k, k0, k1, e⟩
      · exact Or.inl e
      · exact Or.inr ⟨k, k0, by omega, by rw [cntT, if_neg (fun z => hb z.1)]; exact e⟩
theorem mxK_ge {T : Int → Int} : ∀ (m : Nat), 0 ≤ mxK T m ∧ ∀ k : Int, 0 ≤ k → k < m → T k ≤ mxK T m
  | 0 => ⟨Int.le_refl _, fun k a b => by omega⟩
  | m + 1 => by
    have ih := mxK_ge (T := T) m
    have e : mxK T m ≤ mxK T (m + 1) ∧ T m ≤ mxK T (m + 1) := by
      rw [show mxK T (m + 1) = if mxK T m < T m then T m else mxK T m from rfl]
      split <;> constructor <;> omega
    refine ⟨by omega, fun k a b => ?_⟩
    by_cases hk : k = m
    · rw [hk]; exact e.2
    · have := ih.2 k a (by omega); omega
theorem mxK_at {T : Int → Int} : ∀ (m : Nat), mxK T m = 0 ∨ ∃ k : Int, 0 ≤ k ∧ k < m ∧ mxK T m = T k
  | 0 => Or.inl rfl
  | m + 1 => by
    unfold mxK; split
    · exact Or.inr ⟨m, by omega, by omega, rfl⟩
    · rcases mxK_at (T := T) m with e | ⟨k, k0, k1, e⟩
      · exact Or.inl e
      · exact Or.inr ⟨k, k0, by omega, e⟩
theorem mxW_eq {b : Nat → Bool} {G : Nat → Int} (hG : ∀ n : Nat, 0 ≤ G n ∧ G n ≤ n) (n : Nat) : mxW b G n = mxK (cntT b G n) n := by
  have h1 := mxK_ge (T := cntT b G n) n
  have h2 : 0 ≤ mxW b G n := Int.le_trans (cntT_bd n 0).1 (cntT_le n 0)
  have a1 : mxW b G n ≤ mxK (cntT b G n) n := by
    rcases mxW_at (b := b) hG n with e | ⟨k, k0, k1, e⟩
    · omega
    · rw [e]; exact h1.2 k k0 k1
  have a2 : mxK (cntT b G n) n ≤ mxW b G n := by
    rcases mxK_at (T := cntT b G n) n with e | ⟨k, k0, k1, e⟩
    · omega
    · rw [e]; exact cntT_le n k
  omega
theorem mxW_bd {b : Nat → Bool} {G : Nat → Int} : ∀ (n : Nat), 0 ≤ mxW b G n ∧ mxW b G n ≤ n
  | 0 => ⟨Int.le_refl _, Int.le_refl _⟩
  | n + 1 => by have := mxW_bd (b := b) (G := G) n; have := cntT_bd (b := b) (G := G) (n + 1) (G n); unfold mxW; split <;> omega
abbrev worstF (σs : Mem) (N S : Nat) (K : Int) (i : Int) : Int := mxW (herdsB σs N S K) (fun v => GE σs N K v i) 201
theorem KC.of45 {σ' : Mem} (h : ∀ q, q ≠ 45 → σ' q = σ q) : KC σ σ' := ⟨fun q a => h q (by omega), by rw [h 0 (by decide)], by rw [h 36 (by decide)], by rw [h 37 (by decide)]⟩
theorem leftAtWorst_s (hE : rE σs 1 f V N S K) (hC : KC σs σ) {i : Int} (hi : 0 ≤ i ∧ i < N) {Q : Int → Mem → Prop} (hQ : ∀ σ', KC σs σ' → Q (worstF σs N S K i) σ') : CI layC MX7_leftAtWorst [vP 0, vI i] σ Q := by
  have h5 := hE.2.2.1.2.2.1.1
  have hG : ∀ n : Nat, 0 ≤ GE σs N K n i ∧ GE σs N K n i ≤ n := fun n => GE_bd hE K n hi.1 hi.2
  have key : ∀ (m v : Nat) (σ1 : Mem), v + m = 201 → KC σs σ1 → PG σs 26 N K v σ1 → (∀ k : Int, 0 ≤ k → k ≤ 200 → σ1 45 k = cntT (herdsB σs N S K) (fun v => GE σs N K v i) v k) → LX7_leftAtWorst_32 i (mxW (herdsB σs N S K) (fun v => GE σs N K v i) v) v σ1 Q := by
    intro m
    induction m with
    | zero => intro v σ1 hv hK hP hT; rw [show v = 201 by omega]; exact X7_leftAtWorst_32 ⟨fun _ => hQ σ1 hK, fun z => absurd z (by decide)⟩
    | succ m ih =>
      intro v σ1 hv hK hP hT
      have g := hG v
      refine X7_leftAtWorst_32 ⟨fun z => by omega, fun _ => got_s isPt_26 h5 hP.1.1 hi.1 hi.2 ?_⟩
      rw [hP.2.2.2 i hi.1 hi.2]
      refine within_s (gF (fun _ => asSeen_s hE isPt_26 hK hP.1.1 hP.2.2.2 (gF (fun z => ?_) (fun z => ?_))) (fun z => absurd (show 0 ≤ GE σs N K v i ∧ GE σs N K v i ≤ 200 from ⟨g.1, by omega⟩) z))
      · have hb : herdsB σs N S K v = true := z
        rw [hT _ g.1 (by omega), upM_s]
        have cb := cntT_bd (b := herdsB σs N S K) (G := fun v => GE σs N K v i) v (GE σs N K v i)
        have up : ∀ q, q ≠ 45 → upM σ1 45 (GE σs N K v i) (cntT (herdsB σs N S K) (fun v => GE σs N K v i) v (GE σs N K v i) + 1) q = σ1 q := fun q a => upM_q a
        refine ⟨g.1, by omega, ⟨by omega, by omega⟩, g.1, by omega, g.1, by omega, pgGrow_s hE isPt_26 hE.2.1.1 (by omega) (hP.keep (fun q a b => up q (by omega))) (fun σ2 hF hP2 _ => ⟨⟨by omega, by omega⟩, ?_⟩)⟩
        have := ih (v + 1) σ2 (by omega) ((hK.trans (KC.of45 up)).trans hF.kc) hP2 (fun k a b => by
          rw [hF 45 (by omega)]
          by_cases e : k = GE σs N K v i
          · rw [e, upM_s, cntT, if_pos ⟨hb, rfl⟩]
          · rw [upM_j e, hT k a b, cntT, if_neg (fun y => e y.2.symm)])
        rw [mxW, if_pos hb, cntT, if_pos ⟨hb, rfl⟩] at this
        simpa using this
      · have hb : herdsB σs N S K v = false := Bool.not_eq_true _ ▸ z
        refine pgGrow_s hE isPt_26 hE.2.1.1 (by omega) hP (fun σ2 hF hP2 _ => ⟨⟨by omega, by omega⟩, ?_⟩)
        have := ih (v + 1) σ2 (by omega) (hK.trans hF.kc) hP2 (fun k a b => by
          rw [hF 45 (by omega), hT k a b, cntT, if_neg (fun y => by rw [hb] at y; exact absurd y.1 (by decide))])
        rw [mxW, if_neg (by rw [hb]; decide)] at this
        simpa using this
  have cl : ∀ (m v : Nat) (σ1 : Mem), v + m = 201 → KC σs σ1 → (∀ k : Int, 0 ≤ k → k < v → σ1 45 k = 0) → LX7_leftAtWorst_2 i v σ1 Q := by
    intro m
    induction m with
    | zero =>
      intro v σ1 hv hK hT
      exact X7_leftAtWorst_2 ⟨fun _ => pgOf_k hE hK (v := 0) (by omega) rfl (fun σ2 hK2 hF hP => ⟨rfl, key 201 0 σ2 (by omega) hK2 hP (fun k a b => by rw [hF 45 (by omega)]; exact hT k a (by omega))⟩), fun z => by omega⟩
    | succ m ih =>
      intro v σ1 hv hK hT
      refine X7_leftAtWorst_2 ⟨fun z => by omega, fun _ => ⟨by omega, by omega, ⟨by omega, by omega⟩, ?_⟩⟩
      have := ih (v + 1) (upM σ1 45 v 0) (by omega) (hK.trans (KC.of45 (fun q a => upM_q a))) (fun k a b => by
        by_cases e : k = v
        · rw [e, upM_s]
        · rw [upM_j e]; exact hT k a (by omega))
      simpa using this
  exact X7_leftAtWorst_E (cl 201 0 σ (by omega) hC (fun k a b => by omega))
def askF (w : Nat → Int) (y : Int) : Nat → Nat → Int → Int → Int
  | 0, _, few, asked => if asked = -4 then -4 else if y = 0 then asked else few
  | m + 1, i, few, asked => if w i < few then askF w y m (i + 1) (w i) i else askF w y m (i + 1) few asked
theorem MS.up12 {τ' : Mem} (hM : MS σs τs N τ) (h : ∀ q, q ≠ 12 → τ' q = τ q) : MS σs τs N τ' := by
  refine ⟨hM.1.trans ⟨fun q a => h q (by omega), by rw [h 0 (by decide)], by rw [h 0 (by decide)], by rw [h 0 (by decide)]⟩, fun k a b => by rw [h 2 (by decide)]; exact hM.2.1 k a b, ?_⟩
  unfold ML; rw [h 2 (by decide), h 0 (by decide), h 6 (by decide)]; exact hM.2.2
theorem T_ask (h : Rel σs τs) (y : Int) : TI MX7_ask MX8_ask [vI y] σs τs := by
  obtain ⟨V, N, S, K, hE⟩ := h.1
  have h5 := hE.2.2.1.2.2.1.1
  by_cases hy : 0 ≤ y ∧ y ≤ 1
  · have hG : ∀ i : Nat, i < N → ∀ n : Nat, 0 ≤ GE σs N K n i ∧ GE σs N K n i ≤ n := fun i a n => GE_bd hE K n (by omega) (by omega)
    have kC : ∀ (m i : Nat) (few asked : Int) (σ : Mem), i + m = N → KC σs σ → LX7_ask_29 y few asked i σ (fun r σ' => r = askF (fun i => worstF σs N S K i) y m i few asked ∧ KC σs σ') := by
      intro m
      induction m with
      | zero =>
        intro i few asked σ hi hK
        refine X7_ask_29 ⟨fun _ => ⟨fun e => ⟨?_, hK⟩, fun e => ⟨fun e2 => ⟨?_, hK⟩, fun e2 => ⟨?_, hK⟩⟩⟩, fun z => by rw [hK.1 1 (by omega), hE.2.2.1.1] at z; omega⟩
        · unfold askF; split
          · assumption
          · rfl
        · unfold askF; rw [if_neg e2, if_neg e]
        · unfold askF; rw [if_pos e2, e2]
      | succ m ih =>
        intro i few asked σ hi hK
        have i32 : I32 ((i : Int) + 1) := ⟨by omega, by omega⟩
        refine X7_ask_29 ⟨fun z => by rw [hK.1 1 (by omega), hE.2.2.1.1] at z; omega, fun _ => leftAtWorst_s hE hK ⟨by omega, by omega⟩ (fun σ2 hK2 => ⟨fun z => ⟨i32, ?_⟩, fun z => ⟨i32, ?_⟩⟩)⟩
        · have := ih (i + 1) few asked σ2 (by omega) hK2
          rw [askF, if_neg (by omega)]
          simpa using this
        · have := ih (i + 1) (worstF σs N S K i) i σ2 (by omega) hK2
          rw [askF, if_pos z]
          simpa using this
    -- the reference: the counts, then the worst of each
    have kW : ∀ (few asked : Int) (i : Nat) (τ : Mem) {Q : Int → Mem → Prop}, i < N → (∀ k : Int, 0 ≤ k → k ≤ 200 → τ 12 (201 * i + k) = cntT (herdsB σs N S K) (fun v => GE σs N K v i) 201 k) → ((few ≤ worstF σs N S K i → LX8_ask_118 y few asked ((i : Int) + 1) τ Q) ∧ (worstF σs N S K i < few → LX8_ask_118 y (worstF σs N S K i) i ((i : Int) + 1) τ Q)) → ∀ (m k : Nat), k + m = 201 → LX8_ask_135 y few asked i (mxK (cntT (herdsB σs N S K) (fun v => GE σs N K v i) 201) k) k τ Q := by
      intro few asked i τ Q hi hT hq m
      have i32 : I32 ((i : Int) + 1) := ⟨by omega, by omega⟩
      induction m with
      | zero =>
        intro k hk
        rw [show k = 201 by omega, ← mxW_eq (hG i hi)]
        exact X8_ask_135 ⟨fun _ => ⟨fun z => ⟨fun _ => ⟨i32, hq.1 z⟩, fun z2 => by omega⟩, fun z => ⟨fun z2 => by omega, fun _ => ⟨i32, hq.2 z⟩⟩⟩, fun z => absurd z (by decide)⟩
      | succ m ih =>
        intro k hk
        refine X8_ask_135 ⟨fun z => by omega, fun _ => ⟨⟨by omega, by omega⟩, ⟨by omega, by omega⟩, by omega, by omega, ?_⟩⟩
        rw [hT k (by omega) (by omega)]
        have := ih (k + 1) (by omega)
        rw [mxK] at this
        refine ⟨fun z => ⟨⟨by omega, by omega⟩, ?_⟩, fun z => ⟨⟨by omega, by omega⟩, ⟨by omega, by omega⟩, by omega, by omega, ⟨by omega, by omega⟩, ?_⟩⟩
        · rw [if_neg (by omega)] at this
          simpa using this
        · rw [if_pos z] at this
          simpa using this
    have kM2 : ∀ (m i : Nat) (few asked : Int) (τ : Mem), i + m = N → MS σs τs N τ → (∀ i : Nat, i < N → ∀ k : Int, 0 ≤ k → k ≤ 200 → τ 12 (201 * i + k) = cntT (herdsB σs N S K) (fun v => GE σs N K v i) 201 k) → LX8_ask_118 y few asked i τ (fun r τ' => r = askF (fun i => worstF σs N S K i) y m i few asked ∧ KM τs τ') := by
      intro m
      induction m with
      | zero =>
        intro i few asked τ hi hM _
        refine X8_ask_118 ⟨fun _ => ⟨fun e2 => ⟨fun e => ⟨?_, hM.1⟩, fun e => ⟨?_, hM.1⟩⟩, fun e2 => ⟨?_, hM.1⟩⟩, fun z => by rw [msMany hM] at z; omega⟩
        · unfold askF; rw [if_neg e2, if_neg e]
        · unfold askF; rw [if_neg e2, if_pos e]
        · unfold askF; rw [if_pos e2]
      | succ m ih =>
        intro i few asked τ hi hM hT
        refine X8_ask_118 ⟨fun z => by rw [msMany hM] at z; omega, fun _ => kW few asked i τ (by omega) (hT i (by omega)) ⟨fun z => ?_, fun z => ?_⟩ 201 0 (by omega)⟩
        · have := ih (i + 1) few asked τ (by omega) hM hT
          rw [askF, if_neg (by omega)]
          simpa using this
        · have := ih (i + 1) (worstF σs N S K i) i τ (by omega) hM hT
          rw [askF, if_pos z]
          simpa using this
    have kM1 : ∀ (m v : Nat) (t : Tri) (τ : Mem), v + m = 201 → (0 ≤ t.n ∧ t.n ≤ v) → MS σs τs N τ → (∀ i : Nat, i < N → ∀ k : Int, 0 ≤ k → k ≤ 200 → τ 12 (201 * i + k) = cntT (herdsB σs N S K) (fun v => GE σs N K v i) v k) → LX8_ask_46 y t.n (-4) v τ (fun r τ' => r = askF (fun i => worstF σs N S K i) y N 0 (noteF (herdsB σs N S K) m v t).n (-4) ∧ KM τs τ') := by
      intro m
      induction m with
      | zero =>
        intro v t τ hv ht hM hT
        rw [show v = 201 by omega] at hT ⊢
        exact X8_ask_46 ⟨fun _ => kM2 N 0 t.n (-4) τ (by omega) hM hT, fun z => absurd z (by decide)⟩
      | succ m ih =>
        intro v t τ hv ht hM hT
        refine X8_ask_46 ⟨fun z => by omega, fun _ => herdSo_s hE hM (v := v) (by omega) rfl (fun τ2 hG2 hM2 hg => gF (fun z => ⟨⟨by omega, by omega⟩, ?_⟩) (fun z => ⟨⟨by omega, by omega⟩, ?_⟩))⟩
        · have hb : herdsB σs N S K v = true := z
          have inn : ∀ (mm j : Nat) (τ3 : Mem), j + mm = N → (∀ q, q ≠ 12 → τ3 q = τ2 q) → (∀ i : Nat, i < N → ∀ k : Int, 0 ≤ k → k ≤ 200 → τ3 12 (201 * i + k) = cntT (herdsB σs N S K) (fun v => GE σs N K v i) (if i < j then v + 1 else v) k) → LX8_ask_69 y (t.n + 1) (-4) v j τ3 (fun r τ' => r = askF (fun i => worstF σs N S K i) y N 0 (noteF (herdsB σs N S K) (m + 1) v t).n (-4) ∧ KM τs τ') := by
            intro mm
            induction mm with
            | zero =>
              intro j τ3 hj h3 hT3
              refine X8_ask_69 ⟨fun _ => ⟨⟨by omega, by omega⟩, ?_⟩, fun z => by rw [h3 2 (by decide), msMany hM2] at z; omega⟩
              have := ih (v + 1) (tri1 true v t) τ3 (by omega) (tri1_bd ht) (hM2.up12 h3) (fun i a k b c => by rw [hT3 i a k b c, if_pos (by omega)])
              rw [noteF, hb]
              rw [show (tri1 true v t).n = t.n + 1 from rfl] at this
              simpa using this
            | succ mm ih2 =>
              intro j τ3 hj h3 hT3
              have g := hG j (by omega) v
              have e7 : τ3 7 j = GE σs N K v j := by rw [h3 7 (by decide)]; exact hg j (by omega) (by omega)
              have cb := cntT_bd (b := herdsB σs N S K) (G := fun v => GE σs N K v j) v (GE σs N K v j)
              have ec : τ3 12 (201 * j + GE σs N K v j) = cntT (herdsB σs N S K) (fun v => GE σs N K v j) v (GE σs N K v j) := by rw [hT3 j (by omega) _ g.1 (by omega), if_neg (by omega)]
              refine X8_ask_69 ⟨fun z => by rw [h3 2 (by decide), msMany hM2] at z; omega, fun _ => ?_⟩
              rw [e7, ec]
              refine ⟨⟨by omega, by omega⟩, by omega, by omega, ⟨by omega, by omega⟩, by omega, by omega, ⟨by omega, by omega⟩, by omega, by omega, ⟨by omega, by omega⟩, ?_⟩
              have := ih2 (j + 1) (upM τ3 12 (201 * j + GE σs N K v j) (cntT (herdsB σs N S K) (fun v => GE σs N K v j) v (GE σs N K v j) + 1)) (by omega) (fun q a => by rw [upM_q a]; exact h3 q a) (fun i a k b c => by
                by_cases e : i = j
                · subst e
                  rw [if_pos (by omega)]
                  by_cases ek : k = GE σs N K v i
                  · rw [ek, upM_s, cntT, if_pos ⟨hb, rfl⟩]
                  · rw [upM_j (by omega), hT3 i a k b c, if_neg (by omega), cntT, if_neg (fun y => ek y.2.symm)]
                · rw [upM_j (by omega), hT3 i a k b c]
                  by_cases e2 : i < j
                  · rw [if_pos e2, if_pos (by omega)]
                  · rw [if_neg e2, if_neg (by omega)])
              simpa using this
          exact inn N 0 τ2 (by omega) (fun _ _ => rfl) (fun i a k b c => by rw [if_neg (by omega), hG2 12 (by decide) (by decide)]; exact hT i a k b c)
        · have hb : herdsB σs N S K v = false := Bool.not_eq_true _ ▸ z
          have := ih (v + 1) t τ2 (by omega) (by omega) hM2 (fun i a k b c => by rw [hG2 12 (by decide) (by decide), hT i a k b c, cntT, if_neg (fun y => by rw [hb] at y; exact absurd y.1 (by decide))])
          rw [noteF, hb]
          show LX8_ask_46 _ _ _ _ _ (fun r τ' => r = askF (fun i => worstF σs N S K i) y N 0 (noteF (herdsB σs N S K) m (v + 1) t).n (-4) ∧ KM τs τ')
          simpa using this
    have kM0 : ∀ (m v : Nat) (τ : Mem), v + m = 1005 → (∀ q, q ≠ 12 → τ q = τs q) → (∀ k : Int, 0 ≤ k → k < v → τ 12 k = 0) → LX8_ask_17 y 0 (-4) v τ (fun r τ' => r = askF (fun i => worstF σs N S K i) y N 0 (noteF (herdsB σs N S K) 201 0 ⟨0, -4, -4⟩).n (-4) ∧ KM τs τ') := by
      intro m
      induction m with
      | zero =>
        intro v τ hv h1 h2
        have km : KM τs τ := ⟨fun q a => h1 q (by omega), by rw [h1 0 (by decide)], by rw [h1 0 (by decide)], by rw [h1 0 (by decide)]⟩
        refine X8_ask_17 ⟨fun _ => starts1_s (σ := σs) (by rw [h1 1 (by decide)]; exact hE) (fun τ2 hS hc hL => ?_), fun z => by omega⟩
        refine kM1 201 0 ⟨0, -4, -4⟩ τ2 (by omega) ⟨by decide, by decide⟩ ⟨km.trans hS.km, fun k a b => by rw [hc k a b, h1 1 (by decide)], hL⟩ (fun i a k b c => ?_)
        rw [hS.1 12 (by decide) (by decide) (by decide) (by decide) (by decide)]
        exact h2 _ (by omega) (by omega)
      | succ m ih =>
        intro v τ hv h1 h2
        refine X8_ask_17 ⟨fun z => by omega, fun _ => ⟨by omega, by omega, ⟨by omega, by omega⟩, ?_⟩⟩
        have := ih (v + 1) (upM τ 12 v 0) (by omega) (fun q a => by rw [upM_q a]; exact h1 q a) (fun k a b => by
          by_cases e : k = v
          · rw [e, upM_s]
          · rw [upM_j e]; exact h2 k a (by omega))
        simpa using this
    refine TI_of h (F := askF (fun i => worstF σs N S K i) y N 0 (noteF (herdsB σs N S K) 201 0 ⟨0, -4, -4⟩).n (-4)) (X7_ask_E (within_s (gT (fun _ => findHerds_s hE (fun σ' hK hT => ?_)) (fun z => absurd hy z)))) (X8_ask_E (isPart_s (gT (fun _ => kM0 1005 0 τs (by omega) (fun _ _ => rfl) (fun k a b => by omega)) (fun z => absurd hy z))))
    rw [hT.1]
    exact kC N 0 _ (-4) σ' (by omega) hK
  · exact TI_of h (F := -1) (X7_ask_E (within_s (gT (fun z => absurd z hy) (fun _ => ⟨rfl, KC.rf⟩)))) (X8_ask_E (isPart_s (gT (fun z => absurd z hy) (fun _ => ⟨rfl, KM.rf⟩))))
end GAINS
