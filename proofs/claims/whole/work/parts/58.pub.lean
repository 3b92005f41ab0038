/-! ===== herds gone through one by one ===== -/
/-- from v on, m herds: the first of which g names someone -/
def srch (g : Nat → Int) (what : Int) : Nat → Nat → Int
  | 0, _ => -4
  | m + 1, v => if 0 ≤ g v then (if what = 0 then (v : Int) else g v) else srch g what m (v + 1)
theorem srch_y {g : Nat → Int} {what : Int} {m v : Nat} (h : 0 ≤ g v) : srch g what (m + 1) v = if what = 0 then (v : Int) else g v := by rw [srch, if_pos h]
theorem srch_n {g : Nat → Int} {what : Int} {m v : Nat} (h : g v < 0) : srch g what (m + 1) v = srch g what m (v + 1) := by rw [srch, if_neg (by omega)]
section SRCH
variable {V N S : Nat} {K : Int} {σs τs σ τ : Mem} {f : Int → Int}
abbrev offG (σs : Mem) (N : Nat) (K : Int) (v : Nat) : Int := fstB (offB (wtD (σs 2) (σs 3) N) (alD (σs 2) (σs 3) N) (GE σs N K v) v) (-1) N
theorem pgOff_s (h : rE σs 1 f V N S K) {kind : Int} {v : Nat} (hv : v ≤ 2000) (hP : PG σs 26 N kind v σ) {Q : Int → Mem → Prop} (hQ : Q (offG σs N kind v) σ) : CI layC MX2_firstOff [vP 26] σ Q := by
  refine firstOff_s isPt_26 (okW_of h.2.2.1.2.2.1) hP.1 hv hP.2.2.1 (pgBd h hv hP) ?_
  unfold fstB
  rw [fstFrom_congr (q := offB (wtD (σs 2) (σs 3) N) (alD (σs 2) (σs 3) N) (GE σs N kind v) v) (fun i a b => offB_congr (hP.2.2.2 i a (by omega)))]
  exact hQ
theorem msOff_s (h : rE σs 1 f V N S K) {kind : Int} {v : Nat} (hv : v ≤ 2000) (hM : MS σs τs N τ) {x : Int} (hx : x = v) (hg : ∀ i : Int, 0 ≤ i → i < N → τ 7 i = GE σs N kind v i) {Q : Int → Mem → Prop} (h1 : offG σs N kind v < 0 → Q (-4) τ) (h2 : 0 ≤ offG σs N kind v → Q (offG σs N kind v) τ) : CI layM MX8_firstOff [vP 0, vI x] τ Q := by
  subst hx
  refine mfirstOff_s h.2.2.1.2.2.1 hM.2.2 ⟨by omega, by omega⟩ (msBd h hv hg) ?_
  unfold fstB
  rw [fstFrom_congr (q := offB (wtD (σs 2) (σs 3) N) (alD (σs 2) (σs 3) N) (GE σs N kind v) v) (fun i a b => offB_congr (hg i a (by omega)))]
  rcases fstFrom_d (p := offB (wtD (σs 2) (σs 3) N) (alD (σs 2) (σs 3) N) (GE σs N kind v) v) (d := -1) (d' := -4) (m := N) (k := 0) with ⟨a, b⟩ | ⟨a, b⟩
  · rw [b]; exact h1 (by show fstFrom _ _ _ _ < 0; rw [a]; decide)
  · rw [← a]; exact h2 b
theorem T_keeps (h : Rel σs τs) (x y : Int) : TI MX7_keeps MX8_keeps [vI x, vI y] σs τs := by
  obtain ⟨V, N, S, K, hE⟩ := h.1
  by_cases hx : 0 ≤ x ∧ x ≤ 200
  · by_cases hy : 0 ≤ y ∧ y ≤ 1
    · have kC : ∀ (m v : Nat) (σ : Mem), (v : Int) + m = x + 1 → KC σs σ → PG σs 26 N K v σ → LX7_keeps_30 x y v σ (fun r σ' => r = srch (offG σs N K) y m v ∧ KC σs σ') := by
        intro m
        induction m with
        | zero => intro v σ hv hK hP; exact X7_keeps_30 ⟨fun _ => ⟨rfl, hK⟩, fun z => by omega⟩
        | succ m ih =>
          intro v σ hv hK hP
          refine X7_keeps_30 ⟨fun z => by omega, fun _ => pgOff_s hE (by omega) hP ⟨fun z => pgGrow_s hE isPt_26 hE.2.1.1 (by omega) hP (fun σ2 hF hP2 _ => ⟨⟨by omega, by omega⟩, ?_⟩), fun z => ⟨fun e => ⟨?_, hK⟩, fun e => ⟨?_, hK⟩⟩⟩⟩
          · rw [srch_n z]
            have := ih (v + 1) σ2 (by omega) (hK.trans hF.kc) hP2
            simpa using this
          · rw [srch_y z, if_neg e]
          · rw [srch_y z, if_pos e]
      have kM : ∀ (m v : Nat) (τ : Mem), (v : Int) + m = x + 1 → MS σs τs N τ → LX8_keeps_27 x y v τ (fun r τ' => r = srch (offG σs N K) y m v ∧ KM τs τ') := by
        intro m
        induction m with
        | zero => intro v τ hv hM; exact X8_keeps_27 ⟨fun _ => ⟨rfl, hM.1⟩, fun z => by omega⟩
        | succ m ih =>
          intro v τ hv hM
          refine X8_keeps_27 ⟨fun z => by omega, fun _ => ?_⟩
          rw [msKind hE hM]
          refine msGives_s hE hM (v := v) (by omega) rfl hE.2.1.1 (fun τ2 _ hM2 hg => msOff_s hE (v := v) (by omega) hM2 rfl hg (fun z => ⟨fun _ => ⟨⟨by omega, by omega⟩, ?_⟩, fun z2 => absurd rfl z2⟩) (fun z => ⟨fun z2 => by omega, fun _ => ⟨fun e => ⟨?_, hM2.1⟩, fun e => ⟨?_, hM2.1⟩⟩⟩))
          · rw [srch_n z]
            have := ih (v + 1) τ2 (by omega) hM2
            simpa using this
          · rw [srch_y z, if_neg e]
          · rw [srch_y z, if_pos e]
      exact TI_of h (F := srch (offG σs N K) y (x + 1).toNat 0) (X7_keeps_E (within_s (gF (fun _ => within_s (gT (fun _ => pgOf_s hE (v := 0) (by omega) rfl (fun σ' hK hP => ⟨rfl, kC _ 0 σ' (by omega) hK hP⟩)) (fun z => absurd hy z))) (fun z => absurd hx z)))) (X8_keeps_E (in_s (gF (fun _ => isPart_s (gT (fun _ => msStart_s hE (fun τ1 hM => kM _ 0 τ1 (by omega) hM)) (fun z => absurd hy z))) (fun z => absurd hx z))))
    · exact TI_of h (F := -1) (X7_keeps_E (within_s (gF (fun _ => within_s (gT (fun z => absurd z hy) (fun _ => ⟨rfl, KC.rf⟩))) (fun z => absurd hx z)))) (X8_keeps_E (in_s (gF (fun _ => isPart_s (gT (fun z => absurd z hy) (fun _ => ⟨rfl, KM.rf⟩))) (fun z => absurd hx z))))
  · exact TI_of h (F := -1) (X7_keeps_E (within_s (gF (fun z => absurd z hx) (fun _ => ⟨rfl, KC.rf⟩)))) (X8_keeps_E (in_s (gF (fun z => absurd z hx) (fun _ => ⟨rfl, KM.rf⟩))))
/-! loses -/
abbrev losG (σs : Mem) (N : Nat) (K : Int) (v : Nat) : Int := fstB (fun i => decide (GE σs N K (v + 1) i < GE σs N K v i)) (-1) N
theorem remembers_s {Q : Mem → Prop} (hQ : ∀ τ', (∀ q, q ≠ 11 → τ' q = τ q) → (∀ i : Int, 0 ≤ i → i < 5 → τ' 11 i = τ 7 i) → Q τ') : CV layM MX8_remembers [vP 0] τ Q := by
  have key : ∀ (m k : Nat) (τ1 : Mem), k + m = 5 → (∀ q, q ≠ 11 → τ1 q = τ q) → (∀ i : Int, 0 ≤ i → i < k → τ1 11 i = τ 7 i) → LX8_remembers_2 k τ1 Q := by
    intro m
    induction m with
    | zero => intro k τ1 hk h1 h2; exact X8_remembers_2 ⟨fun _ => hQ τ1 h1 (fun i a b => h2 i a (by omega)), fun z => by omega⟩
    | succ m ih =>
      intro k τ1 hk h1 h2
      refine X8_remembers_2 ⟨fun z => by omega, fun _ => ⟨by omega, by omega, by omega, by omega, ⟨by omega, by omega⟩, ?_⟩⟩
      have := ih (k + 1) (upM τ1 11 k (τ1 7 k)) (by omega) (fun q a => by rw [upM_q a]; exact h1 q a) (fun i a b => by
        by_cases hi : i = k
        · rw [hi, upM_s, h1 7 (by decide)]
        · rw [upM_j hi]; exact h2 i a (by omega))
      simpa using this
  exact X8_remembers_E (key 5 0 τ (by omega) (fun _ _ => rfl) (fun i a b => by omega))
theorem MS.up11 {τ' : Mem} (hM : MS σs τs N τ) (h : ∀ q, q ≠ 11 → τ' q = τ q) : MS σs τs N τ' := by
  refine ⟨hM.1.trans ⟨fun q a => h q (by omega), by rw [h 0 (by decide)], by rw [h 0 (by decide)], by rw [h 0 (by decide)]⟩, fun k a b => by rw [h 2 (by decide)]; exact hM.2.1 k a b, ?_⟩
  unfold ML; rw [h 2 (by decide), h 0 (by decide), h 6 (by decide)]; exact hM.2.2
theorem T_loses (h : Rel σs τs) (x y : Int) : TI MX7_loses MX8_loses [vI x, vI y] σs τs := by
  obtain ⟨V, N, S, K, hE⟩ := h.1
  have h5 := hE.2.2.1.2.2.1.1
  by_cases hx : 0 ≤ x ∧ x ≤ 200
  · by_cases hy : 0 ≤ y ∧ y ≤ 1
    · have kC : ∀ (m v : Nat) (σ : Mem), (v : Int) + m = x + 1 → KC σs σ → PG σs 26 N K v σ → LX7_loses_30 x y v σ (fun r σ' => r = srch (losG σs N K) y m v ∧ KC σs σ') := by
        intro m
        induction m with
        | zero => intro v σ hv hK hP; exact X7_loses_30 ⟨fun _ => ⟨rfl, hK⟩, fun z => by omega⟩
        | succ m ih =>
          intro v σ hv hK hP
          refine X7_loses_30 ⟨fun z => by omega, fun _ => pgGrow_s hE isPt_26 hE.2.1.1 (by omega) hP (fun σ2 hF hP2 hB => firstLoser_s isPt_26 h5 hP2.1.1 ?_)⟩
          have e : fstB (fun i => decide (σ2 (26 + 3) i < σ2 (26 + 4) i)) (-1) N = losG σs N K v := fstFrom_congr (fun i a b => by rw [hP2.2.2.2 i a (by omega), hB i a (by omega)])
          rw [e]
          refine ⟨fun z => ⟨⟨by omega, by omega⟩, ?_⟩, fun z => ⟨fun e => ⟨?_, hK.trans hF.kc⟩, fun e => ⟨?_, hK.trans hF.kc⟩⟩⟩
          · rw [srch_n z]
            have := ih (v + 1) σ2 (by omega) (hK.trans hF.kc) hP2
            simpa using this
          · rw [srch_y z, if_neg e]
          · rw [srch_y z, if_pos e]
      have kM : ∀ (m v : Nat) (τ : Mem), (v : Int) + m = x + 1 → MS σs τs N τ → (∀ i : Int, 0 ≤ i → i < N → τ 7 i = GE σs N K v i) → LX8_loses_38 x y v τ (fun r τ' => r = srch (losG σs N K) y m v ∧ KM τs τ') := by
        intro m
        induction m with
        | zero => intro v τ hv hM _; exact X8_loses_38 ⟨fun _ => ⟨rfl, hM.1⟩, fun z => by omega⟩
        | succ m ih =>
          intro v τ hv hM hg0
          refine X8_loses_38 ⟨fun z => by omega, fun _ => remembers_s (fun τ1 r1 r2 => ⟨⟨by omega, by omega⟩, ?_⟩)⟩
          have hM1 := hM.up11 r1
          rw [msKind hE hM1]
          refine msGives_s hE hM1 (v := v + 1) (by omega) rfl hE.2.1.1 (fun τ2 hG hM2 hg => ?_)
          have e11 : ∀ i : Int, 0 ≤ i → i < N → τ2 11 i = GE σs N K v i := fun i a b => by rw [hG 11 (by decide) (by decide), r2 i a (by omega)]; exact hg0 i a b
          have inn : ∀ (mm k : Nat), k + mm = N → losG σs N K v = fstFrom (fun i => decide (GE σs N K (v + 1) i < GE σs N K v i)) (-1) k mm → LX8_loses_63 x y v k τ2 (fun r τ' => r = srch (losG σs N K) y (m + 1) v ∧ KM τs τ') := by
            intro mm
            induction mm with
            | zero =>
              intro k hk e
              refine X8_loses_63 ⟨fun _ => ⟨⟨by omega, by omega⟩, ?_⟩, fun z => by rw [msMany hM2] at z; omega⟩
              have z : losG σs N K v < 0 := by rw [e]; show (-1 : Int) < 0; decide
              rw [srch_n z]
              have := ih (v + 1) τ2 (by omega) hM2 hg
              simpa using this
            | succ mm ih2 =>
              intro k hk e
              refine X8_loses_63 ⟨fun z => by rw [msMany hM2] at z; omega, fun _ => ⟨by omega, by omega, by omega, by omega, ?_⟩⟩
              rw [e11 k (by omega) (by omega), hg k (by omega) (by omega)]
              unfold fstFrom at e
              refine ⟨fun z => ⟨⟨by omega, by omega⟩, ?_⟩, fun z => ?_⟩
              · rw [if_neg (by simp only [decide_eq_true_eq]; omega)] at e
                have := ih2 (k + 1) (by omega) e
                simpa using this
              · rw [if_pos (decide_eq_true z)] at e
                have z2 : 0 ≤ losG σs N K v := by rw [e]; omega
                rw [srch_y z2, e]
                exact ⟨fun e => ⟨by rw [if_neg e], hM2.1⟩, fun e => ⟨by rw [if_pos e], hM2.1⟩⟩
          exact inn N 0 (by omega) rfl
      refine TI_of h (F := srch (losG σs N K) y (x + 1).toNat 0) (X7_loses_E (within_s (gF (fun _ => within_s (gT (fun _ => pgOf_s hE (v := 0) (by omega) rfl (fun σ' hK hP => ⟨rfl, kC _ 0 σ' (by omega) hK hP⟩)) (fun z => absurd hy z))) (fun z => absurd hx z)))) (X8_loses_E (in_s (gF (fun _ => isPart_s (gT (fun _ => msStart_s hE (fun τ1 hM => ?_)) (fun z => absurd hy z))) (fun z => absurd hx z))))
      rw [msKind hE hM]
      exact msGives_s hE hM (v := 0) (by omega) rfl hE.2.1.1 (fun τ2 hG hM2 hg => kM _ 0 τ2 (by omega) hM2 hg)
    · exact TI_of h (F := -1) (X7_loses_E (within_s (gF (fun _ => within_s (gT (fun z => absurd z hy) (fun _ => ⟨rfl, KC.rf⟩))) (fun z => absurd hx z)))) (X8_loses_E (in_s (gF (fun _ => isPart_s (gT (fun z => absurd z hy) (fun _ => ⟨rfl, KM.rf⟩))) (fun z => absurd hx z))))
  · exact TI_of h (F := -1) (X7_loses_E (within_s (gF (fun z => absurd z hx) (fun _ => ⟨rfl, KC.rf⟩)))) (X8_loses_E (in_s (gF (fun z => absurd z hx) (fun _ => ⟨rfl, KM.rf⟩))))
/-! wants -/
theorem T_wants (h : Rel σs τs) (x n : Int) : TI MX7_wants MX8_wants [vI x, vI n] σs τs := by
  obtain ⟨V, N, S, K, hE⟩ := h.1
  have h5 := hE.2.2.1.2.2.1.1
  by_cases hx : 0 ≤ x ∧ x < N
  · by_cases hn : 0 ≤ n ∧ n ≤ 999
    · have kC : ∀ (m v : Nat) (σ : Mem), v + m = 1000 → KC σs σ → PG σs 26 N K v σ → LX7_wants_28 x n v σ (fun r σ' => r = srch (fun v => GE σs N K v x - n) 0 m v ∧ KC σs σ') := by
        intro m
        induction m with
        | zero => intro v σ hv hK hP; exact X7_wants_28 ⟨fun _ => ⟨rfl, hK⟩, fun z => by omega⟩
        | succ m ih =>
          intro v σ hv hK hP
          refine X7_wants_28 ⟨fun z => by omega, fun _ => got_s isPt_26 h5 hP.1.1 hx.1 hx.2 ?_⟩
          rw [hP.2.2.2 x hx.1 hx.2]
          refine ⟨fun z => pgGrow_s hE isPt_26 hE.2.1.1 (by omega) hP (fun σ2 hF hP2 _ => ⟨⟨by omega, by omega⟩, ?_⟩), fun z => ⟨?_, hK⟩⟩
          · rw [srch_n (by omega)]
            have := ih (v + 1) σ2 (by omega) (hK.trans hF.kc) hP2
            simpa using this
          · rw [srch_y (by omega), if_pos rfl]
      have kM : ∀ (m v : Nat) (τ : Mem), v + m = 1000 → MS σs τs N τ → LX8_wants_28 x n v τ (fun r τ' => r = srch (fun v => GE σs N K v x - n) 0 m v ∧ KM τs τ') := by
        intro m
        induction m with
        | zero => intro v τ hv hM; exact X8_wants_28 ⟨fun _ => ⟨rfl, hM.1⟩, fun z => by omega⟩
        | succ m ih =>
          intro v τ hv hM
          refine X8_wants_28 ⟨fun z => by omega, fun _ => ?_⟩
          rw [msKind hE hM]
          refine msGives_s hE hM (v := v) (by omega) rfl hE.2.1.1 (fun τ2 _ hM2 hg => ⟨hx.1, by omega, ?_⟩)
          rw [hg x hx.1 hx.2]
          refine ⟨fun z => ⟨⟨by omega, by omega⟩, ?_⟩, fun z => ⟨?_, hM2.1⟩⟩
          · rw [srch_n (by omega)]
            have := ih (v + 1) τ2 (by omega) hM2
            simpa using this
          · rw [srch_y (by omega), if_pos rfl]
      exact TI_of h (F := srch (fun v => GE σs N K v x - n) 0 1000 0) (X7_wants_E (has_s isE_1 hE.2.2.1.1 (gF (fun _ => isHerd_s (gT (fun _ => pgOf_s hE (v := 0) (by omega) rfl (fun σ' hK hP => ⟨rfl, kC _ 0 σ' (by omega) hK hP⟩)) (fun z => absurd hn z))) (fun z => absurd hx z)))) (X8_wants_E (isHeir_s hE.2.2.1.2.1 h5 (gF (fun _ => in_s (gT (fun _ => msStart_s hE (fun τ1 hM => kM _ 0 τ1 (by omega) hM)) (fun z => absurd hn z))) (fun z => absurd hx z))))
    · exact TI_of h (F := -1) (X7_wants_E (has_s isE_1 hE.2.2.1.1 (gF (fun _ => isHerd_s (gT (fun z => absurd z hn) (fun _ => ⟨rfl, KC.rf⟩))) (fun z => absurd hx z)))) (X8_wants_E (isHeir_s hE.2.2.1.2.1 h5 (gF (fun _ => in_s (gT (fun z => absurd z hn) (fun _ => ⟨rfl, KM.rf⟩))) (fun z => absurd hx z))))
  · exact TI_of h (F := -1) (X7_wants_E (has_s isE_1 hE.2.2.1.1 (gF (fun z => absurd z hx) (fun _ => ⟨rfl, KC.rf⟩)))) (X8_wants_E (isHeir_s hE.2.2.1.2.1 h5 (gF (fun z => absurd z hx) (fun _ => ⟨rfl, KM.rf⟩))))
/-! unlike -/
abbrev likeB (σs : Mem) (N : Nat) (k l : Int) (v : Nat) : Bool := allF (fun i => decide (GE σs N k v i = GE σs N l v i)) N
theorem T_unlike (h : Rel σs τs) (x y : Int) : TI MX7_unlike MX8_unlike [vI x, vI y] σs τs := by
  obtain ⟨V, N, S, K, hE⟩ := h.1
  have hok := hE.2.2.1.2.2.1
  have h5 := hok.1
  by_cases hx : 0 ≤ x ∧ x ≤ 3
  · by_cases hy : 0 ≤ y ∧ y ≤ 3
    · by_cases hxy : x = y
      · exact TI_of h (F := -1) (X7_unlike_E (isKind_s (gF (fun _ => isKind_s (gF (fun _ => ⟨fun z => absurd hxy z, fun _ => ⟨rfl, KC.rf⟩⟩) (fun z => absurd hy z))) (fun z => absurd hx z)))) (X8_unlike_E (misKind_s (gF (fun _ => misKind_s (gF (fun _ => ⟨fun z => absurd hxy z, fun _ => ⟨rfl, KM.rf⟩⟩) (fun z => absurd hy z))) (fun z => absurd hx z))))
      · have kC : ∀ (m v : Nat) (σ : Mem), v + m = 201 → KC σs σ → PG σs 26 N x v σ → PG σs 31 N y v σ → LX7_unlike_63 v σ (fun r σ' => r = srch (fun v => if likeB σs N x y v then -1 else 0) 0 m v ∧ KC σs σ') := by
          intro m
          induction m with
          | zero => intro v σ hv hK _ _; exact X7_unlike_63 ⟨fun _ => ⟨rfl, hK⟩, fun z => by omega⟩
          | succ m ih =>
            intro v σ hv hK hP hR
            refine X7_unlike_63 ⟨fun z => by omega, fun _ => givesAs_s isPt_26 isPt_31 h5 hP.1.1 hR.1.1 ?_⟩
            have e : allF (fun i => decide (σ (26 + 3) i = σ (31 + 3) i)) N = likeB σs N x y v := allF_congr (fun i a b => by rw [hP.2.2.2 i a b, hR.2.2.2 i a b])
            rw [e]
            refine gT (fun z => pgGrow_s hE isPt_26 hx (by omega) hP (fun σ2 hF hP2 _ => pgGrow_s hE isPt_31 hy (by omega) (hR.keep (fun q a b => hF q (by omega))) (fun σ3 hF3 hR3 _ => ⟨⟨by omega, by omega⟩, ?_⟩))) (fun z => ⟨?_, hK⟩)
            · rw [srch_n (by show (if likeB σs N x y v then (-1 : Int) else 0) < 0; rw [if_pos z]; decide)]
              have := ih (v + 1) σ3 (by omega) ((hK.trans hF.kc).trans hF3.kc31) (hP2.keep (fun q a b => hF3 q (by omega))) hR3
              simpa using this
            · rw [srch_y (by show 0 ≤ (if likeB σs N x y v then (-1 : Int) else 0); rw [if_neg z]; decide), if_pos rfl]
        have kM : ∀ (m v : Nat) (τ : Mem), v + m = 201 → MS σs τs N τ → LX8_unlike_27 x y v τ (fun r τ' => r = srch (fun v => if likeB σs N x y v then -1 else 0) 0 m v ∧ KM τs τ') := by
          intro m
          induction m with
          | zero => intro v τ hv hM; exact X8_unlike_27 ⟨fun _ => ⟨rfl, hM.1⟩, fun z => by omega⟩
          | succ m ih =>
            intro v τ hv hM
            refine X8_unlike_27 ⟨fun z => by omega, fun _ => msGives_s hE hM (v := v) (by omega) rfl hx (fun τ1 _ hM1 hg1 => remembers_s (fun τ2 r1 r2 => msGives_s hE (hM1.up11 r1) (v := v) (by omega) rfl hy (fun τ3 hG3 hM3 hg3 => ?_)))⟩
            have e11 : ∀ i : Int, 0 ≤ i → i < N → τ3 11 i = GE σs N x v i := fun i a b => by rw [hG3 11 (by decide) (by decide), r2 i a (by omega)]; exact hg1 i a b
            have inn : ∀ (mm k : Nat), k + mm = N → LX8_unlike_56 x y v (if allF (fun i => decide (GE σs N x v i = GE σs N y v i)) k then 0 else 1) k τ3 (fun r τ' => r = srch (fun v => if likeB σs N x y v then -1 else 0) 0 (m + 1) v ∧ KM τs τ') := by
              intro mm
              induction mm with
              | zero =>
                intro k hk
                have hkN : k = N := by omega
                subst hkN
                refine X8_unlike_56 ⟨fun _ => ?_, fun z => by rw [msMany hM3] at z; omega⟩
                refine ⟨fun z => ⟨⟨by omega, by omega⟩, ?_⟩, fun z => ⟨?_, hM3.1⟩⟩
                · have z' : likeB σs k x y v = true := by
                    cases e : likeB σs k x y v with
                    | true => rfl
                    | false => rw [show allF (fun i => decide (GE σs k x v i = GE σs k y v i)) k = false from e] at z; exact absurd z (by decide)
                  rw [srch_n (by show (if likeB σs k x y v then (-1 : Int) else 0) < 0; rw [z']; decide)]
                  have := ih (v + 1) τ3 (by omega) hM3
                  simpa using this
                · have z' : likeB σs k x y v = false := by
                    cases e : likeB σs k x y v with
                    | false => rfl
                    | true => rw [show allF (fun i => decide (GE σs k x v i = GE σs k y v i)) k = true from e] at z; exact absurd rfl z
                  rw [srch_y (by show 0 ≤ (if likeB σs k x y v then (-1 : Int) else 0); rw [z']; decide), if_pos rfl]
              | succ mm ih2 =>
                intro k hk
                have nx : ∀ b : Int, b = (if allF (fun i => decide (GE σs N x v i = GE σs N y v i)) (k + 1) then 0 else 1) → I32 ((k : Int) + 1) ∧ LX8_unlike_56 x y v b ((k : Int) + 1) τ3 (fun r τ' => r = srch (fun v => if likeB σs N x y v then -1 else 0) 0 (m + 1) v ∧ KM τs τ') := by
                  intro b hb
                  refine ⟨⟨by omega, by omega⟩, ?_⟩
                  have := ih2 (k + 1) (by omega)
                  rw [← hb] at this
                  simpa using this
                refine X8_unlike_56 ⟨fun z => by rw [msMany hM3] at z; omega, fun _ => ?_⟩
                rw [e11 k (by omega) (by omega), hg3 k (by omega) (by omega)]
                cases e : allF (fun i => decide (GE σs N x v i = GE σs N y v i)) k with
                | false => exact ⟨fun _ => nx 1 (by unfold allF; rw [e]; rfl), fun z => absurd z (by decide)⟩
                | true =>
                  refine ⟨fun z => absurd rfl z, fun _ => ⟨by omega, by omega, by omega, by omega, fun z => nx 0 (by unfold allF; rw [e, decide_eq_true z.symm]; rfl), fun z => nx 1 (by unfold allF; rw [e, decide_eq_false (fun y => z y.symm)]; rfl)⟩⟩
            exact inn N 0 (by omega)
        refine TI_of h (F := srch (fun v => if likeB σs N x y v then -1 else 0) 0 201 0) (X7_unlike_E (isKind_s (gF (fun _ => isKind_s (gF (fun _ => ⟨fun _ => load1_s hE (fun σ1 hF hL => pgPart_s hE isPt_26 hL hx (v := 0) (by omega) rfl (fun σ2 hF2 hP => ?_)), fun z => absurd z hxy⟩) (fun z => absurd hy z))) (fun z => absurd hx z)))) (X8_unlike_E (misKind_s (gF (fun _ => misKind_s (gF (fun _ => ⟨fun _ => msStart_s hE (fun τ1 hM => kM 201 0 τ1 rfl hM), fun z => absurd z hxy⟩) (fun z => absurd hy z))) (fun z => absurd hx z))))
        have hF' : Fr 26 σs σ2 := hF.trans hF2
        have e2 := hF' 2 (by omega)
        have e3 := hF' 3 (by omega)
        refine load_s isPt_31 isE_1 (by omega) (N := N) (by rw [hF' 1 (by omega)]; exact hE.2.2.1.1) (by rw [e2, e3]; exact hok) (fun σ3 hF3 hL3 => ?_)
        rw [e2, e3] at hL3
        refine pgPart_s hE isPt_31 hL3 hy (v := 0) (by omega) rfl (fun σ4 hF4 hR => ?_)
        exact kC 201 0 σ4 rfl ((hF'.kc.trans hF3.kc31).trans hF4.kc31) ((hP.keep (fun q a b => hF3 q (by omega))).keep (fun q a b => hF4 q (by omega))) hR
    · exact TI_of h (F := -1) (X7_unlike_E (isKind_s (gF (fun _ => isKind_s (gF (fun z => absurd z hy) (fun _ => ⟨rfl, KC.rf⟩))) (fun z => absurd hx z)))) (X8_unlike_E (misKind_s (gF (fun _ => misKind_s (gF (fun z => absurd z hy) (fun _ => ⟨rfl, KM.rf⟩))) (fun z => absurd hx z))))
  · exact TI_of h (F := -1) (X7_unlike_E (isKind_s (gF (fun z => absurd z hx) (fun _ => ⟨rfl, KC.rf⟩)))) (X8_unlike_E (misKind_s (gF (fun z => absurd z hx) (fun _ => ⟨rfl, KM.rf⟩))))
/-! judges -/
def judF (b : Nat → Bool) : Nat → Nat → Int → Int
  | 0, _, x => x
  | m + 1, k, x => judF b m (k + 1) (if b k then bOr x (bShl 1 k) else x)
theorem bits4 : ∀ x : Fin 16, ∀ k : Fin 4, bOr ((x : Nat) : Int) (bShl 0 ((k : Nat) : Int)) = ((x : Nat) : Int) ∧ 0 ≤ bOr ((x : Nat) : Int) (bShl 1 ((k : Nat) : Int)) ∧ bOr ((x : Nat) : Int) (bShl 1 ((k : Nat) : Int)) < 16 := by decide +kernel
theorem bits {x : Int} (h0 : 0 ≤ x) (h1 : x < 16) {k : Nat} (hk : k < 4) : bOr x (bShl 0 k) = x ∧ 0 ≤ bOr x (bShl 1 k) ∧ bOr x (bShl 1 k) < 16 := by
  have := bits4 ⟨x.toNat, by omega⟩ ⟨k, hk⟩
  rw [show ((x.toNat : Nat) : Int) = x by omega] at this
  exact this
theorem T_judges (h : Rel σs τs) : TI MX7_judges MX8_judges [] σs τs := by
  obtain ⟨V, N, S, K, hE⟩ := h.1
  have hV := hE.1.1
  have kC : ∀ (m k : Nat) (x : Int) (σ : Mem), k + m = 4 → KC σs σ → PL σ 26 N (wtD (σs 2) (σs 3) N) (cmD (σs 3) N) (alD (σs 2) (σs 3) N) → LX7_judges_15 x k σ (fun r σ' => r = judF (fun k => soB σs N S (GE σs N k V)) m k x ∧ KC σs σ') := by
    intro m
    induction m with
    | zero => intro k x σ hk hK _; exact X7_judges_15 ⟨fun _ => ⟨rfl, hK⟩, fun z => by omega⟩
    | succ m ih =>
      intro k x σ hk hK hL
      refine X7_judges_15 ⟨fun z => by omega, fun _ => pgPart_s hE isPt_26 hL (kind := k) ⟨by omega, by omega⟩ (v := V) (by omega) (by rw [hK.1 1 (by omega)]; exact hE.1.2.1) (fun σ2 hF2 hP => asSeen_s hE isPt_26 (hK.trans hF2.kc) hP.1.1 hP.2.2.2 ?_)⟩
      refine gF (fun z => ⟨⟨by omega, by omega⟩, ?_⟩) (fun z => ⟨⟨by omega, by omega⟩, ?_⟩)
      · have := ih (k + 1) (bOr x (bShl 1 k)) σ2 (by omega) (hK.trans hF2.kc) hP.1
        rw [judF, if_pos z]
        simpa using this
      · have := ih (k + 1) x σ2 (by omega) (hK.trans hF2.kc) hP.1
        rw [judF, if_neg z]
        simpa using this
  have kM : ∀ (m k : Nat) (x : Int) (τ : Mem), k + m = 4 → 0 ≤ x → x < 16 → MS σs τs N τ → LX8_judges_8 x k τ (fun r τ' => r = judF (fun k => soB σs N S (GE σs N k V)) m k x ∧ KM τs τ') := by
    intro m
    induction m with
    | zero => intro k x τ hk _ _ hM; exact X8_judges_8 ⟨fun _ => ⟨rfl, hM.1⟩, fun z => by omega⟩
    | succ m ih =>
      intro k x τ hk x0 x1 hM
      obtain ⟨b1, b2, b3⟩ := bits x0 x1 (k := k) (by omega)
      refine X8_judges_8 ⟨fun z => by omega, fun _ => msGives_s hE hM (v := V) (by omega) (by rw [hM.2.1 0 (by decide) (by decide)]; exact hE.1.2.2) (kind := k) ⟨by omega, by omega⟩ (fun τ2 _ hM2 hg => msSo_s hE hM2.1 (msMany hM2) hg (flag_s ⟨⟨by omega, by omega⟩, ?_⟩))⟩
      cases e : soB σs N S (GE σs N k V) with
      | true =>
        have := ih (k + 1) (bOr x (bShl 1 k)) τ2 (by omega) b2 b3 hM2
        rw [judF, if_pos e]
        simpa using this
      | false =>
        have := ih (k + 1) x τ2 (by omega) x0 x1 hM2
        rw [judF, if_neg (show ¬ soB σs N S (GE σs N (k : Int) V) = true by rw [e]; decide)]
        rw [show (if (if (false : Bool) = true then (1 : Int) else 0) = 0 then (0 : Int) else 1) = 0 from rfl, b1]
        simpa using this
  exact TI_of h (F := judF (fun k => soB σs N S (GE σs N k V)) 4 0 0) (X7_judges_E (load1_s hE (fun σ' hF hL => kC 4 0 0 σ' rfl hF.kc hL))) (X8_judges_E (msStart_s hE (fun τ1 hM => kM 4 0 0 τ1 rfl (by decide) (by decide) hM)))
end SRCH
