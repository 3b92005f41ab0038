/-! ===== heirs that come, change and die ===== -/
theorem rE.heirs {σ σ' : Mem} {e : Nat} {f f' : Int → Int} {V N S N' : Nat} {K : Int} (h : rE σ e f V N S K) (h34 : σ' (e + 3) = σ (e + 3) ∧ σ' (e + 4) = σ (e + 4)) (h0 : ∀ j : Int, j = 0 ∨ j = 1 ∨ j = 3 → σ' e j = σ e j) (hf : ∀ j : Int, j = 0 ∨ j = 2 ∨ (13 ≤ j ∧ j < 26) → f' j = f j) (hN : σ' e 2 = N' ∧ f' 1 = N') (hok : okP N' (σ' (e + 1)) (σ' (e + 2))) (hi : ∀ i : Int, 0 ≤ i → i < N' → f' (3 + 2 * i) = σ' (e + 1) i ∧ f' (3 + 2 * i + 1) = σ' (e + 2) i) : rE σ' e f' V N' S K := by
  obtain ⟨⟨a1, a2, a3⟩, ⟨b1, b2, b3⟩, _, d1, d2, d3, d4⟩ := h
  refine ⟨⟨a1, by rw [h0 0 (by omega)]; exact a2, by rw [hf 0 (by omega)]; exact a3⟩, ⟨b1, by rw [h0 1 (by omega)]; exact b2, by rw [hf 2 (by omega)]; exact b3⟩, ⟨hN.1, hN.2, hok, hi⟩, d1, by rw [h0 3 (by omega)]; exact d2, by rw [hf 13 (by omega)]; exact d3, fun k x y => ?_⟩
  rw [hf _ (by omega), hf _ (by omega), h34.1, h34.2]; exact d4 k x y
theorem add_s {b N : Nat} {σ : Mem} (hb : isE b) (hN : σ b 2 = N) (h5 : N ≤ 5) {x y : Int} {Q : Int → Mem → Prop} (hbad : ¬ ((1 ≤ x ∧ x ≤ 9) ∧ 1 ≤ y ∧ y ≤ 99) → Q (-1) σ) (hfull : (1 ≤ x ∧ x ≤ 9) ∧ (1 ≤ y ∧ y ≤ 99) → N = 5 → Q (-3) σ)
    (hadd : (1 ≤ x ∧ x ≤ 9) → (1 ≤ y ∧ y ≤ 99) → N < 5 → Q ((N : Int) + 1) (upM (upM (upM σ (b + 1) N x) (b + 2) N y) b 2 ((N : Int) + 1))) : CI layC MX0_add [vP b, vI x, vI y] σ Q := by
  refine X0_add_E hb (within_s (gF (fun hx => within_s (gT (fun hy => ⟨fun hl => ?_, fun hl => ?_⟩) (fun hy => hbad (fun z => hy z.2)))) (fun hx => hbad (fun z => hx z.1))))
  · rw [hN] at hl ⊢
    have e1 : upM σ (b + 1) N x b = σ b := upM_q (by omega)
    rw [e1, hN]
    have e2 : upM (upM σ (b + 1) N x) (b + 2) N y b = σ b := by rw [upM_q (by omega), e1]
    rw [e2, hN, upM_s]
    exact ⟨by omega, by omega, by omega, by omega, ⟨by omega, by omega⟩, hadd hx hy (by omega)⟩
  · rw [hN] at hl
    exact hfull ⟨hx, hy⟩ (by omega)
theorem bear_s {N : Nat} {τ : Mem} (hN : τ 1 1 = N) (h5 : N ≤ 5) {x y : Int} {Q : Int → Mem → Prop} (hbad : ¬ ((1 ≤ x ∧ x ≤ 9) ∧ 1 ≤ y ∧ y ≤ 99) → Q (-1) τ) (hfull : (1 ≤ x ∧ x ≤ 9) ∧ (1 ≤ y ∧ y ≤ 99) → N = 5 → Q (-3) τ)
    (hadd : (1 ≤ x ∧ x ≤ 9) → (1 ≤ y ∧ y ≤ 99) → N < 5 → Q ((N : Int) + 1) (upM (upM (upM τ 1 (3 + 2 * N) x) 1 (3 + 2 * N + 1) y) 1 1 ((N : Int) + 1))) : CI layM MX8_bear [vP 0, vI x, vI y] τ Q := by
  refine X8_bear_E (in_s (gF (fun hx => in_s (gT (fun hy => ⟨fun hl => ?_, fun hl => ?_⟩) (fun hy => hbad (fun z => hy z.2)))) (fun hx => hbad (fun z => hx z.1))))
  · rw [hN] at hl ⊢
    have e1 : upM τ 1 (3 + 2 * (N : Int)) x 1 1 = N := by rw [upM_j (by omega)]; exact hN
    rw [e1]
    have e2 : upM (upM τ 1 (3 + 2 * (N : Int)) x) 1 (3 + 2 * (N : Int) + 1) y 1 1 = N := by rw [upM_j (by omega), e1]
    rw [e2, upM_s]
    exact ⟨⟨by omega, by omega⟩, ⟨by omega, by omega⟩, by omega, by omega, ⟨by omega, by omega⟩, ⟨by omega, by omega⟩, ⟨by omega, by omega⟩, by omega, by omega, ⟨by omega, by omega⟩, hadd hx hy (by omega)⟩
  · rw [hN] at hl
    exact hfull ⟨hx, hy⟩ (by omega)
/-- an heir more on both sides -/
theorem rE.more {σ : Mem} {e : Nat} {f : Int → Int} {V N S : Nat} {K x y : Int} {f' : Int → Int} (h : rE σ e f V N S K) (hx : 1 ≤ x ∧ x ≤ 9) (hy : 1 ≤ y ∧ y ≤ 99) (hN : N < 5) (hf : ∀ j : Int, j ≠ 1 → j ≠ 3 + 2 * N → j ≠ 3 + 2 * N + 1 → f' j = f j) (h1 : f' 1 = (N : Int) + 1) (h2 : f' (3 + 2 * N) = x) (h3 : f' (3 + 2 * N + 1) = y) : rE (upM (upM (upM σ (e + 1) N x) (e + 2) N y) e 2 ((N : Int) + 1)) e f' V (N + 1) S K := by
  have c3 := h.2.2.1.2.2.1
  have c4 := h.2.2.1.2.2.2
  have e1 : upM (upM (upM σ (e + 1) N x) (e + 2) N y) e 2 ((N : Int) + 1) (e + 1) = upM σ (e + 1) N x (e + 1) := by rw [upM_q (by omega), upM_q (by omega)]
  have e2 : upM (upM (upM σ (e + 1) N x) (e + 2) N y) e 2 ((N : Int) + 1) (e + 2) = upM σ (e + 2) N y (e + 2) := by
    rw [upM_q (by omega)]; funext j
    by_cases hj : j = N
    · rw [hj, upM_s, upM_s]
    · rw [upM_j hj, upM_j hj, upM_q (by omega)]
  refine h.heirs ⟨by rw [upM_q (by omega), upM_q (by omega), upM_q (by omega)], by rw [upM_q (by omega), upM_q (by omega), upM_q (by omega)]⟩ (fun j hj => by rw [upM_j (by omega), upM_q (by omega), upM_q (by omega)]) (fun j hj => hf j (by omega) (by omega) (by omega)) ⟨by rw [upM_s]; rfl, by rw [h1]; rfl⟩ ⟨by omega, fun i a b => ?_⟩ (fun i a b => ?_)
  · rw [e1, e2]
    by_cases hi : i = N
    · rw [hi, upM_s, upM_s]; exact ⟨hx, hy⟩
    · rw [upM_j hi, upM_j hi]; exact c3.2 i a (by omega)
  · rw [e1, e2]
    by_cases hi : i = N
    · rw [hi, upM_s, upM_s]; exact ⟨h2, h3⟩
    · rw [upM_j hi, upM_j hi, hf _ (by omega) (by omega) (by omega), hf _ (by omega) (by omega) (by omega)]; exact c4 i a (by omega)
section HEIRS
variable {σ τ : Mem}
theorem T_bear (h : Rel σ τ) (x y : Int) : TI MX7_bear MX8_bear [vI x, vI y] σ τ := by
  obtain ⟨V, N, S, K, hE⟩ := h.1
  have h5 := hE.2.2.1.2.2.1.1
  refine X7_bear_E (add_s isE_1 hE.2.2.1.1 h5 (fun hb => ?_) (fun hb hf => ?_) (fun hx hy hl => ?_))
  · exact bear_s hE.2.2.1.2.1 h5 (fun _ => ⟨rfl, h⟩) (fun z _ => absurd z hb) (fun a b _ => absurd ⟨a, b⟩ hb)
  · exact bear_s hE.2.2.1.2.1 h5 (fun z => absurd hb z) (fun _ _ => ⟨rfl, h⟩) (fun a b z => by omega)
  · refine bear_s hE.2.2.1.2.1 h5 (fun z => absurd ⟨hx, hy⟩ z) (fun _ z => by omega) (fun _ _ _ => ⟨rfl, ?_⟩)
    refine h.est (((KCx.up (by omega)).trans (KCx.up (by omega))).trans (KCx.up (by omega))) (((KMx.up (by omega)).trans (KMx.up (by omega))).trans (KMx.up (by decide))) ⟨V, N + 1, S, K, ?_⟩
    exact hE.more hx hy hl (fun j a b c => by rw [upM_j a, upM_j c, upM_j b]) upM_s (by rw [upM_j (by omega), upM_j (by omega), upM_s]) (by rw [upM_j (by omega), upM_s])
theorem T_alter (h : Rel σ τ) (x y v : Int) : TI MX7_alter MX8_alter [vI x, vI y, vI v] σ τ := by
  obtain ⟨V, N, S, K, hE⟩ := h.1
  have h5 := hE.2.2.1.2.2.1.1
  have c3 := hE.2.2.1.2.2.1
  have c4 := hE.2.2.1.2.2.2
  refine X7_alter_E (has_s isE_1 hE.2.2.1.1 (gT (fun hx => ?_) (fun hx => ?_)))
  · -- what is asked of the other kinds of y
    have hno : ∀ {Q : Int → Mem → Prop}, ¬ (0 ≤ y ∧ y ≤ 1) → Q (-1) τ → CI layM MX8_alter [vP 0, vI x, vI y, vI v] τ Q := fun hy hq => X8_alter_E (isHeir_s hE.2.2.1.2.1 h5 (gF (fun _ => isPart_s (gF (fun z => absurd z hy) (fun _ => hq))) (fun z => absurd hx z)))
    refine ⟨fun h0 => X7_alter_54 ⟨fun h1 => hno (by omega) ⟨rfl, h⟩, fun h1 => within_s (gF (fun hv => ?_) (fun hv => ?_))⟩, fun h0 => within_s (gF (fun hv => ?_) (fun hv => ?_))⟩
    · subst h1
      refine ⟨hx.1, by omega, hx.1, by omega, X8_alter_E (isHeir_s hE.2.2.1.2.1 h5 (gF (fun _ => isPart_s (gF (fun _ => ⟨fun _ => in_s (gF (fun _ => ⟨⟨by omega, by omega⟩, ⟨by omega, by omega⟩, ⟨by omega, by omega⟩, X8_becomes_E ⟨by omega, by omega, by omega, by omega, (c4 x hx.1 hx.2).2.symm, ?_⟩⟩) (fun z => absurd hv z)), fun z => absurd z (by decide)⟩) (fun z => absurd ⟨by decide, by decide⟩ z))) (fun z => absurd hx z)))⟩
      refine h.est (KCx.up (by omega)) (KMx.up (by omega)) ⟨V, N, S, K, ?_⟩
      refine hE.heirs ⟨upM_q (by decide), upM_q (by decide)⟩ (fun j hj => by rw [upM_q (by decide)]) (fun j hj => upM_j (by omega)) ⟨by rw [upM_q (by decide)]; exact hE.2.2.1.1, by rw [upM_j (by omega)]; exact hE.2.2.1.2.1⟩ ⟨h5, fun i a b => ?_⟩ (fun i a b => ?_)
      · rw [upM_q (show 1 + 1 ≠ 3 by decide)]
        by_cases hi : i = x
        · subst hi; show _ ∧ 1 ≤ upM σ 3 i v 3 i ∧ upM σ 3 i v 3 i ≤ 99; rw [upM_s]; exact ⟨(c3.2 i a b).1, hv⟩
        · show _ ∧ 1 ≤ upM σ 3 x v 3 i ∧ upM σ 3 x v 3 i ≤ 99; rw [upM_j hi]; exact c3.2 i a b
      · rw [upM_q (show 1 + 1 ≠ 3 by decide), upM_j (by omega)]
        by_cases hi : i = x
        · subst hi; show _ ∧ _ = upM σ 3 i v 3 i; rw [upM_s, upM_s]; exact ⟨(c4 i a b).1, rfl⟩
        · show _ ∧ _ = upM σ 3 x v 3 i; rw [upM_j hi, upM_j (by omega)]; exact c4 i a b
    · subst h1
      exact X8_alter_E (isHeir_s hE.2.2.1.2.1 h5 (gF (fun _ => isPart_s (gF (fun _ => ⟨fun _ => in_s (gF (fun z => absurd z hv) (fun _ => ⟨rfl, h⟩)), fun z => absurd z (by decide)⟩) (fun z => absurd ⟨by decide, by decide⟩ z))) (fun z => absurd hx z)))
    · subst h0
      refine ⟨hx.1, by omega, hx.1, by omega, X8_alter_E (isHeir_s hE.2.2.1.2.1 h5 (gF (fun _ => isPart_s (gF (fun _ => ⟨fun z => absurd rfl z, fun _ => in_s (gF (fun _ => ⟨⟨by omega, by omega⟩, ⟨by omega, by omega⟩, ⟨by omega, by omega⟩, ?_⟩) (fun z => absurd hv z))⟩) (fun z => absurd ⟨by decide, by decide⟩ z))) (fun z => absurd hx z)))⟩
      rw [Int.add_zero]
      refine X8_becomes_E ⟨by omega, by omega, by omega, by omega, (c4 x hx.1 hx.2).1.symm, ?_⟩
      refine h.est (KCx.up (by omega)) (KMx.up (by omega)) ⟨V, N, S, K, ?_⟩
      refine hE.heirs ⟨upM_q (by decide), upM_q (by decide)⟩ (fun j hj => by rw [upM_q (by decide)]) (fun j hj => upM_j (by omega)) ⟨by rw [upM_q (by decide)]; exact hE.2.2.1.1, by rw [upM_j (by omega)]; exact hE.2.2.1.2.1⟩ ⟨h5, fun i a b => ?_⟩ (fun i a b => ?_)
      · rw [upM_q (show 1 + 2 ≠ 2 by decide)]
        by_cases hi : i = x
        · subst hi; show (1 ≤ upM σ 2 i v 2 i ∧ upM σ 2 i v 2 i ≤ 9) ∧ _; rw [upM_s]; exact ⟨hv, (c3.2 i a b).2⟩
        · show (1 ≤ upM σ 2 x v 2 i ∧ upM σ 2 x v 2 i ≤ 9) ∧ _; rw [upM_j hi]; exact c3.2 i a b
      · rw [upM_q (show 1 + 2 ≠ 2 by decide), upM_j (show 3 + 2 * i + 1 ≠ 3 + 2 * x by omega)]
        by_cases hi : i = x
        · subst hi; show _ = upM σ 2 i v 2 i ∧ _; rw [upM_s, upM_s]; exact ⟨rfl, (c4 i a b).2⟩
        · show _ = upM σ 2 x v 2 i ∧ _; rw [upM_j hi, upM_j (by omega)]; exact c4 i a b
    · subst h0
      refine X7_alter_54 ⟨fun _ => ?_, fun z => absurd z (by decide)⟩
      exact X8_alter_E (isHeir_s hE.2.2.1.2.1 h5 (gF (fun _ => isPart_s (gF (fun _ => ⟨fun z => absurd rfl z, fun _ => in_s (gF (fun z => absurd z hv) (fun _ => ⟨rfl, h⟩))⟩) (fun z => absurd ⟨by decide, by decide⟩ z))) (fun z => absurd hx z)))
  · exact X8_alter_E (isHeir_s hE.2.2.1.2.1 h5 (gF (fun z => absurd z hx) (fun _ => ⟨rfl, h⟩)))
end HEIRS
/-- without the heir x -/
def cutF (f : Int → Int) (x : Int) : Int → Int := fun i => if i < x then f i else f (i + 1)
theorem okP_cut {N : Nat} {u d : Int → Int} {x : Int} (h : okP N u d) (h0 : 0 ≤ x) (h1 : x < N) : okP (N - 1) (cutF u x) (cutF d x) := by
  refine ⟨by have := h.1; omega, fun i a b => ?_⟩
  unfold cutF
  split
  · exact h.2 i a (by omega)
  · exact h.2 (i + 1) (by omega) (by omega)
theorem remove_s {b N : Nat} {σ : Mem} (hb : isE b) (hN : σ b 2 = N) (h5 : N ≤ 5) {x : Int} (h0 : 0 ≤ x) (h1 : x < N) {Q : Mem → Prop} (hQ : ∀ σ', (∀ q, q ≠ b → q ≠ b + 1 → q ≠ b + 2 → σ' q = σ q) → (∀ j : Int, j ≠ 2 → σ' b j = σ b j) → σ' b 2 = ((N - 1 : Nat) : Int) → (∀ i : Int, 0 ≤ i → i < N - 1 → σ' (b + 1) i = cutF (σ (b + 1)) x i ∧ σ' (b + 2) i = cutF (σ (b + 2)) x i) → Q σ') : CV layC MX0_remove [vP b, vI x] σ Q := by
  have key : ∀ (m : Nat) (k : Int) (σ1 : Mem), x ≤ k → k + m = N - 1 → (∀ q, q ≠ b + 1 → q ≠ b + 2 → σ1 q = σ q) → (∀ i : Int, 0 ≤ i → i < k → σ1 (b + 1) i = cutF (σ (b + 1)) x i ∧ σ1 (b + 2) i = cutF (σ (b + 2)) x i) → (∀ i : Int, k ≤ i → σ1 (b + 1) i = σ (b + 1) i ∧ σ1 (b + 2) i = σ (b + 2) i) → LX0_remove_11 b k σ1 Q := by
    intro m
    induction m with
    | zero =>
      intro k σ1 hk hm hF hc ho
      have e : σ1 b 2 = N := by rw [hF b (by omega) (by omega)]; exact hN
      refine X0_remove_11 hb ?_
      rw [e]
      refine ⟨⟨by omega, by omega⟩, fun _ => ⟨⟨by omega, by omega⟩, ?_⟩, fun h => by omega⟩
      refine hQ _ (fun q a b' c => by rw [upM_q a]; exact hF q b' c) (fun j hj => by rw [upM_j hj, hF b (by omega) (by omega)]) (by rw [upM_s]; omega) (fun i a b' => ?_)
      rw [upM_q (by omega), upM_q (by omega)]
      exact hc i a (by omega)
    | succ m ih =>
      intro k σ1 hk hm hF hc ho
      have e : σ1 b 2 = N := by rw [hF b (by omega) (by omega)]; exact hN
      refine X0_remove_11 hb ?_
      rw [e]
      refine ⟨⟨by omega, by omega⟩, fun h => by omega, fun _ => ⟨⟨by omega, by omega⟩, by omega, by omega, by omega, by omega, ⟨by omega, by omega⟩, by omega, by omega, by omega, by omega, ⟨by omega, by omega⟩, ?_⟩⟩
      rw [upM_q (show b + 2 ≠ b + 1 by omega), (ho (k + 1) (by omega)).1, (ho (k + 1) (by omega)).2]
      refine ih (k + 1) _ (by omega) (by omega) (fun q a c => by rw [upM_q c, upM_q a]; exact hF q a c) (fun i a c => ?_) (fun i a => ?_)
      · rw [upM_q (show b + 1 ≠ b + 2 by omega)]
        by_cases hi : i = k
        · subst hi
          rw [upM_s, upM_s]
          unfold cutF
          rw [if_neg (by omega), if_neg (by omega)]
          exact ⟨rfl, rfl⟩
        · rw [upM_j hi, upM_j hi, upM_q (by omega)]; exact hc i a (by omega)
      · rw [upM_q (show b + 1 ≠ b + 2 by omega), upM_j (by omega), upM_j (by omega), upM_q (by omega)]
        exact ho i (by omega)
  refine X0_remove_E hb (has_s hb hN (gT (fun _ => ?_) (fun z => absurd ⟨h0, h1⟩ z)))
  refine key (N - 1 - x).toNat x σ (by omega) (by omega) (fun _ _ _ => rfl) (fun i a b' => ?_) (fun i a => ⟨rfl, rfl⟩)
  unfold cutF
  rw [if_pos b', if_pos b']
  exact ⟨rfl, rfl⟩
theorem drops_s {N : Nat} {u d : Int → Int} {τ : Mem} (hok : okP N u d) (hN : τ 2 1 = N) (hu : ∀ i : Int, 0 ≤ i → i < N → τ 2 (3 + 2 * i) = u i ∧ τ 2 (3 + 2 * i + 1) = d i) {x : Int} (h0 : 0 ≤ x) (h1 : x < N) {Q : Mem → Prop}
    (hQ : ∀ τ', (∀ q, q ≠ 0 → q ≠ 2 → q ≠ 6 → τ' q = τ q) → (∀ j : Int, j ≠ 15 → j ≠ 16 → τ' 0 j = τ 0 j) → (∀ j : Int, j ≠ 1 → j < 3 ∨ 13 ≤ j → τ' 2 j = τ 2 j) → ML τ' (N - 1) (cutF u x) (cutF d x) → Q τ') : CV layM MX8_dropsNow [vP 0, vI x] τ Q := by
  have h5 := hok.1
  have key : ∀ (m : Nat) (k : Int) (τ1 : Mem), 3 + 2 * x ≤ k → k + m = 3 + 2 * (N - 1) → (∀ q, q ≠ 2 → τ1 q = τ q) → τ1 2 1 = N - 1 → (∀ j : Int, j ≠ 1 → j < 3 + 2 * x ∨ k ≤ j → τ1 2 j = τ 2 j) → (∀ j : Int, 3 + 2 * x ≤ j → j < k → τ1 2 j = τ 2 (j + 2)) → LX8_dropsNow_16 k τ1 Q := by
    intro m
    induction m with
    | zero =>
      intro k τ1 hk hm hF hN1 ho hc
      refine X8_dropsNow_16 ?_
      rw [hN1]
      refine ⟨⟨by omega, by omega⟩, ⟨by omega, by omega⟩, fun _ => ?_, fun h => by omega⟩
      refine reckons_s (okP_cut hok h0 h1) (by rw [hN1]; omega) (fun i a b => ?_) (fun τ2 g1 g2 g3 => ?_)
      · unfold cutF
        by_cases hi : i < x
        · rw [if_pos hi, if_pos hi, ho _ (by omega) (by omega), ho _ (by omega) (by omega)]; exact hu i a (by omega)
        · rw [if_neg hi, if_neg hi, hc _ (by omega) (by omega), hc _ (by omega) (by omega)]
          have := hu (i + 1) (by omega) (by omega)
          rw [show 3 + 2 * (i + 1) = 3 + 2 * i + 2 by omega, show 3 + 2 * i + 2 + 1 = 3 + 2 * i + 1 + 2 by omega] at this
          exact this
      · refine hQ τ2 (fun q a b c => by rw [g1 q a c]; exact hF q b) (fun j a b => by rw [g2 j a b, hF 0 (by decide)]) (fun j a b => ?_) g3
        rw [g1 2 (by decide) (by decide)]
        exact ho j a (by omega)
    | succ m ih =>
      intro k τ1 hk hm hF hN1 ho hc
      refine X8_dropsNow_16 ?_
      rw [hN1]
      refine ⟨⟨by omega, by omega⟩, ⟨by omega, by omega⟩, fun h => by omega, fun _ => ⟨⟨by omega, by omega⟩, by omega, by omega, by omega, by omega, ⟨by omega, by omega⟩, ?_⟩⟩
      rw [ho (k + 2) (by omega) (by omega)]
      refine ih (k + 1) _ (by omega) (by omega) (fun q a => by rw [upM_q a]; exact hF q a) (by rw [upM_j (by omega)]; exact hN1) (fun j a b => by rw [upM_j (by omega)]; exact ho j a (by omega)) (fun j a b => ?_)
      by_cases hj : j = k
      · rw [hj, upM_s]
      · rw [upM_j hj]; exact hc j a (by omega)
  refine X8_dropsNow_E ?_
  rw [hN]
  refine ⟨⟨by omega, by omega⟩, ⟨by omega, by omega⟩, ⟨by omega, by omega⟩, ?_⟩
  refine key (2 * (N - 1 - x)).toNat _ _ (by omega) (by omega) (fun q a => upM_q a) upM_s (fun j a _ => upM_j a) (fun j a b => by omega)
theorem T_dies {σ τ : Mem} (h : Rel σ τ) (x : Int) : TI MX7_dies MX8_dies [vI x] σ τ := by
  obtain ⟨V, N, S, K, hE⟩ := h.1
  have h5 := hE.2.2.1.2.2.1.1
  have c3 := hE.2.2.1.2.2.1
  refine X7_dies_E (has_s isE_1 hE.2.2.1.1 (gT (fun hx => ?_) (fun hx => X8_dies_E (isHeir_s hE.2.2.1.2.1 h5 (gT (fun z => absurd z hx) (fun _ => ⟨rfl, h⟩))))))
  refine remove_s isE_1 hE.2.2.1.1 h5 hx.1 hx.2 (fun σ' f1 f2 f3 f4 => ?_)
  refine X8_dies_E (isHeir_s hE.2.2.1.2.1 h5 (gT (fun _ => starts1_s hE (fun τ1 hS1 hc1 hL1 => drops_s c3 hL1.1 hL1.2.1 hx.1 hx.2 (fun τ2 g1 g2 g3 g4 => ?_))) (fun z => absurd hx z)))
  have key : ∀ (m : Nat) (k : Nat) (τ3 : Mem), k + m = 26 → (∀ q, q ≠ 1 → τ3 q = τ2 q) → (∀ j : Int, 0 ≤ j → j < k → τ3 1 j = τ2 2 j) → (∀ j : Int, 26 ≤ j → τ3 1 j = τ2 1 j) → LX8_dies_21 k τ3 (fun r' τ' => σ' 1 2 = r' ∧ Rel σ' τ') := by
    intro m
    induction m with
    | zero =>
      intro k τ3 hk hF hc ho
      have e1 : τ3 1 1 = ((N - 1 : Nat) : Int) := by rw [hc 1 (by decide) (by omega)]; exact g4.1
      refine X8_dies_21 ⟨fun _ => ⟨by rw [f3, e1], ?_⟩, fun z => by omega⟩
      refine h.est ⟨fun q a => f1 q (by omega) (by omega) (by omega), by rw [f1 0 (by decide) (by decide) (by decide)], by rw [f1 36 (by decide) (by decide) (by decide)], by rw [f1 37 (by decide) (by decide) (by decide)]⟩ ⟨fun q a => ?_, fun j a b => ?_, ?_, ?_, ?_⟩ ⟨V, N - 1, S, K, ?_⟩
      · rw [hF q (by omega), g1 q (by omega) (by omega) (by omega)]; exact hS1.1 q (by omega) (by omega) (by omega) (by omega) (by omega)
      · rw [ho j a, g1 1 (by decide) (by decide) (by decide), hS1.1 1 (by decide) (by decide) (by decide) (by decide) (by decide)]
      · rw [hF 0 (by decide), g2 7 (by decide) (by decide)]; exact hS1.2 7 (by decide) (by decide)
      · rw [hF 0 (by decide), g2 12 (by decide) (by decide)]; exact hS1.2 12 (by decide) (by decide)
      · rw [hF 0 (by decide), g2 31 (by decide) (by decide)]; exact hS1.2 31 (by decide) (by decide)
      · refine hE.heirs ⟨f1 4 (by decide) (by decide) (by decide), f1 5 (by decide) (by decide) (by decide)⟩ (fun j hj => f2 j (by omega)) (fun j hj => ?_) ⟨f3, e1⟩ ?_ (fun i a b => ?_)
        · rw [hc j (by omega) (by omega), g3 j (by omega) (by omega)]; exact hc1 j (by omega) (by omega)
        · have := okP_cut c3 hx.1 hx.2
          refine ⟨this.1, fun i a b => ?_⟩
          have h4 := f4 i a (by omega)
          show (1 ≤ σ' 2 i ∧ σ' 2 i ≤ 9) ∧ 1 ≤ σ' 3 i ∧ σ' 3 i ≤ 99
          rw [show σ' 2 i = _ from h4.1, show σ' 3 i = _ from h4.2]
          exact this.2 i a b
        · have h4 := f4 i a (by omega)
          have h6 := g4.2.1 i a b
          rw [hc _ (by omega) (by omega), hc _ (by omega) (by omega), h6.1, h6.2]
          exact ⟨h4.1.symm, h4.2.symm⟩
    | succ m ih =>
      intro k τ3 hk hF hc ho
      refine X8_dies_21 ⟨fun z => by omega, fun _ => ⟨by omega, by omega, by omega, by omega, ⟨by omega, by omega⟩, ?_⟩⟩
      have := ih (k + 1) (upM τ3 1 k (τ3 2 k)) (by omega) (fun q a => by rw [upM_q a]; exact hF q a) (fun j a b => ?_) (fun j a => by rw [upM_j (by omega)]; exact ho j a)
      · simpa using this
      · by_cases hj : j = k
        · rw [hj, upM_s, hF 2 (by decide)]
        · rw [upM_j hj]; exact hc j a (by omega)
  exact key 26 0 τ2 (by omega) (fun _ _ => rfl) (fun j a b => by omega) (fun _ _ => rfl)
