/-! ===== sheets ===== -/
theorem isSheetC_s {x : Int} {σ : Mem} {Q : Int → Mem → Prop} (hQ : Q (if 0 ≤ x ∧ x ≤ 3 then 1 else 0) σ) : CI layC MX7_isSheet [vI x] σ Q :=
  X7_isSheet_E (within_s ⟨by split <;> omega, hQ⟩)
theorem isLane_s {x : Int} {σ : Mem} {Q : Int → Mem → Prop} (hQ : Q (if 0 ≤ x ∧ x ≤ 2 then 1 else 0) σ) : CI layC MX7_isLane [vI x] σ Q :=
  X7_isLane_E (within_s ⟨by split <;> omega, hQ⟩)
theorem isSheetM_s {x y : Int} {τ : Mem} {Q : Int → Mem → Prop} (hQ : Q (if (0 ≤ x ∧ x ≤ 3) ∧ 0 ≤ y ∧ y ≤ 2 then 1 else 0) τ) : CI layM MX8_isSheet [vI x, vI y] τ Q := by
  refine X8_isSheet_E (in_s (gF (fun hx => in_s (gF (fun hy => ?_) (fun hy => ?_))) (fun hx => ?_)))
  · rwa [if_pos ⟨hx, hy⟩] at hQ
  · rwa [if_neg (fun z => hy z.2)] at hQ
  · rwa [if_neg (fun z => hx z.1)] at hQ
theorem renew_s {b : Nat} {σ : Mem} (hb : isSh b) {l n : Int} {Q : Mem → Prop} (hn : n ≤ 40) (hQ : ∀ σ', (∀ q, q ≠ b → q ≠ b + 1 → σ' q = σ q) → σ' b 0 = n → σ' b 1 = l → (∀ i : Int, 0 ≤ i → i < 40 → σ' (b + 1) i = 0) → Q σ') : CV layC MX4_renew [vP b, vI l, vI n] σ Q := by
  have key : ∀ (m k : Nat) (σ1 : Mem), k + m = 40 → (∀ q, q ≠ b → q ≠ b + 1 → σ1 q = σ q) → σ1 b 0 = n → σ1 b 1 = l → (∀ i : Int, 0 ≤ i → i < k → σ1 (b + 1) i = 0) → LX4_renew_17 b k σ1 Q := by
    intro m
    induction m with
    | zero => intro k σ1 hk hF h0 h1 hc; exact X4_renew_17 hb ⟨fun _ => hQ σ1 hF h0 h1 (fun i a c => hc i a (by omega)), fun z => by omega⟩
    | succ m ih =>
      intro k σ1 hk hF h0 h1 hc
      refine X4_renew_17 hb ⟨fun z => by omega, fun _ => ⟨by omega, by omega, ⟨by omega, by omega⟩, ?_⟩⟩
      have := ih (k + 1) (upM σ1 (b + 1) k 0) (by omega) (fun q a c => by rw [upM_q c]; exact hF q a c) (by rw [upM_q (by omega)]; exact h0) (by rw [upM_q (by omega)]; exact h1) (fun i a c => ?_)
      · simpa using this
      · by_cases hi : i = k
        · rw [hi, upM_s]
        · rw [upM_j hi]; exact hc i a (by omega)
  refine X4_renew_E hb ?_
  rw [show min n 40 = n by omega]
  exact key 40 0 _ (by omega) (fun q a c => by rw [upM_q a, upM_q a]) upM_s (by rw [upM_j (by decide), upM_s]) (fun i a c => by omega)
theorem flawAt_s {b : Nat} {σ : Mem} (hb : isSh b) {x : Int} {Q : Int → Mem → Prop} (hQ : Q (if σ b 0 < 0 then 1 else if 0 ≤ x ∧ x < σ b 0 then 0 else 2) σ) : CI layC MX4_flawAt [vP b, vI x] σ Q := by
  refine X4_flawAt_E hb ⟨fun h0 => ⟨fun h1 => ?_, fun h1 => ⟨fun h2 => ?_, fun h2 => ?_⟩⟩, fun h0 => ?_⟩
  · rwa [if_neg (by omega), if_neg (by omega)] at hQ
  · rwa [if_neg (by omega), if_neg (by omega)] at hQ
  · rwa [if_neg (by omega), if_pos ⟨h1, h2⟩] at hQ
  · rwa [if_pos h0] at hQ
section SHEETS
variable {σ τ : Mem}
theorem relS_of (h : Rel σ τ) {k : Nat} (hk : k < 4) : relS σ τ k := by
  rcases (show k = 0 ∨ k = 1 ∨ k = 2 ∨ k = 3 by omega) with rfl | rfl | rfl | rfl
  · exact h.2.2.2.2.2.1
  · exact h.2.2.2.2.2.2.1
  · exact h.2.2.2.2.2.2.2.1
  · exact h.2.2.2.2.2.2.2.2
theorem isSh_of {k : Nat} (hk : k < 4) : isSh (47 + 2 * k) := by
  rcases (show k = 0 ∨ k = 1 ∨ k = 2 ∨ k = 3 by omega) with rfl | rfl | rfl | rfl
  · exact isSh_47
  · exact isSh_49
  · exact isSh_51
  · exact isSh_53
/-- one sheet has changed on both sides -/
theorem Rel.sheet {σ' τ' : Mem} {k : Nat} (h : Rel σ τ) (hk : k < 4) (f1 : ∀ q, q ≠ 47 + 2 * k → q ≠ 48 + 2 * k → σ' q = σ q) (g1 : ∀ q, q ≠ 13 → q ≠ 14 → q ≠ 15 → τ' q = τ q) (g2 : ∀ k' : Nat, k' < 4 → k' ≠ k → τ' 13 k' = τ 13 k' ∧ τ' 14 k' = τ 14 k' ∧ ∀ i : Int, 0 ≤ i → i < 40 → τ' 15 (40 * k' + i) = τ 15 (40 * k' + i)) (hS : relS σ' τ' k) : Rel σ' τ' := by
  have hold : ∀ k' : Nat, k' < 4 → k' ≠ k → relS σ' τ' k' := by
    intro k' hk' hne
    obtain ⟨a1, a2, a3⟩ := g2 k' hk' hne
    have hs := relS_of h hk'
    unfold relS
    rw [f1 (47 + 2 * k') (by omega) (by omega), f1 (48 + 2 * k') (by omega) (by omega), a1, a2]
    rcases hs with hs | ⟨n, b1, b2, b3, b4, b5, b6⟩
    · exact Or.inl hs
    · exact Or.inr ⟨n, b1, b2, b3, b4, b5, fun i x y => by rw [a3 i x y]; exact b6 i x y⟩
  have hall : ∀ k' : Nat, k' < 4 → relS σ' τ' k' := fun k' hk' => by
    by_cases e : k' = k
    · rw [e]; exact hS
    · exact hold k' hk' e
  obtain ⟨hE, ⟨hI0, hI1⟩, hT, hF, hO, _⟩ := h
  refine ⟨hE.keep (fun q a b => f1 q (by omega) (by omega)) (fun j _ _ => by rw [g1 1 (by decide) (by decide) (by decide)]), ⟨hI0.keep (by decide) (by rw [f1 44 (by omega) (by omega)]) (by rw [g1 3 (by decide) (by decide) (by decide)]) (fun q a => f1 q (by omega) (by omega)) (fun j _ _ => by rw [g1 1 (by decide) (by decide) (by decide)]), hI1.keep (by decide) (by rw [f1 44 (by omega) (by omega)]) (by rw [g1 3 (by decide) (by decide) (by decide)]) (fun q a => f1 q (by omega) (by omega)) (fun j _ _ => by rw [g1 1 (by decide) (by decide) (by decide)])⟩, hT.keep (by rw [f1 37 (by omega) (by omega)]) (f1 38 (by omega) (by omega)) (by rw [g1 0 (by decide) (by decide) (by decide)]) (g1 5 (by decide) (by decide) (by decide)), by rw [f1 36 (by omega) (by omega), g1 0 (by decide) (by decide) (by decide)]; exact hF, by rw [f1 0 (by omega) (by omega), g1 0 (by decide) (by decide) (by decide)]; exact hO, hall 0 (by decide), hall 1 (by decide), hall 2 (by decide), hall 3 (by decide)⟩
theorem sheet_one {k : Nat} {x l n : Int} (h : Rel σ τ) (hk : k < 4) (hx : x = k) (hl : 0 ≤ l ∧ l ≤ 2) (h0 : 0 ≤ n) (h1 : n ≤ 40) : CV layC MX4_renew [vP (47 + 2 * k), vI l, vI n] σ (fun σ5 => CI layM MX8_sheet [vP 0, vI x, vI l, vI n] τ (fun r' τ' => 1 = r' ∧ Rel σ5 τ')) := by
  refine renew_s (isSh_of hk) h1 (fun σ' f1 f2 f3 f4 => X8_sheet_E (isSheetM_s (gF (fun _ => ⟨fun _ => ⟨fun _ => ⟨by omega, by omega, by omega, by omega, ?_⟩, fun z => by omega⟩, fun z => by omega⟩) (fun z => absurd ⟨by omega, hl⟩ z))))
  have key : ∀ (m j : Nat) (τ1 : Mem), j + m = 40 → (∀ q, q ≠ 13 → q ≠ 14 → q ≠ 15 → τ1 q = τ q) → τ1 13 = upM τ 13 x l 13 → τ1 14 = upM τ 14 x n 14 → (∀ i : Int, i < 40 * x ∨ 40 * x + 40 ≤ i → τ1 15 i = τ 15 i) → (∀ i : Int, 0 ≤ i → i < j → τ1 15 (40 * x + i) = 0) → LX8_sheet_40 x j τ1 (fun r' τ' => 1 = r' ∧ Rel σ' τ') := by
    intro m
    induction m with
    | zero =>
      intro j τ1 hj hF h13 h14 ho hc
      refine X8_sheet_40 ⟨fun _ => ⟨rfl, ?_⟩, fun z => by omega⟩
      refine h.sheet hk (fun q a b => f1 q a (by omega)) hF (fun k' hk' hne => ⟨by rw [h13, upM_j (by omega)], by rw [h14, upM_j (by omega)], fun i a b => ho _ (by omega)⟩) (Or.inr ⟨n.toNat, by omega, by rw [f2]; omega, by rw [h14, ← hx, upM_s]; omega, by rw [f3, h13, ← hx, upM_s], by rw [h13, ← hx, upM_s]; exact hl, fun i a b => ?_⟩)
      rw [show 48 + 2 * k = 47 + 2 * k + 1 by omega, f4 i a b, ← hx, hc i a (by omega)]
    | succ m ih =>
      intro j τ1 hj hF h13 h14 ho hc
      refine X8_sheet_40 ⟨fun z => by omega, fun _ => ⟨⟨by omega, by omega⟩, ⟨by omega, by omega⟩, by omega, by omega, ⟨by omega, by omega⟩, ?_⟩⟩
      have := ih (j + 1) (upM τ1 15 (40 * x + j) 0) (by omega) (fun q a b c => by rw [upM_q c]; exact hF q a b c) (by rw [upM_q (by decide)]; exact h13) (by rw [upM_q (by decide)]; exact h14) (fun i hi => by rw [upM_j (by omega)]; exact ho i hi) (fun i a b => ?_)
      · simpa using this
      · by_cases hi : i = j
        · rw [hi, upM_s]
        · rw [upM_j (by omega)]; exact hc i a (by omega)
  refine key 40 0 _ (by omega) (fun q a b _ => by rw [upM_q b, upM_q a]) (by rw [upM_q (by decide)]) ?_ (fun i _ => by rw [upM_q (by decide), upM_q (by decide)]) (fun i a b => by omega)
  funext i
  by_cases hi : i = x
  · rw [hi, upM_s, upM_s]
  · rw [upM_j hi, upM_j hi, upM_q (by decide)]
theorem T_sheet (h : Rel σ τ) (x l n : Int) : TI MX7_sheet MX8_sheet [vI x, vI l, vI n] σ τ := by
  have hno : ¬ ((0 ≤ x ∧ x ≤ 3) ∧ 0 ≤ l ∧ l ≤ 2) → CI layM MX8_sheet [vP 0, vI x, vI l, vI n] τ (fun r' τ' => -1 = r' ∧ Rel σ τ') := fun hn => X8_sheet_E (isSheetM_s (gF (fun z => absurd z hn) (fun _ => ⟨rfl, h⟩)))
  refine X7_sheet_E (isSheetC_s (gF (fun hx => isLane_s (gF (fun hl => ⟨fun h1 => ⟨fun h0 => ⟨by omega, by omega, fun e => ?_, fun e => ?_, fun e => ?_, fun e => ?_⟩, fun h0 => ?_⟩, fun h1 => ?_⟩) (fun hl => hno (fun z => hl z.2)))) (fun hx => hno (fun z => hx z.1))))
  · exact sheet_one (k := 0) h (by decide) e hl h0 h1
  · exact sheet_one (k := 1) h (by decide) e hl h0 h1
  · exact sheet_one (k := 2) h (by decide) e hl h0 h1
  · exact sheet_one (k := 3) h (by decide) e hl h0 h1
  · exact X8_sheet_E (isSheetM_s (gF (fun _ => ⟨fun _ => ⟨fun z => by omega, fun _ => ⟨rfl, h⟩⟩, fun z => by omega⟩) (fun z => absurd ⟨hx, hl⟩ z)))
  · exact X8_sheet_E (isSheetM_s (gF (fun _ => ⟨fun z => by omega, fun _ => ⟨rfl, h⟩⟩) (fun z => absurd ⟨hx, hl⟩ z)))
theorem lay_one {k : Nat} {x i v : Int} (h : Rel σ τ) (hk : k < 4) (hx : x = k) : CI layC MX4_flawAt [vP (47 + 2 * k), vI i] σ (fun r4 σ3 => ((r4 = 0 → CV layC MX4_put [vP (47 + 2 * k), vI i, vI v] σ3 (fun σ5 => CI layM MX8_lay [vP 0, vI x, vI i, vI v] τ (fun r' τ' => 1 = r' ∧ Rel σ5 τ'))) ∧ (r4 ≠ 0 → I32 ((-10) - r4) ∧ CI layM MX8_lay [vP 0, vI x, vI i, vI v] τ (fun r' τ' => (-10) - r4 = r' ∧ Rel σ3 τ')))) := by
  refine flawAt_s (isSh_of hk) ?_
  rcases relS_of h hk with ⟨a, b⟩ | ⟨n, b1, b2, b3, b4, b5, b6⟩
  · rw [if_pos (by rw [a]; decide)]
    refine ⟨fun z => absurd z (by decide), fun _ => ⟨⟨by decide, by decide⟩, X8_lay_E (isSheetM_s (gT (fun _ => ⟨by omega, by omega, fun z => ?_, fun _ => ⟨rfl, h⟩⟩) (fun z => absurd ⟨by omega, by decide⟩ z)))⟩⟩
    rw [hx] at z; exact absurd b z
  · rw [if_neg (by rw [b2]; omega), b2]
    by_cases hi : 0 ≤ i ∧ i < n
    · rw [if_pos hi]
      refine ⟨fun _ => ?_, fun z => absurd rfl z⟩
      have hmod : ∀ (w : Int) (σ5 : Mem), (τ 13 x ≠ 0 → τ 13 x ≠ 1 → w = v) → (τ 13 x = 1 → w = w16 v) → (τ 13 x = 0 → w = w8 v) → σ5 = upM σ (47 + 2 * k + 1) i w → CI layM MX8_lay [vP 0, vI x, vI i, vI v] τ (fun r' τ' => 1 = r' ∧ Rel σ5 τ') := by
        intro w σ5 w1 w2 w3 e5
        have fin : Rel σ5 (upM τ 15 (40 * x + i) w) := by
          rw [e5]
          refine h.sheet hk (fun q a b => upM_q (by omega)) (fun q a b c => upM_q c) (fun k' hk' hne => ⟨by rw [upM_q (by decide)], by rw [upM_q (by decide)], fun j a b => upM_j (by omega)⟩) (Or.inr ⟨n, b1, by rw [upM_q (by omega)]; exact b2, by rw [upM_q (by decide)]; exact b3, by rw [upM_q (by omega), upM_q (by decide)]; exact b4, by rw [upM_q (by decide)]; exact b5, fun j a b => ?_⟩)
          show upM σ (47 + 2 * k + 1) i w (48 + 2 * k) j = _
          rw [show 48 + 2 * k = 47 + 2 * k + 1 by omega, ← hx]
          by_cases hj : j = i
          · rw [hj, upM_s, upM_s]
          · rw [upM_j hj, upM_j (by omega), hx]
            have := b6 j a b
            rw [show 48 + 2 * k = 47 + 2 * k + 1 by omega] at this
            exact this
        refine X8_lay_E (isSheetM_s (gT (fun _ => ⟨by omega, by omega, fun _ => ⟨by omega, by omega, ?_, ?_⟩, fun z => ?_⟩) (fun z => absurd ⟨by omega, by decide⟩ z)))
        · rw [hx, b3]; exact ⟨by omega, by omega⟩
        · rw [show τ 14 x = n by rw [hx]; exact b3]
          refine in_s (gT (fun _ => ⟨⟨by omega, by omega⟩, ⟨by omega, by omega⟩, by omega, by omega, fun z0 => ⟨by omega, by omega, fun z1 => ⟨by omega, by omega, rfl, ?_⟩, fun z1 => ⟨by omega, by omega, rfl, ?_⟩⟩, fun z0 => ⟨by omega, by omega, rfl, ?_⟩⟩) (fun z => absurd ⟨hi.1, by omega⟩ z))
          · rw [← w1 z0 z1]; exact fin
          · rw [← w2 z1]; exact fin
          · rw [← w3 z0]; exact fin
        · rw [hx] at z; omega
      have hl : σ (47 + 2 * k) 1 = τ 13 x := by rw [hx]; exact b4
      refine X4_put_E (isSh_of hk) (flawAt_s (isSh_of hk) ?_)
      rw [if_neg (by rw [b2]; omega), b2, if_pos hi, hl]
      refine ⟨fun _ => ⟨fun z0 => ⟨fun z1 => ⟨hi.1, by omega, ?_⟩, fun z1 => ⟨hi.1, by omega, ?_⟩⟩, fun z0 => ⟨hi.1, by omega, ?_⟩⟩, fun z => absurd rfl z⟩
      · exact hmod v _ (fun _ _ => rfl) (fun z => absurd z z1) (fun z => absurd z z0) rfl
      · exact hmod (w16 v) _ (fun _ z => absurd z1 z) (fun _ => rfl) (fun z => absurd z z0) rfl
      · exact hmod (w8 v) _ (fun z => absurd z0 z) (fun z => by rw [z0] at z; exact absurd z (by decide)) (fun _ => rfl) rfl
    · rw [if_neg hi]
      refine ⟨fun z => absurd z (by decide), fun _ => ⟨⟨by decide, by decide⟩, X8_lay_E (isSheetM_s (gT (fun _ => ⟨by omega, by omega, fun _ => ⟨by omega, by omega, ?_, ?_⟩, fun z => ?_⟩) (fun z => absurd ⟨by omega, by decide⟩ z)))⟩⟩
      · rw [hx, b3]; exact ⟨by omega, by omega⟩
      · rw [show τ 14 x = n by rw [hx]; exact b3]
        exact in_s (gT (fun z => absurd ⟨z.1, by omega⟩ hi) (fun _ => ⟨rfl, h⟩))
      · rw [hx] at z; omega
theorem T_lay (h : Rel σ τ) (x i v : Int) : TI MX7_lay MX8_lay [vI x, vI i, vI v] σ τ := by
  refine X7_lay_E (isSheetC_s (gT (fun hx => ⟨by omega, by omega, fun e => ?_, fun e => ?_, fun e => ?_, fun e => ?_⟩) (fun hx => X8_lay_E (isSheetM_s (gT (fun z => absurd z.1 hx) (fun _ => ⟨rfl, h⟩))))))
  · exact lay_one (k := 0) h (by decide) e
  · exact lay_one (k := 1) h (by decide) e
  · exact lay_one (k := 2) h (by decide) e
  · exact lay_one (k := 3) h (by decide) e
end SHEETS
