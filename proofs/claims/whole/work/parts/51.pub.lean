/-! ===== public calls on both sides: the simple ones ===== -/
theorem gT {c : Prop} [Decidable c] {A B : Prop} (hA : c → A) (hB : ¬ c → B) : ((if c then (1 : Int) else 0) ≠ 0 → A) ∧ ((if c then (1 : Int) else 0) = 0 → B) := by
  by_cases h : c
  · rw [if_pos h]; exact ⟨fun _ => hA h, fun z => absurd z (by decide)⟩
  · rw [if_neg h]; exact ⟨fun z => absurd rfl z, fun _ => hB h⟩
theorem gF {c : Prop} [Decidable c] {A B : Prop} (hA : c → A) (hB : ¬ c → B) : ((if c then (1 : Int) else 0) = 0 → B) ∧ ((if c then (1 : Int) else 0) ≠ 0 → A) := ⟨(gT hA hB).2, (gT hA hB).1⟩
/-- all that the relation speaks of but the estate that counts -/
def KCx (σ σ' : Mem) : Prop := (∀ q, (11 ≤ q ∧ q ≤ 20) ∨ q = 38 ∨ q = 44 ∨ (47 ≤ q ∧ q ≤ 54) → σ' q = σ q) ∧ σ' 0 11 = σ 0 11 ∧ σ' 36 3 = σ 36 3 ∧ σ' 37 0 = σ 37 0
def KMx (τ τ' : Mem) : Prop := (∀ q, q = 3 ∨ q = 5 ∨ (13 ≤ q ∧ q ≤ 15) → τ' q = τ q) ∧ (∀ j : Int, 26 ≤ j → j < 78 → τ' 1 j = τ 1 j) ∧ τ' 0 7 = τ 0 7 ∧ τ' 0 12 = τ 0 12 ∧ τ' 0 31 = τ 0 31
theorem KC.x {σ σ' : Mem} (h : KC σ σ') : KCx σ σ' := ⟨fun q a => h.1 q (by omega), h.2⟩
theorem KM.x {τ τ' : Mem} (h : KM τ τ') : KMx τ τ' := ⟨fun q a => h.1 q (by omega), fun j _ _ => by rw [h.1 1 (by omega)], h.2⟩
theorem KCx.trans {σ σ' σ'' : Mem} (h : KCx σ σ') (h2 : KCx σ' σ'') : KCx σ σ'' := ⟨fun q a => (h2.1 q a).trans (h.1 q a), h2.2.1.trans h.2.1, h2.2.2.1.trans h.2.2.1, h2.2.2.2.trans h.2.2.2⟩
theorem KMx.trans {τ τ' τ'' : Mem} (h : KMx τ τ') (h2 : KMx τ' τ'') : KMx τ τ'' := ⟨fun q a => (h2.1 q a).trans (h.1 q a), fun j a b => (h2.2.1 j a b).trans (h.2.1 j a b), h2.2.2.1.trans h.2.2.1, h2.2.2.2.1.trans h.2.2.2.1, h2.2.2.2.2.trans h.2.2.2.2⟩
theorem KCx.up {σ : Mem} {q : Nat} {j x : Int} (hq : 1 ≤ q ∧ q ≤ 5) : KCx σ (upM σ q j x) := ⟨fun q' a => upM_q (by omega), by rw [upM_q (by omega)], by rw [upM_q (by omega)], by rw [upM_q (by omega)]⟩
theorem KMx.up {τ : Mem} {j x : Int} (hj : j < 26) : KMx τ (upM τ 1 j x) := ⟨fun q' a => upM_q (by omega), fun j' a b => upM_j (by omega), by rw [upM_q (by decide)], by rw [upM_q (by decide)], by rw [upM_q (by decide)]⟩
theorem Rel.est {σ σ' τ τ' : Mem} (h : Rel σ τ) (hC : KCx σ σ') (hM : KMx τ τ') (hE' : relE σ' 1 (τ' 1)) : Rel σ' τ' := by
  obtain ⟨hE, ⟨hI0, hI1⟩, hT, hF, hO, hS0, hS1, hS2, hS3⟩ := h
  refine ⟨hE', ⟨hI0.keep (by decide) (by rw [hC.1 44 (by omega)]) (by rw [hM.1 3 (by omega)]) (fun q a => hC.1 q (by omega)) hM.2.1, hI1.keep (by decide) (by rw [hC.1 44 (by omega)]) (by rw [hM.1 3 (by omega)]) (fun q a => hC.1 q (by omega)) hM.2.1⟩, hT.keep hC.2.2.2 (hC.1 38 (by omega)) hM.2.2.1 (hM.1 5 (by omega)), by rw [hC.2.2.1, hM.2.2.2.1]; exact hF, by rw [hC.2.1, hM.2.2.2.2]; exact hO, ?_, ?_, ?_, ?_⟩
  · exact hS0.keep (hC.1 _ (by omega)) (hC.1 _ (by omega)) (hM.1 13 (by omega)) (hM.1 14 (by omega)) (hM.1 15 (by omega))
  · exact hS1.keep (hC.1 _ (by omega)) (hC.1 _ (by omega)) (hM.1 13 (by omega)) (hM.1 14 (by omega)) (hM.1 15 (by omega))
  · exact hS2.keep (hC.1 _ (by omega)) (hC.1 _ (by omega)) (hM.1 13 (by omega)) (hM.1 14 (by omega)) (hM.1 15 (by omega))
  · exact hS3.keep (hC.1 _ (by omega)) (hC.1 _ (by omega)) (hM.1 13 (by omega)) (hM.1 14 (by omega)) (hM.1 15 (by omega))
theorem rE.arr {σ σ' : Mem} {e : Nat} {f f' : Int → Int} {V N S V' S' : Nat} {K K' : Int} (h : rE σ e f V N S K) (h1 : ∀ q, e < q → q ≤ e + 4 → σ' q = σ q) (hf : ∀ j : Int, 3 ≤ j → j < 26 → j ≠ 13 → f' j = f j) (hV : V' ≤ 999 ∧ σ' e 0 = V' ∧ f' 0 = V') (hK : (0 ≤ K' ∧ K' ≤ 3) ∧ σ' e 1 = K' ∧ f' 2 = K') (hN : σ' e 2 = N ∧ f' 1 = N) (hS : S' ≤ S ∧ σ' e 3 = S' ∧ f' 13 = S') : rE σ' e f' V' N S' K' := by
  obtain ⟨_, _, ⟨c1, c2, c3, c4⟩, d1, d2, d3, d4⟩ := h
  have hN5 := c3.1
  have e1 := h1 (e + 1) (by omega) (by omega)
  have e2 := h1 (e + 2) (by omega) (by omega)
  have e3 := h1 (e + 3) (by omega) (by omega)
  have e4 := h1 (e + 4) (by omega) (by omega)
  refine ⟨hV, hK, ⟨hN.1, hN.2, by rw [e1, e2]; exact c3, fun i x y => ?_⟩, by omega, hS.2.1, hS.2.2, fun k x y => ?_⟩
  · rw [hf _ (by omega) (by omega) (by omega), hf _ (by omega) (by omega) (by omega), e1, e2]; exact c4 i x y
  · rw [hf _ (by omega) (by omega) (by omega), hf _ (by omega) (by omega) (by omega), e3, e4]; exact d4 k x (by omega)
section SIMPLE
variable {σ τ : Mem}
theorem w8_id {x : Int} (h0 : 0 ≤ x) (h1 : x ≤ 127) : w8 x = x := by unfold w8; exact Int.bmod_eq_of_le (by omega) (by omega)
theorem T_feed (h : Rel σ τ) (x : Int) : TI MX7_feed MX8_feed [vI x] σ τ := by
  obtain ⟨T, hT, h37, h7, ht⟩ := h.2.2.1
  refine X7_feed_E (within_s (gT (fun hx => ?_) (fun hx => ?_)))
  · refine X5_append_E ⟨fun hl => ?_, fun hl => ?_⟩
    · rw [h37] at hl
      have e1 : upM σ 38 (σ 37 0) (w8 x) 37 = σ 37 := upM_q (by decide)
      rw [e1, h37, w8_id hx.1 hx.2, upM_s]
      refine ⟨by omega, by omega, ⟨by omega, by omega⟩, X8_feed_E (in_s (gT (fun _ => ⟨fun hf => ?_, fun hf => ?_⟩) (fun z => absurd hx z)))⟩
      · rw [upM_q (show (0 : Nat) ≠ 5 by decide), h7, upM_s]
        refine ⟨by omega, by omega, ⟨by omega, by omega⟩, rfl, ?_⟩
        obtain ⟨hE, ⟨hI0, hI1⟩, _, hF, hO, hS0, hS1, hS2, hS3⟩ := h
        have c : ∀ q, q ≠ 37 → q ≠ 38 → upM (upM σ 38 T x) 37 0 ((T : Int) + 1) q = σ q := fun q a b => by rw [upM_q a, upM_q b]
        have m : ∀ q, q ≠ 0 → q ≠ 5 → upM (upM τ 5 T x) 0 7 ((T : Int) + 1) q = τ q := fun q a b => by rw [upM_q a, upM_q b]
        have m0 : ∀ j : Int, j ≠ 7 → upM (upM τ 5 T x) 0 7 ((T : Int) + 1) 0 j = τ 0 j := fun j a => by rw [upM_j a, upM_q (by decide)]
        refine ⟨hE.keep (fun q a b => c q (by omega) (by omega)) (fun j _ _ => by rw [m 1 (by decide) (by decide)]), ⟨hI0.keep (by decide) (by rw [c 44 (by decide) (by decide)]) (by rw [m 3 (by decide) (by decide)]) (fun q a => c q (by omega) (by omega)) (fun j _ _ => by rw [m 1 (by decide) (by decide)]), hI1.keep (by decide) (by rw [c 44 (by decide) (by decide)]) (by rw [m 3 (by decide) (by decide)]) (fun q a => c q (by omega) (by omega)) (fun j _ _ => by rw [m 1 (by decide) (by decide)])⟩, ?_, ?_, ?_, ?_, ?_, ?_, ?_⟩
        · refine ⟨T + 1, by omega, by rw [upM_s]; rfl, by rw [upM_s]; rfl, fun i a b => ?_⟩
          rw [upM_q (show (38 : Nat) ≠ 37 by decide), upM_q (show (5 : Nat) ≠ 0 by decide)]
          by_cases hi : i = T
          · rw [hi, upM_s, upM_s]; exact ⟨rfl, hx.1, hx.2⟩
          · rw [upM_j hi, upM_j hi]; exact ht i a (by omega)
        · rw [c 36 (by decide) (by decide), m0 12 (by decide)]; exact hF
        · rw [c 0 (by decide) (by decide), m0 31 (by decide)]; exact hO
        · exact hS0.keep (c _ (by decide) (by decide)) (c _ (by decide) (by decide)) (m 13 (by decide) (by decide)) (m 14 (by decide) (by decide)) (m 15 (by decide) (by decide))
        · exact hS1.keep (c _ (by decide) (by decide)) (c _ (by decide) (by decide)) (m 13 (by decide) (by decide)) (m 14 (by decide) (by decide)) (m 15 (by decide) (by decide))
        · exact hS2.keep (c _ (by decide) (by decide)) (c _ (by decide) (by decide)) (m 13 (by decide) (by decide)) (m 14 (by decide) (by decide)) (m 15 (by decide) (by decide))
        · exact hS3.keep (c _ (by decide) (by decide)) (c _ (by decide) (by decide)) (m 13 (by decide) (by decide)) (m 14 (by decide) (by decide)) (m 15 (by decide) (by decide))
      · rw [h7] at hf; omega
    · rw [h37] at hl
      refine X8_feed_E (in_s (gT (fun _ => ⟨fun hf => ?_, fun hf => ⟨rfl, h⟩⟩) (fun z => absurd hx z)))
      rw [h7] at hf; omega
  · exact X8_feed_E (in_s (gT (fun z => absurd z hx) (fun _ => ⟨rfl, h⟩)))
theorem T_end (h : Rel σ τ) (x : Int) : TI MX7_end MX8_end [vI x] σ τ := by
  obtain ⟨T, hT, h37, h7, ht⟩ := h.2.2.1
  refine X7_end_E (within_s ?_)
  rw [h37]
  refine gT (fun hx => X8_end_E (in_s ?_)) (fun hx => X8_end_E (in_s ?_))
  · rw [h7]
    refine gT (fun _ => ⟨rfl, ?_⟩) (fun z => absurd hx z)
    obtain ⟨hE, ⟨hI0, hI1⟩, _, hF, hO, hS0, hS1, hS2, hS3⟩ := h
    have c : ∀ q, q ≠ 37 → upM σ 37 0 x q = σ q := fun q a => upM_q a
    have m : ∀ q, q ≠ 0 → upM τ 0 7 x q = τ q := fun q a => upM_q a
    refine ⟨hE.keep (fun q a b => c q (by omega)) (fun j _ _ => by rw [m 1 (by decide)]), ⟨hI0.keep (by decide) (by rw [c 44 (by decide)]) (by rw [m 3 (by decide)]) (fun q a => c q (by omega)) (fun j _ _ => by rw [m 1 (by decide)]), hI1.keep (by decide) (by rw [c 44 (by decide)]) (by rw [m 3 (by decide)]) (fun q a => c q (by omega)) (fun j _ _ => by rw [m 1 (by decide)])⟩, ?_, ?_, ?_, ?_, ?_, ?_, ?_⟩
    · refine ⟨x.toNat, by omega, by rw [upM_s]; omega, by rw [upM_s]; omega, fun i a b => ?_⟩
      rw [c 38 (by decide), m 5 (by decide)]; exact ht i a (by omega)
    · rw [c 36 (by decide), upM_j (by decide)]; exact hF
    · rw [c 0 (by decide), upM_j (by decide)]; exact hO
    · exact hS0.keep (c _ (by decide)) (c _ (by decide)) (m 13 (by decide)) (m 14 (by decide)) (m 15 (by decide))
    · exact hS1.keep (c _ (by decide)) (c _ (by decide)) (m 13 (by decide)) (m 14 (by decide)) (m 15 (by decide))
    · exact hS2.keep (c _ (by decide)) (c _ (by decide)) (m 13 (by decide)) (m 14 (by decide)) (m 15 (by decide))
    · exact hS3.keep (c _ (by decide)) (c _ (by decide)) (m 13 (by decide)) (m 14 (by decide)) (m 15 (by decide))
  · rw [h7]
    exact gT (fun z => absurd z hx) (fun _ => ⟨rfl, h⟩)
theorem T_fault (h : Rel σ τ) : TI MX7_fault MX8_fault [] σ τ := X7_fault_E (X8_fault_E ⟨h.2.2.2.1.1, h⟩)
theorem T_torn (h : Rel σ τ) : TI MX7_torn MX8_torn [] σ τ := X7_torn_E (X8_torn_E ⟨h.2.2.2.2.1, h⟩)
theorem T_herd (h : Rel σ τ) (x : Int) : TI MX7_herd MX8_herd [vI x] σ τ := by
  obtain ⟨V, N, S, K, hE⟩ := h.1
  refine X7_herd_E (isHerd_s (gT (fun hx => X8_herd_E (in_s (gF (fun _ => X8_becomes_E ⟨by decide, by decide, by decide, by decide, ?_, ?_⟩) (fun z => absurd hx z)))) (fun hx => X8_herd_E (in_s (gF (fun z => absurd z hx) (fun _ => ⟨rfl, h⟩))))))
  · rw [hE.1.2.1, hE.1.2.2]
  · refine h.est (KCx.up (by omega)) (KMx.up (by decide)) ⟨x.toNat, N, S, K, ?_⟩
    have h5 := hE.2.2.1.2.2.1.1
    exact hE.arr (fun q a b => upM_q (by omega)) (fun j a b c => upM_j (by omega)) ⟨by omega, by rw [upM_s]; omega, by rw [upM_s]; omega⟩ ⟨hE.2.1.1, by rw [upM_j (by decide)]; exact hE.2.1.2.1, by rw [upM_j (by decide)]; exact hE.2.1.2.2⟩ ⟨by rw [upM_j (by decide)]; exact hE.2.2.1.1, by rw [upM_j (by decide)]; exact hE.2.2.1.2.1⟩ ⟨Nat.le_refl _, by rw [upM_j (by decide)]; exact hE.2.2.2.2.1, by rw [upM_j (by decide)]; exact hE.2.2.2.2.2.1⟩
theorem T_judge (h : Rel σ τ) (x : Int) : TI MX7_judge MX8_judge [vI x] σ τ := by
  obtain ⟨V, N, S, K, hE⟩ := h.1
  refine X7_judge_E (isKind_s (gT (fun hx => X8_judge_E (misKind_s (gF (fun _ => X8_becomes_E ⟨by decide, by decide, by decide, by decide, ?_, ?_⟩) (fun z => absurd hx z)))) (fun hx => X8_judge_E (misKind_s (gF (fun z => absurd z hx) (fun _ => ⟨rfl, h⟩))))))
  · rw [hE.2.1.2.1, hE.2.1.2.2]
  · refine h.est (KCx.up (by omega)) (KMx.up (by decide)) ⟨V, N, S, x, ?_⟩
    have h5 := hE.2.2.1.2.2.1.1
    exact hE.arr (fun q a b => upM_q (by omega)) (fun j a b c => upM_j (by omega)) ⟨hE.1.1, by rw [upM_j (by decide)]; exact hE.1.2.1, by rw [upM_j (by decide)]; exact hE.1.2.2⟩ ⟨hx, by rw [upM_s], by rw [upM_s]⟩ ⟨by rw [upM_j (by decide)]; exact hE.2.2.1.1, by rw [upM_j (by decide)]; exact hE.2.2.1.2.1⟩ ⟨Nat.le_refl _, by rw [upM_j (by decide)]; exact hE.2.2.2.2.1, by rw [upM_j (by decide)]; exact hE.2.2.2.2.2.1⟩
theorem T_forget (h : Rel σ τ) (x : Int) : TI MX7_forget MX8_forget [vI x] σ τ := by
  obtain ⟨V, N, S, K, hE⟩ := h.1
  have h5 := hE.2.2.1.2.2.1.1
  refine X7_forget_E (within_s ?_)
  rw [hE.2.2.2.2.1]
  refine gT (fun hx => X8_forget_E (in_s ?_)) (fun hx => X8_forget_E (in_s ?_))
  · rw [hE.2.2.2.2.2.1]
    refine gF (fun _ => X8_becomes_E ⟨by decide, by decide, by decide, by decide, ?_, ?_⟩) (fun z => absurd hx z)
    · rw [hE.2.2.2.2.2.1]
    · refine h.est (KCx.up (by omega)) (KMx.up (by decide)) ⟨V, N, x.toNat, K, ?_⟩
      have hS := hE.2.2.2.1
      exact hE.arr (fun q a b => upM_q (by omega)) (fun j a b c => upM_j c) ⟨hE.1.1, by rw [upM_j (by decide)]; exact hE.1.2.1, by rw [upM_j (by decide)]; exact hE.1.2.2⟩ ⟨hE.2.1.1, by rw [upM_j (by decide)]; exact hE.2.1.2.1, by rw [upM_j (by decide)]; exact hE.2.1.2.2⟩ ⟨by rw [upM_j (by decide)]; exact hE.2.2.1.1, by rw [upM_j (by decide)]; exact hE.2.2.1.2.1⟩ ⟨by omega, by rw [upM_s]; omega, by rw [upM_s]; omega⟩
  · rw [hE.2.2.2.2.2.1]
    exact gF (fun z => absurd z hx) (fun _ => ⟨rfl, h⟩)
theorem T_see (h : Rel σ τ) (x v : Int) : TI MX7_see MX8_see [vI x, vI v] σ τ := by
  obtain ⟨V, N, S, K, hE⟩ := h.1
  have h5 := hE.2.2.1.2.2.1.1
  have hS := hE.2.2.2.1
  refine X7_see_E (has_s isE_1 hE.2.2.1.1 (gF (fun hx => isHerd_s (gT (fun hv => ?_) (fun hv => ?_))) (fun hx => X8_see_E (isHeir_s hE.2.2.1.2.1 h5 (gF (fun z => absurd z hx) (fun _ => ⟨rfl, h⟩))))))
  · have e1 : upM σ 4 S x 1 = σ 1 := upM_q (by decide)
    have e2 : upM (upM σ 4 S x) 5 S v 1 = σ 1 := by rw [upM_q (by decide), e1]
    refine X0_addSeen_E isE_1 ⟨fun hl => ?_, fun hl => ?_⟩
    · rw [hE.2.2.2.2.1] at hl ⊢
      rw [e1, hE.2.2.2.2.1, e2, hE.2.2.2.2.1, upM_s]
      refine ⟨by omega, by omega, by omega, by omega, ⟨by omega, by omega⟩, X8_see_E (isHeir_s hE.2.2.1.2.1 h5 (gF (fun _ => in_s (gT (fun _ => ⟨fun hf => ?_, fun hf => ?_⟩) (fun z => absurd hv z))) (fun z => absurd hx z)))⟩
      · rw [hE.2.2.2.2.2.1]
        have e3 : upM (upM τ 1 (14 + 2 * (S : Int)) x) 1 (14 + 2 * (S : Int) + 1) v 1 13 = S := by rw [upM_j (by omega), upM_j (by omega)]; exact hE.2.2.2.2.2.1
        rw [e3, upM_s]
        refine ⟨⟨by omega, by omega⟩, ⟨by omega, by omega⟩, by omega, by omega, ⟨by omega, by omega⟩, by omega, by omega, ⟨by omega, by omega⟩, rfl, ?_⟩
        refine h.est (((KCx.up (by omega)).trans (KCx.up (by omega))).trans (KCx.up (by omega))) (((KMx.up (by omega)).trans (KMx.up (by omega))).trans (KMx.up (by decide))) ⟨V, N, S + 1, K, ?_⟩
        refine ⟨⟨hE.1.1, by rw [upM_j (by decide), e2]; exact hE.1.2.1, by rw [upM_j (by decide), upM_j (by omega), upM_j (by omega)]; exact hE.1.2.2⟩, ⟨hE.2.1.1, by rw [upM_j (by decide), e2]; exact hE.2.1.2.1, by rw [upM_j (by decide), upM_j (by omega), upM_j (by omega)]; exact hE.2.1.2.2⟩, ⟨by rw [upM_j (by decide), e2]; exact hE.2.2.1.1, by rw [upM_j (by decide), upM_j (by omega), upM_j (by omega)]; exact hE.2.2.1.2.1, ?_, fun i a b => ?_⟩, by omega, by rw [upM_s]; rfl, by rw [upM_s]; rfl, fun k a b => ?_⟩
        · rw [upM_q (show 1 + 1 ≠ 1 by decide), upM_q (show 1 + 1 ≠ 5 by decide), upM_q (show 1 + 1 ≠ 4 by decide), upM_q (show 1 + 2 ≠ 1 by decide), upM_q (show 1 + 2 ≠ 5 by decide), upM_q (show 1 + 2 ≠ 4 by decide)]
          exact hE.2.2.1.2.2.1
        · rw [upM_q (show 1 + 1 ≠ 1 by decide), upM_q (show 1 + 1 ≠ 5 by decide), upM_q (show 1 + 1 ≠ 4 by decide), upM_q (show 1 + 2 ≠ 1 by decide), upM_q (show 1 + 2 ≠ 5 by decide), upM_q (show 1 + 2 ≠ 4 by decide)]
          rw [upM_j (by omega), upM_j (by omega), upM_j (by omega), upM_j (by omega), upM_j (by omega), upM_j (by omega)]
          exact hE.2.2.1.2.2.2 i a b
        · rw [upM_q (show 1 + 3 ≠ 1 by decide), upM_q (show 1 + 3 ≠ 5 by decide), upM_q (show 1 + 4 ≠ 1 by decide)]
          rw [show upM (upM σ 4 S x) 5 S v (1 + 4) k = upM σ 5 S v 5 k from by
            by_cases hk : k = S
            · rw [hk]; exact upM_s.trans upM_s.symm
            · exact ((upM_j hk).trans (by rw [upM_q (by decide)])).trans (upM_j hk).symm]
          show (_ ∧ _) ∧ (0 ≤ upM σ 4 S x 4 k ∧ upM σ 4 S x 4 k < 5) ∧ _
          by_cases hk : k = S
          · subst hk
            rw [upM_s, upM_s, upM_j (by omega), upM_j (by omega), upM_s, upM_j (by omega), upM_s]
            exact ⟨⟨rfl, rfl⟩, ⟨hx.1, by omega⟩, hv.1, hv.2⟩
          · rw [upM_j hk, upM_j hk, upM_j (by omega), upM_j (by omega), upM_j (by omega), upM_j (by omega), upM_j (by omega), upM_j (by omega)]
            exact hE.2.2.2.2.2.2 k a (by omega)
      · rw [hE.2.2.2.2.2.1] at hf; omega
    · rw [hE.2.2.2.2.1] at hl
      refine X8_see_E (isHeir_s hE.2.2.1.2.1 h5 (gF (fun _ => in_s (gT (fun _ => ⟨fun hf => ?_, fun hf => ⟨rfl, h⟩⟩) (fun z => absurd hv z))) (fun z => absurd hx z)))
      rw [hE.2.2.2.2.2.1] at hf; omega
  · exact X8_see_E (isHeir_s hE.2.2.1.2.1 h5 (gF (fun _ => in_s (gT (fun z => absurd z hv) (fun _ => ⟨rfl, h⟩))) (fun z => absurd hx z)))
end SIMPLE
