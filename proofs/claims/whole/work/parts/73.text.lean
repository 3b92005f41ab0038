/-! ===== the text, whole ===== -/
section TEXT
variable {σ τ : Mem}
theorem firstDraft_s {Q : Mem → Prop} (hQ : ∀ τ' : Mem, (∀ q, q ≠ 0 → q ≠ 4 → τ' q = τ q) → (∀ j : Int, j ≠ 4 → j ≠ 5 → τ' 0 j = τ 0 j) → (τ' 0 4 = 0 ∧ τ' 0 5 = 0) → τ' 4 0 = 17 → (∀ j : Int, 1 ≤ j → j < 26 → τ' 4 j = 0) → Q τ') : CV layM MX8_firstDraft [vP 0] τ Q := by
  have key : ∀ (m k : Nat) (τ1 : Mem), k + m = 26 → (∀ q, q ≠ 4 → τ1 q = τ q) → (∀ j : Int, 0 ≤ j → j < k → τ1 4 j = 0) → LX8_firstDraft_2 k τ1 Q := by
    intro m
    induction m with
    | zero =>
      intro k τ1 hk h1 h2
      refine X8_firstDraft_2 ⟨fun _ => hQ _ (fun q a c => by rw [upM_q a, upM_q a, upM_q c]; exact h1 q c) (fun j a c => by rw [upM_j c, upM_j a, upM_q (by decide)]; rw [h1 0 (by decide)]) ⟨by rw [upM_j (by decide), upM_s], upM_s⟩ (by rw [upM_q (by decide), upM_q (by decide), upM_s]) (fun j a c => by rw [upM_q (by decide), upM_q (by decide), upM_j (by omega)]; exact h2 j (by omega) (by omega)), fun z => by omega⟩
    | succ m ih =>
      intro k τ1 hk h1 h2
      refine X8_firstDraft_2 ⟨fun z => by omega, fun _ => ⟨by omega, by omega, ⟨by omega, by omega⟩, ?_⟩⟩
      have := ih (k + 1) (upM τ1 4 k 0) (by omega) (fun q a => by rw [upM_q a]; exact h1 q a) (fun j a c => by
        by_cases e : j = k
        · rw [e, upM_s]
        · rw [upM_j e]; exact h2 j a (by omega))
      simpa using this
  exact X8_firstDraft_E (key 26 0 τ (by omega) (fun _ _ => rfl) (fun j a c => by omega))
theorem parse_s (hNS : NameSpec) (h : Rel σ τ) {Q : Mem → Prop} (hQ : ∀ σ1, KCy σ σ1 → (0 ≤ σ1 36 4 ∧ σ1 36 4 ≤ 160 ∧ 0 ≤ σ1 36 3 ∧ σ1 36 3 ≤ 5) → CI layM MX8_text [vP 0] τ (PR τ σ1) → Q σ1) : CV layC MX3_parse [vP 36] σ Q := by
  obtain ⟨T, hT, h37, h7, ht⟩ := h.2.2.1
  refine X3_parse_E (X0_clear_E isE_21 (X5_rewind_E ?_))
  generalize hσ2 : upM (upM (upM (upM (upM (upM (upM (upM (upM (upM (upM σ 21 0 17) 21 1 0) 21 2 0) 21 3 0) 36 2 0) 36 3 0) 36 4 0) 36 7 0) 36 8 0) 36 5 0) 37 4 0 = σ2
  have hC : CR σ T 0 0 0 0 0 σ2 := by
    rw [← hσ2]
    refine ⟨⟨fun q a => by rw [upM_q (by omega), upM_q (by omega), upM_q (by omega), upM_q (by omega), upM_q (by omega), upM_q (by omega), upM_q (by omega), upM_q (by omega), upM_q (by omega), upM_q (by omega), upM_q (by omega)], by rw [upM_q (by decide), upM_q (by decide), upM_q (by decide), upM_q (by decide), upM_q (by decide), upM_q (by decide), upM_q (by decide), upM_q (by decide), upM_q (by decide), upM_q (by decide), upM_q (by decide)]⟩, ⟨by rw [upM_j (by decide), upM_q (by decide), upM_q (by decide), upM_q (by decide), upM_q (by decide), upM_q (by decide), upM_q (by decide), upM_q (by decide), upM_q (by decide), upM_q (by decide), upM_q (by decide)]; exact h37, by rw [upM_s]; rfl, Nat.le_refl _, by omega⟩, ⟨by rw [upM_q (by decide), upM_s], by rw [upM_q (by decide), upM_j (by decide), upM_j (by decide), upM_j (by decide), upM_j (by decide), upM_s], by rw [upM_q (by decide), upM_j (by decide), upM_j (by decide), upM_j (by decide), upM_s], by rw [upM_q (by decide), upM_j (by decide), upM_j (by decide), upM_j (by decide), upM_j (by decide), upM_j (by decide), upM_s]; rfl, Nat.le_refl _⟩, ⟨Or.inl (by rw [upM_q (by decide), upM_j (by decide), upM_j (by decide), upM_s]), Or.inl (by rw [upM_q (by decide), upM_j (by decide), upM_s])⟩, by rw [upM_q (by decide), upM_q (by decide), upM_q (by decide), upM_q (by decide), upM_q (by decide), upM_q (by decide), upM_q (by decide), upM_j (by decide), upM_s]; rfl, by omega⟩
  have h78 : σ2 36 7 = 0 ∧ σ2 36 8 = 0 := by
    rw [← hσ2]
    exact ⟨by rw [upM_q (by decide), upM_j (by decide), upM_j (by decide), upM_s], by rw [upM_q (by decide), upM_j (by decide), upM_s]⟩
  have h21 : σ2 21 0 = 17 ∧ σ2 21 1 = 0 ∧ σ2 21 2 = 0 ∧ σ2 21 3 = 0 := by
    rw [← hσ2, upM_q (show (21 : Nat) ≠ 37 by decide), upM_q (show (21 : Nat) ≠ 36 by decide), upM_q (show (21 : Nat) ≠ 36 by decide), upM_q (show (21 : Nat) ≠ 36 by decide), upM_q (show (21 : Nat) ≠ 36 by decide), upM_q (show (21 : Nat) ≠ 36 by decide), upM_q (show (21 : Nat) ≠ 36 by decide)]
    exact ⟨by rw [upM_j (by decide), upM_j (by decide), upM_j (by decide), upM_s], by rw [upM_j (by decide), upM_j (by decide), upM_s], by rw [upM_j (by decide), upM_s], upM_s⟩
  have hbm : ∀ i : Int, 0 ≤ i → i < T → τ 5 i = τ 5 i ∧ 0 ≤ τ 5 i := fun i a c => ⟨rfl, (ht i a c).2.1⟩
  have sim := (simAll (σs := σ) (τs := τ) (b := τ 5) hNS hT (fun i a c => (ht i a c).1) hbm 161 0 rfl).1 σ2 0 0 0 hC
  refine monoL sim (fun σ1 hP => hQ σ1 hP.1 hP.2.1 ?_)
  refine X8_text_E (firstDraft_s (fun τ1 f1 f2 f3 f4 f5 => ?_))
  have g0 : ∀ j : Int, j ≠ 4 → j ≠ 5 → j ≠ 8 → j ≠ 12 → τ1 0 j = τ 0 j := fun j a c d e => by rw [f2 j a c, upM_j d, upM_j e]
  have gq : ∀ q, q ≠ 0 → q ≠ 4 → τ1 q = τ q := fun q a c => by rw [f1 q a c, upM_q a, upM_q a]
  refine nextM (b := τ 5) hT hbm (p := 0) (by omega) ⟨fun q a => gq q (by omega) (by omega), g0 31 (by decide) (by decide) (by decide) (by decide)⟩ (by rw [g0 7 (by decide) (by decide) (by decide) (by decide)]; exact h7) (by rw [f2 12 (by decide) (by decide), upM_j (by decide), upM_s]) (by rw [f2 8 (by decide) (by decide), upM_s]; rfl) (fun τ2 hM hK h72 hw hok => ?_)
  by_cases z : srt (τ 5) T 0 = 4
  · exact f20 (hw z) (prW hP z)
  · refine hP.2.2.2 z τ2 ⟨⟨17, 0, ?_⟩, ⟨by rw [hM.2 4 (by decide), h78.1]; exact f3.1, by rw [hM.2 5 (by decide), h78.2]; exact f3.2⟩, hK, h72, hok z⟩
    have e4 := hM.1 4 (by decide)
    exact ⟨⟨by decide, h21.1, by rw [e4]; exact f4⟩, ⟨by decide, h21.2.1, by rw [e4]; exact f5 2 (by decide) (by decide)⟩, ⟨h21.2.2.1, by rw [e4]; exact f5 1 (by decide) (by decide), ⟨by decide, fun i a c => by omega⟩, fun i a c => by omega⟩, by decide, h21.2.2.2, by rw [e4]; exact f5 13 (by decide) (by decide), fun k a c => by omega⟩
theorem T_text (hNS : NameSpec) (h : Rel σ τ) : TI MX7_text MX8_text [] σ τ := by
  refine X7_text_E (parse_s hNS h (fun σ1 hK hB hm => ?_))
  obtain ⟨hE, ⟨hI0, hI1⟩, _, hF, hO, hS0, hS1, hS2, hS3⟩ := h
  have e36 : ∀ j : Int, upM σ1 37 0 0 36 j = σ1 36 j := fun j => by rw [upM_q (by decide)]
  rw [e36 3, e36 4]
  refine ⟨fun z => ?_, fun z => ⟨⟨by omega, by omega⟩, Cl.monoI hm (fun r τ' hr => ?_)⟩⟩
  · refine copy_s isE_1 isE_21 (by omega) (fun σ2 p1 p2 p3 p4 => ?_)
    refine X7_text_55 ⟨fun y => absurd y (by decide), fun _ => ⟨by decide, by decide, ⟨by decide, by decide⟩, X7_text_55 ⟨fun y => absurd y (by decide), fun _ => ⟨by decide, by decide, ⟨by decide, by decide⟩, X7_text_55 ⟨fun _ => Cl.monoI hm (fun r τ' hr => ?_), fun y => absurd y (by decide)⟩⟩⟩⟩⟩
    obtain ⟨a1, a2, a3, ⟨V, N, S, K, a4⟩, a5, a6, a7, a8⟩ := hr.2 z
    rw [show (0 : Int) + 1 = 1 from rfl]
    have c : ∀ q, q ≠ 44 → q < 1 ∨ 1 + 4 < q → q ≠ 37 → upM (upM σ2 44 0 0) 44 1 0 q = σ1 q := fun q x y w => by rw [upM_q x, upM_q x, p1 q y, upM_q w]
    have ck : ∀ q, (11 ≤ q ∧ q ≤ 20) ∨ q = 38 ∨ (47 ≤ q ∧ q ≤ 54) → upM (upM σ2 44 0 0) 44 1 0 q = σ q := fun q x => by rw [c q (by omega) (by omega) (by omega)]; exact hK.1 q (by omega)
    have d1 : ∀ q, 1 ≤ q → q ≤ 5 → upM (upM σ2 44 0 0) 44 1 0 q = σ2 q := fun q x y => by rw [upM_q (by omega), upM_q (by omega)]
    refine ⟨by rw [c 36 (by decide) (by decide) (by decide)]; exact a1.symm, ⟨V, N, S, K, ?_⟩, ⟨Or.inl ⟨by rw [show (((0 : Nat) : Int)) = 0 from rfl, upM_j (by decide), upM_s], a6.1⟩, Or.inl ⟨upM_s, a6.2⟩⟩, ⟨0, by decide, ?_, a3, fun i x y => by omega⟩, ⟨?_, by rw [a2]; decide, by rw [a2]; decide⟩, ?_, ?_, ?_, ?_, ?_⟩
    · have f21 : ∀ q, q ≠ 37 → upM σ1 37 0 0 q = σ1 q := fun q x => upM_q x
      rw [f21 21 (by decide)] at p2
      rw [f21 (21 + 1) (by decide), f21 (21 + 2) (by decide)] at p3
      rw [f21 (21 + 3) (by decide), f21 (21 + 4) (by decide)] at p4
      refine (a4.copied (b := 1) (σ' := σ2) p2 p3 p4 (fun _ _ _ => rfl)).keep (fun q x y => d1 q x (by omega)) (fun _ _ _ => rfl)
    · rw [upM_q (by decide), upM_q (by decide), p1 37 (by decide), upM_s]; rfl
    · rw [c 36 (by decide) (by decide) (by decide), z, a2]
    · rw [c 0 (by decide) (by decide) (by decide), hK.2, a8]; exact hO
    · exact hS0.keep (ck _ (by decide)) (ck _ (by decide)) (a7 13 (by decide)) (a7 14 (by decide)) (a7 15 (by decide))
    · exact hS1.keep (ck _ (by decide)) (ck _ (by decide)) (a7 13 (by decide)) (a7 14 (by decide)) (a7 15 (by decide))
    · exact hS2.keep (ck _ (by decide)) (ck _ (by decide)) (a7 13 (by decide)) (a7 14 (by decide)) (a7 15 (by decide))
    · exact hS3.keep (ck _ (by decide)) (ck _ (by decide)) (a7 13 (by decide)) (a7 14 (by decide)) (a7 15 (by decide))
  · obtain ⟨a1, a2, a3, a4⟩ := hr.1 z
    have c : ∀ q, (1 ≤ q ∧ q ≤ 5) ∨ (11 ≤ q ∧ q ≤ 20) ∨ q = 38 ∨ q = 44 ∨ (47 ≤ q ∧ q ≤ 54) → upM σ1 37 0 0 q = σ q := fun q x => by rw [upM_q (by omega)]; exact hK.1 q x
    have m := a4.1
    have m1 := m 1 (by omega)
    refine ⟨a1.symm, hE.keep (fun q x y => c q (by omega)) (fun j _ _ => by rw [m1]), ⟨hI0.keep (by decide) (by rw [c 44 (by omega)]) (by rw [m 3 (by omega)]) (fun q x => c q (by omega)) (fun j _ _ => by rw [m1]), hI1.keep (by decide) (by rw [c 44 (by omega)]) (by rw [m 3 (by omega)]) (fun q x => c q (by omega)) (fun j _ _ => by rw [m1])⟩, ⟨0, by decide, by rw [upM_s]; rfl, a3, fun i x y => by omega⟩, ⟨by rw [e36 3, a2], by omega, by omega⟩, by rw [upM_q (by decide), hK.2, a4.2]; exact hO, ?_, ?_, ?_, ?_⟩
    · exact hS0.keep (c _ (by decide)) (c _ (by decide)) (m 13 (by decide)) (m 14 (by decide)) (m 15 (by decide))
    · exact hS1.keep (c _ (by decide)) (c _ (by decide)) (m 13 (by decide)) (m 14 (by decide)) (m 15 (by decide))
    · exact hS2.keep (c _ (by decide)) (c _ (by decide)) (m 13 (by decide)) (m 14 (by decide)) (m 15 (by decide))
    · exact hS3.keep (c _ (by decide)) (c _ (by decide)) (m 13 (by decide)) (m 14 (by decide)) (m 15 (by decide))
end TEXT
