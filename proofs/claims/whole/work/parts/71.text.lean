/-! ===== the text: an heir's numbers ===== -/
section SIM12
variable {σs τs : Mem} {b : Int → Int} {T : Nat}
theorem sim2 (hT : T ≤ 160) (hbc : ∀ i : Int, 0 ≤ i → i < T → σs 38 i = b i) (hbm : ∀ i : Int, 0 ≤ i → i < T → τs 5 i = b i ∧ 0 ≤ b i) {t : Nat} (h4' : S4 σs τs b T (t + 1)) : S2 σs τs b T t := by
  intro σ p many N v hN4 hv h6 hC
  have hp := hC.2.1.2.2
  have hm := hC.2.2.1.2.2.2.2
  have hs := sT_in (b := b) hp.2
  have hn := nxt_in (b := b) hp.2
  have tail : ∀ (R : Int → Mem → Prop) (x : Int) (τ' : Mem), τ' 4 1 = N → C4 many (upM (upM τ' 4 (3 + 2 * (N : Int) + 1) x) 4 1 ((N : Int) + 1)) R → (0 ≤ (3 + (2 * (N : Int))) + 1 ∧ (3 + (2 * (N : Int))) + 1 < 26 ∧ I32 (((upM τ' 4 ((3 + (2 * (N : Int))) + 1) x) 4 1) + 1) ∧ C4 many (upM (upM τ' 4 ((3 + (2 * (N : Int))) + 1) x) 4 1 (((upM τ' 4 ((3 + (2 * (N : Int))) + 1) x) 4 1) + 1)) R) := by
    intro R x τ' h41 hq
    rw [upM_j (show (1 : Int) ≠ 3 + 2 * (N : Int) + 1 by omega), h41]
    exact ⟨by omega, by omega, ⟨by omega, by omega⟩, hq⟩
  refine numC hT hbc hC (by omega) 1 99 ⟨fun z => by omega, fun _ => ⟨rfl, rfl⟩, fun z => by omega⟩ (fun F hF hcase τ hS R hR h3v => ?_) (fun hsr hin σ1 hTp h2 h4 ev => ?_)
  · obtain ⟨t12, t9, t8, t10, tv⟩ := hS.2.2.2.2
    obtain ⟨V, K, hE⟩ := hS.1
    have h41 : τ 4 1 = N := hE.2.2.1.2.1
    have ft : ∀ F : Int, 1 ≤ F → FT τs (upM (upM τ 0 12 F) 0 13 (τ 0 9)) F (sT b T p : Nat) := fun F hF => FT.of t9 (by omega) hS.2.2.1 hF
    have g41 : ∀ F : Int, upM (upM τ 0 12 F) 0 13 (τ 0 9) 4 1 = N := fun F => by rw [upM_q (by decide), upM_q (by decide)]; exact h41
    refine readNumber_s t12 (fun z => ?_) (fun z z2 => ?_) (fun z z2 => ?_)
    · rcases hcase with ⟨e, _⟩ | ⟨_, e, _⟩
      · subst e; exact tail R _ _ (g41 2) (fC4 (ft 2 (by decide)).up4.up4 ⟨by omega, by omega⟩ hR)
      · rw [t10, e] at z; exact absurd rfl z
    · rcases hcase with ⟨_, e⟩ | ⟨e, e1, _⟩
      · rw [t10] at z; exact absurd (srM2.1.mp z) e
      · subst e; exact tail R _ _ (g41 3) (fC4 (ft 3 (by decide)).up4.up4 ⟨by omega, by omega⟩ hR)
    · rcases hcase with ⟨_, e⟩ | ⟨_, e1, e2⟩
      · rw [t10] at z; exact absurd (srM2.1.mp z) e
      · rw [tv e1] at z2; exact absurd z2 e2
  · have e5 : σ1 36 5 = 2 := by rw [hTp.1 36 (by decide)]; exact hC.2.2.1.1
    refine ⟨fun _ => ⟨fun z => absurd e5 z, fun _ => ?_⟩, fun z => by omega⟩
    rw [ev, show σ1 36 6 = v from by rw [hTp.1 36 (by decide)]; exact h6]
    have hN1 : σ1 21 2 = N := by rw [hTp.1 21 (by decide)]; exact hC.2.2.2.2.1
    refine add_s isE_21 hN1 (by omega) (fun z => absurd ⟨hv, hin⟩ z) (fun _ z => by omega) (fun _ _ _ => ⟨⟨by omega, by omega⟩, ?_⟩)
    have f36 : ∀ j : Int, j ≠ 5 → upM (upM (upM (upM σ1 (21 + 1) N v) (21 + 2) N (val b T p)) 21 2 ((N : Int) + 1)) 36 5 4 36 j = σ 36 j := fun j a => by rw [upM_j a, upM_q (by decide), upM_q (by decide), upM_q (by decide), hTp.1 36 (by decide)]
    have f37 : upM (upM (upM (upM σ1 (21 + 1) N v) (21 + 2) N (val b T p)) 21 2 ((N : Int) + 1)) 36 5 4 37 = σ1 37 := by rw [upM_q (by decide), upM_q (by decide), upM_q (by decide), upM_q (by decide)]
    have hC2 : CR σs T (t + 1) (nxt b T p) 4 many (N + 1) (upM (upM (upM (upM σ1 (21 + 1) N v) (21 + 2) N (val b T p)) 21 2 ((N : Int) + 1)) 36 5 4) := hC.next hTp h4 (by omega) (((((hC.1.tp hTp).up (by decide)).up (by decide)).up (by decide)).up (by decide)) f37 upM_s (by rw [f36 3 (by decide)]; exact hC.2.2.1.2.1) (by rw [f36 4 (by decide)]; exact hC.2.2.1.2.2.1) ⟨by rw [f36 2 (by decide)]; exact hC.2.2.1.2.2.2.1, by omega⟩ (by rw [f36 7 (by decide), f36 8 (by decide)]; exact hC.2.2.2.1) ⟨by rw [upM_q (by decide), upM_s]; rfl, by omega⟩
    have ih := h4' _ _ _ _ hC2
    refine goP (by omega) (by simpa using ih) (fun σf hP τ hS h3v => ?_)
    obtain ⟨t12, t9, t8, t10, tv⟩ := hS.2.2.2.2
    have ev2 := tv hsr
    obtain ⟨⟨V, K, hE⟩, ⟨q4, q5⟩, hKy, h7y, _⟩ := hS
    have h41 : τ 4 1 = N := hE.2.2.1.2.1
    refine readNumber_s t12 (fun z => absurd (by rw [t10, hsr]; rfl) z) (fun _ z2 => absurd (by rw [ev2]; exact hin) z2) (fun _ _ => nextM hT hbm hn.2.1 hKy h7y t12 t8 (fun τ' hM hK h7 hw2 hok2 => ?_))
    rw [ev2]
    have e4 := hM.1 4 (by decide)
    refine tail _ _ τ' (by rw [e4]; exact h41) ?_
    by_cases z2 : srt b T (nxt b T p) = 4
    · exact fC4 (hw2 z2).up4.up4 ⟨by omega, by omega⟩ (prW hP z2)
    · have hE1 : rE σ1 21 (τ 4) V N 0 K := hE.keep (fun q a c => hTp.1 q (by omega)) (fun _ _ _ => rfl)
      have hmore := hE1.more (e := 21) (x := v) (y := val b T p) (f' := upM (upM τ' 4 (3 + 2 * (N : Int) + 1) (val b T p)) 4 1 ((N : Int) + 1) 4) hv hin (by omega) (fun j a c d => by rw [upM_j a, upM_j d, e4]) upM_s (by rw [upM_j (by omega), upM_j (by omega), e4]; exact h3v) (by rw [upM_j (by omega), upM_s])
      refine hP.2.2.2 z2 _ ⟨⟨V, K, hmore.keep (fun q a c => upM_q (by omega)) (fun _ _ _ => rfl)⟩, ⟨?_, ?_⟩, hK.up4.up4, by rw [upM_q (by decide), upM_q (by decide)]; exact h7, ?_⟩
      · rw [upM_q (by decide), upM_q (by decide), hM.2 4 (by decide), f36 7 (by decide)]; exact q4
      · rw [upM_q (by decide), upM_q (by decide), hM.2 5 (by decide), f36 8 (by decide)]; exact q5
      · unfold TKok; rw [upM_q (show (0 : Nat) ≠ 4 by decide), upM_q (show (0 : Nat) ≠ 4 by decide)]; exact hok2 z2
theorem sim1 (hT : T ≤ 160) (hbc : ∀ i : Int, 0 ≤ i → i < T → σs 38 i = b i) (hbm : ∀ i : Int, 0 ≤ i → i < T → τs 5 i = b i ∧ 0 ≤ b i) {t : Nat} (h2' : S2 σs τs b T (t + 1)) : S1 σs τs b T t := by
  intro σ p many N hN4 hC
  have hp := hC.2.1.2.2
  have hm := hC.2.2.1.2.2.2.2
  have hs := sT_in (b := b) hp.2
  have hn := nxt_in (b := b) hp.2
  have tail : ∀ (R : Int → Mem → Prop) (x : Int) (τ' : Mem), τ' 4 1 = N → C2 many N (upM τ' 4 (3 + 2 * (N : Int)) x) R → (0 ≤ 3 + (2 * (N : Int)) ∧ 3 + (2 * (N : Int)) < 26 ∧ I32 (2 * ((upM τ' 4 (3 + (2 * (N : Int))) x) 4 1)) ∧ I32 (3 + (2 * ((upM τ' 4 (3 + (2 * (N : Int))) x) 4 1))) ∧ I32 ((3 + (2 * ((upM τ' 4 (3 + (2 * (N : Int))) x) 4 1))) + 1) ∧ CI layM MX8_readNumber [vP 0, vI 1, vI 99] (upM τ' 4 (3 + (2 * (N : Int))) x) (fun r4 σ3 => 0 ≤ (3 + (2 * ((upM τ' 4 (3 + (2 * (N : Int))) x) 4 1))) + 1 ∧ (3 + (2 * ((upM τ' 4 (3 + (2 * (N : Int))) x) 4 1))) + 1 < 26 ∧ I32 (((upM σ3 4 ((3 + (2 * ((upM τ' 4 (3 + (2 * (N : Int))) x) 4 1))) + 1) r4) 4 1) + 1) ∧ C4 many (upM (upM σ3 4 ((3 + (2 * ((upM τ' 4 (3 + (2 * (N : Int))) x) 4 1))) + 1) r4) 4 1 (((upM σ3 4 ((3 + (2 * ((upM τ' 4 (3 + (2 * (N : Int))) x) 4 1))) + 1) r4) 4 1) + 1)) R)) := by
    intro R x τ' h41 hq
    rw [upM_j (show (1 : Int) ≠ 3 + 2 * (N : Int) by omega), h41]
    exact ⟨by omega, by omega, ⟨by omega, by omega⟩, ⟨by omega, by omega⟩, ⟨by omega, by omega⟩, hq⟩
  refine numC hT hbc hC (by omega) 1 9 ⟨fun _ => ⟨rfl, rfl⟩, fun z => by omega, fun z => by omega⟩ (fun F hF hcase τ hS R hR => ?_) (fun hsr hin σ1 hTp h2 h4 ev => ?_)
  · obtain ⟨t12, t9, t8, t10, tv⟩ := hS.2.2.2.2
    obtain ⟨V, K, hE⟩ := hS.1
    have h41 : τ 4 1 = N := hE.2.2.1.2.1
    have ft : ∀ F : Int, 1 ≤ F → FT τs (upM (upM τ 0 12 F) 0 13 (τ 0 9)) F (sT b T p : Nat) := fun F hF => FT.of t9 (by omega) hS.2.2.1 hF
    have g41 : ∀ F : Int, upM (upM τ 0 12 F) 0 13 (τ 0 9) 4 1 = N := fun F => by rw [upM_q (by decide), upM_q (by decide)]; exact h41
    have c2 : ∀ F : Int, 1 ≤ F → (∀ r τ', PRf τs F (sT b T p : Nat) r τ' → R r τ') → C2 many N (upM (upM (upM τ 0 12 F) 0 13 (τ 0 9)) 4 (3 + 2 * (N : Int)) 0) R := fun F hF hR => fC2 (ft F hF).up4 hN4 (by rw [upM_j (by omega)]; exact g41 F) ⟨by omega, by omega⟩ hR
    refine ⟨fun _ => X8_readLineOf_E ⟨fun _ => ?_, fun e => absurd e (by decide), fun e => absurd rfl e.1⟩, fun z => by omega⟩
    rw [h41]
    refine ⟨⟨by omega, by omega⟩, ⟨by omega, by omega⟩, readNumber_s t12 (fun z => ?_) (fun z z2 => ?_) (fun z z2 => ?_)⟩
    · rcases hcase with ⟨e, _⟩ | ⟨_, e, _⟩
      · subst e; exact tail R _ _ (g41 2) (c2 2 (by decide) hR)
      · rw [t10, e] at z; exact absurd rfl z
    · rcases hcase with ⟨_, e⟩ | ⟨e, e1, _⟩
      · rw [t10] at z; exact absurd (srM2.1.mp z) e
      · subst e; exact tail R _ _ (g41 3) (c2 3 (by decide) hR)
    · rcases hcase with ⟨_, e⟩ | ⟨_, e1, e2⟩
      · rw [t10] at z; exact absurd (srM2.1.mp z) e
      · rw [tv e1] at z2; exact absurd z2 e2
  · have e5 : σ1 36 5 = 1 := by rw [hTp.1 36 (by decide)]; exact hC.2.2.1.1
    refine ⟨fun z => absurd e5 z, fun _ => ⟨⟨by omega, by omega⟩, ?_⟩⟩
    rw [ev]
    have f36 : ∀ j : Int, j ≠ 5 → j ≠ 6 → upM (upM σ1 36 6 (val b T p)) 36 5 2 36 j = σ 36 j := fun j a c => by rw [upM_j a, upM_j c, hTp.1 36 (by decide)]
    have fq : ∀ q, q ≠ 36 → upM (upM σ1 36 6 (val b T p)) 36 5 2 q = σ1 q := fun q a => by rw [upM_q a, upM_q a]
    have hC2 : CR σs T (t + 1) (nxt b T p) 2 many N (upM (upM σ1 36 6 (val b T p)) 36 5 2) := hC.next hTp h4 (by omega) (((hC.1.tp hTp).up (by decide)).up (by decide)) (fq 37 (by decide)) upM_s (by rw [f36 3 (by decide) (by decide)]; exact hC.2.2.1.2.1) (by rw [f36 4 (by decide) (by decide)]; exact hC.2.2.1.2.2.1) ⟨by rw [f36 2 (by decide) (by decide)]; exact hC.2.2.1.2.2.2.1, by omega⟩ (by rw [f36 7 (by decide) (by decide), f36 8 (by decide) (by decide)]; exact hC.2.2.2.1) (by rw [fq 21 (by decide), hTp.1 21 (by decide)]; exact hC.2.2.2.2)
    have ih := h2' _ _ _ _ (val b T p) hN4 hin (by rw [upM_j (by decide), upM_s]) hC2
    refine goP (by omega) (by simpa using ih) (fun σf hP τ hS => ?_)
    obtain ⟨t12, t9, t8, t10, tv⟩ := hS.2.2.2.2
    have ev2 := tv hsr
    obtain ⟨⟨V, K, hE⟩, ⟨q4, q5⟩, hKy, h7y, _⟩ := hS
    have h41 : τ 4 1 = N := hE.2.2.1.2.1
    refine ⟨fun _ => X8_readLineOf_E ⟨fun _ => ?_, fun e => absurd e (by decide), fun e => absurd rfl e.1⟩, fun z => by omega⟩
    rw [h41]
    refine ⟨⟨by omega, by omega⟩, ⟨by omega, by omega⟩, readNumber_s t12 (fun z => absurd (by rw [t10, hsr]; rfl) z) (fun _ z2 => absurd (by rw [ev2]; exact hin) z2) (fun _ _ => nextM hT hbm hn.2.1 hKy h7y t12 t8 (fun τ' hM hK h7 hw2 hok2 => ?_))⟩
    rw [ev2]
    have e4 := hM.1 4 (by decide)
    have e41 : τ' 4 1 = N := by rw [e4]; exact h41
    refine tail _ _ τ' e41 ?_
    by_cases z2 : srt b T (nxt b T p) = 4
    · exact fC2 (hw2 z2).up4 hN4 (by rw [upM_j (by omega)]; exact e41) ⟨by omega, by omega⟩ (prW hP z2)
    · have hN5 := hE.2.2.1.2.2.1.1
      refine hP.2.2.2 z2 _ ⟨⟨V, K, ?_⟩, ⟨?_, ?_⟩, hK.up4, by rw [upM_q (by decide)]; exact h7, ?_⟩ upM_s
      · -- beyond the heirs nothing is said
        obtain ⟨a1, a2, ⟨a3, a4, a5, a6⟩, a7, a8, a9, a10⟩ := hE
        have fd : ∀ q, 21 ≤ q → q ≤ 25 → upM (upM σ1 36 6 (val b T p)) 36 5 2 q = σ q := fun q a c => by rw [fq q (by omega), hTp.1 q (by omega)]
        have g : ∀ j : Int, j ≠ 3 + 2 * (N : Int) → upM τ' 4 (3 + 2 * (N : Int)) (val b T p) 4 j = τ 4 j := fun j a => by rw [upM_j a, e4]
        refine ⟨⟨a1.1, by rw [fd 21 (by decide) (by decide)]; exact a1.2.1, by rw [g 0 (by omega)]; exact a1.2.2⟩, ⟨a2.1, by rw [fd 21 (by decide) (by decide)]; exact a2.2.1, by rw [g 2 (by omega)]; exact a2.2.2⟩, ⟨by rw [fd 21 (by decide) (by decide)]; exact a3, by rw [g 1 (by omega)]; exact a4, by rw [fd (21 + 1) (by decide) (by decide), fd (21 + 2) (by decide) (by decide)]; exact a5, fun i x y => ?_⟩, a7, by rw [fd 21 (by decide) (by decide)]; exact a8, by rw [g 13 (by omega)]; exact a9, fun k x y => by omega⟩
        rw [g _ (by omega), g _ (by omega), fd (21 + 1) (by decide) (by decide), fd (21 + 2) (by decide) (by decide)]
        exact a6 i x y
      · rw [upM_q (by decide), hM.2 4 (by decide), f36 7 (by decide) (by decide)]; exact q4
      · rw [upM_q (by decide), hM.2 5 (by decide), f36 8 (by decide) (by decide)]; exact q5
      · unfold TKok; rw [upM_q (show (0 : Nat) ≠ 4 by decide)]; exact hok2 z2
end SIM12
