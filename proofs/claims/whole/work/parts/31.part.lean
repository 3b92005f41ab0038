/-! ===== Parting: giving ===== -/
section GIVE
variable {b N : Nat} {w : Int → Int} {c a : Int} {σ0 : Mem}
/-- all but the cells b + 2, b + 3 is as it was -/
def Fg (b : Nat) (σ σ' : Mem) : Prop := ∀ q, q ≠ b + 2 → q ≠ b + 3 → σ' q = σ q
theorem Fg.rf {σ : Mem} : Fg b σ σ := fun _ _ _ => rfl
theorem Fg.up2 {σ σ' : Mem} {j x : Int} (h : Fg b σ σ') : Fg b σ (upM σ' (b + 2) j x) := fun q h1 h2 => by rw [upM_q h1]; exact h q h1 h2
theorem Fg.up3 {σ σ' : Mem} {j x : Int} (h : Fg b σ σ') : Fg b σ (upM σ' (b + 3) j x) := fun q h1 h2 => by rw [upM_q h2]; exact h q h1 h2
theorem Fg.trans {σ σ' σ'' : Mem} (h : Fg b σ σ') (h2 : Fg b σ' σ'') : Fg b σ σ'' := fun q x y => (h2 q x y).trans (h q x y)
theorem PL.fg {σ σ' : Mem} (h : PL σ b N w c a) (hF : Fg b σ σ') : PL σ' b N w c a := by
  have e0 := hF b (by omega) (by omega)
  have e1 := hF (b + 1) (by omega) (by omega)
  exact ⟨by rw [e0]; exact h.1, by rw [e0]; exact h.2.1, by rw [e0]; exact h.2.2.1, fun i x y => by rw [e1]; exact h.2.2.2 i x y⟩
theorem vw_bd (hW : okW N w c a) {v : Nat} (hv : v ≤ 2000) {i : Int} (h0 : 0 ≤ i) (h1 : i < N) : 0 ≤ (v : Int) * w i ∧ (v : Int) * w i ≤ 171178208982000 := by
  have := hW.2.2.1 i h0 h1
  have := mulbd (x := (v : Int)) (X := 2000) (y := w i) (Y := 85589104491) (by omega) (by omega) (by omega) (by omega)
  omega
theorem told_7 (hb : isPt b) (hW : okW N w c a) {v : Nat} (hv : v ≤ 2000) {Q : Mem → Prop} (hQ : ∀ σ', Fg b σ0 σ' → (∀ i : Int, 0 ≤ i → i < N → σ' (b + 3) i = toldG w c v i) → Q σ') (hL : PL σ0 b N w c a) (h8 : σ0 b 8 = v) :
    ∀ (m k : Nat) (σ : Mem), k + m = N → Fg b σ0 σ → (∀ i : Int, 0 ≤ i → i < k → σ (b + 3) i = toldG w c v i) → LX2_giveTold_7 b (toldL w c v k) k σ Q := by
  have h5 := hW.1
  intro m
  induction m with
  | zero =>
    intro k σ hk hF hg
    have hL' := hL.fg hF
    refine X2_giveTold_7 hb ⟨fun _ => hQ σ hF (fun i x y => hg i x (by omega)), fun h => ?_⟩
    rw [hL'.1] at h; omega
  | succ m ih =>
    intro k σ hk hF hg
    have hL' := hL.fg hF
    have h8' : σ b 8 = v := by rw [hF b (by omega) (by omega), h8]
    refine X2_giveTold_7 hb ⟨fun h => ?_, fun h => ?_⟩
    · rw [hL'.1] at h; omega
    · have hvw := vw_bd hW hv (i := k) (by omega) (by omega)
      rw [h8', hL'.2.2.2 k (by omega) (by omega), hL'.2.1]
      refine ⟨by omega, by omega, ⟨by omega, by omega⟩, ?_⟩
      refine quot_s (by have := hW.2.1; omega) (by omega) (by omega) ?_
      have ht := toldL_bd (w := w) (c := c) (v := v) (by omega) (by have := hW.2.1; omega) (k := k) (fun i x y => by have := (hW.2.2.1 i x (by omega)).1; omega)
      have hq : 0 ≤ (v : Int) * w k / c := Int.ediv_nonneg hvw.1 (by have := hW.2.1; omega)
      rw [upM_s]
      have eg : toldG w c v k = min (toldL w c v k) ((v : Int) * w k / c) := rfl
      refine ⟨⟨by omega, by omega⟩, by omega, by omega, by omega, by omega, ⟨by omega, by omega⟩, ⟨by omega, by omega⟩, ?_⟩
      have := ih (k + 1) (upM σ (b + 3) k (min (toldL w c v k) ((v : Int) * w k / c))) (by omega) hF.up3 (fun i x y => ?_)
      · simpa [toldL] using this
      · by_cases hi : i = k
        · rw [hi, upM_s, eg]
        · rw [upM_j hi]; exact hg i x (by omega)
theorem giveTold_s (hb : isPt b) (hW : okW N w c a) {v : Nat} (hv : v ≤ 2000) {Q : Mem → Prop} (hL : PL σ0 b N w c a) (h8 : σ0 b 8 = v) (hQ : ∀ σ', Fg b σ0 σ' → (∀ i : Int, 0 ≤ i → i < N → σ' (b + 3) i = toldG w c v i) → Q σ') : CV layC MX2_giveTold [vP b] σ0 Q := by
  refine X2_giveTold_E hb ?_
  rw [h8]
  exact told_7 hb hW hv hQ hL h8 N 0 σ0 (by omega) Fg.rf (fun i x y => by omega)
theorem quotasLess_s (hb : isPt b) (hW : okW N w c a) {v : Nat} (hv : v ≤ 2000) {f : Int} (hf : 0 ≤ f ∧ f ≤ 3) {Q : Mem → Prop} (hL : PL σ0 b N w c a) (h8 : σ0 b 8 = v) (hQ : ∀ σ', (∀ q, q ≠ b + 3 → σ' q = σ0 q) → (∀ i : Int, 0 ≤ i → i < N → σ' (b + 3) i = max 0 ((v : Int) * w i / a - f)) → Q σ') : CV layC MX2_giveQuotasLess [vP b, vI f] σ0 Q := by
  have h5 := hW.1
  have key : ∀ (m k : Nat) (σ : Mem), k + m = N → (∀ q, q ≠ b + 3 → σ q = σ0 q) → (∀ i : Int, 0 ≤ i → i < k → σ (b + 3) i = max 0 ((v : Int) * w i / a - f)) → LX2_giveQuotasLess_2 b f k σ Q := by
    intro m
    induction m with
    | zero =>
      intro k σ hk hF hg
      refine X2_giveQuotasLess_2 hb ⟨fun _ => hQ σ hF (fun i x y => hg i x (by omega)), fun h => ?_⟩
      rw [hF b (by omega), hL.1] at h; omega
    | succ m ih =>
      intro k σ hk hF hg
      have e0 := hF b (by omega)
      have e1 := hF (b + 1) (by omega)
      refine X2_giveQuotasLess_2 hb ⟨fun h => ?_, fun h => ?_⟩
      · rw [e0, hL.1] at h; omega
      · have hvw := vw_bd hW hv (i := k) (by omega) (by omega)
        have ha := hW.2.2.2.2.2.1 (by omega)
        rw [e0, e1, h8, hL.2.2.2 k (by omega) (by omega), hL.2.2.1]
        refine ⟨by omega, by omega, ⟨by omega, by omega⟩, quot_s (by omega) (by omega) (by omega) ?_⟩
        have hq0 : 0 ≤ (v : Int) * w k / a := Int.ediv_nonneg hvw.1 (by omega)
        have hq1 : (v : Int) * w k / a ≤ v := by
          have := Int.mul_le_mul_of_nonneg_left (hW.2.2.2.2.2.2 k (by omega) (by omega)) (show 0 ≤ (v : Int) by omega)
          have h2 := Int.ediv_le_ediv (show 0 < a by omega) this
          rwa [Int.mul_ediv_cancel _ (by omega)] at h2
        refine ⟨⟨by omega, by omega⟩, ⟨by omega, by omega⟩, by omega, by omega, ⟨by omega, by omega⟩, ?_⟩
        have := ih (k + 1) (upM σ (b + 3) k (max 0 ((v : Int) * w k / a - f))) (by omega) (fun q hq => by rw [upM_q hq]; exact hF q hq) (fun i x y => ?_)
        · simpa using this
        · by_cases hi : i = k
          · rw [hi, upM_s]
          · rw [upM_j hi]; exact hg i x (by omega)
  refine X2_giveQuotasLess_E hb ?_
  exact key N 0 σ0 (by omega) (fun _ _ => rfl) (fun i x y => by omega)
theorem given_s (hb : isPt b) (hN5 : N ≤ 5) (h6 : σ0 b 6 = N) (hg : ∀ i : Int, 0 ≤ i → i < N → 0 ≤ σ0 (b + 3) i ∧ σ0 (b + 3) i ≤ 3000) {Q : Int → Mem → Prop} (hQ : Q (sumF (σ0 (b + 3)) N) σ0) : CI layC MX2_given [vP b] σ0 Q := by
  have key : ∀ (m k : Nat), k + m = N → LX2_given_4 b (sumF (σ0 (b + 3)) k) k σ0 Q := by
    intro m
    induction m with
    | zero =>
      intro k hk
      refine X2_given_4 hb ⟨fun _ => ?_, fun h => ?_⟩
      · rw [show k = N by omega]; exact hQ
      · rw [h6] at h; omega
    | succ m ih =>
      intro k hk
      refine X2_given_4 hb ⟨fun h => ?_, fun h => ?_⟩
      · rw [h6] at h; omega
      · have h1 := hg k (by omega) (by omega)
        have h2 := sumF_nonneg (f := σ0 (b + 3)) (n := k) (fun i x y => (hg i x (by omega)).1)
        have h3 := sumF_bd (f := σ0 (b + 3)) (B := 3000) (n := k) (fun i x y => (hg i x (by omega)).2)
        refine ⟨by omega, by omega, ⟨by omega, by omega⟩, ⟨by omega, by omega⟩, ?_⟩
        have := ih (k + 1) (by omega)
        simpa [sumF] using this
  refine X2_given_E hb ?_
  exact key N 0 (by omega)
theorem greatest_s (hb : isPt b) (hN : 0 < N) (hN5 : N ≤ 5) (h6 : σ0 b 6 = N) (hg : ∀ i : Int, 0 ≤ i → i < N → 0 ≤ σ0 (b + 3) i ∧ σ0 (b + 3) i ≤ 3000) {Q : Mem → Prop} (hQ : Q (upM (upM σ0 (b + 3) (pickM (σ0 (b + 2)) N) (σ0 (b + 3) (pickM (σ0 (b + 2)) N) + 1)) (b + 2) (pickM (σ0 (b + 2)) N) (-1))) : CV layC MX2_giveByGreatestRest [vP b] σ0 Q := by
  have key : ∀ (m k : Nat), k + m = N → 0 < k → LX2_giveByGreatestRest_4 b (pickM (σ0 (b + 2)) k) k σ0 Q := by
    intro m
    induction m with
    | zero =>
      intro k hk hk0
      have hp := pickM_in (r := σ0 (b + 2)) hk0
      refine X2_giveByGreatestRest_4 hb ⟨fun _ => ⟨fun h => ?_, fun _ => ?_⟩, fun h => ?_⟩
      · rw [h6] at h; omega
      · have := hg _ hp.1 (by omega)
        rw [show k = N by omega] at hp this ⊢
        exact ⟨by omega, by omega, ⟨by omega, by omega⟩, by omega, by omega, by omega, by omega, hQ⟩
      · rw [h6] at h; omega
    | succ m ih =>
      intro k hk hk0
      have hp := pickM_in (r := σ0 (b + 2)) hk0
      have := ih (k + 1) (by omega) (by omega)
      refine X2_giveByGreatestRest_4 hb ⟨fun h => ?_, fun h => ⟨by omega, by omega, by omega, by omega, fun hc => ⟨⟨by omega, by omega⟩, ?_⟩, fun hc => ⟨⟨by omega, by omega⟩, ?_⟩⟩⟩
      · rw [h6] at h; omega
      · have e : pickM (σ0 (b + 2)) (k + 1) = pickM (σ0 (b + 2)) k := by
          rw [pickM, if_neg (fun z => by have := z.2; omega)]
        rw [e] at this
        simpa using this
      · have e : pickM (σ0 (b + 2)) (k + 1) = k := by rw [pickM, if_pos ⟨hk0, hc⟩]
        rw [e] at this
        simpa using this
  refine X2_giveByGreatestRest_E hb ?_
  have := key (N - 1) 1 (by omega) (by omega)
  have e : pickM (σ0 (b + 2)) 1 = 0 := by simp [pickM]
  rw [e] at this
  exact this
theorem greatest_0 (hb : isPt b) (h6 : σ0 b 6 = 0) {Q : Mem → Prop} (hQ : Q σ0) : CV layC MX2_giveByGreatestRest [vP b] σ0 Q := by
  refine X2_giveByGreatestRest_E hb (X2_giveByGreatestRest_4 hb ⟨fun _ => ⟨fun _ => hQ, fun h => ?_⟩, fun h => ?_⟩)
  · rw [h6] at h; omega
  · rw [h6] at h; omega
end GIVE
