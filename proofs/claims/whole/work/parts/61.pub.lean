/-! ===== fractions in lowest terms ===== -/
theorem gcd_step (h l : Nat) : Nat.gcd l (h % l) = Nat.gcd h l := by rw [Nat.gcd_comm h l, Nat.gcd_rec l h, Nat.gcd_comm]
theorem divisor_9 {σ : Mem} {Q : Int → Mem → Prop} : ∀ (m h l s : Nat), l < 2 ^ m → s + 2 * m ≤ 100 → Q (Nat.gcd h l : Nat) σ → LX7_divisor_9 h l s σ Q := by
  intro m
  induction m with
  | zero =>
    intro h l s hl hs hQ
    have e : l = 0 := by have : l < 1 := hl; omega
    subst e
    rw [Nat.gcd_zero_right] at hQ
    exact X7_divisor_9 ⟨fun _ => hQ, fun _ => ⟨fun _ => hQ, fun z => absurd rfl z⟩⟩
  | succ m ih =>
    intro h l s hl hs hQ
    by_cases e : l = 0
    · subst e
      rw [Nat.gcd_zero_right] at hQ
      exact X7_divisor_9 ⟨fun _ => hQ, fun _ => ⟨fun _ => hQ, fun z => absurd rfl z⟩⟩
    · refine X7_divisor_9 ⟨fun z => by omega, fun _ => ⟨fun z => by omega, fun _ => remd_s (by omega) (by omega) ⟨⟨by omega, by omega⟩, ?_⟩⟩⟩
      rw [show ((h : Int) % (l : Int)) = ((h % l : Nat) : Int) from rfl]
      have hr : h % l < l := Nat.mod_lt _ (by omega)
      rw [← gcd_step] at hQ
      by_cases e2 : h % l = 0
      · rw [e2, Nat.gcd_zero_right] at hQ
        rw [e2]
        exact X7_divisor_9 ⟨fun _ => hQ, fun _ => ⟨fun _ => hQ, fun z => absurd rfl z⟩⟩
      · refine X7_divisor_9 ⟨fun z => by omega, fun _ => ⟨fun z => by omega, fun _ => remd_s (by omega) (by omega) ⟨⟨by omega, by omega⟩, ?_⟩⟩⟩
        rw [show ((l : Int) % ((h % l : Nat) : Int)) = ((l % (h % l) : Nat) : Int) from rfl]
        rw [← gcd_step] at hQ
        have hr2 : l % (h % l) < h % l := Nat.mod_lt _ (by omega)
        have hd : h % l + l % (h % l) ≤ l := by
          have := Nat.mod_add_div l (h % l)
          have h1 : 1 ≤ l / (h % l) := Nat.div_pos (by omega) (by omega)
          have h2 : h % l * 1 ≤ h % l * (l / (h % l)) := Nat.mul_le_mul_left _ h1
          omega
        have hp : 2 ^ (m + 1) = 2 * 2 ^ m := by rw [Nat.pow_succ]; omega
        have := ih (h % l) (l % (h % l)) (s + 1 + 1) (by omega) (by omega) hQ
        simpa using this
theorem divisor_s {σ : Mem} {a b : Int} (ha : 0 ≤ a) (hb : 0 ≤ b) (hb2 : b < 1125899906842624) {Q : Int → Mem → Prop} (hQ : Q (Nat.gcd a.toNat b.toNat : Nat) σ) : CJ layC MX7_divisor [vJ a, vJ b] σ Q := by
  have := divisor_9 (σ := σ) (Q := Q) 50 a.toNat b.toNat 0 (by omega) (by decide) hQ
  rw [show ((a.toNat : Nat) : Int) = a by omega, show ((b.toNat : Nat) : Int) = b by omega] at this
  exact X7_divisor_E this
theorem common_6 {τ : Mem} {Q : Int → Mem → Prop} : ∀ (n y x : Nat), y ≤ n → Q (Nat.gcd x y : Nat) τ → LX8_common_6 x y τ Q := by
  intro n
  induction n with
  | zero =>
    intro y x hy hQ
    have e : y = 0 := by omega
    subst e
    rw [Nat.gcd_zero_right] at hQ
    exact X8_common_6 ⟨fun _ => hQ, fun z => absurd rfl z⟩
  | succ n ih =>
    intro y x hy hQ
    by_cases e : y = 0
    · subst e
      rw [Nat.gcd_zero_right] at hQ
      exact X8_common_6 ⟨fun _ => hQ, fun z => absurd rfl z⟩
    · refine X8_common_6 ⟨fun z => by omega, fun z => ⟨z, ?_⟩⟩
      rw [Int.tmod_eq_emod_of_nonneg (by omega), show ((x : Int) % (y : Int)) = ((x % y : Nat) : Int) from rfl]
      rw [← gcd_step] at hQ
      exact ih (x % y) y (by have := Nat.mod_lt x (show 0 < y by omega); omega) hQ
theorem common_s {τ : Mem} {a b : Int} (ha : 0 ≤ a) (hb : 0 ≤ b) {Q : Int → Mem → Prop} (hQ : Q (Nat.gcd a.toNat b.toNat : Nat) τ) : CJ layM MX8_common [vJ a, vJ b] τ Q := by
  have := common_6 (τ := τ) (Q := Q) b.toNat b.toNat a.toNat (Nat.le_refl _) hQ
  rw [show ((a.toNat : Nat) : Int) = a by omega, show ((b.toNat : Nat) : Int) = b by omega] at this
  exact X8_common_E this
/-- the numerator or the denominator in lowest terms -/
def fracF (up down what : Int) : Int := if what = 0 then Int.tdiv up (Nat.gcd up.natAbs down.toNat : Nat) else Int.tdiv down (Nat.gcd up.natAbs down.toNat : Nat)
theorem tdiv_bd {a g : Int} (hg : 0 < g) {B : Int} (h : -B ≤ a ∧ a ≤ B) : -B ≤ Int.tdiv a g ∧ Int.tdiv a g ≤ B := by
  rcases ltge a 0 with z | z
  · have e : Int.tdiv a g = -(Int.tdiv (-a) g) := by rw [Int.neg_tdiv, Int.neg_neg]
    rw [e, Int.tdiv_eq_ediv_of_nonneg (by omega)]
    have h1 := Int.ediv_nonneg (show 0 ≤ -a by omega) (show 0 ≤ g by omega)
    have h2 := Int.ediv_le_self g (show 0 ≤ -a by omega)
    omega
  · rw [Int.tdiv_eq_ediv_of_nonneg z]
    have h1 := Int.ediv_nonneg z (show 0 ≤ g by omega)
    have h2 := Int.ediv_le_self g z
    omega
theorem gcdp {a b : Nat} (h : 0 < b) : (0 : Int) < (Nat.gcd a b : Nat) := by have := Nat.gcd_pos_of_pos_right a h; omega
theorem absI_toNat (x : Int) : 0 ≤ absI x ∧ (absI x).toNat = x.natAbs := by unfold absI; split <;> omega
theorem fraction_s {up down what : Int} (hu : -9000000000000000000 ≤ up ∧ up ≤ 9000000000000000000) (hd : 0 < down ∧ down < 1125899906842624) {σ : Mem} {Q : Int → Mem → Prop} (hQ : Q (fracF up down what) σ) : CJ layC MX7_fraction [vJ up, vJ down, vI what] σ Q := by
  refine X7_fraction_E ⟨⟨by omega, by omega⟩, divisor_s (absI_toNat up).1 (by omega) hd.2 ?_⟩
  rw [(absI_toNat up).2]
  have hg : (0 : Int) < (Nat.gcd up.natAbs down.toNat : Nat) := gcdp (by omega)
  unfold fracF at hQ
  refine ⟨fun z => X7_quotient_E ⟨fun z2 => by omega, fun _ => ⟨by omega, ?_, ?_⟩⟩, fun z => X7_quotient_E ⟨fun z2 => by omega, fun _ => ⟨by omega, ?_, ?_⟩⟩⟩
  · have := tdiv_bd hg (a := down) (B := 1125899906842624) (by omega); exact ⟨by omega, by omega⟩
  · rwa [if_neg z] at hQ
  · have := tdiv_bd hg hu; exact ⟨by omega, by omega⟩
  · rwa [if_pos z] at hQ
theorem lowest_s {up down what : Int} (hu : -9000000000000000000 ≤ up ∧ up ≤ 9000000000000000000) (hd : 0 < down ∧ down < 1125899906842624) {τ : Mem} {Q : Int → Mem → Prop} (hQ : Q (fracF up down what) τ) : CJ layM MX8_lowest [vJ up, vJ down, vI what] τ Q := by
  have hg : (0 : Int) < (Nat.gcd up.natAbs down.toNat : Nat) := gcdp (by omega)
  unfold fracF at hQ
  have b1 := tdiv_bd hg (a := down) (B := 1125899906842624) (by omega)
  have b2 := tdiv_bd hg hu
  have fin : ((what ≠ 0 → ((Nat.gcd up.natAbs down.toNat : Nat) : Int) ≠ 0 ∧ I64 (Int.tdiv down (Nat.gcd up.natAbs down.toNat : Nat)) ∧ Q (Int.tdiv down (Nat.gcd up.natAbs down.toNat : Nat)) τ) ∧ (what = 0 → ((Nat.gcd up.natAbs down.toNat : Nat) : Int) ≠ 0 ∧ I64 (Int.tdiv up (Nat.gcd up.natAbs down.toNat : Nat)) ∧ Q (Int.tdiv up (Nat.gcd up.natAbs down.toNat : Nat)) τ)) :=
    ⟨fun z => ⟨by omega, ⟨by omega, by omega⟩, by rwa [if_neg z] at hQ⟩, fun z => ⟨by omega, ⟨by omega, by omega⟩, by rwa [if_pos z] at hQ⟩⟩
  refine X8_lowest_E ⟨fun z => common_s (by omega) z ?_, fun z => ⟨⟨by omega, by omega⟩, common_s (by omega) (by omega) ?_⟩⟩
  · rw [Nat.gcd_comm, show up.toNat = up.natAbs by omega]; exact fin
  · rw [Nat.gcd_comm, show (-up).toNat = up.natAbs by omega]; exact fin
section FRAC
variable {σs τs : Mem}
theorem T_told (h : Rel σs τs) (x y : Int) : TJ MX7_told MX8_told [vI x, vI y] σs τs := by
  obtain ⟨V, N, S, K, hE⟩ := h.1
  have hV := hE.1.1
  have hok := hE.2.2.1.2.2.1
  have h5 := hok.1
  by_cases hx : 0 ≤ x ∧ x < N
  · by_cases hy : 0 ≤ y ∧ y ≤ 1
    · obtain ⟨bu, bd⟩ := hok.2 x hx.1 hx.2
      have bu : 1 ≤ σs 2 x ∧ σs 2 x ≤ 9 := bu
      have bd : 1 ≤ σs 3 x ∧ σs 3 x ≤ 99 := bd
      have hu2 : τs 1 (3 + 2 * x) = σs 2 x ∧ τs 1 (3 + 2 * x + 1) = σs 3 x := hE.2.2.1.2.2.2 x hx.1 hx.2
      have m := mulbd (show 0 ≤ (V : Int) by omega) (show (V : Int) ≤ 999 by omega) (show 0 ≤ σs 2 x by omega) bu.2
      refine TJ_of h (F := fracF (V * σs 2 x) (σs 3 x) y) (X7_told_E (has_s isE_1 hE.2.2.1.1 (gF (fun _ => within_s (gT (fun _ => ?_) (fun z => absurd hy z))) (fun z => absurd hx z)))) (X8_told_E (isHeir_s hE.2.2.1.2.1 h5 (gF (fun _ => isPart_s (gF (fun _ => ?_) (fun z => absurd hy z))) (fun z => absurd hx z))))
      · rw [hE.1.2.1]
        exact ⟨hx.1, by omega, ⟨by omega, by omega⟩, hx.1, by omega, fraction_s (by omega) (by omega) ⟨rfl, KC.rf⟩⟩
      · rw [hE.1.2.2, hu2.1, hu2.2]
        exact ⟨⟨by omega, by omega⟩, ⟨by omega, by omega⟩, by omega, by omega, ⟨by omega, by omega⟩, ⟨by omega, by omega⟩, ⟨by omega, by omega⟩, ⟨by omega, by omega⟩, by omega, by omega, lowest_s (by omega) (by omega) ⟨rfl, KM.rf⟩⟩
    · exact TJ_of h (F := -1) (X7_told_E (has_s isE_1 hE.2.2.1.1 (gF (fun _ => within_s (gT (fun z => absurd z hy) (fun _ => ⟨rfl, KC.rf⟩))) (fun z => absurd hx z)))) (X8_told_E (isHeir_s hE.2.2.1.2.1 h5 (gF (fun _ => isPart_s (gF (fun z => absurd z hy) (fun _ => ⟨rfl, KM.rf⟩))) (fun z => absurd hx z))))
  · exact TJ_of h (F := -1) (X7_told_E (has_s isE_1 hE.2.2.1.1 (gF (fun z => absurd z hx) (fun _ => ⟨rfl, KC.rf⟩)))) (X8_told_E (isHeir_s hE.2.2.1.2.1 h5 (gF (fun z => absurd z hx) (fun _ => ⟨rfl, KM.rf⟩))))
theorem T_sum (h : Rel σs τs) (y : Int) : TJ MX7_sum MX8_sum [vI y] σs τs := by
  obtain ⟨V, N, S, K, hE⟩ := h.1
  have hW := okW_of hE.2.2.1.2.2.1
  have hc : 1 ≤ cmD (σs 3) N ∧ cmD (σs 3) N ≤ 9509900499 := hW.2.1
  have ha : 0 ≤ alD (σs 2) (σs 3) N ∧ alD (σs 2) (σs 3) N ≤ 427945522455 := hW.2.2.2.2.1
  by_cases hy : 0 ≤ y ∧ y ≤ 1
  · refine TJ_of h (F := fracF (alD (σs 2) (σs 3) N) (cmD (σs 3) N) y) (X7_sum_E (within_s (gT (fun _ => load1_s hE (fun σ' hF hL => ?_)) (fun z => absurd hy z)))) (X8_sum_E (isPart_s (gT (fun _ => msStart_s hE (fun τ1 hM => ?_)) (fun z => absurd hy z))))
    · rw [hL.2.2.1, hL.2.1]
      exact fraction_s (by omega) (by omega) ⟨rfl, hF.kc⟩
    · rw [hM.2.2.2.2.2.1, hM.2.2.2.2.1]
      exact lowest_s (by omega) (by omega) ⟨rfl, hM.1⟩
  · exact TJ_of h (F := -1) (X7_sum_E (within_s (gT (fun z => absurd z hy) (fun _ => ⟨rfl, KC.rf⟩)))) (X8_sum_E (isPart_s (gT (fun z => absurd z hy) (fun _ => ⟨rfl, KM.rf⟩))))
theorem T_over (h : Rel σs τs) (x y : Int) : TJ MX7_over MX8_over [vI x, vI y] σs τs := by
  obtain ⟨V, N, S, K, hE⟩ := h.1
  have hV := hE.1.1
  have hok := hE.2.2.1.2.2.1
  have h5 := hok.1
  by_cases hx : 0 ≤ x ∧ x < N
  · by_cases hy : 0 ≤ y ∧ y ≤ 1
    · obtain ⟨bu, bd⟩ := hok.2 x hx.1 hx.2
      have bu : 1 ≤ σs 2 x ∧ σs 2 x ≤ 9 := bu
      have bd : 1 ≤ σs 3 x ∧ σs 3 x ≤ 99 := bd
      have hu2 : τs 1 (3 + 2 * x) = σs 2 x ∧ τs 1 (3 + 2 * x + 1) = σs 3 x := hE.2.2.1.2.2.2 x hx.1 hx.2
      have bg := GE_bd hE K V hx.1 hx.2
      have m := mulbd (show 0 ≤ (V : Int) by omega) (show (V : Int) ≤ 999 by omega) (show 0 ≤ σs 2 x by omega) bu.2
      have m2 := mulbd bg.1 (show GE σs N K V x ≤ 999 by omega) (show 0 ≤ σs 3 x by omega) bd.2
      refine TJ_of h (F := fracF (GE σs N K V x * σs 3 x - V * σs 2 x) (σs 3 x) y) (X7_over_E (has_s isE_1 hE.2.2.1.1 (gF (fun _ => within_s (gT (fun _ => pgNow_s hE (fun σ' hK hP => ⟨rfl, got_s isPt_26 h5 hP.1.1 hx.1 hx.2 ?_⟩)) (fun z => absurd hy z))) (fun z => absurd hx z)))) (X8_over_E (isHeir_s hE.2.2.1.2.1 h5 (gF (fun _ => isPart_s (gT (fun _ => msStart_s hE (fun τ1 hM => msNow_s hE hM (fun τ2 _ hM2 hg => ?_))) (fun z => absurd hy z))) (fun z => absurd hx z))))
      · rw [hP.2.2.2 x hx.1 hx.2, hK.1 1 (by omega), hK.1 2 (by omega), hK.1 3 (by omega), hE.1.2.1]
        exact ⟨hx.1, by omega, ⟨by omega, by omega⟩, hx.1, by omega, ⟨by omega, by omega⟩, ⟨by omega, by omega⟩, hx.1, by omega, fraction_s (by omega) (by omega) ⟨rfl, hK⟩⟩
      · rw [hg x hx.1 hx.2, hM2.1.1 1 (by omega), hE.1.2.2, hu2.1, hu2.2]
        exact ⟨⟨by omega, by omega⟩, ⟨by omega, by omega⟩, ⟨by omega, by omega⟩, by omega, by omega, hx.1, by omega, ⟨by omega, by omega⟩, ⟨by omega, by omega⟩, ⟨by omega, by omega⟩, by omega, by omega, ⟨by omega, by omega⟩, ⟨by omega, by omega⟩, lowest_s (by omega) (by omega) ⟨rfl, hM2.1⟩⟩
    · exact TJ_of h (F := -1) (X7_over_E (has_s isE_1 hE.2.2.1.1 (gF (fun _ => within_s (gT (fun z => absurd z hy) (fun _ => ⟨rfl, KC.rf⟩))) (fun z => absurd hx z)))) (X8_over_E (isHeir_s hE.2.2.1.2.1 h5 (gF (fun _ => isPart_s (gT (fun z => absurd z hy) (fun _ => ⟨rfl, KM.rf⟩))) (fun z => absurd hx z))))
  · exact TJ_of h (F := -1) (X7_over_E (has_s isE_1 hE.2.2.1.1 (gF (fun z => absurd z hx) (fun _ => ⟨rfl, KC.rf⟩)))) (X8_over_E (isHeir_s hE.2.2.1.2.1 h5 (gF (fun z => absurd z hx) (fun _ => ⟨rfl, KM.rf⟩))))
end FRAC
