/-! ===== camels that die ===== -/
def wC (C A : Nat) : Nat → Nat
  | 0 => 1
  | t + 1 => wC C A t * (C - A + (t + 1)) / (t + 1)
def sM (C : Nat) : Nat → Nat
  | 0 => 1
  | D + 1 => sM C D * (C - D) / (D + 1)
theorem bin1 : ∀ C : Fin 13, ∀ A : Fin 13, A.val ≤ C.val → wC C.val A.val A.val = sM C.val (C.val - A.val) := by decide +kernel
theorem bin2 : ∀ C : Fin 13, ∀ A : Fin 13, ∀ t : Fin 13, A.val ≤ C.val → t.val ≤ A.val → wC C.val A.val t.val ≤ 1000 := by decide +kernel
theorem bin3 : ∀ C : Fin 13, ∀ D : Fin 14, sM C.val D.val ≤ 1000 := by decide +kernel
theorem pow_bd {x : Int} (h0 : 0 ≤ x) (h1 : x ≤ 10) : ∀ (k : Nat), 0 ≤ x ^ k ∧ x ^ k ≤ 10 ^ k
  | 0 => ⟨by rw [Int.pow_zero]; decide, by rw [Int.pow_zero, Int.pow_zero]; exact Int.le_refl _⟩
  | k + 1 => by
    have ih := pow_bd h0 h1 k
    rw [Int.pow_succ, Int.pow_succ]
    exact mulbd ih.1 ih.2 h0 h1
theorem pow10 : ∀ k : Fin 13, 1 ≤ (10 : Int) ^ k.val ∧ (10 : Int) ^ k.val ≤ 1000000000000 := by decide +kernel
theorem pow10' {k : Nat} (h : k ≤ 12) : 1 ≤ (10 : Int) ^ k ∧ (10 : Int) ^ k ≤ 1000000000000 := pow10 ⟨k, by omega⟩
theorem power_s {x : Int} (h0 : 0 ≤ x) (h1 : x ≤ 10) {k : Nat} (hk : k ≤ 12) {y : Int} (hy : y = k) {σ : Mem} {Q : Int → Mem → Prop} (hQ : Q (x ^ k) σ) : CJ layC MX7_power [vI x, vI y] σ Q := by
  subst hy
  have key : ∀ (m t : Nat), t + m = k → LX7_power_5 x k (x ^ t) t σ Q := by
    intro m
    induction m with
    | zero => intro t ht; rw [show t = k by omega]; exact X7_power_5 ⟨fun _ => hQ, fun z => by omega⟩
    | succ m ih =>
      intro t ht
      have b := pow_bd h0 h1 t
      have b2 := pow10' (k := t) (by omega)
      have m1 := mulbd b.1 (show x ^ t ≤ 1000000000000 by omega) h0 h1
      refine X7_power_5 ⟨fun z => by omega, fun _ => ⟨⟨by omega, by omega⟩, ⟨by omega, by omega⟩, ?_⟩⟩
      have := ih (t + 1) (by omega)
      rw [Int.pow_succ] at this
      simpa using this
  have := key k 0 (by omega)
  rw [Int.pow_zero] at this
  exact X7_power_E this
/-- out of ten to the herd's power: that A are alive -/
def odF (C : Nat) (v : Int) (A : Nat) : Int := (sM C (C - A) : Int) * ((10 - v) ^ A * v ^ (C - A))
theorem odF_bd {C A : Nat} {v : Int} (hC : C ≤ 12) (hA : A ≤ C) (hv : 0 ≤ v ∧ v ≤ 10) : 0 ≤ odF C v A ∧ odF C v A ≤ 1000000000000000 := by
  have b1 := pow_bd (x := 10 - v) (by omega) (by omega) A
  have b2 := pow_bd hv.1 hv.2 (C - A)
  have m := mulbd b1.1 b1.2 b2.1 b2.2
  rw [← Int.pow_add, show A + (C - A) = C by omega] at m
  have b3 := pow10' hC
  have b4 : sM C (C - A) ≤ 1000 := bin3 ⟨C, by omega⟩ ⟨C - A, by omega⟩
  exact mulbd (X := 1000) (Y := 1000000000000) (by omega) (by omega) m.1 (by omega)
theorem odds_s {C A : Nat} {v c a : Int} (hC : C ≤ 12) (hA : A ≤ C) (hv : 0 ≤ v ∧ v ≤ 10) (hc : c = C) (ha : a = A) {σ : Mem} {Q : Int → Mem → Prop} (hQ : Q (odF C v A) σ) : CJ layC MX7_odds [vI c, vI a, vI v] σ Q := by
  subst hc; subst ha
  have hb : ∀ t : Nat, t ≤ A → wC C A t ≤ 1000 := fun t ht => bin2 ⟨C, by omega⟩ ⟨A, by omega⟩ ⟨t, by omega⟩ hA ht
  have key : ∀ (m t : Nat), t + m = A → LX7_odds_5 C A v (wC C A t : Nat) ((t : Int) + 1) σ Q := by
    intro m
    induction m with
    | zero =>
      intro t ht
      have e : t = A := by omega
      subst e
      have hb1 := hb t (Nat.le_refl _)
      have b1 := pow_bd (x := 10 - v) (by omega) (by omega) t
      have b2 := pow_bd hv.1 hv.2 (C - t)
      have p1 := pow10' (k := t) (by omega)
      have m1 := mulbd (x := (wC C t t : Nat)) (X := 1000) (by omega) (by omega) b1.1 (show (10 - v) ^ t ≤ 1000000000000 by omega)
      have e1 : wC C t t = sM C (C - t) := bin1 ⟨C, by omega⟩ ⟨t, by omega⟩ hA
      have od := odF_bd hC hA hv
      refine X7_odds_5 ⟨fun _ => ⟨⟨by omega, by omega⟩, power_s (by omega) (by omega) (k := t) (by omega) rfl ⟨⟨by omega, by omega⟩, ⟨by omega, by omega⟩, power_s hv.1 hv.2 (k := C - t) (by omega) (by omega) ?_⟩⟩, fun z => by omega⟩
      have e2 : ((wC C t t : Nat) : Int) * (10 - v) ^ t * v ^ (C - t) = odF C v t := by unfold odF; rw [e1, Int.mul_assoc]
      rw [e2]
      exact ⟨⟨by omega, by omega⟩, hQ⟩
    | succ m ih =>
      intro t ht
      have hb1 := hb t (by omega)
      have m1 := mulbd (x := (wC C A t : Nat)) (X := 1000) (y := (C : Int) - A + (t + 1)) (Y := 13) (by omega) (by omega) (by omega) (by omega)
      refine X7_odds_5 ⟨fun z => by omega, fun _ => ⟨⟨by omega, by omega⟩, ⟨by omega, by omega⟩, ⟨by omega, by omega⟩, quot_s (by omega) m1.1 (by omega) ⟨⟨by omega, by omega⟩, ?_⟩⟩⟩
      have := ih (t + 1) (by omega)
      rw [show ((wC C A (t + 1) : Nat) : Int) = ((wC C A t : Nat) : Int) * ((C : Int) - A + (t + 1)) / (t + 1) from by
        show (((wC C A t * (C - A + (t + 1)) / (t + 1) : Nat)) : Int) = _
        rw [Int.natCast_ediv, Int.natCast_mul]
        congr 2
        omega] at this
      simpa using this
  have := key A 0 (by omega)
  exact X7_odds_E (by simpa [wC] using this)
theorem sumF_head {f : Int → Int} : ∀ (n : Nat), sumF f (n + 1) = f 0 + sumF (fun i => f (i + 1)) n
  | 0 => by show 0 + f 0 = f 0 + 0; omega
  | n + 1 => by
    have ih := sumF_head (f := f) n
    show sumF f (n + 1) + f ((n + 1 : Nat) : Int) = f 0 + (sumF (fun i => f (i + 1)) n + f ((n : Int) + 1))
    rw [ih, Int.add_assoc]; rfl
theorem sumF_rev {g : Int → Int} : ∀ (n : Nat), sumF (fun i => g (n - i)) (n + 1) = sumF g (n + 1)
  | 0 => rfl
  | n + 1 => by
    rw [sumF_head, show sumF g (n + 1 + 1) = sumF g (n + 1) + g ((n + 1 : Nat) : Int) from rfl, ← sumF_rev n, Int.sub_zero, Int.add_comm]
    congr 1
    refine sumF_congr (fun i a b => ?_)
    show g _ = g _
    congr 1
    omega
def mnT (σs : Mem) (C N : Nat) (K v x : Int) (i : Int) : Int := odF C v i.toNat * GE σs N K i.toNat x
def lkT (σs : Mem) (C N : Nat) (K v x n : Int) (i : Int) : Int := if n ≤ GE σs N K i.toNat x then odF C v i.toNat else 0
section DIE
variable {V N S : Nat} {K : Int} {σs τs σ τ : Mem} {f : Int → Int}
theorem mnT_bd (hE : rE σs 1 f V N S K) (hV : V ≤ 12) {v x i : Int} (hv : 0 ≤ v ∧ v ≤ 10) (hx : 0 ≤ x ∧ x < N) (h0 : 0 ≤ i) (h1 : i ≤ V) : 0 ≤ mnT σs V N K v x i ∧ mnT σs V N K v x i ≤ 12000000000000000 := by
  have b := odF_bd (A := i.toNat) hV (by omega) hv
  have g := GE_bd hE K i.toNat hx.1 hx.2
  exact mulbd (X := 1000000000000000) (Y := 12) b.1 b.2 g.1 (by omega)
theorem lkT_bd (hV : V ≤ 12) {v x i n : Int} (hv : 0 ≤ v ∧ v ≤ 10) (h0 : 0 ≤ i) (h1 : i ≤ V) : 0 ≤ lkT σs V N K v x n i ∧ lkT σs V N K v x n i ≤ 12000000000000000 := by
  have b := odF_bd (A := i.toNat) hV (by omega) hv
  unfold lkT; split <;> omega
/-- so far -/
theorem part_bd {g : Int → Int} {C : Nat} (hg : ∀ i : Int, 0 ≤ i → i ≤ C → 0 ≤ g i ∧ g i ≤ 12000000000000000) (hC : C ≤ 12) {k : Nat} (hk : k ≤ C + 1) : 0 ≤ sumF g k ∧ sumF g k ≤ 156000000000000000 := by
  have h1 : 0 ≤ sumF g k := sumF_nonneg (fun i a b => (hg i a (by omega)).1)
  have h2 : sumF g k ≤ k * 12000000000000000 := sumF_bd (fun i a b => (hg i a (by omega)).2)
  omega
theorem MS.up0 {j z : Int} (hM : MS σs τs N τ) (hj : j ≠ 7 ∧ j ≠ 12 ∧ j ≠ 31 ∧ j ≠ 15 ∧ j ≠ 16) : MS σs τs N (upM τ 0 j z) := by
  refine ⟨hM.1.trans ⟨fun q a => upM_q (by omega), upM_j (by omega), upM_j (by omega), upM_j (by omega)⟩, fun k a b => by rw [upM_q (by decide)]; exact hM.2.1 k a b, ?_⟩
  unfold ML; rw [upM_q (show (2 : Nat) ≠ 0 by decide), upM_q (show (6 : Nat) ≠ 0 by decide), upM_j (show (15 : Int) ≠ j by omega), upM_j (show (16 : Int) ≠ j by omega)]; exact hM.2.2
def prF (s v : Int) (D : Nat) : Nat → Int
  | 0 => s
  | k + 1 => prF s v D k * (if k < D then v else 10 - v)
theorem prF_1 {s v : Int} {D : Nat} : ∀ {k : Nat}, k ≤ D → prF s v D k = s * v ^ k
  | 0, _ => by rw [Int.pow_zero, Int.mul_one]; rfl
  | k + 1, h => by rw [prF, prF_1 (by omega), if_pos (by omega), Int.pow_succ, Int.mul_assoc]
theorem prF_2 {s v : Int} {D : Nat} : ∀ {j : Nat}, prF s v D (D + j) = s * v ^ D * (10 - v) ^ j
  | 0 => by rw [Int.pow_zero, Int.mul_one]; exact prF_1 (Nat.le_refl _)
  | j + 1 => by
    show prF s v D (D + j) * (if D + j < D then v else 10 - v) = _
    rw [prF_2, if_neg (by omega), Int.pow_succ, Int.mul_assoc (s * v ^ D)]
theorem prF_bd {s v : Int} {D : Nat} (hs : 0 ≤ s ∧ s ≤ 1000) (hv : 0 ≤ v ∧ v ≤ 10) : ∀ (k : Nat), 0 ≤ prF s v D k ∧ prF s v D k ≤ 1000 * 10 ^ k
  | 0 => by rw [Int.pow_zero]; exact ⟨hs.1, by show s ≤ _; omega⟩
  | k + 1 => by
    have ih := prF_bd (D := D) hs hv k
    rw [prF, Int.pow_succ, ← Int.mul_assoc]
    exact mulbd ih.1 ih.2 (by split <;> omega) (by split <;> omega)
theorem findOdds_s (hE : rE σs 1 (τs 1) V N S K) (hV : V ≤ 12) {v x n : Int} (hv : 0 ≤ v ∧ v ≤ 10) (hx : 0 ≤ x ∧ x < N) {Q : Mem → Prop} (hQ : ∀ τ, KM τs τ → τ 0 24 = sumF (mnT σs V N K v x) (V + 1) → τ 0 25 = sumF (lkT σs V N K v x n) (V + 1) → τ 0 26 = 10 ^ V → Q τ) : CV layM MX8_findOdds [vP 0, vI v, vI x, vI n] τs Q := by
  have h5 := hE.2.2.1.2.2.1.1
  have gm : ∀ i : Int, 0 ≤ i → i ≤ V → 0 ≤ mnT σs V N K v x (V - i) ∧ mnT σs V N K v x (V - i) ≤ 12000000000000000 := fun i a b => mnT_bd hE hV hv hx (by omega) (by omega)
  have gl : ∀ i : Int, 0 ≤ i → i ≤ V → 0 ≤ lkT σs V N K v x n (V - i) ∧ lkT σs V N K v x n (V - i) ≤ 12000000000000000 := fun i a b => lkT_bd hV hv (by omega) (by omega)
  have hs : ∀ D : Nat, D ≤ 13 → sM V D ≤ 1000 := fun D hD => bin3 ⟨V, by omega⟩ ⟨D, by omega⟩
  -- by the number of the dead
  have k61 : ∀ (m D : Nat) (τ : Mem), D + m = V + 1 → MS σs τs N τ → τ 0 24 = sumF (fun i => mnT σs V N K v x (V - i)) D → τ 0 25 = sumF (fun i => lkT σs V N K v x n (V - i)) D → τ 0 26 = 10 ^ V → LX8_findOdds_61 v x n V (sM V D : Nat) D τ Q := by
    intro m
    induction m with
    | zero =>
      intro D τ hD hM h24 h25 h26
      refine X8_findOdds_61 ⟨fun _ => hQ τ hM.1 ?_ ?_ h26, fun z => by omega⟩
      · rw [h24, show D = V + 1 by omega]; exact sumF_rev V
      · rw [h25, show D = V + 1 by omega]; exact sumF_rev V
    | succ m ih =>
      intro D τ hD hM h24 h25 h26
      have hsD := hs D (by omega)
      refine X8_findOdds_61 ⟨fun z => by omega, fun _ => ?_⟩
      have k75 : ∀ (mm k : Nat), k + mm = V → LX8_findOdds_75 v x n V (sM V D : Nat) D (prF (sM V D : Nat) v D k) k τ Q := by
        intro mm
        induction mm with
        | zero =>
          intro k hk
          have e : k = V := by omega
          subst e
          have hp : prF (sM k D : Nat) v D k = odF k v (k - D) := by
            have e1 := prF_2 (s := (sM k D : Nat)) (v := v) (D := D) (j := k - D)
            rw [show D + (k - D) = k by omega] at e1
            rw [e1]
            unfold odF
            rw [show k - (k - D) = D by omega, Int.mul_assoc, Int.mul_comm (v ^ D)]
          have bo := odF_bd (A := k - D) hV (by omega) hv
          have p24 := part_bd gm hV (k := D) (by omega)
          have p25 := part_bd gl hV (k := D) (by omega)
          have ms := mulbd (x := (sM k D : Nat)) (X := 1000) (y := (k : Int) - D) (Y := 12) (by omega) (by omega) (by omega) (by omega)
          have hse : ((sM k (D + 1) : Nat) : Int) = ((sM k D : Nat) : Int) * ((k : Int) - D) / ((D : Int) + 1) := by
            show (((sM k D * (k - D) / (D + 1) : Nat)) : Int) = _
            rw [Int.natCast_ediv, Int.natCast_mul]
            congr 2
            omega
          have hs1 := hs (D + 1) (by omega)
          refine X8_findOdds_75 ⟨fun _ => ⟨⟨by omega, by omega⟩, ?_⟩, fun z => by omega⟩
          rw [msKind hE hM]
          refine msGives_s hE hM (v := k - D) (by omega) (by omega) hE.2.1.1 (fun τ1 hG hM1 hg => ?_)
          have e0 := hG 0 (by decide) (by decide)
          have e7 := hg x hx.1 hx.2
          have bg := GE_bd hE K (k - D) hx.1 hx.2
          have eT : mnT σs k N K v x ((k : Int) - D) = odF k v (k - D) * GE σs N K (k - D) x := by unfold mnT; rw [show ((k : Int) - D).toNat = k - D by omega]
          have eL : lkT σs k N K v x n ((k : Int) - D) = if n ≤ GE σs N K (k - D) x then odF k v (k - D) else 0 := by unfold lkT; rw [show ((k : Int) - D).toNat = k - D by omega]
          have bT := gm D (by omega) (by omega)
          rw [e7, hp, ← eT, e0, h24, upM_q (show (7 : Nat) ≠ 0 by decide), e7, upM_j (show (25 : Int) ≠ 24 by decide), e0, h25]
          rw [Int.tdiv_eq_ediv_of_nonneg ms.1, ← hse]
          have nx : ∀ (z : Int), z = sumF (fun i => lkT σs k N K v x n (k - i)) (D + 1) → LX8_findOdds_61 v x n k ((sM k (D + 1) : Nat) : Int) ((D : Int) + 1) (upM (upM τ1 0 24 (sumF (fun i => mnT σs k N K v x (k - i)) D + mnT σs k N K v x ((k : Int) - D))) 0 25 z) Q := by
            intro z hz
            have := ih (D + 1) (upM (upM τ1 0 24 (sumF (fun i => mnT σs k N K v x (k - i)) D + mnT σs k N K v x ((k : Int) - D))) 0 25 z) (by omega) ((hM1.up0 (by decide)).up0 (by decide)) (by rw [upM_j (by decide), upM_s]; rfl) (by rw [upM_s]; exact hz) (by rw [upM_j (by decide), upM_j (by decide), e0]; exact h26)
            simpa using this
          refine ⟨hx.1, by omega, ⟨by omega, by omega⟩, ⟨by omega, by omega⟩, hx.1, by omega, fun z => ⟨⟨by omega, by omega⟩, ⟨by omega, by omega⟩, ⟨by omega, by omega⟩, ⟨by omega, by omega⟩, by omega, ⟨by omega, by omega⟩, ⟨by omega, by omega⟩, nx _ ?_⟩, fun z => ⟨⟨by omega, by omega⟩, ⟨by omega, by omega⟩, ⟨by omega, by omega⟩, ⟨by omega, by omega⟩, by omega, ⟨by omega, by omega⟩, ⟨by omega, by omega⟩, nx _ ?_⟩⟩
          · show _ = sumF (fun i => lkT σs k N K v x n (k - i)) D + lkT σs k N K v x n ((k : Int) - D)
            rw [eL, if_neg (by omega)]
          · show _ = sumF (fun i => lkT σs k N K v x n (k - i)) D + lkT σs k N K v x n ((k : Int) - D)
            rw [eL, if_pos z]
        | succ mm ih2 =>
          intro k hk
          have b := prF_bd (s := (sM V D : Nat)) (v := v) (D := D) (by omega) hv k
          have p := pow10' (k := k) (by omega)
          have m1 := mulbd b.1 (show _ ≤ 1000000000000000 by omega) (show 0 ≤ 10 - v by omega) (show 10 - v ≤ 10 by omega)
          have m2 := mulbd b.1 (show _ ≤ 1000000000000000 by omega) hv.1 hv.2
          have := ih2 (k + 1) (by omega)
          rw [prF] at this
          refine X8_findOdds_75 ⟨fun z => by omega, fun _ => ⟨fun z => ⟨⟨by omega, by omega⟩, ⟨by omega, by omega⟩, ⟨by omega, by omega⟩, ?_⟩, fun z => ⟨⟨by omega, by omega⟩, ⟨by omega, by omega⟩, ?_⟩⟩⟩
          · rw [if_neg (by omega)] at this
            simpa using this
          · rw [if_pos (by omega)] at this
            simpa using this
      exact k75 V 0 (by omega)
  have k30 : ∀ (m k : Nat) (τ : Mem), k + m = V → MS σs τs N τ → τ 0 24 = 0 → τ 0 25 = 0 → τ 0 26 = 10 ^ k → LX8_findOdds_30 v x n V k τ Q := by
    intro m
    induction m with
    | zero => intro k τ hk hM h24 h25 h26; exact X8_findOdds_30 ⟨fun _ => k61 (V + 1) 0 τ (by omega) hM h24 h25 (by rw [h26, show k = V by omega]), fun z => by omega⟩
    | succ m ih =>
      intro k τ hk hM h24 h25 h26
      have p := pow10' (k := k) (by omega)
      refine X8_findOdds_30 ⟨fun z => by omega, fun _ => ?_⟩
      rw [h26]
      refine ⟨⟨by omega, by omega⟩, ⟨by omega, by omega⟩, ?_⟩
      have := ih (k + 1) (upM τ 0 26 (10 ^ k * 10)) (by omega) (hM.up0 (by decide)) (by rw [upM_j (by decide)]; exact h24) (by rw [upM_j (by decide)]; exact h25) (by rw [upM_s, Int.pow_succ])
      simpa using this
  refine X8_findOdds_E ?_
  rw [hE.1.2.2]
  have c0 : KM τs (upM (upM (upM τs 0 24 0) 0 25 0) 0 26 1) := ⟨fun q a => by rw [upM_q (by omega), upM_q (by omega), upM_q (by omega)], by rw [upM_j (by decide), upM_j (by decide), upM_j (by decide)], by rw [upM_j (by decide), upM_j (by decide), upM_j (by decide)], by rw [upM_j (by decide), upM_j (by decide), upM_j (by decide)]⟩
  have hE' : rE σs 1 (upM (upM (upM τs 0 24 0) 0 25 0) 0 26 1 1) V N S K := by rw [c0.1 1 (by omega)]; exact hE
  refine starts1_s hE' (fun τ1 hS hc hL => k30 V 0 τ1 (by omega) ⟨c0.trans hS.km, fun k a b => by rw [hc k a b, c0.1 1 (by omega)], hL⟩ ?_ ?_ ?_)
  · rw [hS.2 24 (by decide) (by decide), upM_j (by decide), upM_j (by decide), upM_s]
  · rw [hS.2 25 (by decide) (by decide), upM_j (by decide), upM_s]
  · rw [hS.2 26 (by decide) (by decide), upM_s]; rfl
theorem mean_C (hE : rE σs 1 f V N S K) (hV : V ≤ 12) {v x y : Int} (hv : 0 ≤ v ∧ v ≤ 10) (hx : 0 ≤ x ∧ x < N) : ∀ (m A : Nat) (σ : Mem), A + m = V + 1 → KC σs σ → PG σs 26 N K A σ → LX7_mean_62 v x y (sumF (mnT σs V N K v x) A) A σ (fun r σ' => r = fracF (sumF (mnT σs V N K v x) (V + 1)) (10 ^ V) y ∧ KC σs σ') := by
  have h5 := hE.2.2.1.2.2.1.1
  have gm : ∀ i : Int, 0 ≤ i → i ≤ V → 0 ≤ mnT σs V N K v x i ∧ mnT σs V N K v x i ≤ 12000000000000000 := fun i a b => mnT_bd hE hV hv hx a b
  intro m
  induction m with
  | zero =>
    intro A σ hA hK hP
    have e : A = V + 1 := by omega
    subst e
    have p := part_bd gm hV (Nat.le_refl _)
    have p10 := pow10' hV
    refine X7_mean_62 ⟨fun _ => ?_, fun z => by rw [hK.1 1 (by omega), hE.1.2.1] at z; omega⟩
    rw [hK.1 1 (by omega), hE.1.2.1]
    exact power_s (by decide) (by decide) (k := V) hV rfl (fraction_s (by omega) (by omega) ⟨rfl, hK⟩)
  | succ m ih =>
    intro A σ hA hK hP
    have p := part_bd gm hV (k := A) (by omega)
    have bT := gm A (by omega) (by omega)
    have eT : odF V v A * GE σs N K A x = mnT σs V N K v x A := by unfold mnT; rw [show ((A : Int)).toNat = A by omega]
    refine X7_mean_62 ⟨fun z => by rw [hK.1 1 (by omega), hE.1.2.1] at z; omega, fun _ => ?_⟩
    refine odds_s (C := V) (A := A) hV (by omega) hv (by rw [hK.1 1 (by omega)]; exact hE.1.2.1) rfl (got_s isPt_26 h5 hP.1.1 hx.1 hx.2 ?_)
    rw [hP.2.2.2 x hx.1 hx.2, eT]
    refine ⟨⟨by omega, by omega⟩, ⟨by omega, by omega⟩, pgGrow_s hE isPt_26 hE.2.1.1 (by omega) hP (fun σ2 hF hP2 _ => ⟨⟨by omega, by omega⟩, ?_⟩)⟩
    have := ih (A + 1) σ2 (by omega) (hK.trans hF.kc) hP2
    simpa [sumF] using this
theorem T_mean (h : Rel σs τs) (v x y : Int) : TJ MX7_mean MX8_mean [vI v, vI x, vI y] σs τs := by
  obtain ⟨V, N, S, K, hE⟩ := h.1
  have h5 := hE.2.2.1.2.2.1.1
  by_cases hv : 0 ≤ v ∧ v ≤ 10
  · by_cases hx : 0 ≤ x ∧ x < N
    · by_cases hy : 0 ≤ y ∧ y ≤ 1
      · by_cases hV : V ≤ 12
        · have gm : ∀ i : Int, 0 ≤ i → i ≤ V → 0 ≤ mnT σs V N K v x i ∧ mnT σs V N K v x i ≤ 12000000000000000 := fun i a b => mnT_bd hE hV hv hx a b
          have p := part_bd gm hV (Nat.le_refl _)
          have p10 := pow10' hV
          refine TJ_of h (F := fracF (sumF (mnT σs V N K v x) (V + 1)) (10 ^ V) y) (X7_mean_E (within_s (gF (fun _ => has_s isE_1 hE.2.2.1.1 (gF (fun _ => within_s (gT (fun _ => ⟨fun _ => pgOf_s hE (v := 0) (by omega) rfl (fun σ' hK hP => ⟨rfl, ?_⟩), fun z => by rw [hE.1.2.1] at z; omega⟩) (fun z => absurd hy z))) (fun z => absurd hx z))) (fun z => absurd hv z)))) (X8_mean_E (in_s (gF (fun _ => isHeir_s hE.2.2.1.2.1 h5 (gF (fun _ => isPart_s (gT (fun _ => ⟨fun _ => findOdds_s hE hV hv hx (fun τ hM h24 h25 h26 => ?_), fun z => by rw [hE.1.2.2] at z; omega⟩) (fun z => absurd hy z))) (fun z => absurd hx z))) (fun z => absurd hv z))))
          · have := mean_C hE hV (y := y) hv hx (V + 1) 0 σ' (by omega) hK hP
            simpa [sumF] using this
          · rw [h24, h26]
            exact lowest_s (by omega) (by omega) ⟨rfl, hM⟩
        · exact TJ_of h (F := -2) (X7_mean_E (within_s (gF (fun _ => has_s isE_1 hE.2.2.1.1 (gF (fun _ => within_s (gT (fun _ => ⟨fun z => by rw [hE.1.2.1] at z; omega, fun _ => ⟨rfl, KC.rf⟩⟩) (fun z => absurd hy z))) (fun z => absurd hx z))) (fun z => absurd hv z)))) (X8_mean_E (in_s (gF (fun _ => isHeir_s hE.2.2.1.2.1 h5 (gF (fun _ => isPart_s (gT (fun _ => ⟨fun z => by rw [hE.1.2.2] at z; omega, fun _ => ⟨rfl, KM.rf⟩⟩) (fun z => absurd hy z))) (fun z => absurd hx z))) (fun z => absurd hv z))))
      · exact TJ_of h (F := -1) (X7_mean_E (within_s (gF (fun _ => has_s isE_1 hE.2.2.1.1 (gF (fun _ => within_s (gT (fun z => absurd z hy) (fun _ => ⟨rfl, KC.rf⟩))) (fun z => absurd hx z))) (fun z => absurd hv z)))) (X8_mean_E (in_s (gF (fun _ => isHeir_s hE.2.2.1.2.1 h5 (gF (fun _ => isPart_s (gT (fun z => absurd z hy) (fun _ => ⟨rfl, KM.rf⟩))) (fun z => absurd hx z))) (fun z => absurd hv z))))
    · exact TJ_of h (F := -1) (X7_mean_E (within_s (gF (fun _ => has_s isE_1 hE.2.2.1.1 (gF (fun z => absurd z hx) (fun _ => ⟨rfl, KC.rf⟩))) (fun z => absurd hv z)))) (X8_mean_E (in_s (gF (fun _ => isHeir_s hE.2.2.1.2.1 h5 (gF (fun z => absurd z hx) (fun _ => ⟨rfl, KM.rf⟩))) (fun z => absurd hv z))))
  · exact TJ_of h (F := -1) (X7_mean_E (within_s (gF (fun z => absurd z hv) (fun _ => ⟨rfl, KC.rf⟩)))) (X8_mean_E (in_s (gF (fun z => absurd z hv) (fun _ => ⟨rfl, KM.rf⟩))))
theorem luck_C (hE : rE σs 1 f V N S K) (hV : V ≤ 12) {v x n y : Int} (hv : 0 ≤ v ∧ v ≤ 10) (hx : 0 ≤ x ∧ x < N) : ∀ (m A : Nat) (σ : Mem), A + m = V + 1 → KC σs σ → PG σs 26 N K A σ → LX7_luck_70 v x n y (sumF (lkT σs V N K v x n) A) A σ (fun r σ' => r = fracF (sumF (lkT σs V N K v x n) (V + 1)) (10 ^ V) y ∧ KC σs σ') := by
  have h5 := hE.2.2.1.2.2.1.1
  have gm : ∀ i : Int, 0 ≤ i → i ≤ V → 0 ≤ lkT σs V N K v x n i ∧ lkT σs V N K v x n i ≤ 12000000000000000 := fun i a b => lkT_bd hV hv a b
  intro m
  induction m with
  | zero =>
    intro A σ hA hK hP
    have e : A = V + 1 := by omega
    subst e
    have p := part_bd gm hV (Nat.le_refl _)
    have p10 := pow10' hV
    refine X7_luck_70 ⟨fun _ => ?_, fun z => by rw [hK.1 1 (by omega), hE.1.2.1] at z; omega⟩
    rw [hK.1 1 (by omega), hE.1.2.1]
    exact power_s (by decide) (by decide) (k := V) hV rfl (fraction_s (by omega) (by omega) ⟨rfl, hK⟩)
  | succ m ih =>
    intro A σ hA hK hP
    have p := part_bd gm hV (k := A) (by omega)
    have bT := gm A (by omega) (by omega)
    have eT : lkT σs V N K v x n A = if n ≤ GE σs N K A x then odF V v A else 0 := by unfold lkT; rw [show ((A : Int)).toNat = A by omega]
    refine X7_luck_70 ⟨fun z => by rw [hK.1 1 (by omega), hE.1.2.1] at z; omega, fun _ => got_s isPt_26 h5 hP.1.1 hx.1 hx.2 ?_⟩
    rw [hP.2.2.2 x hx.1 hx.2]
    refine ⟨fun z => pgGrow_s hE isPt_26 hE.2.1.1 (by omega) hP (fun σ2 hF hP2 _ => ⟨⟨by omega, by omega⟩, ?_⟩), fun z => odds_s (C := V) (A := A) hV (by omega) hv (by rw [hK.1 1 (by omega)]; exact hE.1.2.1) rfl ?_⟩
    · have := ih (A + 1) σ2 (by omega) (hK.trans hF.kc) hP2
      rw [show sumF (lkT σs V N K v x n) (A + 1) = sumF (lkT σs V N K v x n) A from by
        show sumF (lkT σs V N K v x n) A + lkT σs V N K v x n A = _
        rw [eT, if_neg (by omega), Int.add_zero]] at this
      simpa using this
    · rw [if_pos z] at eT
      rw [← eT]
      refine ⟨⟨by omega, by omega⟩, pgGrow_s hE isPt_26 hE.2.1.1 (by omega) hP (fun σ2 hF hP2 _ => ⟨⟨by omega, by omega⟩, ?_⟩)⟩
      have := ih (A + 1) σ2 (by omega) (hK.trans hF.kc) hP2
      simpa [sumF] using this
theorem T_luck (h : Rel σs τs) (v x n y : Int) : TJ MX7_luck MX8_luck [vI v, vI x, vI n, vI y] σs τs := by
  obtain ⟨V, N, S, K, hE⟩ := h.1
  have h5 := hE.2.2.1.2.2.1.1
  by_cases hv : 0 ≤ v ∧ v ≤ 10
  · by_cases hx : 0 ≤ x ∧ x < N
    · by_cases hn : 0 ≤ n ∧ n ≤ 999
      · by_cases hy : 0 ≤ y ∧ y ≤ 1
        · by_cases hV : V ≤ 12
          · have gm : ∀ i : Int, 0 ≤ i → i ≤ V → 0 ≤ lkT σs V N K v x n i ∧ lkT σs V N K v x n i ≤ 12000000000000000 := fun i a b => lkT_bd hV hv a b
            have p := part_bd gm hV (Nat.le_refl _)
            have p10 := pow10' hV
            refine TJ_of h (F := fracF (sumF (lkT σs V N K v x n) (V + 1)) (10 ^ V) y) (X7_luck_E (within_s (gF (fun _ => has_s isE_1 hE.2.2.1.1 (gF (fun _ => isHerd_s (gF (fun _ => within_s (gT (fun _ => ⟨fun _ => pgOf_s hE (v := 0) (by omega) rfl (fun σ' hK hP => ⟨rfl, ?_⟩), fun z => by rw [hE.1.2.1] at z; omega⟩) (fun z => absurd hy z))) (fun z => absurd hn z))) (fun z => absurd hx z))) (fun z => absurd hv z)))) (X8_luck_E (in_s (gF (fun _ => isHeir_s hE.2.2.1.2.1 h5 (gF (fun _ => in_s (gF (fun _ => isPart_s (gT (fun _ => ⟨fun _ => findOdds_s hE hV hv hx (fun τ hM h24 h25 h26 => ?_), fun z => by rw [hE.1.2.2] at z; omega⟩) (fun z => absurd hy z))) (fun z => absurd hn z))) (fun z => absurd hx z))) (fun z => absurd hv z))))
            · have := luck_C hE hV (n := n) (y := y) hv hx (V + 1) 0 σ' (by omega) hK hP
              simpa [sumF] using this
            · rw [h25, h26]
              exact lowest_s (by omega) (by omega) ⟨rfl, hM⟩
          · exact TJ_of h (F := -2) (X7_luck_E (within_s (gF (fun _ => has_s isE_1 hE.2.2.1.1 (gF (fun _ => isHerd_s (gF (fun _ => within_s (gT (fun _ => ⟨fun z => by rw [hE.1.2.1] at z; omega, fun _ => ⟨rfl, KC.rf⟩⟩) (fun z => absurd hy z))) (fun z => absurd hn z))) (fun z => absurd hx z))) (fun z => absurd hv z)))) (X8_luck_E (in_s (gF (fun _ => isHeir_s hE.2.2.1.2.1 h5 (gF (fun _ => in_s (gF (fun _ => isPart_s (gT (fun _ => ⟨fun z => by rw [hE.1.2.2] at z; omega, fun _ => ⟨rfl, KM.rf⟩⟩) (fun z => absurd hy z))) (fun z => absurd hn z))) (fun z => absurd hx z))) (fun z => absurd hv z))))
        · exact TJ_of h (F := -1) (X7_luck_E (within_s (gF (fun _ => has_s isE_1 hE.2.2.1.1 (gF (fun _ => isHerd_s (gF (fun _ => within_s (gT (fun z => absurd z hy) (fun _ => ⟨rfl, KC.rf⟩))) (fun z => absurd hn z))) (fun z => absurd hx z))) (fun z => absurd hv z)))) (X8_luck_E (in_s (gF (fun _ => isHeir_s hE.2.2.1.2.1 h5 (gF (fun _ => in_s (gF (fun _ => isPart_s (gT (fun z => absurd z hy) (fun _ => ⟨rfl, KM.rf⟩))) (fun z => absurd hn z))) (fun z => absurd hx z))) (fun z => absurd hv z))))
      · exact TJ_of h (F := -1) (X7_luck_E (within_s (gF (fun _ => has_s isE_1 hE.2.2.1.1 (gF (fun _ => isHerd_s (gF (fun z => absurd z hn) (fun _ => ⟨rfl, KC.rf⟩))) (fun z => absurd hx z))) (fun z => absurd hv z)))) (X8_luck_E (in_s (gF (fun _ => isHeir_s hE.2.2.1.2.1 h5 (gF (fun _ => in_s (gF (fun z => absurd z hn) (fun _ => ⟨rfl, KM.rf⟩))) (fun z => absurd hx z))) (fun z => absurd hv z))))
    · exact TJ_of h (F := -1) (X7_luck_E (within_s (gF (fun _ => has_s isE_1 hE.2.2.1.1 (gF (fun z => absurd z hx) (fun _ => ⟨rfl, KC.rf⟩))) (fun z => absurd hv z)))) (X8_luck_E (in_s (gF (fun _ => isHeir_s hE.2.2.1.2.1 h5 (gF (fun z => absurd z hx) (fun _ => ⟨rfl, KM.rf⟩))) (fun z => absurd hv z))))
  · exact TJ_of h (F := -1) (X7_luck_E (within_s (gF (fun z => absurd z hv) (fun _ => ⟨rfl, KC.rf⟩)))) (X8_luck_E (in_s (gF (fun z => absurd z hv) (fun _ => ⟨rfl, KM.rf⟩))))
end DIE
