/-! ===== read ===== -/
theorem Rn.mono {lay : List LC} {M : MI} {pc : Nat} {ls : List (Nat × AV)} {st : List AV} {σ : Mem} {Q Q' : AV → Mem → Prop} (h : Rn lay M pc ls st σ Q) (hQ : ∀ v σ', Q v σ' → Q' v σ') : Rn lay M pc ls st σ Q' := by
  intro hl hs hg p l e Rm s m args below meth c ad D cA A nc ns H locs lr C hP hS hlv T hT X
  obtain ⟨t, a, o, b1, b2, ⟨v, σ', c1, c2, c3⟩, b4⟩ := h hl hs hg p l e Rm s m args below meth c ad D cA A nc ns H locs lr C hP hS hlv T hT X
  exact ⟨t, a, o, b1, b2, ⟨v, σ', c1, hQ v σ' c2, c3⟩, b4⟩
theorem Rel.torn {σ τ : Mem} (h : Rel σ τ) (x : Int) : Rel (upM σ 0 11 x) (upM τ 0 31 x) := by
  obtain ⟨hE, ⟨hI0, hI1⟩, hT, hF, hO, hS0, hS1, hS2, hS3⟩ := h
  have c : ∀ q, q ≠ 0 → upM σ 0 11 x q = σ q := fun q a => upM_q a
  have m : ∀ q, q ≠ 0 → upM τ 0 31 x q = τ q := fun q a => upM_q a
  refine ⟨hE.keep (fun q a b => c q (by omega)) (fun j _ _ => by rw [m 1 (by decide)]), ⟨hI0.keep (by decide) (by rw [c 44 (by decide)]) (by rw [m 3 (by decide)]) (fun q a => c q (by omega)) (fun j _ _ => by rw [m 1 (by decide)]), hI1.keep (by decide) (by rw [c 44 (by decide)]) (by rw [m 3 (by decide)]) (fun q a => c q (by omega)) (fun j _ _ => by rw [m 1 (by decide)])⟩, hT.keep (by rw [c 37 (by decide)]) (c 38 (by decide)) (by rw [upM_j (by decide)]) (m 5 (by decide)), by rw [c 36 (by decide), upM_j (by decide)]; exact hF, by rw [upM_s, upM_s], ?_, ?_, ?_, ?_⟩
  · exact hS0.keep (c _ (by decide)) (c _ (by decide)) (m 13 (by decide)) (m 14 (by decide)) (m 15 (by decide))
  · exact hS1.keep (c _ (by decide)) (c _ (by decide)) (m 13 (by decide)) (m 14 (by decide)) (m 15 (by decide))
  · exact hS2.keep (c _ (by decide)) (c _ (by decide)) (m 13 (by decide)) (m 14 (by decide)) (m 15 (by decide))
  · exact hS3.keep (c _ (by decide)) (c _ (by decide)) (m 13 (by decide)) (m 14 (by decide)) (m 15 (by decide))
/-- what the machine finds at the pair from p on, of a sheet of size n and lane l taken as of lane y -/
def pairX (n l y p : Int) : Int := if l = -4 then 1 else if l ≠ y then 3 else if 0 ≤ p ∧ p < n ∧ p + 1 < n then 0 else 2
section READ
variable {σs τs : Mem} {k : Nat} {kk y f n : Int} {N0 V S : Nat} {K : Int}
theorem pair_s {σ τ : Mem} (hk : k < 4) (hS : relS σ τ k) (hf : I32 f) {i : Int} (hi : 0 ≤ i ∧ i ≤ 20) (hy : 0 ≤ y ∧ y ≤ 2) {Q : Int → Mem → Prop} (hQ : Q (pairX (τ 14 k) (τ 13 k) y (f + 2 * i)) σ) : CI layC MX4_pairFlaw [vP (47 + 2 * k), vI y, vI (w32 (f + w32 (2 * i)))] σ Q := by
  have e2 : w32 (2 * i) = 2 * i := w32_of ⟨by omega, by omega⟩
  rw [e2]
  have hw := w32_in (f + 2 * i)
  have hw1 := hw.1
  have hw2 := hw.2
  have hcase : (f + 2 * i ≤ 2147483647 ∧ w32 (f + 2 * i) = f + 2 * i) ∨ (2147483647 < f + 2 * i ∧ w32 (f + 2 * i) < 0) := by
    rcases ltge 2147483647 (f + 2 * i) with h | h
    · right
      refine ⟨h, ?_⟩
      have e : w32 (f + 2 * i) = w32 (f + 2 * i - 4294967296) := by
        exact (Int.sub_bmod_right (f + 2 * i) 4294967296).symm
      rw [e, w32_of ⟨by omega, by omega⟩]
      omega
    · exact Or.inl ⟨h, w32_of ⟨by omega, h⟩⟩
  unfold pairX at hQ
  rcases hS with ⟨a, b⟩ | ⟨m, b1, b2, b3, b4, b5, b6⟩
  · rw [if_pos b] at hQ
    refine X4_pairFlaw_E (isSh_of hk) ⟨fun _ => flawAt_s (isSh_of hk) ?_, fun z => by omega⟩
    rw [if_pos (by omega)]
    exact ⟨fun z => absurd z (by decide), fun _ => hQ⟩
  · rw [if_neg (show ¬ τ 13 k = -4 by omega), b3] at hQ
    refine X4_pairFlaw_E (isSh_of hk) ⟨fun z => by omega, fun _ => ?_⟩
    rw [b4]
    refine ⟨fun z => ?_, fun z => by rwa [if_pos z] at hQ⟩
    rw [if_neg (fun q => q z)] at hQ
    refine flawAt_s (isSh_of hk) ?_
    rw [if_neg (show ¬ σ (47 + 2 * k) 0 < 0 by omega), b2]
    by_cases hp : 0 ≤ f + 2 * i ∧ f + 2 * i < m
    · have ew : w32 (f + 2 * i) = f + 2 * i := by omega
      rw [ew, if_pos hp]
      refine ⟨fun _ => flawAt_s (isSh_of hk) ?_, fun q => absurd rfl q⟩
      rw [if_neg (show ¬ σ (47 + 2 * k) 0 < 0 by omega), b2, w32_of ⟨by omega, by omega⟩]
      by_cases hp2 : f + 2 * i + 1 < m
      · rw [if_pos ⟨by omega, hp2⟩]; rwa [if_pos ⟨hp.1, hp.2, hp2⟩] at hQ
      · rw [if_neg (fun q => hp2 q.2)]; rwa [if_neg (fun q => hp2 q.2.2)] at hQ
    · rw [if_neg (show ¬ (0 ≤ w32 (f + 2 * i) ∧ w32 (f + 2 * i) < m) by omega)]
      refine ⟨fun q => absurd q (by decide), fun _ => ?_⟩
      rwa [if_neg (fun q => hp ⟨q.1, q.2.1⟩)] at hQ
theorem cell_s {σ τ : Mem} (hk : k < 4) {m : Nat} (b1 : m ≤ 40) (b2 : σ (47 + 2 * k) 0 = m) (b6 : ∀ i : Int, 0 ≤ i → i < 40 → σ (48 + 2 * k) i = τ 15 (40 * k + i)) {p : Int} (h0 : 0 ≤ p) (h1 : p < m) {Q : Int → Mem → Prop} (hQ : Q (τ 15 (40 * k + p)) σ) : CI layC MX4_cell [vP (47 + 2 * k), vI p] σ Q := by
  refine X4_cell_E (isSh_of hk) (flawAt_s (isSh_of hk) ?_)
  rw [if_neg (show ¬ σ (47 + 2 * k) 0 < 0 by omega), b2, if_pos ⟨h0, h1⟩]
  refine ⟨fun z => absurd rfl z, fun _ => ⟨h0, by omega, ?_⟩⟩
  rw [show 47 + 2 * k + 1 = 48 + 2 * k by omega, b6 p h0 (by omega)]
  exact hQ
/-- the reference looks at both cells of the pair -/
theorem read77 {τ : Mem} (hkk : kk = k) (hk : k < 4) (hf : I32 f) {wh i : Int} (hi : 0 ≤ i ∧ i ≤ 20) {Q : Int → Mem → Prop} (hQ : LX8_read_164 kk y f n (pairX (τ 14 k) (τ 13 k) y (f + 2 * i)) wh i τ Q) : LX8_read_77 kk y f n 0 wh i 0 τ Q := by
  have hf1 := hf.1
  have hf2 := hf.2
  unfold pairX at hQ
  have done : ∀ (r : Int) (c : Int), r ≠ 0 → LX8_read_164 kk y f n r wh i τ Q → LX8_read_77 kk y f n r wh i c τ Q := fun r c hr hq => X8_read_77 ⟨fun _ => hq, fun _ => ⟨fun _ => hq, fun z => absurd z hr⟩⟩
  refine X8_read_77 ⟨fun z => absurd z (by decide), fun _ => ⟨fun z => absurd rfl z, fun _ => ⟨⟨by omega, by omega⟩, ⟨by omega, by omega⟩, ⟨by omega, by omega⟩, by omega, by omega, ?_⟩⟩⟩
  rw [hkk]
  rw [hkk] at hQ done
  refine ⟨fun z => ⟨by omega, by omega, fun z1 => ⟨fun z2 => ⟨⟨by decide, by decide⟩, ?_⟩, fun z2 => ⟨by omega, by omega, fun z3 => ⟨⟨by decide, by decide⟩, ?_⟩, fun z3 => ⟨⟨by decide, by decide⟩, ?_⟩⟩⟩, fun z1 => ⟨⟨by decide, by decide⟩, ?_⟩⟩, fun z => ⟨⟨by decide, by decide⟩, ?_⟩⟩
  · rw [if_neg z, if_neg (fun q => q z1), if_neg (fun q => by omega)] at hQ
    exact done 2 _ (by decide) hQ
  · rw [if_neg z, if_neg (fun q => q z1)] at hQ
    refine X8_read_77 ⟨fun q => absurd q (by decide), fun _ => ⟨fun q => absurd rfl q, fun _ => ⟨⟨by omega, by omega⟩, ⟨by omega, by omega⟩, ⟨by omega, by omega⟩, by omega, by omega, fun _ => ⟨by omega, by omega, fun _ => ⟨fun q => by omega, fun _ => ⟨by omega, by omega, fun z4 => ⟨⟨by decide, by decide⟩, ?_⟩, fun z4 => ⟨⟨by decide, by decide⟩, ?_⟩⟩⟩, fun q => absurd z1 q⟩, fun q => absurd q z⟩⟩⟩
    · rw [if_pos ⟨by omega, by omega, by omega⟩] at hQ
      exact X8_read_77 ⟨fun _ => hQ, fun q => absurd q (by decide)⟩
    · rw [if_neg (fun q => by omega)] at hQ
      exact done 2 _ (by decide) hQ
  · rw [if_neg z, if_neg (fun q => q z1), if_neg (fun q => by omega)] at hQ
    exact done 2 _ (by decide) hQ
  · rw [if_neg z, if_pos z1] at hQ
    exact done 3 _ (by decide) hQ
  · rw [if_pos z] at hQ
    exact done 1 _ (by decide) hQ
theorem pairX_cases (n l y p : Int) : (pairX n l y p = 0 ∧ l ≠ -4 ∧ l = y ∧ 0 ≤ p ∧ p + 1 < n) ∨ (pairX n l y p = 1 ∨ pairX n l y p = 2 ∨ pairX n l y p = 3) := by
  unfold pairX
  split
  · right; left; rfl
  · split
    · right; right; right; rfl
    · split
      · rename_i h1 h2 h3; left; exact ⟨rfl, h1, Classical.not_not.mp h2, h3.1, h3.2.2⟩
      · right; right; left; rfl
theorem read_loop (h : Rel σs τs) (hE0 : rE σs 1 (τs 1) V N0 S K) (hk : k < 4) (hkk : kk = k) (hf : I32 f) (hn : 0 ≤ n ∧ n ≤ 20) (hy : 0 ≤ y ∧ y ≤ 2) :
    ∀ (m : Nat) (i : Nat) (σ τ : Mem), (i : Int) + m = n → (∀ q, q ≠ 1 → q ≠ 2 → q ≠ 3 → σ q = σs q) → (∀ j : Int, j ≠ 2 → σ 1 j = σs 1 j) → (∀ j : Int, 0 ≤ j → j < N0 → σ 2 j = σs 2 j ∧ σ 3 j = σs 3 j) → (∀ q, q ≠ 1 → q ≠ 16 → τ q = τs q) → (∀ j : Int, 0 ≤ j → j < 26 → τ 16 j = τs 1 j) → (∀ j : Int, 26 ≤ j → j < 78 → τ 1 j = τs 1 j) → rE σ 1 (τ 1) V (N0 + i) S K →
      LX7_read_50 y f n (47 + 2 * k) N0 0 i σ (fun r σ' => LX8_read_62 kk y f n 0 i i τ (fun r' τ' => r = r' ∧ Rel σ' τ')) := by
  intro m
  induction m with
  | zero =>
    intro i σ τ hi hF1 hF2 hF3 hG1 hG2 hG3 hE
    have hR : Rel σ τ := h.est ⟨fun q a => hF1 q (by omega) (by omega) (by omega), by rw [hF1 0 (by decide) (by decide) (by decide)], by rw [hF1 36 (by decide) (by decide) (by decide)], by rw [hF1 37 (by decide) (by decide) (by decide)]⟩ ⟨fun q a => hG1 q (by omega) (by omega), hG3, by rw [hG1 0 (by decide) (by decide)], by rw [hG1 0 (by decide) (by decide)], by rw [hG1 0 (by decide) (by decide)]⟩ ⟨V, N0 + i, S, K, hE⟩
    have h5 := hE.2.2.1.2.2.1.1
    refine X7_read_50 (isSh_of hk) ⟨fun _ => X8_read_62 ⟨fun _ => ⟨?_, hR.torn 0⟩, fun z => by omega⟩, fun z => by omega⟩
    rw [upM_q (by decide), hE.2.2.1.1, show ((N0 + i : Nat) : Int) - N0 = i by omega]
    exact w32_of ⟨by omega, by omega⟩
  | succ m ih =>
    intro i σ τ hi hF1 hF2 hF3 hG1 hG2 hG3 hE
    have hR : Rel σ τ := h.est ⟨fun q a => hF1 q (by omega) (by omega) (by omega), by rw [hF1 0 (by decide) (by decide) (by decide)], by rw [hF1 36 (by decide) (by decide) (by decide)], by rw [hF1 37 (by decide) (by decide) (by decide)]⟩ ⟨fun q a => hG1 q (by omega) (by omega), hG3, by rw [hG1 0 (by decide) (by decide)], by rw [hG1 0 (by decide) (by decide)], by rw [hG1 0 (by decide) (by decide)]⟩ ⟨V, N0 + i, S, K, hE⟩
    have h5 := hE.2.2.1.2.2.1.1
    have hSk := relS_of hR hk
    refine X7_read_50 (isSh_of hk) ⟨fun z => by omega, fun _ => ⟨fun z => absurd rfl z, fun _ => pair_s hk hSk hf (by omega) hy ?_⟩⟩
    rcases pairX_cases (τ 14 k) (τ 13 k) y (f + 2 * i) with ⟨e0, hl, _, hp0, hp1⟩ | hbad
    · rw [e0]
      refine ⟨fun z => absurd rfl z, fun _ => ?_⟩
      obtain ⟨mm, b1, b2, b3, b4, b5, b6⟩ : ∃ mm : Nat, mm ≤ 40 ∧ σ (47 + 2 * k) 0 = mm ∧ τ 14 k = mm ∧ σ (47 + 2 * k) 1 = τ 13 k ∧ (0 ≤ τ 13 k ∧ τ 13 k ≤ 2) ∧ ∀ i : Int, 0 ≤ i → i < 40 → σ (48 + 2 * k) i = τ 15 (40 * k + i) := by
        rcases hSk with ⟨_, b⟩ | hs
        · exact absurd b hl
        · exact hs
      rw [w32_of (show inT 0 (2 * (i : Int)) from ⟨by omega, by omega⟩), w32_of (show inT 0 (f + 2 * (i : Int)) from ⟨by omega, by omega⟩), w32_of (show inT 0 (f + 2 * (i : Int) + 1) from ⟨by omega, by omega⟩)]
      refine cell_s hk b1 b2 b6 hp0 (by omega) (cell_s hk b1 b2 b6 (by omega) (by omega) ?_)
      -- the reference comes to the same pair
      have mref : ∀ {Q : Int → Mem → Prop}, CI layM MX8_bear [vP 0, vI (τ 15 (40 * k + (f + 2 * i))), vI (τ 15 (40 * k + (f + 2 * i + 1)))] τ (fun r2 σ1 => ((0 ≤ r2 → I32 ((i : Int) + 1) ∧ I32 ((i : Int) + 1) ∧ LX8_read_62 kk y f n 0 ((i : Int) + 1) ((i : Int) + 1) σ1 Q) ∧ (r2 < 0 → LX8_read_208 i 0 σ1 Q))) → LX8_read_62 kk y f n 0 i i τ Q := by
        intro Q hq
        refine X8_read_62 ⟨fun z => by omega, fun _ => ⟨fun z => absurd rfl z, fun _ => read77 hkk hk hf (by omega) ?_⟩⟩
        rw [e0]
        refine X8_read_164 ⟨fun z => absurd rfl z, fun _ => ⟨⟨by omega, by omega⟩, ⟨by omega, by omega⟩, ⟨by omega, by omega⟩, ⟨by omega, by omega⟩, by omega, by omega, ⟨by omega, by omega⟩, by omega, by omega, ?_⟩⟩
        rw [show 40 * kk + f + 2 * (i : Int) = 40 * k + (f + 2 * i) by omega, show 40 * (k : Int) + (f + 2 * i) + 1 = 40 * k + (f + 2 * i + 1) by omega]
        exact hq
      have hback : ∀ (c1 c2 : Int) (σ7 τ1 : Mem), τ1 = τ → σ7 = σ → LX8_read_208 i 0 τ1 (fun r' τ' => w32 ((-20) - i) = r' ∧ Rel (upM σ7 1 2 N0) τ') := by
        intro c1 c2 σ7 τ1 e1 e2
        subst e1; subst e2
        have key : ∀ (m' j : Nat) (τ2 : Mem), j + m' = 26 → (∀ q, q ≠ 1 → τ2 q = τ1 q) → (∀ x : Int, 0 ≤ x → x < j → τ2 1 x = τs 1 x) → (∀ x : Int, 26 ≤ x → x < 78 → τ2 1 x = τs 1 x) → LX8_read_208 i j τ2 (fun r' τ' => w32 ((-20) - i) = r' ∧ Rel (upM σ7 1 2 N0) τ') := by
          intro m'
          induction m' with
          | zero =>
            intro j τ2 hj k1 k2 k3
            refine X8_read_208 ⟨fun _ => ⟨⟨by omega, by omega⟩, w32_of ⟨by omega, by omega⟩, ?_⟩, fun z => by omega⟩
            have c : ∀ q, q ≠ 1 → q ≠ 2 → q ≠ 3 → upM σ7 1 2 N0 q = σs q := fun q a b d => by rw [upM_q a]; exact hF1 q a b d
            refine h.est ⟨fun q a => c q (by omega) (by omega) (by omega), by rw [c 0 (by decide) (by decide) (by decide)], by rw [c 36 (by decide) (by decide) (by decide)], by rw [c 37 (by decide) (by decide) (by decide)]⟩ ⟨fun q a => by rw [k1 q (by omega)]; exact hG1 q (by omega) (by omega), k3, by rw [k1 0 (by decide), hG1 0 (by decide) (by decide)], by rw [k1 0 (by decide), hG1 0 (by decide) (by decide)], by rw [k1 0 (by decide), hG1 0 (by decide) (by decide)]⟩ ⟨V, N0, S, K, ?_⟩
            refine hE0.heirs ⟨c 4 (by decide) (by decide) (by decide), c 5 (by decide) (by decide) (by decide)⟩ (fun x hx => by rw [upM_j (by omega)]; exact hF2 x (by omega)) (fun x hx => k2 x (by omega) (by omega)) ⟨upM_s, by rw [k2 1 (by decide) (by omega)]; exact hE0.2.2.1.2.1⟩ ⟨by omega, fun x a b => ?_⟩ (fun x a b => ?_)
            · rw [upM_q (show 1 + 1 ≠ 1 by decide), upM_q (show 1 + 2 ≠ 1 by decide)]
              show (1 ≤ σ7 2 x ∧ σ7 2 x ≤ 9) ∧ 1 ≤ σ7 3 x ∧ σ7 3 x ≤ 99
              rw [(hF3 x a b).1, (hF3 x a b).2]
              exact hE0.2.2.1.2.2.1.2 x a b
            · rw [upM_q (show 1 + 1 ≠ 1 by decide), upM_q (show 1 + 2 ≠ 1 by decide), k2 _ (by omega) (by omega), k2 _ (by omega) (by omega)]
              show _ = σ7 2 x ∧ _ = σ7 3 x
              rw [(hF3 x a b).1, (hF3 x a b).2]
              exact hE0.2.2.1.2.2.2 x a b
          | succ m' ih' =>
            intro j τ2 hj k1 k2 k3
            refine X8_read_208 ⟨fun z => by omega, fun _ => ⟨by omega, by omega, by omega, by omega, ⟨by omega, by omega⟩, ?_⟩⟩
            have := ih' (j + 1) (upM τ2 1 j (τ2 16 j)) (by omega) (fun q a => by rw [upM_q a]; exact k1 q a) (fun x a b => ?_) (fun x a b => by rw [upM_j (by omega)]; exact k3 x a b)
            · simpa using this
            · by_cases hx : x = j
              · rw [hx, upM_s, k1 16 (by decide)]; exact hG2 j (by omega) (by omega)
              · rw [upM_j hx]; exact k2 x a (by omega)
        exact key 26 0 τ1 (by omega) (fun _ _ => rfl) (fun x a b => by omega) hG3
      refine add_s isE_1 hE.2.2.1.1 h5 (fun hb => ?_) (fun hb hfu => ?_) (fun hx hyy hl5 => ?_)
      · refine ⟨fun z => absurd z (by decide), fun _ => mref (bear_s hE.2.2.1.2.1 h5 (fun _ => ⟨fun z => absurd z (by decide), fun _ => hback 0 0 σ τ rfl rfl⟩) (fun z _ => absurd z hb) (fun a b _ => absurd ⟨a, b⟩ hb))⟩
      · refine ⟨fun z => absurd z (by decide), fun _ => mref (bear_s hE.2.2.1.2.1 h5 (fun z => absurd hb z) (fun _ _ => ⟨fun z => absurd z (by decide), fun _ => hback 0 0 σ τ rfl rfl⟩) (fun a b z => by omega))⟩
      · refine ⟨fun _ => ⟨⟨by omega, by omega⟩, ?_⟩, fun z => by omega⟩
        generalize hc1 : τ 15 (40 * k + (f + 2 * i)) = c1 at hx mref
        generalize hc2 : τ 15 (40 * k + (f + 2 * i + 1)) = c2 at hyy mref
        have hmore := hE.more (e := 1) (f' := upM (upM (upM τ 1 (3 + 2 * ((N0 + i : Nat) : Int)) c1) 1 (3 + 2 * ((N0 + i : Nat) : Int) + 1) c2) 1 1 (((N0 + i : Nat) : Int) + 1) 1) hx hyy hl5 (fun j a b c => by rw [upM_j a, upM_j c, upM_j b]) upM_s (by rw [upM_j (by omega), upM_j (by omega), upM_s]) (by rw [upM_j (by omega), upM_s])
        have hrec := ih (i + 1) (upM (upM (upM σ 2 ((N0 + i : Nat) : Int) c1) 3 ((N0 + i : Nat) : Int) c2) 1 2 (((N0 + i : Nat) : Int) + 1)) (upM (upM (upM τ 1 (3 + 2 * ((N0 + i : Nat) : Int)) c1) 1 (3 + 2 * ((N0 + i : Nat) : Int) + 1) c2) 1 1 (((N0 + i : Nat) : Int) + 1)) (by omega)
          (fun q a b c => by rw [upM_q a, upM_q c, upM_q b]; exact hF1 q a b c) (fun j a => by rw [upM_j a, upM_q (by decide), upM_q (by decide)]; exact hF2 j a)
          (fun j a b => by rw [upM_q (show (2 : Nat) ≠ 1 by decide), upM_q (show (2 : Nat) ≠ 3 by decide), upM_q (show (3 : Nat) ≠ 1 by decide), upM_j (show j ≠ ((N0 + i : Nat) : Int) by omega), upM_j (show j ≠ ((N0 + i : Nat) : Int) by omega), upM_q (by decide)]; exact hF3 j a b)
          (fun q a b => by rw [upM_q a, upM_q a, upM_q a]; exact hG1 q a b) (fun j a b => by rw [upM_q (by decide), upM_q (by decide), upM_q (by decide)]; exact hG2 j a b)
          (fun j a b => by rw [upM_j (by omega), upM_j (by omega), upM_j (by omega)]; exact hG3 j a b) (by rw [show N0 + (i + 1) = N0 + i + 1 by omega]; exact hmore)
        have hrec2 : LX7_read_50 y f n (47 + 2 * k) N0 0 ((i : Int) + 1) (upM (upM (upM σ 2 ((N0 + i : Nat) : Int) c1) 3 ((N0 + i : Nat) : Int) c2) 1 2 (((N0 + i : Nat) : Int) + 1)) (fun r σ' => LX8_read_62 kk y f n 0 ((i : Int) + 1) ((i : Int) + 1) (upM (upM (upM τ 1 (3 + 2 * ((N0 + i : Nat) : Int)) c1) 1 (3 + 2 * ((N0 + i : Nat) : Int) + 1) c2) 1 1 (((N0 + i : Nat) : Int) + 1)) (fun r' τ' => r = r' ∧ Rel σ' τ')) := by simpa using hrec
        refine Rn.mono hrec2 (fun v σ' hv => ?_)
        obtain ⟨r, rfl, hq⟩ := hv
        refine ⟨r, rfl, mref (bear_s hE.2.2.1.2.1 h5 (fun z => absurd ⟨hx, hyy⟩ z) (fun _ z => by omega) (fun _ _ _ => ⟨fun _ => ⟨⟨by omega, by omega⟩, ⟨by omega, by omega⟩, hq⟩, fun z => by omega⟩))⟩
    · have hne : pairX (τ 14 k) (τ 13 k) y (f + 2 * i) ≠ 0 := by omega
      refine ⟨fun _ => ⟨⟨by omega, by omega⟩, ?_⟩, fun z => absurd z hne⟩
      have fin : LX8_read_62 kk y f n 0 i i τ (fun r' τ' => (i : Int) = r' ∧ Rel (upM σ 0 11 (pairX (τ 14 k) (τ 13 k) y (f + 2 * i))) τ') := by
        refine X8_read_62 ⟨fun z => by omega, fun _ => ⟨fun z => absurd rfl z, fun _ => read77 hkk hk hf (by omega) (X8_read_164 ⟨fun _ => ⟨⟨by omega, by omega⟩, ?_⟩, fun z => absurd z hne⟩)⟩⟩
        exact X8_read_62 ⟨fun _ => ⟨rfl, hR.torn _⟩, fun _ => ⟨fun _ => ⟨rfl, hR.torn _⟩, fun z => absurd z hne⟩⟩
      have ew : w32 (upM σ 0 11 (pairX (τ 14 k) (τ 13 k) y (f + 2 * i)) 1 2 - N0) = i := by
        rw [upM_q (by decide), hE.2.2.1.1, show ((N0 + i : Nat) : Int) - N0 = i by omega]
        exact w32_of ⟨by omega, by omega⟩
      refine X7_read_50 (isSh_of hk) ⟨fun _ => ?_, fun _ => ⟨fun _ => ?_, fun z => absurd z hne⟩⟩
      · rw [ew]; exact fin
      · rw [ew]; exact fin
theorem T_read {σ τ : Mem} (h : Rel σ τ) (x l f n : Int) (hf : I32 f) : TI MX7_read MX8_read [vI x, vI l, vI f, vI n] σ τ := by
  obtain ⟨V, N, S, K, hE⟩ := h.1
  have hno : ¬ ((0 ≤ x ∧ x ≤ 3) ∧ 0 ≤ l ∧ l ≤ 2) → CI layM MX8_read [vP 0, vI x, vI l, vI f, vI n] τ (fun r' τ' => -1 = r' ∧ Rel σ τ') := fun hz => X8_read_E (isSheetM_s (gF (fun z => absurd z hz) (fun _ => ⟨rfl, h⟩)))
  refine X7_read_E (isSheetC_s (gF (fun hx => isLane_s (gF (fun hl => within_s (gT (fun hn => ?_) (fun hn => ?_))) (fun hl => hno (fun z => hl z.2)))) (fun hx => hno (fun z => hx z.1))))
  · have one : ∀ k : Nat, k < 4 → x = k → LX7_read_50 l f n (47 + 2 * k) (σ 1 2) 0 0 σ (fun r σ' => CI layM MX8_read [vP 0, vI x, vI l, vI f, vI n] τ (fun r' τ' => r = r' ∧ Rel σ' τ')) := by
      intro k hk hxk
      -- the reference keeps the estate first
      have key : ∀ (m j : Nat) (τ1 : Mem) {Q : Int → Mem → Prop}, j + m = 26 → (∀ q, q ≠ 16 → τ1 q = τ q) → (∀ i : Int, 0 ≤ i → i < j → τ1 16 i = τ 1 i) → (∀ τ2, (∀ q, q ≠ 16 → τ2 q = τ q) → (∀ i : Int, 0 ≤ i → i < 26 → τ2 16 i = τ 1 i) → LX8_read_62 x l f n 0 0 0 τ2 Q) → LX8_read_26 x l f n j τ1 Q := by
        intro m
        induction m with
        | zero => intro j τ1 Q hj k1 k2 k3; exact X8_read_26 ⟨fun _ => k3 τ1 k1 (fun i a b => k2 i a (by omega)), fun z => by omega⟩
        | succ m ih =>
          intro j τ1 Q hj k1 k2 k3
          refine X8_read_26 ⟨fun z => by omega, fun _ => ⟨by omega, by omega, by omega, by omega, ⟨by omega, by omega⟩, ?_⟩⟩
          have := ih (j + 1) (upM τ1 16 j (τ1 1 j)) (Q := Q) (by omega) (fun q a => by rw [upM_q a]; exact k1 q a) (fun i a b => ?_) k3
          · simpa using this
          · by_cases hi : i = j
            · rw [hi, upM_s, k1 1 (by decide)]
            · rw [upM_j hi]; exact k2 i a (by omega)
      have hτ : ∃ τ2 : Mem, (∀ q, q ≠ 16 → τ2 q = τ q) ∧ (∀ i : Int, 0 ≤ i → i < 26 → τ2 16 i = τ 1 i) ∧ ∀ {Q : Int → Mem → Prop}, LX8_read_62 x l f n 0 0 0 τ2 Q → LX8_read_26 x l f n 0 τ Q := by
        -- the memory with the kept row
        have build : ∀ (m j : Nat) (τ1 : Mem), j + m = 26 → (∀ q, q ≠ 16 → τ1 q = τ q) → (∀ i : Int, 0 ≤ i → i < j → τ1 16 i = τ 1 i) → ∃ τ2 : Mem, (∀ q, q ≠ 16 → τ2 q = τ q) ∧ (∀ i : Int, 0 ≤ i → i < 26 → τ2 16 i = τ 1 i) ∧ ∀ {Q : Int → Mem → Prop}, LX8_read_62 x l f n 0 0 0 τ2 Q → LX8_read_26 x l f n j τ1 Q := by
          intro m
          induction m with
          | zero => intro j τ1 hj k1 k2; exact ⟨τ1, k1, fun i a b => k2 i a (by omega), fun hq => X8_read_26 ⟨fun _ => hq, fun z => by omega⟩⟩
          | succ m ih =>
            intro j τ1 hj k1 k2
            obtain ⟨τ2, a1, a2, a3⟩ := ih (j + 1) (upM τ1 16 j (τ1 1 j)) (by omega) (fun q a => by rw [upM_q a]; exact k1 q a) (fun i a b => by
              by_cases hi : i = j
              · rw [hi, upM_s, k1 1 (by decide)]
              · rw [upM_j hi]; exact k2 i a (by omega))
            refine ⟨τ2, a1, a2, fun hq => X8_read_26 ⟨fun z => by omega, fun _ => ⟨by omega, by omega, by omega, by omega, ⟨by omega, by omega⟩, ?_⟩⟩⟩
            have := a3 hq
            simpa using this
        exact build 26 0 τ (by omega) (fun _ _ => rfl) (fun i a b => by omega)
      obtain ⟨τ2, a1, a2, a3⟩ := hτ
      have hloop := read_loop (k := k) (kk := x) (y := l) (f := f) (n := n) (σs := σ) (τs := τ) h hE hk hxk hf hn hl n.toNat 0 σ τ2 (by omega) (fun _ _ _ _ => rfl) (fun _ _ => rfl) (fun _ _ _ => ⟨rfl, rfl⟩) (fun q _ b => a1 q b) a2 (fun j _ _ => by rw [a1 1 (by decide)]) (by rw [a1 1 (by decide)]; exact hE)
      rw [hE.2.2.1.1]
      refine Rn.mono hloop (fun v σ' hv => ?_)
      obtain ⟨r, rfl, hq⟩ := hv
      exact ⟨r, rfl, X8_read_E (isSheetM_s (gF (fun _ => in_s (gT (fun _ => a3 hq) (fun z => absurd hn z))) (fun z => absurd ⟨hx, hl⟩ z)))⟩
    exact ⟨by omega, by omega, fun e => one 0 (by decide) e, fun e => one 1 (by decide) e, fun e => one 2 (by decide) e, fun e => one 3 (by decide) e⟩
  · exact X8_read_E (isSheetM_s (gF (fun _ => in_s (gT (fun z => absurd z hn) (fun _ => ⟨rfl, h⟩))) (fun z => absurd ⟨hx, hl⟩ z)))
end READ
