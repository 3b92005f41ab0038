/-! ===== the relation between the class's memory and the reference's ===== -/
/-- the estate at e and the row f say the same: V camels, N heirs, S seen, the judge K -/
def rE (σ : Mem) (e : Nat) (f : Int → Int) (V N S : Nat) (K : Int) : Prop :=
  (V ≤ 999 ∧ σ e 0 = V ∧ f 0 = V) ∧ ((0 ≤ K ∧ K ≤ 3) ∧ σ e 1 = K ∧ f 2 = K) ∧ (σ e 2 = N ∧ f 1 = N ∧ okP N (σ (e + 1)) (σ (e + 2)) ∧ ∀ i : Int, 0 ≤ i → i < N → f (3 + 2 * i) = σ (e + 1) i ∧ f (3 + 2 * i + 1) = σ (e + 2) i) ∧
  (S ≤ 6 ∧ σ e 3 = S ∧ f 13 = S ∧ ∀ k : Int, 0 ≤ k → k < S → (f (14 + 2 * k) = σ (e + 3) k ∧ f (14 + 2 * k + 1) = σ (e + 4) k) ∧ (0 ≤ σ (e + 3) k ∧ σ (e + 3) k < 5) ∧ 0 ≤ σ (e + 4) k ∧ σ (e + 4) k ≤ 999)
def relE (σ : Mem) (e : Nat) (f : Int → Int) : Prop := ∃ (V N S : Nat) (K : Int), rE σ e f V N S K
def relI (σ τ : Mem) (k : Nat) : Prop := (σ 44 k = 0 ∧ τ 3 k = 0) ∨ (σ 44 k = 1 ∧ τ 3 k = 1 ∧ relE σ (11 + 5 * k) (fun j => τ 1 (26 * (k + 1) + j)))
def relT (σ τ : Mem) : Prop := ∃ T : Nat, T ≤ 160 ∧ σ 37 0 = T ∧ τ 0 7 = T ∧ ∀ i : Int, 0 ≤ i → i < T → σ 38 i = τ 5 i ∧ 0 ≤ τ 5 i ∧ τ 5 i ≤ 127
def relS (σ τ : Mem) (k : Nat) : Prop := (σ (47 + 2 * k) 0 = -1 ∧ τ 13 k = -4) ∨ (∃ n : Nat, n ≤ 40 ∧ σ (47 + 2 * k) 0 = n ∧ τ 14 k = n ∧ σ (47 + 2 * k) 1 = τ 13 k ∧ (0 ≤ τ 13 k ∧ τ 13 k ≤ 2) ∧ ∀ i : Int, 0 ≤ i → i < 40 → σ (48 + 2 * k) i = τ 15 (40 * k + i))
def Rel (σ τ : Mem) : Prop := relE σ 1 (τ 1) ∧ (relI σ τ 0 ∧ relI σ τ 1) ∧ relT σ τ ∧ (σ 36 3 = τ 0 12 ∧ 0 ≤ τ 0 12 ∧ τ 0 12 ≤ 5) ∧ (σ 0 11 = τ 0 31) ∧ (relS σ τ 0 ∧ relS σ τ 1 ∧ relS σ τ 2 ∧ relS σ τ 3)
/-- what the relation speaks of is as it was -/
def KC (σ σ' : Mem) : Prop := (∀ q, (1 ≤ q ∧ q ≤ 5) ∨ (11 ≤ q ∧ q ≤ 20) ∨ q = 38 ∨ q = 44 ∨ (47 ≤ q ∧ q ≤ 54) → σ' q = σ q) ∧ σ' 0 11 = σ 0 11 ∧ σ' 36 3 = σ 36 3 ∧ σ' 37 0 = σ 37 0
def KM (τ τ' : Mem) : Prop := (∀ q, q = 1 ∨ q = 3 ∨ q = 5 ∨ (13 ≤ q ∧ q ≤ 15) → τ' q = τ q) ∧ τ' 0 7 = τ 0 7 ∧ τ' 0 12 = τ 0 12 ∧ τ' 0 31 = τ 0 31
theorem KC.rf {σ : Mem} : KC σ σ := ⟨fun _ _ => rfl, rfl, rfl, rfl⟩
theorem KM.rf {τ : Mem} : KM τ τ := ⟨fun _ _ => rfl, rfl, rfl, rfl⟩
theorem KC.trans {σ σ' σ'' : Mem} (h : KC σ σ') (h2 : KC σ' σ'') : KC σ σ'' := ⟨fun q a => (h2.1 q a).trans (h.1 q a), h2.2.1.trans h.2.1, h2.2.2.1.trans h.2.2.1, h2.2.2.2.trans h.2.2.2⟩
theorem KM.trans {τ τ' τ'' : Mem} (h : KM τ τ') (h2 : KM τ' τ'') : KM τ τ'' := ⟨fun q a => (h2.1 q a).trans (h.1 q a), h2.2.1.trans h.2.1, h2.2.2.1.trans h.2.2.1, h2.2.2.2.trans h.2.2.2⟩
theorem rE.keep {σ σ' : Mem} {e : Nat} {f f' : Int → Int} {V N S : Nat} {K : Int} (h : rE σ e f V N S K) (hσ : ∀ q, e ≤ q → q ≤ e + 4 → σ' q = σ q) (hf : ∀ j : Int, 0 ≤ j → j < 26 → f' j = f j) : rE σ' e f' V N S K := by
  obtain ⟨⟨a1, a2, a3⟩, ⟨b1, b2, b3⟩, ⟨c1, c2, c3, c4⟩, d1, d2, d3, d4⟩ := h
  have hN := c3.1
  have e0 := hσ e (by omega) (by omega)
  have e1 := hσ (e + 1) (by omega) (by omega)
  have e2 := hσ (e + 2) (by omega) (by omega)
  have e3 := hσ (e + 3) (by omega) (by omega)
  have e4 := hσ (e + 4) (by omega) (by omega)
  refine ⟨⟨a1, by rw [e0]; exact a2, by rw [hf 0 (by decide) (by decide)]; exact a3⟩, ⟨b1, by rw [e0]; exact b2, by rw [hf 2 (by decide) (by decide)]; exact b3⟩, ⟨by rw [e0]; exact c1, by rw [hf 1 (by decide) (by decide)]; exact c2, by rw [e1, e2]; exact c3, fun i x y => ?_⟩, d1, by rw [e0]; exact d2, by rw [hf 13 (by decide) (by decide)]; exact d3, fun k x y => ?_⟩
  · rw [hf _ (by omega) (by omega), hf _ (by omega) (by omega), e1, e2]; exact c4 i x y
  · rw [hf _ (by omega) (by omega), hf _ (by omega) (by omega), e3, e4]; exact d4 k x y
theorem relE.keep {σ σ' : Mem} {e : Nat} {f f' : Int → Int} (h : relE σ e f) (hσ : ∀ q, e ≤ q → q ≤ e + 4 → σ' q = σ q) (hf : ∀ j : Int, 0 ≤ j → j < 26 → f' j = f j) : relE σ' e f' := by
  obtain ⟨V, N, S, K, h⟩ := h
  exact ⟨V, N, S, K, h.keep hσ hf⟩
theorem relI.keep {σ σ' τ τ' : Mem} {k : Nat} (hk : k < 2) (h : relI σ τ k) (h44 : σ' 44 k = σ 44 k) (h3 : τ' 3 k = τ 3 k) (hσ : ∀ q, 11 ≤ q ∧ q ≤ 20 → σ' q = σ q) (hf : ∀ j : Int, 26 ≤ j → j < 78 → τ' 1 j = τ 1 j) : relI σ' τ' k := by
  rcases h with ⟨a, b⟩ | ⟨a, b, c⟩
  · exact Or.inl ⟨by rw [h44]; exact a, by rw [h3]; exact b⟩
  · exact Or.inr ⟨by rw [h44]; exact a, by rw [h3]; exact b, c.keep (fun q x y => hσ q (by omega)) (fun j x y => hf _ (by omega) (by omega))⟩
theorem relT.keep {σ σ' τ τ' : Mem} (h : relT σ τ) (h37 : σ' 37 0 = σ 37 0) (h38 : σ' 38 = σ 38) (h7 : τ' 0 7 = τ 0 7) (h5 : τ' 5 = τ 5) : relT σ' τ' := by
  unfold relT; rw [h37, h38, h7, h5]; exact h
theorem relS.keep {σ σ' τ τ' : Mem} {k : Nat} (h : relS σ τ k) (h1 : σ' (47 + 2 * k) = σ (47 + 2 * k)) (h2 : σ' (48 + 2 * k) = σ (48 + 2 * k)) (h13 : τ' 13 = τ 13) (h14 : τ' 14 = τ 14) (h15 : τ' 15 = τ 15) : relS σ' τ' k := by
  unfold relS; rw [h1, h2, h13, h14, h15]; exact h
theorem Rel.keep {σ σ' τ τ' : Mem} (h : Rel σ τ) (hC : KC σ σ') (hM : KM τ τ') : Rel σ' τ' := by
  obtain ⟨hE, ⟨hI0, hI1⟩, hT, hF, hO, hS0, hS1, hS2, hS3⟩ := h
  have t1 := hM.1 1 (by omega)
  refine ⟨hE.keep (fun q a b => hC.1 q (by omega)) (fun j _ _ => by rw [t1]), ⟨hI0.keep (by decide) (by rw [hC.1 44 (by omega)]) (by rw [hM.1 3 (by omega)]) (fun q a => hC.1 q (by omega)) (fun j _ _ => by rw [t1]), hI1.keep (by decide) (by rw [hC.1 44 (by omega)]) (by rw [hM.1 3 (by omega)]) (fun q a => hC.1 q (by omega)) (fun j _ _ => by rw [t1])⟩, hT.keep hC.2.2.2 (hC.1 38 (by omega)) hM.2.1 (hM.1 5 (by omega)), by rw [hC.2.2.1, hM.2.2.1]; exact hF, by rw [hC.2.1, hM.2.2.2]; exact hO, ?_, ?_, ?_, ?_⟩
  · exact hS0.keep (hC.1 _ (by omega)) (hC.1 _ (by omega)) (hM.1 13 (by omega)) (hM.1 14 (by omega)) (hM.1 15 (by omega))
  · exact hS1.keep (hC.1 _ (by omega)) (hC.1 _ (by omega)) (hM.1 13 (by omega)) (hM.1 14 (by omega)) (hM.1 15 (by omega))
  · exact hS2.keep (hC.1 _ (by omega)) (hC.1 _ (by omega)) (hM.1 13 (by omega)) (hM.1 14 (by omega)) (hM.1 15 (by omega))
  · exact hS3.keep (hC.1 _ (by omega)) (hC.1 _ (by omega)) (hM.1 13 (by omega)) (hM.1 14 (by omega)) (hM.1 15 (by omega))
theorem Fr.kc {σ σ' : Mem} (h : Fr 26 σ σ') : KC σ σ' := ⟨fun q a => h q (by omega), by rw [h 0 (by omega)], by rw [h 36 (by omega)], by rw [h 37 (by omega)]⟩
theorem SM.km {τ τ' : Mem} (h : SM τ τ') : KM τ τ' := ⟨fun q a => h.1 q (by omega) (by omega) (by omega) (by omega) (by omega), h.2 7 (by decide) (by decide), h.2 12 (by decide) (by decide), h.2 31 (by decide) (by decide)⟩
/-- a call on both sides: the same answer, and the relation stays -/
abbrev TI (M M' : MI) (as : List AV) (σ τ : Mem) : Prop := CI layC M (vP 0 :: as) σ (fun r σ' => CI layM M' (vP 0 :: as) τ (fun r' τ' => r = r' ∧ Rel σ' τ'))
abbrev TJ (M M' : MI) (as : List AV) (σ τ : Mem) : Prop := CJ layC M (vP 0 :: as) σ (fun r σ' => CJ layM M' (vP 0 :: as) τ (fun r' τ' => r = r' ∧ Rel σ' τ'))
/-! small ones -/
theorem has_s {b N : Nat} (hb : isE b) {x : Int} {σ : Mem} (hN : σ b 2 = N) {Q : Int → Mem → Prop} (hQ : Q (if 0 ≤ x ∧ x < N then 1 else 0) σ) : CI layC MX0_has [vP b, vI x] σ Q := by
  refine X0_has_E hb ⟨fun a => ?_, fun a => ⟨fun c => ?_, fun c => ?_⟩⟩
  · rwa [if_neg (by omega)] at hQ
  · rw [hN] at c; rwa [if_neg (by omega)] at hQ
  · rw [hN] at c; rwa [if_pos ⟨a, c⟩] at hQ
theorem isHerd_s {x : Int} {σ : Mem} {Q : Int → Mem → Prop} (hQ : Q (if 0 ≤ x ∧ x ≤ 999 then 1 else 0) σ) : CI layC MX7_isHerd [vI x] σ Q :=
  X7_isHerd_E (within_s ⟨by split <;> omega, hQ⟩)
theorem isKind_s {x : Int} {σ : Mem} {Q : Int → Mem → Prop} (hQ : Q (if 0 ≤ x ∧ x ≤ 3 then 1 else 0) σ) : CI layC MX7_isKind [vI x] σ Q :=
  X7_isKind_E (within_s ⟨by split <;> omega, hQ⟩)
theorem isHeir_s {N : Nat} {x : Int} {τ : Mem} (hN : τ 1 1 = N) (h5 : N ≤ 5) {Q : Int → Mem → Prop} (hQ : Q (if 0 ≤ x ∧ x < N then 1 else 0) τ) : CI layM MX8_isHeir [vP 0, vI x] τ Q := by
  refine X8_isHeir_E ⟨by rw [hN]; exact ⟨by omega, by omega⟩, in_s ⟨by split <;> omega, ?_⟩⟩
  rw [hN]
  by_cases h : 0 ≤ x ∧ x < N
  · rw [if_pos ⟨h.1, by omega⟩]; rwa [if_pos h] at hQ
  · rw [if_neg (by omega)]; rwa [if_neg h] at hQ
theorem misKind_s {x : Int} {τ : Mem} {Q : Int → Mem → Prop} (hQ : Q (if 0 ≤ x ∧ x ≤ 3 then 1 else 0) τ) : CI layM MX8_isKind [vI x] τ Q :=
  X8_isKind_E (in_s ⟨by split <;> omega, hQ⟩)
theorem isPart_s {x : Int} {τ : Mem} {Q : Int → Mem → Prop} (hQ : Q (if 0 ≤ x ∧ x ≤ 1 then 1 else 0) τ) : CI layM MX8_isPart [vI x] τ Q :=
  X8_isPart_E (in_s ⟨by split <;> omega, hQ⟩)
theorem flag_s {x : Int} {τ : Mem} {Q : Int → Mem → Prop} (hQ : Q (if x = 0 then 0 else 1) τ) : CI layM MX8_flag [vI x] τ Q :=
  X8_flag_E ⟨fun h => by rwa [if_pos h] at hQ, fun h => by rwa [if_neg h] at hQ⟩
section PARTOF
variable {V N S : Nat} {K : Int} {σ τ : Mem} {f : Int → Int}
/-- what all get: by the estate's own parts -/
abbrev GE (σ : Mem) (N : Nat) (kind : Int) (v : Nat) : Int → Int := allo N (wtD (σ 2) (σ 3) N) (cmD (σ 3) N) (alD (σ 2) (σ 3) N) kind v
theorem load1_s (h : rE σ 1 f V N S K) {Q : Mem → Prop} (hQ : ∀ σ', Fr 26 σ σ' → PL σ' 26 N (wtD (σ 2) (σ 3) N) (cmD (σ 3) N) (alD (σ 2) (σ 3) N) → Q σ') : CV layC MX2_load [vP 26, vP 1] σ Q :=
  load_s isPt_26 isE_1 (by omega) h.2.2.1.1 h.2.2.1.2.2.1 hQ
theorem partOf_s (h : rE σ 1 f V N S K) {v : Nat} (hv : v ≤ 2000) {Q : Nat → Mem → Prop} (hQ : ∀ σ', Fr 26 σ σ' → PL σ' 26 N (wtD (σ 2) (σ 3) N) (cmD (σ 3) N) (alD (σ 2) (σ 3) N) → σ' 26 7 = K → σ' 26 8 = v → (∀ i : Int, 0 ≤ i → i < N → σ' 29 i = GE σ N K v i) → Q 26 σ') : CP layC MX7_partOf [vP 0, vI v] σ Q := by
  refine X7_partOf_E (load1_s h (fun σ1 hF hL => ?_))
  have e1 : σ1 1 1 = K := by rw [hF 1 (by omega)]; exact h.2.1.2.1
  rw [e1]
  refine part_s isPt_26 (okW_of h.2.2.1.2.2.1) h.2.1.1 hv hL (fun σ2 hF2 h7 h8 hg => ?_)
  refine hQ σ2 (fun q hq => ?_) (hL.fp hF2) h7 h8 hg
  rw [hF2.1 q (by omega) (by omega) (by omega)]
  exact hF q hq
theorem partNow_s (h : rE σ 1 f V N S K) {Q : Nat → Mem → Prop} (hQ : ∀ σ', Fr 26 σ σ' → PL σ' 26 N (wtD (σ 2) (σ 3) N) (cmD (σ 3) N) (alD (σ 2) (σ 3) N) → σ' 26 7 = K → σ' 26 8 = V → (∀ i : Int, 0 ≤ i → i < N → σ' 29 i = GE σ N K V i) → Q 26 σ') : CP layC MX7_partNow [vP 0] σ Q := by
  refine X7_partNow_E ?_
  rw [h.1.2.1]
  exact partOf_s h (by have := h.1.1; omega) (fun σ' a b c d e => ⟨rfl, hQ σ' a b c d e⟩)
theorem starts1_s (h : rE σ 1 (τ 1) V N S K) {Q : Mem → Prop} (hQ : ∀ τ', SM τ τ' → (∀ k : Int, 0 ≤ k → k < 26 → τ' 2 k = τ 1 k) → ML τ' N (σ 2) (σ 3) → Q τ') : CV layM MX8_starts [vP 0] τ Q :=
  starts_s h.2.2.1.2.2.1 h.2.2.1.2.1 h.2.2.1.2.2.2 hQ
theorem startsNow_s (h : rE σ 1 (τ 1) V N S K) {Q : Mem → Prop} (hQ : ∀ τ', SM τ τ' → (∀ k : Int, 0 ≤ k → k < 26 → τ' 2 k = τ 1 k) → ML τ' N (σ 2) (σ 3) → (∀ i : Int, 0 ≤ i → i < N → τ' 7 i = GE σ N K V i) → Q τ') : CV layM MX8_starts [vP 0] τ (fun τ1 => CV layM MX8_givesNow [vP 0] τ1 Q) := by
  refine starts1_s h (fun τ1 hS hc hL => X8_givesNow_E ?_)
  rw [hc 0 (by decide) (by decide), hc 2 (by decide) (by decide), h.1.2.2, h.2.1.2.2]
  refine gives_s h.2.2.1.2.2.1 hL (by have := h.1.1; omega) h.2.1.1 (fun τ2 hG hg => ?_)
  exact hQ τ2 (hS.trans hG.sm) (fun k a b => by rw [hG 2 (by decide) (by decide)]; exact hc k a b) (hL.gg hG) hg
theorem GE_bd (h : rE σ 1 f V N S K) (kind : Int) (v : Nat) {i : Int} (h0 : 0 ≤ i) (h1 : i < N) : 0 ≤ GE σ N kind v i ∧ GE σ N kind v i ≤ v := allo_bd (okW_of h.2.2.1.2.2.1) kind v h0 h1
end PARTOF
