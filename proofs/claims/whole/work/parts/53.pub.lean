/-! ===== images ===== -/
theorem copy_s {b e : Nat} {σ : Mem} (hb : isE b) (he : isE e) (hne : e + 4 < b ∨ b + 4 < e) {Q : Mem → Prop} (hQ : ∀ σ', (∀ q, q < b ∨ b + 4 < q → σ' q = σ q) → (∀ j : Int, j = 0 ∨ j = 1 ∨ j = 2 ∨ j = 3 → σ' b j = σ e j) → (∀ i : Int, 0 ≤ i → i < 5 → σ' (b + 1) i = σ (e + 1) i ∧ σ' (b + 2) i = σ (e + 2) i) → (∀ i : Int, 0 ≤ i → i < 6 → σ' (b + 3) i = σ (e + 3) i ∧ σ' (b + 4) i = σ (e + 4) i) → Q σ') : CV layC MX0_copy [vP b, vP e] σ Q := by
  have key2 : ∀ (m k : Nat) (σ1 : Mem), k + m = 6 → (∀ q, q < b ∨ b + 4 < q → σ1 q = σ q) → (∀ j : Int, j = 0 ∨ j = 1 ∨ j = 2 ∨ j = 3 → σ1 b j = σ e j) → (∀ i : Int, 0 ≤ i → i < 5 → σ1 (b + 1) i = σ (e + 1) i ∧ σ1 (b + 2) i = σ (e + 2) i) → (∀ i : Int, 0 ≤ i → i < k → σ1 (b + 3) i = σ (e + 3) i ∧ σ1 (b + 4) i = σ (e + 4) i) → LX0_copy_71 b e k σ1 Q := by
    intro m
    induction m with
    | zero => intro k σ1 hk hF h0 h1 h2; exact X0_copy_71 hb he ⟨fun _ => hQ σ1 hF h0 h1 (fun i a c => h2 i a (by omega)), fun z => by omega⟩
    | succ m ih =>
      intro k σ1 hk hF h0 h1 h2
      refine X0_copy_71 hb he ⟨fun z => by omega, fun _ => ⟨by omega, by omega, by omega, by omega, by omega, by omega, by omega, by omega, ⟨by omega, by omega⟩, ?_⟩⟩
      rw [upM_q (show e + 4 ≠ b + 3 by omega), hF (e + 3) (by omega), hF (e + 4) (by omega)]
      have := ih (k + 1) (upM (upM σ1 (b + 3) k (σ (e + 3) k)) (b + 4) k (σ (e + 4) k)) (by omega) (fun q hq => by rw [upM_q (by omega), upM_q (by omega)]; exact hF q hq) (fun j hj => by rw [upM_q (by omega), upM_q (by omega)]; exact h0 j hj) (fun i a c => by rw [upM_q (show b + 1 ≠ b + 4 by omega), upM_q (show b + 1 ≠ b + 3 by omega), upM_q (show b + 2 ≠ b + 4 by omega), upM_q (show b + 2 ≠ b + 3 by omega)]; exact h1 i a c) (fun i a c => ?_)
      · simpa using this
      · rw [upM_q (show b + 3 ≠ b + 4 by omega)]
        by_cases hi : i = k
        · rw [hi, upM_s, upM_s]; exact ⟨rfl, rfl⟩
        · rw [upM_j hi, upM_j hi, upM_q (by omega)]; exact h2 i a (by omega)
  have key1 : ∀ (m k : Nat) (σ1 : Mem), k + m = 5 → (∀ q, q < b ∨ b + 4 < q → σ1 q = σ q) → (∀ j : Int, j = 0 ∨ j = 1 ∨ j = 2 ∨ j = 3 → σ1 b j = σ e j) → (∀ i : Int, 0 ≤ i → i < k → σ1 (b + 1) i = σ (e + 1) i ∧ σ1 (b + 2) i = σ (e + 2) i) → LX0_copy_34 b e k σ1 Q := by
    intro m
    induction m with
    | zero => intro k σ1 hk hF h0 h1; exact X0_copy_34 hb he ⟨fun _ => key2 6 0 σ1 (by omega) hF h0 (fun i a c => h1 i a (by omega)) (fun i a c => by omega), fun z => by omega⟩
    | succ m ih =>
      intro k σ1 hk hF h0 h1
      refine X0_copy_34 hb he ⟨fun z => by omega, fun _ => ⟨by omega, by omega, by omega, by omega, by omega, by omega, by omega, by omega, ⟨by omega, by omega⟩, ?_⟩⟩
      rw [upM_q (show e + 2 ≠ b + 1 by omega), hF (e + 1) (by omega), hF (e + 2) (by omega)]
      have := ih (k + 1) (upM (upM σ1 (b + 1) k (σ (e + 1) k)) (b + 2) k (σ (e + 2) k)) (by omega) (fun q hq => by rw [upM_q (by omega), upM_q (by omega)]; exact hF q hq) (fun j hj => by rw [upM_q (by omega), upM_q (by omega)]; exact h0 j hj) (fun i a c => ?_)
      · simpa using this
      · rw [upM_q (show b + 1 ≠ b + 2 by omega)]
        by_cases hi : i = k
        · rw [hi, upM_s, upM_s]; exact ⟨rfl, rfl⟩
        · rw [upM_j hi, upM_j hi, upM_q (by omega)]; exact h1 i a (by omega)
  refine X0_copy_E hb he ?_
  have x1 : ∀ (a : Mem) (j x : Int), upM a b j x e = a e := fun a j x => upM_q (by omega)
  rw [x1, x1, x1, x1, x1, x1]
  refine key1 5 0 _ (by omega) (fun q hq => by rw [upM_q (by omega), upM_q (by omega), upM_q (by omega), upM_q (by omega)]) (fun j hj => ?_) (fun i a c => by omega)
  rcases hj with rfl | rfl | rfl | rfl
  · rw [upM_j (by decide), upM_j (by decide), upM_j (by decide), upM_s]
  · rw [upM_j (by decide), upM_j (by decide), upM_s]
  · rw [upM_j (by decide), upM_s]
  · rw [upM_s]
theorem copies_s {to src : Int} {τ : Mem} (ht : 0 ≤ to ∧ to ≤ 52) (hs : 0 ≤ src ∧ src ≤ 52) (hd : to + 26 ≤ src ∨ src + 26 ≤ to) {Q : Mem → Prop} (hQ : ∀ τ', (∀ q, q ≠ 1 → τ' q = τ q) → (∀ j : Int, 0 ≤ j → j < 26 → τ' 1 (to + j) = τ 1 (src + j)) → (∀ j : Int, j < to ∨ to + 26 ≤ j → τ' 1 j = τ 1 j) → Q τ') : CV layM MX8_copies [vP 0, vI to, vI src] τ Q := by
  have key : ∀ (m k : Nat) (τ1 : Mem), k + m = 26 → (∀ q, q ≠ 1 → τ1 q = τ q) → (∀ j : Int, 0 ≤ j → j < k → τ1 1 (to + j) = τ 1 (src + j)) → (∀ j : Int, j < to ∨ to + k ≤ j → τ1 1 j = τ 1 j) → LX8_copies_2 to src k τ1 Q := by
    intro m
    induction m with
    | zero => intro k τ1 hk hF hc ho; exact X8_copies_2 ⟨fun _ => hQ τ1 hF (fun j a b => hc j a (by omega)) (fun j hj => ho j (by omega)), fun z => by omega⟩
    | succ m ih =>
      intro k τ1 hk hF hc ho
      refine X8_copies_2 ⟨fun z => by omega, fun _ => ⟨⟨by omega, by omega⟩, ⟨by omega, by omega⟩, by omega, by omega, by omega, by omega, ⟨by omega, by omega⟩, ?_⟩⟩
      rw [ho (src + k) (by omega)]
      have := ih (k + 1) (upM τ1 1 (to + k) (τ 1 (src + k))) (by omega) (fun q hq => by rw [upM_q hq]; exact hF q hq) (fun j a b => ?_) (fun j hj => by rw [upM_j (by omega)]; exact ho j (by omega))
      · simpa using this
      · by_cases hj : j = k
        · rw [hj, upM_s]
        · rw [upM_j (by omega)]; exact hc j a (by omega)
  exact X8_copies_E (key 26 0 τ (by omega) (fun _ _ => rfl) (fun j a b => by omega) (fun _ _ => rfl))
theorem rE.copied {σ σ' : Mem} {b e : Nat} {f f' : Int → Int} {V N S : Nat} {K : Int} (h : rE σ e f V N S K) (h0 : ∀ j : Int, j = 0 ∨ j = 1 ∨ j = 2 ∨ j = 3 → σ' b j = σ e j) (h1 : ∀ i : Int, 0 ≤ i → i < 5 → σ' (b + 1) i = σ (e + 1) i ∧ σ' (b + 2) i = σ (e + 2) i) (h2 : ∀ i : Int, 0 ≤ i → i < 6 → σ' (b + 3) i = σ (e + 3) i ∧ σ' (b + 4) i = σ (e + 4) i) (hf : ∀ j : Int, 0 ≤ j → j < 26 → f' j = f j) : rE σ' b f' V N S K := by
  obtain ⟨⟨a1, a2, a3⟩, ⟨b1, b2, b3⟩, ⟨c1, c2, c3, c4⟩, d1, d2, d3, d4⟩ := h
  have hN := c3.1
  refine ⟨⟨a1, by rw [h0 0 (by omega)]; exact a2, by rw [hf 0 (by decide) (by decide)]; exact a3⟩, ⟨b1, by rw [h0 1 (by omega)]; exact b2, by rw [hf 2 (by decide) (by decide)]; exact b3⟩, ⟨by rw [h0 2 (by omega)]; exact c1, by rw [hf 1 (by decide) (by decide)]; exact c2, ⟨hN, fun i x y => ?_⟩, fun i x y => ?_⟩, d1, by rw [h0 3 (by omega)]; exact d2, by rw [hf 13 (by decide) (by decide)]; exact d3, fun k x y => ?_⟩
  · rw [(h1 i x (by omega)).1, (h1 i x (by omega)).2]; exact c3.2 i x y
  · rw [(h1 i x (by omega)).1, (h1 i x (by omega)).2, hf _ (by omega) (by omega), hf _ (by omega) (by omega)]; exact c4 i x y
  · rw [(h2 k x (by omega)).1, (h2 k x (by omega)).2, hf _ (by omega) (by omega), hf _ (by omega) (by omega)]; exact d4 k x y
section IMG
variable {σ τ : Mem}
/-- an image is kept: k is 0 or 1, its cells 11 + 5 k on -/
theorem Rel.kept {σ' τ' : Mem} {k k' : Nat} {V N S : Nat} {K : Int} (h : Rel σ τ) (hk : (k = 0 ∧ k' = 1) ∨ (k = 1 ∧ k' = 0)) (hE : rE σ 1 (τ 1) V N S K) (f1 : ∀ q, q ≠ 44 → q < 11 + 5 * k ∨ 15 + 5 * k < q → σ' q = σ q) (f2 : ∀ j : Int, j = 0 ∨ j = 1 ∨ j = 2 ∨ j = 3 → σ' (11 + 5 * k) j = σ 1 j) (f3 : ∀ i : Int, 0 ≤ i → i < 5 → σ' (11 + 5 * k + 1) i = σ 2 i ∧ σ' (11 + 5 * k + 2) i = σ 3 i) (f4 : ∀ i : Int, 0 ≤ i → i < 6 → σ' (11 + 5 * k + 3) i = σ 4 i ∧ σ' (11 + 5 * k + 4) i = σ 5 i) (f5 : σ' 44 k = 1 ∧ σ' 44 k' = σ 44 k')
    (g1 : ∀ q, q ≠ 1 → q ≠ 3 → τ' q = τ q) (g2 : ∀ j : Int, 0 ≤ j → j < 26 → τ' 1 (26 * (k + 1) + j) = τ 1 j) (g3 : ∀ j : Int, j < 26 * (k + 1) ∨ 26 * (k + 1) + 26 ≤ j → τ' 1 j = τ 1 j) (g4 : τ' 3 k = 1 ∧ τ' 3 k' = τ 3 k') : Rel σ' τ' := by
  have hnew : relI σ' τ' k := Or.inr ⟨f5.1, g4.1, V, N, S, K, hE.copied f2 f3 f4 g2⟩
  have hold : relI σ τ k' → relI σ' τ' k' := by
    intro hI
    rcases hI with ⟨a, b⟩ | ⟨a, b, c⟩
    · exact Or.inl ⟨f5.2.trans a, g4.2.trans b⟩
    · refine Or.inr ⟨f5.2.trans a, g4.2.trans b, c.keep (fun q x y => f1 q (by omega) (by omega)) (fun j x y => g3 _ (by omega))⟩
  obtain ⟨hE', ⟨hI0, hI1⟩, hT, hF, hO, hS0, hS1, hS2, hS3⟩ := h
  refine ⟨hE'.keep (fun q a b => f1 q (by omega) (by omega)) (fun j _ _ => g3 j (by omega)), ?_, hT.keep (by rw [f1 37 (by decide) (by omega)]) (f1 38 (by decide) (by omega)) (by rw [g1 0 (by decide) (by decide)]) (g1 5 (by decide) (by decide)), by rw [f1 36 (by decide) (by omega), g1 0 (by decide) (by decide)]; exact hF, by rw [f1 0 (by decide) (by omega), g1 0 (by decide) (by decide)]; exact hO, ?_, ?_, ?_, ?_⟩
  · rcases hk with ⟨rfl, rfl⟩ | ⟨rfl, rfl⟩
    · exact ⟨hnew, hold hI1⟩
    · exact ⟨hold hI0, hnew⟩
  · exact hS0.keep (f1 _ (by decide) (by omega)) (f1 _ (by decide) (by omega)) (g1 13 (by decide) (by decide)) (g1 14 (by decide) (by decide)) (g1 15 (by decide) (by decide))
  · exact hS1.keep (f1 _ (by decide) (by omega)) (f1 _ (by decide) (by omega)) (g1 13 (by decide) (by decide)) (g1 14 (by decide) (by decide)) (g1 15 (by decide) (by decide))
  · exact hS2.keep (f1 _ (by decide) (by omega)) (f1 _ (by decide) (by omega)) (g1 13 (by decide) (by decide)) (g1 14 (by decide) (by decide)) (g1 15 (by decide) (by decide))
  · exact hS3.keep (f1 _ (by decide) (by omega)) (f1 _ (by decide) (by omega)) (g1 13 (by decide) (by decide)) (g1 14 (by decide) (by decide)) (g1 15 (by decide) (by decide))
theorem keep_one {k k' : Nat} {kk : Int} {old : Int} (h : Rel σ τ) (hk : (k = 0 ∧ k' = 1) ∨ (k = 1 ∧ k' = 0)) (hkk : kk = k) (hb : isE (11 + 5 * k)) (hold : (if τ 3 kk = 0 then 0 else 1) = old) : CV layC MX0_copy [vP (11 + 5 * k), vP 1] σ (fun σ3 => 0 ≤ kk ∧ kk < 2 ∧ CI layM MX8_keep [vP 0, vI kk] τ (fun r' τ' => old = r' ∧ Rel (upM σ3 44 kk 1) τ')) := by
  obtain ⟨V, N, S, K, hE⟩ := h.1
  refine copy_s hb isE_1 (by omega) (fun σ' f1 f2 f3 f4 => ⟨by omega, by omega, X8_keep_E (in_s (gT (fun _ => ⟨by omega, by omega, flag_s ⟨by omega, by omega, ⟨by omega, by omega⟩, ⟨by omega, by omega⟩, ?_⟩⟩) (fun z => absurd ⟨by omega, by omega⟩ z)))⟩)
  refine copies_s (by omega) (by omega) (by omega) (fun τ' g1 g2 g3 => ⟨hold.symm, ?_⟩)
  subst hkk
  refine h.kept hk hE (fun q a b => by rw [upM_q a]; exact f1 q (by omega)) (fun j hj => by rw [upM_q (by omega)]; exact f2 j hj) (fun i a b => by rw [upM_q (by omega), upM_q (by omega)]; exact f3 i a b) (fun i a b => by rw [upM_q (by omega), upM_q (by omega)]; exact f4 i a b) ⟨upM_s, by rw [upM_j (by omega), f1 44 (by omega)]⟩ (fun q a b => by rw [g1 q a, upM_q b]) (fun j a b => ?_) (fun j hj => by rw [g3 j hj, upM_q (by decide)]) ⟨by rw [g1 3 (by decide), upM_s], by rw [g1 3 (by decide), upM_j (by omega)]⟩
  rw [g2 j a b, upM_q (by decide), Int.zero_add]
theorem T_keep (h : Rel σ τ) (x : Int) : TI MX7_keep MX8_keep [vI x] σ τ := by
  refine X7_keep_E (within_s (gT (fun hx => ?_) (fun hx => X8_keep_E (in_s (gT (fun z => absurd z hx) (fun _ => ⟨rfl, h⟩))))))
  have e : ∀ k : Nat, k = 0 ∨ k = 1 → (σ 44 k = 0 ↔ τ 3 k = 0) := by
    intro k hk
    have : relI σ τ k := by rcases hk with rfl | rfl; exact h.2.1.1; exact h.2.1.2
    rcases this with ⟨a, b⟩ | ⟨a, b, _⟩
    · rw [a, b]
    · rw [a, b]
  refine ⟨hx.1, by omega, fun h0 => ⟨hx.1, by omega, fun hk => ?_, fun hk => ?_⟩, fun h0 => ⟨hx.1, by omega, fun hk => ?_, fun hk => ?_⟩⟩
  · have := (e 0 (by omega)).mp (by rw [hk] at h0; exact h0)
    exact keep_one (k := 0) (k' := 1) h (by omega) hk isE_11 (by rw [hk]; exact if_pos this)
  · have := (e 1 (by omega)).mp (by rw [hk] at h0; exact h0)
    exact keep_one (k := 1) (k' := 0) h (by omega) hk isE_16 (by rw [hk]; exact if_pos this)
  · have : ¬ τ 3 0 = 0 := fun z => h0 (by rw [hk]; exact (e 0 (by omega)).mpr z)
    exact keep_one (k := 0) (k' := 1) h (by omega) hk isE_11 (by rw [hk]; exact if_neg this)
  · have : ¬ τ 3 1 = 0 := fun z => h0 (by rw [hk]; exact (e 1 (by omega)).mpr z)
    exact keep_one (k := 1) (k' := 0) h (by omega) hk isE_16 (by rw [hk]; exact if_neg this)
theorem back_one {k : Nat} {kk : Int} (h : Rel σ τ) (hk : k = 0 ∨ k = 1) (hkk : kk = k) (hb : isE (11 + 5 * k)) (h3 : τ 3 k = 1) (hE : relE σ (11 + 5 * k) (fun j => τ 1 (26 * (k + 1) + j))) : CV layC MX0_copy [vP 1, vP (11 + 5 * k)] σ (fun σ3 => CI layM MX8_back [vP 0, vI kk] τ (fun r' τ' => σ3 1 0 = r' ∧ Rel σ3 τ')) := by
  obtain ⟨V, N, S, K, hE⟩ := hE
  refine copy_s isE_1 hb (by omega) (fun σ' f1 f2 f3 f4 => X8_back_E (in_s (gT (fun _ => ⟨by omega, by omega, fun _ => ⟨⟨by omega, by omega⟩, ⟨by omega, by omega⟩, ?_⟩, fun z => ?_⟩) (fun z => absurd ⟨by omega, by omega⟩ z))))
  · refine copies_s (by omega) (by omega) (by omega) (fun τ' g1 g2 g3 => ?_)
    have hE' : rE σ' 1 (τ' 1) V N S K := hE.copied f2 f3 f4 (fun j a b => by
      have := g2 j a b
      rw [Int.zero_add] at this
      rw [this, hkk])
    refine ⟨by rw [hE'.1.2.1, hE'.1.2.2], h.est ⟨fun q a => f1 q (by omega), by rw [f1 0 (by omega)], by rw [f1 36 (by omega)], by rw [f1 37 (by omega)]⟩ ⟨fun q a => g1 q (by omega), fun j a b => g3 j (by omega), by rw [g1 0 (by decide)], by rw [g1 0 (by decide)], by rw [g1 0 (by decide)]⟩ ⟨V, N, S, K, hE'⟩⟩
  · rw [hkk, h3] at z; exact absurd z (by decide)
theorem T_back (h : Rel σ τ) (x : Int) : TI MX7_back MX8_back [vI x] σ τ := by
  refine X7_back_E (within_s (gT (fun hx => ⟨hx.1, by omega, fun h0 => ⟨hx.1, by omega, fun hk => ?_, fun hk => ?_⟩, fun h0 => ?_⟩) (fun hx => X8_back_E (in_s (gT (fun z => absurd z hx) (fun _ => ⟨rfl, h⟩))))))
  · rcases h.2.1.1 with ⟨a, b⟩ | ⟨a, b, c⟩
    · rw [hk] at h0; exact absurd a h0
    · exact back_one (k := 0) h (by omega) hk isE_11 b c
  · rcases h.2.1.2 with ⟨a, b⟩ | ⟨a, b, c⟩
    · rw [hk] at h0; exact absurd a h0
    · exact back_one (k := 1) h (by omega) hk isE_16 b c
  · refine X8_back_E (in_s (gT (fun _ => ⟨hx.1, by omega, fun z => ?_, fun _ => ⟨rfl, h⟩⟩) (fun z => absurd hx z)))
    rcases (show x = 0 ∨ x = 1 by omega) with rfl | rfl
    · rcases h.2.1.1 with ⟨a, b⟩ | ⟨a, b, c⟩
      · exact absurd b z
      · exact absurd (h0.symm.trans a) (by decide)
    · rcases h.2.1.2 with ⟨a, b⟩ | ⟨a, b, c⟩
      · exact absurd b z
      · exact absurd (h0.symm.trans a) (by decide)
end IMG
