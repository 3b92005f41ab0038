/-! ===== the reference's judges ===== -/
theorem in_s {x l h : Int} {τ : Mem} {Q : Int → Mem → Prop} (hQ : Q (if l ≤ x ∧ x ≤ h then 1 else 0) τ) : CI layM MX8_in [vJ x, vJ l, vJ h] τ Q := by
  refine X8_in_E ⟨fun a => ?_, fun a => ⟨fun c => ?_, fun c => ?_⟩⟩
  · rwa [if_neg (by omega)] at hQ
  · rwa [if_neg (by omega)] at hQ
  · rwa [if_pos ⟨a, c⟩] at hQ
/-- the places of parts in a row of 26 -/
def mu (f : Int → Int) (i : Int) : Int := f (3 + 2 * i)
def md (f : Int → Int) (i : Int) : Int := f (3 + 2 * i + 1)
/-- reckoned: the heirs at hand are u, d -/
def ML (τ : Mem) (N : Nat) (u d : Int → Int) : Prop := τ 2 1 = N ∧ (∀ i : Int, 0 ≤ i → i < N → τ 2 (3 + 2 * i) = u i ∧ τ 2 (3 + 2 * i + 1) = d i) ∧ τ 0 15 = cmD d N ∧ τ 0 16 = alD u d N ∧ ∀ i : Int, 0 ≤ i → i < N → τ 6 i = wtD u d N i
section MJ
variable {N : Nat} {u d : Int → Int} {τ0 : Mem}
theorem reckons_s (hok : okP N u d) (hN : τ0 2 1 = N) (hu : ∀ i : Int, 0 ≤ i → i < N → τ0 2 (3 + 2 * i) = u i ∧ τ0 2 (3 + 2 * i + 1) = d i) {Q : Mem → Prop}
    (hQ : ∀ τ', (∀ q, q ≠ 0 → q ≠ 6 → τ' q = τ0 q) → (∀ j, j ≠ 15 → j ≠ 16 → τ' 0 j = τ0 0 j) → ML τ' N u d → Q τ') : CV layM MX8_reckons [vP 0] τ0 Q := by
  have h5 := hok.1
  have key2 : ∀ (m k : Nat) (τ : Mem), k + m = N → (∀ q, q ≠ 0 → q ≠ 6 → τ q = τ0 q) → (∀ j, j ≠ 15 → j ≠ 16 → τ 0 j = τ0 0 j) → τ 0 15 = cmD d N → τ 0 16 = sumF (wtD u d N) k → (∀ i : Int, 0 ≤ i → i < k → τ 6 i = wtD u d N i) → LX8_reckons_52 k τ Q := by
    intro m
    induction m with
    | zero =>
      intro k τ hk hF hO h15 h16 hw
      have e2 := hF 2 (by decide) (by decide)
      refine X8_reckons_52 ⟨fun _ => hQ τ hF hO ⟨by rw [e2]; exact hN, fun i x y => by rw [e2]; exact hu i x y, h15, by rw [h16, show k = N by omega]; rfl, fun i x y => hw i x (by omega)⟩, fun h => by rw [e2, hN] at h; omega⟩
    | succ m ih =>
      intro k τ hk hF hO h15 h16 hw
      have e2 := hF 2 (by decide) (by decide)
      obtain ⟨⟨a1, a2⟩, a3, a4⟩ := hok.2 k (by omega) (by omega)
      have hc := cm_bd hok
      have hwk := wt_bd hok (i := k) (by omega) (by omega)
      have hs0 : 0 ≤ sumF (wtD u d N) k := sumF_nonneg (fun i x y => by have := (wt_bd hok x (show i < (N : Int) by omega)).1; omega)
      have hs1 := sumF_bd (f := wtD u d N) (B := 85589104491) (n := k) (fun i x y => (wt_bd hok x (show i < (N : Int) by omega)).2)
      obtain ⟨eu, ed⟩ := hu k (by omega) (by omega)
      refine X8_reckons_52 ⟨fun h => by rw [e2, hN] at h; omega, fun h => ?_⟩
      rw [e2, eu, ed, h15, Int.tdiv_eq_ediv_of_nonneg (show 0 ≤ cmD d N by omega)]
      have ew : cmD d N / d k * u k = wtD u d N k := rfl
      have hq0 := Int.ediv_nonneg (show 0 ≤ cmD d N by omega) (show 0 ≤ d k by omega)
      have hq1 := Int.ediv_le_self (d k) (show 0 ≤ cmD d N by omega)
      rw [ew]
      have e1 : upM τ 6 k (wtD u d N k) 0 16 = sumF (wtD u d N) k := by rw [upM_q (by decide), h16]
      have e3 : upM τ 6 k (wtD u d N k) 6 k = wtD u d N k := upM_s
      rw [e1, e3]
      refine ⟨⟨by omega, by omega⟩, ⟨by omega, by omega⟩, ⟨by omega, by omega⟩, by omega, by omega, by omega, ⟨by omega, by omega⟩, ⟨by omega, by omega⟩, ⟨by omega, by omega⟩, by omega, by omega, ⟨by omega, by omega⟩, by omega, by omega, by omega, by omega, ⟨by omega, by omega⟩, ⟨by omega, by omega⟩, ?_⟩
      have := ih (k + 1) (upM (upM τ 6 k (wtD u d N k)) 0 16 (sumF (wtD u d N) k + wtD u d N k)) (by omega) (fun q x y => by rw [upM_q x, upM_q y]; exact hF q x y) (fun j x y => by rw [upM_j y, upM_q (by decide)]; exact hO j x y) (by rw [upM_j (by decide), upM_q (by decide)]; exact h15) upM_s (fun i x y => ?_)
      · simpa using this
      · rw [upM_q (by decide)]
        by_cases hi : i = k
        · rw [hi, upM_s]
        · rw [upM_j hi]; exact hw i x (by omega)
  have key1 : ∀ (m k : Nat) (τ : Mem), k + m = N → (∀ q, q ≠ 0 → q ≠ 6 → τ q = τ0 q) → (∀ j, j ≠ 15 → j ≠ 16 → τ 0 j = τ0 0 j) → τ 0 15 = prodF d k → τ 0 16 = 0 → LX8_reckons_12 k τ Q := by
    intro m
    induction m with
    | zero =>
      intro k τ hk hF hO h15 h16
      have e2 := hF 2 (by decide) (by decide)
      refine X8_reckons_12 ⟨fun _ => key2 N 0 τ (by omega) hF hO (by rw [h15, show k = N by omega]; rfl) (by rw [h16]; rfl) (fun i x y => by omega), fun h => by rw [e2, hN] at h; omega⟩
    | succ m ih =>
      intro k τ hk hF hO h15 h16
      have e2 := hF 2 (by decide) (by decide)
      obtain ⟨eu, ed⟩ := hu k (by omega) (by omega)
      have hp := prodF_bd (d := d) (k := k + 1) (fun i x y => (hok.2 i x (by omega)).2)
      have hp2 := pow99 (k := k + 1) (by omega)
      have ep : prodF d (k + 1) = prodF d k * d k := rfl
      refine X8_reckons_12 ⟨fun h => by rw [e2, hN] at h; omega, fun h => ?_⟩
      rw [e2, ed, h15, ← ep]
      refine ⟨⟨by omega, by omega⟩, ⟨by omega, by omega⟩, ⟨by omega, by omega⟩, by omega, by omega, ⟨by omega, by omega⟩, ⟨by omega, by omega⟩, ?_⟩
      have := ih (k + 1) (upM τ 0 15 (prodF d (k + 1))) (by omega) (fun q x y => by rw [upM_q x]; exact hF q x y) (fun j x y => by rw [upM_j x]; exact hO j x y) upM_s (by rw [upM_j (by decide)]; exact h16)
      simpa using this
  refine X8_reckons_E ?_
  exact key1 N 0 (upM (upM τ0 0 15 1) 0 16 0) (by omega) (fun q x y => by rw [upM_q x, upM_q x]) (fun j x y => by rw [upM_j y, upM_j x]) (by rw [upM_j (by decide), upM_s]; rfl) upM_s
/-- what a judge's work may change of the reference: the heirs at hand, their parts, what all got -/
def SM (τ τ' : Mem) : Prop := (∀ q, q ≠ 0 → q ≠ 2 → q ≠ 6 → q ≠ 7 → q ≠ 8 → τ' q = τ q) ∧ ∀ j, j ≠ 15 → j ≠ 16 → τ' 0 j = τ 0 j
theorem SM.rf {τ : Mem} : SM τ τ := ⟨fun _ _ _ _ _ _ => rfl, fun _ _ _ => rfl⟩
theorem SM.trans {τ τ' τ'' : Mem} (h : SM τ τ') (h2 : SM τ' τ'') : SM τ τ'' := ⟨fun q a b c d e => (h2.1 q a b c d e).trans (h.1 q a b c d e), fun j a b => (h2.2 j a b).trans (h.2 j a b)⟩
theorem starts_s (hok : okP N u d) (hN : τ0 1 1 = N) (hu : ∀ i : Int, 0 ≤ i → i < N → τ0 1 (3 + 2 * i) = u i ∧ τ0 1 (3 + 2 * i + 1) = d i) {Q : Mem → Prop}
    (hQ : ∀ τ', SM τ0 τ' → (∀ k : Int, 0 ≤ k → k < 26 → τ' 2 k = τ0 1 k) → ML τ' N u d → Q τ') : CV layM MX8_starts [vP 0] τ0 Q := by
  have h5 := hok.1
  have key : ∀ (m k : Nat) (τ : Mem), k + m = 26 → (∀ q, q ≠ 2 → τ q = τ0 q) → (∀ i : Int, 0 ≤ i → i < k → τ 2 i = τ0 1 i) → LX8_starts_2 k τ Q := by
    intro m
    induction m with
    | zero =>
      intro k τ hk hF hc
      refine X8_starts_2 ⟨fun _ => ?_, fun h => by omega⟩
      refine reckons_s hok (by rw [hc 1 (by decide) (by omega)]; exact hN) (fun i x y => by rw [hc _ (by omega) (by omega), hc _ (by omega) (by omega)]; exact hu i x y) (fun τ' h1 h2 h3 => ?_)
      refine hQ τ' ⟨fun q a b c _ _ => by rw [h1 q a c]; exact hF q b, fun j a b => by rw [h2 j a b, hF 0 (by decide)]⟩ (fun k' a b => ?_) h3
      rw [h1 2 (by decide) (by decide)]
      exact hc k' a (by omega)
    | succ m ih =>
      intro k τ hk hF hc
      refine X8_starts_2 ⟨fun h => by omega, fun h => ⟨by omega, by omega, by omega, by omega, ⟨by omega, by omega⟩, ?_⟩⟩
      have := ih (k + 1) (upM τ 2 k (τ 1 k)) (by omega) (fun q x => by rw [upM_q x]; exact hF q x) (fun i x y => ?_)
      · simpa using this
      · by_cases hi : i = k
        · rw [hi, upM_s, hF 1 (by decide)]
        · rw [upM_j hi]; exact hc i x (by omega)
  exact X8_starts_E (key 26 0 τ0 (by omega) (fun _ _ => rfl) (fun i x y => by omega))
/-- all but what all got is as it was -/
def Gg (τ τ' : Mem) : Prop := ∀ q, q ≠ 7 → q ≠ 8 → τ' q = τ q
theorem Gg.rf {τ : Mem} : Gg τ τ := fun _ _ _ => rfl
theorem Gg.up7 {τ τ' : Mem} {j x : Int} (h : Gg τ τ') : Gg τ (upM τ' 7 j x) := fun q h1 h2 => by rw [upM_q h1]; exact h q h1 h2
theorem Gg.up8 {τ τ' : Mem} {j x : Int} (h : Gg τ τ') : Gg τ (upM τ' 8 j x) := fun q h1 h2 => by rw [upM_q h2]; exact h q h1 h2
theorem Gg.sm {τ τ' : Mem} (h : Gg τ τ') : SM τ τ' := ⟨fun q _ _ _ a b => h q a b, fun j _ _ => by rw [h 0 (by decide) (by decide)]⟩
theorem ML.gg {τ τ' : Mem} (h : ML τ N u d) (hF : Gg τ τ') : ML τ' N u d := by
  have e0 := hF 0 (by decide) (by decide)
  have e2 := hF 2 (by decide) (by decide)
  have e6 := hF 6 (by decide) (by decide)
  unfold ML
  rw [e0, e2, e6]
  exact h
theorem mtold_s (hok : okP N u d) (hL : ML τ0 N u d) {v : Nat} (hv : v ≤ 2000) {Q : Mem → Prop} (hQ : ∀ τ', Gg τ0 τ' → (∀ i : Int, 0 ≤ i → i < N → τ' 7 i = toldG (wtD u d N) (cmD d N) v i) → Q τ') : CV layM MX8_givesTold [vP 0, vI v] τ0 Q := by
  have h5 := hok.1
  have hW := okW_of hok
  have key : ∀ (m k : Nat) (τ : Mem), k + m = N → Gg τ0 τ → (∀ i : Int, 0 ≤ i → i < k → τ 7 i = toldG (wtD u d N) (cmD d N) v i) → LX8_givesTold_4 v (toldL (wtD u d N) (cmD d N) v k) k τ Q := by
    intro m
    induction m with
    | zero =>
      intro k τ hk hF hg
      have e2 := hF 2 (by decide) (by decide)
      exact X8_givesTold_4 ⟨fun _ => hQ τ hF (fun i x y => hg i x (by omega)), fun h => by rw [e2, hL.1] at h; omega⟩
    | succ m ih =>
      intro k τ hk hF hg
      have e2 := hF 2 (by decide) (by decide)
      obtain ⟨⟨a1, a2⟩, a3, a4⟩ := hok.2 k (by omega) (by omega)
      obtain ⟨eu, ed⟩ := hL.2.1 k (by omega) (by omega)
      have ht := toldL_bd (w := wtD u d N) (c := cmD d N) (v := v) (by omega) (by have := hW.2.1; omega) (k := k) (fun i x y => by have := (hW.2.2.1 i x (by omega)).1; omega)
      have hvu := mulbd (show 0 ≤ (v : Int) by omega) (show (v : Int) ≤ 2000 by omega) (show 0 ≤ u k by omega) a2
      have hq0 := Int.ediv_nonneg hvu.1 (show 0 ≤ d k by omega)
      have hq1 := Int.ediv_le_self (d k) hvu.1
      have et := told_eq hok (i := k) (by omega) (by omega) v
      have eg : toldG (wtD u d N) (cmD d N) v k = min (toldL (wtD u d N) (cmD d N) v k) ((v : Int) * u k / d k) := by rw [← et]; rfl
      have eL : toldL (wtD u d N) (cmD d N) v (k + 1) = toldL (wtD u d N) (cmD d N) v k - min (toldL (wtD u d N) (cmD d N) v k) ((v : Int) * u k / d k) := by rw [← et]; rfl
      refine X8_givesTold_4 ⟨fun h => by rw [e2, hL.1] at h; omega, fun h => ?_⟩
      rw [e2, eu, ed, Int.tdiv_eq_ediv_of_nonneg hvu.1]
      refine ⟨⟨by omega, by omega⟩, ⟨by omega, by omega⟩, by omega, by omega, ⟨by omega, by omega⟩, ⟨by omega, by omega⟩, ⟨by omega, by omega⟩, ⟨by omega, by omega⟩, by omega, by omega, by omega, ⟨by omega, by omega⟩, fun hc => ?_, fun hc => ?_⟩
      · rw [upM_s]
        refine ⟨by omega, by omega, by omega, by omega, ⟨by omega, by omega⟩, ⟨by omega, by omega⟩, ?_⟩
        have := ih (k + 1) (upM τ 7 k (toldL (wtD u d N) (cmD d N) v k)) (by omega) hF.up7 (fun i x y => ?_)
        · rw [eL, show min (toldL (wtD u d N) (cmD d N) v k) ((v : Int) * u k / d k) = toldL (wtD u d N) (cmD d N) v k by omega] at this
          simpa using this
        · by_cases hi : i = k
          · rw [hi, upM_s, eg]; omega
          · rw [upM_j hi]; exact hg i x (by omega)
      · rw [upM_s]
        refine ⟨by omega, by omega, by omega, by omega, ⟨by omega, by omega⟩, ⟨by omega, by omega⟩, ?_⟩
        have := ih (k + 1) (upM τ 7 k ((v : Int) * u k / d k)) (by omega) hF.up7 (fun i x y => ?_)
        · rw [eL, show min (toldL (wtD u d N) (cmD d N) v k) ((v : Int) * u k / d k) = (v : Int) * u k / d k by omega] at this
          simpa using this
        · by_cases hi : i = k
          · rw [hi, upM_s, eg]; omega
          · rw [upM_j hi]; exact hg i x (by omega)
  exact X8_givesTold_E (key N 0 τ0 (by omega) Gg.rf (fun i x y => by omega))
theorem mrow_s (hok : okP N u d) (hL : ML τ0 N u d) (hN : 0 < N) {v : Nat} (hv : v ≤ 2000) {y : Int} (hy : y = 1 ∨ y = 2) (h0 : ∀ i : Int, 0 ≤ i → i < N → τ0 7 i = 0) {Q : Mem → Prop} (hQ : ∀ τ', Gg τ0 τ' → (∀ i : Int, 0 ≤ i → i < N → τ' 7 i = rowG (wtD u d N) y N v i) → Q τ') : CV layM MX8_givesRow [vP 0, vI v, vI y] τ0 Q := by
  have h5 := hok.1
  have hW := okW_of hok
  have key : ∀ (m t : Nat) (τ : Mem), t + m = v → Gg τ0 τ → (∀ i : Int, 0 ≤ i → i < N → τ 7 i = rowG (wtD u d N) y N t i) → LX8_givesRow_2 v y t τ Q := by
    intro m
    induction m with
    | zero =>
      intro t τ ht hF hg
      exact X8_givesRow_2 ⟨fun _ => hQ τ hF (fun i a b => by rw [hg i a b, show t = v by omega]), fun h => by omega⟩
    | succ m ih =>
      intro t τ ht hF hg
      have e2 := hF 2 (by decide) (by decide)
      have e6 := hF 6 (by decide) (by decide)
      have hbd : ∀ i : Int, 0 ≤ i → i < N → 0 ≤ τ 7 i ∧ τ 7 i ≤ 3000 := fun i a b => by
        rw [hg i a b]
        have hn := itG_nonneg (w := wtD u d N) (y := y) (N := N) (h := fun _ => 0) (fun _ _ _ => by omega) t
        have hs := rowG_sum (w := wtD u d N) (y := y) hN t
        have := le_sum (f := rowG (wtD u d N) y N t) hn a b
        exact ⟨hn i a b, by omega⟩
      have hb64 : ∀ i j : Int, 0 ≤ i → i < N → 0 ≤ j → j < N → I32 (y * τ 7 j) ∧ I32 (y * τ 7 j + 1) ∧ I64 (τ 6 i * (y * τ 7 j + 1)) := fun i j a b a' b' => by
        have h1 := wt_bd hok a b
        have h2 := hbd j a' b'
        have h3 : 0 ≤ y * τ 7 j ∧ y * τ 7 j + 1 ≤ 6001 := by rcases hy with e | e <;> rw [e] <;> omega
        have h4 := mulbd (show 0 ≤ wtD u d N i by omega) h1.2 (show 0 ≤ y * τ 7 j + 1 by omega) h3.2
        rw [e6, hL.2.2.2.2 i a b]
        exact ⟨⟨by omega, by omega⟩, ⟨by omega, by omega⟩, ⟨by omega, by omega⟩⟩
      have inner : ∀ (m' k : Nat), k + m' = N → 0 < k → LX8_givesRow_13 v y t (pick (wtD u d N) (τ 7) y k) k τ Q := by
        intro m'
        induction m' with
        | zero =>
          intro k hk hk0
          have hkN : k = N := by omega
          subst hkN
          have hp := pick_in (w := wtD u d k) (g := τ 7) (y := y) hk0
          have hgp := hbd _ hp.1 hp.2
          refine X8_givesRow_13 ⟨fun _ => ?_, fun h => by rw [e2, hL.1] at h; omega⟩
          refine ⟨by omega, by omega, ⟨by omega, by omega⟩, by omega, by omega, ⟨by omega, by omega⟩, ?_⟩
          have ep : pick (wtD u d k) (τ 7) y k = pick (wtD u d k) (rowG (wtD u d k) y k t) y k := pick_congr (fun i a b => ⟨rfl, hg i a b⟩)
          have := ih (t + 1) (upM τ 7 (pick (wtD u d k) (τ 7) y k) (τ 7 (pick (wtD u d k) (τ 7) y k) + 1)) (by omega) hF.up7 (fun i a b => ?_)
          · simpa using this
          · show _ = bump (rowG (wtD u d k) y k t) (pick (wtD u d k) (rowG (wtD u d k) y k t) y k) i
            rw [ep]
            generalize pick (wtD u d k) (rowG (wtD u d k) y k t) y k = p
            by_cases hi : i = p
            · subst hi; rw [upM_s, hg i a b]; unfold bump; rw [if_pos rfl]
            · rw [upM_j hi, hg i a b]; unfold bump; rw [if_neg hi]
        | succ m' ihi =>
          intro k hk hk0
          have hp := pick_in (w := wtD u d N) (g := τ 7) (y := y) hk0
          have := ihi (k + 1) (by omega) (by omega)
          have b1 := hb64 k _ (by omega) (by omega) hp.1 (show pick (wtD u d N) (τ 7) y k < N by omega)
          have b2 := hb64 _ k hp.1 (show pick (wtD u d N) (τ 7) y k < N by omega) (by omega) (by omega)
          refine X8_givesRow_13 ⟨fun h => by rw [e2, hL.1] at h; omega, fun h => ⟨by omega, by omega, by omega, by omega, b1.1, b1.2.1, b1.2.2, by omega, by omega, by omega, by omega, b2.1, b2.2.1, b2.2.2, fun hc => ⟨⟨by omega, by omega⟩, ?_⟩, fun hc => ⟨⟨by omega, by omega⟩, ?_⟩⟩⟩
          · rw [e6, hL.2.2.2.2 k (by omega) (by omega), hL.2.2.2.2 _ hp.1 (by omega)] at hc
            have e : pick (wtD u d N) (τ 7) y (k + 1) = pick (wtD u d N) (τ 7) y k := by rw [pick, if_neg (fun z => by have := z.2; omega)]
            rw [e] at this
            simpa using this
          · rw [e6, hL.2.2.2.2 k (by omega) (by omega), hL.2.2.2.2 _ hp.1 (by omega)] at hc
            have e : pick (wtD u d N) (τ 7) y (k + 1) = k := by rw [pick, if_pos ⟨hk0, hc⟩]
            rw [e] at this
            simpa using this
      refine X8_givesRow_2 ⟨fun h => by omega, fun _ => ?_⟩
      have := inner (N - 1) 1 (by omega) (by omega)
      have e : pick (wtD u d N) (τ 7) y 1 = 0 := by simp [pick]
      rw [e] at this
      exact this
  exact X8_givesRow_E (key v 0 τ0 (by omega) Gg.rf (fun i a b => by rw [h0 i a b]; rfl))
end MJ
