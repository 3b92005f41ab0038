/-! ===== questions: each side answers by one reckoning ===== -/
theorem TI_of {M M' : MI} {as : List AV} {σ τ : Mem} (h : Rel σ τ) {F : Int} (hC : CI layC M (vP 0 :: as) σ (fun r σ' => r = F ∧ KC σ σ')) (hM : CI layM M' (vP 0 :: as) τ (fun r τ' => r = F ∧ KM τ τ')) : TI M M' as σ τ :=
  Cl.monoI hC (fun _ _ x => Cl.monoI hM (fun _ _ y => ⟨x.1.trans y.1.symm, h.keep x.2 y.2⟩))
theorem TJ_of {M M' : MI} {as : List AV} {σ τ : Mem} (h : Rel σ τ) {F : Int} (hC : CJ layC M (vP 0 :: as) σ (fun r σ' => r = F ∧ KC σ σ')) (hM : CJ layM M' (vP 0 :: as) τ (fun r τ' => r = F ∧ KM τ τ')) : TJ M M' as σ τ :=
  Cl.monoJ hC (fun _ _ x => Cl.monoJ hM (fun _ _ y => ⟨x.1.trans y.1.symm, h.keep x.2 y.2⟩))
def shr (u d : Int → Int) (A i : Int) : Int := A * u i / d i
def whB (u d : Int → Int) (A i : Int) : Bool := decide (A * u i % d i = 0)
def lendP (u d : Int → Int) (N : Nat) (V what n : Int) : Bool := allF (whB u d (V + n)) N && (decide (what = 0) || decide (sumF (shr u d (V + n)) N = V))
theorem shr_bd {N : Nat} {u d : Int → Int} (hok : okP N u d) {A : Int} (hA : 0 ≤ A ∧ A ≤ 2000) {i : Int} (h0 : 0 ≤ i) (h1 : i < N) : (0 ≤ A * u i ∧ A * u i ≤ 18000) ∧ 0 ≤ shr u d A i ∧ shr u d A i ≤ 18000 := by
  obtain ⟨a, b⟩ := hok.2 i h0 h1
  have m := mulbd hA.1 hA.2 (show 0 ≤ u i by omega) a.2
  refine ⟨⟨m.1, by omega⟩, Int.ediv_nonneg m.1 (by omega), ?_⟩
  have := Int.ediv_le_self (d i) m.1
  unfold shr; omega
section LEND
variable {V N S : Nat} {K : Int} {σ τ : Mem} {f : Int → Int}
theorem wholePart_s (hok : okP N (σ 2) (σ 3)) {A : Int} (hA : 0 ≤ A ∧ A ≤ 2000) {i : Int} (h0 : 0 ≤ i) (h1 : i < N) {Q : Int → Mem → Prop} (hQ : Q (if whB (σ 2) (σ 3) A i then shr (σ 2) (σ 3) A i else -4) σ) : CI layC MX7_wholePart [vP 0, vI i, vI A] σ Q := by
  have h5 := hok.1
  have hd := (hok.2 i h0 h1).2
  obtain ⟨m, s⟩ := shr_bd hok hA h0 h1
  refine X7_wholePart_E ⟨h0, by omega, ⟨by omega, by omega⟩, h0, by omega, remd_s (by omega) m.1 ⟨fun z => ?_, fun z => ⟨h0, by omega, quot_s (by omega) m.1 (by omega) ⟨⟨?_, ?_⟩, ?_⟩⟩⟩⟩
  · rwa [if_neg (by unfold whB; simp [z])] at hQ
  · have := s.1; unfold shr at this; omega
  · have := s.2; unfold shr at this; omega
  · rwa [if_pos (by unfold whB; simp [z])] at hQ
theorem sharedWhole_s (hok : okP N (σ 2) (σ 3)) (hN : σ 1 2 = N) {A : Int} (hA : 0 ≤ A ∧ A ≤ 2000) {Q : Int → Mem → Prop} (hQ : Q (if allF (whB (σ 2) (σ 3) A) N then sumF (shr (σ 2) (σ 3) A) N else -4) σ) : CI layC MX7_sharedWhole [vP 0, vI A] σ Q := by
  have h5 := hok.1
  have key : ∀ (m i : Nat), i + m = N → allF (whB (σ 2) (σ 3) A) i = true → LX7_sharedWhole_4 A (sumF (shr (σ 2) (σ 3) A) i) i σ Q := by
    intro m
    induction m with
    | zero =>
      intro i hi ha
      rw [show N = i by omega, if_pos ha] at hQ
      exact X7_sharedWhole_4 ⟨fun _ => hQ, fun z => by omega⟩
    | succ m ih =>
      intro i hi ha
      refine X7_sharedWhole_4 ⟨fun z => by omega, fun _ => wholePart_s hok hA (by omega) (by omega) ?_⟩
      have hs := (shr_bd hok hA (i := i) (by omega) (by omega)).2
      have b1 : 0 ≤ sumF (shr (σ 2) (σ 3) A) i := sumF_nonneg (fun j a b => (shr_bd hok hA a (by omega)).2.1)
      have b2 : sumF (shr (σ 2) (σ 3) A) i ≤ i * 18000 := sumF_bd (fun j a b => (shr_bd hok hA a (by omega)).2.2)
      cases e : whB (σ 2) (σ 3) A i with
      | true =>
        rw [if_pos rfl]
        refine ⟨fun _ => ⟨⟨by omega, by omega⟩, ⟨by omega, by omega⟩, ?_⟩, fun z => by omega⟩
        have := ih (i + 1) (by omega) (by unfold allF; rw [ha, e]; rfl)
        simpa [sumF] using this
      | false =>
        rw [if_neg (by decide)]
        refine ⟨fun z => absurd z (by decide), fun _ => ?_⟩
        rwa [if_neg (by rw [allF_no (i := i) (by omega) (by omega) e]; decide)] at hQ
  have := key N 0 (by omega) rfl
  exact X7_sharedWhole_E (by simpa [sumF] using this)
theorem lendC_s (h : rE σ 1 f V N S K) {x : Int} {Q : Int → Mem → Prop} (hQ : Q (fstFrom (lendP (σ 2) (σ 3) N V x) (-4) 0 1000) σ) : LX7_lend_13 x 0 σ Q := by
  have hok := h.2.2.1.2.2.1
  have hV := h.1.1
  have hs0 : ∀ n : Nat, 0 ≤ sumF (shr (σ 2) (σ 3) ((V : Int) + n)) N ∨ 2000 < (V : Int) + n := by
    intro n
    rcases ltge 2000 ((V : Int) + n) with z | z
    · right; omega
    · left; exact sumF_nonneg (fun j a b => (shr_bd hok ⟨by omega, z⟩ a b).2.1)
  have key : ∀ (m n : Nat), n + m = 1000 → Q (fstFrom (lendP (σ 2) (σ 3) N V x) (-4) n m) σ → LX7_lend_13 x n σ Q := by
    intro m
    induction m with
    | zero => intro n hn hq; exact X7_lend_13 ⟨fun _ => hq, fun z => by omega⟩
    | succ m ih =>
      intro n hn hq
      refine X7_lend_13 ⟨fun z => by omega, fun _ => ?_⟩
      rw [h.1.2.1]
      refine ⟨⟨by omega, by omega⟩, sharedWhole_s hok h.2.2.1.1 ⟨by omega, by omega⟩ ?_⟩
      have hnx : lendP (σ 2) (σ 3) N V x n = false → LX7_lend_13 x ((n : Int) + 1) σ Q := by
        intro e
        have := ih (n + 1) (by omega) (by unfold fstFrom at hq; rwa [if_neg (by rw [e]; decide)] at hq)
        simpa using this
      have hst : lendP (σ 2) (σ 3) N V x n = true → Q n σ := by
        intro e
        unfold fstFrom at hq
        rwa [if_pos e] at hq
      have hi32 : I32 ((n : Int) + 1) := ⟨by omega, by omega⟩
      have hs := hs0 n
      cases e : allF (whB (σ 2) (σ 3) ((V : Int) + n)) N with
      | false =>
        rw [if_neg (by decide)]
        exact ⟨fun _ => ⟨hi32, hnx (by unfold lendP; rw [e]; rfl)⟩, fun z => absurd z (by decide)⟩
      | true =>
        rw [if_pos rfl]
        refine ⟨fun z => by omega, fun _ => ⟨fun hx => hst ?_, fun hx => ⟨fun hv => ⟨hi32, hnx ?_⟩, fun hv => hst ?_⟩⟩⟩
        · unfold lendP; rw [e]; simp [hx]
        · unfold lendP; rw [e]; rw [h.1.2.1] at hv; simp [hx, hv]
        · unfold lendP; rw [e]; rw [h.1.2.1] at hv; simp [hv]
  exact key 1000 0 (by omega) hQ
theorem isWhole_s (hok : okP N (σ 2) (σ 3)) (hu : ∀ i : Int, 0 ≤ i → i < N → τ 1 (3 + 2 * i) = σ 2 i ∧ τ 1 (3 + 2 * i + 1) = σ 3 i) {A : Int} (hA : 0 ≤ A ∧ A ≤ 2000) {i : Int} (h0 : 0 ≤ i) (h1 : i < N) {Q : Int → Mem → Prop} (hQ : Q (if whB (σ 2) (σ 3) A i then 1 else 0) τ) : CI layM MX8_isWhole [vP 0, vI i, vI A] τ Q := by
  have h5 := hok.1
  have hd := (hok.2 i h0 h1).2
  obtain ⟨m, s⟩ := shr_bd hok hA h0 h1
  refine X8_isWhole_E ?_
  rw [(hu i h0 h1).1, (hu i h0 h1).2, Int.tmod_eq_emod_of_nonneg m.1]
  refine ⟨⟨by omega, by omega⟩, ⟨by omega, by omega⟩, by omega, by omega, ⟨by omega, by omega⟩, ⟨by omega, by omega⟩, ⟨by omega, by omega⟩, ⟨by omega, by omega⟩, by omega, by omega, by omega, fun z => ?_, fun z => ?_⟩
  · rwa [if_neg (by unfold whB; simp [z])] at hQ
  · rwa [if_pos (by unfold whB; simp [z])] at hQ
theorem lendM_s (h : rE σ 1 (τ 1) V N S K) {x : Int} {Q : Int → Mem → Prop} (hQ : Q (fstFrom (lendP (σ 2) (σ 3) N V x) (-4) 0 1000) τ) : LX8_lend_11 x 0 τ Q := by
  have hok := h.2.2.1.2.2.1
  have hu := h.2.2.1.2.2.2
  have h5 := hok.1
  have hV := h.1.1
  have inner : ∀ (n : Nat), n < 1000 → (lendP (σ 2) (σ 3) N V x n = false → LX8_lend_11 x ((n : Int) + 1) τ Q) → (lendP (σ 2) (σ 3) N V x n = true → Q n τ) → ∀ (m i : Nat), i + m = N → LX8_lend_36 x n ((V : Int) + n) (if allF (whB (σ 2) (σ 3) ((V : Int) + n)) i then 1 else 0) (sumF (shr (σ 2) (σ 3) ((V : Int) + n)) i) i τ Q := by
    intro n hn hnx hst m
    have hi32 : I32 ((n : Int) + 1) := ⟨by omega, by omega⟩
    induction m with
    | zero =>
      intro i hi
      have e : i = N := by omega
      subst e
      refine X8_lend_36 ⟨fun _ => ?_, fun z => by rw [h.2.2.1.2.1] at z; omega⟩
      rw [h.1.2.2]
      cases e : allF (whB (σ 2) (σ 3) ((V : Int) + n)) i with
      | false => rw [if_neg (by decide)]; exact ⟨fun _ => ⟨hi32, hnx (by unfold lendP; rw [e]; rfl)⟩, fun z => absurd rfl z⟩
      | true =>
        rw [if_pos rfl]
        refine ⟨fun z => absurd z (by decide), fun _ => ⟨fun hx => hst ?_, fun hx => ⟨fun hv => ⟨hi32, hnx ?_⟩, fun hv => hst ?_⟩⟩⟩
        · unfold lendP; rw [e]; simp [hx]
        · unfold lendP; rw [e]; simp [hx, hv]
        · unfold lendP; rw [e]; simp [hv]
    | succ m ih =>
      intro i hi
      have hA : 0 ≤ (V : Int) + n ∧ (V : Int) + n ≤ 2000 := ⟨by omega, by omega⟩
      obtain ⟨mm, hs⟩ := shr_bd hok hA (i := i) (by omega) (by omega)
      have b1 : 0 ≤ sumF (shr (σ 2) (σ 3) ((V : Int) + n)) i := sumF_nonneg (fun j a b => (shr_bd hok hA a (by omega)).2.1)
      have b2 : sumF (shr (σ 2) (σ 3) ((V : Int) + n)) i ≤ i * 18000 := sumF_bd (fun j a b => (shr_bd hok hA a (by omega)).2.2)
      have hd := (hok.2 i (by omega) (by omega)).2
      have step : ∀ (s0 : Int), s0 = (if allF (whB (σ 2) (σ 3) ((V : Int) + n)) (i + 1) then 1 else 0) → LX8_lend_67 x n ((V : Int) + n) (sumF (shr (σ 2) (σ 3) ((V : Int) + n)) i) i s0 τ Q := by
        intro s0 hs0
        refine X8_lend_67 ?_
        rw [(hu i (by omega) (by omega)).1, (hu i (by omega) (by omega)).2, Int.tdiv_eq_ediv_of_nonneg mm.1]
        unfold shr at hs
        refine ⟨⟨by omega, by omega⟩, ⟨by omega, by omega⟩, by omega, by omega, ⟨by omega, by omega⟩, ⟨by omega, by omega⟩, ⟨by omega, by omega⟩, ⟨by omega, by omega⟩, by omega, by omega, by omega, ⟨by omega, by omega⟩, ⟨by omega, by omega⟩, ⟨by omega, by omega⟩, ?_⟩
        have := ih (i + 1) (by omega)
        rw [← hs0] at this
        simpa [sumF, shr] using this
      refine X8_lend_36 ⟨fun z => by rw [h.2.2.1.2.1] at z; omega, fun _ => ?_⟩
      cases e : allF (whB (σ 2) (σ 3) ((V : Int) + n)) i with
      | false => rw [if_neg (by decide)]; exact ⟨fun _ => step 0 (by unfold allF; rw [e]; rfl), fun z => absurd rfl z⟩
      | true =>
        rw [if_pos rfl]
        refine ⟨fun z => absurd z (by decide), fun _ => isWhole_s hok hu hA (by omega) (by omega) ?_⟩
        cases e2 : whB (σ 2) (σ 3) ((V : Int) + n) i with
        | false => rw [if_neg (by decide)]; exact ⟨fun _ => step 0 (by unfold allF; rw [e, e2]; rfl), fun z => absurd rfl z⟩
        | true => rw [if_pos rfl]; exact ⟨fun z => absurd z (by decide), fun _ => step 1 (by unfold allF; rw [e, e2]; rfl)⟩
  have key : ∀ (m n : Nat), n + m = 1000 → Q (fstFrom (lendP (σ 2) (σ 3) N V x) (-4) n m) τ → LX8_lend_11 x n τ Q := by
    intro m
    induction m with
    | zero => intro n hn hq; exact X8_lend_11 ⟨fun _ => hq, fun z => by omega⟩
    | succ m ih =>
      intro n hn hq
      refine X8_lend_11 ⟨fun z => by omega, fun _ => ?_⟩
      rw [h.1.2.2]
      refine ⟨⟨by omega, by omega⟩, ?_⟩
      have := inner n (by omega) (fun e => by
        have := ih (n + 1) (by omega) (by unfold fstFrom at hq; rwa [if_neg (by rw [e]; decide)] at hq)
        simpa using this) (fun e => by unfold fstFrom at hq; rwa [if_pos e] at hq) N 0 (by omega)
      simpa [sumF, allF] using this
  exact key 1000 0 (by omega) hQ
theorem T_lend (h : Rel σ τ) (x : Int) : TI MX7_lend MX8_lend [vI x] σ τ := by
  obtain ⟨V, N, S, K, hE⟩ := h.1
  refine X7_lend_E (within_s (gT (fun hx => lendC_s hE (X8_lend_E (isPart_s (gT (fun _ => lendM_s hE ⟨rfl, h⟩) (fun z => absurd hx z))))) (fun hx => X8_lend_E (isPart_s (gT (fun z => absurd z hx) (fun _ => ⟨rfl, h⟩))))))
theorem T_share (h : Rel σ τ) (x n : Int) : TI MX7_share MX8_share [vI x, vI n] σ τ := by
  obtain ⟨V, N, S, K, hE⟩ := h.1
  have hok := hE.2.2.1.2.2.1
  have h5 := hok.1
  have hV := hE.1.1
  refine X7_share_E (has_s isE_1 hE.2.2.1.1 (gF (fun hx => within_s (gT (fun hn => ?_) (fun hn => ?_))) (fun hx => X8_share_E (isHeir_s hE.2.2.1.2.1 h5 (gF (fun z => absurd z hx) (fun _ => ⟨rfl, h⟩))))))
  · rw [hE.1.2.1]
    have hA : 0 ≤ (V : Int) + n ∧ (V : Int) + n ≤ 2000 := ⟨by omega, by omega⟩
    refine ⟨⟨by omega, by omega⟩, wholePart_s hok hA hx.1 hx.2 (X8_share_E (isHeir_s hE.2.2.1.2.1 h5 (gF (fun _ => in_s (gT (fun _ => ?_) (fun z => absurd hn z))) (fun z => absurd hx z))))⟩
    rw [hE.1.2.2]
    refine ⟨⟨by omega, by omega⟩, isWhole_s hok hE.2.2.1.2.2.2 hA hx.1 hx.2 ?_⟩
    obtain ⟨m, s⟩ := shr_bd hok hA hx.1 hx.2
    have hd := (hok.2 x hx.1 hx.2).2
    cases e : whB (σ 2) (σ 3) ((V : Int) + n) x with
    | false => rw [if_neg (by decide), if_neg (by decide)]; exact ⟨fun _ => ⟨rfl, h⟩, fun z => absurd rfl z⟩
    | true =>
      rw [if_pos rfl, if_pos rfl]
      refine ⟨fun z => absurd z (by decide), fun _ => ?_⟩
      rw [(hE.2.2.1.2.2.2 x hx.1 hx.2).1, (hE.2.2.1.2.2.2 x hx.1 hx.2).2, Int.tdiv_eq_ediv_of_nonneg m.1]
      unfold shr at s ⊢
      exact ⟨⟨by omega, by omega⟩, ⟨by omega, by omega⟩, by omega, by omega, ⟨by omega, by omega⟩, ⟨by omega, by omega⟩, ⟨by omega, by omega⟩, ⟨by omega, by omega⟩, by omega, by omega, by omega, ⟨by omega, by omega⟩, rfl, h⟩
  · exact X8_share_E (isHeir_s hE.2.2.1.2.1 h5 (gF (fun _ => in_s (gT (fun z => absurd z hn) (fun _ => ⟨rfl, h⟩))) (fun z => absurd hx z)))
end LEND
