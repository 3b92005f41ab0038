/-! ===== by greatest rests ===== -/
def pickM (r : Int → Int) : Nat → Int
  | 0 => 0
  | k + 1 => if 0 < k ∧ r (pickM r k) < r k then (k : Int) else pickM r k
theorem pickM_in {r : Int → Int} : ∀ {k : Nat}, 0 < k → 0 ≤ pickM r k ∧ pickM r k < k
  | 0, h => by omega
  | k + 1, _ => by
    unfold pickM
    split
    · omega
    · by_cases hk : k = 0
      · subst hk; simp [pickM]
      · have := pickM_in (r := r) (k := k) (by omega); omega
theorem pickM_congr {r r' : Int → Int} : ∀ {k : Nat}, (∀ i : Int, 0 ≤ i → i < k → r i = r' i) → pickM r k = pickM r' k
  | 0, _ => rfl
  | k + 1, h => by
    have ih := pickM_congr (r := r) (r' := r') (k := k) (fun i a b => h i a (by omega))
    unfold pickM
    rw [ih]
    by_cases hk : 0 < k
    · have hp := pickM_in (r := r') hk
      rw [h k (by omega) (by omega), h _ hp.1 (by omega)]
    · simp [hk]
def setF (r : Int → Int) (p x : Int) : Int → Int := fun j => if j = p then x else r j
def rsG (f r : Int → Int) (N : Nat) : Nat → (Int → Int) × (Int → Int)
  | 0 => (f, r)
  | t + 1 => (bump (rsG f r N t).1 (pickM (rsG f r N t).2 N), setF (rsG f r N t).2 (pickM (rsG f r N t).2 N) (-1))
def restF (w : Int → Int) (a v : Int) (i : Int) : Int := v * w i / a
def restR (w : Int → Int) (a v : Int) (i : Int) : Int := v * w i % a
def restL (w : Int → Int) (a v : Int) (N : Nat) : Nat := (v - sumF (restF w a v) N).toNat
def restG (w : Int → Int) (a v : Int) (N : Nat) : Int → Int := (rsG (restF w a v) (restR w a v) N (restL w a v N)).1
theorem restL_bd {w : Int → Int} {a v : Int} {N : Nat} (hN : 0 < N) (hw : ∀ i : Int, 0 ≤ i → i < N → 0 < w i) (ha : a = sumF w N) (ha0 : 0 < a) : 0 ≤ v - sumF (restF w a v) N ∧ v - sumF (restF w a v) N < N := by
  have h1 : sumF (fun i => a * restF w a v i + restR w a v i) N = v * a := by
    have e : (fun i => a * restF w a v i + restR w a v i) = fun i => v * w i := by funext i; exact Int.mul_ediv_add_emod _ _
    rw [e, sumF_mul, ← ha]
  rw [sumF_add, sumF_mul] at h1
  have h2 : 0 ≤ sumF (restR w a v) N := sumF_nonneg (fun i _ _ => Int.emod_nonneg _ (by omega))
  have h3 : sumF (restR w a v) N ≤ N * (a - 1) := sumF_bd (fun i _ _ => by have := Int.emod_lt_of_pos (v * w i) ha0; unfold restR; omega)
  generalize sumF (restF w a v) N = S at h1 ⊢
  generalize sumF (restR w a v) N = T at h1 h2 h3
  have e1 : a * (v - S) = T := by rw [Int.mul_sub, Int.mul_comm a v]; omega
  have e2 : (N : Int) * (a - 1) = a * N - N := by rw [Int.mul_sub, Int.mul_comm]; omega
  constructor
  · rcases ltge (v - S) 0 with h | h
    · have := Int.mul_neg_of_pos_of_neg ha0 h; omega
    · exact h
  · rcases ltge (v - S) N with h | h
    · exact h
    · have := Int.mul_le_mul_of_nonneg_left h (show 0 ≤ a by omega); omega
/-- the same by marks of who has had one more -/
def pickZ (z r : Int → Int) : Nat → Int
  | 0 => -4
  | k + 1 => if z k = 0 ∧ (pickZ z r k = -4 ∨ r (pickZ z r k) < r k) then (k : Int) else pickZ z r k
theorem pickZ_eq {z rem r : Int → Int} : ∀ {k : Nat}, (∀ i : Int, 0 ≤ i → i < k → r i = (if z i = 0 then rem i else -1) ∧ 0 ≤ rem i) →
    ((∀ i : Int, 0 ≤ i → i < k → z i ≠ 0) ∧ pickZ z rem k = -4) ∨ (0 < k ∧ pickZ z rem k = pickM r k ∧ z (pickM r k) = 0)
  | 0, _ => Or.inl ⟨fun i a b => by omega, rfl⟩
  | k + 1, h => by
    have ih := pickZ_eq (z := z) (rem := rem) (r := r) (k := k) (fun i a b => h i a (by omega))
    have hk := h k (by omega) (by omega)
    unfold pickZ pickM
    rcases ih with ⟨h1, h2⟩ | ⟨h0, h1, h2⟩
    · rw [h2]
      by_cases hz : z k = 0
      · right
        rw [if_pos ⟨hz, Or.inl rfl⟩]
        refine ⟨by omega, ?_⟩
        by_cases hk0 : 0 < k
        · have hp := pickM_in (r := r) hk0
          have e1 := (h (pickM r k) hp.1 (by omega)).1
          rw [if_neg (h1 _ hp.1 hp.2)] at e1
          have e2 := hk.1
          rw [if_pos hz] at e2
          have hc : 0 < k ∧ r (pickM r k) < r k := ⟨hk0, by rw [e1, e2]; have := hk.2; omega⟩
          rw [if_pos hc]
          exact ⟨rfl, hz⟩
        · have : k = 0 := by omega
          subst this
          simp [pickM]
          exact hz
      · left
        rw [if_neg (fun z => hz z.1)]
        refine ⟨fun i a b => ?_, rfl⟩
        by_cases hi : i = k
        · subst hi; exact hz
        · exact h1 i a (by omega)
    · right
      have hp := pickM_in (r := r) h0
      have e1 := (h (pickM r k) hp.1 (by omega)).1
      rw [if_pos h2] at e1
      have hne : pickM r k ≠ -4 := by omega
      rw [h1]
      refine ⟨by omega, ?_⟩
      by_cases hz : z k = 0
      · have e2 := hk.1
        rw [if_pos hz] at e2
        by_cases hc : rem (pickM r k) < rem k
        · rw [if_pos ⟨hz, Or.inr hc⟩, if_pos ⟨h0, by rw [e1, e2]; exact hc⟩]
          exact ⟨rfl, hz⟩
        · rw [if_neg (fun q => by rcases q.2 with q | q <;> omega), if_neg (fun q => hc (by rw [← e1, ← e2]; exact q.2))]
          exact ⟨rfl, h2⟩
      · have e2 := hk.1
        rw [if_neg hz] at e2
        have hr0 := (h (pickM r k) hp.1 (by omega)).2
        rw [if_neg (fun q => hz q.1), if_neg (fun q => by have := q.2; rw [e1, e2] at this; omega)]
        exact ⟨rfl, h2⟩
theorem sumZ_full {z : Int → Int} : ∀ {n : Nat}, (∀ i : Int, 0 ≤ i → i < n → z i = 0 ∨ z i = 1) → sumF z n < n → ∃ i : Int, 0 ≤ i ∧ i < n ∧ z i = 0
  | 0, _, h => by simp [sumF] at h
  | n + 1, h, hs => by
    have hs : sumF z n + z n < ((n + 1 : Nat) : Int) := hs
    rcases h n (by omega) (by omega) with h0 | h1
    · exact ⟨n, by omega, by omega, h0⟩
    · obtain ⟨i, a, b, c⟩ := sumZ_full (z := z) (n := n) (fun i a b => h i a (by omega)) (by omega)
      exact ⟨i, a, by omega, c⟩
theorem sumF_set {z : Int → Int} {p x : Int} : ∀ {n : Nat}, 0 ≤ p → p < n → sumF (setF z p x) n = sumF z n - z p + x
  | 0, h0, h1 => by omega
  | n + 1, h0, h1 => by
    show sumF (setF z p x) n + setF z p x n = sumF z n + z n - z p + x
    by_cases hp : p = n
    · subst hp
      rw [sumF_congr (f := setF z n x) (g := z) (fun i a b => by unfold setF; rw [if_neg (by omega)])]
      unfold setF; rw [if_pos rfl]; omega
    · rw [sumF_set h0 (by omega)]
      unfold setF; rw [if_neg (by omega)]; omega
/-! ===== told, one behind another ===== -/
def toldL (w : Int → Int) (c v : Int) : Nat → Int
  | 0 => v
  | k + 1 => toldL w c v k - min (toldL w c v k) (v * w k / c)
def toldG (w : Int → Int) (c v : Int) (i : Int) : Int := min (toldL w c v i.toNat) (v * w i / c)
theorem toldL_bd {w : Int → Int} {c v : Int} (hv : 0 ≤ v) (hc : 0 < c) : ∀ {k : Nat}, (∀ i : Int, 0 ≤ i → i < k → 0 ≤ w i) → 0 ≤ toldL w c v k ∧ toldL w c v k ≤ v
  | 0, _ => ⟨hv, Int.le_refl _⟩
  | k + 1, h => by
    have ih := toldL_bd (w := w) hv hc (k := k) (fun i a b => h i a (by omega))
    have h1 : 0 ≤ v * w k / c := Int.ediv_nonneg (Int.mul_nonneg hv (h k (by omega) (by omega))) (by omega)
    show 0 ≤ toldL w c v k - min (toldL w c v k) (v * w k / c) ∧ toldL w c v k - min (toldL w c v k) (v * w k / c) ≤ v
    omega
/-! ===== what all get, by a kind of judge, of v camels ===== -/
def allo (N : Nat) (w : Int → Int) (c a : Int) (kind : Int) (v : Nat) : Int → Int :=
  if kind = 0 then toldG w c v else if kind = 1 then restG w a v N else rowG w (if kind = 2 then 1 else 2) N v
