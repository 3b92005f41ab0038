/-! ===== by rows: the next to him whose part by one more than y times what he has is most ===== -/
def pick (w g : Int → Int) (y : Int) : Nat → Int
  | 0 => 0
  | k + 1 => if 0 < k ∧ w (pick w g y k) * (y * g k + 1) < w k * (y * g (pick w g y k) + 1) then (k : Int) else pick w g y k
theorem pick_in {w g : Int → Int} {y : Int} : ∀ {k : Nat}, 0 < k → 0 ≤ pick w g y k ∧ pick w g y k < k
  | 0, h => by omega
  | k + 1, _ => by
    unfold pick
    split
    · omega
    · by_cases hk : k = 0
      · subst hk; simp [pick]
      · have := pick_in (w := w) (g := g) (y := y) (k := k) (by omega); omega
theorem pick_congr {w w' g g' : Int → Int} {y : Int} : ∀ {k : Nat}, (∀ i : Int, 0 ≤ i → i < k → w i = w' i ∧ g i = g' i) → pick w g y k = pick w' g' y k
  | 0, _ => rfl
  | k + 1, h => by
    have ih := pick_congr (w := w) (w' := w') (g := g) (g' := g') (y := y) (k := k) (fun i a b => h i a (by omega))
    unfold pick
    rw [ih]
    by_cases hk : 0 < k
    · have hp := pick_in (w := w') (g := g') (y := y) hk
      rw [(h k (by omega) (by omega)).1, (h k (by omega) (by omega)).2, (h _ hp.1 (by omega)).1, (h _ hp.1 (by omega)).2]
    · simp [hk]
/-- an heir i at a camels (denominator A) goes before j at b camels (denominator B) -/
def befo (wi A wj B i j : Int) : Prop := wj * A < wi * B ∨ (wj * A = wi * B ∧ i < j)
theorem mul_lt_of {a b c : Int} (h : a < b) (hc : 0 < c) : a * c < b * c := Int.mul_lt_mul_of_pos_right h hc
theorem lt_of_mul {a b c : Int} (h : a * c < b * c) (hc : 0 < c) : a < b := Int.lt_of_mul_lt_mul_right h (by omega)
theorem befo_trans {wi wj wk A B C i j k : Int} (hA : 0 < A) (hB : 0 < B) (hC : 0 < C) (h1 : befo wi A wj B i j) (h2 : befo wj B wk C j k) : befo wi A wk C i k := by
  -- wj A ≤ wi B, wk B ≤ wj C; so wk A B ≤ wj C A ≤ wi B C
  have e1 : wk * A * B = wk * B * A := by rw [Int.mul_assoc, Int.mul_comm A B, ← Int.mul_assoc]
  have e2 : wj * C * A = wj * A * C := by rw [Int.mul_assoc, Int.mul_comm C A, ← Int.mul_assoc]
  have e3 : wi * C * B = wi * B * C := by rw [Int.mul_assoc, Int.mul_comm C B, ← Int.mul_assoc]
  rcases h1 with h1 | ⟨h1, hi⟩ <;> rcases h2 with h2 | ⟨h2, hj⟩
  · left
    have a1 := mul_lt_of h1 hC
    have a2 := mul_lt_of h2 hA
    exact lt_of_mul (c := B) (by rw [e1, e3]; omega) hB
  · left
    have a1 := mul_lt_of h1 hC
    have a2 : wk * B * A = wj * C * A := by rw [h2]
    exact lt_of_mul (c := B) (by rw [e1, e3]; omega) hB
  · left
    have a1 : wj * A * C = wi * B * C := by rw [h1]
    have a2 := mul_lt_of h2 hA
    exact lt_of_mul (c := B) (by rw [e1, e3]; omega) hB
  · right
    have a1 : wj * A * C = wi * B * C := by rw [h1]
    have a2 : wk * B * A = wj * C * A := by rw [h2]
    refine ⟨?_, by omega⟩
    exact Int.eq_of_mul_eq_mul_right (show B ≠ 0 by omega) (by rw [e1, e3]; omega)
theorem befo_asym {wi wj A B i j : Int} (h1 : befo wi A wj B i j) (h2 : befo wj B wi A j i) : False := by
  unfold befo at h1 h2; omega
theorem den_pos {y x : Int} (hy : 0 ≤ y) (hx : 0 ≤ x) : 0 < y * x + 1 := by have := Int.mul_nonneg hy hx; omega
theorem pick_best {w g : Int → Int} {y : Int} (hy : 0 ≤ y) : ∀ {k : Nat}, (∀ i : Int, 0 ≤ i → i < k → 0 ≤ g i) → ∀ {j : Int}, 0 ≤ j → j < k → j ≠ pick w g y k → befo (w (pick w g y k)) (y * g (pick w g y k) + 1) (w j) (y * g j + 1) (pick w g y k) j
  | 0, _, j, h0, h1, _ => by omega
  | k + 1, hg, j, h0, h1, hj => by
    have ih := fun {j : Int} => pick_best (w := w) (g := g) hy (k := k) (fun i a b => hg i a (by omega)) (j := j)
    unfold pick at hj ⊢
    split at hj
    · rename_i hc
      rw [if_pos hc]
      obtain ⟨hk, hc⟩ := hc
      have hp := pick_in (w := w) (g := g) (y := y) hk
      have b1 : befo (w k) (y * g k + 1) (w (pick w g y k)) (y * g (pick w g y k) + 1) k (pick w g y k) := Or.inl hc
      by_cases e : j = pick w g y k
      · rw [e]; exact b1
      · exact befo_trans (den_pos hy (hg _ (by omega) (by omega))) (den_pos hy (hg _ hp.1 (by omega))) (den_pos hy (hg _ h0 h1)) b1 (by
          have := ih h0 (by omega) e
          exact this) |> fun z => by
            rcases z with z | ⟨z, z2⟩
            · exact Or.inl z
            · exfalso
              -- k < j is impossible
              omega
    · rename_i hc
      rw [if_neg hc]
      by_cases hjk : j = k
      · subst hjk
        by_cases hk : 0 < k
        · have hp := pick_in (w := w) (g := g) (y := y) hk
          have : ¬ (w (pick w g y k) * (y * g k + 1) < w k * (y * g (pick w g y k) + 1)) := fun z => hc ⟨hk, z⟩
          unfold befo
          omega
        · have : k = 0 := by omega
          subst this
          exact absurd rfl hj
      · exact ih h0 (by omega) hj
def itG (w : Int → Int) (y : Int) (N : Nat) (h : Int → Int) : Nat → (Int → Int)
  | 0 => h
  | t + 1 => bump (itG w y N h t) (pick w (itG w y N h t) y N)
def rowG (w : Int → Int) (y : Int) (N : Nat) (v : Nat) : Int → Int := itG w y N (fun _ => 0) v
theorem bump_ge {g : Int → Int} {p i : Int} : g i ≤ bump g p i := by unfold bump; split <;> omega
theorem itG_nonneg {w h : Int → Int} {y : Int} {N : Nat} (hh : ∀ i : Int, 0 ≤ i → i < N → 0 ≤ h i) : ∀ (t : Nat) (i : Int), 0 ≤ i → i < N → 0 ≤ itG w y N h t i
  | 0, i, a, b => hh i a b
  | t + 1, i, a, b => Int.le_trans (itG_nonneg hh t i a b) bump_ge
theorem itG_sum {w h : Int → Int} {y : Int} {N : Nat} (hN : 0 < N) : ∀ (t : Nat), sumF (itG w y N h t) N = sumF h N + t
  | 0 => by simp [itG]
  | t + 1 => by
    have hp := pick_in (w := w) (g := itG w y N h t) (y := y) hN
    show sumF (bump (itG w y N h t) _) N = _
    rw [sumF_bump hp.1 hp.2, itG_sum hN t]; omega
/-- the last of each goes before the next of any other -/
def steady (w G : Int → Int) (y : Int) (N : Nat) : Prop := ∀ j p : Int, 0 ≤ j → j < N → 0 ≤ p → p < N → j ≠ p → 1 ≤ G j → befo (w j) (y * (G j - 1) + 1) (w p) (y * G p + 1) j p
theorem steady_row {w : Int → Int} {y : Int} {N : Nat} (hy : 0 ≤ y) (hN : 0 < N) (hw : ∀ i : Int, 0 ≤ i → i < N → 0 < w i) : ∀ v, steady w (rowG w y N v) y N
  | 0 => fun j p _ _ _ _ _ h => by simp [rowG, itG] at h
  | v + 1 => by
    intro j p j0 j1 p0 p1 hjp hG
    have ih := steady_row hy hN hw v
    have hg := itG_nonneg (w := w) (y := y) (N := N) (h := fun _ => 0) (fun _ _ _ => by omega) v
    have hq := pick_in (w := w) (g := rowG w y N v) (y := y) hN
    have hb := fun {j : Int} => pick_best (w := w) (g := rowG w y N v) hy (k := N) hg (j := j)
    have e : rowG w y N (v + 1) = bump (rowG w y N v) (pick w (rowG w y N v) y N) := rfl
    rw [e] at hG ⊢
    generalize hqe : pick w (rowG w y N v) y N = q at hq hb hG ⊢
    by_cases hj : j = q
    · subst hj
      have e1 : bump (rowG w y N v) j j - 1 = rowG w y N v j := by unfold bump; rw [if_pos rfl]; omega
      have e2 : bump (rowG w y N v) j p = rowG w y N v p := by unfold bump; rw [if_neg (by omega)]
      rw [e1, e2]
      exact hb p0 p1 (fun z => hjp z.symm)
    · have e1 : bump (rowG w y N v) q j = rowG w y N v j := by unfold bump; rw [if_neg hj]
      rw [e1] at hG ⊢
      by_cases hp : p = q
      · subst hp
        have e2 : bump (rowG w y N v) p p = rowG w y N v p + 1 := by unfold bump; rw [if_pos rfl]
        rw [e2]
        have h1 := ih j p j0 j1 p0 p1 hjp hG
        have h2 : w j * (y * (rowG w y N v p + 1) + 1) = w j * (y * rowG w y N v p + 1) + w j * y := by rw [← Int.mul_add]; congr 1; rw [Int.mul_add]; omega
        have h3 := Int.mul_nonneg (Int.le_of_lt (hw j j0 j1)) hy
        unfold befo at h1 ⊢
        omega
      · have e2 : bump (rowG w y N v) q p = rowG w y N v p := by unfold bump; rw [if_neg hp]
        rw [e2]
        exact ih j p j0 j1 p0 p1 hjp hG
/-- from anything below it the row comes to the same -/
theorem row_jump {w h : Int → Int} {y : Int} {N v s : Nat} (hy : 0 ≤ y) (hN : 0 < N) (hw : ∀ i : Int, 0 ≤ i → i < N → 0 < w i) (hh : ∀ i : Int, 0 ≤ i → i < N → 0 ≤ h i ∧ h i ≤ rowG w y N v i) (hs : sumF h N + s = v) : ∀ i : Int, 0 ≤ i → i < N → itG w y N h s i = rowG w y N v i := by
  have hG := steady_row (y := y) hy hN hw v
  have hsum : sumF (rowG w y N v) N = v := by
    have := itG_sum (w := w) (h := fun _ => 0) (y := y) hN v
    rw [sumF_const] at this
    unfold rowG; omega
  have key : ∀ t : Nat, t ≤ s → ∀ i : Int, 0 ≤ i → i < N → itG w y N h t i ≤ rowG w y N v i := by
    intro t
    induction t with
    | zero => intro _ i a b; exact (hh i a b).2
    | succ t ih =>
      intro ht i a b
      have ih := ih (by omega)
      have hg := itG_nonneg (w := w) (y := y) (N := N) (h := h) (fun i a b => (hh i a b).1) t
      have hp := pick_in (w := w) (g := itG w y N h t) (y := y) hN
      have hb := fun {j : Int} => pick_best (w := w) (g := itG w y N h t) hy (k := N) hg (j := j)
      have hst := itG_sum (w := w) (h := h) (y := y) hN t
      show bump (itG w y N h t) (pick w (itG w y N h t) y N) i ≤ _
      generalize hpe : pick w (itG w y N h t) y N = p at hp hb ⊢
      by_cases hi : i = p
      · subst hi
        unfold bump
        rw [if_pos rfl]
        have h1 := ih i a b
        rcases ltge (itG w y N h t i) (rowG w y N v i) with hlt | hge
        · omega
        · exfalso
          obtain ⟨j, j0, j1, hj⟩ := sumF_lt_ex ih (by omega)
          have hji : j ≠ i := fun z => by subst z; omega
          have e1 : itG w y N h t i = rowG w y N v i := by omega
          have s1 := hG j i j0 j1 a b hji (by have := hg j j0 j1; omega)
          rw [← e1] at s1
          have s2 := hb j0 j1 hji
          -- j at what it has now goes before j at its last
          have s3 : befo (w j) (y * itG w y N h t j + 1) (w i) (y * itG w y N h t i + 1) j i := by
            have h2 : w i * (y * itG w y N h t j + 1) ≤ w i * (y * (rowG w y N v j - 1) + 1) := by
              apply Int.mul_le_mul_of_nonneg_left _ (Int.le_of_lt (hw i a b))
              have := Int.mul_le_mul_of_nonneg_left (show itG w y N h t j ≤ rowG w y N v j - 1 by omega) hy
              omega
            unfold befo at s1 ⊢
            omega
          exact befo_asym s3 s2
      · unfold bump
        rw [if_neg hi]
        exact ih i a b
  intro i a b
  have hst := itG_sum (w := w) (h := h) (y := y) hN s
  exact sumF_eq_of_le (key s (Nat.le_refl s)) (by omega) i a b
/-- nobody gets less than his quota less 3 -/
theorem row_quota {w : Int → Int} {y a : Int} {N v : Nat} (hy : y = 1 ∨ y = 2) (hN : 0 < N) (hN5 : N ≤ 5) (hw : ∀ i : Int, 0 ≤ i → i < N → 0 < w i) (ha : a = sumF w N) {i : Int} (i0 : 0 ≤ i) (i1 : i < N) (hwa : w i ≤ a) : (v : Int) * w i / a - 3 ≤ rowG w y N v i := by
  have hy0 : 0 ≤ y := by omega
  have hG := steady_row (y := y) hy0 hN hw v
  have hsum : sumF (rowG w y N v) N = v := by
    have := itG_sum (w := w) (h := fun _ => 0) (y := y) hN v
    rw [sumF_const] at this
    unfold rowG; omega
  have hg := itG_nonneg (w := w) (y := y) (N := N) (h := fun _ => 0) (fun _ _ _ => by omega) v
  have hg : ∀ i : Int, 0 ≤ i → i < N → 0 ≤ rowG w y N v i := hg
  have hwi := hw i i0 i1
  have key : ∀ p : Int, 0 ≤ p → p < N → w i * (y * (rowG w y N v p - 1) + 1) ≤ w p * (y * rowG w y N v i + 1) := by
    intro p p0 p1
    have hwp := hw p p0 p1
    have hgi := hg i i0 i1
    have hpos : 0 ≤ w p * (y * rowG w y N v i + 1) := Int.mul_nonneg (by omega) (Int.le_of_lt (den_pos hy0 hgi))
    by_cases hp : p = i
    · subst hp
      apply Int.mul_le_mul_of_nonneg_left _ (by omega)
      have := Int.mul_le_mul_of_nonneg_left (show rowG w y N v p - 1 ≤ rowG w y N v p by omega) hy0
      omega
    · rcases ltge (rowG w y N v p) 1 with h1 | h1
      · have e : rowG w y N v p = 0 := by have := hg p p0 p1; omega
        have : w i * (y * (rowG w y N v p - 1) + 1) ≤ 0 := by
          apply Int.mul_nonpos_of_nonneg_of_nonpos (by omega)
          rw [e]; rcases hy with rfl | rfl <;> omega
        omega
      · have := hG p i p0 p1 i0 i1 hp h1
        unfold befo at this
        omega
  have h1 := sumF_le (f := fun p => w i * (y * (rowG w y N v p - 1) + 1)) (g := fun p => w p * (y * rowG w y N v i + 1)) (n := N) key
  have e1 : sumF (fun p => w i * (y * (rowG w y N v p - 1) + 1)) N = w i * (y * (v - N) + N) := by
    rw [sumF_mul]
    congr 1
    have : (fun p => y * (rowG w y N v p - 1) + 1) = (fun p => y * rowG w y N v p + (1 - y)) := by funext p; rw [Int.mul_sub]; omega
    rw [this, sumF_add, sumF_mul, sumF_const, hsum, Int.mul_sub, Int.mul_sub, Int.mul_comm y (N : Int)]; omega
  have e2 : sumF (fun p => w p * (y * rowG w y N v i + 1)) N = a * (y * rowG w y N v i + 1) := by
    have : (fun p => w p * (y * rowG w y N v i + 1)) = (fun p => (y * rowG w y N v i + 1) * w p) := by funext p; rw [Int.mul_comm]
    rw [this, sumF_mul, ← ha, Int.mul_comm]
  rw [e1, e2] at h1
  have ha0 : 0 < a := by omega
  generalize hGi : rowG w y N v i = G at h1 ⊢
  rcases ltge G ((v : Int) * w i / a - 3) with hlt | hge
  · exfalso
    have hf := Int.ediv_mul_le ((v : Int) * w i) (show a ≠ 0 by omega)
    generalize hfe : (v : Int) * w i / a = f at hlt hf
    have hN5' : (N : Int) ≤ 5 := by omega
    have m1 : w i * (N : Int) ≤ a * 5 := by
      have := Int.mul_le_mul hwa hN5' (by omega) (by omega); omega
    have m2 : a * G ≤ a * (f - 4) := Int.mul_le_mul_of_nonneg_left (by omega) (by omega)
    have m3 : a * (f - 4) = f * a - a * 4 := by rw [Int.mul_sub, Int.mul_comm a f]
    have m4 : w i * (N : Int) ≥ 0 := Int.mul_nonneg (by omega) (by omega)
    rcases hy with rfl | rfl
    · have x1 : w i * (1 * ((v : Int) - N) + N) = (v : Int) * w i := by rw [Int.one_mul, Int.sub_add_cancel, Int.mul_comm]
      have x2 : a * (1 * G + 1) = a * G + a := by rw [Int.one_mul, Int.mul_add]; omega
      omega
    · have x1 : w i * (2 * ((v : Int) - N) + N) = 2 * ((v : Int) * w i) - w i * N := by
        have : (2 * ((v : Int) - N) + N) = 2 * v - N := by omega
        rw [this, Int.mul_sub, Int.mul_comm (w i) (2 * (v : Int)), Int.mul_assoc]
      have x2 : a * (2 * G + 1) = 2 * (a * G) + a := by rw [Int.mul_add, ← Int.mul_assoc, Int.mul_comm a 2, Int.mul_assoc]; omega
      omega
  · exact hge
