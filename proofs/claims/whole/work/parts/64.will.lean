/-! ===== wills: the mathematics ===== -/
theorem nD_step (A a : Nat) : nD A (a + 1) = if 2 ≤ a ∧ A % a = 0 then nD A a + 1 else nD A a := by
  rw [nD]
  by_cases h : 2 ≤ a ∧ A % a = 0
  · rw [if_pos h, show Nat.ble 2 a = true from Nat.ble_eq.mpr h.1, show Nat.beq (A % a) 0 = true from Nat.beq_eq.mpr h.2]; rfl
  · rw [if_neg h]
    have : (Nat.ble 2 a && Nat.beq (A % a) 0) = false := by
      cases e : (Nat.ble 2 a && Nat.beq (A % a) 0) with
      | false => rfl
      | true =>
        rw [Bool.and_eq_true] at e
        exact absurd ⟨Nat.le_of_ble_eq_true e.1, Nat.beq_eq.mp e.2⟩ h
    rw [this]; rfl
theorem nD_mono (A : Nat) : ∀ {a b : Nat}, a ≤ b → nD A a ≤ nD A b := by
  intro a b h
  induction h with
  | refl => exact Nat.le_refl _
  | step _ ih => rw [nD_step]; split <;> omega
def dF (A : Nat) : Nat → Nat → Nat
  | 0, _ => 1
  | a + 1, j => if (2 ≤ a ∧ A % a = 0) ∧ j = nD A a then a else dF A a j
theorem dF_ok (A : Nat) : ∀ (a : Nat), (∀ j, j < nD A a → 2 ≤ dF A a j ∧ dF A a j < a) ∧ (∀ i j, i < j → j < nD A a → dF A a i < dF A a j)
  | 0 => ⟨fun j h => absurd h (Nat.not_lt_zero _), fun i j _ h => absurd h (Nat.not_lt_zero _)⟩
  | a + 1 => by
    obtain ⟨h1, h2⟩ := dF_ok A a
    rw [nD_step]
    by_cases hc : 2 ≤ a ∧ A % a = 0
    · rw [if_pos hc]
      have e : ∀ j, j < nD A a → dF A (a + 1) j = dF A a j := fun j hj => by rw [dF, if_neg (fun z => by omega)]
      have e2 : dF A (a + 1) (nD A a) = a := by rw [dF, if_pos ⟨hc, rfl⟩]
      refine ⟨fun j hj => ?_, fun i j hij hj => ?_⟩
      · by_cases z : j = nD A a
        · rw [z, e2]; omega
        · rw [e j (by omega)]; have := h1 j (by omega); omega
      · by_cases z : j = nD A a
        · rw [z, e2, e i (by omega)]; exact (h1 i (by omega)).2
        · rw [e i (by omega), e j (by omega)]; exact h2 i j hij (by omega)
    · rw [if_neg hc]
      have e : ∀ j, dF A (a + 1) j = dF A a j := fun j => by rw [dF, if_neg (fun z => hc z.1)]
      exact ⟨fun j hj => by rw [e]; have := h1 j hj; omega, fun i j x y => by rw [e, e]; exact h2 i j x y⟩
abbrev MD (A : Nat) : Nat := nD A (A + 1)
abbrev dv (A j : Nat) : Nat := dF A (A + 1) j
def sh (A j : Nat) : Int := (A : Int) / (dv A j : Int)
theorem sh_bd (A j : Nat) : 0 ≤ sh A j ∧ sh A j ≤ A := ⟨Int.ediv_nonneg (by omega) (by omega), Int.ediv_le_self _ (by omega)⟩
theorem dv_bd {A j : Nat} (h : j < MD A) : 2 ≤ dv A j ∧ dv A j ≤ A := by have := (dF_ok A (A + 1)).1 j h; exact ⟨this.1, Nat.le_of_lt_succ this.2⟩
theorem sh_anti {A i j : Nat} (h : i ≤ j) (hj : j < MD A) : sh A j ≤ sh A i := by
  by_cases e : i = j
  · rw [e]; exact Int.le_refl _
  · have := (dF_ok A (A + 1)).2 i j (by omega) hj
    have hi := dv_bd (A := A) (j := i) (by omega)
    unfold sh
    have h1 : ((A / dv A j : Nat) : Int) ≤ ((A / dv A i : Nat) : Int) := by
      have : A / dv A j ≤ A / dv A i := Nat.div_le_div_left (Nat.le_of_lt this) (Nat.lt_of_lt_of_le (by decide) hi.1)
      omega
    rw [Int.natCast_ediv, Int.natCast_ediv] at h1
    exact h1
/-- the rows of r places that don't fall, from f on, below M, in their order -/
def allR (M : Nat) : Nat → Nat → List (List Nat)
  | 0, _ => [[]]
  | r + 1, f => (List.range' f (M - f)).flatMap (fun d => (allR M r d).map (fun l => d :: l))
theorem allR_lt {M r f : Nat} (h : f < M) : allR M (r + 1) f = (allR M r f).map (fun l => f :: l) ++ allR M (r + 1) (f + 1) := by
  rw [allR, show M - f = (M - (f + 1)) + 1 by omega, List.range'_succ, List.flatMap_cons]
  rfl
theorem allR_ge {M r f : Nat} (h : M ≤ f) : allR M (r + 1) f = [] := by
  rw [allR, show M - f = 0 by omega]; rfl
theorem allR_len {M : Nat} (hM : M ≤ 32) : ∀ (r f : Nat), (allR M r f).length ≤ 32 ^ r
  | 0, _ => Nat.le_refl _
  | r + 1, f => by
    have key : ∀ (m g : Nat), M - g = m → (allR M (r + 1) g).length ≤ m * 32 ^ r := by
      intro m
      induction m with
      | zero => intro g hg; rw [allR_ge (by omega)]; exact Nat.zero_le _
      | succ m ih =>
        intro g hg
        rw [allR_lt (by omega), List.length_append, List.length_map]
        have h1 := allR_len hM r g
        have h2 := ih (g + 1) (by omega)
        rw [Nat.succ_mul]
        omega
    have := key (M - f) f rfl
    have h2 : (M - f) * 32 ^ r ≤ 32 * 32 ^ r := Nat.mul_le_mul_right _ (by omega)
    rw [Nat.pow_succ, Nat.mul_comm (32 ^ r)]
    omega
def sumS (A : Nat) : List Nat → Int
  | [] => 0
  | a :: l => sh A a + sumS A l
theorem sumS_nonneg (A : Nat) : ∀ (l : List Nat), 0 ≤ sumS A l
  | [] => Int.le_refl _
  | a :: l => by have := sumS_nonneg A l; have := (sh_bd A a).1; unfold sumS; omega
theorem allR_mem {A : Nat} : ∀ (r f : Nat) (l : List Nat), l ∈ allR (MD A) r f → sumS A l ≤ r * sh A f ∧ (0 < r → f < MD A)
  | 0, f, l, h => by
    have e : l = [] := by simpa [allR] using h
    subst e
    exact ⟨by show (0 : Int) ≤ _; omega, fun z => by omega⟩
  | r + 1, f, l, h => by
    rw [allR, List.mem_flatMap] at h
    obtain ⟨d, hd, hl⟩ := h
    rw [List.mem_map] at hl
    obtain ⟨l', hl', e⟩ := hl
    subst e
    rw [List.mem_range'_1] at hd
    have ih := (allR_mem r d l' hl').1
    have a1 := sh_anti (A := A) hd.1 (by omega)
    have h0 := (sh_bd A d).1
    refine ⟨?_, fun _ => by omega⟩
    show sh A d + sumS A l' ≤ _
    have h2 : (r : Int) * sh A d ≤ (r : Int) * sh A f := Int.mul_le_mul_of_nonneg_left a1 (by omega)
    rw [show ((r + 1 : Nat) : Int) = (r : Int) + 1 from rfl, Int.add_mul, Int.one_mul]
    omega
/-- those whose shares are so many -/
def cl (A r f : Nat) (left : Int) : List (List Nat) := (allR (MD A) r f).filter (fun l => decide (sumS A l = left))
theorem cl_zero (A f : Nat) (left : Int) : cl A 0 f left = if left = 0 then [[]] else [] := by
  unfold cl allR
  by_cases h : left = 0
  · rw [if_pos h, List.filter_cons_of_pos (p := fun l => decide (sumS A l = left)) (show decide (sumS A [] = left) = true from decide_eq_true (by rw [h]; rfl))]; rfl
  · rw [if_neg h, List.filter_cons_of_neg (p := fun l => decide (sumS A l = left)) (show ¬ decide (sumS A [] = left) = true by simp only [decide_eq_true_eq]; exact fun z => h z.symm)]; rfl
theorem cl_lt {A r f : Nat} {left : Int} (h : f < MD A) : cl A (r + 1) f left = (cl A r f (left - sh A f)).map (fun l => f :: l) ++ cl A (r + 1) (f + 1) left := by
  unfold cl
  rw [allR_lt h, List.filter_append, List.filter_map]
  congr 2
  refine List.filter_congr (fun l _ => ?_)
  show decide (sh A f + sumS A l = left) = _
  exact decide_eq_decide.mpr ⟨fun z => by omega, fun z => by omega⟩
theorem cl_ge {A r f : Nat} {left : Int} (h : MD A ≤ f) : cl A (r + 1) f left = [] := by unfold cl; rw [allR_ge h]; rfl
theorem cl_neg {A r f : Nat} {left : Int} (h : left < 0) : cl A r f left = [] := by
  unfold cl
  rw [List.filter_eq_nil_iff]
  intro l _ hz
  have := sumS_nonneg A l
  have := of_decide_eq_true hz
  omega
theorem cl_big {A r f : Nat} {left : Int} (h : (r : Int) * sh A f < left) : cl A r f left = [] := by
  unfold cl
  rw [List.filter_eq_nil_iff]
  intro l hl hz
  have := (allR_mem r f l hl).1
  have := of_decide_eq_true hz
  omega
theorem cl_len {A r f : Nat} {left : Int} (hA : A ≤ 1008) (hr : r ≤ 4) : (cl A r f left).length ≤ 1048576 := by
  have h1 : (cl A r f left).length ≤ (allR (MD A) r f).length := List.length_filter_le _ _
  have h2 := allR_len (M := MD A) (nD_32 A hA) r f
  have h3 : 32 ^ r ≤ 32 ^ 4 := Nat.pow_le_pow_right (by decide) hr
  have h4 : (32 : Nat) ^ 4 = 1048576 := by decide
  omega
/-! from a row on -/
def sfx (M : Nat) : List Nat → List (List Nat)
  | [] => [[]]
  | d :: l => (sfx M l).map (fun l => d :: l) ++ allR M (l.length + 1) (d + 1)
/-- the row's places from i on, r of them -/
def lst (ρ : Nat → Nat) (i : Nat) : Nat → List Nat
  | 0 => []
  | r + 1 => ρ i :: lst ρ (i + 1) r
theorem lst_len (ρ : Nat → Nat) : ∀ (r i : Nat), (lst ρ i r).length = r
  | 0, _ => rfl
  | r + 1, i => by rw [lst, List.length_cons, lst_len ρ r]
theorem sfx_first {M : Nat} {ρ : Nat → Nat} {f : Nat} : ∀ (r i : Nat), (∀ j, i ≤ j → j < i + r → ρ j = f) → (f < M ∨ r = 0) → sfx M (lst ρ i r) = allR M r f
  | 0, i, _, _ => rfl
  | r + 1, i, h, hf => by
    rw [lst, sfx, lst_len, sfx_first r (i + 1) (fun j a b => h j (by omega) (by omega)) (Or.inl (by omega)), h i (by omega) (by omega), ← allR_lt (by omega)]
theorem sfx_last {M : Nat} {ρ : Nat → Nat} : ∀ (r i : Nat), (∀ j, i ≤ j → j < i + r → ρ j + 1 = M) → sfx M (lst ρ i r) = [lst ρ i r]
  | 0, _, _ => rfl
  | r + 1, i, h => by
    rw [lst, sfx, lst_len, sfx_last r (i + 1) (fun j a b => h j (by omega) (by omega)), h i (by omega) (by omega), allR_ge (Nat.le_refl _)]
    rfl
theorem sfx_next {M : Nat} {ρ ρ' : Nat → Nat} {p : Nat} (hp : ρ p + 1 < M) (h1 : ∀ j, j < p → ρ' j = ρ j) : ∀ (r i : Nat), i ≤ p → p < i + r → (∀ j, p < j → j < i + r → ρ j + 1 = M) → (∀ j, p ≤ j → j < i + r → ρ' j = ρ p + 1) → sfx M (lst ρ i r) = lst ρ i r :: sfx M (lst ρ' i r)
  | 0, i, a, b, _, _ => by omega
  | r + 1, i, a, b, h2, h3 => by
    by_cases e : i = p
    · subst e
      rw [sfx_first (ρ := ρ') (f := ρ i + 1) (r + 1) i (fun j x y => h3 j x y) (Or.inl hp)]
      rw [show lst ρ i (r + 1) = ρ i :: lst ρ (i + 1) r from rfl, sfx, lst_len, sfx_last r (i + 1) (fun j x y => h2 j (by omega) (by omega))]
      rfl
    · have ih := sfx_next (M := M) hp h1 r (i + 1) (by omega) (by omega) (fun j x y => h2 j x (by omega)) (fun j x y => h3 j x (by omega))
      rw [show lst ρ i (r + 1) = ρ i :: lst ρ (i + 1) r from rfl, show lst ρ' i (r + 1) = ρ' i :: lst ρ' (i + 1) r from rfl, sfx, sfx, lst_len, lst_len, ih, h1 i (by omega)]
      rfl
