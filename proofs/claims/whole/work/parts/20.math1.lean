/-! ===== sums, products, and what a judge gives: pure numbers ===== -/
theorem ltge (a b : Int) : a < b ∨ b ≤ a := by omega
def sumF (f : Int → Int) : Nat → Int
  | 0 => 0
  | k + 1 => sumF f k + f (k : Int)
def prodF (f : Int → Int) : Nat → Int
  | 0 => 1
  | k + 1 => prodF f k * f (k : Int)
theorem sumF_congr {f g : Int → Int} : ∀ {n : Nat}, (∀ i : Int, 0 ≤ i → i < n → f i = g i) → sumF f n = sumF g n
  | 0, _ => rfl
  | n + 1, h => by
    show sumF f n + f n = sumF g n + g n
    rw [sumF_congr (fun i h0 h1 => h i h0 (by omega)), h n (by omega) (by omega)]
theorem prodF_congr {f g : Int → Int} : ∀ {n : Nat}, (∀ i : Int, 0 ≤ i → i < n → f i = g i) → prodF f n = prodF g n
  | 0, _ => rfl
  | n + 1, h => by
    show prodF f n * f n = prodF g n * g n
    rw [prodF_congr (fun i h0 h1 => h i h0 (by omega)), h n (by omega) (by omega)]
theorem sumF_le {f g : Int → Int} : ∀ {n : Nat}, (∀ i : Int, 0 ≤ i → i < n → f i ≤ g i) → sumF f n ≤ sumF g n
  | 0, _ => Int.le_refl _
  | n + 1, h => by
    show sumF f n + f n ≤ sumF g n + g n
    have h1 := sumF_le (f := f) (g := g) (n := n) (fun i h0 h1 => h i h0 (by omega))
    have h2 := h n (by omega) (by omega)
    omega
theorem sumF_nonneg {f : Int → Int} : ∀ {n : Nat}, (∀ i : Int, 0 ≤ i → i < n → 0 ≤ f i) → 0 ≤ sumF f n
  | 0, _ => Int.le_refl _
  | n + 1, h => by
    show 0 ≤ sumF f n + f n
    have h1 := sumF_nonneg (f := f) (n := n) (fun i h0 h1 => h i h0 (by omega))
    have h2 := h n (by omega) (by omega)
    omega
theorem sumF_bd {f : Int → Int} {B : Int} : ∀ {n : Nat}, (∀ i : Int, 0 ≤ i → i < n → f i ≤ B) → sumF f n ≤ n * B
  | 0, _ => by simp [sumF]
  | n + 1, h => by
    show sumF f n + f n ≤ _
    have h1 := sumF_bd (f := f) (B := B) (n := n) (fun i h0 h1 => h i h0 (by omega))
    have h2 := h n (by omega) (by omega)
    have e : ((n + 1 : Nat) : Int) * B = n * B + B := by rw [Int.natCast_add, Int.add_mul]; simp
    omega
theorem sumF_mul {f : Int → Int} {c : Int} : ∀ {n : Nat}, sumF (fun i => c * f i) n = c * sumF f n
  | 0 => by simp [sumF]
  | n + 1 => by
    show sumF (fun i => c * f i) n + c * f n = c * (sumF f n + f n)
    rw [sumF_mul, Int.mul_add]
theorem sumF_add {f g : Int → Int} : ∀ {n : Nat}, sumF (fun i => f i + g i) n = sumF f n + sumF g n
  | 0 => by simp [sumF]
  | n + 1 => by
    show sumF (fun i => f i + g i) n + (f n + g n) = (sumF f n + f n) + (sumF g n + g n)
    rw [sumF_add]; omega
theorem sumF_const {c : Int} : ∀ {n : Nat}, sumF (fun _ => c) n = n * c
  | 0 => by simp [sumF]
  | n + 1 => by
    show sumF (fun _ => c) n + c = _
    rw [sumF_const, Int.natCast_add, Int.add_mul]; simp
/-- one more at p -/
def bump (g : Int → Int) (p : Int) : Int → Int := fun j => if j = p then g j + 1 else g j
theorem sumF_bump {g : Int → Int} {p : Int} : ∀ {n : Nat}, 0 ≤ p → p < n → sumF (bump g p) n = sumF g n + 1
  | 0, h0, h1 => by omega
  | n + 1, h0, h1 => by
    show sumF (bump g p) n + bump g p n = sumF g n + g n + 1
    by_cases hp : p = n
    · subst hp
      rw [sumF_congr (f := bump g n) (g := g) (fun i a b => by unfold bump; rw [if_neg (by omega)])]
      unfold bump; rw [if_pos rfl]; omega
    · rw [sumF_bump h0 (by omega)]
      unfold bump; rw [if_neg (by omega)]; omega
theorem sumF_lt_ex {f g : Int → Int} : ∀ {n : Nat}, (∀ i : Int, 0 ≤ i → i < n → f i ≤ g i) → sumF f n < sumF g n → ∃ i : Int, 0 ≤ i ∧ i < n ∧ f i < g i
  | 0, _, h => by simp [sumF] at h
  | n + 1, hle, h => by
    have h : sumF f n + f n < sumF g n + g n := h
    by_cases hn : f n < g n
    · exact ⟨n, by omega, by omega, hn⟩
    · have h2 := hle n (by omega) (by omega)
      obtain ⟨i, a, b, c⟩ := sumF_lt_ex (f := f) (g := g) (n := n) (fun i h0 h1 => hle i h0 (by omega)) (by omega)
      exact ⟨i, a, by omega, c⟩
theorem sumF_eq_of_le {f g : Int → Int} {n : Nat} (hle : ∀ i : Int, 0 ≤ i → i < n → f i ≤ g i) (h : sumF f n = sumF g n) : ∀ i : Int, 0 ≤ i → i < n → f i = g i := by
  induction n with
  | zero => intro i a b; omega
  | succ n ih =>
    have h : sumF f n + f n = sumF g n + g n := h
    have h1 := sumF_le (f := f) (g := g) (n := n) (fun i h0 h1 => hle i h0 (by omega))
    have h2 := hle n (by omega) (by omega)
    intro i a b
    by_cases hi : i = n
    · subst hi; omega
    · exact ih (fun i h0 h1 => hle i h0 (by omega)) (by omega) i a (by omega)
/-! the parts over one common denominator -/
def okP (N : Nat) (u d : Int → Int) : Prop := N ≤ 5 ∧ ∀ i : Int, 0 ≤ i → i < N → (1 ≤ u i ∧ u i ≤ 9) ∧ 1 ≤ d i ∧ d i ≤ 99
def cmD (d : Int → Int) (N : Nat) : Int := prodF d N
def wtD (u d : Int → Int) (N : Nat) (i : Int) : Int := cmD d N / d i * u i
def alD (u d : Int → Int) (N : Nat) : Int := sumF (wtD u d N) N
theorem prodF_bd {d : Int → Int} : ∀ {k : Nat}, (∀ i : Int, 0 ≤ i → i < k → 1 ≤ d i ∧ d i ≤ 99) → 1 ≤ prodF d k ∧ prodF d k ≤ 99 ^ k
  | 0, _ => by simp [prodF]
  | k + 1, h => by
    obtain ⟨h1, h2⟩ := prodF_bd (d := d) (k := k) (fun i a b => h i a (by omega))
    obtain ⟨h3, h4⟩ := h k (by omega) (by omega)
    show 1 ≤ prodF d k * d k ∧ prodF d k * d k ≤ 99 ^ (k + 1)
    constructor
    · have := Int.mul_le_mul h1 h3 (by omega) (by omega); omega
    · rw [Int.pow_succ]
      exact Int.mul_le_mul h2 h4 (by omega) (by have := Int.pow_nonneg (n := 99) (m := k) (by decide); omega)
theorem pow99 : ∀ {k : Nat}, k ≤ 5 → (99 : Int) ^ k ≤ 9509900499
  | 0, _ => by decide
  | 1, _ => by decide
  | 2, _ => by decide
  | 3, _ => by decide
  | 4, _ => by decide
  | 5, _ => by decide
  | k + 6, h => by omega
theorem dvd_prodF {d : Int → Int} : ∀ {k : Nat} {i : Int}, 0 ≤ i → i < k → d i ∣ prodF d k
  | 0, i, h0, h1 => by omega
  | k + 1, i, h0, h1 => by
    show d i ∣ prodF d k * d k
    by_cases hi : i = k
    · subst hi; exact Int.dvd_mul_left _ _
    · exact Int.dvd_trans (dvd_prodF h0 (by omega)) (Int.dvd_mul_right _ _)
theorem cm_bd {N : Nat} {u d : Int → Int} (h : okP N u d) : 1 ≤ cmD d N ∧ cmD d N ≤ 9509900499 := by
  obtain ⟨h1, h2⟩ := prodF_bd (d := d) (k := N) (fun i a b => (h.2 i a b).2)
  exact ⟨h1, Int.le_trans h2 (pow99 h.1)⟩
theorem wt_bd {N : Nat} {u d : Int → Int} (h : okP N u d) {i : Int} (h0 : 0 ≤ i) (h1 : i < N) : 1 ≤ wtD u d N i ∧ wtD u d N i ≤ 85589104491 := by
  obtain ⟨⟨a1, a2⟩, a3, a4⟩ := h.2 i h0 h1
  obtain ⟨b1, b2⟩ := cm_bd h
  have hd : d i ∣ cmD d N := dvd_prodF h0 h1
  obtain ⟨m, hm⟩ := hd
  have e : cmD d N / d i = m := by rw [hm]; exact Int.mul_ediv_cancel_left m (by omega)
  have hm1 : 1 ≤ m := by
    rcases ltge m 1 with hlt | hge
    · have : d i * m ≤ 0 := Int.mul_nonpos_of_nonneg_of_nonpos (by omega) (by omega)
      omega
    · exact hge
  have hm2 : m ≤ cmD d N := by
    rw [hm]
    have := Int.mul_le_mul_of_nonneg_right a3 (show 0 ≤ m by omega)
    omega
  unfold wtD
  rw [e]
  constructor
  · have := Int.mul_le_mul hm1 a1 (by omega) (by omega); omega
  · have := Int.mul_le_mul (show m ≤ 9509900499 by omega) a2 (by omega) (by decide); omega
theorem al_bd {N : Nat} {u d : Int → Int} (h : okP N u d) : 0 ≤ alD u d N ∧ alD u d N ≤ 427945522455 ∧ (0 < N → 1 ≤ alD u d N) := by
  have h1 : 0 ≤ alD u d N := sumF_nonneg (fun i a b => by have := (wt_bd h a b).1; omega)
  have h2 := sumF_bd (f := wtD u d N) (B := 85589104491) (n := N) (fun i a b => (wt_bd h a b).2)
  have h5 := h.1
  refine ⟨h1, ?_, fun hN => ?_⟩
  · unfold alD; omega
  · obtain ⟨k, rfl⟩ : ∃ k, N = k + 1 := ⟨N - 1, by omega⟩
    show 1 ≤ sumF (wtD u d (k + 1)) k + wtD u d (k + 1) k
    have h3 : 0 ≤ sumF (wtD u d (k + 1)) k := sumF_nonneg (fun i a b => by have := (wt_bd h a (show i < ((k + 1 : Nat) : Int) by omega)).1; omega)
    have h4 := (wt_bd h (i := k) (by omega) (by omega)).1
    omega
theorem wt_le_al {N : Nat} {u d : Int → Int} (h : okP N u d) {i : Int} (h0 : 0 ≤ i) (h1 : i < N) : wtD u d N i ≤ alD u d N := by
  have key : ∀ {n : Nat} {f : Int → Int}, (∀ j : Int, 0 ≤ j → j < n → 0 ≤ f j) → ∀ {i : Int}, 0 ≤ i → i < n → f i ≤ sumF f n := by
    intro n
    induction n with
    | zero => intro f _ i a b; omega
    | succ n ih =>
      intro f hf i a b
      show f i ≤ sumF f n + f n
      by_cases hi : i = n
      · subst hi
        have := sumF_nonneg (f := f) (n := n) (fun j c e => hf j c (by omega))
        omega
      · have := ih (f := f) (fun j c e => hf j c (by omega)) a (by omega)
        have := hf n (by omega) (by omega)
        omega
  exact key (fun j a b => by have := (wt_bd h a b).1; omega) h0 h1
/-- what is told, by the weights and by the parts, is the same -/
theorem told_eq {N : Nat} {u d : Int → Int} (h : okP N u d) {i : Int} (h0 : 0 ≤ i) (h1 : i < N) (v : Int) : v * wtD u d N i / cmD d N = v * u i / d i := by
  obtain ⟨⟨a1, a2⟩, a3, a4⟩ := h.2 i h0 h1
  obtain ⟨b1, b2⟩ := cm_bd h
  obtain ⟨m, hm⟩ : d i ∣ cmD d N := dvd_prodF h0 h1
  have e : cmD d N / d i = m := by rw [hm]; exact Int.mul_ediv_cancel_left m (by omega)
  have hm1 : 0 < m := by
    rcases ltge 0 m with hlt | hge
    · exact hlt
    · have : d i * m ≤ 0 := Int.mul_nonpos_of_nonneg_of_nonpos (by omega) hge
      omega
  unfold wtD
  rw [e, hm, show v * (m * u i) = v * u i * m by rw [Int.mul_comm m, ← Int.mul_assoc]]
  exact Int.mul_ediv_mul_of_pos_left _ _ hm1
