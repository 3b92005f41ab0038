/-! ===== tokens ===== -/
def skipF (b : Int → Int) : Nat → Nat → Nat
  | 0, p => p
  | m + 1, p => if b p = 32 then skipF b m (p + 1) else p
def runF (P : Int → Bool) (b : Int → Int) : Nat → Nat → Nat
  | 0, p => p
  | m + 1, p => if P (b p) then runF P b m (p + 1) else p
def isL (c : Int) : Bool := decide (97 ≤ c ∧ c ≤ 122)
def isD (c : Int) : Bool := decide (48 ≤ c ∧ c ≤ 57)
abbrev sT (b : Int → Int) (T p : Nat) : Nat := skipF b (T - p) p
def dig (b : Int → Int) (s : Nat) : Nat → Int
  | 0 => 0
  | k + 1 => 10 * dig b s k + b ((s + k : Nat) : Int) - 48
def nxt (b : Int → Int) (T p : Nat) : Nat := if T ≤ sT b T p then sT b T p else if isL (b (sT b T p)) then runF isL b (T - sT b T p) (sT b T p) else if isD (b (sT b T p)) then runF isD b (T - sT b T p) (sT b T p) else sT b T p + 1
def srt (b : Int → Int) (T p : Nat) : Int := if T ≤ sT b T p then 3 else if isL (b (sT b T p)) then 0 else if isD (b (sT b T p)) then (if 3 < runF isD b (T - sT b T p) (sT b T p) - sT b T p then 4 else 1) else if b (sT b T p) = 59 then 2 else 4
def val (b : Int → Int) (T p : Nat) : Int := dig b (sT b T p) (nxt b T p - sT b T p)
theorem skip_in {b : Int → Int} : ∀ (m p : Nat), p ≤ skipF b m p ∧ skipF b m p ≤ p + m
  | 0, p => ⟨Nat.le_refl _, Nat.le_refl _⟩
  | m + 1, p => by have := skip_in (b := b) m (p + 1); unfold skipF; split <;> omega
theorem run_in {P : Int → Bool} {b : Int → Int} : ∀ (m p : Nat), p ≤ runF P b m p ∧ runF P b m p ≤ p + m
  | 0, p => ⟨Nat.le_refl _, Nat.le_refl _⟩
  | m + 1, p => by have := run_in (P := P) (b := b) m (p + 1); unfold runF; split <;> omega
theorem run_all {P : Int → Bool} {b : Int → Int} : ∀ (m p i : Nat), p ≤ i → i < runF P b m p → P (b i) = true
  | 0, p, i, h, h2 => by unfold runF at h2; omega
  | m + 1, p, i, h, h2 => by
    unfold runF at h2
    split at h2
    · by_cases e : i = p
      · rw [e]; assumption
      · exact run_all m (p + 1) i (by omega) h2
    · omega
theorem run_go {P : Int → Bool} {b : Int → Int} {T p : Nat} (h : p < T) (hP : P (b p) = true) : runF P b (T - p) p = runF P b (T - (p + 1)) (p + 1) := by
  rw [show T - p = (T - (p + 1)) + 1 by omega, runF, if_pos hP]
theorem run_no {P : Int → Bool} {b : Int → Int} {T p : Nat} (h : p < T) (hP : P (b p) = false) : runF P b (T - p) p = p := by
  rw [show T - p = (T - (p + 1)) + 1 by omega, runF, if_neg (by rw [hP]; decide)]
theorem run_end {P : Int → Bool} {b : Int → Int} {T p : Nat} (h : T ≤ p) : runF P b (T - p) p = p := by rw [show T - p = 0 by omega]; rfl
theorem sT_in {b : Int → Int} {T p : Nat} (h : p ≤ T) : p ≤ sT b T p ∧ sT b T p ≤ T := by have := skip_in (b := b) (T - p) p; unfold sT; omega
theorem nxt_in {b : Int → Int} {T p : Nat} (h : p ≤ T) : sT b T p ≤ nxt b T p ∧ nxt b T p ≤ T ∧ (srt b T p ≠ 3 → sT b T p + 1 ≤ nxt b T p) := by
  have h1 := sT_in (b := b) h
  unfold nxt srt
  by_cases e : T ≤ sT b T p
  · rw [if_pos e, if_pos e]; exact ⟨Nat.le_refl _, h1.2, fun z => absurd rfl z⟩
  · rw [if_neg e, if_neg e]
    by_cases e1 : isL (b (sT b T p)) = true
    · rw [if_pos e1, run_go (by omega) e1]
      have := run_in (P := isL) (b := b) (T - (sT b T p + 1)) (sT b T p + 1)
      exact ⟨by omega, by omega, fun _ => by omega⟩
    · rw [if_neg e1]
      by_cases e2 : isD (b (sT b T p)) = true
      · rw [if_pos e2, run_go (by omega) e2]
        have := run_in (P := isD) (b := b) (T - (sT b T p + 1)) (sT b T p + 1)
        exact ⟨by omega, by omega, fun _ => by omega⟩
      · rw [if_neg e2]; exact ⟨by omega, by omega, fun _ => by omega⟩
theorem dig_bd {b : Int → Int} {s : Nat} : ∀ {k : Nat}, (∀ i : Nat, s ≤ i → i < s + k → isD (b i) = true) → k ≤ 3 → 0 ≤ dig b s k ∧ dig b s k ≤ 10 ^ k - 1
  | 0, _, _ => ⟨Int.le_refl _, by show (0 : Int) ≤ 10 ^ 0 - 1; decide⟩
  | k + 1, h, hk => by
    have ih := dig_bd (k := k) (fun i a c => h i a (by omega)) (by omega)
    have hd := of_decide_eq_true (h (s + k) (by omega) (by omega))
    unfold dig
    rw [Int.pow_succ]
    omega
section TOKC
variable {b : Int → Int} {T : Nat} {σ0 : Mem}
/-- only the tape's own fields have changed -/
def Tp (T : Nat) (σ0 σ : Mem) : Prop := (∀ q, q ≠ 37 → σ q = σ0 q) ∧ σ 37 0 = T
theorem Tp.up {σ : Mem} {j x : Int} (h : Tp T σ0 σ) (hj : j ≠ 0) : Tp T σ0 (upM σ 37 j x) := ⟨fun q a => by rw [upM_q a]; exact h.1 q a, by rw [upM_j (fun z => hj z.symm)]; exact h.2⟩
theorem letter_s {c : Int} {σ : Mem} {Q : Int → Mem → Prop} (hQ : Q (if isL c then 1 else 0) σ) : CI layC MX5_isLetter [vI c] σ Q := by
  refine X5_isLetter_E (within_s ⟨by split <;> omega, ?_⟩)
  unfold isL at hQ
  simpa using hQ
theorem figure_s {c : Int} {σ : Mem} {Q : Int → Mem → Prop} (hQ : Q (if isD c then 1 else 0) σ) : CI layC MX5_isFigure [vI c] σ Q := by
  refine X5_isFigure_E (within_s ⟨by split <;> omega, ?_⟩)
  unfold isD at hQ
  simpa using hQ
theorem takeName_s (hT : T ≤ 160) (hb : ∀ i : Int, 0 ≤ i → i < T → σ0 38 i = b i) {σ : Mem} {p : Nat} (h : Tp T σ0 σ) (h4 : σ 37 4 = p) (hp : p ≤ T) {s2 : Int} (h2 : σ 37 2 = s2) {Q : Mem → Prop} (hQ : ∀ σ', Tp T σ0 σ' → σ' 37 1 = 0 → σ' 37 2 = s2 → σ' 37 4 = (runF isL b (T - p) p : Nat) → Q σ') : CV layC MX5_takeName [vP 37] σ Q := by
  have key : ∀ (m q : Nat) (σ1 : Mem), q + m = T → Tp T σ0 σ1 → σ1 37 1 = 0 → σ1 37 2 = s2 → σ1 37 4 = q → runF isL b (T - q) q = runF isL b (T - p) p → LX5_takeName_5 σ1 Q := by
    intro m
    induction m with
    | zero =>
      intro q σ1 hq hTp h1 h2 h4 e
      rw [run_end (by omega)] at e
      exact X5_takeName_5 ⟨fun _ => hQ σ1 hTp h1 h2 (by rw [h4, e]), fun z => by rw [h4, hTp.2] at z; omega⟩
    | succ m ih =>
      intro q σ1 hq hTp h1 h2 h4 e
      refine X5_takeName_5 ⟨fun z => by rw [h4, hTp.2] at z; omega, fun _ => ?_⟩
      rw [h4, hTp.1 38 (by decide), hb q (by omega) (by omega)]
      refine ⟨by omega, by omega, letter_s (gF (fun z => ⟨by rw [h4]; exact ⟨by omega, by omega⟩, ?_⟩) (fun z => ?_))⟩
      · rw [h4]
        rw [run_go (by omega) z] at e
        exact ih (q + 1) _ (by omega) (hTp.up (by decide)) (by rw [upM_j (by decide)]; exact h1) (by rw [upM_j (by decide)]; exact h2) (by rw [upM_s]; rfl) e
      · rw [run_no (by omega) (Bool.not_eq_true _ ▸ z)] at e
        exact hQ σ1 hTp h1 h2 (by rw [h4, e])
  exact X5_takeName_E (key (T - p) p _ (by omega) (h.up (by decide)) upM_s (by rw [upM_j (by decide)]; exact h2) (by rw [upM_j (by decide)]; exact h4) rfl)
theorem takeNumber_s (hT : T ≤ 160) (hb : ∀ i : Int, 0 ≤ i → i < T → σ0 38 i = b i) {σ : Mem} {s : Nat} (h : Tp T σ0 σ) (h4 : σ 37 4 = s) (hs : s ≤ T) (h2 : σ 37 2 = s) {Q : Mem → Prop} (hQ : ∀ σ', Tp T σ0 σ' → σ' 37 1 = (if 3 < runF isD b (T - s) s - s then 4 else 1) → σ' 37 2 = s → σ' 37 4 = (runF isD b (T - s) s : Nat) → (runF isD b (T - s) s - s ≤ 3 → σ' 37 3 = dig b s (runF isD b (T - s) s - s)) → Q σ') : CV layC MX5_takeNumber [vP 37] σ Q := by
  have hall := fun i => run_all (P := isD) (b := b) (T - s) s i
  have key : ∀ (m k : Nat) (σ1 : Mem), s + k + m = T → Tp T σ0 σ1 → σ1 37 2 = s → σ1 37 4 = ((s + k : Nat) : Int) → (k ≤ 3 → σ1 37 3 = dig b s k) → runF isD b (T - (s + k)) (s + k) = runF isD b (T - s) s → LX5_takeNumber_5 σ1 Q := by
    intro m k σ1 hk hTp h2 h4 h3 e
    have fin : ∀ (σ2 : Mem), σ2 = σ1 → runF isD b (T - s) s = s + k → (((w32 ((σ2 37 4) - (σ2 37 2))) ≤ 3 → Q (upM σ2 37 1 1)) ∧ (3 < (w32 ((σ2 37 4) - (σ2 37 2))) → Q (upM σ2 37 1 4))) := by
      intro σ2 e2 er
      subst e2
      rw [h4, h2, w32_of (show inT 0 (((s + k : Nat) : Int) - s) from ⟨by omega, by omega⟩)]
      refine ⟨fun z => hQ _ (hTp.up (by decide)) (by rw [upM_s, if_neg (by omega)]) (by rw [upM_j (by decide)]; exact h2) (by rw [upM_j (by decide), h4, er]) (fun z2 => ?_), fun z => hQ _ (hTp.up (by decide)) (by rw [upM_s, if_pos (by omega)]) (by rw [upM_j (by decide)]; exact h2) (by rw [upM_j (by decide), h4, er]) (fun z2 => by omega)⟩
      rw [upM_j (by decide), er, show s + k - s = k by omega]
      exact h3 (by omega)
    induction m generalizing k σ1 with
    | zero =>
      rw [run_end (by omega)] at e
      exact X5_takeNumber_5 ⟨fun _ => fin σ1 rfl e.symm, fun z => by rw [h4, hTp.2] at z; omega⟩
    | succ m ih =>
      refine X5_takeNumber_5 ⟨fun z => by rw [h4, hTp.2] at z; omega, fun _ => ?_⟩
      rw [h4, hTp.1 38 (by decide), hb ((s + k : Nat) : Int) (by omega) (by omega)]
      refine ⟨by omega, by omega, figure_s (gF (fun z => ⟨by omega, by omega, ?_⟩) (fun z => ?_))⟩
      · rw [run_go (by omega) z] at e
        have hd := of_decide_eq_true z
        have e38 : σ1 38 ((s + k : Nat) : Int) = b ((s + k : Nat) : Int) := by rw [hTp.1 38 (by decide)]; exact hb _ (by omega) (by omega)
        have hval : k + 1 ≤ 3 → w32 (w32 (w32 (σ1 37 3 * 10) + σ1 38 ((s + k : Nat) : Int)) - 48) = dig b s (k + 1) := by
          intro hk3
          rw [e38]
          have hin := run_in (P := isD) (b := b) (T - (s + k + 1)) (s + k + 1)
          have bd := dig_bd (b := b) (s := s) (k := k) (fun i a c => hall i a (by omega)) (by omega)
          have p10 : (10 : Int) ^ k ≤ 100 := by
            have : k = 0 ∨ k = 1 ∨ k = 2 := by omega
            rcases this with e | e | e <;> subst e <;> decide
          rw [h3 (by omega), w32_of (show inT 0 (dig b s k * 10) from ⟨by omega, by omega⟩), w32_of (show inT 0 (dig b s k * 10 + b ((s + k : Nat) : Int)) from ⟨by omega, by omega⟩), w32_of (show inT 0 (dig b s k * 10 + b ((s + k : Nat) : Int) - 48) from ⟨by omega, by omega⟩)]
          show dig b s k * 10 + b ((s + k : Nat) : Int) - 48 = 10 * dig b s k + b ((s + k : Nat) : Int) - 48
          omega
        rw [upM_j (show (4 : Int) ≠ 3 by decide), h4]
        have e4 : w32 (((s + k : Nat) : Int) + 1) = ((s + (k + 1) : Nat) : Int) := w32_of (show inT 0 (((s + k : Nat) : Int) + 1) from ⟨by omega, by omega⟩)
        rw [e4]
        refine ih (k + 1) _ (by omega) ((hTp.up (by decide)).up (by decide)) (by rw [upM_j (by decide), upM_j (by decide)]; exact h2) upM_s (fun hk3 => ?_) e ?_
        · rw [upM_j (by decide), upM_s]; exact hval hk3
        · intro σ2 e2 er
          clear e4
          subst e2
          rw [upM_s, upM_j (by decide), upM_j (by decide), h2, w32_of (show inT 0 (((s + (k + 1) : Nat) : Int) - s) from ⟨by omega, by omega⟩)]
          refine ⟨fun z2 => hQ _ (((hTp.up (by decide)).up (by decide)).up (by decide)) (by rw [upM_s, if_neg (by omega)]) (by rw [upM_j (by decide), upM_j (by decide), upM_j (by decide)]; exact h2) (by rw [upM_j (by decide), upM_s, er]) (fun z3 => ?_), fun z2 => hQ _ (((hTp.up (by decide)).up (by decide)).up (by decide)) (by rw [upM_s, if_pos (by omega)]) (by rw [upM_j (by decide), upM_j (by decide), upM_j (by decide)]; exact h2) (by rw [upM_j (by decide), upM_s, er]) (fun z3 => by omega)⟩
          rw [upM_j (by decide), upM_j (by decide), upM_s, er, show s + (k + 1) - s = k + 1 by omega]
          exact hval (by omega)
      · rw [run_no (by omega) (Bool.not_eq_true _ ▸ z)] at e
        exact fin σ1 rfl e.symm
  exact X5_takeNumber_E (key (T - s) 0 _ (by omega) (h.up (by decide)) (by rw [upM_j (by decide)]; exact h2) (by rw [upM_j (by decide)]; exact h4) (fun _ => upM_s) rfl)
theorem advance_s (hT : T ≤ 160) (hb : ∀ i : Int, 0 ≤ i → i < T → σ0 38 i = b i) {p : Nat} (h0 : σ0 37 0 = T) (h4 : σ0 37 4 = p) (hp : p ≤ T) {Q : Mem → Prop} (hQ : ∀ σ', Tp T σ0 σ' → σ' 37 2 = (sT b T p : Nat) → σ' 37 1 = srt b T p → σ' 37 4 = (nxt b T p : Nat) → (srt b T p = 1 → σ' 37 3 = val b T p) → Q σ') : CV layC MX5_advance [vP 37] σ0 Q := by
  have last : ∀ (σ1 : Mem), Tp T σ0 σ1 → σ1 37 4 = (sT b T p : Nat) → LX5_advance_38 σ1 Q := by
    intro σ1 hTp h4
    have hs := sT_in (b := b) hp
    generalize hse : sT b T p = s at hs
    rw [hse] at h4
    have hn : nxt b T p = if T ≤ s then s else if isL (b s) then runF isL b (T - s) s else if isD (b s) then runF isD b (T - s) s else s + 1 := by unfold nxt; rw [hse]
    have hr : srt b T p = if T ≤ s then 3 else if isL (b s) then 0 else if isD (b s) then (if 3 < runF isD b (T - s) s - s then 4 else 1) else if b s = 59 then 2 else 4 := by unfold srt; rw [hse]
    have hv : val b T p = dig b s (nxt b T p - s) := by unfold val; rw [hse]
    rw [hse] at hQ
    have hTp2 : Tp T σ0 (upM σ1 37 2 s) := hTp.up (by decide)
    have e4 : upM σ1 37 2 s 37 4 = s := by rw [upM_j (by decide)]; exact h4
    refine X5_advance_38 ?_
    rw [h4, e4, hTp2.2, hTp2.1 38 (by decide)]
    refine ⟨fun z => ⟨by omega, by omega, ?_⟩, fun z => ?_⟩
    · rw [hb s (by omega) (by omega)]
      rw [if_neg (by omega)] at hn hr
      refine letter_s (gF (fun zl => ?_) (fun zl => ?_))
      · rw [if_pos zl] at hn hr
        refine takeName_s hT hb hTp2 e4 hs.2 (s2 := s) upM_s (fun σ' a1 a2 a3 a4 => hQ σ' a1 a3 (by rw [a2, hr]) (by rw [a4, hn]) (fun z2 => by rw [hr] at z2; omega))
      · rw [if_neg zl] at hn hr
        rw [e4, hTp2.1 38 (by decide), hb s (by omega) (by omega)]
        refine ⟨by omega, by omega, figure_s (gF (fun zd => ?_) (fun zd => ?_))⟩
        · rw [if_pos zd] at hn hr
          refine takeNumber_s hT hb hTp2 e4 hs.2 upM_s (fun σ' a1 a2 a3 a4 a5 => hQ σ' a1 a3 (by rw [a2, hr]) (by rw [a4, hn]) (fun z2 => ?_))
          rw [hr] at z2
          rw [hv, hn]
          refine a5 ?_
          by_cases e : 3 < runF isD b (T - s) s - s
          · rw [if_pos e] at z2; omega
          · omega
        · rw [if_neg zd] at hn hr
          rw [e4, hTp2.1 38 (by decide), hb s (by omega) (by omega), upM_j (show (4 : Int) ≠ 1 by decide), upM_j (show (4 : Int) ≠ 1 by decide), e4]
          refine ⟨by omega, by omega, fun zs => ⟨⟨by omega, by omega⟩, hQ _ ((hTp2.up (by decide)).up (by decide)) ?_ ?_ ?_ ?_⟩, fun zs => ⟨⟨by omega, by omega⟩, hQ _ ((hTp2.up (by decide)).up (by decide)) ?_ ?_ ?_ ?_⟩⟩
          · rw [upM_j (by decide), upM_j (by decide), upM_s]
          · rw [upM_j (by decide), upM_s, hr, if_neg zs]
          · rw [upM_s, hn]; rfl
          · intro z2; rw [hr, if_neg zs] at z2; omega
          · rw [upM_j (by decide), upM_j (by decide), upM_s]
          · rw [upM_j (by decide), upM_s, hr, if_pos zs]
          · rw [upM_s, hn]; rfl
          · intro z2; rw [hr, if_pos zs] at z2; omega
    · rw [if_pos (by omega)] at hn hr
      exact hQ _ (hTp2.up (by decide)) (by rw [upM_j (by decide), upM_s]) (by rw [upM_s, hr]) (by rw [upM_j (by decide), e4, hn]) (fun z2 => by rw [hr] at z2; omega)
  have key : ∀ (m q : Nat) (σ1 : Mem), q + m = T → Tp T σ0 σ1 → σ1 37 4 = q → skipF b (T - q) q = sT b T p → LX5_advance_0 σ1 Q := by
    intro m
    induction m with
    | zero =>
      intro q σ1 hq hTp h4 e
      rw [show T - q = 0 by omega, skipF] at e
      exact X5_advance_0 ⟨fun _ => last σ1 hTp (by rw [h4, e]), fun z => by rw [h4, hTp.2] at z; omega⟩
    | succ m ih =>
      intro q σ1 hq hTp h4 e
      rw [show T - q = (T - (q + 1)) + 1 by omega, skipF] at e
      refine X5_advance_0 ⟨fun z => by rw [h4, hTp.2] at z; omega, fun _ => ?_⟩
      rw [h4, hTp.1 38 (by decide), hb q (by omega) (by omega)]
      refine ⟨by omega, by omega, fun z => ?_, fun z => ⟨⟨by omega, by omega⟩, ?_⟩⟩
      · rw [if_neg z] at e; exact last σ1 hTp (by rw [h4, e])
      · rw [if_pos z] at e
        exact ih (q + 1) _ (by omega) (hTp.up (by decide)) (by rw [upM_s]; rfl) e
  exact X5_advance_E (key (T - p) p σ0 (by omega) ⟨fun _ _ => rfl, h0⟩ h4 rfl)
end TOKC
