/-! ===== tokens of the reference ===== -/
def srM (x : Int) : Int := if x = 3 then 0 else if x = 0 then 1 else if x = 1 then 2 else 3
/-- only what the reader of tokens keeps has changed -/
def Mp (τ0 τ : Mem) : Prop := (∀ q, q ≠ 0 → τ q = τ0 q) ∧ ∀ j : Int, j < 8 ∨ 13 < j → τ 0 j = τ0 0 j
theorem Mp.rf {τ : Mem} : Mp τ τ := ⟨fun _ _ => rfl, fun _ _ => rfl⟩
theorem Mp.up {τ0 τ : Mem} {j x : Int} (h : Mp τ0 τ) (hj : 8 ≤ j ∧ j ≤ 13) : Mp τ0 (upM τ 0 j x) := ⟨fun q a => by rw [upM_q a]; exact h.1 q a, fun i a => by rw [upM_j (by omega)]; exact h.2 i a⟩
theorem Mp.trans {τ τ' τ'' : Mem} (h : Mp τ τ') (h2 : Mp τ' τ'') : Mp τ τ'' := ⟨fun q a => (h2.1 q a).trans (h.1 q a), fun j a => (h2.2 j a).trans (h.2 j a)⟩
section TOKM
variable {b : Int → Int} {T : Nat} {τ0 : Mem}
def bAt (b : Int → Int) (T p : Nat) : Int := if p < T then b p else -1
theorem byteAt_s (hT : T ≤ 160) (hb : ∀ i : Int, 0 ≤ i → i < T → τ0 5 i = b i) (h7 : τ0 0 7 = T) {τ : Mem} (h : Mp τ0 τ) {p : Nat} {x : Int} (hx : x = p) {Q : Int → Mem → Prop} (hQ : Q (bAt b T p) τ) : CI layM MX8_byteAt [vP 0, vI x] τ Q := by
  subst hx
  have e7 : τ 0 7 = T := by rw [h.2 7 (by decide)]; exact h7
  unfold bAt at hQ
  refine X8_byteAt_E ⟨fun z => ?_, fun z => ⟨by omega, by omega, ?_⟩⟩
  · rwa [if_neg (by omega)] at hQ
  · rw [h.1 5 (by decide), hb p (by omega) (by omega)]; rwa [if_pos (by omega)] at hQ
theorem needs_s {x c : Int} {τ : Mem} {Q : Mem → Prop} (h1 : (x ≠ 0 ∨ τ 0 12 ≠ 0) → Q τ) (h2 : x = 0 → τ 0 12 = 0 → Q (upM (upM τ 0 12 c) 0 13 (τ 0 9))) : CV layM MX8_needs [vP 0, vI x, vI c] τ Q := by
  refine X8_needs_E ⟨fun z => h1 (Or.inl z), fun z => ⟨fun z2 => h1 (Or.inr z2), fun z2 => ?_⟩⟩
  rw [upM_j (show (9 : Int) ≠ 12 by decide)]
  exact h2 z z2
theorem takes_name (hT : T ≤ 160) (hb : ∀ i : Int, 0 ≤ i → i < T → τ0 5 i = b i) (h7 : τ0 0 7 = T) (hpos : ∀ i : Int, 0 ≤ i → i < T → 0 ≤ b i) {s : Int} {F : Nat} {Q : Mem → Prop} (hQ : ∀ τ', Mp τ0 τ' → τ' 0 9 = s → τ' 0 10 = 1 → τ' 0 12 = 0 → τ' 0 8 = F → Q τ') : ∀ (m p : Nat) (τ : Mem), p + m = T → Mp τ0 τ → τ 0 9 = s → τ 0 10 = 1 → τ 0 12 = 0 → τ 0 8 = p → runF isL b (T - p) p = F → LX8_takes_82 τ Q := by
  intro m
  induction m with
  | zero =>
    intro p τ hp hM h9 h10 h12 h8 e
    rw [run_end (by omega)] at e
    refine X8_takes_82 (byteAt_s hT hb h7 hM h8 (in_s ?_))
    have : bAt b T p = -1 := by unfold bAt; rw [if_neg (by omega)]
    rw [this]
    exact gF (fun z => by omega) (fun _ => hQ τ hM h9 h10 h12 (by rw [h8, e]))
  | succ m ih =>
    intro p τ hp hM h9 h10 h12 h8 e
    refine X8_takes_82 (byteAt_s hT hb h7 hM h8 (in_s ?_))
    have eb : bAt b T p = b p := by unfold bAt; rw [if_pos (by omega)]
    rw [eb]
    refine gF (fun z => ⟨by rw [h8]; exact ⟨by omega, by omega⟩, ?_⟩) (fun z => ?_)
    · rw [run_go (by omega) (decide_eq_true z)] at e
      rw [h8]
      exact ih (p + 1) _ (by omega) (hM.up (by decide)) (by rw [upM_j (by decide)]; exact h9) (by rw [upM_j (by decide)]; exact h10) (by rw [upM_j (by decide)]; exact h12) (by rw [upM_s]; rfl) e
    · rw [run_no (by omega) (decide_eq_false z)] at e
      exact hQ τ hM h9 h10 h12 (by rw [h8, e])
theorem takes_num (hT : T ≤ 160) (hb : ∀ i : Int, 0 ≤ i → i < T → τ0 5 i = b i) (h7 : τ0 0 7 = T) {s F : Nat} (hF : runF isD b (T - s) s = F) {Q : Mem → Prop} (hQ1 : F - s ≤ 3 → ∀ τ', Mp τ0 τ' → τ' 0 9 = s → τ' 0 10 = 2 → τ' 0 12 = 0 → τ' 0 8 = F → τ' 0 11 = dig b s (F - s) → Q τ') (hQ2 : 3 < F - s → ∀ τ', Mp τ0 τ' → τ' 0 12 = 1 → τ' 0 13 = s → Q τ') : ∀ (m k : Nat) (τ : Mem), s + k + m = T → Mp τ0 τ → τ 0 9 = s → τ 0 10 = 2 → τ 0 12 = 0 → τ 0 8 = ((s + k : Nat) : Int) → τ 0 11 = dig b s (min k 3) → runF isD b (T - (s + k)) (s + k) = F → LX8_takes_140 τ Q := by
  have fin : ∀ (k : Nat) (τ : Mem), Mp τ0 τ → τ 0 9 = s → τ 0 10 = 2 → τ 0 12 = 0 → τ 0 8 = ((s + k : Nat) : Int) → τ 0 11 = dig b s (min k 3) → F = s + k → s + k ≤ T → I32 ((τ 0 8) - (τ 0 9)) ∧ ((3 < ((τ 0 8) - (τ 0 9)) → CV layM MX8_needs [vP 0, vI 0, vI 1] τ (fun σ5 => Q σ5)) ∧ (((τ 0 8) - (τ 0 9)) ≤ 3 → CV layM MX8_needs [vP 0, vI 1, vI 1] τ (fun σ6 => Q σ6))) := by
    intro k τ hM h9 h10 h12 h8 h11 e hk
    rw [h8, h9]
    refine ⟨⟨by omega, by omega⟩, fun z => needs_s (fun z2 => ?_) (fun _ _ => hQ2 (by omega) _ ((hM.up (by decide)).up (by decide)) (by rw [upM_j (by decide), upM_s]) (by rw [upM_s]; exact h9)), fun z => needs_s (fun _ => hQ1 (by omega) τ hM h9 h10 h12 (by rw [h8, e]) ?_) (fun z2 _ => absurd z2 (by decide))⟩
    · rcases z2 with z2 | z2
      · exact absurd rfl z2
      · exact absurd h12 z2
    · rw [h11, e, show s + k - s = k by omega, show min k 3 = k by omega]
  intro m
  induction m with
  | zero =>
    intro k τ hk hM h9 h10 h12 h8 h11 e
    rw [run_end (by omega)] at e
    refine X8_takes_140 (byteAt_s hT hb h7 hM h8 (in_s ?_))
    have : bAt b T (s + k) = -1 := by unfold bAt; rw [if_neg (by omega)]
    rw [this]
    exact gF (fun z => by omega) (fun _ => fin k τ hM h9 h10 h12 h8 h11 e.symm (by omega))
  | succ m ih =>
    intro k τ hk hM h9 h10 h12 h8 h11 e
    refine X8_takes_140 (byteAt_s hT hb h7 hM h8 (in_s ?_))
    have eb : bAt b T (s + k) = b ((s + k : Nat) : Int) := by unfold bAt; rw [if_pos (by omega)]
    rw [eb]
    refine gF (fun z => ?_) (fun z => ?_)
    · have hin := run_in (P := isD) (b := b) (T - (s + k)) (s + k)
      rw [run_go (by omega) (decide_eq_true z)] at e
      have hin2 := run_in (P := isD) (b := b) (T - (s + k + 1)) (s + k + 1)
      have hall := fun i => run_all (P := isD) (b := b) (T - s) s i
      rw [h8, h9]
      refine ⟨⟨by omega, by omega⟩, fun z3 => ?_, fun z3 => ?_⟩
      · rw [upM_j (show (8 : Int) ≠ 11 by decide), h8]
        refine ⟨⟨by omega, by omega⟩, ih (k + 1) _ (by omega) ((hM.up (by decide)).up (by decide)) (by rw [upM_j (by decide), upM_j (by decide)]; exact h9) (by rw [upM_j (by decide), upM_j (by decide)]; exact h10) (by rw [upM_j (by decide), upM_j (by decide)]; exact h12) (by rw [upM_s]; rfl) ?_ e⟩
        rw [upM_j (by decide), upM_s, h11, show min k 3 = 3 by omega, show min (k + 1) 3 = 3 by omega]
      · have bd := dig_bd (b := b) (s := s) (k := k) (fun i a c => hall i a (by omega)) (by omega)
        have p10 : (10 : Int) ^ k ≤ 100 := by
          have : k = 0 ∨ k = 1 ∨ k = 2 := by omega
          rcases this with e | e | e <;> subst e <;> decide
        have e11 : τ 0 11 = dig b s k := by rw [h11, show min k 3 = k by omega]
        rw [e11]
        refine ⟨⟨by omega, by omega⟩, byteAt_s hT hb h7 hM (p := s + k) rfl ?_⟩
        rw [eb, upM_j (show (8 : Int) ≠ 11 by decide), h8]
        refine ⟨⟨by omega, by omega⟩, ⟨by omega, by omega⟩, ⟨by omega, by omega⟩, ih (k + 1) _ (by omega) ((hM.up (by decide)).up (by decide)) (by rw [upM_j (by decide), upM_j (by decide)]; exact h9) (by rw [upM_j (by decide), upM_j (by decide)]; exact h10) (by rw [upM_j (by decide), upM_j (by decide)]; exact h12) (by rw [upM_s]; rfl) ?_ e⟩
        rw [upM_j (by decide), upM_s, show min (k + 1) 3 = k + 1 by omega]
        rfl
    · rw [run_no (by omega) (decide_eq_false z)] at e
      exact fin k τ hM h9 h10 h12 h8 h11 e.symm (by omega)
/-- the token at p is taken -/
def TKok (b : Int → Int) (T p : Nat) (τ : Mem) : Prop := τ 0 12 = 0 ∧ τ 0 9 = (sT b T p : Nat) ∧ τ 0 8 = (nxt b T p : Nat) ∧ τ 0 10 = srM (srt b T p) ∧ (srt b T p = 1 → τ 0 11 = val b T p)
theorem takes_s (hT : T ≤ 160) (hb : ∀ i : Int, 0 ≤ i → i < T → τ0 5 i = b i ∧ 0 ≤ b i) (h7 : τ0 0 7 = T) (h12 : τ0 0 12 = 0) {p : Nat} (h8 : τ0 0 8 = p) (hp : p ≤ T) {Q : Mem → Prop} (hQ : ∀ τ', Mp τ0 τ' → (srt b T p = 4 → τ' 0 12 = 1 ∧ τ' 0 13 = (sT b T p : Nat)) → (srt b T p ≠ 4 → TKok b T p τ') → Q τ') : CV layM MX8_takes [vP 0] τ0 Q := by
  have hb1 : ∀ i : Int, 0 ≤ i → i < T → τ0 5 i = b i := fun i a c => (hb i a c).1
  have hb2 : ∀ i : Int, 0 ≤ i → i < T → 0 ≤ b i := fun i a c => (hb i a c).2
  have last : ∀ (τ : Mem), Mp τ0 τ → τ 0 12 = 0 → τ 0 8 = (sT b T p : Nat) → bAt b T (sT b T p) ≠ 32 → LX8_takes_8 τ Q := by
    intro τ hM h12 h8 h32
    have hs := sT_in (b := b) hp
    unfold TKok at hQ
    generalize hse : sT b T p = s at hs
    rw [hse] at h8 h32
    have hn : nxt b T p = if T ≤ s then s else if isL (b s) then runF isL b (T - s) s else if isD (b s) then runF isD b (T - s) s else s + 1 := by unfold nxt; rw [hse]
    have hr : srt b T p = if T ≤ s then 3 else if isL (b s) then 0 else if isD (b s) then (if 3 < runF isD b (T - s) s - s then 4 else 1) else if b s = 59 then 2 else 4 := by unfold srt; rw [hse]
    have hv : val b T p = dig b s (nxt b T p - s) := by unfold val; rw [hse]
    rw [hse] at hQ
    refine X8_takes_8 (byteAt_s hT hb1 h7 hM h8 ⟨fun _ => ?_, fun z => absurd z h32⟩)
    have e8 : upM τ 0 9 s 0 8 = s := by rw [upM_j (by decide)]; exact h8
    have hM2 : Mp τ0 (upM τ 0 9 s) := hM.up (by decide)
    have e12 : upM τ 0 9 s 0 12 = 0 := by rw [upM_j (by decide)]; exact h12
    rw [h8, e8]
    refine byteAt_s hT hb1 h7 hM2 rfl ⟨fun z => ?_, fun z => ?_⟩
    · have hlt : s < T := by
        unfold bAt at z
        by_cases e : s < T
        · exact e
        · rw [if_neg e] at z; omega
      have eb : bAt b T s = b s := by unfold bAt; rw [if_pos hlt]
      rw [eb]
      rw [if_neg (by omega)] at hn hr
      refine in_s (gF (fun zl => ?_) (fun zl => ?_))
      · rw [if_pos (show isL (b s) = true from decide_eq_true zl)] at hn hr
        refine takes_name hT hb1 h7 hb2 (s := s) (F := nxt b T p) (fun τ' a1 a2 a3 a4 a5 => hQ τ' a1 (fun z2 => by rw [hr] at z2; omega) (fun _ => ⟨a4, a2, a5, by rw [a3, hr]; rfl, fun z2 => by rw [hr] at z2; omega⟩)) (T - s) s _ (by omega) (hM2.up (by decide)) (by rw [upM_j (by decide), upM_s]) upM_s (by rw [upM_j (by decide)]; exact e12) (by rw [upM_j (by decide)]; exact e8) hn.symm
      · rw [if_neg (show ¬ isL (b s) = true from by unfold isL; simp only [decide_eq_true_eq]; exact zl)] at hn hr
        refine in_s (gF (fun zd => ?_) (fun zd => ?_))
        · rw [if_pos (show isD (b s) = true from decide_eq_true zd)] at hn hr
          refine takes_num hT hb1 h7 (s := s) (F := nxt b T p) hn.symm (fun z3 τ' a1 a2 a3 a4 a5 a6 => ?_) (fun z3 τ' a1 a2 a3 => ?_) (T - s) 0 _ (by omega) ((hM2.up (by decide)).up (by decide)) (by rw [upM_j (by decide), upM_j (by decide), upM_s]) (by rw [upM_j (by decide), upM_s]) (by rw [upM_j (by decide), upM_j (by decide)]; exact e12) (by rw [upM_j (by decide), upM_j (by decide)]; exact e8) upM_s hn.symm
          · rw [← hn, if_neg (by omega)] at hr
            exact hQ τ' a1 (fun z2 => by rw [hr] at z2; omega) (fun _ => ⟨a4, a2, a5, by rw [a3, hr]; rfl, fun _ => by rw [a6, hv]⟩)
          · rw [← hn, if_pos z3] at hr
            exact hQ τ' a1 (fun _ => ⟨a2, a3⟩) (fun z2 => absurd hr z2)
        · rw [if_neg (show ¬ isD (b s) = true from by unfold isD; simp only [decide_eq_true_eq]; exact zd)] at hn hr
          have hM3 : Mp τ0 (upM (upM τ 0 9 s) 0 10 3) := hM2.up (by decide)
          refine ⟨fun zs => needs_s (fun z2 => ?_) (fun _ _ => ?_), fun zs => needs_s (fun _ => ?_) (fun z2 _ => absurd z2 (by decide))⟩
          · rcases z2 with z2 | z2
            · exact absurd rfl z2
            · exact absurd (by rw [upM_j (by decide)]; exact e12) z2
          · rw [if_neg zs] at hr
            rw [upM_j (show (8 : Int) ≠ 13 by decide), upM_j (show (8 : Int) ≠ 12 by decide), upM_j (show (8 : Int) ≠ 10 by decide), e8]
            refine ⟨⟨by omega, by omega⟩, hQ _ (((hM3.up (by decide)).up (by decide)).up (by decide)) (fun _ => ⟨?_, ?_⟩) (fun z2 => absurd hr z2)⟩
            · rw [upM_j (by decide), upM_j (by decide), upM_s]
            · rw [upM_j (by decide), upM_s, upM_j (by decide), upM_s]
          · rw [if_pos zs] at hr
            rw [upM_j (show (8 : Int) ≠ 10 by decide), e8]
            refine ⟨⟨by omega, by omega⟩, hQ _ (hM3.up (by decide)) (fun z2 => by rw [hr] at z2; omega) (fun _ => ⟨?_, ?_, ?_, ?_, fun z2 => by rw [hr] at z2; omega⟩)⟩
            · rw [upM_j (by decide), upM_j (by decide)]; exact e12
            · rw [upM_j (by decide), upM_j (by decide), upM_s]
            · rw [upM_s, hn]; rfl
            · rw [upM_j (by decide), upM_s, hr]; rfl
    · have hge : T ≤ s := by
        by_cases e : s < T
        · have := hb2 s (by omega) (by omega)
          unfold bAt at z; rw [if_pos e] at z; omega
        · omega
      rw [if_pos hge] at hn hr
      refine hQ _ (hM2.up (by decide)) (fun z2 => by rw [hr] at z2; omega) (fun _ => ⟨?_, ?_, ?_, ?_, fun z2 => by rw [hr] at z2; omega⟩)
      · rw [upM_j (by decide)]; exact e12
      · rw [upM_j (by decide), upM_s]
      · rw [upM_j (by decide), e8, hn]
      · rw [upM_s, hr]; rfl
  have key : ∀ (m q : Nat) (τ : Mem), q + m = T → Mp τ0 τ → τ 0 12 = 0 → τ 0 8 = q → skipF b (T - q) q = sT b T p → LX8_takes_8 τ Q := by
    intro m
    induction m with
    | zero =>
      intro q τ hq hM h12 h8 e
      rw [show T - q = 0 by omega, skipF] at e
      exact last τ hM h12 (by rw [h8, e]) (by rw [← e]; unfold bAt; rw [if_neg (by omega)]; decide)
    | succ m ih =>
      intro q τ hq hM h12 h8 e
      rw [show T - q = (T - (q + 1)) + 1 by omega, skipF] at e
      have eb : bAt b T q = b q := by unfold bAt; rw [if_pos (by omega)]
      by_cases z : b q = 32
      · rw [if_pos z] at e
        refine X8_takes_8 (byteAt_s hT hb1 h7 hM h8 ⟨fun z2 => absurd (by rw [eb]; exact z) z2, fun _ => ?_⟩)
        rw [h8]
        exact ⟨⟨by omega, by omega⟩, ih (q + 1) _ (by omega) (hM.up (by decide)) (by rw [upM_j (by decide)]; exact h12) (by rw [upM_s]; rfl) e⟩
      · rw [if_neg z] at e
        exact last τ hM h12 (by rw [h8, e]) (by rw [← e, eb]; exact z)
  exact X8_takes_E ⟨fun _ => key (T - p) p τ0 (by omega) Mp.rf h12 h8 rfl, fun z => by omega⟩
theorem takes_f {τ : Mem} (h : 0 < τ 0 12) {Q : Mem → Prop} (hQ : Q τ) : CV layM MX8_takes [vP 0] τ Q := X8_takes_E ⟨fun z => by omega, fun _ => hQ⟩
theorem readNumber_f {τ : Mem} {x y : Int} (h : 0 < τ 0 12) {Q : Int → Mem → Prop} (hQ : Q 0 τ) : CI layM MX8_readNumber [vP 0, vI x, vI y] τ Q :=
  X8_readNumber_E ⟨fun _ => X8_readNumber_25 ⟨fun _ => ⟨fun _ => takes_f h hQ, fun z => by omega⟩, fun z => by omega⟩, fun z => by omega⟩
/-- a number is read: at fault, or it and the next token -/
theorem readNumber_s {τ : Mem} {x y : Int} (h12 : τ 0 12 = 0) {Q : Int → Mem → Prop} (h1 : τ 0 10 ≠ 2 → Q 0 (upM (upM τ 0 12 2) 0 13 (τ 0 9))) (h2 : τ 0 10 = 2 → ¬ (x ≤ τ 0 11 ∧ τ 0 11 ≤ y) → Q 0 (upM (upM τ 0 12 3) 0 13 (τ 0 9))) (h3 : τ 0 10 = 2 → (x ≤ τ 0 11 ∧ τ 0 11 ≤ y) → CV layM MX8_takes [vP 0] τ (fun τ' => Q (τ 0 11) τ')) : CI layM MX8_readNumber [vP 0, vI x, vI y] τ Q := by
  have f1 : ∀ c : Int, 0 < c → upM (upM τ 0 12 c) 0 13 (τ 0 9) 0 12 = c := fun c _ => by rw [upM_j (by decide), upM_s]
  refine X8_readNumber_E ⟨fun z => absurd h12 z, fun _ => ⟨fun z => needs_s (fun z2 => ?_) (fun _ _ => ?_), fun z => needs_s (fun _ => ?_) (fun z2 _ => absurd z2 (by decide))⟩⟩
  · rcases z2 with z2 | z2
    · exact absurd rfl z2
    · exact absurd h12 z2
  · exact X8_readNumber_25 ⟨fun _ => ⟨fun _ => takes_f (by rw [f1 2 (by decide)]; decide) (h1 z), fun z2 => by rw [f1 2 (by decide)] at z2; omega⟩, fun z2 => by rw [f1 2 (by decide)] at z2; omega⟩
  · refine X8_readNumber_25 ⟨fun z2 => absurd h12 z2, fun _ => in_s ?_⟩
    by_cases hin : x ≤ τ 0 11 ∧ τ 0 11 ≤ y
    · rw [if_pos hin]
      exact needs_s (fun _ => ⟨fun z2 => absurd h12 z2, fun _ => h3 z hin⟩) (fun z2 _ => absurd z2 (by decide))
    · rw [if_neg hin]
      refine needs_s (fun z2 => ?_) (fun _ _ => ⟨fun _ => takes_f (by rw [f1 3 (by decide)]; decide) (h2 z hin), fun z2 => by rw [f1 3 (by decide)] at z2; omega⟩)
      rcases z2 with z2 | z2
      · exact absurd rfl z2
      · exact absurd h12 z2
end TOKM
