/-! ===== Parting: what is asked ===== -/
def allF (p : Int → Bool) : Nat → Bool
  | 0 => true
  | k + 1 => allF p k && p (k : Int)
theorem allF_iff {p : Int → Bool} : ∀ {n : Nat}, allF p n = true ↔ ∀ i : Int, 0 ≤ i → i < n → p i = true
  | 0 => ⟨fun _ i a b => by omega, fun _ => rfl⟩
  | n + 1 => by
    unfold allF
    rw [Bool.and_eq_true, allF_iff (n := n)]
    refine ⟨fun h i a b => ?_, fun h => ⟨fun i a b => h i a (by omega), h n (by omega) (by omega)⟩⟩
    by_cases hi : i = n
    · rw [hi]; exact h.2
    · exact h.1 i a (by omega)
theorem allF_no {p : Int → Bool} {n : Nat} {i : Int} (h0 : 0 ≤ i) (h1 : i < n) (h : p i = false) : allF p n = false := by
  cases e : allF p n with
  | false => rfl
  | true => rw [allF_iff.mp e i h0 h1] at h; cases h
theorem allF_congr {p q : Int → Bool} {n : Nat} (h : ∀ i : Int, 0 ≤ i → i < n → p i = q i) : allF p n = allF q n := by
  induction n with
  | zero => rfl
  | succ n ih => unfold allF; rw [ih (fun i a b => h i a (by omega)), h n (by omega) (by omega)]
/-- the first of those that are so, from k on, m of them; else d -/
def fstFrom (p : Int → Bool) (d : Int) (k : Nat) : Nat → Int
  | 0 => d
  | m + 1 => if p (k : Int) then (k : Int) else fstFrom p d (k + 1) m
def fstB (p : Int → Bool) (d : Int) (N : Nat) : Int := fstFrom p d 0 N
theorem fstFrom_congr {p q : Int → Bool} {d : Int} : ∀ {m k : Nat}, (∀ i : Int, 0 ≤ i → i < k + m → p i = q i) → fstFrom p d k m = fstFrom q d k m
  | 0, _, _ => rfl
  | m + 1, k, h => by
    unfold fstFrom
    rw [h k (by omega) (by omega), fstFrom_congr (p := p) (q := q) (m := m) (k := k + 1) (fun i a b => h i a (by omega))]
theorem fstFrom_in {p : Int → Bool} {d : Int} : ∀ {m k : Nat}, fstFrom p d k m = d ∨ (k ≤ fstFrom p d k m ∧ fstFrom p d k m < k + m)
  | 0, _ => Or.inl rfl
  | m + 1, k => by
    unfold fstFrom
    split
    · right; omega
    · rcases fstFrom_in (p := p) (d := d) (m := m) (k := k + 1) with h | h
      · exact Or.inl h
      · right; omega
/-- another word for 'there is none' changes nothing else -/
theorem fstFrom_d {p : Int → Bool} {d d' : Int} : ∀ {m k : Nat}, (fstFrom p d k m = d ∧ fstFrom p d' k m = d') ∨ (fstFrom p d k m = fstFrom p d' k m ∧ 0 ≤ fstFrom p d k m)
  | 0, _ => Or.inl ⟨rfl, rfl⟩
  | m + 1, k => by
    unfold fstFrom
    split
    · right; exact ⟨rfl, by omega⟩
    · exact fstFrom_d (p := p) (d := d) (d' := d') (m := m) (k := k + 1)
def offB (w : Int → Int) (a : Int) (g : Int → Int) (v i : Int) : Bool := decide (a ≤ absI (g i * a - v * w i))
def seenP (N : Nat) (g sh sc : Int → Int) (k : Int) : Bool := decide (sh k < N ∧ g (sh k) = sc k)
section ASK
variable {b N : Nat} {w : Int → Int} {c a : Int} {σ0 : Mem}
theorem got_s (hb : isPt b) (hN5 : N ≤ 5) (h6 : σ0 b 6 = N) {i : Int} (h0 : 0 ≤ i) (h1 : i < N) {Q : Int → Mem → Prop} (hQ : Q (σ0 (b + 3) i) σ0) : CI layC MX2_got [vP b, vI i] σ0 Q :=
  X2_got_E hb ⟨fun h => by omega, fun _ => ⟨fun h => by rw [h6] at h; omega, fun _ => ⟨h0, by omega, hQ⟩⟩⟩
theorem isOff_s (hb : isPt b) (hW : okW N w c a) (hL : PL σ0 b N w c a) {v : Nat} (hv : v ≤ 2000) (h8 : σ0 b 8 = v) (hg : ∀ i : Int, 0 ≤ i → i < N → 0 ≤ σ0 (b + 3) i ∧ σ0 (b + 3) i ≤ 3000) {i : Int} (h0 : 0 ≤ i) (h1 : i < N) {Q : Int → Mem → Prop} (hQ : Q (if offB w a (σ0 (b + 3)) v i then 1 else 0) σ0) : CI layC MX2_isOff [vP b, vI i] σ0 Q := by
  have h5 := hW.1
  have hvw := vw_bd hW hv h0 h1
  have hga := mulbd (hg i h0 h1).1 (hg i h0 h1).2 hW.2.2.2.2.1.1 hW.2.2.2.2.1.2
  refine X2_isOff_E hb ⟨fun h => by omega, fun _ => ⟨fun h => by rw [hL.1] at h; omega, fun _ => ?_⟩⟩
  rw [hL.2.2.1, h8, hL.2.2.2 i h0 h1]
  refine ⟨h0, by omega, ⟨by omega, by omega⟩, h0, by omega, ⟨by omega, by omega⟩, ⟨by omega, by omega⟩, ⟨by omega, by omega⟩, fun h => ?_, fun h => ?_⟩
  · have e : offB w a (σ0 (b + 3)) v i = false := decide_eq_false (by omega)
    rw [e] at hQ; exact hQ
  · have e : offB w a (σ0 (b + 3)) v i = true := decide_eq_true h
    rw [e] at hQ; exact hQ
theorem firstOff_s (hb : isPt b) (hW : okW N w c a) (hL : PL σ0 b N w c a) {v : Nat} (hv : v ≤ 2000) (h8 : σ0 b 8 = v) (hg : ∀ i : Int, 0 ≤ i → i < N → 0 ≤ σ0 (b + 3) i ∧ σ0 (b + 3) i ≤ 3000) {Q : Int → Mem → Prop} (hQ : Q (fstB (offB w a (σ0 (b + 3)) v) (-1) N) σ0) : CI layC MX2_firstOff [vP b] σ0 Q := by
  have h5 := hW.1
  have key : ∀ (m k : Nat), k + m = N → Q (fstFrom (offB w a (σ0 (b + 3)) v) (-1) k m) σ0 → LX2_firstOff_2 b k σ0 Q := by
    intro m
    induction m with
    | zero => intro k hk hq; exact X2_firstOff_2 hb ⟨fun _ => hq, fun h => by rw [hL.1] at h; omega⟩
    | succ m ih =>
      intro k hk hq
      refine X2_firstOff_2 hb ⟨fun h => by rw [hL.1] at h; omega, fun _ => isOff_s hb hW hL hv h8 hg (by omega) (by omega) ?_⟩
      unfold fstFrom at hq
      cases ho : offB w a (σ0 (b + 3)) v k with
      | false =>
        rw [ho] at hq
        have := ih (k + 1) (by omega) hq
        refine ⟨fun _ => ⟨⟨by omega, by omega⟩, by simpa using this⟩, fun h => absurd rfl h⟩
      | true =>
        rw [ho] at hq
        exact ⟨fun h => by simp at h, fun _ => hq⟩
  exact X2_firstOff_E hb (key N 0 (by omega) hQ)
theorem firstLoser_s (hb : isPt b) (hN5 : N ≤ 5) (h6 : σ0 b 6 = N) {Q : Int → Mem → Prop} (hQ : Q (fstB (fun i => decide (σ0 (b + 3) i < σ0 (b + 4) i)) (-1) N) σ0) : CI layC MX2_firstLoser [vP b] σ0 Q := by
  have key : ∀ (m k : Nat), k + m = N → Q (fstFrom (fun i => decide (σ0 (b + 3) i < σ0 (b + 4) i)) (-1) k m) σ0 → LX2_firstLoser_2 b k σ0 Q := by
    intro m
    induction m with
    | zero => intro k hk hq; exact X2_firstLoser_2 hb ⟨fun _ => hq, fun h => by rw [h6] at h; omega⟩
    | succ m ih =>
      intro k hk hq
      unfold fstFrom at hq
      refine X2_firstLoser_2 hb ⟨fun h => by rw [h6] at h; omega, fun _ => ⟨by omega, by omega, by omega, by omega, fun h => ⟨⟨by omega, by omega⟩, ?_⟩, fun h => ?_⟩⟩
      · rw [if_neg (by simp; exact h)] at hq
        have := ih (k + 1) (by omega) hq
        simpa using this
      · rwa [if_pos (by simp; exact h)] at hq
  exact X2_firstLoser_E hb (key N 0 (by omega) hQ)
theorem givesAs_s {e : Nat} (hb : isPt b) (he : isPt e) (hN5 : N ≤ 5) (h6 : σ0 b 6 = N) (h6e : σ0 e 6 = N) {Q : Int → Mem → Prop} (hQ : Q (if allF (fun i => decide (σ0 (b + 3) i = σ0 (e + 3) i)) N then 1 else 0) σ0) : CI layC MX2_givesAs [vP b, vP e] σ0 Q := by
  have key : ∀ (m k : Nat), k + m = N → (∀ i : Int, 0 ≤ i → i < k → decide (σ0 (b + 3) i = σ0 (e + 3) i) = true) → LX2_givesAs_2 b e k σ0 Q := by
    intro m
    induction m with
    | zero =>
      intro k hk ha
      refine X2_givesAs_2 hb he ⟨fun _ => ?_, fun h => by rw [h6] at h; omega⟩
      rw [if_pos (allF_iff.mpr (fun i x y => ha i x (by omega)))] at hQ
      exact hQ
    | succ m ih =>
      intro k hk ha
      refine X2_givesAs_2 hb he ⟨fun h => by rw [h6] at h; omega, fun _ => ⟨by omega, by omega, got_s he hN5 h6e (by omega) (by omega) ⟨fun h => ⟨⟨by omega, by omega⟩, ?_⟩, fun h => ?_⟩⟩⟩
      · have := ih (k + 1) (by omega) (fun i x y => ?_)
        · simpa using this
        · by_cases hi : i = k
          · rw [hi]; exact decide_eq_true h
          · exact ha i x (by omega)
      · rw [allF_no (i := k) (by omega) (by omega) (decide_eq_false h)] at hQ
        exact hQ
  exact X2_givesAs_E hb he (key N 0 (by omega) (fun i x y => by omega))
theorem isAsSeen_s {e S : Nat} (hb : isPt b) (he : isE e) (hN5 : N ≤ 5) (h6 : σ0 b 6 = N) (hS : σ0 e 3 = S) (hS6 : S ≤ 6) (hsh : ∀ k : Int, 0 ≤ k → k < S → 0 ≤ σ0 (e + 3) k) {Q : Int → Mem → Prop} (hQ : Q (if allF (seenP N (σ0 (b + 3)) (σ0 (e + 3)) (σ0 (e + 4))) S then 1 else 0) σ0) : CI layC MX2_isAsSeen [vP b, vP e] σ0 Q := by
  have key : ∀ (m k : Nat), k + m = S → (∀ i : Int, 0 ≤ i → i < k → seenP N (σ0 (b + 3)) (σ0 (e + 3)) (σ0 (e + 4)) i = true) → LX2_isAsSeen_2 b e k σ0 Q := by
    intro m
    induction m with
    | zero =>
      intro k hk ha
      refine X2_isAsSeen_2 hb he ⟨fun _ => ?_, fun h => by rw [hS] at h; omega⟩
      rw [if_pos (allF_iff.mpr (fun i x y => ha i x (by omega)))] at hQ
      exact hQ
    | succ m ih =>
      intro k hk ha
      have h0 := hsh k (by omega) (by omega)
      refine X2_isAsSeen_2 hb he ⟨fun h => by rw [hS] at h; omega, fun _ => ⟨by omega, by omega, fun h => ?_, fun h => ?_⟩⟩
      · rw [h6] at h
        rw [allF_no (i := k) (by omega) (by omega) (decide_eq_false (fun z => by have := z.1; omega))] at hQ
        exact hQ
      · rw [h6] at h
        refine got_s hb hN5 h6 h0 h ⟨by omega, by omega, fun hc => ⟨⟨by omega, by omega⟩, ?_⟩, fun hc => ?_⟩
        · have := ih (k + 1) (by omega) (fun i x y => ?_)
          · simpa using this
          · by_cases hi : i = k
            · rw [hi]; exact decide_eq_true ⟨h, hc⟩
            · exact ha i x (by omega)
        · rw [allF_no (i := k) (by omega) (by omega) (decide_eq_false (fun z => hc z.2))] at hQ
          exact hQ
  exact X2_isAsSeen_E hb he (key S 0 (by omega) (fun i x y => by omega))
end ASK
