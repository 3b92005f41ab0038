/-! ===== Parting: by rests, by rows, part, grow ===== -/
theorem dn1 (m : Nat) : ((m + 1 : Nat) : Int) + (-1) = m := by omega
theorem rsG_bd {f r : Int → Int} {N : Nat} : ∀ (t : Nat) (i : Int), f i ≤ (rsG f r N t).1 i ∧ (rsG f r N t).1 i ≤ f i + t
  | 0, i => ⟨Int.le_refl _, by simp [rsG]⟩
  | t + 1, i => by
    have ih := rsG_bd (f := f) (r := r) (N := N) t i
    show f i ≤ bump (rsG f r N t).1 _ i ∧ bump (rsG f r N t).1 _ i ≤ f i + ((t + 1 : Nat) : Int)
    unfold bump
    split <;> omega
theorem rsG_sum {f r : Int → Int} {N : Nat} (hN : 0 < N) : ∀ (t : Nat), sumF (rsG f r N t).1 N = sumF f N + t
  | 0 => by simp [rsG]
  | t + 1 => by
    have hp := pickM_in (r := (rsG f r N t).2) hN
    show sumF (bump (rsG f r N t).1 _) N = _
    rw [sumF_bump hp.1 hp.2, rsG_sum hN t]; omega
theorem le_sum {f : Int → Int} {n : Nat} (hf : ∀ j : Int, 0 ≤ j → j < n → 0 ≤ f j) {i : Int} (a : 0 ≤ i) (b : i < n) : f i ≤ sumF f n := by
  induction n with
  | zero => omega
  | succ n ih =>
    show f i ≤ sumF f n + f n
    by_cases hi : i = n
    · subst hi
      have := sumF_nonneg (f := f) (n := n) (fun j c e => hf j c (by omega))
      omega
    · have := ih (fun j c e => hf j c (by omega)) (by omega)
      have := hf n (by omega) (by omega)
      omega
theorem sumF_sub {f : Int → Int} {c : Int} : ∀ {n : Nat}, sumF (fun i => f i - c) n = sumF f n - n * c
  | 0 => by simp [sumF]
  | n + 1 => by
    show sumF (fun i => f i - c) n + (f n - c) = (sumF f n + f n) - _
    rw [sumF_sub, Int.natCast_add, Int.add_mul]; simp; omega
section ALLO
variable {N : Nat} {w : Int → Int} {c a : Int}
theorem restF_bd (hW : okW N w c a) {v : Nat} {i : Int} (h0 : 0 ≤ i) (h1 : i < N) : 0 ≤ restF w a v i ∧ restF w a v i ≤ v := by
  have hw := hW.2.2.1 i h0 h1
  have ha := hW.2.2.2.2.2.1 (by omega)
  refine ⟨Int.ediv_nonneg (Int.mul_nonneg (by omega) (by omega)) (by omega), ?_⟩
  have := Int.mul_le_mul_of_nonneg_left (hW.2.2.2.2.2.2 i h0 h1) (show 0 ≤ (v : Int) by omega)
  have h2 := Int.ediv_le_ediv (show 0 < a by omega) this
  rwa [Int.mul_ediv_cancel _ (by omega)] at h2
theorem restG_sum (hW : okW N w c a) (hN : 0 < N) (v : Nat) : sumF (restG w a v N) N = v := by
  have h := restL_bd (w := w) (a := a) (v := (v : Int)) hN (fun i x y => by have := (hW.2.2.1 i x y).1; omega) hW.2.2.2.1 (by have := hW.2.2.2.2.2.1 hN; omega)
  unfold restG
  rw [rsG_sum hN]
  unfold restL
  omega
theorem rowG_sum {y : Int} (hN : 0 < N) (v : Nat) : sumF (rowG w y N v) N = v := by
  have := itG_sum (w := w) (h := fun _ => 0) (y := y) hN v
  rw [sumF_const] at this
  unfold rowG; omega
theorem allo_bd (hW : okW N w c a) (kind : Int) (v : Nat) {i : Int} (h0 : 0 ≤ i) (h1 : i < N) : 0 ≤ allo N w c a kind v i ∧ allo N w c a kind v i ≤ v := by
  have hN : 0 < N := by omega
  unfold allo
  split
  · have ht := toldL_bd (w := w) (c := c) (v := v) (by omega) (by have := hW.2.1; omega) (k := i.toNat) (fun j x y => by have := (hW.2.2.1 j x (by omega)).1; omega)
    have hq : 0 ≤ (v : Int) * w i / c := Int.ediv_nonneg (Int.mul_nonneg (by omega) (by have := (hW.2.2.1 i h0 h1).1; omega)) (by have := hW.2.1; omega)
    unfold toldG
    omega
  · split
    · have hn : ∀ j : Int, 0 ≤ j → j < N → 0 ≤ restG w a v N j := fun j x y => by
        have h1 := (rsG_bd (f := restF w a v) (r := restR w a v) (N := N) (restL w a v N) j).1
        have h2 := (restF_bd hW (v := v) x y).1
        unfold restG; omega
      have hs := restG_sum hW hN v
      have := le_sum hn h0 h1
      exact ⟨hn i h0 h1, by omega⟩
    · generalize (if kind = 2 then (1 : Int) else 2) = y
      have hn := itG_nonneg (w := w) (y := y) (N := N) (h := fun _ => 0) (fun _ _ _ => by omega) v
      have hs := rowG_sum (w := w) (y := y) hN v
      have := le_sum (f := rowG w y N v) hn h0 h1
      exact ⟨hn i h0 h1, by omega⟩
end ALLO
section GIVE2
variable {b N : Nat} {w : Int → Int} {c a : Int} {σ0 : Mem}
theorem rests_56 (hb : isPt b) (hW : okW N w c a) (hN : 0 < N) {v : Nat} (hv : v ≤ 2000) {Q : Mem → Prop} (hQ : ∀ σ', Fg b σ0 σ' → (∀ i : Int, 0 ≤ i → i < N → σ' (b + 3) i = restG w a v N i) → Q σ') (hL : PL σ0 b N w c a) :
    ∀ (m t : Nat) (σ : Mem), t + m = restL w a v N → Fg b σ0 σ → (∀ i : Int, 0 ≤ i → i < N → σ (b + 3) i = (rsG (restF w a v) (restR w a v) N t).1 i ∧ σ (b + 2) i = (rsG (restF w a v) (restR w a v) N t).2 i) → LX2_giveByRests_56 b m σ Q := by
  have hR := restL_bd (w := w) (a := a) (v := (v : Int)) hN (fun i x y => by have := (hW.2.2.1 i x y).1; omega) hW.2.2.2.1 (by have := hW.2.2.2.2.2.1 hN; omega)
  have h5 := hW.1
  have hLe : (restL w a v N : Int) = v - sumF (restF w a v) N := by unfold restL; omega
  intro m
  induction m with
  | zero =>
    intro t σ ht hF hg
    refine X2_giveByRests_56 hb ⟨fun _ => hQ σ hF (fun i x y => ?_), fun h => by simp at h⟩
    rw [(hg i x y).1, show t = restL w a v N by omega]; rfl
  | succ m ih =>
    intro t σ ht hF hg
    have hL' := hL.fg hF
    refine X2_giveByRests_56 hb ⟨fun h => by omega, fun _ => ?_⟩
    refine greatest_s hb hN h5 hL'.1 (fun i x y => ?_) ?_
    · rw [(hg i x y).1]
      have h1 := rsG_bd (f := restF w a v) (r := restR w a v) (N := N) t i
      have h2 := restF_bd hW (v := v) x y
      omega
    · have ep : pickM (σ (b + 2)) N = pickM (rsG (restF w a v) (restR w a v) N t).2 N := pickM_congr (fun i x y => (hg i x y).2)
      have hp := pickM_in (r := (rsG (restF w a v) (restR w a v) N t).2) hN
      rw [ep]
      refine ⟨⟨by omega, by omega⟩, ?_⟩
      have := ih (t + 1) (upM (upM σ (b + 3) (pickM (rsG (restF w a v) (restR w a v) N t).2 N) (σ (b + 3) (pickM (rsG (restF w a v) (restR w a v) N t).2 N) + 1)) (b + 2) (pickM (rsG (restF w a v) (restR w a v) N t).2 N) (-1)) (by omega) (hF.up3.up2) (fun i x y => ?_)
      · rw [dn1]; exact this
      · show _ = bump (rsG (restF w a v) (restR w a v) N t).1 _ i ∧ _ = setF (rsG (restF w a v) (restR w a v) N t).2 _ _ i
        generalize pickM (rsG (restF w a v) (restR w a v) N t).2 N = p at hp ⊢
        constructor
        · rw [upM_q (by omega)]
          by_cases hi : i = p
          · subst hi; rw [upM_s, (hg i x y).1]; unfold bump; rw [if_pos rfl]
          · rw [upM_j hi, (hg i x y).1]; unfold bump; rw [if_neg hi]
        · by_cases hi : i = p
          · subst hi; rw [upM_s]; unfold setF; rw [if_pos rfl]
          · rw [upM_j hi, upM_q (by omega), (hg i x y).2]; unfold setF; rw [if_neg hi]
theorem rests_0 (hb : isPt b) {Q : Mem → Prop} (h6 : σ0 b 6 = 0) (hQ : Q σ0) : ∀ (m : Nat), m ≤ 2000 → LX2_giveByRests_56 b m σ0 Q
  | 0, _ => X2_giveByRests_56 hb ⟨fun _ => hQ, fun h => by simp at h⟩
  | m + 1, hm => by
    refine X2_giveByRests_56 hb ⟨fun h => by omega, fun _ => greatest_0 hb h6 ⟨⟨by omega, by omega⟩, ?_⟩⟩
    have := rests_0 hb h6 hQ m (by omega)
    rw [dn1]; exact this
theorem giveByRests_s (hb : isPt b) (hW : okW N w c a) {v : Nat} (hv : v ≤ 2000) {Q : Mem → Prop} (hL : PL σ0 b N w c a) (h8 : σ0 b 8 = v) (hQ : ∀ σ', Fg b σ0 σ' → (∀ i : Int, 0 ≤ i → i < N → σ' (b + 3) i = restG w a v N i) → Q σ') : CV layC MX2_giveByRests [vP b] σ0 Q := by
  have h5 := hW.1
  refine X2_giveByRests_E hb (quotasLess_s hb hW hv (by omega) hL h8 (fun σ1 hF1 hg1 => ?_))
  have hg1 : ∀ i : Int, 0 ≤ i → i < N → σ1 (b + 3) i = restF w a v i := fun i x y => by
    have := (restF_bd hW (v := v) x y).1
    rw [hg1 i x y]; unfold restF at this ⊢; omega
  have key : ∀ (m k : Nat) (σ : Mem), k + m = N → (∀ q, q ≠ b + 2 → σ q = σ1 q) → (∀ i : Int, 0 ≤ i → i < k → σ (b + 2) i = restR w a v i) → LX2_giveByRests_7 b k σ Q := by
    intro m
    induction m with
    | zero =>
      intro k σ hk hF hr
      have e0 : σ b = σ0 b := by rw [hF b (by omega), hF1 b (by omega)]
      have e3 : σ (b + 3) = σ1 (b + 3) := hF (b + 3) (by omega)
      have hFF : Fg b σ0 σ := fun q x y => by rw [hF q x, hF1 q y]
      refine X2_giveByRests_7 hb ⟨fun _ => ?_, fun h => by rw [e0, hL.1] at h; omega⟩
      refine given_s hb h5 (by rw [e0]; exact hL.1) (fun i x y => by rw [e3, hg1 i x y]; have := restF_bd hW (v := v) x y; omega) ?_
      rw [e0, h8, e3, sumF_congr (f := σ1 (b + 3)) (g := restF w a v) hg1]
      by_cases hN : 0 < N
      · have hR := restL_bd (w := w) (a := a) (v := (v : Int)) hN (fun i x y => by have := (hW.2.2.1 i x y).1; omega) hW.2.2.2.1 (by have := hW.2.2.2.2.2.1 hN; omega)
        refine ⟨⟨by omega, by omega⟩, ?_⟩
        have := rests_56 hb hW hN hv hQ hL (restL w a v N) 0 σ (by omega) hFF (fun i x y => ⟨by rw [e3, hg1 i x y]; rfl, by rw [hr i x (by omega)]; rfl⟩)
        have e : ((restL w a v N : Nat) : Int) = v - sumF (restF w a v) N := by unfold restL; omega
        rw [e] at this
        exact this
      · have hN0 : N = 0 := by omega
        subst hN0
        have e : (v : Int) - sumF (restF w a v) 0 = v := by simp [sumF]
        rw [e]
        refine ⟨⟨by omega, by omega⟩, rests_0 hb (by rw [e0, hL.1]; rfl) (hQ σ hFF (fun i x y => by omega)) v hv⟩
    | succ m ih =>
      intro k σ hk hF hr
      have e0 : σ b = σ0 b := by rw [hF b (by omega), hF1 b (by omega)]
      have e1 : σ (b + 1) = σ0 (b + 1) := by rw [hF (b + 1) (by omega), hF1 (b + 1) (by omega)]
      refine X2_giveByRests_7 hb ⟨fun h => by rw [e0, hL.1] at h; omega, fun h => ?_⟩
      have hvw := vw_bd hW hv (i := k) (by omega) (by omega)
      rw [e0, e1, h8, hL.2.2.2 k (by omega) (by omega), hL.2.2.1]
      refine ⟨by omega, by omega, ⟨by omega, by omega⟩, remd_s (by have := hW.2.2.2.2.2.1 (by omega); omega) (by omega) ⟨by omega, by omega, ⟨by omega, by omega⟩, ?_⟩⟩
      have := ih (k + 1) (upM σ (b + 2) k ((v : Int) * w k % a)) (by omega) (fun q hq => by rw [upM_q hq]; exact hF q hq) (fun i x y => ?_)
      · simpa using this
      · by_cases hi : i = k
        · rw [hi, upM_s]; rfl
        · rw [upM_j hi]; exact hr i x (by omega)
  exact key N 0 σ1 (by omega) (fun _ _ => rfl) (fun i x y => by omega)
/- rows -/
def yK (kind : Int) : Int := if kind = 2 then 1 else 2
theorem rowDivisor_s (hb : isPt b) {kind i : Int} (hk : kind = 2 ∨ kind = 3) (h7 : σ0 b 7 = kind) (h0 : 0 ≤ i) (h1 : i < 5) (hg : 0 ≤ σ0 (b + 3) i ∧ σ0 (b + 3) i ≤ 3000) {Q : Int → Mem → Prop} (hQ : Q (yK kind * σ0 (b + 3) i + 1) σ0) : CI layC MX2_rowDivisor [vP b, vI i] σ0 Q := by
  refine X2_rowDivisor_E hb ⟨fun h => ?_, fun h => ?_⟩
  · rw [h7] at h
    have e : yK kind = 1 := by unfold yK; rw [if_pos (by omega)]
    rw [e, Int.one_mul] at hQ
    exact ⟨h0, h1, ⟨by omega, by omega⟩, hQ⟩
  · rw [h7] at h
    have e : yK kind = 2 := by unfold yK; rw [if_neg (by omega)]
    rw [e] at hQ
    exact ⟨h0, h1, ⟨by omega, by omega⟩, ⟨by omega, by omega⟩, hQ⟩
theorem giveNext_s (hb : isPt b) (hW : okW N w c a) (hN : 0 < N) {kind : Int} (hk : kind = 2 ∨ kind = 3) (hL : PL σ0 b N w c a) (h7 : σ0 b 7 = kind) (hg : ∀ i : Int, 0 ≤ i → i < N → 0 ≤ σ0 (b + 3) i ∧ σ0 (b + 3) i ≤ 3000) {Q : Mem → Prop} (hQ : Q (upM σ0 (b + 3) (pick w (σ0 (b + 3)) (yK kind) N) (σ0 (b + 3) (pick w (σ0 (b + 3)) (yK kind) N) + 1))) : CV layC MX2_giveNext [vP b] σ0 Q := by
  have h5 := hW.1
  have hy : yK kind = 1 ∨ yK kind = 2 := by unfold yK; split <;> omega
  have hbd : ∀ i j : Int, 0 ≤ i → i < N → 0 ≤ j → j < N → I64 (w i * (yK kind * σ0 (b + 3) j + 1)) := fun i j x y x' y' => by
    have h1 := hW.2.2.1 i x y
    have h2 := hg j x' y'
    have h3 : 0 ≤ yK kind * σ0 (b + 3) j + 1 ∧ yK kind * σ0 (b + 3) j + 1 ≤ 6001 := by rcases hy with e | e <;> rw [e] <;> omega
    have := mulbd (show 0 ≤ w i by omega) h1.2 h3.1 h3.2
    exact ⟨by omega, by omega⟩
  have key : ∀ (m k : Nat), k + m = N → 0 < k → LX2_giveNext_4 b (pick w (σ0 (b + 3)) (yK kind) k) k σ0 Q := by
    intro m
    induction m with
    | zero =>
      intro k hk' hk0
      have hp := pick_in (w := w) (g := σ0 (b + 3)) (y := yK kind) hk0
      refine X2_giveNext_4 hb ⟨fun _ => ⟨fun h => by rw [hL.1] at h; omega, fun _ => ?_⟩, fun h => by rw [hL.1] at h; omega⟩
      have := hg _ hp.1 (by omega)
      rw [show k = N by omega] at hp this ⊢
      exact ⟨by omega, by omega, ⟨by omega, by omega⟩, by omega, by omega, hQ⟩
    | succ m ih =>
      intro k hk' hk0
      have hp := pick_in (w := w) (g := σ0 (b + 3)) (y := yK kind) hk0
      have := ih (k + 1) (by omega) (by omega)
      refine X2_giveNext_4 hb ⟨fun h => by rw [hL.1] at h; omega, fun h => ⟨by omega, by omega, ?_⟩⟩
      refine rowDivisor_s hb hk h7 hp.1 (by omega) (hg _ hp.1 (by omega)) ?_
      rw [hL.2.2.2 k (by omega) (by omega), hL.2.2.2 _ hp.1 (by omega)]
      refine ⟨hbd k _ (by omega) (by omega) hp.1 (by omega), by omega, by omega, rowDivisor_s hb hk h7 (by omega) (by omega) (hg _ (by omega) (by omega)) ⟨hbd _ k hp.1 (by omega) (by omega) (by omega), fun hc => ⟨⟨by omega, by omega⟩, ?_⟩, fun hc => ⟨⟨by omega, by omega⟩, ?_⟩⟩⟩
      · have e : pick w (σ0 (b + 3)) (yK kind) (k + 1) = pick w (σ0 (b + 3)) (yK kind) k := by
          rw [pick, if_neg (fun z => by have := z.2; omega)]
        rw [e] at this
        simpa using this
      · have e : pick w (σ0 (b + 3)) (yK kind) (k + 1) = k := by rw [pick, if_pos ⟨hk0, hc⟩]
        rw [e] at this
        simpa using this
  refine X2_giveNext_E hb ?_
  have := key (N - 1) 1 (by omega) (by omega)
  have e : pick w (σ0 (b + 3)) (yK kind) 1 = 0 := by simp [pick]
  rw [e] at this
  exact this
theorem giveNext_0 (hb : isPt b) (h6 : σ0 b 6 = 0) {Q : Mem → Prop} (hQ : Q σ0) : CV layC MX2_giveNext [vP b] σ0 Q := by
  refine X2_giveNext_E hb (X2_giveNext_4 hb ⟨fun _ => ⟨fun _ => hQ, fun h => ?_⟩, fun h => ?_⟩)
  · rw [h6] at h; omega
  · rw [h6] at h; omega
theorem row_15 (hb : isPt b) (hW : okW N w c a) (hN : 0 < N) {kind : Int} (hk : kind = 2 ∨ kind = 3) {h : Int → Int} {s : Nat} (hh : ∀ (t : Nat), t ≤ s → ∀ i : Int, 0 ≤ i → i < N → 0 ≤ itG w (yK kind) N h t i ∧ itG w (yK kind) N h t i ≤ 3000) {Q : Mem → Prop} (hs : s ≤ 3000) (hQ : ∀ σ', Fg b σ0 σ' → (∀ i : Int, 0 ≤ i → i < N → σ' (b + 3) i = itG w (yK kind) N h s i) → Q σ') (hL : PL σ0 b N w c a) (h7 : σ0 b 7 = kind) :
    ∀ (m t : Nat) (σ : Mem), t + m = s → Fg b σ0 σ → (∀ i : Int, 0 ≤ i → i < N → σ (b + 3) i = itG w (yK kind) N h t i) → LX2_giveByRow_15 b m σ Q := by
  intro m
  induction m with
  | zero =>
    intro t σ ht hF hg
    refine X2_giveByRow_15 hb ⟨fun _ => hQ σ hF (fun i x y => ?_), fun h => by simp at h⟩
    rw [hg i x y, show t = s by omega]
  | succ m ih =>
    intro t σ ht hF hg
    have hL' := hL.fg hF
    have h7' : σ b 7 = kind := by rw [hF b (by omega) (by omega)]; exact h7
    refine X2_giveByRow_15 hb ⟨fun h => by omega, fun _ => ?_⟩
    refine giveNext_s hb hW hN hk hL' h7' (fun i x y => by rw [hg i x y]; exact hh t (by omega) i x y) ?_
    have ep : pick w (σ (b + 3)) (yK kind) N = pick w (itG w (yK kind) N h t) (yK kind) N := pick_congr (fun i x y => ⟨rfl, hg i x y⟩)
    have hp := pick_in (w := w) (g := itG w (yK kind) N h t) (y := yK kind) hN
    rw [ep]
    refine ⟨⟨by omega, by omega⟩, ?_⟩
    have := ih (t + 1) (upM σ (b + 3) (pick w (itG w (yK kind) N h t) (yK kind) N) (σ (b + 3) (pick w (itG w (yK kind) N h t) (yK kind) N) + 1)) (by omega) hF.up3 (fun i x y => ?_)
    · rw [dn1]; exact this
    · show _ = bump (itG w (yK kind) N h t) _ i
      generalize pick w (itG w (yK kind) N h t) (yK kind) N = p at hp ⊢
      by_cases hi : i = p
      · subst hi; rw [upM_s, hg i x y]; unfold bump; rw [if_pos rfl]
      · rw [upM_j hi, hg i x y]; unfold bump; rw [if_neg hi]
theorem row_0 (hb : isPt b) {Q : Mem → Prop} (h6 : σ0 b 6 = 0) (hQ : Q σ0) : ∀ (m : Nat), m ≤ 3000 → LX2_giveByRow_15 b m σ0 Q
  | 0, _ => X2_giveByRow_15 hb ⟨fun _ => hQ, fun h => by simp at h⟩
  | m + 1, hm => by
    refine X2_giveByRow_15 hb ⟨fun h => by omega, fun _ => giveNext_0 hb h6 ⟨⟨by omega, by omega⟩, ?_⟩⟩
    have := row_0 hb h6 hQ m (by omega)
    rw [dn1]; exact this
theorem giveByRow_s (hb : isPt b) (hW : okW N w c a) {kind : Int} (hk : kind = 2 ∨ kind = 3) {v : Nat} (hv : v ≤ 2000) {Q : Mem → Prop} (hL : PL σ0 b N w c a) (h7 : σ0 b 7 = kind) (h8 : σ0 b 8 = v) (hQ : ∀ σ', Fg b σ0 σ' → (∀ i : Int, 0 ≤ i → i < N → σ' (b + 3) i = rowG w (yK kind) N v i) → Q σ') : CV layC MX2_giveByRow [vP b] σ0 Q := by
  have h5 := hW.1
  have hy : yK kind = 1 ∨ yK kind = 2 := by unfold yK; split <;> omega
  refine X2_giveByRow_E hb (quotasLess_s hb hW hv (by omega) hL h8 (fun σ1 hF1 hg1 => ?_))
  have e0 : σ1 b = σ0 b := hF1 b (by omega)
  have hFF : Fg b σ0 σ1 := fun q _ y => hF1 q y
  have hL1 := hL.fg hFF
  refine given_s hb h5 hL1.1 (fun i x y => by rw [hg1 i x y]; have := restF_bd hW (v := v) x y; unfold restF at this; omega) ?_
  rw [e0, h8, sumF_congr (f := σ1 (b + 3)) (g := fun i => max 0 ((v : Int) * w i / a - 3)) hg1]
  by_cases hN : 0 < N
  · have hw0 : ∀ i : Int, 0 ≤ i → i < N → 0 < w i := fun i x y => by have := (hW.2.2.1 i x y).1; omega
    have hn := itG_nonneg (w := w) (y := yK kind) (N := N) (h := fun _ => 0) (fun _ _ _ => by omega) v
    have hh : ∀ i : Int, 0 ≤ i → i < N → 0 ≤ max 0 ((v : Int) * w i / a - 3) ∧ max 0 ((v : Int) * w i / a - 3) ≤ rowG w (yK kind) N v i := fun i x y => by
      have h1 := row_quota (v := v) hy hN h5 hw0 hW.2.2.2.1 x y (hW.2.2.2.2.2.2 i x y)
      have h2 : 0 ≤ rowG w (yK kind) N v i := hn i x y
      omega
    have hs1 := sumF_le (f := fun i => max 0 ((v : Int) * w i / a - 3)) (g := rowG w (yK kind) N v) (n := N) (fun i x y => (hh i x y).2)
    rw [rowG_sum hN] at hs1
    have hs0 : 0 ≤ sumF (fun i => max 0 ((v : Int) * w i / a - 3)) N := sumF_nonneg (fun i x y => (hh i x y).1)
    generalize hS : sumF (fun i => max 0 ((v : Int) * w i / a - 3)) N = S at hs1 hs0
    have hsE : ((v - S.toNat : Nat) : Int) = v - S := by omega
    refine ⟨⟨by omega, by omega⟩, ?_⟩
    have hjump := row_jump (w := w) (h := fun i => max 0 ((v : Int) * w i / a - 3)) (y := yK kind) (N := N) (v := v) (s := v - S.toNat) (by omega) hN hw0 hh (by rw [hS]; omega)
    have hle : ∀ (t : Nat), t ≤ v - S.toNat → ∀ i : Int, 0 ≤ i → i < N → 0 ≤ itG w (yK kind) N (fun i => max 0 ((v : Int) * w i / a - 3)) t i ∧ itG w (yK kind) N (fun i => max 0 ((v : Int) * w i / a - 3)) t i ≤ 3000 := by
      intro t ht i x y
      have h1 := itG_nonneg (w := w) (y := yK kind) (N := N) (h := fun i => max 0 ((v : Int) * w i / a - 3)) (fun i x y => (hh i x y).1) t
      have h2 := le_sum h1 x y
      rw [itG_sum hN] at h2
      exact ⟨h1 i x y, by omega⟩
    have := row_15 (h := fun i => max 0 ((v : Int) * w i / a - 3)) (s := v - S.toNat) hb hW hN hk hle (by omega) (fun σ' hF' hg' => hQ σ' hF' (fun i x y => by rw [hg' i x y]; exact hjump i x y)) hL h7 (v - S.toNat) 0 σ1 (by omega) hFF (fun i x y => hg1 i x y)
    rw [hsE] at this
    exact this
  · have hN0 : N = 0 := by omega
    subst hN0
    have e : (v : Int) - sumF (fun i => max 0 ((v : Int) * w i / a - 3)) 0 = v := by simp [sumF]
    rw [e]
    exact ⟨⟨by omega, by omega⟩, row_0 hb (by rw [e0, hL.1]; rfl) (hQ σ1 hFF (fun i x y => by omega)) v (by omega)⟩
/-- part: kind and herd are noted, what all get is as the judge gives -/
def FP2 (b : Nat) (σ σ' : Mem) : Prop := (∀ q, q ≠ b → q ≠ b + 2 → q ≠ b + 3 → σ' q = σ q) ∧ ∀ j, j ≠ 7 → j ≠ 8 → σ' b j = σ b j
theorem PL.fp {σ σ' : Mem} (h : PL σ b N w c a) (hF : FP2 b σ σ') : PL σ' b N w c a :=
  ⟨by rw [hF.2 6 (by decide) (by decide)]; exact h.1, by rw [hF.2 0 (by decide) (by decide)]; exact h.2.1, by rw [hF.2 1 (by decide) (by decide)]; exact h.2.2.1, fun i x y => by rw [hF.1 (b + 1) (by omega) (by omega) (by omega)]; exact h.2.2.2 i x y⟩
theorem part_s (hb : isPt b) (hW : okW N w c a) {kind : Int} (hk : 0 ≤ kind ∧ kind ≤ 3) {v : Nat} (hv : v ≤ 2000) {Q : Mem → Prop} (hL : PL σ0 b N w c a) (hQ : ∀ σ', FP2 b σ0 σ' → σ' b 7 = kind → σ' b 8 = v → (∀ i : Int, 0 ≤ i → i < N → σ' (b + 3) i = allo N w c a kind v i) → Q σ') : CV layC MX2_part [vP b, vI kind, vI v] σ0 Q := by
  have hF1 : FP2 b σ0 (upM (upM σ0 b 7 kind) b 8 v) := ⟨fun q h _ _ => by rw [upM_q h, upM_q h], fun j h7 h8 => by rw [upM_j h8, upM_j h7]⟩
  have e7 : upM (upM σ0 b 7 kind) b 8 v b 7 = kind := by rw [upM_j (by decide), upM_s]
  have e8 : upM (upM σ0 b 7 kind) b 8 v b 8 = v := upM_s
  have hL1 := hL.fp hF1
  have hFF : ∀ σ', Fg b (upM (upM σ0 b 7 kind) b 8 v) σ' → FP2 b σ0 σ' ∧ σ' b 7 = kind ∧ σ' b 8 = v := fun σ' hF => by
    refine ⟨⟨fun q h0 h2 h3 => by rw [hF q h2 h3, hF1.1 q h0 h2 h3], fun j h7 h8 => by rw [hF b (by omega) (by omega), hF1.2 j h7 h8]⟩, ?_, ?_⟩
    · rw [hF b (by omega) (by omega), e7]
    · rw [hF b (by omega) (by omega), e8]
  refine X2_part_E hb ?_
  rw [e7]
  generalize hσ : upM (upM σ0 b 7 kind) b 8 v = σ1 at hL1 hFF e7 e8
  refine ⟨fun h0 => ⟨fun h1 => ?_, fun h1 => ?_⟩, fun h0 => ?_⟩
  · refine giveByRow_s hb hW (kind := kind) (by omega) hv hL1 e7 e8 (fun σ' hF hg => ?_)
    obtain ⟨a1, a2, a3⟩ := hFF σ' hF
    exact hQ σ' a1 a2 a3 (fun i x y => by rw [hg i x y]; unfold allo; rw [if_neg h0, if_neg h1]; rfl)
  · refine giveByRests_s hb hW hv hL1 e8 (fun σ' hF hg => ?_)
    obtain ⟨a1, a2, a3⟩ := hFF σ' hF
    exact hQ σ' a1 a2 a3 (fun i x y => by rw [hg i x y]; unfold allo; rw [if_neg h0, if_pos h1])
  · refine giveTold_s hb hW hv hL1 e8 (fun σ' hF hg => ?_)
    obtain ⟨a1, a2, a3⟩ := hFF σ' hF
    exact hQ σ' a1 a2 a3 (fun i x y => by rw [hg i x y]; unfold allo; rw [if_pos h0])
/-- grow: the same of one camel more; what all got before is kept -/
theorem grow_s (hb : isPt b) (hW : okW N w c a) {kind : Int} (hk : 0 ≤ kind ∧ kind ≤ 3) {v : Nat} (hv : v + 1 ≤ 2000) {Q : Mem → Prop} (hL : PL σ0 b N w c a) (h7 : σ0 b 7 = kind) (h8 : σ0 b 8 = v) (hg : ∀ i : Int, 0 ≤ i → i < N → σ0 (b + 3) i = allo N w c a kind v i) (hQ : ∀ σ', Fr b σ0 σ' → PL σ' b N w c a → σ' b 7 = kind → σ' b 8 = ((v + 1 : Nat) : Int) → (∀ i : Int, 0 ≤ i → i < N → σ' (b + 3) i = allo N w c a kind (v + 1) i) → (∀ i : Int, 0 ≤ i → i < N → σ' (b + 4) i = allo N w c a kind v i) → Q σ') : CV layC MX2_grow [vP b] σ0 Q := by
  have h5 := hW.1
  have key : ∀ (m k : Nat) (σ : Mem), k + m = N → (∀ q, q ≠ b + 4 → σ q = σ0 q) → (∀ i : Int, 0 ≤ i → i < k → σ (b + 4) i = allo N w c a kind v i) → LX2_grow_2 b k σ Q := by
    intro m
    induction m with
    | zero =>
      intro k σ hk' hF hr
      have e0 : σ b = σ0 b := hF b (by omega)
      have e3 : σ (b + 3) = σ0 (b + 3) := hF (b + 3) (by omega)
      have hL' : PL σ b N w c a := ⟨by rw [e0]; exact hL.1, by rw [e0]; exact hL.2.1, by rw [e0]; exact hL.2.2.1, fun i x y => by rw [hF (b + 1) (by omega)]; exact hL.2.2.2 i x y⟩
      have hbd : ∀ i : Int, 0 ≤ i → i < N → 0 ≤ σ (b + 3) i ∧ σ (b + 3) i ≤ 3000 := fun i x y => by rw [e3, hg i x y]; have := allo_bd hW kind v x y; omega
      have hnext : kind = 2 ∨ kind = 3 → CV layC MX2_giveNext [vP b] (upM σ b 8 ((σ b 8) + 1)) (fun σ1 => Q σ1) := by
        intro hrow
        have e8 : σ b 8 + 1 = ((v + 1 : Nat) : Int) := by rw [e0, h8]; rfl
        rw [e8]
        have hL2 : PL (upM σ b 8 ((v + 1 : Nat) : Int)) b N w c a := ⟨by rw [upM_j (by decide)]; exact hL'.1, by rw [upM_j (by decide)]; exact hL'.2.1, by rw [upM_j (by decide)]; exact hL'.2.2.1, fun i x y => by rw [upM_q (by omega)]; exact hL'.2.2.2 i x y⟩
        have g3 : upM σ b 8 ((v + 1 : Nat) : Int) (b + 3) = σ0 (b + 3) := by rw [upM_q (by omega), e3]
        have f7 : upM σ b 8 ((v + 1 : Nat) : Int) b 7 = kind := by rw [upM_j (by decide), e0, h7]
        have eal : ∀ t, allo N w c a kind t = rowG w (yK kind) N t := fun t => by unfold allo; rw [if_neg (by omega), if_neg (by omega)]; rfl
        by_cases hN : 0 < N
        · refine giveNext_s hb hW hN hrow hL2 f7 (fun i x y => by rw [g3, ← e3]; exact hbd i x y) ?_
          rw [g3]
          have ep : pick w (σ0 (b + 3)) (yK kind) N = pick w (rowG w (yK kind) N v) (yK kind) N := pick_congr (fun i x y => ⟨rfl, by rw [hg i x y, eal]⟩)
          have hp := pick_in (w := w) (g := rowG w (yK kind) N v) (y := yK kind) hN
          rw [ep]
          refine hQ _ ?_ ?_ ?_ ?_ ?_ ?_
          · intro q hq; rw [upM_q (by omega), upM_q (by omega)]; exact hF q (by omega)
          · exact ⟨by rw [upM_q (by omega)]; exact hL2.1, by rw [upM_q (by omega)]; exact hL2.2.1, by rw [upM_q (by omega)]; exact hL2.2.2.1, fun i x y => by rw [upM_q (by omega)]; exact hL2.2.2.2 i x y⟩
          · rw [upM_q (by omega)]; exact f7
          · rw [upM_q (by omega), upM_s]
          · intro i x y
            rw [eal]
            show _ = bump (rowG w (yK kind) N v) (pick w (rowG w (yK kind) N v) (yK kind) N) i
            generalize pick w (rowG w (yK kind) N v) (yK kind) N = p at hp ⊢
            by_cases hi : i = p
            · subst hi; rw [upM_s, hg i x y, eal]; unfold bump; rw [if_pos rfl]
            · rw [upM_j hi, g3, hg i x y, eal]; unfold bump; rw [if_neg hi]
          · intro i x y
            rw [upM_q (by omega), upM_q (by omega)]
            exact hr i x (by omega)
        · refine giveNext_0 hb (by rw [hL2.1]; omega) (hQ _ ?_ hL2 f7 upM_s (fun i x y => by omega) (fun i x y => by omega))
          intro q hq; rw [upM_q (by omega)]; exact hF q (by omega)
      refine X2_grow_2 hb ⟨fun _ => ⟨fun h => ?_, fun h => ⟨fun h' => ?_, fun h' => ?_⟩⟩, fun h => by rw [e0, hL.1] at h; omega⟩
      · rw [e0, h7] at h
        exact ⟨by rw [e0, h8]; exact ⟨by omega, by omega⟩, hnext (Or.inl h)⟩
      · rw [e0, h7] at h h' ⊢
        rw [h8]
        refine ⟨⟨by omega, by omega⟩, part_s hb hW hk (v := v + 1) (by omega) hL' (fun σ' hF' g7 g8 g3 => ?_)⟩
        refine hQ σ' ?_ (hL'.fp hF') g7 g8 g3 ?_
        · intro q hq; rw [hF'.1 q (by omega) (by omega) (by omega)]; exact hF q (by omega)
        · intro i x y; rw [hF'.1 (b + 4) (by omega) (by omega) (by omega)]; exact hr i x (by omega)
      · rw [e0, h7] at h'
        exact ⟨by rw [e0, h8]; exact ⟨by omega, by omega⟩, hnext (Or.inr h')⟩
    | succ m ih =>
      intro k σ hk' hF hr
      have e0 : σ b = σ0 b := hF b (by omega)
      have e3 : σ (b + 3) = σ0 (b + 3) := hF (b + 3) (by omega)
      refine X2_grow_2 hb ⟨fun h => by rw [e0, hL.1] at h; omega, fun h => ⟨by omega, by omega, by omega, by omega, ⟨by omega, by omega⟩, ?_⟩⟩
      rw [e3, hg k (by omega) (by omega)]
      have := ih (k + 1) (upM σ (b + 4) k (allo N w c a kind v k)) (by omega) (fun q hq => by rw [upM_q hq]; exact hF q hq) (fun i x y => ?_)
      · simpa using this
      · by_cases hi : i = k
        · rw [hi, upM_s]
        · rw [upM_j hi]; exact hr i x (by omega)
  refine X2_grow_E hb ?_
  exact key N 0 σ0 (by omega) (fun _ _ => rfl) (fun i x y => by omega)
end GIVE2
