/-! ===== the class's Parting: what its methods do ===== -/
theorem upM_s {σ : Mem} {q : Nat} {j x : Int} : upM σ q j x q j = x := if_pos ⟨rfl, rfl⟩
theorem upM_q {σ : Mem} {q q' : Nat} {j x : Int} (h : q' ≠ q) : upM σ q j x q' = σ q' := funext fun _ => if_neg (fun z => h z.1)
theorem upM_j {σ : Mem} {q : Nat} {j j' x : Int} (h : j' ≠ j) : upM σ q j x q j' = σ q j' := if_neg (fun z => h z.2)
theorem mulbd {x y X Y : Int} (hx0 : 0 ≤ x) (hx : x ≤ X) (hy0 : 0 ≤ y) (hy : y ≤ Y) : 0 ≤ x * y ∧ x * y ≤ X * Y := ⟨Int.mul_nonneg hx0 hy0, Int.mul_le_mul hx hy hy0 (Int.le_trans hx0 hx)⟩
theorem within_s {x l h : Int} {σ : Mem} {Q : Int → Mem → Prop} (hQ : Q (if l ≤ x ∧ x ≤ h then 1 else 0) σ) : CI layC MX7_within [vI x, vI l, vI h] σ Q := by
  refine X7_within_E ⟨fun a => ?_, fun a => ⟨fun c => ?_, fun c => ?_⟩⟩
  · rwa [if_neg (by omega)] at hQ
  · rwa [if_neg (by omega)] at hQ
  · rwa [if_pos ⟨a, c⟩] at hQ
theorem quot_s {a c : Int} {σ : Mem} {Q : Int → Mem → Prop} (hc : 0 < c) (ha : 0 ≤ a) (hb : a ≤ 9223372036854775807) (hQ : Q (a / c) σ) : CJ layC MX7_quotient [vJ a, vJ c] σ Q := by
  refine X7_quotient_E ⟨fun h => by omega, fun _ => ⟨by omega, ?_, ?_⟩⟩
  · rw [Int.tdiv_eq_ediv_of_nonneg ha]
    have h1 := Int.ediv_nonneg ha (Int.le_of_lt hc)
    have h2 := Int.ediv_le_self c ha
    exact ⟨by omega, by omega⟩
  · rw [Int.tdiv_eq_ediv_of_nonneg ha]; exact hQ
theorem remd_s {a c : Int} {σ : Mem} {Q : Int → Mem → Prop} (hc : 0 < c) (ha : 0 ≤ a) (hQ : Q (a % c) σ) : CJ layC MX7_remainder [vJ a, vJ c] σ Q := by
  refine X7_remainder_E ⟨fun h => by omega, fun _ => ⟨by omega, ?_⟩⟩
  rw [Int.tmod_eq_emod_of_nonneg ha]; exact hQ
/-- loaded with these weights -/
def PL (σ : Mem) (b : Nat) (N : Nat) (w : Int → Int) (c a : Int) : Prop := σ b 6 = N ∧ σ b 0 = c ∧ σ b 1 = a ∧ ∀ i : Int, 0 ≤ i → i < N → σ (b + 1) i = w i
def okW (N : Nat) (w : Int → Int) (c a : Int) : Prop := N ≤ 5 ∧ (1 ≤ c ∧ c ≤ 9509900499) ∧ (∀ i : Int, 0 ≤ i → i < N → 1 ≤ w i ∧ w i ≤ 85589104491) ∧ a = sumF w N ∧ (0 ≤ a ∧ a ≤ 427945522455) ∧ (0 < N → 1 ≤ a) ∧ (∀ i : Int, 0 ≤ i → i < N → w i ≤ a)
theorem okW_of {N : Nat} {u d : Int → Int} (h : okP N u d) : okW N (wtD u d N) (cmD d N) (alD u d N) :=
  ⟨h.1, cm_bd h, fun _ a b => wt_bd h a b, rfl, ⟨(al_bd h).1, (al_bd h).2.1⟩, (al_bd h).2.2, fun _ a b => wt_le_al h a b⟩
/-- only the cells b to b + 4 differ -/
def Fr (b : Nat) (σ σ' : Mem) : Prop := ∀ q, q < b ∨ b + 4 < q → σ' q = σ q
theorem Fr.rf {b : Nat} {σ : Mem} : Fr b σ σ := fun _ _ => rfl
theorem Fr.up {b q : Nat} {σ σ' : Mem} {j x : Int} (h : Fr b σ σ') (hq : b ≤ q ∧ q ≤ b + 4) : Fr b σ (upM σ' q j x) := fun q' hq' => by rw [upM_q (by omega)]; exact h q' hq'
theorem Fr.trans {b : Nat} {σ σ' σ'' : Mem} (h : Fr b σ σ') (h2 : Fr b σ' σ'') : Fr b σ σ'' := fun q hq => (h2 q hq).trans (h q hq)
section LOAD
variable {b e N : Nat} {u d : Int → Int} {σ0 : Mem} {Q : Mem → Prop}
theorem load_52 (hb : isPt b) (he : isE e) (hne : e + 4 < b ∨ b + 4 < e) (hok : okP N u d) (hu : σ0 (e + 1) = u) (hd : σ0 (e + 2) = d)
    (hQ : ∀ σ', Fr b σ0 σ' → PL σ' b N (wtD u d N) (cmD d N) (alD u d N) → Q σ') : ∀ (m k : Nat) (σ : Mem), k + m = N → Fr b σ0 σ → σ b 6 = N → σ b 0 = cmD d N → σ b 1 = sumF (wtD u d N) k → (∀ i : Int, 0 ≤ i → i < k → σ (b + 1) i = wtD u d N i) → LX2_load_52 b e k σ Q := by
  have h5 := hok.1
  intro m
  induction m with
  | zero =>
    intro k σ hk hF h6 h0 h1 hw
    refine X2_load_52 hb he ⟨fun _ => hQ σ hF ⟨h6, h0, ?_, ?_⟩, fun h => ?_⟩
    · rw [h1, show k = N by omega]; rfl
    · intro i a c; exact hw i a (by omega)
    · rw [h6] at h; omega
  | succ m ih =>
    intro k σ hk hF h6 h0 h1 hw
    refine X2_load_52 hb he ⟨fun h => ?_, fun h => ?_⟩
    · rw [h6] at h; omega
    · have eu : σ (e + 1) = u := by rw [hF (e + 1) (by omega), hu]
      have ed : σ (e + 2) = d := by rw [hF (e + 2) (by omega), hd]
      obtain ⟨⟨a1, a2⟩, a3, a4⟩ := hok.2 k (by omega) (by omega)
      have hc := cm_bd hok
      have hwk := wt_bd hok (i := k) (by omega) (by omega)
      refine ⟨by omega, by omega, ?_⟩
      rw [h0, ed]
      refine quot_s (by omega) (by omega) (by omega) ?_
      have ew : cmD d N / d k * u k = wtD u d N k := rfl
      have hs0 : 0 ≤ sumF (wtD u d N) k := sumF_nonneg (fun i x y => by have := (wt_bd hok x (show i < (N : Int) by omega)).1; omega)
      have hs1 := sumF_bd (f := wtD u d N) (B := 85589104491) (n := k) (fun i x y => (wt_bd hok x (show i < (N : Int) by omega)).2)
      rw [eu, ew]
      have e1 : upM σ (b + 1) k (wtD u d N k) b 1 = sumF (wtD u d N) k := by rw [upM_q (by omega), h1]
      have e2 : upM σ (b + 1) k (wtD u d N k) (b + 1) k = wtD u d N k := upM_s
      rw [e1, e2]
      refine ⟨by omega, by omega, ⟨by omega, by omega⟩, by omega, by omega, by omega, by omega, ⟨by omega, by omega⟩, ⟨by omega, by omega⟩, ?_⟩
      have := ih (k + 1) (upM (upM σ (b + 1) k (wtD u d N k)) b 1 (sumF (wtD u d N) k + wtD u d N k)) (by omega) ((hF.up (by omega)).up (by omega)) ?_ ?_ ?_ ?_
      · simpa using this
      · rw [upM_j (by decide), upM_q (by omega), h6]
      · rw [upM_j (by decide), upM_q (by omega), h0]
      · rw [upM_s]; rfl
      · intro i x y
        rw [upM_q (by omega)]
        by_cases hi : i = k
        · rw [hi, upM_s]
        · rw [upM_j hi]; exact hw i x (by omega)
theorem load_20 (hb : isPt b) (he : isE e) (hne : e + 4 < b ∨ b + 4 < e) (hok : okP N u d) (hd : σ0 (e + 2) = d)
    (hQ : ∀ σ', Fr b σ0 σ' → σ' b 6 = N → σ' b 1 = 0 → σ' b 0 = cmD d N → LX2_load_52 b e 0 σ' Q) : ∀ (m k : Nat) (σ : Mem), k + m = N → Fr b σ0 σ → σ b 6 = N → σ b 1 = 0 → σ b 0 = prodF d k → LX2_load_20 b e k σ Q := by
  have h5 := hok.1
  intro m
  induction m with
  | zero =>
    intro k σ hk hF h6 h1 h0
    refine X2_load_20 hb he ⟨fun _ => hQ σ hF h6 h1 (by rw [h0, show k = N by omega]; rfl), fun h => ?_⟩
    rw [h6] at h; omega
  | succ m ih =>
    intro k σ hk hF h6 h1 h0
    refine X2_load_20 hb he ⟨fun h => ?_, fun h => ?_⟩
    · rw [h6] at h; omega
    · have ed : σ (e + 2) = d := by rw [hF (e + 2) (by omega), hd]
      have hp := prodF_bd (d := d) (k := k + 1) (fun i x y => (hok.2 i x (by omega)).2)
      have hp2 := pow99 (k := k + 1) (by omega)
      have ep : prodF d (k + 1) = prodF d k * d k := rfl
      rw [h0, ed, ← ep]
      refine ⟨by omega, by omega, ⟨by omega, by omega⟩, ⟨by omega, by omega⟩, ?_⟩
      have := ih (k + 1) (upM σ b 0 (prodF d (k + 1))) (by omega) (hF.up (by omega)) ?_ ?_ upM_s
      · simpa using this
      · rw [upM_j (by decide), h6]
      · rw [upM_j (by decide), h1]
theorem load_s (hb : isPt b) (he : isE e) (hne : e + 4 < b ∨ b + 4 < e) (hN : σ0 e 2 = N) (hok : okP N (σ0 (e + 1)) (σ0 (e + 2)))
    (hQ : ∀ σ', Fr b σ0 σ' → PL σ' b N (wtD (σ0 (e + 1)) (σ0 (e + 2)) N) (cmD (σ0 (e + 2)) N) (alD (σ0 (e + 1)) (σ0 (e + 2)) N) → Q σ') : CV layC MX2_load [vP b, vP e] σ0 Q := by
  refine X2_load_E hb he ?_
  have := load_20 (Q := Q) hb he hne hok rfl (fun σ' hF h6 h1 h0 => ?_) N 0 (upM (upM (upM σ0 b 6 (σ0 e 2)) b 0 1) b 1 0) (by omega) (((Fr.rf.up (by omega)).up (by omega)).up (by omega)) ?_ upM_s ?_
  · exact this
  · exact load_52 hb he hne hok rfl rfl hQ N 0 σ' (by omega) hF h6 h0 (by rw [h1]; rfl) (fun i x y => by omega)
  · rw [upM_j (by decide), upM_j (by decide), upM_s, hN]
  · rw [upM_j (by decide), upM_s]; rfl
end LOAD
