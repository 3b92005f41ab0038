/-! ===== what judges give, asked on both sides ===== -/
section ONE
variable {u d : Int → Int} {N : Nat} {τ : Mem}
theorem misOff_s (hok : okP N u d) (hL : ML τ N u d) {v : Int} (hv : 0 ≤ v ∧ v ≤ 2000) {i : Int} (h0 : 0 ≤ i) (h1 : i < N) (hg : 0 ≤ τ 7 i ∧ τ 7 i ≤ 3000) {Q : Int → Mem → Prop} (hQ : Q (if offB (wtD u d N) (alD u d N) (τ 7) v i then 1 else 0) τ) : CI layM MX8_isOff [vP 0, vI i, vI v] τ Q := by
  have hW := okW_of hok
  have h5 := hok.1
  have hvw := mulbd hv.1 hv.2 (show 0 ≤ wtD u d N i by have := (hW.2.2.1 i h0 h1).1; omega) (hW.2.2.1 i h0 h1).2
  have hga := mulbd hg.1 hg.2 hW.2.2.2.2.1.1 hW.2.2.2.2.1.2
  have ha := hW.2.2.2.2.1
  refine X8_isOff_E ?_
  rw [hL.2.2.2.1, hL.2.2.2.2 i h0 h1]
  refine ⟨h0, by omega, ⟨by omega, by omega⟩, h0, by omega, ⟨by omega, by omega⟩, ⟨by omega, by omega⟩, fun z => ?_, fun z => ⟨⟨by omega, by omega⟩, fun z2 => ?_, fun z2 => ?_⟩⟩
  · rwa [if_pos (by unfold offB absI; apply decide_eq_true; split <;> omega)] at hQ
  · rwa [if_neg (by unfold offB absI; simp only [decide_eq_true_eq]; split <;> omega)] at hQ
  · rwa [if_pos (by unfold offB absI; apply decide_eq_true; split <;> omega)] at hQ
theorem mfirstOff_s (hok : okP N u d) (hL : ML τ N u d) {v : Int} (hv : 0 ≤ v ∧ v ≤ 2000) (hg : ∀ i : Int, 0 ≤ i → i < N → 0 ≤ τ 7 i ∧ τ 7 i ≤ 3000) {Q : Int → Mem → Prop} (hQ : Q (fstB (offB (wtD u d N) (alD u d N) (τ 7) v) (-4) N) τ) : CI layM MX8_firstOff [vP 0, vI v] τ Q := by
  have h5 := hok.1
  have key : ∀ (m k : Nat), k + m = N → Q (fstFrom (offB (wtD u d N) (alD u d N) (τ 7) v) (-4) k m) τ → LX8_firstOff_2 v k τ Q := by
    intro m
    induction m with
    | zero => intro k hk hq; exact X8_firstOff_2 ⟨fun _ => hq, fun h => by rw [hL.1] at h; omega⟩
    | succ m ih =>
      intro k hk hq
      refine X8_firstOff_2 ⟨fun h => by rw [hL.1] at h; omega, fun _ => misOff_s hok hL hv (by omega) (by omega) (hg k (by omega) (by omega)) ?_⟩
      unfold fstFrom at hq
      cases ho : offB (wtD u d N) (alD u d N) (τ 7) v k with
      | false =>
        rw [ho] at hq
        have := ih (k + 1) (by omega) hq
        refine ⟨fun _ => ⟨⟨by omega, by omega⟩, by simpa using this⟩, fun h => absurd rfl h⟩
      | true =>
        rw [ho] at hq
        exact ⟨fun h => by simp at h, fun _ => hq⟩
  exact X8_firstOff_E (key N 0 (by omega) hQ)
theorem allGot_s (h5 : N ≤ 5) (hN : τ 2 1 = N) (hg : ∀ i : Int, 0 ≤ i → i < N → 0 ≤ τ 7 i ∧ τ 7 i ≤ 3000) {Q : Int → Mem → Prop} (hQ : Q (sumF (τ 7) N) τ) : CI layM MX8_allGot [vP 0] τ Q := by
  have key : ∀ (m k : Nat), k + m = N → LX8_allGot_4 (sumF (τ 7) k) k τ Q := by
    intro m
    induction m with
    | zero => intro k hk; rw [show N = k by omega] at hQ; exact X8_allGot_4 ⟨fun _ => hQ, fun h => by omega⟩
    | succ m ih =>
      intro k hk
      have b1 : 0 ≤ sumF (τ 7) k := sumF_nonneg (fun j a b => (hg j a (by omega)).1)
      have b2 : sumF (τ 7) k ≤ k * 3000 := sumF_bd (fun j a b => (hg j a (by omega)).2)
      have b3 := hg k (by omega) (by omega)
      refine X8_allGot_4 ⟨fun h => by omega, fun _ => ⟨by omega, by omega, ⟨by omega, by omega⟩, ⟨by omega, by omega⟩, ?_⟩⟩
      have := ih (k + 1) (by omega)
      simpa [sumF] using this
  exact X8_allGot_E (by simpa [sumF] using key N 0 (by omega))
theorem seenP_congr {g g' sh sc : Int → Int} {S : Nat} (hsh : ∀ k : Int, 0 ≤ k → k < S → 0 ≤ sh k) (hg : ∀ i : Int, 0 ≤ i → i < N → g i = g' i) : allF (seenP N g sh sc) S = allF (seenP N g' sh sc) S := by
  refine allF_congr (fun k a b => ?_)
  unfold seenP
  rcases ltge (sh k) N with z | z
  · rw [hg (sh k) (hsh k a b) z]
  · rw [decide_eq_false (by omega), decide_eq_false (by omega)]
theorem isSo_s {S : Nat} {sh sc : Int → Int} (h5 : N ≤ 5) (hN : τ 2 1 = N) (hS6 : S ≤ 6) (hS : τ 1 13 = S) (hd : ∀ k : Int, 0 ≤ k → k < S → (τ 1 (14 + 2 * k) = sh k ∧ τ 1 (14 + 2 * k + 1) = sc k) ∧ 0 ≤ sh k) {Q : Int → Mem → Prop} (hQ : Q (if allF (seenP N (τ 7) sh sc) S then 1 else 0) τ) : CI layM MX8_isSo [vP 0] τ Q := by
  have key : ∀ (m k : Nat), k + m = S → LX8_isSo_4 (if allF (seenP N (τ 7) sh sc) k then 1 else 0) k τ Q := by
    intro m
    induction m with
    | zero =>
      intro k hk
      rw [show S = k by omega] at hQ
      exact X8_isSo_4 ⟨fun _ => ⟨by split <;> omega, hQ⟩, fun h => by omega⟩
    | succ m ih =>
      intro k hk
      refine X8_isSo_4 ⟨fun h => by omega, fun _ => ?_⟩
      obtain ⟨⟨e1, e2⟩, e3⟩ := hd k (by omega) (by omega)
      rw [e1, e2, hN]
      have nx : ∀ (x : Int), x = (if allF (seenP N (τ 7) sh sc) (k + 1) then 1 else 0) → I32 ((k : Int) + 1) ∧ LX8_isSo_4 x ((k : Int) + 1) τ Q := by
        intro x hx
        refine ⟨⟨by omega, by omega⟩, ?_⟩
        have := ih (k + 1) (by omega)
        rw [← hx] at this
        simpa using this
      refine ⟨⟨by omega, by omega⟩, ⟨by omega, by omega⟩, by omega, by omega, fun z => nx 0 ?_, fun z => ⟨fun z2 => nx 0 ?_, fun z2 => ⟨e3, by omega, ⟨by omega, by omega⟩, ⟨by omega, by omega⟩, ⟨by omega, by omega⟩, by omega, by omega, fun z3 => nx 0 ?_, fun z3 => nx 1 ?_⟩⟩⟩
      · cases e : allF (seenP N (τ 7) sh sc) k with
        | false => unfold allF; rw [e]; rfl
        | true => rw [e] at z; exact absurd z (by decide)
      · rw [show allF (seenP N (τ 7) sh sc) (k + 1) = false from allF_no (i := k) (by omega) (by omega) (decide_eq_false (by omega))]; rfl
      · rw [show allF (seenP N (τ 7) sh sc) (k + 1) = false from allF_no (i := k) (by omega) (by omega) (decide_eq_false (fun y => z3 y.2))]; rfl
      · have : seenP N (τ 7) sh sc k = true := decide_eq_true ⟨z2, z3⟩
        cases e : allF (seenP N (τ 7) sh sc) k with
        | false => rw [e] at z; exact absurd rfl z
        | true => unfold allF; rw [e, this]; rfl
  exact X8_isSo_E (key S 0 (by omega))
end ONE
/-- the parting at b stands by kind K at v camels, by the estate's parts -/
def PG (σs : Mem) (b N : Nat) (K : Int) (v : Nat) (σ : Mem) : Prop := PL σ b N (wtD (σs 2) (σs 3) N) (cmD (σs 3) N) (alD (σs 2) (σs 3) N) ∧ σ b 7 = K ∧ σ b 8 = v ∧ ∀ i : Int, 0 ≤ i → i < N → σ (b + 3) i = GE σs N K v i
/-- the reference has begun -/
def MS (σs τs : Mem) (N : Nat) (τ : Mem) : Prop := KM τs τ ∧ (∀ k : Int, 0 ≤ k → k < 26 → τ 2 k = τs 1 k) ∧ ML τ N (σs 2) (σs 3)
theorem Fr.kc31 {σ σ' : Mem} (h : Fr 31 σ σ') : KC σ σ' := ⟨fun q a => h q (by omega), by rw [h 0 (by omega)], by rw [h 36 (by omega)], by rw [h 37 (by omega)]⟩
theorem PG.keep {σs σ σ' : Mem} {b N : Nat} {K : Int} {v : Nat} (h : PG σs b N K v σ) (hk : ∀ q, b ≤ q → q ≤ b + 3 → σ' q = σ q) : PG σs b N K v σ' := by
  obtain ⟨⟨a1, a2, a3, a4⟩, b1, b2, b3⟩ := h
  have e0 := hk b (by omega) (by omega)
  have e1 := hk (b + 1) (by omega) (by omega)
  have e3 := hk (b + 3) (by omega) (by omega)
  exact ⟨⟨by rw [e0]; exact a1, by rw [e0]; exact a2, by rw [e0]; exact a3, by rw [e1]; exact a4⟩, by rw [e0]; exact b1, by rw [e0]; exact b2, by rw [e3]; exact b3⟩
section BOTH
variable {V N S : Nat} {K : Int} {σs τs σ τ : Mem} {f : Int → Int}
theorem pgOf_s (h : rE σs 1 f V N S K) {v : Nat} (hv : v ≤ 2000) {x : Int} (hx : x = v) {Q : Nat → Mem → Prop} (hQ : ∀ σ', KC σs σ' → PG σs 26 N K v σ' → Q 26 σ') : CP layC MX7_partOf [vP 0, vI x] σs Q := by
  subst hx
  exact partOf_s h hv (fun σ' hF hL h7 h8 hg => hQ σ' hF.kc ⟨hL, h7, h8, hg⟩)
theorem pgNow_s (h : rE σs 1 f V N S K) {Q : Nat → Mem → Prop} (hQ : ∀ σ', KC σs σ' → PG σs 26 N K V σ' → Q 26 σ') : CP layC MX7_partNow [vP 0] σs Q :=
  partNow_s h (fun σ' hF hL h7 h8 hg => hQ σ' hF.kc ⟨hL, h7, h8, hg⟩)
theorem pgPart_s (h : rE σs 1 f V N S K) {b : Nat} (hb : isPt b) (hL : PL σ b N (wtD (σs 2) (σs 3) N) (cmD (σs 3) N) (alD (σs 2) (σs 3) N)) {kind : Int} (hk : 0 ≤ kind ∧ kind ≤ 3) {v : Nat} (hv : v ≤ 2000) {x : Int} (hx : x = v) {Q : Mem → Prop} (hQ : ∀ σ', Fr b σ σ' → PG σs b N kind v σ' → Q σ') : CV layC MX2_part [vP b, vI kind, vI x] σ Q := by
  subst hx
  exact part_s hb (okW_of h.2.2.1.2.2.1) hk hv hL (fun σ2 hF2 h7 h8 hg => hQ σ2 (fun q hq => hF2.1 q (by omega) (by omega) (by omega)) ⟨hL.fp hF2, h7, h8, hg⟩)
theorem pgGrow_s (h : rE σs 1 f V N S K) {b : Nat} (hb : isPt b) {kind : Int} (hk : 0 ≤ kind ∧ kind ≤ 3) {v : Nat} (hv : v + 1 ≤ 2000) (hP : PG σs b N kind v σ) {Q : Mem → Prop} (hQ : ∀ σ', Fr b σ σ' → PG σs b N kind (v + 1) σ' → (∀ i : Int, 0 ≤ i → i < N → σ' (b + 4) i = GE σs N kind v i) → Q σ') : CV layC MX2_grow [vP b] σ Q :=
  grow_s hb (okW_of h.2.2.1.2.2.1) hk hv hP.1 hP.2.1 hP.2.2.1 hP.2.2.2 (fun σ2 hF hL h7 h8 hg hb4 => hQ σ2 hF ⟨hL, h7, h8, hg⟩ hb4)
theorem pgBd (h : rE σs 1 f V N S K) {b : Nat} {kind : Int} {v : Nat} (hv : v ≤ 2000) (hP : PG σs b N kind v σ) : ∀ i : Int, 0 ≤ i → i < N → 0 ≤ σ (b + 3) i ∧ σ (b + 3) i ≤ 3000 := fun i a b2 => by
  have := GE_bd h kind v a b2
  rw [hP.2.2.2 i a b2]; omega
theorem msStart_s (h : rE σs 1 (τs 1) V N S K) {Q : Mem → Prop} (hQ : ∀ τ, MS σs τs N τ → Q τ) : CV layM MX8_starts [vP 0] τs Q :=
  starts1_s h (fun τ' hS hc hL => hQ τ' ⟨hS.km, hc, hL⟩)
theorem msGives_s (h : rE σs 1 (τs 1) V N S K) (hM : MS σs τs N τ) {v : Nat} (hv : v ≤ 2000) {x : Int} (hx : x = v) {kind : Int} (hk : 0 ≤ kind ∧ kind ≤ 3) {Q : Mem → Prop} (hQ : ∀ τ', Gg τ τ' → MS σs τs N τ' → (∀ i : Int, 0 ≤ i → i < N → τ' 7 i = GE σs N kind v i) → Q τ') : CV layM MX8_gives [vP 0, vI x, vI kind] τ Q := by
  subst hx
  exact gives_s h.2.2.1.2.2.1 hM.2.2 hv hk (fun τ' hG hg => hQ τ' hG ⟨hM.1.trans hG.sm.km, fun k a b => by rw [hG 2 (by decide) (by decide)]; exact hM.2.1 k a b, hM.2.2.gg hG⟩ hg)
theorem msNow_s (h : rE σs 1 (τs 1) V N S K) (hM : MS σs τs N τ) {Q : Mem → Prop} (hQ : ∀ τ', Gg τ τ' → MS σs τs N τ' → (∀ i : Int, 0 ≤ i → i < N → τ' 7 i = GE σs N K V i) → Q τ') : CV layM MX8_givesNow [vP 0] τ Q := by
  refine X8_givesNow_E ?_
  rw [hM.2.1 0 (by decide) (by decide), hM.2.1 2 (by decide) (by decide), h.2.1.2.2]
  exact msGives_s h hM (by have := h.1.1; omega) h.1.2.2 h.2.1.1 hQ
theorem msBd (h : rE σs 1 f V N S K) {kind : Int} {v : Nat} (hv : v ≤ 2000) (hg : ∀ i : Int, 0 ≤ i → i < N → τ 7 i = GE σs N kind v i) : ∀ i : Int, 0 ≤ i → i < N → 0 ≤ τ 7 i ∧ τ 7 i ≤ 3000 := fun i a b => by
  have := GE_bd h kind v a b
  rw [hg i a b]; omega
theorem msKind (h : rE σs 1 (τs 1) V N S K) (hM : MS σs τs N τ) : τ 2 2 = K := by rw [hM.2.1 2 (by decide) (by decide)]; exact h.2.1.2.2
theorem msMany (hM : MS σs τs N τ) : τ 2 1 = N := hM.2.2.1
/-- as seen, by what all get -/
abbrev soB (σs : Mem) (N S : Nat) (g : Int → Int) : Bool := allF (seenP N g (σs 4) (σs 5)) S
theorem asSeen_s (h : rE σs 1 f V N S K) {b : Nat} (hb : isPt b) (hC : KC σs σ) {g : Int → Int} (h6 : σ b 6 = N) (hg : ∀ i : Int, 0 ≤ i → i < N → σ (b + 3) i = g i) {Q : Int → Mem → Prop} (hQ : Q (if soB σs N S g then 1 else 0) σ) : CI layC MX2_isAsSeen [vP b, vP 1] σ Q := by
  refine isAsSeen_s hb isE_1 h.2.2.1.2.2.1.1 h6 (S := S) (by rw [hC.1 1 (by omega)]; exact h.2.2.2.2.1) h.2.2.2.1 (fun k a b => by rw [hC.1 4 (by omega)]; exact (h.2.2.2.2.2.2 k a b).2.1.1) ?_
  rw [hC.1 (1 + 3) (by omega), hC.1 (1 + 4) (by omega), seenP_congr (fun k a b => (h.2.2.2.2.2.2 k a b).2.1.1) hg]
  exact hQ
theorem msSo_s (h : rE σs 1 (τs 1) V N S K) (hM : KM τs τ) {g : Int → Int} (hN : τ 2 1 = N) (hg : ∀ i : Int, 0 ≤ i → i < N → τ 7 i = g i) {Q : Int → Mem → Prop} (hQ : Q (if soB σs N S g then 1 else 0) τ) : CI layM MX8_isSo [vP 0] τ Q := by
  have e := hM.1 1 (by omega)
  refine isSo_s (S := S) (sh := σs 4) (sc := σs 5) h.2.2.1.2.2.1.1 hN h.2.2.2.1 (by rw [e]; exact h.2.2.2.2.2.1) (fun k a b => by rw [e]; exact ⟨(h.2.2.2.2.2.2 k a b).1, (h.2.2.2.2.2.2 k a b).2.1.1⟩) ?_
  rw [seenP_congr (fun k a b => (h.2.2.2.2.2.2 k a b).2.1.1) hg]
  exact hQ
theorem T_rule (h : Rel σs τs) (x : Int) : TI MX7_rule MX8_rule [vI x] σs τs := by
  obtain ⟨V, N, S, K, hE⟩ := h.1
  have hV := hE.1.1
  have hok := hE.2.2.1.2.2.1
  refine TI_of h (F := if x = 0 then N else if x = 1 then V else if x = 2 then K else if x = 3 then (if alD (σs 2) (σs 3) N < cmD (σs 3) N then 0 else if alD (σs 2) (σs 3) N = cmD (σs 3) N then 1 else 2) else if x = 4 then sumF (GE σs N K V) N else -1) ?_ ?_
  · refine X7_rule_E ⟨fun e => ?_, fun e => ?_, fun e => ?_, fun e => ?_, fun e => ?_, fun e => ?_⟩
    · subst e; exact ⟨hE.2.2.1.1, KC.rf⟩
    · subst e; exact ⟨hE.1.2.1, KC.rf⟩
    · subst e; exact ⟨hE.2.1.2.1, KC.rf⟩
    · subst e
      refine load1_s hE (fun σ' hF hL => ?_)
      rw [hL.2.2.1, hL.2.1]
      refine J13_compare_74951_E ⟨fun z => ⟨fun z2 => ⟨⟨by decide, by decide⟩, ?_, hF.kc⟩, fun z2 => ⟨⟨by decide, by decide⟩, ?_, hF.kc⟩⟩, fun z => ⟨⟨by decide, by decide⟩, ?_, hF.kc⟩⟩
      · rw [if_neg (by decide), if_neg (by decide), if_neg (by decide), if_pos rfl, if_neg (by omega), if_neg z2]; rfl
      · rw [if_neg (by decide), if_neg (by decide), if_neg (by decide), if_pos rfl, if_neg (by omega), if_pos z2]; rfl
      · rw [if_neg (by decide), if_neg (by decide), if_neg (by decide), if_pos rfl, if_pos z]; rfl
    · subst e
      refine pgNow_s hE (fun σ' hK hP => ⟨rfl, given_s isPt_26 hok.1 hP.1.1 (pgBd hE (by omega) hP) ⟨?_, hK⟩⟩)
      rw [if_neg (by decide), if_neg (by decide), if_neg (by decide), if_neg (by decide), if_pos rfl]
      exact sumF_congr hP.2.2.2
    · refine ⟨?_, KC.rf⟩
      rw [if_neg (by omega), if_neg (by omega), if_neg (by omega), if_neg (by omega), if_neg (by omega)]
  · refine X8_rule_E (msStart_s hE (fun τ1 hM => msNow_s hE hM (fun τ2 hG hM2 hg => ?_)))
    have e1 := hM2.1.1 1 (by omega)
    rw [e1, hM2.2.2.2.2.1, hM2.2.2.2.2.2.1]
    refine ⟨fun e => ?_, fun e => ?_, fun e => ?_, fun e => ?_, fun e => ?_, fun e => ?_⟩
    · subst e; exact ⟨hE.2.2.1.2.1, hM2.1⟩
    · subst e; exact ⟨hE.1.2.2, hM2.1⟩
    · subst e; exact ⟨hE.2.1.2.2, hM2.1⟩
    · subst e
      refine ⟨fun z => ⟨fun z2 => ⟨?_, hM2.1⟩, fun z2 => ⟨?_, hM2.1⟩⟩, fun z => ⟨?_, hM2.1⟩⟩
      · rw [if_neg (by decide), if_neg (by decide), if_neg (by decide), if_pos rfl, if_neg (by omega), if_neg z2]
      · rw [if_neg (by decide), if_neg (by decide), if_neg (by decide), if_pos rfl, if_neg (by omega), if_pos z2]
      · rw [if_neg (by decide), if_neg (by decide), if_neg (by decide), if_pos rfl, if_pos z]
    · subst e
      refine allGot_s hok.1 (msMany hM2) (msBd hE (by omega) hg) ⟨?_, hM2.1⟩
      rw [if_neg (by decide), if_neg (by decide), if_neg (by decide), if_neg (by decide), if_pos rfl]
      exact sumF_congr hg
    · refine ⟨?_, hM2.1⟩
      rw [if_neg (by omega), if_neg (by omega), if_neg (by omega), if_neg (by omega), if_neg (by omega)]
theorem T_count (h : Rel σs τs) (x : Int) : TI MX7_count MX8_count [vI x] σs τs := by
  obtain ⟨V, N, S, K, hE⟩ := h.1
  have hV := hE.1.1
  have hok := hE.2.2.1.2.2.1
  have hi0 : (σs 44 0 = 0 ∧ τs 3 0 = 0) ∨ (σs 44 0 = 1 ∧ τs 3 0 = 1) := by rcases h.2.1.1 with a | ⟨a, b, _⟩; exact Or.inl a; exact Or.inr ⟨a, b⟩
  have hi1 : (σs 44 1 = 0 ∧ τs 3 1 = 0) ∨ (σs 44 1 = 1 ∧ τs 3 1 = 1) := by rcases h.2.1.2 with a | ⟨a, b, _⟩; exact Or.inl a; exact Or.inr ⟨a, b⟩
  have hsum : 0 ≤ sumF (GE σs N K V) N ∧ sumF (GE σs N K V) N ≤ N * V := ⟨sumF_nonneg (fun i a b => (GE_bd hE K V a b).1), sumF_bd (fun i a b => (GE_bd hE K V a b).2)⟩
  have hNV : (N : Int) * V ≤ 5 * 999 := Int.mul_le_mul (by have := hok.1; omega) (by omega) (by omega) (by omega)
  refine TI_of h (F := if x = 0 then S else if x = 1 then τs 3 0 + τs 3 1 else if x = 2 then τs 0 7 else if x = 3 then (if τs 13 0 = -4 then -4 else τs 14 0) else if x = 4 then V - sumF (GE σs N K V) N else -1) ?_ ?_
  · refine X7_count_E ⟨fun e => ?_, fun e => ?_, fun e => ?_, fun e => ?_, fun e => ?_, fun e => ?_⟩
    · subst e; exact ⟨hE.2.2.2.2.1, KC.rf⟩
    · subst e
      rw [if_neg (by decide), if_pos rfl]
      refine ⟨fun a => ⟨fun b => ⟨⟨by decide, by decide⟩, ?_, KC.rf⟩, fun b => ⟨⟨by decide, by decide⟩, ?_, KC.rf⟩⟩, fun a => ⟨fun b => ⟨⟨by decide, by decide⟩, ?_, KC.rf⟩, fun b => ⟨⟨by decide, by decide⟩, ?_, KC.rf⟩⟩⟩ <;> omega
    · subst e
      obtain ⟨T, hT, h37, h7, ht⟩ := h.2.2.1
      exact ⟨by rw [if_neg (by decide), if_neg (by decide), if_pos rfl, h37, h7], KC.rf⟩
    · subst e
      rw [if_neg (by decide), if_neg (by decide), if_neg (by decide), if_pos rfl]
      rcases h.2.2.2.2.2.1 with ⟨a, b⟩ | ⟨n, a, b, c, e, g, _⟩
      · rw [show (47 + 2 * 0) = 47 from rfl] at a
        rw [show ((0 : Nat) : Int) = 0 from rfl] at b
        exact ⟨fun z => by omega, fun z => ⟨by rw [if_pos b], KC.rf⟩⟩
      · rw [show (47 + 2 * 0) = 47 from rfl] at b e
        rw [show ((0 : Nat) : Int) = 0 from rfl] at c e g
        exact ⟨fun z => ⟨by rw [if_neg (by omega), b, c], KC.rf⟩, fun z => by omega⟩
    · subst e
      refine pgNow_s hE (fun σ' hK hP => ⟨rfl, given_s isPt_26 hok.1 hP.1.1 (pgBd hE (by omega) hP) ?_⟩)
      rw [if_neg (by decide), if_neg (by decide), if_neg (by decide), if_neg (by decide), if_pos rfl, show sumF (σ' (26 + 3)) N = sumF (GE σs N K V) N from sumF_congr hP.2.2.2, hE.1.2.1]
      exact ⟨⟨by omega, by omega⟩, rfl, hK⟩
    · refine ⟨?_, KC.rf⟩
      rw [if_neg (by omega), if_neg (by omega), if_neg (by omega), if_neg (by omega), if_neg (by omega)]
  · refine X8_count_E (msStart_s hE (fun τ1 hM => msNow_s hE hM (fun τ2 hG hM2 hg => ?_)))
    have e1 := hM2.1.1 1 (by omega)
    have e3 := hM2.1.1 3 (by omega)
    have e13 := hM2.1.1 13 (by omega)
    have e14 := hM2.1.1 14 (by omega)
    rw [e1, e3, e13, e14, hM2.1.2.1]
    refine ⟨fun e => ?_, fun e => ?_, fun e => ?_, fun e => ?_, fun e => ?_, fun e => ?_⟩
    · subst e; exact ⟨hE.2.2.2.2.2.1, hM2.1⟩
    · subst e
      refine flag_s (flag_s ?_)
      rw [e3, if_neg (show ¬ (1 : Int) = 0 by decide), if_pos (show (1 : Int) = 1 from rfl)]
      rcases hi0 with a | a <;> rcases hi1 with b | b <;> rw [a.2, b.2] <;> exact ⟨⟨by decide, by decide⟩, by decide, hM2.1⟩
    · subst e; exact ⟨by rw [if_neg (by decide), if_neg (by decide), if_pos rfl], hM2.1⟩
    · subst e
      exact ⟨fun z => ⟨by rw [if_neg (by decide), if_neg (by decide), if_neg (by decide), if_pos rfl, if_neg z], hM2.1⟩, fun z => ⟨by rw [if_neg (by decide), if_neg (by decide), if_neg (by decide), if_pos rfl, if_pos z], hM2.1⟩⟩
    · subst e
      refine allGot_s hok.1 (msMany hM2) (msBd hE (by omega) hg) ?_
      rw [if_neg (by decide), if_neg (by decide), if_neg (by decide), if_neg (by decide), if_pos rfl, show sumF (τ2 7) N = sumF (GE σs N K V) N from sumF_congr hg, hE.1.2.2]
      exact ⟨⟨by omega, by omega⟩, rfl, hM2.1⟩
    · refine ⟨?_, hM2.1⟩
      rw [if_neg (by omega), if_neg (by omega), if_neg (by omega), if_neg (by omega), if_neg (by omega)]
theorem offB_congr {w g g' : Int → Int} {a v i : Int} (h : g i = g' i) : offB w a g v i = offB w a g' v i := by unfold offB; rw [h]
theorem T_heir (h : Rel σs τs) (x y : Int) : TI MX7_heir MX8_heir [vI x, vI y] σs τs := by
  obtain ⟨V, N, S, K, hE⟩ := h.1
  have hV := hE.1.1
  have hok := hE.2.2.1.2.2.1
  have h5 := hok.1
  by_cases hx : 0 ≤ x ∧ x < N
  · refine TI_of h (F := if y = 0 then σs 2 x else if y = 1 then σs 3 x else if y = 2 then GE σs N K V x else if y = 3 then (if offB (wtD (σs 2) (σs 3) N) (alD (σs 2) (σs 3) N) (GE σs N K V) V x then 1 else 0) else -1) ?_ ?_
    · refine X7_heir_E (has_s isE_1 hE.2.2.1.1 (gT (fun _ => ⟨fun e => ?_, fun e => ?_, fun e => ?_, fun e => ?_, fun e => ?_⟩) (fun z => absurd hx z)))
      · subst e; exact ⟨hx.1, by omega, rfl, KC.rf⟩
      · subst e; exact ⟨hx.1, by omega, rfl, KC.rf⟩
      · subst e
        refine pgNow_s hE (fun σ' hK hP => ⟨rfl, got_s isPt_26 h5 hP.1.1 hx.1 hx.2 ⟨hP.2.2.2 x hx.1 hx.2, hK⟩⟩)
      · subst e
        refine pgNow_s hE (fun σ' hK hP => ⟨rfl, isOff_s isPt_26 (okW_of hok) hP.1 (v := V) (by omega) hP.2.2.1 (pgBd hE (by omega) hP) hx.1 hx.2 ?_⟩)
        rw [offB_congr (hP.2.2.2 x hx.1 hx.2)]
        refine gF (fun z => ⟨?_, hK⟩) (fun z => ⟨?_, hK⟩)
        · rw [if_neg (by decide), if_neg (by decide), if_neg (by decide), if_pos rfl, if_pos z]
        · rw [if_neg (by decide), if_neg (by decide), if_neg (by decide), if_pos rfl, if_neg z]
      · refine ⟨?_, KC.rf⟩
        rw [if_neg (by omega), if_neg (by omega), if_neg (by omega), if_neg (by omega)]
    · refine X8_heir_E (isHeir_s hE.2.2.1.2.1 h5 (gF (fun _ => in_s (gT (fun hy => msStart_s hE (fun τ1 hM => msNow_s hE hM (fun τ2 hG hM2 hg => ?_))) (fun hy => ⟨?_, KM.rf⟩))) (fun z => absurd hx z)))
      · rw [hM2.1.1 1 (by omega)]
        refine ⟨fun y2 => ⟨fun y3 => ?_, fun e => ?_⟩, fun y2 => ?_⟩
        · have e : y = 3 := by omega
          subst e
          rw [hE.1.2.2]
          refine misOff_s hok hM2.2.2 (v := V) ⟨by omega, by omega⟩ hx.1 hx.2 (msBd hE (by omega) hg x hx.1 hx.2) (flag_s ⟨?_, hM2.1⟩)
          rw [offB_congr (hg x hx.1 hx.2), if_neg (show ¬ (3 : Int) = 0 by decide), if_neg (show ¬ (3 : Int) = 1 by decide), if_neg (show ¬ (3 : Int) = 2 by decide), if_pos (show (3 : Int) = 3 from rfl)]
          cases offB (wtD (σs 2) (σs 3) N) (alD (σs 2) (σs 3) N) (GE σs N K V) V x <;> rfl
        · subst e; exact ⟨hx.1, by omega, hg x hx.1 hx.2, hM2.1⟩
        · refine ⟨⟨by omega, by omega⟩, ⟨by omega, by omega⟩, ⟨by omega, by omega⟩, by omega, by omega, ?_, hM2.1⟩
          have e : y = 0 ∨ y = 1 := by omega
          rcases e with e | e
          · subst e; rw [Int.add_zero, if_pos rfl]; exact (hE.2.2.1.2.2.2 x hx.1 hx.2).1
          · subst e; rw [if_neg (by decide), if_pos rfl]; exact (hE.2.2.1.2.2.2 x hx.1 hx.2).2
      · rw [if_neg (by omega), if_neg (by omega), if_neg (by omega), if_neg (by omega)]
  · exact TI_of h (F := -1) (X7_heir_E (has_s isE_1 hE.2.2.1.1 (gT (fun z => absurd z hx) (fun _ => ⟨rfl, KC.rf⟩)))) (X8_heir_E (isHeir_s hE.2.2.1.2.1 h5 (gF (fun z => absurd z hx) (fun _ => ⟨rfl, KM.rf⟩))))
theorem T_by (h : Rel σs τs) (x y : Int) : TI MX7_by MX8_by [vI x, vI y] σs τs := by
  obtain ⟨V, N, S, K, hE⟩ := h.1
  have hV := hE.1.1
  have h5 := hE.2.2.1.2.2.1.1
  by_cases hx : 0 ≤ x ∧ x ≤ 3
  · by_cases hy : 0 ≤ y ∧ y < N
    · refine TI_of h (F := GE σs N x V y) (X7_by_E (isKind_s (gF (fun _ => has_s isE_1 hE.2.2.1.1 (gT (fun _ => load1_s hE (fun σ' hF hL => ?_)) (fun z => absurd hy z))) (fun z => absurd hx z)))) (X8_by_E (misKind_s (gF (fun _ => isHeir_s hE.2.2.1.2.1 h5 (gT (fun _ => msStart_s hE (fun τ1 hM => msGives_s hE hM (v := V) (by omega) (by rw [hM.1.1 1 (by omega)]; exact hE.1.2.2) hx (fun τ2 _ hM2 hg => ⟨hy.1, by omega, hg y hy.1 hy.2, hM2.1⟩))) (fun z => absurd hy z))) (fun z => absurd hx z))))
      refine pgPart_s hE isPt_26 hL hx (v := V) (by omega) (by rw [hF 1 (by omega)]; exact hE.1.2.1) (fun σ2 hF2 hP => got_s isPt_26 h5 hP.1.1 hy.1 hy.2 ⟨hP.2.2.2 y hy.1 hy.2, hF.kc.trans hF2.kc⟩)
    · exact TI_of h (F := -1) (X7_by_E (isKind_s (gF (fun _ => has_s isE_1 hE.2.2.1.1 (gT (fun z => absurd z hy) (fun _ => ⟨rfl, KC.rf⟩))) (fun z => absurd hx z)))) (X8_by_E (misKind_s (gF (fun _ => isHeir_s hE.2.2.1.2.1 h5 (gT (fun z => absurd z hy) (fun _ => ⟨rfl, KM.rf⟩))) (fun z => absurd hx z))))
  · exact TI_of h (F := -1) (X7_by_E (isKind_s (gF (fun z => absurd z hx) (fun _ => ⟨rfl, KC.rf⟩)))) (X8_by_E (misKind_s (gF (fun z => absurd z hx) (fun _ => ⟨rfl, KM.rf⟩))))
theorem T_of (h : Rel σs τs) (x y : Int) : TI MX7_of MX8_of [vI x, vI y] σs τs := by
  obtain ⟨V, N, S, K, hE⟩ := h.1
  have h5 := hE.2.2.1.2.2.1.1
  by_cases hx : 0 ≤ x ∧ x ≤ 999
  · by_cases hy : 0 ≤ y ∧ y < N
    · exact TI_of h (F := GE σs N K x.toNat y) (X7_of_E (isHerd_s (gF (fun _ => has_s isE_1 hE.2.2.1.1 (gT (fun _ => pgOf_s hE (v := x.toNat) (by omega) (by omega) (fun σ' hK hP => ⟨rfl, got_s isPt_26 h5 hP.1.1 hy.1 hy.2 ⟨hP.2.2.2 y hy.1 hy.2, hK⟩⟩)) (fun z => absurd hy z))) (fun z => absurd hx z)))) (X8_of_E (in_s (gF (fun _ => isHeir_s hE.2.2.1.2.1 h5 (gT (fun _ => msStart_s hE (fun τ1 hM => by
        rw [hM.1.1 1 (by omega), hE.2.1.2.2]
        exact msGives_s hE hM (v := x.toNat) (by omega) (by omega) hE.2.1.1 (fun τ2 _ hM2 hg => ⟨hy.1, by omega, hg y hy.1 hy.2, hM2.1⟩))) (fun z => absurd hy z))) (fun z => absurd hx z))))
    · exact TI_of h (F := -1) (X7_of_E (isHerd_s (gF (fun _ => has_s isE_1 hE.2.2.1.1 (gT (fun z => absurd z hy) (fun _ => ⟨rfl, KC.rf⟩))) (fun z => absurd hx z)))) (X8_of_E (in_s (gF (fun _ => isHeir_s hE.2.2.1.2.1 h5 (gT (fun z => absurd z hy) (fun _ => ⟨rfl, KM.rf⟩))) (fun z => absurd hx z))))
  · exact TI_of h (F := -1) (X7_of_E (isHerd_s (gF (fun z => absurd z hx) (fun _ => ⟨rfl, KC.rf⟩)))) (X8_of_E (in_s (gF (fun z => absurd z hx) (fun _ => ⟨rfl, KM.rf⟩))))
/-- the best of four, from kind k on -/
def bestF (g : Int → Int) : Nat → Nat → Int → Int → Int
  | 0, _, b, _ => b
  | m + 1, k, b, most => if most < g k then bestF g m (k + 1) k (g k) else bestF g m (k + 1) b most
theorem T_best (h : Rel σs τs) (x : Int) : TI MX7_best MX8_best [vI x] σs τs := by
  obtain ⟨V, N, S, K, hE⟩ := h.1
  have hV := hE.1.1
  have h5 := hE.2.2.1.2.2.1.1
  by_cases hx : 0 ≤ x ∧ x < N
  · have kC : ∀ (m k : Nat) (b most : Int) (σ : Mem), k + m = 4 → KC σs σ → PL σ 26 N (wtD (σs 2) (σs 3) N) (cmD (σs 3) N) (alD (σs 2) (σs 3) N) → LX7_best_31 x b most k σ (fun r σ' => r = bestF (fun k => GE σs N k V x) m k b most ∧ KC σs σ') := by
      intro m
      induction m with
      | zero => intro k b most σ hk hK _; exact X7_best_31 ⟨fun _ => ⟨rfl, hK⟩, fun z => by omega⟩
      | succ m ih =>
        intro k b most σ hk hK hL
        refine X7_best_31 ⟨fun z => by omega, fun _ => pgPart_s hE isPt_26 hL (kind := k) ⟨by omega, by omega⟩ (v := V) (by omega) (by rw [hK.1 1 (by omega)]; exact hE.1.2.1) (fun σ2 hF2 hP => got_s isPt_26 h5 hP.1.1 hx.1 hx.2 ?_)⟩
        rw [hP.2.2.2 x hx.1 hx.2]
        refine ⟨fun z => ⟨⟨by omega, by omega⟩, ?_⟩, fun z => got_s isPt_26 h5 hP.1.1 hx.1 hx.2 ⟨⟨by omega, by omega⟩, ?_⟩⟩
        · have := ih (k + 1) b most σ2 (by omega) (hK.trans hF2.kc) hP.1
          unfold bestF
          rw [if_neg (by omega)]
          simpa using this
        · rw [hP.2.2.2 x hx.1 hx.2]
          have := ih (k + 1) k (GE σs N k V x) σ2 (by omega) (hK.trans hF2.kc) hP.1
          unfold bestF
          rw [if_pos z]
          simpa using this
    have kM : ∀ (m k : Nat) (b most : Int) (τ : Mem), k + m = 4 → MS σs τs N τ → LX8_best_21 x most b k τ (fun r τ' => r = bestF (fun k => GE σs N k V x) m k b most ∧ KM τs τ') := by
      intro m
      induction m with
      | zero => intro k b most τ hk hM; exact X8_best_21 ⟨fun _ => ⟨rfl, hM.1⟩, fun z => by omega⟩
      | succ m ih =>
        intro k b most τ hk hM
        refine X8_best_21 ⟨fun z => by omega, fun _ => msGives_s hE hM (v := V) (by omega) (by rw [hM.1.1 1 (by omega)]; exact hE.1.2.2) (kind := k) ⟨by omega, by omega⟩ (fun τ2 _ hM2 hg => ?_)⟩
        have e7 := hg x hx.1 hx.2
        refine ⟨hx.1, by omega, fun z => X8_best_55 ⟨hx.1, by omega, fun _ => ⟨⟨by omega, by omega⟩, ?_⟩, fun z2 => by omega⟩, fun z => X8_best_55 ⟨hx.1, by omega, fun z2 => by omega, fun _ => ⟨hx.1, by omega, ⟨by omega, by omega⟩, ?_⟩⟩⟩
        · have := ih (k + 1) b most τ2 (by omega) hM2
          unfold bestF
          rw [if_neg (by omega)]
          simpa using this
        · rw [e7] at z ⊢
          have := ih (k + 1) k (GE σs N k V x) τ2 (by omega) hM2
          unfold bestF
          rw [if_pos z]
          simpa using this
    refine TI_of h (F := bestF (fun k => GE σs N k V x) 4 0 0 (-1)) (X7_best_E (has_s isE_1 hE.2.2.1.1 (gT (fun _ => load1_s hE (fun σ' hF hL => kC 4 0 0 (-1) σ' rfl hF.kc hL)) (fun z => absurd hx z)))) (X8_best_E (isHeir_s hE.2.2.1.2.1 h5 (gT (fun _ => msStart_s hE (fun τ1 hM => kM 4 0 0 (-1) τ1 rfl hM)) (fun z => absurd hx z))))
  · exact TI_of h (F := -1) (X7_best_E (has_s isE_1 hE.2.2.1.1 (gT (fun z => absurd z hx) (fun _ => ⟨rfl, KC.rf⟩)))) (X8_best_E (isHeir_s hE.2.2.1.2.1 h5 (gT (fun z => absurd z hx) (fun _ => ⟨rfl, KM.rf⟩))))
end BOTH
