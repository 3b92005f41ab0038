/-! ===== the text: a line begins ===== -/
section SIM0
variable {σs τs : Mem} {b : Int → Int} {T : Nat} {R : Int → Mem → Prop} {τ : Mem} {F P many : Int}
theorem f145 {x : Int} (h : FT τs τ F P) (hm : 0 ≤ many ∧ many ≤ 1000) (hR : ∀ r τ', PRf τs F P r τ' → R r τ') : LX8_readLine_145 x τ (fun σ => Kt many σ R) :=
  X8_readLine_145 (takes_f (by have := h.1; have := h.2.1; omega) ⟨fun z => by have := h.1; have := h.2.1; omega, fun _ => fKt h hm hR⟩)
theorem ok145 {x : Int} (h : CV layM MX8_takes [vP 0] τ (fun σ1 => C145 x many σ1 R)) : LX8_readLine_145 x τ (fun σ => Kt many σ R) := X8_readLine_145 h
theorem FT.up0 {j x : Int} (h : FT τs τ F P) (hj : j ≠ 12 ∧ j ≠ 13 ∧ j ≠ 31) : FT τs (upM τ 0 j x) F P := ⟨by rw [upM_j (by omega)]; exact h.1, h.2.1, by rw [upM_j (by omega)]; exact h.2.2.1, h.2.2.2.1, h.2.2.2.2.up0 hj.2.2⟩
abbrev flg (τ : Mem) (x : Int) : Mem := upM (upM τ 0 4 (if τ 0 4 ≠ 0 ∨ x = 5 then 1 else 0)) 0 5 (if τ 0 5 ≠ 0 ∨ x < 4 then 1 else 0)
theorem flg_q {x : Int} {q : Nat} (h : q ≠ 0) : flg τ x q = τ q := by unfold flg; rw [upM_q h, upM_q h]
theorem flg_4 {x : Int} : flg τ x 0 4 = if τ 0 4 ≠ 0 ∨ x = 5 then 1 else 0 := by unfold flg; rw [upM_j (by decide), upM_s]
theorem flg_5 {x : Int} : flg τ x 0 5 = if τ 0 5 ≠ 0 ∨ x < 4 then 1 else 0 := by unfold flg; rw [upM_s]
theorem rl99 {x s0 : Int} {K : Mem → Prop} (h1 : s0 ≠ 0 ∨ τ 0 12 ≠ 0 → LX8_readLine_145 x (flg τ x) K) (h2 : s0 = 0 → τ 0 12 = 0 → LX8_readLine_145 x (flg (upM (upM τ 0 12 4) 0 13 (τ 0 9)) x) K) : LX8_readLine_99 x s0 τ K := by
  have fl : ∀ τ1 : Mem, LX8_readLine_145 x (flg τ1 x) K → (((τ1 0 4) ≠ 0 → ((((upM τ1 0 4 1) 0 5) ≠ 0 → LX8_readLine_145 x (upM (upM τ1 0 4 1) 0 5 1) K) ∧ (((upM τ1 0 4 1) 0 5) = 0 → ((4 ≤ x → LX8_readLine_145 x (upM (upM τ1 0 4 1) 0 5 0) K) ∧ (x < 4 → LX8_readLine_145 x (upM (upM τ1 0 4 1) 0 5 1) K))))) ∧ ((τ1 0 4) = 0 → ((x ≠ 5 → ((((upM τ1 0 4 0) 0 5) ≠ 0 → LX8_readLine_145 x (upM (upM τ1 0 4 0) 0 5 1) K) ∧ (((upM τ1 0 4 0) 0 5) = 0 → ((4 ≤ x → LX8_readLine_145 x (upM (upM τ1 0 4 0) 0 5 0) K) ∧ (x < 4 → LX8_readLine_145 x (upM (upM τ1 0 4 0) 0 5 1) K))))) ∧ (x = 5 → ((((upM τ1 0 4 1) 0 5) ≠ 0 → LX8_readLine_145 x (upM (upM τ1 0 4 1) 0 5 1) K) ∧ (((upM τ1 0 4 1) 0 5) = 0 → ((4 ≤ x → LX8_readLine_145 x (upM (upM τ1 0 4 1) 0 5 0) K) ∧ (x < 4 → LX8_readLine_145 x (upM (upM τ1 0 4 1) 0 5 1) K)))))))) := by
    intro τ1 h
    unfold flg at h
    rw [upM_j (show (5 : Int) ≠ 4 by decide), upM_j (show (5 : Int) ≠ 4 by decide)]
    refine ⟨fun z4 => ⟨fun z5 => ?_, fun z5 => ⟨fun zx => ?_, fun zx => ?_⟩⟩, fun z4 => ⟨fun zn => ⟨fun z5 => ?_, fun z5 => ⟨fun zx => ?_, fun zx => ?_⟩⟩, fun zn => ⟨fun z5 => ?_, fun z5 => ⟨fun zx => ?_, fun zx => ?_⟩⟩⟩⟩
    · rwa [if_pos (Or.inl z4), if_pos (Or.inl z5)] at h
    · rwa [if_pos (Or.inl z4), if_neg (by omega)] at h
    · rwa [if_pos (Or.inl z4), if_pos (Or.inr zx)] at h
    · rwa [if_neg (by omega), if_pos (Or.inl z5)] at h
    · rwa [if_neg (by omega), if_neg (by omega)] at h
    · rwa [if_neg (by omega), if_pos (Or.inr zx)] at h
    · rwa [if_pos (Or.inr zn), if_pos (Or.inl z5)] at h
    · rwa [if_pos (Or.inr zn), if_neg (by omega)] at h
    · rwa [if_pos (Or.inr zn), if_pos (Or.inr zx)] at h
  exact X8_readLine_99 (needs_s (fun z => fl τ (h1 z)) (fun z z2 => fl _ (h2 z z2)))
/-- whether a line that begins so is refused -/
def refd (τ : Mem) (w : Int) : Prop := (w = 4 ∧ 5 ≤ τ 4 1) ∨ (w = 5 ∧ τ 0 4 ≠ 0) ∨ (w < 4 ∧ τ 0 5 ≠ 0)
theorem m30bad {x s : Int} (h12 : τ 0 12 = 0) (h9 : τ 0 9 = s) (hs : 0 ≤ s ∧ s ≤ 160) (hK : KMy τs τ) (hm : 0 ≤ many ∧ many ≤ 1000) (hR : ∀ r τ', PRf τs 2 s r τ' → R r τ') : LX8_readLine_30 x 0 τ (fun σ => Kt many σ R) := by
  have ft := FT.of (F := 2) h9 hs hK (by decide)
  refine X8_readLine_30 (needs_s (fun z => ?_) (fun _ _ => ⟨fun _ => f145 ft hm hR, fun z => by have := ft.1; omega⟩))
  rcases z with z | z
  · exact absurd rfl z
  · exact absurd h12 z
theorem m30ref {w s : Int} (hw : 0 ≤ w ∧ w ≤ 5) (h12 : τ 0 12 = 0) (h9 : τ 0 9 = s) (hs : 0 ≤ s ∧ s ≤ 160) (hK : KMy τs τ) (hm : 0 ≤ many ∧ many ≤ 1000) (hr : refd τ w) (hR : ∀ r τ', PRf τs (if w = 4 then 5 else 4) s r τ' → R r τ') : LX8_readLine_30 w 1 τ (fun σ => Kt many σ R) := by
  have no : ∀ {τ1 : Mem} {X : Prop}, τ1 0 12 = 0 → ((0 : Int) ≠ 0 ∨ τ1 0 12 ≠ 0 → X) := fun h z => by
    rcases z with z | z
    · exact absurd rfl z
    · exact absurd h z
  refine X8_readLine_30 (needs_s (fun _ => ⟨fun z => absurd h12 z, fun _ => ⟨fun z4 => ?_, fun z4 => ?_⟩⟩) (fun z _ => absurd z (by decide)))
  · rw [if_neg z4] at hR
    have ft := FT.of (F := 4) h9 hs hK (by decide)
    have f99 : LX8_readLine_99 w 0 τ (fun σ => Kt many σ R) := rl99 (no h12) (fun _ _ => f145 ((ft.up0 (by decide)).up0 (by decide)) hm hR)
    refine X8_readLine_62 (needs_s (fun _ => ⟨fun z => absurd z z4, fun _ => ⟨fun z5 => ⟨fun _ => f99, fun z => ?_⟩, fun z5 => ⟨fun z => ?_, fun _ => f99⟩⟩⟩) (fun z _ => absurd z (by decide)))
    · rcases hr with ⟨e, _⟩ | ⟨e, _⟩ | ⟨_, e⟩
      · exact absurd e z4
      · exact absurd e z5
      · exact absurd z e
    · rcases hr with ⟨e, _⟩ | ⟨_, e⟩ | ⟨e, _⟩
      · exact absurd e z4
      · exact absurd z e
      · omega
  · rw [if_pos z4] at hR
    have ft := FT.of (F := 5) h9 hs hK (by decide)
    refine ⟨fun _ => X8_readLine_62 (needs_s (no h12) (fun _ _ => ⟨fun _ => rl99 (fun _ => f145 ((ft.up0 (by decide)).up0 (by decide)) hm hR) (fun z _ => absurd z (by decide)), fun z => absurd z4 z⟩)), fun z => ?_⟩
    rcases hr with ⟨_, e⟩ | ⟨e, _⟩ | ⟨e, _⟩ <;> omega
theorem m30ok {w : Int} (hw : 0 ≤ w ∧ w ≤ 5) (h12 : τ 0 12 = 0) (hr : ¬ refd τ w) (h : CV layM MX8_takes [vP 0] (flg τ w) (fun σ1 => C145 w many σ1 R)) : LX8_readLine_30 w 1 τ (fun σ => Kt many σ R) := by
  have f99 : LX8_readLine_99 w 1 τ (fun σ => Kt many σ R) := rl99 (fun _ => ok145 h) (fun z _ => absurd z (by decide))
  have f62 : LX8_readLine_62 w 1 τ (fun σ => Kt many σ R) := X8_readLine_62 (needs_s (fun _ => ⟨fun _ => f99, fun z4 => ⟨fun z5 => ⟨fun z => absurd (Or.inr (Or.inr ⟨by omega, z⟩)) hr, fun _ => f99⟩, fun z5 => ⟨fun _ => f99, fun z => absurd (Or.inr (Or.inl ⟨z5, z⟩)) hr⟩⟩⟩) (fun z _ => absurd z (by decide)))
  exact X8_readLine_30 (needs_s (fun _ => ⟨fun z => absurd h12 z, fun _ => ⟨fun _ => f62, fun z4 => ⟨fun z => absurd (Or.inl ⟨z4, z⟩) hr, fun _ => f62⟩⟩⟩) (fun z _ => absurd z (by decide)))
/-- what the line's first token is to the reference -/
theorem m20 {σ : Mem} {p N : Nat} (hT : T ≤ 160) (hp : p ≤ T) (hbm : ∀ i : Int, 0 ≤ i → i < T → τs 5 i = b i ∧ 0 ≤ b i) (hS : SRm τs b T p N σ τ) (h3 : srt b T p ≠ 3) (hbad : (srt b T p ≠ 0 ∨ wordC b (sT b T p) (nxt b T p) = -1) → LX8_readLine_30 (-4) 0 τ (fun σ => Kt many σ R)) (hok : srt b T p = 0 → wordC b (sT b T p) (nxt b T p) ≠ -1 → LX8_readLine_30 (wordC b (sT b T p) (nxt b T p)) 1 τ (fun σ => Kt many σ R)) : LX8_text_20 many τ R := by
  obtain ⟨_, _, hK, h7, t12, t9, t8, t10, tv⟩ := hS
  have hn := nxt_in (b := b) hp
  refine X8_text_20 ⟨fun z => absurd t12 z, fun _ => ⟨fun z => absurd (srM2.2.1.mp (t10.symm.trans z)) h3, fun _ => X8_readLine_E ⟨fun z => hbad (Or.inl (fun e => z (by rw [t10, e]; rfl))), fun z => ?_⟩⟩⟩
  have e0 : srt b T p = 0 := srM2.2.2.mp (t10.symm.trans z)
  refine lineNow_s (b := b) hT (fun i x y => by rw [hK.1 5 (by omega)]; exact (hbm i x y).1) h7 hn.1 hn.2.1 t9 t8 ?_
  by_cases e : wordC b (sT b T p) (nxt b T p) = -1
  · rw [if_pos e]; exact ⟨fun _ => hbad (Or.inr e), fun y => absurd rfl y⟩
  · rw [if_neg e]
    rcases wordC_in b (sT b T p) (nxt b T p) with y | y
    · exact absurd y e
    · exact ⟨fun y2 => by omega, fun _ => hok e0 e⟩
theorem sim0 (hNS : NameSpec) (hT : T ≤ 160) (hbc : ∀ i : Int, 0 ≤ i → i < T → σs 38 i = b i) (hbm : ∀ i : Int, 0 ≤ i → i < T → τs 5 i = b i ∧ 0 ≤ b i) {t : Nat} (h1' : S1 σs τs b T (t + 1)) (h3' : S3 σs τs b T (t + 1)) (h4' : S4 σs τs b T (t + 1)) : S0 σs τs b T t := by
  intro σ p many N hC
  have hp := hC.2.1.2.2
  have hmt := hC.2.2.1.2.2.2.2
  have hm : 0 ≤ (many : Int) ∧ (many : Int) ≤ 1000 := ⟨by omega, by omega⟩
  have hs := sT_in (b := b) hp.2
  have hs2 : 0 ≤ ((sT b T p : Nat) : Int) ∧ ((sT b T p : Nat) : Int) ≤ 160 := by omega
  have hn := nxt_in (b := b) hp.2
  by_cases hw : srt b T p = 4
  · exact wrongC hT hbc hC (by decide) hw
  refine stepC hT hbc hC (by decide) (fun σ1 hTp h2 h1 h4 _ => X3_takeToken_E ⟨fun _ => ⟨fun _ => ⟨fun _ => ⟨fun z3 => ?_, fun z3 => ?_⟩, fun z => absurd (by rw [hTp.1 36 (by decide)]; exact hC.2.2.1.1) z⟩, fun z => by rw [hTp.1 36 (by decide), hC.2.2.1.1] at z; exact absurd z (by decide)⟩, fun z => absurd (h1.symm.trans z) hw⟩)
  · rw [h1] at z3
    have g36 : ∀ j : Int, σ1 36 j = σ 36 j := fun j => by rw [hTp.1 36 (by decide)]
    have k1 : KCy σs σ1 := hC.1.tp hTp
    refine X3_takeWord_E (wordOfLine_s hNS (b := b) hT hn.1 hn.2.1 h2 h4 (fun i x y => by rw [k1.1 38 (by omega)]; exact hbc i x y) ?_)
    rw [h1]
    by_cases hbad : srt b T p ≠ 0 ∨ wordC b (sT b T p) (nxt b T p) = -1
    · have e : (if srt b T p = 0 then wordC b (sT b T p) (nxt b T p) else -1) = -1 := by
        rcases hbad with z | z
        · rw [if_neg z]
        · split; exact z; rfl
      rw [e]
      refine ⟨fun _ => ⟨fun _ => isKind_s (gF (fun z => by omega) (fun _ => refQ hT hC hTp h2 (by decide) (fun y => absurd y hw) (fun _ τ hS R hR => m20 hT hp.2 hbm hS z3 (fun _ => m30bad hS.2.2.2.2.1 hS.2.2.2.2.2.1 hs2 hS.2.2.1 hm hR) (fun y0 y1 => ?_)))), fun y => absurd y (by decide)⟩, fun y => absurd y (by decide)⟩
      rcases hbad with z | z
      · exact absurd y0 z
      · exact absurd z y1
    · have e0 : srt b T p = 0 := by
        by_cases y : srt b T p = 0
        · exact y
        · exact absurd (Or.inl y) hbad
      have e1 : wordC b (sT b T p) (nxt b T p) ≠ -1 := fun y => hbad (Or.inr y)
      have hwin : 0 ≤ wordC b (sT b T p) (nxt b T p) ∧ wordC b (sT b T p) (nxt b T p) ≤ 5 := by
        rcases wordC_in b (sT b T p) (nxt b T p) with y | y
        · exact absurd y e1
        · exact y
      rw [if_pos e0]
      -- refused, whatever else is then written into the draft
      have mref : ∀ F : Int, (F = if wordC b (sT b T p) (nxt b T p) = 4 then 5 else 4) → (∀ τ, SRm τs b T p N σ τ → refd τ (wordC b (sT b T p) (nxt b T p))) → ∀ τ, SRm τs b T p N σ τ → ∀ R, (∀ r τ', PRf τs F (sT b T p : Nat) r τ' → R r τ') → LX8_text_20 many τ R :=
        fun F hF hr τ hS R hR => m20 hT hp.2 hbm hS z3 (fun y => absurd y hbad) (fun _ _ => m30ref hwin hS.2.2.2.2.1 hS.2.2.2.2.2.1 hs2 hS.2.2.1 hm (hr τ hS) (by rw [← hF]; exact hR))
      have mok : ∀ τ, SRm τs b T p N σ τ → ¬ refd τ (wordC b (sT b T p) (nxt b T p)) → ∀ R, (∀ τ', Mp (flg τ (wordC b (sT b T p) (nxt b T p))) τ' → KMy τs τ' → τ' 0 7 = T → (srt b T (nxt b T p) = 4 → FT τs τ' 1 (sT b T (nxt b T p) : Nat)) → (srt b T (nxt b T p) ≠ 4 → TKok b T (nxt b T p) τ') → C145 (wordC b (sT b T p) (nxt b T p)) many τ' R) → LX8_text_20 many τ R :=
        fun τ hS hr R hq => m20 hT hp.2 hbm hS z3 (fun y => absurd y hbad) (fun _ _ => m30ok hwin hS.2.2.2.2.1 hr (nextM hT hbm hn.2.1 ((hS.2.2.1.up0 (by decide)).up0 (by decide)) (by rw [upM_j (by decide), upM_j (by decide)]; exact hS.2.2.2.1) (by rw [upM_j (by decide), upM_j (by decide)]; exact hS.2.2.2.2.1) (by rw [upM_j (by decide), upM_j (by decide)]; exact hS.2.2.2.2.2.2.1) hq))
      generalize hW : wordC b (sT b T p) (nxt b T p) = w at mref mok hwin
      have i32 : I32 ((t : Int) + 1) := ⟨by omega, by omega⟩
      have h78 := hC.2.2.2.1
      have hN1 : σ1 21 2 = N := by rw [hTp.1 21 (by decide)]; exact hC.2.2.2.2.1
      refine ⟨fun w4 => ⟨fun w5 => isKind_s (gF (fun hk => X3_begin_E ⟨fun z => ⟨i32, ?_⟩, fun z => ?_⟩) (fun z => by omega)), fun w5 => X3_begin_E ⟨fun z => ⟨i32, ?_⟩, fun z => ?_⟩⟩, fun w4 => ⟨fun z => X3_begin_E ⟨fun _ => ⟨i32, ?_⟩, fun y => absurd rfl y⟩, fun z => X3_begin_E ⟨fun y => absurd y (by decide), fun _ => ?_⟩⟩⟩
      · -- a judge
        rw [g36 8] at z
        have f36 : ∀ j : Int, j ≠ 5 → j ≠ 8 → upM (upM (upM σ1 36 5 4) 36 8 1) 21 1 w 36 j = σ 36 j := fun j a c => by rw [upM_q (by decide), upM_j c, upM_j a, g36]
        have fq : ∀ q, q ≠ 36 → q ≠ 21 → upM (upM (upM σ1 36 5 4) 36 8 1) 21 1 w q = σ1 q := fun q a c => by rw [upM_q c, upM_q a, upM_q a]
        have f21 : ∀ j : Int, j ≠ 1 → upM (upM (upM σ1 36 5 4) 36 8 1) 21 1 w 21 j = σ 21 j := fun j a => by rw [upM_j a, upM_q (by decide), upM_q (by decide), hTp.1 21 (by decide)]
        have hC2 : CR σs T (t + 1) (nxt b T p) 4 many N (upM (upM (upM σ1 36 5 4) 36 8 1) 21 1 w) := hC.next hTp h4 z3 (((k1.up (by decide)).up (by decide)).up (by decide)) (fq 37 (by decide) (by decide)) (by rw [upM_q (by decide), upM_j (by decide), upM_s]) (by rw [f36 3 (by decide) (by decide)]; exact hC.2.2.1.2.1) (by rw [f36 4 (by decide) (by decide)]; exact hC.2.2.1.2.2.1) ⟨by rw [f36 2 (by decide) (by decide)]; exact hC.2.2.1.2.2.2.1, by omega⟩ ⟨by rw [f36 7 (by decide) (by decide)]; exact h78.1, Or.inr (by rw [upM_q (by decide), upM_s])⟩ ⟨by rw [f21 2 (by decide)]; exact hC.2.2.2.2.1, hC.2.2.2.2.2⟩
        have ih := h4' _ _ _ _ hC2
        refine goP hw (by simpa using ih) (fun σf hP τ hS => mok τ hS (fun hr => ?_) _ (fun τ' hM hK h7 hw2 hok2 => ?_))
        · rcases hr with ⟨e, _⟩ | ⟨e, _⟩ | ⟨_, e⟩
          · exact w4 e
          · exact w5 e
          · rw [hS.2.1.2] at e; exact e z
        · by_cases z2 : srt b T (nxt b T p) = 4
          · exact fC145 (hw2 z2) hm (prW hP z2)
          · have ok2 := hok2 z2
            refine ⟨fun _ => X8_readLineOf_E ⟨fun e => absurd e w4, fun e => absurd e w5, fun _ => ?_⟩, fun y => by have := ok2.1; omega⟩
            obtain ⟨⟨V, K, hE⟩, ⟨q4, q5⟩, _⟩ := hS
            have e4 : τ' 4 = τ 4 := by rw [hM.1 4 (by decide)]; exact flg_q (by decide)
            refine hP.2.2.2 z2 _ ⟨⟨V, w, ?_⟩, ⟨?_, ?_⟩, hK.up4, by rw [upM_q (by decide)]; exact h7, ?_⟩
            · exact hE.arr (fun q a c => by rw [fq q (by omega) (by omega), hTp.1 q (by omega)]) (fun j a c d => by rw [upM_j (by omega), e4]) ⟨hE.1.1, by rw [f21 0 (by decide)]; exact hE.1.2.1, by rw [upM_j (by decide), e4]; exact hE.1.2.2⟩ ⟨hk, upM_s, upM_s⟩ ⟨by rw [f21 2 (by decide)]; exact hE.2.2.1.1, by rw [upM_j (by decide), e4]; exact hE.2.2.1.2.1⟩ ⟨Nat.le_refl _, by rw [f21 3 (by decide)]; exact hE.2.2.2.2.1, by rw [upM_j (by decide), e4]; exact hE.2.2.2.2.2.1⟩
            · rw [upM_q (by decide), hM.2 4 (by decide), flg_4, f36 7 (by decide) (by decide), ← q4]
              have := h78.1
              rw [← q4] at this
              split <;> omega
            · rw [upM_q (by decide), hM.2 5 (by decide), flg_5, upM_q (by decide), upM_s, if_pos (Or.inr (by omega))]
            · unfold TKok; rw [upM_q (show (0 : Nat) ≠ 4 by decide)]; exact ok2
      · -- a second judge
        rw [g36 8] at z
        refine X3_refuse_E ⟨i32, endC (by rw [upM_q (by decide), upM_j (by decide), upM_s]) ?_⟩
        rw [upM_q (show (37 : Nat) ≠ 36 by decide)]
        refine refP (F := 4) hp.2 hT (((((k1.up (by decide)).up (by decide)).up (by decide)).up (by decide)).up (by decide)) (by rw [upM_q (by decide), upM_j (by decide), upM_j (by decide), upM_j (by decide), upM_s]) (by rw [upM_q (by decide), upM_j (by decide), upM_j (by decide), upM_s]; exact h2) (by decide) (fun y => absurd y hw) (fun _ => mref 4 (by rw [if_neg w4]) (fun τ hS => Or.inr (Or.inr ⟨by omega, by rw [hS.2.1.2]; exact z⟩)))
      · -- the herd
        rw [g36 7] at z
        have f36 : ∀ j : Int, j ≠ 5 → j ≠ 7 → upM (upM σ1 36 5 3) 36 7 1 36 j = σ 36 j := fun j a c => by rw [upM_j c, upM_j a, g36]
        have fq : ∀ q, q ≠ 36 → upM (upM σ1 36 5 3) 36 7 1 q = σ1 q := fun q a => by rw [upM_q a, upM_q a]
        have hC2 : CR σs T (t + 1) (nxt b T p) 3 many N (upM (upM σ1 36 5 3) 36 7 1) := hC.next hTp h4 z3 ((k1.up (by decide)).up (by decide)) (fq 37 (by decide)) (by rw [upM_j (by decide), upM_s]) (by rw [f36 3 (by decide) (by decide)]; exact hC.2.2.1.2.1) (by rw [f36 4 (by decide) (by decide)]; exact hC.2.2.1.2.2.1) ⟨by rw [f36 2 (by decide) (by decide)]; exact hC.2.2.1.2.2.2.1, by omega⟩ ⟨Or.inr upM_s, by rw [f36 8 (by decide) (by decide)]; exact h78.2⟩ ⟨by rw [fq 21 (by decide)]; exact hN1, hC.2.2.2.2.2⟩
        have ih := h3' _ _ _ _ hC2
        refine goP hw (by simpa using ih) (fun σf hP τ hS => mok τ hS (fun hr => ?_) _ (fun τ' hM hK h7 hw2 hok2 => ?_))
        · rcases hr with ⟨e, _⟩ | ⟨_, e⟩ | ⟨e, _⟩
          · omega
          · rw [hS.2.1.1] at e; exact e z
          · omega
        · rw [w5]
          by_cases z2 : srt b T (nxt b T p) = 4
          · exact fC145 (hw2 z2) hm (prW hP z2)
          · obtain ⟨⟨V, K, hE⟩, ⟨q4, q5⟩, _⟩ := hS
            have e4 : τ' 4 = τ 4 := by rw [hM.1 4 (by decide)]; exact flg_q (by decide)
            refine hP.2.2.2 z2 _ ⟨⟨V, K, hE.keep (fun q a c => by rw [fq q (by omega), hTp.1 q (by omega)]) (fun j _ _ => by rw [e4])⟩, ⟨?_, ?_⟩, hK, h7, hok2 z2⟩
            · rw [hM.2 4 (by decide), flg_4, upM_s, if_pos (Or.inr w5)]
            · rw [hM.2 5 (by decide), flg_5, f36 8 (by decide) (by decide), ← q5]
              have := h78.2
              rw [← q5] at this
              split <;> omega
      · -- a second herd
        rw [g36 7] at z
        refine X3_refuse_E ⟨i32, endC (by rw [upM_j (by decide), upM_s]) ?_⟩
        rw [upM_q (show (37 : Nat) ≠ 36 by decide)]
        refine refP (F := 4) hp.2 hT ((((k1.up (by decide)).up (by decide)).up (by decide)).up (by decide)) (by rw [upM_j (by decide), upM_j (by decide), upM_j (by decide), upM_s]) (by rw [upM_j (by decide), upM_j (by decide), upM_s]; exact h2) (by decide) (fun y => absurd y hw) (fun _ => mref 4 (by rw [if_neg w4]) (fun τ hS => Or.inr (Or.inl ⟨w5, by rw [hS.2.1.1]; exact z⟩)))
      · -- an heir
        rw [hN1] at z
        have f36 : ∀ j : Int, j ≠ 5 → upM σ1 36 5 1 36 j = σ 36 j := fun j a => by rw [upM_j a, g36]
        have fq : ∀ q, q ≠ 36 → upM σ1 36 5 1 q = σ1 q := fun q a => upM_q a
        have hC2 : CR σs T (t + 1) (nxt b T p) 1 many N (upM σ1 36 5 1) := hC.next hTp h4 z3 (k1.up (by decide)) (fq 37 (by decide)) upM_s (by rw [f36 3 (by decide)]; exact hC.2.2.1.2.1) (by rw [f36 4 (by decide)]; exact hC.2.2.1.2.2.1) ⟨by rw [f36 2 (by decide)]; exact hC.2.2.1.2.2.2.1, by omega⟩ (by rw [f36 7 (by decide), f36 8 (by decide)]; exact h78) ⟨by rw [fq 21 (by decide)]; exact hN1, hC.2.2.2.2.2⟩
        have ih := h1' _ _ _ _ (by omega) hC2
        refine goP hw (by simpa using ih) (fun σf hP τ hS => mok τ hS (fun hr => ?_) _ (fun τ' hM hK h7 hw2 hok2 => ?_))
        · rcases hr with ⟨_, e⟩ | ⟨e, _⟩ | ⟨e, _⟩
          · obtain ⟨V, K, hE⟩ := hS.1
            rw [show τ 4 1 = N from hE.2.2.1.2.1] at e; omega
          · omega
          · omega
        · rw [w4]
          by_cases z2 : srt b T (nxt b T p) = 4
          · exact fC145 (hw2 z2) hm (prW hP z2)
          · obtain ⟨⟨V, K, hE⟩, ⟨q4, q5⟩, _⟩ := hS
            have e4 : τ' 4 = τ 4 := by rw [hM.1 4 (by decide)]; exact flg_q (by decide)
            refine hP.2.2.2 z2 _ ⟨⟨V, K, hE.keep (fun q a c => by rw [fq q (by omega), hTp.1 q (by omega)]) (fun j _ _ => by rw [e4])⟩, ⟨?_, ?_⟩, hK, h7, hok2 z2⟩
            · rw [hM.2 4 (by decide), flg_4, f36 7 (by decide), ← q4]
              have := h78.1
              rw [← q4] at this
              split <;> omega
            · rw [hM.2 5 (by decide), flg_5, f36 8 (by decide), ← q5]
              have := h78.2
              rw [← q5] at this
              split <;> omega
      · -- a sixth heir
        rw [hN1] at z
        refine refQ hT hC hTp h2 (by decide) (fun y => absurd y hw) (fun _ => mref 5 (by rw [if_pos w4]) (fun τ hS => Or.inl ⟨w4, ?_⟩))
        obtain ⟨V, K, hE⟩ := hS.1
        rw [show τ 4 1 = N from hE.2.2.1.2.1]; exact z
  · -- the end
    rw [h1] at z3
    refine ⟨⟨by omega, by omega⟩, endC upM_s ?_⟩
    have g36 : ∀ j : Int, j ≠ 5 → upM σ1 36 5 5 36 j = σ 36 j := fun j a => by rw [upM_j a, hTp.1 36 (by decide)]
    refine ⟨(hC.1.tp hTp).up (by decide), by rw [g36 4 (by decide), hC.2.2.1.2.2.1, g36 3 (by decide), hC.2.2.1.2.1]; decide, fun y => absurd y hw, fun _ τ hS => ?_⟩
    obtain ⟨⟨V, K, hE⟩, _, hK, h7, t12, t9, t8, t10, tv⟩ := hS
    refine X8_text_20 ⟨fun y => absurd t12 y, fun _ => ⟨fun _ => ⟨fun _ => keepDraft_s (fun τ' k1 k2 k3 k4 => ⟨fun y => absurd (by rw [g36 3 (by decide)]; exact hC.2.2.1.2.1) y, fun _ => ?_⟩), fun y => by rw [upM_j (by decide), t12] at y; omega⟩, fun y => absurd (by rw [t10, z3]; rfl) y⟩⟩
    have k0 : ∀ q, q ≠ 0 → q ≠ 1 → q ≠ 3 → τ' q = τ q := fun q a c d => by rw [k1 q c d, upM_q a]
    refine ⟨by rw [g36 2 (by decide)]; exact hC.2.2.1.2.2.2.1.symm, by rw [k1 0 (by decide) (by decide), upM_j (by decide)]; exact t12, by rw [k1 0 (by decide) (by decide), upM_s], ⟨V, N, 0, K, hE.keep (fun q a c => by rw [upM_q (by omega), hTp.1 q (by omega)]) (fun j a c => by rw [k2 j a c, upM_q (by decide)])⟩, fun j a c => by rw [k3 j a, upM_q (by decide), hK.1 1 (by omega)], k4, fun q a => by rw [k0 q (by omega) (by omega) (by omega)]; exact hK.1 q (by omega), by rw [k1 0 (by decide) (by decide), upM_j (by decide)]; exact hK.2⟩
theorem simAll (hNS : NameSpec) (hT : T ≤ 160) (hbc : ∀ i : Int, 0 ≤ i → i < T → σs 38 i = b i) (hbm : ∀ i : Int, 0 ≤ i → i < T → τs 5 i = b i ∧ 0 ≤ b i) : ∀ (m t : Nat), t + m = 161 → S0 σs τs b T t ∧ S1 σs τs b T t ∧ S2 σs τs b T t ∧ S3 σs τs b T t ∧ S4 σs τs b T t := by
  intro m
  induction m with
  | zero =>
    intro t ht
    have no : ∀ {σ : Mem} {p many N : Nat} {a : Int} {X : Prop}, CR σs T t p a many N σ → X := fun h => by have := h.2.1; omega
    exact ⟨fun σ p many N h => no h, fun σ p many N _ h => no h, fun σ p many N v _ _ _ h => no h, fun σ p many N h => no h, fun σ p many N h => no h⟩
  | succ m ih =>
    intro t ht
    obtain ⟨i0, i1, i2, i3, i4⟩ := ih (t + 1) (by omega)
    exact ⟨sim0 hNS hT hbc hbm i1 i3 i4, sim1 hT hbc hbm i2, sim2 hT hbc hbm i4, sim3 hT hbc hbm i4, sim4 hT hbc hbm i0⟩
end SIM0
