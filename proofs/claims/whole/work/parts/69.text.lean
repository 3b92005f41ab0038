/-! ===== the text: class and reference token by token ===== -/
def KCy (σs σ : Mem) : Prop := (∀ q, (1 ≤ q ∧ q ≤ 5) ∨ (11 ≤ q ∧ q ≤ 20) ∨ q = 38 ∨ q = 44 ∨ (47 ≤ q ∧ q ≤ 54) → σ q = σs q) ∧ σ 0 11 = σs 0 11
def KMy (τs τ : Mem) : Prop := (∀ q, q = 1 ∨ q = 3 ∨ q = 5 ∨ (13 ≤ q ∧ q ≤ 15) → τ q = τs q) ∧ τ 0 31 = τs 0 31
theorem KCy.up {σs σ : Mem} {q : Nat} {j x : Int} (h : KCy σs σ) (hq : q = 36 ∨ q = 37 ∨ (21 ≤ q ∧ q ≤ 25)) : KCy σs (upM σ q j x) := ⟨fun q' a => by rw [upM_q (by omega)]; exact h.1 q' a, by rw [upM_q (by omega)]; exact h.2⟩
theorem KCy.tp {T : Nat} {σs σ σ' : Mem} (h : KCy σs σ) (h2 : Tp T σ σ') : KCy σs σ' := ⟨fun q a => by rw [h2.1 q (by omega)]; exact h.1 q a, by rw [h2.1 0 (by decide)]; exact h.2⟩
theorem KMy.mp {τs τ τ' : Mem} (h : KMy τs τ) (h2 : Mp τ τ') : KMy τs τ' := ⟨fun q a => by rw [h2.1 q (by omega)]; exact h.1 q a, by rw [h2.2 31 (by decide)]; exact h.2⟩
theorem KMy.up4 {τs τ : Mem} {j x : Int} (h : KMy τs τ) : KMy τs (upM τ 4 j x) := ⟨fun q a => by rw [upM_q (by omega)]; exact h.1 q a, by rw [upM_q (by decide)]; exact h.2⟩
theorem KMy.up0 {τs τ : Mem} {j x : Int} (h : KMy τs τ) (hj : j ≠ 31) : KMy τs (upM τ 0 j x) := ⟨fun q a => by rw [upM_q (by omega)]; exact h.1 q a, by rw [upM_j (fun z => hj z.symm)]; exact h.2⟩
def PRf (τs : Mem) (F P r : Int) (τ' : Mem) : Prop := r = -10 - P ∧ τ' 0 12 = F ∧ τ' 0 7 = 0 ∧ KMy τs τ'
def PRo (τs σ1 : Mem) (r : Int) (τ' : Mem) : Prop := r = σ1 36 2 ∧ τ' 0 12 = 0 ∧ τ' 0 7 = 0 ∧ relE σ1 21 (τ' 1) ∧ (∀ j : Int, 26 ≤ j → j < 78 → τ' 1 j = τs 1 j) ∧ (τ' 3 0 = 0 ∧ τ' 3 1 = 0) ∧ (∀ q, q = 5 ∨ (13 ≤ q ∧ q ≤ 15) → τ' q = τs q) ∧ τ' 0 31 = τs 0 31
def PR (τs σ1 : Mem) (r : Int) (τ' : Mem) : Prop := (σ1 36 3 ≠ 0 → PRf τs (σ1 36 3) (σ1 36 4) r τ') ∧ (σ1 36 3 = 0 → PRo τs σ1 r τ')
/-- the reference is at fault -/
def FT (τs τ : Mem) (F P : Int) : Prop := τ 0 12 = F ∧ 1 ≤ F ∧ τ 0 13 = P ∧ (0 ≤ P ∧ P ≤ 160) ∧ KMy τs τ
def Kt (many : Int) (τ : Mem) (R : Int → Mem → Prop) : Prop := I32 (many + 1) ∧ LX8_text_20 (many + 1) τ R
def C4 (many : Int) (τ : Mem) (R : Int → Mem → Prop) : Prop := (((τ 0 12) ≠ 0 → CV layM MX8_takes [vP 0] τ (fun σ3 => Kt many σ3 R)) ∧ ((τ 0 12) = 0 → (((τ 0 10) ≠ 3 → CV layM MX8_needs [vP 0, vI 0, vI 2] τ (fun σ4 => CV layM MX8_takes [vP 0] σ4 (fun σ5 => Kt many σ5 R))) ∧ ((τ 0 10) = 3 → CV layM MX8_needs [vP 0, vI 1, vI 2] τ (fun σ6 => CV layM MX8_takes [vP 0] σ6 (fun σ7 => Kt many σ7 R))))))
def C145 (x1 many : Int) (τ : Mem) (R : Int → Mem → Prop) : Prop := ((τ 0 12) ≤ 0 → CV layM MX8_readLineOf [vP 0, vI x1] τ (fun σ2 => C4 many σ2 R)) ∧ (0 < (τ 0 12) → Kt many τ R)
def C2 (many : Int) (N : Nat) (τ : Mem) (R : Int → Mem → Prop) : Prop := CI layM MX8_readNumber [vP 0, vI 1, vI 99] τ (fun r4 σ3 => 0 ≤ (3 + (2 * (N : Int))) + 1 ∧ (3 + (2 * (N : Int))) + 1 < 26 ∧ I32 (((upM σ3 4 ((3 + (2 * (N : Int))) + 1) r4) 4 1) + 1) ∧ C4 many (upM (upM σ3 4 ((3 + (2 * (N : Int))) + 1) r4) 4 1 (((upM σ3 4 ((3 + (2 * (N : Int))) + 1) r4) 4 1) + 1)) R)
section TXT
variable {σs τs : Mem} {b : Int → Int} {T : Nat} {R : Int → Mem → Prop} {τ : Mem} {F P many : Int}
theorem f20 (h : FT τs τ F P) (hR : ∀ r τ', PRf τs F P r τ' → R r τ') : LX8_text_20 many τ R := by
  obtain ⟨h12, hF, h13, hP, hK⟩ := h
  refine X8_text_20 ⟨fun _ => ?_, fun z => by omega⟩
  rw [upM_j (show (12 : Int) ≠ 7 by decide), upM_j (show (13 : Int) ≠ 7 by decide), h12, h13]
  exact ⟨fun z => by omega, fun _ => ⟨⟨by omega, by omega⟩, hR _ _ ⟨rfl, by rw [upM_j (by decide)]; exact h12, upM_s, hK.up0 (by decide)⟩⟩⟩
theorem fKt (h : FT τs τ F P) (hm : 0 ≤ many ∧ many ≤ 1000) (hR : ∀ r τ', PRf τs F P r τ' → R r τ') : Kt many τ R := ⟨⟨by omega, by omega⟩, f20 h hR⟩
theorem fC4 (h : FT τs τ F P) (hm : 0 ≤ many ∧ many ≤ 1000) (hR : ∀ r τ', PRf τs F P r τ' → R r τ') : C4 many τ R :=
  ⟨fun _ => takes_f (by have := h.1; have := h.2.1; omega) (fKt h hm hR), fun z => by have := h.1; have := h.2.1; omega⟩
theorem fC145 {x1 : Int} (h : FT τs τ F P) (hm : 0 ≤ many ∧ many ≤ 1000) (hR : ∀ r τ', PRf τs F P r τ' → R r τ') : C145 x1 many τ R :=
  ⟨fun z => by have := h.1; have := h.2.1; omega, fun _ => fKt h hm hR⟩
theorem FT.up4 {j x : Int} (h : FT τs τ F P) : FT τs (upM τ 4 j x) F P := ⟨by rw [upM_q (by decide)]; exact h.1, h.2.1, by rw [upM_q (by decide)]; exact h.2.2.1, h.2.2.2.1, h.2.2.2.2.up4⟩
theorem FT.of {s : Int} (h9 : τ 0 9 = s) (hs : 0 ≤ s ∧ s ≤ 160) (hK : KMy τs τ) (hF : 1 ≤ F) : FT τs (upM (upM τ 0 12 F) 0 13 (τ 0 9)) F s :=
  ⟨by rw [upM_j (by decide), upM_s], hF, by rw [upM_s]; exact h9, hs, (hK.up0 (by decide)).up0 (by decide)⟩
theorem fC2 {N : Nat} (h : FT τs τ F P) (hN : N ≤ 4) (h41 : τ 4 1 = N) (hm : 0 ≤ many ∧ many ≤ 1000) (hR : ∀ r τ', PRf τs F P r τ' → R r τ') : C2 many N τ R := by
  refine readNumber_f (by have := h.1; have := h.2.1; omega) ?_
  rw [upM_j (show (1 : Int) ≠ 3 + 2 * (N : Int) + 1 by omega), h41]
  exact ⟨by omega, by omega, ⟨by omega, by omega⟩, fC4 (h.up4).up4 hm hR⟩
theorem keepDraft_s {Q : Mem → Prop} (hQ : ∀ τ' : Mem, (∀ q, q ≠ 1 → q ≠ 3 → τ' q = τ q) → (∀ j : Int, 0 ≤ j → j < 26 → τ' 1 j = τ 4 j) → (∀ j : Int, 26 ≤ j → τ' 1 j = τ 1 j) → τ' 3 0 = 0 ∧ τ' 3 1 = 0 → Q τ') : CV layM MX8_keepDraft [vP 0] τ Q := by
  have key : ∀ (m k : Nat) (τ1 : Mem), k + m = 26 → (∀ q, q ≠ 1 → τ1 q = τ q) → (∀ j : Int, 0 ≤ j → j < k → τ1 1 j = τ 4 j) → (∀ j : Int, 26 ≤ j → τ1 1 j = τ 1 j) → LX8_keepDraft_2 k τ1 Q := by
    intro m
    induction m with
    | zero =>
      intro k τ1 hk h1 h2 h3
      refine X8_keepDraft_2 ⟨fun _ => hQ _ (fun q a c => by rw [upM_q c, upM_q c]; exact h1 q a) (fun j a c => by rw [upM_q (by decide), upM_q (by decide)]; exact h2 j a (by omega)) (fun j a => by rw [upM_q (by decide), upM_q (by decide)]; exact h3 j a) ⟨by rw [upM_j (by decide), upM_s], upM_s⟩, fun z => by omega⟩
    | succ m ih =>
      intro k τ1 hk h1 h2 h3
      refine X8_keepDraft_2 ⟨fun z => by omega, fun _ => ⟨by omega, by omega, by omega, by omega, ⟨by omega, by omega⟩, ?_⟩⟩
      have := ih (k + 1) (upM τ1 1 k (τ1 4 k)) (by omega) (fun q a => by rw [upM_q a]; exact h1 q a) (fun j a c => by
        by_cases e : j = k
        · rw [e, upM_s, h1 4 (by decide)]
        · rw [upM_j e]; exact h2 j a (by omega)) (fun j a => by rw [upM_j (by omega)]; exact h3 j a)
      simpa using this
  exact X8_keepDraft_E (key 26 0 τ (by omega) (fun _ _ => rfl) (fun j a c => by omega) (fun _ _ => rfl))
def CR (σs : Mem) (T t p : Nat) (a : Int) (many N : Nat) (σ : Mem) : Prop := KCy σs σ ∧ (σ 37 0 = T ∧ σ 37 4 = p ∧ t ≤ p ∧ p ≤ T) ∧ (σ 36 5 = a ∧ σ 36 3 = 0 ∧ σ 36 4 = 0 ∧ σ 36 2 = many ∧ many ≤ t) ∧ ((σ 36 7 = 0 ∨ σ 36 7 = 1) ∧ (σ 36 8 = 0 ∨ σ 36 8 = 1)) ∧ (σ 21 2 = N ∧ N ≤ 5)
def SRm (τs : Mem) (b : Int → Int) (T p N : Nat) (σ τ : Mem) : Prop := (∃ (V : Nat) (K : Int), rE σ 21 (τ 4) V N 0 K) ∧ (τ 0 4 = σ 36 7 ∧ τ 0 5 = σ 36 8) ∧ KMy τs τ ∧ τ 0 7 = T ∧ TKok b T p τ
def PP (σs τs : Mem) (b : Int → Int) (T : Nat) (C : Mem → (Int → Mem → Prop) → Prop) (σ : Mem) (p N : Nat) (σ1 : Mem) : Prop := KCy σs σ1 ∧ (0 ≤ σ1 36 4 ∧ σ1 36 4 ≤ 160 ∧ 0 ≤ σ1 36 3 ∧ σ1 36 3 ≤ 5) ∧ (srt b T p = 4 → σ1 36 3 = 1 ∧ σ1 36 4 = (sT b T p : Nat)) ∧ (srt b T p ≠ 4 → ∀ τ, SRm τs b T p N σ τ → C τ (PR τs σ1))
theorem endC {x : Int} {σ : Mem} {Q : Mem → Prop} (h : σ 36 5 = 5) (hQ : Q σ) : LX3_parse_46 x σ Q := X3_parse_46 ⟨fun _ => hQ, fun _ => ⟨fun _ => hQ, fun z => absurd h z⟩⟩
theorem stepC {t p many N : Nat} {a : Int} {σ : Mem} (hT : T ≤ 160) (hbc : ∀ i : Int, 0 ≤ i → i < T → σs 38 i = b i) (hC : CR σs T t p a many N σ) (ha : a ≠ 5) {Q : Mem → Prop} (h : ∀ σ1, Tp T σ σ1 → σ1 37 2 = (sT b T p : Nat) → σ1 37 1 = srt b T p → σ1 37 4 = (nxt b T p : Nat) → (srt b T p = 1 → σ1 37 3 = val b T p) → CV layC MX3_takeToken [vP 36] σ1 (fun σ2 => I32 ((t : Int) + 1) ∧ LX3_parse_46 ((t : Int) + 1) σ2 Q)) : LX3_parse_46 t σ Q := by
  obtain ⟨h1, ⟨h2, h3, h4, h5⟩, h6, _⟩ := hC
  exact X3_parse_46 ⟨fun z => by omega, fun _ => ⟨fun z => by rw [h6.1] at z; exact absurd z ha, fun _ => advance_s hT (fun i x y => by rw [h1.1 38 (by omega)]; exact hbc i x y) h2 h3 h5 h⟩⟩
theorem refP {C : Mem → (Int → Mem → Prop) → Prop} {σ σ2 : Mem} {p N : Nat} {F : Int} (hp : p ≤ T) (hT : T ≤ 160) (hK : KCy σs σ2) (h3 : σ2 36 3 = F) (h4 : σ2 36 4 = (sT b T p : Nat)) (hF : 1 ≤ F ∧ F ≤ 5) (hw : srt b T p = 4 → F = 1) (hC : srt b T p ≠ 4 → ∀ τ, SRm τs b T p N σ τ → ∀ R, (∀ r τ', PRf τs F (sT b T p : Nat) r τ' → R r τ') → C τ R) : PP σs τs b T C σ p N σ2 := by
  have hs := sT_in (b := b) hp
  refine ⟨hK, ⟨by rw [h4]; omega, by rw [h4]; omega, by rw [h3]; omega, by rw [h3]; omega⟩, fun z => ⟨by rw [h3]; exact hw z, h4⟩, fun z τ hS => hC z τ hS _ (fun r τ' hr => ⟨fun _ => by rw [h3, h4]; exact hr, fun y => by omega⟩)⟩
theorem refuse_s {t : Nat} (ht : t ≤ 200) {F : Int} {σ1 : Mem} {Q : Mem → Prop} (hQ : Q (upM (upM (upM σ1 36 3 F) 36 4 (σ1 37 2)) 36 5 5)) : CV layC MX3_refuse [vP 36, vI F] σ1 (fun σ2 => I32 ((t : Int) + 1) ∧ LX3_parse_46 ((t : Int) + 1) σ2 Q) := by
  refine X3_refuse_E ⟨⟨by omega, by omega⟩, endC upM_s ?_⟩
  rw [upM_q (show (37 : Nat) ≠ 36 by decide)]
  exact hQ
theorem refQ {C : Mem → (Int → Mem → Prop) → Prop} {σ σ1 : Mem} {t p many N : Nat} {a F : Int} (hT : T ≤ 160) (hC : CR σs T t p a many N σ) (hTp : Tp T σ σ1) (h2 : σ1 37 2 = (sT b T p : Nat)) (hF : 1 ≤ F ∧ F ≤ 5) (hw : srt b T p = 4 → F = 1) (hc : srt b T p ≠ 4 → ∀ τ, SRm τs b T p N σ τ → ∀ R, (∀ r τ', PRf τs F (sT b T p : Nat) r τ' → R r τ') → C τ R) : CV layC MX3_refuse [vP 36, vI F] σ1 (fun σ2 => I32 ((t : Int) + 1) ∧ LX3_parse_46 ((t : Int) + 1) σ2 (PP σs τs b T C σ p N)) := by
  refine refuse_s (by have := hC.2.1; omega) (refP hC.2.1.2.2.2 hT ((((hC.1.tp hTp).up (by decide)).up (by decide)).up (by decide)) ?_ ?_ hF hw hc)
  · rw [upM_j (by decide), upM_j (by decide), upM_s]
  · rw [upM_j (by decide), upM_s]; exact h2
theorem wrongC {C : Mem → (Int → Mem → Prop) → Prop} {σ : Mem} {t p many N : Nat} {a : Int} (hT : T ≤ 160) (hbc : ∀ i : Int, 0 ≤ i → i < T → σs 38 i = b i) (hC : CR σs T t p a many N σ) (ha : a ≠ 5) (hw : srt b T p = 4) : LX3_parse_46 t σ (PP σs τs b T C σ p N) :=
  stepC hT hbc hC ha (fun σ1 hTp h2 h1 h4 _ => X3_takeToken_E ⟨fun z => absurd (by rw [h1]; exact hw) z, fun _ => refQ hT hC hTp h2 (by decide) (fun _ => rfl) (fun z => absurd hw z)⟩)
/-- the reference takes the next token -/
theorem nextM (hT : T ≤ 160) (hbm : ∀ i : Int, 0 ≤ i → i < T → τs 5 i = b i ∧ 0 ≤ b i) {p : Nat} (hp : p ≤ T) (hK : KMy τs τ) (h7 : τ 0 7 = T) (h12 : τ 0 12 = 0) (h8 : τ 0 8 = p) {Q : Mem → Prop} (hQ : ∀ τ', Mp τ τ' → KMy τs τ' → τ' 0 7 = T → (srt b T p = 4 → FT τs τ' 1 (sT b T p : Nat)) → (srt b T p ≠ 4 → TKok b T p τ') → Q τ') : CV layM MX8_takes [vP 0] τ Q := by
  have hs := sT_in (b := b) hp
  refine takes_s hT (fun i x y => by rw [hK.1 5 (by omega)]; exact hbm i x y) h7 h12 h8 hp (fun τ' hM h1 h2 => hQ τ' hM (hK.mp hM) (by rw [hM.2 7 (by decide)]; exact h7) (fun z => ⟨(h1 z).1, by decide, (h1 z).2, by omega, hK.mp hM⟩) h2)
theorem srM2 {x : Int} : (srM x = 2 ↔ x = 1) ∧ (srM x = 0 ↔ x = 3) ∧ (srM x = 1 ↔ x = 0) := by
  unfold srM
  refine ⟨?_, ?_, ?_⟩ <;> constructor <;> intro h
  all_goals first
    | (subst h; rfl)
    | (repeat' split at h) <;> omega
end TXT
