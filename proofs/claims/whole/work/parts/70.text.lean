/-! ===== the text: the states in which a number or a semicolon is awaited ===== -/
theorem srt_in (b : Int → Int) (T p : Nat) : srt b T p = 0 ∨ srt b T p = 1 ∨ srt b T p = 2 ∨ srt b T p = 3 ∨ srt b T p = 4 := by
  unfold srt
  repeat' split
  all_goals omega
theorem monoL {x : Int} {σ : Mem} {Q Q' : Mem → Prop} (h : LX3_parse_46 x σ Q) (hq : ∀ σ', Q σ' → Q' σ') : LX3_parse_46 x σ Q' := Rn.mono h (fun _ σ' hx => ⟨hx.1, hq σ' hx.2⟩)
section SIM
variable {σs τs : Mem} {b : Int → Int} {T : Nat}
theorem goP {C C' : Mem → (Int → Mem → Prop) → Prop} {σ σ2 : Mem} {p p2 N N2 : Nat} {x : Int} (hsr : srt b T p ≠ 4) (h : LX3_parse_46 x σ2 (PP σs τs b T C' σ2 p2 N2)) (hm : ∀ σ1, PP σs τs b T C' σ2 p2 N2 σ1 → ∀ τ, SRm τs b T p N σ τ → C τ (PR τs σ1)) : LX3_parse_46 x σ2 (PP σs τs b T C σ p N) :=
  monoL h (fun σ1 h1 => ⟨h1.1, h1.2.1, fun z => absurd z hsr, fun _ τ hS => hm σ1 h1 τ hS⟩)
theorem prW {C : Mem → (Int → Mem → Prop) → Prop} {σ σ1 : Mem} {p N : Nat} (h : PP σs τs b T C σ p N σ1) (z : srt b T p = 4) : ∀ r τ', PRf τs 1 (sT b T p : Nat) r τ' → PR τs σ1 r τ' := fun r τ' hr => by
  obtain ⟨e1, e2⟩ := h.2.2.1 z
  exact ⟨fun _ => by rw [e1, e2]; exact hr, fun y => by omega⟩
def S0 (σs τs : Mem) (b : Int → Int) (T t : Nat) : Prop := ∀ (σ : Mem) (p many N : Nat), CR σs T t p 0 many N σ → LX3_parse_46 t σ (PP σs τs b T (fun τ R => LX8_text_20 many τ R) σ p N)
def S1 (σs τs : Mem) (b : Int → Int) (T t : Nat) : Prop := ∀ (σ : Mem) (p many N : Nat), N ≤ 4 → CR σs T t p 1 many N σ → LX3_parse_46 t σ (PP σs τs b T (fun τ R => C145 4 many τ R) σ p N)
def S2 (σs τs : Mem) (b : Int → Int) (T t : Nat) : Prop := ∀ (σ : Mem) (p many N : Nat) (v : Int), N ≤ 4 → (1 ≤ v ∧ v ≤ 9) → σ 36 6 = v → CR σs T t p 2 many N σ → LX3_parse_46 t σ (PP σs τs b T (fun τ R => τ 4 (3 + 2 * (N : Int)) = v → C2 many N τ R) σ p N)
def S3 (σs τs : Mem) (b : Int → Int) (T t : Nat) : Prop := ∀ (σ : Mem) (p many N : Nat), CR σs T t p 3 many N σ → LX3_parse_46 t σ (PP σs τs b T (fun τ R => C145 5 many τ R) σ p N)
def S4 (σs τs : Mem) (b : Int → Int) (T t : Nat) : Prop := ∀ (σ : Mem) (p many N : Nat), CR σs T t p 4 many N σ → LX3_parse_46 t σ (PP σs τs b T (fun τ R => C4 many τ R) σ p N)
/-- class: a token is gone, what is awaited is a' -/
theorem CR.next {σ σ1 σ2 : Mem} {t p many many' N N' : Nat} {a a' : Int} (hC : CR σs T t p a many N σ) (hTp : Tp T σ σ1) (h4 : σ1 37 4 = (nxt b T p : Nat)) (h3 : srt b T p ≠ 3) (hK : KCy σs σ2) (h37 : σ2 37 = σ1 37) (h5 : σ2 36 5 = a') (h33 : σ2 36 3 = 0) (h34 : σ2 36 4 = 0) (h2 : σ2 36 2 = many' ∧ many' ≤ t + 1) (h78 : (σ2 36 7 = 0 ∨ σ2 36 7 = 1) ∧ (σ2 36 8 = 0 ∨ σ2 36 8 = 1)) (hN : σ2 21 2 = N' ∧ N' ≤ 5) : CR σs T (t + 1) (nxt b T p) a' many' N' σ2 := by
  have hp := hC.2.1.2.2
  have hn := nxt_in (b := b) hp.2
  have hs := sT_in (b := b) hp.2
  have := hn.2.2 h3
  exact ⟨hK, ⟨by rw [h37]; exact hTp.2, by rw [h37]; exact h4, by omega, hn.2.1⟩, ⟨h5, h33, h34, h2.1, h2.2⟩, h78, hN⟩
theorem SRm.step {σ σ2 τ τ' : Mem} {p p2 N : Nat} (hS : SRm τs b T p N σ τ) (hM : Mp τ τ') (hK : KMy τs τ') (h7 : τ' 0 7 = T) (hok : TKok b T p2 τ') (h36 : σ2 36 7 = σ 36 7 ∧ σ2 36 8 = σ 36 8) (hd : ∀ q, 21 ≤ q → q ≤ 25 → σ2 q = σ q) : SRm τs b T p2 N σ2 τ' := by
  obtain ⟨⟨V, K, hE⟩, ⟨h4, h5⟩, _⟩ := hS
  exact ⟨⟨V, K, hE.keep (fun q a c => hd q a (by omega)) (fun j _ _ => by rw [hM.1 4 (by decide)])⟩, ⟨by rw [hM.2 4 (by decide), h36.1]; exact h4, by rw [hM.2 5 (by decide), h36.2]; exact h5⟩, hK, h7, hok⟩
theorem sim4 (hT : T ≤ 160) (hbc : ∀ i : Int, 0 ≤ i → i < T → σs 38 i = b i) (hbm : ∀ i : Int, 0 ≤ i → i < T → τs 5 i = b i ∧ 0 ≤ b i) {t : Nat} (h0 : S0 σs τs b T (t + 1)) : S4 σs τs b T t := by
  intro σ p many N hC
  have hp := hC.2.1.2.2
  have hm := hC.2.2.1.2.2.2.2
  have hs := sT_in (b := b) hp.2
  have hn := nxt_in (b := b) hp.2
  by_cases hw : srt b T p = 4
  · exact wrongC hT hbc hC (by decide) hw
  · refine stepC hT hbc hC (by decide) (fun σ1 hTp h2 h1 h4 _ => X3_takeToken_E ⟨fun _ => ⟨fun z => absurd (by rw [hTp.1 36 (by decide)]; exact hC.2.2.1.1) z, fun _ => X3_takeSemicolon_E ⟨fun z => ?_, fun z => ?_⟩⟩, fun z => absurd (h1.symm.trans z) hw⟩)
    · rw [h1] at z
      have e2 : σ1 36 2 = many := by rw [hTp.1 36 (by decide)]; exact hC.2.2.1.2.2.2.1
      rw [e2]
      refine ⟨⟨by omega, by omega⟩, ⟨by omega, by omega⟩, ?_⟩
      have f36 : ∀ j : Int, j ≠ 2 → j ≠ 5 → upM (upM σ1 36 2 ((many : Int) + 1)) 36 5 0 36 j = σ 36 j := fun j a c => by rw [upM_j c, upM_j a, hTp.1 36 (by decide)]
      have fq : ∀ q, q ≠ 36 → upM (upM σ1 36 2 ((many : Int) + 1)) 36 5 0 q = σ1 q := fun q a => by rw [upM_q a, upM_q a]
      have hC2 : CR σs T (t + 1) (nxt b T p) 0 (many + 1) N (upM (upM σ1 36 2 ((many : Int) + 1)) 36 5 0) := hC.next hTp h4 (by omega) (((hC.1.tp hTp).up (by decide)).up (by decide)) (fq 37 (by decide)) upM_s (by rw [f36 3 (by decide) (by decide)]; exact hC.2.2.1.2.1) (by rw [f36 4 (by decide) (by decide)]; exact hC.2.2.1.2.2.1) ⟨by rw [upM_j (by decide), upM_s]; rfl, by omega⟩ (by rw [f36 7 (by decide) (by decide), f36 8 (by decide) (by decide)]; exact hC.2.2.2.1) (by rw [fq 21 (by decide), hTp.1 21 (by decide)]; exact hC.2.2.2.2)
      have ih := h0 _ _ _ _ hC2
      refine goP hw (by simpa using ih) (fun σf hP τ hS => ?_)
      obtain ⟨t12, t9, t8, t10, tv⟩ := hS.2.2.2.2
      refine ⟨fun y => absurd t12 y, fun _ => ⟨fun y => absurd (by rw [t10, z]; rfl) y, fun _ => needs_s (fun _ => nextM hT hbm hn.2.1 hS.2.2.1 hS.2.2.2.1 t12 t8 (fun τ' hM hK h7 hw2 hok2 => ?_)) (fun y _ => absurd y (by decide))⟩⟩
      refine ⟨⟨by omega, by omega⟩, ?_⟩
      by_cases z2 : srt b T (nxt b T p) = 4
      · exact f20 (hw2 z2) (prW hP z2)
      · have := hP.2.2.2 z2 τ' (hS.step hM hK h7 (hok2 z2) ⟨f36 7 (by decide) (by decide), f36 8 (by decide) (by decide)⟩ (fun q a c => by rw [fq q (by omega), hTp.1 q (by omega)]))
        simpa using this
    · rw [h1] at z
      refine refQ hT hC hTp h2 (by decide) (fun y => absurd y hw) (fun _ τ hS R hR => ?_)
      obtain ⟨t12, t9, t8, t10, tv⟩ := hS.2.2.2.2
      refine ⟨fun y => absurd t12 y, fun _ => ⟨fun y => needs_s (fun y2 => ?_) (fun _ _ => ?_), fun y => ?_⟩⟩
      · rcases y2 with y2 | y2
        · exact absurd rfl y2
        · exact absurd t12 y2
      · have ft := FT.of (F := 2) t9 (show 0 ≤ ((sT b T p : Nat) : Int) ∧ ((sT b T p : Nat) : Int) ≤ 160 by omega) hS.2.2.1 (by decide)
        exact takes_f (by rw [ft.1]; decide) (fKt ft ⟨by omega, by omega⟩ hR)
      · exfalso
        rw [t10] at y
        rcases srt_in b T p with e | e | e | e | e
        · rw [e] at y; exact absurd y (by decide)
        · rw [e] at y; exact absurd y (by decide)
        · exact z e
        · rw [e] at y; exact absurd y (by decide)
        · exact hw e
/-- the class awaits a number: it is none, out of bounds, or in bounds -/
theorem numC {C : Mem → (Int → Mem → Prop) → Prop} (hT : T ≤ 160) (hbc : ∀ i : Int, 0 ≤ i → i < T → σs 38 i = b i) {t p many N : Nat} {a : Int} {σ : Mem} (hC : CR σs T t p a many N σ) (ha : a = 1 ∨ a = 2 ∨ a = 3) (lo hi : Int) (hlh : (a = 1 → lo = 1 ∧ hi = 9) ∧ (a = 2 → lo = 1 ∧ hi = 99) ∧ (a = 3 → lo = 0 ∧ hi = 999))
    (hf : ∀ F : Int, 1 ≤ F → ((F = 2 ∧ srt b T p ≠ 1) ∨ (F = 3 ∧ srt b T p = 1 ∧ ¬ (lo ≤ val b T p ∧ val b T p ≤ hi))) → ∀ τ, SRm τs b T p N σ τ → ∀ R, (∀ r τ', PRf τs F (sT b T p : Nat) r τ' → R r τ') → C τ R)
    (hg : srt b T p = 1 → (lo ≤ val b T p ∧ val b T p ≤ hi) → ∀ σ1, Tp T σ σ1 → σ1 37 2 = (sT b T p : Nat) → σ1 37 4 = (nxt b T p : Nat) → σ1 37 3 = val b T p → (((σ1 36 5) ≠ 1 → (((σ1 36 5) ≠ 2 → I32 ((t : Int) + 1) ∧ LX3_parse_46 ((t : Int) + 1) (upM (upM σ1 21 0 (σ1 37 3)) 36 5 4) (PP σs τs b T C σ p N)) ∧ ((σ1 36 5) = 2 → CI layC MX0_add [vP 21, vI (σ1 36 6), vI (σ1 37 3)] σ1 (fun r4 σ3 => I32 ((t : Int) + 1) ∧ LX3_parse_46 ((t : Int) + 1) (upM σ3 36 5 4) (PP σs τs b T C σ p N))))) ∧ ((σ1 36 5) = 1 → I32 ((t : Int) + 1) ∧ LX3_parse_46 ((t : Int) + 1) (upM (upM σ1 36 6 (σ1 37 3)) 36 5 2) (PP σs τs b T C σ p N)))) :
    LX3_parse_46 t σ (PP σs τs b T C σ p N) := by
  by_cases hw : srt b T p = 4
  · exact wrongC hT hbc hC (by omega) hw
  · refine stepC hT hbc hC (by omega) (fun σ1 hTp h2 h1 h4 h3 => ?_)
    have e5 : σ1 36 5 = a := by rw [hTp.1 36 (by decide)]; exact hC.2.2.1.1
    refine X3_takeToken_E ⟨fun _ => ⟨fun _ => ⟨fun z => by omega, fun _ => ?_⟩, fun z => by omega⟩, fun z => absurd (h1.symm.trans z) hw⟩
    refine X3_takeNumber_E ⟨fun z => ?_, fun z => ?_⟩
    · rw [h1] at z
      have ev := h3 z
      have fin : ∀ (r : Int), r = (if lo ≤ val b T p ∧ val b T p ≤ hi then 1 else 0) → (r = 0 ∨ r = 1) ∧ ((r ≠ 0 → (((σ1 36 5) ≠ 1 → (((σ1 36 5) ≠ 2 → I32 ((t : Int) + 1) ∧ LX3_parse_46 ((t : Int) + 1) (upM (upM σ1 21 0 (σ1 37 3)) 36 5 4) (PP σs τs b T C σ p N)) ∧ ((σ1 36 5) = 2 → CI layC MX0_add [vP 21, vI (σ1 36 6), vI (σ1 37 3)] σ1 (fun r4 σ3 => I32 ((t : Int) + 1) ∧ LX3_parse_46 ((t : Int) + 1) (upM σ3 36 5 4) (PP σs τs b T C σ p N))))) ∧ ((σ1 36 5) = 1 → I32 ((t : Int) + 1) ∧ LX3_parse_46 ((t : Int) + 1) (upM (upM σ1 36 6 (σ1 37 3)) 36 5 2) (PP σs τs b T C σ p N)))) ∧ (r = 0 → CV layC MX3_refuse [vP 36, vI 3] σ1 (fun σ5 => I32 ((t : Int) + 1) ∧ LX3_parse_46 ((t : Int) + 1) σ5 (PP σs τs b T C σ p N)))) := by
        intro r hr
        by_cases hin : lo ≤ val b T p ∧ val b T p ≤ hi
        · rw [if_pos hin] at hr
          subst hr
          exact ⟨Or.inr rfl, fun _ => hg z hin σ1 hTp h2 h4 ev, fun y => absurd y (by decide)⟩
        · rw [if_neg hin] at hr
          subst hr
          exact ⟨Or.inl rfl, fun y => absurd rfl y, fun _ => refQ hT hC hTp h2 (by decide) (fun y => absurd y hw) (fun _ => hf 3 (by decide) (Or.inr ⟨rfl, z, hin⟩))⟩
      refine X3_isInBounds_E ⟨fun z3 => ⟨fun z1 => within_s (fin _ ?_), fun z1 => within_s (fin _ ?_)⟩, fun z3 => isHerd_s (fin _ ?_)⟩
      · rw [ev]; obtain ⟨e1, e2⟩ := hlh.2.1 (by omega); rw [e1, e2]
      · rw [ev]; obtain ⟨e1, e2⟩ := hlh.1 (by omega); rw [e1, e2]
      · rw [ev]; obtain ⟨e1, e2⟩ := hlh.2.2 (by omega); rw [e1, e2]
    · rw [h1] at z
      exact refQ hT hC hTp h2 (by decide) (fun y => absurd y hw) (fun _ => hf 2 (by decide) (Or.inl ⟨rfl, z⟩))
theorem sim3 (hT : T ≤ 160) (hbc : ∀ i : Int, 0 ≤ i → i < T → σs 38 i = b i) (hbm : ∀ i : Int, 0 ≤ i → i < T → τs 5 i = b i ∧ 0 ≤ b i) {t : Nat} (h4' : S4 σs τs b T (t + 1)) : S3 σs τs b T t := by
  intro σ p many N hC
  have hp := hC.2.1.2.2
  have hm := hC.2.2.1.2.2.2.2
  have hs := sT_in (b := b) hp.2
  have hn := nxt_in (b := b) hp.2
  refine numC hT hbc hC (by omega) 0 999 ⟨fun z => by omega, fun z => by omega, fun _ => ⟨rfl, rfl⟩⟩ (fun F hF hcase τ hS R hR => ?_) (fun hsr hin σ1 hTp h2 h4 ev => ?_)
  · obtain ⟨t12, t9, t8, t10, tv⟩ := hS.2.2.2.2
    have ft : ∀ F : Int, 1 ≤ F → FT τs (upM (upM τ 0 12 F) 0 13 (τ 0 9)) F (sT b T p : Nat) := fun F hF => FT.of t9 (by omega) hS.2.2.1 hF
    refine ⟨fun _ => X8_readLineOf_E ⟨fun e => absurd e (by decide), fun _ => readNumber_s t12 (fun z => ?_) (fun z z2 => ?_) (fun z z2 => ?_), fun e => absurd rfl e.2⟩, fun z => by omega⟩
    · rcases hcase with ⟨e, _⟩ | ⟨_, e, _⟩
      · subst e; exact fC4 (ft 2 (by decide)).up4 ⟨by omega, by omega⟩ hR
      · rw [t10, e] at z; exact absurd rfl z
    · rcases hcase with ⟨_, e⟩ | ⟨e, e1, _⟩
      · rw [t10] at z; exact absurd (srM2.1.mp z) e
      · subst e; exact fC4 (ft 3 (by decide)).up4 ⟨by omega, by omega⟩ hR
    · rcases hcase with ⟨_, e⟩ | ⟨_, e1, e2⟩
      · rw [t10] at z; exact absurd (srM2.1.mp z) e
      · rw [tv e1] at z2; exact absurd z2 e2
  · have e5 : σ1 36 5 = 3 := by rw [hTp.1 36 (by decide)]; exact hC.2.2.1.1
    refine ⟨fun _ => ⟨fun _ => ⟨⟨by omega, by omega⟩, ?_⟩, fun z => by omega⟩, fun z => by omega⟩
    rw [ev]
    have f36 : ∀ j : Int, j ≠ 5 → upM (upM σ1 21 0 (val b T p)) 36 5 4 36 j = σ 36 j := fun j a => by rw [upM_j a, upM_q (by decide), hTp.1 36 (by decide)]
    have fq : ∀ q, q ≠ 36 → q ≠ 21 → upM (upM σ1 21 0 (val b T p)) 36 5 4 q = σ1 q := fun q a c => by rw [upM_q a, upM_q c]
    have hN : upM (upM σ1 21 0 (val b T p)) 36 5 4 21 2 = N := by rw [upM_q (by decide), upM_j (by decide), hTp.1 21 (by decide)]; exact hC.2.2.2.2.1
    have hC2 : CR σs T (t + 1) (nxt b T p) 4 many N (upM (upM σ1 21 0 (val b T p)) 36 5 4) := hC.next hTp h4 (by omega) (((hC.1.tp hTp).up (by decide)).up (by decide)) (fq 37 (by decide) (by decide)) upM_s (by rw [f36 3 (by decide)]; exact hC.2.2.1.2.1) (by rw [f36 4 (by decide)]; exact hC.2.2.1.2.2.1) ⟨by rw [f36 2 (by decide)]; exact hC.2.2.1.2.2.2.1, by omega⟩ (by rw [f36 7 (by decide), f36 8 (by decide)]; exact hC.2.2.2.1) ⟨hN, hC.2.2.2.2.2⟩
    have ih := h4' _ _ _ _ hC2
    refine goP (by omega) (by simpa using ih) (fun σf hP τ hS => ?_)
    obtain ⟨t12, t9, t8, t10, tv⟩ := hS.2.2.2.2
    have ev2 := tv hsr
    refine ⟨fun _ => X8_readLineOf_E ⟨fun e => absurd e (by decide), fun _ => readNumber_s t12 (fun z => absurd (by rw [t10, hsr]; rfl) z) (fun _ z2 => absurd (by rw [ev2]; exact hin) z2) (fun _ _ => nextM hT hbm hn.2.1 hS.2.2.1 hS.2.2.2.1 t12 t8 (fun τ' hM hK h7 hw2 hok2 => ?_)), fun e => absurd rfl e.2⟩, fun z => by omega⟩
    rw [ev2]
    by_cases z2 : srt b T (nxt b T p) = 4
    · exact fC4 (hw2 z2).up4 ⟨by omega, by omega⟩ (prW hP z2)
    · obtain ⟨⟨V, K, hE⟩, ⟨q4, q5⟩, _⟩ := hS
      have hN5 := hE.2.2.1.2.2.1.1
      refine hP.2.2.2 z2 _ ⟨⟨(val b T p).toNat, K, ?_⟩, ⟨?_, ?_⟩, hK.up4, by rw [upM_q (by decide)]; exact h7, ?_⟩
      · refine hE.arr (fun q a c => by rw [fq q (by omega) (by omega), hTp.1 q (by omega)]) (fun j a c d => by rw [upM_j (by omega), hM.1 4 (by decide)]) ⟨by omega, by rw [upM_q (by decide), upM_s]; omega, by rw [upM_s]; omega⟩ ⟨hE.2.1.1, by rw [upM_q (by decide), upM_j (by decide), hTp.1 21 (by decide)]; exact hE.2.1.2.1, by rw [upM_j (by decide), hM.1 4 (by decide)]; exact hE.2.1.2.2⟩ ⟨hN, by rw [upM_j (by decide), hM.1 4 (by decide)]; exact hE.2.2.1.2.1⟩ ⟨Nat.le_refl _, by rw [upM_q (by decide), upM_j (by decide), hTp.1 21 (by decide)]; exact hE.2.2.2.2.1, by rw [upM_j (by decide), hM.1 4 (by decide)]; exact hE.2.2.2.2.2.1⟩
      · rw [upM_q (by decide), hM.2 4 (by decide), f36 7 (by decide)]; exact q4
      · rw [upM_q (by decide), hM.2 5 (by decide), f36 8 (by decide)]; exact q5
      · unfold TKok; rw [upM_q (show (0 : Nat) ≠ 4 by decide)]; exact hok2 z2
end SIM
