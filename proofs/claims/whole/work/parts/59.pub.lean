/-! ===== by a seed; herds and downs that fit ===== -/
theorem bitsD (y : Int32) : ((y.toUInt32 >>> (16 : UInt32)).toInt32 &&& (32767 : Int32)) = ((y >>> (16 : Int32)) &&& 32767) := by
  apply Int32.toBitVec_inj.mp
  apply BitVec.eq_of_getLsbD_eq
  intro i hi
  simp only [Int32.toBitVec_and, BitVec.getLsbD_and, Int32.toBitVec_shiftRight]
  by_cases h : i < 15
  · have e1 : (y.toUInt32 >>> (16 : UInt32)).toInt32.toBitVec.getLsbD i = y.toBitVec.getLsbD (16 + i) := by
      show (y.toUInt32 >>> (16 : UInt32)).toBitVec.getLsbD i = _
      rw [UInt32.toBitVec_shiftRight]
      show (y.toBitVec >>> ((16 : BitVec 32) % 32)).getLsbD i = _
      rw [show ((16 : BitVec 32) % 32) = 16#32 from rfl]
      rw [BitVec.ushiftRight_eq', BitVec.getLsbD_ushiftRight]; rfl
    have e2 : (y.toBitVec.sshiftRight' ((16 : Int32).toBitVec.smod 32)).getLsbD i = y.toBitVec.getLsbD (16 + i) := by
      rw [show ((16 : Int32).toBitVec.smod 32) = 16#32 from by decide]
      rw [BitVec.sshiftRight', BitVec.getLsbD_sshiftRight]
      rw [show (16#32).toNat = 16 from rfl]
      have a : ¬ (32 ≤ i) := by omega
      have b : 16 + i < 32 := by omega
      simp [a, b]
    rw [e1, e2]
  · have : (Int32.toBitVec 32767).getLsbD i = false := by
      have : (Int32.toBitVec 32767) = 32767#32 := rfl
      rw [this, BitVec.getLsbD_ofNat]
      have : Nat.testBit 32767 i = false := Nat.testBit_lt_two_pow (by
        calc 32767 < 2 ^ 15 := by decide
          _ ≤ 2 ^ i := Nat.pow_le_pow_right (by decide) (by omega))
      simp [this]
    rw [this]; simp
theorem bDrift (v : Int) : bAnd (bUshr v 16) 32767 = bAnd (bShr v 16) 32767 := by
  unfold bAnd bUshr bShr
  rw [Int32.ofInt_toInt, Int32.ofInt_toInt]
  exact congrArg Int32.toInt (bitsD (Int32.ofInt v))
theorem bAnd_bd (x : Int) : 0 ≤ bAnd x 32767 ∧ bAnd x 32767 ≤ 32767 := by
  unfold bAnd
  have h1 : (Int32.ofInt x &&& Int32.ofInt 32767).toBitVec.toNat ≤ 32767 := by
    rw [Int32.toBitVec_and, BitVec.toNat_and]
    exact Nat.and_le_right
  have h2 : (Int32.ofInt x &&& Int32.ofInt 32767).toInt = ((Int32.ofInt x &&& Int32.ofInt 32767).toBitVec.toNat : Int) := BitVec.toInt_eq_toNat_of_lt (by omega)
  rw [h2]; omega
abbrev seed1 (s : Int) : Int := w32 (w32 (s * 1103515245) + 12345)
abbrev herd1 (s : Int) : Int := Int.tmod (bAnd (bShr (seed1 s) 16) 32767) 100
theorem herd1_bd (s : Int) : 0 ≤ herd1 s ∧ herd1 s < 100 := by
  have h := bAnd_bd (bShr (seed1 s) 16)
  unfold herd1
  rw [Int.tmod_eq_emod_of_nonneg h.1]
  exact ⟨Int.emod_nonneg _ (by decide), Int.emod_lt_of_pos _ (by decide)⟩
section SEED
variable {V N S : Nat} {K : Int} {σs τs σ τ : Mem} {f : Int → Int}
def drF (σs : Mem) (N : Nat) (K : Int) (what : Int) : Nat → Int → Int → Int
  | 0, _, a => a
  | m + 1, s, a => drF σs N K what m (seed1 s) (w32 (a + (if what = 0 then GE σs N K (herd1 s).toNat 0 else if 0 ≤ offG σs N K (herd1 s).toNat then 1 else 0)))
theorem T_drift (h : Rel σs τs) (s n y : Int) : TI MX7_drift MX8_drift [vI s, vI n, vI y] σs τs := by
  obtain ⟨V, N, S, K, hE⟩ := h.1
  have h5 := hE.2.2.1.2.2.1.1
  by_cases hn : 1 ≤ n ∧ n ≤ 60
  · by_cases hy : 0 ≤ y ∧ y ≤ 1
    · by_cases hN : N = 0
      · exact TI_of h (F := -2) (X7_drift_E (within_s (gF (fun _ => within_s (gT (fun _ => ⟨fun z => absurd (by rw [hE.2.2.1.1, hN]; rfl) z, fun _ => ⟨rfl, KC.rf⟩⟩) (fun z => absurd hy z))) (fun z => absurd hn z)))) (X8_drift_E (in_s (gF (fun _ => isPart_s (gT (fun _ => ⟨fun z => absurd (by rw [hE.2.2.1.2.1, hN]; rfl) z, fun _ => ⟨rfl, KM.rf⟩⟩) (fun z => absurd hy z))) (fun z => absurd hn z))))
      · have kC : ∀ (m t : Nat) (s a : Int) (σ : Mem), (t : Int) + m = n → (y ≠ 0 → 0 ≤ a ∧ a ≤ t) → KC σs σ → PL σ 26 N (wtD (σs 2) (σs 3) N) (cmD (σs 3) N) (alD (σs 2) (σs 3) N) → LX7_drift_54 n y a s t σ (fun r σ' => r = drF σs N K y m s a ∧ KC σs σ') := by
          intro m
          induction m with
          | zero => intro t s a σ ht ha hK hL; exact X7_drift_54 ⟨fun _ => ⟨rfl, hK⟩, fun z => by omega⟩
          | succ m ih =>
            intro t s a σ ht ha hK hL
            refine X7_drift_54 ⟨fun z => by omega, fun _ => ?_⟩
            rw [bDrift, hK.1 1 (by omega), hE.2.1.2.1]
            have hb := herd1_bd s
            refine pgPart_s hE isPt_26 hL hE.2.1.1 (v := (herd1 s).toNat) (by omega) (by show herd1 s = _; omega) (fun σ2 hF2 hP => ⟨fun hy0 => pgOff_s hE (by omega) hP ⟨fun z => ⟨⟨by omega, by omega⟩, ?_⟩, fun z => ⟨?_, ⟨by omega, by omega⟩, ?_⟩⟩, fun hy0 => got_s isPt_26 h5 hP.1.1 (by decide) (by omega) ⟨⟨by omega, by omega⟩, ?_⟩⟩)
            · have hab := ha hy0
              have := ih (t + 1) (seed1 s) a σ2 (by omega) (fun z => by have := ha z; omega) (hK.trans hF2.kc) hP.1
              rw [drF, if_neg hy0, if_neg (by omega), Int.add_zero, w32_of (show inT 0 a from ⟨by omega, by omega⟩)]
              simpa using this
            · have hab := ha hy0
              exact ⟨by omega, by omega⟩
            · have hab := ha hy0
              have := ih (t + 1) (seed1 s) (a + 1) σ2 (by omega) (fun z => by have := ha z; omega) (hK.trans hF2.kc) hP.1
              rw [drF, if_neg hy0, if_pos z, w32_of (show inT 0 (a + 1) from ⟨by omega, by omega⟩)]
              simpa using this
            · have := ih (t + 1) (seed1 s) (w32 (a + GE σs N K (herd1 s).toNat 0)) σ2 (by omega) (fun z => absurd hy0 z) (hK.trans hF2.kc) hP.1
              rw [drF, if_pos hy0, hP.2.2.2 0 (by decide) (by omega)]
              simpa using this
        have kM : ∀ (m t : Nat) (s a b : Int) (τ : Mem), (t : Int) + m = n → MS σs τs N τ → LX8_drift_49 n y s a b t τ (fun r τ' => r = drF σs N K y m s (if y = 0 then a else b) ∧ KM τs τ') := by
          intro m
          induction m with
          | zero => intro t s a b τ ht hM; exact X8_drift_49 ⟨fun _ => ⟨fun e => ⟨by rw [if_neg e]; rfl, hM.1⟩, fun e => ⟨by rw [if_pos e]; rfl, hM.1⟩⟩, fun z => by omega⟩
          | succ m ih =>
            intro t s a b τ ht hM
            have hb := herd1_bd s
            refine X8_drift_49 ⟨fun z => by omega, fun _ => ?_⟩
            rw [msKind hE hM]
            refine msGives_s hE hM (v := (herd1 s).toNat) (by omega) (by show herd1 s = _; omega) hE.2.1.1 (fun τ2 _ hM2 hg => ?_)
            have e0 := hg 0 (by decide) (by omega)
            refine msOff_s hE (v := (herd1 s).toNat) (by omega) hM2 (by show herd1 s = _; omega) hg (fun z => ⟨fun _ => flag_s ⟨⟨by omega, by omega⟩, ?_⟩, fun z2 => absurd rfl z2⟩) (fun z => ⟨fun z2 => by omega, fun _ => flag_s ⟨⟨by omega, by omega⟩, ?_⟩⟩)
            · have := ih (t + 1) (seed1 s) (w32 (a + GE σs N K (herd1 s).toNat 0)) (w32 (b + 0)) τ2 (by omega) hM2
              rw [drF, e0]
              rw [show (if y = 0 then w32 (a + GE σs N K (herd1 s).toNat 0) else w32 (b + 0)) = w32 ((if y = 0 then a else b) + (if y = 0 then GE σs N K (herd1 s).toNat 0 else if 0 ≤ offG σs N K (herd1 s).toNat then 1 else 0)) from by
                by_cases e : y = 0
                · rw [if_pos e, if_pos e, if_pos e]
                · rw [if_neg e, if_neg e, if_neg e, if_neg (by omega)]] at this
              simpa using this
            · have := ih (t + 1) (seed1 s) (w32 (a + GE σs N K (herd1 s).toNat 0)) (w32 (b + 1)) τ2 (by omega) hM2
              rw [drF, e0]
              rw [show (if y = 0 then w32 (a + GE σs N K (herd1 s).toNat 0) else w32 (b + 1)) = w32 ((if y = 0 then a else b) + (if y = 0 then GE σs N K (herd1 s).toNat 0 else if 0 ≤ offG σs N K (herd1 s).toNat then 1 else 0)) from by
                by_cases e : y = 0
                · rw [if_pos e, if_pos e, if_pos e]
                · rw [if_neg e, if_neg e, if_neg e, if_pos z]] at this
              simpa using this
        refine TI_of h (F := drF σs N K y n.toNat s 0) (X7_drift_E (within_s (gF (fun _ => within_s (gT (fun _ => ⟨fun _ => load1_s hE (fun σ' hF hL => kC n.toNat 0 s 0 σ' (by omega) (fun _ => ⟨by omega, by omega⟩) hF.kc hL), fun z => by rw [hE.2.2.1.1] at z; omega⟩) (fun z => absurd hy z))) (fun z => absurd hn z)))) (X8_drift_E (in_s (gF (fun _ => isPart_s (gT (fun _ => ⟨fun _ => msStart_s hE (fun τ1 hM => ?_), fun z => by rw [hE.2.2.1.2.1] at z; omega⟩) (fun z => absurd hy z))) (fun z => absurd hn z))))
        have := kM n.toNat 0 s 0 0 τ1 (by omega) hM
        rw [show (if y = 0 then (0 : Int) else 0) = 0 by split <;> rfl] at this
        exact this
    · exact TI_of h (F := -1) (X7_drift_E (within_s (gF (fun _ => within_s (gT (fun z => absurd z hy) (fun _ => ⟨rfl, KC.rf⟩))) (fun z => absurd hn z)))) (X8_drift_E (in_s (gF (fun _ => isPart_s (gT (fun z => absurd z hy) (fun _ => ⟨rfl, KM.rf⟩))) (fun z => absurd hn z))))
  · exact TI_of h (F := -1) (X7_drift_E (within_s (gF (fun z => absurd z hn) (fun _ => ⟨rfl, KC.rf⟩)))) (X8_drift_E (in_s (gF (fun z => absurd z hn) (fun _ => ⟨rfl, KM.rf⟩))))
/-! finds -/
theorem rE.kc (h : rE σs 1 f V N S K) (hC : KC σs σ) : rE σ 1 f V N S K := h.keep (fun q a b => hC.1 q (by omega)) (fun _ _ _ => rfl)
theorem pgOf_k (h : rE σs 1 f V N S K) (hC : KC σs σ) {v : Nat} (hv : v ≤ 2000) {x : Int} (hx : x = v) {Q : Nat → Mem → Prop} (hQ : ∀ σ', KC σs σ' → Fr 26 σ σ' → PG σs 26 N K v σ' → Q 26 σ') : CP layC MX7_partOf [vP 0, vI x] σ Q := by
  subst hx
  refine partOf_s (h.kc hC) hv (fun σ' hF hL h7 h8 hg => ?_)
  unfold GE at hg
  rw [hC.1 2 (by omega), hC.1 3 (by omega)] at hL hg
  exact hQ σ' (hC.trans hF.kc) hF ⟨hL, h7, h8, hg⟩
abbrev Tri : Type := Int × Int × Int
def Tri.n (t : Tri) : Int := t.1
def Tri.l (t : Tri) : Int := t.2.1
def Tri.g (t : Tri) : Int := t.2.2
theorem Tri.n_mk (a b c : Int) : Tri.n (a, b, c) = a := rfl
theorem Tri.l_mk (a b c : Int) : Tri.l (a, b, c) = b := rfl
theorem Tri.g_mk (a b c : Int) : Tri.g (a, b, c) = c := rfl
def tri1 (b : Bool) (v : Nat) (t : Tri) : Tri := if b then ⟨t.n + 1, if t.n = 0 then v else t.l, v⟩ else t
def noteF (b : Nat → Bool) : Nat → Nat → Tri → Tri
  | 0, _, t => t
  | m + 1, v, t => noteF b m (v + 1) (tri1 (b v) v t)
def isT (σ : Mem) (t : Tri) : Prop := σ 42 0 = t.n ∧ σ 42 1 = t.l ∧ σ 42 2 = t.g
def ans3 (what : Int) (t : Tri) : Int := if what = 0 then t.n else if what = 1 then t.l else t.g
theorem tri1_bd {b : Bool} {v : Nat} {t : Tri} (h : 0 ≤ t.n ∧ t.n ≤ v) : 0 ≤ (tri1 b v t).n ∧ (tri1 b v t).n ≤ ((v + 1 : Nat) : Int) := by
  unfold tri1; split
  · show 0 ≤ t.n + 1 ∧ t.n + 1 ≤ _; omega
  · omega
theorem clear_s {Q : Mem → Prop} (hQ : ∀ σ', (∀ q, q ≠ 42 → σ' q = σ q) → isT σ' ⟨0, -4, -4⟩ → Q σ') : CV layC MX1_clear [vP 42] σ Q :=
  X1_clear_E (hQ _ (fun q a => by rw [upM_q a, upM_q a, upM_q a]) ⟨by rw [upM_j (by decide), upM_j (by decide), upM_s]; rfl, by rw [upM_j (by decide), upM_s]; rfl, upM_s⟩)
theorem note_s {t : Tri} (hT : isT σ t) (hb : 0 ≤ t.n ∧ t.n ≤ 1000) {v : Nat} {x : Int} (hx : x = v) {Q : Mem → Prop} (hQ : ∀ σ', (∀ q, q ≠ 42 → σ' q = σ q) → isT σ' (tri1 true v t) → Q σ') : CV layC MX1_note [vP 42, vI x] σ Q := by
  subst hx
  obtain ⟨h0, h1, h2⟩ := hT
  refine X1_note_E ⟨fun z => ?_, fun z => ?_⟩
  · rw [upM_j (by decide), h0]
    refine ⟨⟨by omega, by omega⟩, hQ _ (fun q a => by rw [upM_q a, upM_q a]) ⟨upM_s, ?_, ?_⟩⟩
    · rw [upM_j (by decide), upM_j (by decide), h1]
      unfold tri1; rw [if_pos rfl]; show _ = if t.n = 0 then _ else _; rw [if_neg (by omega)]
    · rw [upM_j (by decide), upM_s]; unfold tri1; rw [if_pos rfl]; rfl
  · rw [upM_j (by decide), upM_j (by decide), h0]
    refine ⟨⟨by omega, by omega⟩, hQ _ (fun q a => by rw [upM_q a, upM_q a, upM_q a]) ⟨upM_s, ?_, ?_⟩⟩
    · rw [upM_j (by decide), upM_j (by decide), upM_s]
      unfold tri1; rw [if_pos rfl]; show _ = if t.n = 0 then _ else _; rw [if_pos (by omega)]
    · rw [upM_j (by decide), upM_s]; unfold tri1; rw [if_pos rfl]; rfl
theorem answer_s {t : Tri} (hT : isT σ t) {x : Int} {Q : Int → Mem → Prop} (hQ : Q (ans3 x t) σ) : CI layC MX1_answer [vP 42, vI x] σ Q := by
  obtain ⟨h0, h1, h2⟩ := hT
  unfold ans3 at hQ
  refine X1_answer_E ⟨fun z => ⟨fun z2 => ?_, fun z2 => ?_⟩, fun z => ?_⟩
  · rw [h2]; rwa [if_neg z, if_neg z2] at hQ
  · rw [h1]; rwa [if_neg z, if_pos z2] at hQ
  · rw [h0]; rwa [if_pos z] at hQ
theorem KC.of42 {σ' : Mem} (h : ∀ q, q ≠ 42 → σ' q = σ q) : KC σ σ' := ⟨fun q a => h q (by omega), by rw [h 0 (by decide)], by rw [h 36 (by decide)], by rw [h 37 (by decide)]⟩
theorem isT.keep {σ' : Mem} {t : Tri} (h : isT σ t) (e : σ' 42 = σ 42) : isT σ' t := by unfold isT; rw [e]; exact h
abbrev herdsB (σs : Mem) (N S : Nat) (K : Int) (v : Nat) : Bool := soB σs N S (GE σs N K v)
theorem findHerds_s (hE : rE σs 1 f V N S K) {Q : Mem → Prop} (hQ : ∀ σ', KC σs σ' → isT σ' (noteF (herdsB σs N S K) 201 0 ⟨0, -4, -4⟩) → Q σ') : CV layC MX7_findHerds [vP 0] σs Q := by
  have key : ∀ (m v : Nat) (t : Tri) (σ : Mem), v + m = 201 → (0 ≤ t.n ∧ t.n ≤ v) → isT σ t → noteF (herdsB σs N S K) m v t = noteF (herdsB σs N S K) 201 0 ⟨0, -4, -4⟩ → KC σs σ → PG σs 26 N K v σ → LX7_findHerds_15 v σ Q := by
    intro m
    induction m with
    | zero => intro v t σ hv ht hT e hK hP; exact X7_findHerds_15 ⟨fun _ => hQ σ hK (by rw [← e]; exact hT), fun z => by omega⟩
    | succ m ih =>
      intro v t σ hv ht hT e hK hP
      refine X7_findHerds_15 ⟨fun z => by omega, fun _ => asSeen_s hE isPt_26 hK hP.1.1 hP.2.2.2 (gF (fun z => ?_) (fun z => ?_))⟩
      · refine note_s hT (by omega) (v := v) rfl (fun σ1 h1 hT1 => ?_)
        refine pgGrow_s hE isPt_26 hE.2.1.1 (by omega) (hP.keep (fun q a b => h1 q (by omega))) (fun σ2 hF hP2 _ => ⟨⟨by omega, by omega⟩, ?_⟩)
        rw [noteF, show herdsB σs N S K v = true from z] at e
        have := ih (v + 1) _ σ2 (by omega) (tri1_bd ht) (hT1.keep (hF 42 (by omega))) e ((hK.trans (KC.of42 h1)).trans hF.kc) hP2
        simpa using this
      · refine pgGrow_s hE isPt_26 hE.2.1.1 (by omega) hP (fun σ2 hF hP2 _ => ⟨⟨by omega, by omega⟩, ?_⟩)
        rw [noteF, show herdsB σs N S K v = false from Bool.not_eq_true _ ▸ z] at e
        have := ih (v + 1) t σ2 (by omega) (by omega) (hT.keep (hF 42 (by omega))) e (hK.trans hF.kc) hP2
        simpa using this
  refine X7_findHerds_E (clear_s (fun σ1 h1 hT => pgOf_k hE (KC.of42 h1) (v := 0) (by omega) rfl (fun σ2 hK hF hP => ⟨rfl, key 201 0 _ σ2 rfl ⟨by decide, by decide⟩ (hT.keep (hF 42 (by omega))) rfl hK hP⟩)))
theorem herdSo_s (hE : rE σs 1 (τs 1) V N S K) (hM : MS σs τs N τ) {v : Nat} (hv : v ≤ 2000) {x : Int} (hx : x = v) {Q : Int → Mem → Prop} (hQ : ∀ τ', Gg τ τ' → MS σs τs N τ' → (∀ i : Int, 0 ≤ i → i < N → τ' 7 i = GE σs N K v i) → Q (if herdsB σs N S K v then 1 else 0) τ') : CI layM MX8_isHerdSo [vP 0, vI x] τ Q := by
  refine X8_isHerdSo_E ?_
  rw [msKind hE hM]
  exact msGives_s hE hM hv hx hE.2.1.1 (fun τ2 hG hM2 hg => msSo_s hE hM2.1 (msMany hM2) hg ⟨by split <;> omega, hQ τ2 hG hM2 hg⟩)
theorem ofThree_s {x : Int} {t : Tri} {Q : Int → Mem → Prop} (hQ : Q (ans3 x t) τ) : CI layM MX8_ofThree [vP 0, vI x, vI t.n, vI t.l, vI t.g] τ Q := by
  unfold ans3 at hQ
  refine X8_ofThree_E ⟨fun z => ⟨fun z2 => ?_, fun z2 => ?_⟩, fun z => ?_⟩
  · rwa [if_neg z, if_neg z2] at hQ
  · rwa [if_neg z, if_pos z2] at hQ
  · rwa [if_pos z] at hQ
theorem T_herds (h : Rel σs τs) (x : Int) : TI MX7_herds MX8_herds [vI x] σs τs := by
  obtain ⟨V, N, S, K, hE⟩ := h.1
  by_cases hx : 0 ≤ x ∧ x ≤ 2
  · have kM : ∀ (m v : Nat) (t : Tri) (τ : Mem), v + m = 201 → (0 ≤ t.n ∧ t.n ≤ v) → MS σs τs N τ → LX8_herds_30 x t.n t.l t.g v τ (fun r τ' => r = ans3 x (noteF (herdsB σs N S K) m v t) ∧ KM τs τ') := by
      intro m
      induction m with
      | zero => intro v t τ hv ht hM; exact X8_herds_30 ⟨fun _ => ofThree_s ⟨rfl, hM.1⟩, fun z => by omega⟩
      | succ m ih =>
        intro v t τ hv ht hM
        refine X8_herds_30 ⟨fun z => by omega, fun _ => herdSo_s hE hM (v := v) (by omega) rfl (fun τ2 _ hM2 _ => gF (fun z => ?_) (fun z => ⟨⟨by omega, by omega⟩, ?_⟩))⟩
        · have := ih (v + 1) (tri1 true v t) τ2 (by omega) (tri1_bd ht) hM2
          rw [noteF, show herdsB σs N S K v = true from z]
          unfold tri1 at this ⊢
          rw [if_pos rfl] at this ⊢
          refine ⟨fun z0 => ⟨⟨by omega, by omega⟩, ⟨by omega, by omega⟩, ?_⟩, fun z0 => ⟨⟨by omega, by omega⟩, ⟨by omega, by omega⟩, ?_⟩⟩
          · rw [if_neg z0] at this ⊢
            simpa [Tri.n_mk, Tri.l_mk, Tri.g_mk] using this
          · rw [if_pos z0] at this ⊢
            simpa [Tri.n_mk, Tri.l_mk, Tri.g_mk] using this
        · have := ih (v + 1) t τ2 (by omega) (by omega) hM2
          rw [noteF, show herdsB σs N S K v = false from Bool.not_eq_true _ ▸ z]
          show LX8_herds_30 _ _ _ _ _ _ (fun r τ' => r = ans3 x (noteF (herdsB σs N S K) m (v + 1) t) ∧ KM τs τ')
          simpa using this
    exact TI_of h (F := ans3 x (noteF (herdsB σs N S K) 201 0 ⟨0, -4, -4⟩)) (X7_herds_E (within_s (gT (fun _ => findHerds_s hE (fun σ' hK hT => answer_s hT ⟨rfl, hK⟩)) (fun z => absurd hx z)))) (X8_herds_E (in_s (gT (fun _ => msStart_s hE (fun τ1 hM => kM 201 0 ⟨0, -4, -4⟩ τ1 rfl ⟨by decide, by decide⟩ hM)) (fun z => absurd hx z))))
  · exact TI_of h (F := -1) (X7_herds_E (within_s (gT (fun z => absurd z hx) (fun _ => ⟨rfl, KC.rf⟩)))) (X8_herds_E (in_s (gT (fun z => absurd z hx) (fun _ => ⟨rfl, KM.rf⟩))))
/-! downs -/
theorem wtD_congr {u u' d d' : Int → Int} (hu : ∀ i : Int, 0 ≤ i → i < N → u i = u' i) (hd : ∀ i : Int, 0 ≤ i → i < N → d i = d' i) : cmD d N = cmD d' N ∧ (∀ i : Int, 0 ≤ i → i < N → wtD u d N i = wtD u' d' N i) ∧ alD u d N = alD u' d' N := by
  have e : cmD d N = cmD d' N := prodF_congr hd
  have e2 : ∀ i : Int, 0 ≤ i → i < N → wtD u d N i = wtD u' d' N i := fun i a b => by unfold wtD; rw [e, hu i a b, hd i a b]
  exact ⟨e, e2, sumF_congr e2⟩
theorem PL.congr {u u' d d' : Int → Int} {b : Nat} (hL : PL σ b N (wtD u d N) (cmD d N) (alD u d N)) (hu : ∀ i : Int, 0 ≤ i → i < N → u i = u' i) (hd : ∀ i : Int, 0 ≤ i → i < N → d i = d' i) : PL σ b N (wtD u' d' N) (cmD d' N) (alD u' d' N) := by
  obtain ⟨e1, e2, e3⟩ := wtD_congr hu hd
  obtain ⟨a1, a2, a3, a4⟩ := hL
  exact ⟨a1, by rw [a2, e1], by rw [a3, e3], fun i a b => by rw [a4 i a b, e2 i a b]⟩
theorem okP.congr {u u' d d' : Int → Int} (h : okP N u d) (hu : ∀ i : Int, 0 ≤ i → i < N → u i = u' i) (hd : ∀ i : Int, 0 ≤ i → i < N → d i = d' i) : okP N u' d' :=
  ⟨h.1, fun i a b => by rw [← hu i a b, ← hd i a b]; exact h.2 i a b⟩
theorem okP.setd {u d : Int → Int} {x v : Int} (h : okP N u d) (hv : 1 ≤ v ∧ v ≤ 99) : okP N u (setF d x v) :=
  ⟨h.1, fun i a b => ⟨(h.2 i a b).1, by unfold setF; split; exact hv; exact (h.2 i a b).2⟩⟩
/-- what all get when the x-th part is by v -/
abbrev GD (σs : Mem) (N : Nat) (K : Int) (V : Nat) (x : Int) (v : Nat) : Int → Int := allo N (wtD (σs 2) (setF (σs 3) x v) N) (cmD (setF (σs 3) x v) N) (alD (σs 2) (setF (σs 3) x v) N) K V
theorem T_downs (h : Rel σs τs) (x y : Int) : TI MX7_downs MX8_downs [vI x, vI y] σs τs := by
  obtain ⟨V, N, S, K, hE⟩ := h.1
  have hV := hE.1.1
  have hok := hE.2.2.1.2.2.1
  have h5 := hok.1
  by_cases hx : 0 ≤ x ∧ x < N
  · by_cases hy : 0 ≤ y ∧ y ≤ 2
    · have kC : ∀ (m v : Nat) (t : Tri) (σ : Mem), 1 ≤ v → v + m = 100 → (0 ≤ t.n ∧ t.n ≤ v) → isT σ t → KC σs σ → σ 6 2 = N → (∀ i : Int, 0 ≤ i → i < 5 → σ 7 i = σs 2 i ∧ (i ≠ x → σ 8 i = σs 3 i)) → LX7_downs_42 x y v σ (fun r σ' => r = ans3 y (noteF (fun v => soB σs N S (GD σs N K V x v)) m v t) ∧ KC σs σ') := by
        intro m
        induction m with
        | zero => intro v t σ _ hv ht hT hK _ _; exact X7_downs_42 ⟨fun _ => answer_s hT ⟨rfl, hK⟩, fun z => by omega⟩
        | succ m ih =>
          intro v t σ hv1 hv ht hT hK h6 h78
          have c0 : KC σs (upM σ 8 x v) := hK.trans ⟨fun q a => upM_q (by omega), by rw [upM_q (by decide)], by rw [upM_q (by decide)], by rw [upM_q (by decide)]⟩
          have e7 : ∀ i : Int, 0 ≤ i → i < N → upM σ 8 x v (6 + 1) i = σs 2 i := fun i a b => by rw [upM_q (by decide)]; exact (h78 i a (by omega)).1
          have e8 : ∀ i : Int, 0 ≤ i → i < N → upM σ 8 x v (6 + 2) i = setF (σs 3) x v i := fun i a b => by
            unfold setF
            by_cases e : i = x
            · rw [if_pos e, e]; exact upM_s
            · rw [if_neg e, upM_j e]; exact (h78 i a (by omega)).2 e
          refine X7_downs_42 ⟨fun z => by omega, fun _ => ⟨hx.1, by omega, load_s isPt_26 isE_6 (by omega) (N := N) (by rw [upM_q (by decide)]; exact h6) ((hok.setd (x := x) (v := v) ⟨by omega, by omega⟩).congr (fun i a b => (e7 i a b).symm) (fun i a b => (e8 i a b).symm)) (fun σ1 hF hL => ?_)⟩⟩
          have hL2 := hL.congr e7 e8
          have c1 := c0.trans hF.kc
          rw [c1.1 1 (by omega), hE.2.1.2.1, hE.1.2.1]
          refine part_s isPt_26 (okW_of (hok.setd (x := x) (v := v) ⟨by omega, by omega⟩)) hE.2.1.1 (by omega) hL2 (fun σ2 hF2 _ _ hg => ?_)
          have fr2 : Fr 26 σ1 σ2 := fun q hq => hF2.1 q (by omega) (by omega) (by omega)
          have c2 := c1.trans fr2.kc
          have k6 : σ2 6 2 = N ∧ ∀ i : Int, 0 ≤ i → i < 5 → σ2 7 i = σs 2 i ∧ (i ≠ x → σ2 8 i = σs 3 i) := by
            rw [fr2 6 (by omega), hF 6 (by omega), upM_q (by decide), fr2 7 (by omega), hF 7 (by omega), upM_q (by decide), fr2 8 (by omega), hF 8 (by omega)]
            exact ⟨h6, fun i a b => ⟨(h78 i a b).1, fun e => by rw [upM_j e]; exact (h78 i a b).2 e⟩⟩
          have hT2 : isT σ2 t := hT.keep (by rw [fr2 42 (by omega), hF 42 (by omega), upM_q (by decide)])
          refine asSeen_s hE isPt_26 c2 (hL2.fp hF2).1 hg (gF (fun z => note_s hT2 (by omega) (v := v) rfl (fun σ3 h3 hT3 => ⟨⟨by omega, by omega⟩, ?_⟩)) (fun z => ⟨⟨by omega, by omega⟩, ?_⟩))
          · have := ih (v + 1) _ σ3 (by omega) (by omega) (tri1_bd ht) hT3 (c2.trans (KC.of42 h3)) (by rw [h3 6 (by decide)]; exact k6.1) (by rw [h3 7 (by decide), h3 8 (by decide)]; exact k6.2)
            rw [noteF, show soB σs N S (GD σs N K V x v) = true from z]
            simpa using this
          · have := ih (v + 1) t σ2 (by omega) (by omega) (by omega) hT2 c2 k6.1 k6.2
            rw [noteF, show soB σs N S (GD σs N K V x v) = false from Bool.not_eq_true _ ▸ z]
            show LX7_downs_42 _ _ _ _ (fun r τ' => r = ans3 y (noteF (fun v => soB σs N S (GD σs N K V x v)) m (v + 1) t) ∧ KC σs τ')
            simpa using this
      have kM : ∀ (m v : Nat) (t : Tri) (τ : Mem), 1 ≤ v → v + m = 100 → (0 ≤ t.n ∧ t.n ≤ v) → KM τs τ → (τ 2 0 = V ∧ τ 2 1 = N ∧ τ 2 2 = K) → (∀ i : Int, 0 ≤ i → i < N → τ 2 (3 + 2 * i) = σs 2 i ∧ (i ≠ x → τ 2 (3 + 2 * i + 1) = σs 3 i)) → LX8_downs_39 x y t.n t.l t.g v τ (fun r τ' => r = ans3 y (noteF (fun v => soB σs N S (GD σs N K V x v)) m v t) ∧ KM τs τ') := by
        intro m
        induction m with
        | zero => intro v t τ _ hv ht hM _ _; exact X8_downs_39 ⟨fun _ => ofThree_s ⟨rfl, hM⟩, fun z => by omega⟩
        | succ m ih =>
          intro v t τ hv1 hv ht hM h2 hu
          refine X8_downs_39 ⟨fun z => by omega, fun _ => X8_isDownSo_E ⟨⟨by omega, by omega⟩, ⟨by omega, by omega⟩, ⟨by omega, by omega⟩, by omega, by omega, ?_⟩⟩
          have c0 : KM τs (upM τ 2 (3 + 2 * x + 1) v) := hM.trans ⟨fun q a => upM_q (by omega), by rw [upM_q (by decide)], by rw [upM_q (by decide)], by rw [upM_q (by decide)]⟩
          have hu1 : ∀ i : Int, 0 ≤ i → i < N → upM τ 2 (3 + 2 * x + 1) v 2 (3 + 2 * i) = σs 2 i ∧ upM τ 2 (3 + 2 * x + 1) v 2 (3 + 2 * i + 1) = setF (σs 3) x v i := fun i a b => by
            rw [upM_j (by omega)]
            refine ⟨(hu i a b).1, ?_⟩
            unfold setF
            by_cases e : i = x
            · rw [if_pos e, e, upM_s]
            · rw [if_neg e, upM_j (by omega)]; exact (hu i a b).2 e
          have ok1 := hok.setd (x := x) (v := v) ⟨by omega, by omega⟩
          refine reckons_s ok1 (by rw [upM_j (by omega)]; exact h2.2.1) hu1 (fun τ1 f1 f2 hL1 => X8_givesNow_E ?_)
          have e2 : ∀ j : Int, τ1 2 j = upM τ 2 (3 + 2 * x + 1) v 2 j := fun j => by rw [f1 2 (by decide) (by decide)]
          rw [e2 0, e2 2, upM_j (by omega), upM_j (by omega), h2.1, h2.2.2]
          have c1 : KM τs τ1 := c0.trans ⟨fun q a => f1 q (by omega) (by omega), f2 7 (by decide) (by decide), f2 12 (by decide) (by decide), f2 31 (by decide) (by decide)⟩
          refine gives_s ok1 hL1 (by omega) hE.2.1.1 (fun τ2 hG hg => ?_)
          have c2 := c1.trans hG.sm.km
          have e3 : ∀ j : Int, j ≠ 3 + 2 * x + 1 → τ2 2 j = τ 2 j := fun j a => by rw [hG 2 (by decide) (by decide), e2 j, upM_j a]
          refine msSo_s hE c2 (by rw [e3 1 (by omega)]; exact h2.2.1) hg ⟨by split <;> omega, gF (fun z => ?_) (fun z => ⟨⟨by omega, by omega⟩, ?_⟩)⟩
          · have := ih (v + 1) (tri1 true v t) τ2 (by omega) (by omega) (tri1_bd ht) c2 (by rw [e3 0 (by omega), e3 1 (by omega), e3 2 (by omega)]; exact h2) (fun i a b => ⟨by rw [e3 _ (by omega)]; exact (hu i a b).1, fun e => by rw [e3 _ (by omega)]; exact (hu i a b).2 e⟩)
            rw [noteF, show soB σs N S (GD σs N K V x v) = true from z]
            unfold tri1 at this ⊢
            rw [if_pos rfl] at this ⊢
            refine ⟨fun z0 => ⟨⟨by omega, by omega⟩, ⟨by omega, by omega⟩, ?_⟩, fun z0 => ⟨⟨by omega, by omega⟩, ⟨by omega, by omega⟩, ?_⟩⟩
            · rw [if_neg z0] at this ⊢
              simpa [Tri.n_mk, Tri.l_mk, Tri.g_mk] using this
            · rw [if_pos z0] at this ⊢
              simpa [Tri.n_mk, Tri.l_mk, Tri.g_mk] using this
          · have := ih (v + 1) t τ2 (by omega) (by omega) (by omega) c2 (by rw [e3 0 (by omega), e3 1 (by omega), e3 2 (by omega)]; exact h2) (fun i a b => ⟨by rw [e3 _ (by omega)]; exact (hu i a b).1, fun e => by rw [e3 _ (by omega)]; exact (hu i a b).2 e⟩)
            rw [noteF, show soB σs N S (GD σs N K V x v) = false from Bool.not_eq_true _ ▸ z]
            show LX8_downs_39 _ _ _ _ _ _ _ (fun r τ' => r = ans3 y (noteF (fun v => soB σs N S (GD σs N K V x v)) m (v + 1) t) ∧ KM τs τ')
            simpa using this
      refine TI_of h (F := ans3 y (noteF (fun v => soB σs N S (GD σs N K V x v)) 99 1 ⟨0, -4, -4⟩)) (X7_downs_E (has_s isE_1 hE.2.2.1.1 (gF (fun _ => within_s (gT (fun _ => clear_s (fun σ1 h1 hT => copy_s isE_6 isE_1 (by omega) (fun σ2 p1 p2 p3 p4 => ?_))) (fun z => absurd hy z))) (fun z => absurd hx z)))) (X8_downs_E (isHeir_s hE.2.2.1.2.1 h5 (gF (fun _ => in_s (gT (fun _ => msStart_s hE (fun τ1 hM => kM 99 1 ⟨0, -4, -4⟩ τ1 (by omega) rfl ⟨by decide, by decide⟩ hM.1 ⟨by rw [hM.2.1 0 (by decide) (by decide)]; exact hE.1.2.2, msMany hM, msKind hE hM⟩ (fun i a b => ⟨(hM.2.2.2.1 i a b).1, fun _ => (hM.2.2.2.1 i a b).2⟩))) (fun z => absurd hy z))) (fun z => absurd hx z))))
      have c2 : KC σs σ2 := (KC.of42 h1).trans ⟨fun q a => p1 q (by omega), by rw [p1 0 (by omega)], by rw [p1 36 (by omega)], by rw [p1 37 (by omega)]⟩
      refine kC 99 1 ⟨0, -4, -4⟩ σ2 (by omega) rfl ⟨by decide, by decide⟩ (hT.keep (p1 42 (by omega))) c2 (by rw [p2 2 (by decide), h1 1 (by decide)]; exact hE.2.2.1.1) (fun i a b => ?_)
      have := p3 i a b
      rw [h1 (1 + 1) (by decide), h1 (1 + 2) (by decide)] at this
      exact ⟨this.1, fun _ => this.2⟩
    · exact TI_of h (F := -1) (X7_downs_E (has_s isE_1 hE.2.2.1.1 (gF (fun _ => within_s (gT (fun z => absurd z hy) (fun _ => ⟨rfl, KC.rf⟩))) (fun z => absurd hx z)))) (X8_downs_E (isHeir_s hE.2.2.1.2.1 h5 (gF (fun _ => in_s (gT (fun z => absurd z hy) (fun _ => ⟨rfl, KM.rf⟩))) (fun z => absurd hx z))))
  · exact TI_of h (F := -1) (X7_downs_E (has_s isE_1 hE.2.2.1.1 (gF (fun z => absurd z hx) (fun _ => ⟨rfl, KC.rf⟩)))) (X8_downs_E (isHeir_s hE.2.2.1.2.1 h5 (gF (fun z => absurd z hx) (fun _ => ⟨rfl, KM.rf⟩))))
end SEED
