/-! ===== wills: the class ===== -/
def outN (k : Int) (c len : Nat) : Nat := if k < 0 then c + len else min (c + len) (k.toNat + 1)
def rowIs (A : Nat) (σ : Mem) : Nat → List Nat → Prop
  | _, [] => True
  | p, a :: l => σ 40 p = dv A a ∧ rowIs A σ (p + 1) l
def CS (σs : Mem) (A n : Nat) (k : Int) (c : Nat) (σ : Mem) : Prop := KC σs σ ∧ (σ 39 0 = c ∧ σ 39 3 = MD A ∧ σ 39 4 = A ∧ σ 39 5 = n ∧ σ 39 6 = k) ∧ ∀ j : Nat, j < MD A → σ 41 j = dv A j
section WC
variable {σs τs : Mem} {A n : Nat} {k : Int}
theorem CS.up40 {σ : Mem} {c : Nat} {j x : Int} (h : CS σs A n k c σ) : CS σs A n k c (upM σ 40 j x) := by
  refine ⟨h.1.trans ⟨fun q a => upM_q (by omega), by rw [upM_q (by decide)], by rw [upM_q (by decide)], by rw [upM_q (by decide)]⟩, ?_, ?_⟩
  · rw [upM_q (show (39 : Nat) ≠ 40 by decide)]; exact h.2.1
  · rw [upM_q (show (41 : Nat) ≠ 40 by decide)]; exact h.2.2
theorem CS.up0 {σ : Mem} {c c' : Nat} {x : Int} (h : CS σs A n k c σ) (hx : x = c') : CS σs A n k c' (upM σ 39 0 x) := by
  refine ⟨h.1.trans ⟨fun q a => upM_q (by omega), by rw [upM_q (by decide)], by rw [upM_q (by decide)], by rw [upM_q (by decide)]⟩, ⟨by rw [upM_s]; exact hx, ?_⟩, ?_⟩
  · rw [upM_j (by decide), upM_j (by decide), upM_j (by decide), upM_j (by decide)]; exact h.2.1.2
  · rw [upM_q (show (41 : Nat) ≠ 39 by decide)]; exact h.2.2
theorem rowIs_keep {σ σ' : Mem} (h : σ' 40 = σ 40) : ∀ (l : List Nat) (p : Nat), rowIs A σ p l → rowIs A σ' p l
  | [], _, _ => trivial
  | a :: l, p, hr => ⟨by rw [h]; exact hr.1, rowIs_keep h l (p + 1) hr.2⟩
theorem outN_0 {c : Nat} (h : k < 0 ∨ (c : Int) ≤ k) : outN k c 0 = c := by unfold outN; split <;> omega
theorem choose_s (hA : A ≤ 1008) (hn : n ≤ 4) : ∀ (r kr depth f : Nat) (left : Int) (σ : Mem) (c : Nat), r < kr → depth + r = n → f ≤ MD A → CS σs A n k c σ → (k < 0 ∨ (c : Int) ≤ k) → (0 ≤ left ∧ left ≤ 999) → c + (cl A r f left).length ≤ 2000000 →
    ∀ {Q : Mem → Prop}, (∀ σ', CS σs A n k (outN k c (cl A r f left).length) σ' → (∀ j : Int, 0 ≤ j → j < depth → σ' 40 j = σ 40 j) → (∀ l, 0 ≤ k → (cl A r f left)[k.toNat - c]? = some l → rowIs A σ' depth l) → Q σ') → CV layC (MX6_choose kr) [vP 39, vI depth, vI f, vI left] σ Q := by
  intro r
  induction r with
  | zero =>
    intro kr depth f left σ c hkr hd hf hS hk hl hB Q hQ
    obtain ⟨kr, rfl⟩ : ∃ k', kr = k' + 1 := ⟨kr - 1, by omega⟩
    refine X6_choose_E ⟨fun z => by rw [hS.2.1.2.2.2.1] at z; omega, fun _ => ?_⟩
    rw [cl_zero] at hQ hB
    rw [hS.2.1.1]
    refine ⟨fun z => ?_, fun z => ?_⟩
    · rw [if_neg z] at hQ
      refine ⟨⟨by omega, by omega⟩, hQ _ (by rw [List.length_nil, outN_0 hk]; exact hS.up0 (by omega)) (fun j _ _ => by rw [upM_q (by decide)]) (fun l _ e => by simp at e)⟩
    · rw [if_pos z] at hQ hB
      refine ⟨⟨by omega, by omega⟩, hQ _ ?_ (fun j _ _ => by rw [upM_q (by decide)]) (fun l h0 e => ?_)⟩
      · refine hS.up0 ?_
        show (c : Int) + 1 = ((outN k c 1 : Nat) : Int)
        unfold outN; split <;> omega
      · cases e2 : k.toNat - c with
        | zero => rw [e2] at e; have : l = [] := by simpa using e.symm
                  subst this; trivial
        | succ i => rw [e2] at e; simp at e
  | succ r ih =>
    intro kr depth f left σ c hkr hd hf hS hk hl hB Q hQ
    obtain ⟨kr, rfl⟩ : ∃ k', kr = k' + 1 := ⟨kr - 1, by omega⟩
    have hM : MD A ≤ 32 := nD_32 A hA
    have loop : ∀ (m d : Nat) (σ1 : Mem) (c1 : Nat), d + m = MD A → CS σs A n k c1 σ1 → (k < 0 ∨ (c1 : Int) ≤ k) → c1 + (cl A (r + 1) d left).length ≤ 2000000 → ∀ {Q : Mem → Prop}, (∀ σ', CS σs A n k (outN k c1 (cl A (r + 1) d left).length) σ' → (∀ j : Int, 0 ≤ j → j < depth → σ' 40 j = σ1 40 j) → (∀ l, 0 ≤ k → (cl A (r + 1) d left)[k.toNat - c1]? = some l → rowIs A σ' depth l) → Q σ') → LX6_choose_30 kr depth left d σ1 Q := by
      intro m
      induction m with
      | zero =>
        intro d σ1 c1 hdm hS1 hk1 hB1 Q hQ
        rw [cl_ge (by omega)] at hQ
        refine X6_choose_30 ⟨fun _ => hQ σ1 (by rw [List.length_nil, outN_0 hk1]; exact hS1) (fun _ _ _ => rfl) (fun l _ e => by simp at e), fun z => by rw [hS1.2.1.2.1] at z; omega⟩
      | succ m ih2 =>
        intro d σ1 c1 hdm hS1 hk1 hB1 Q hQ
        have hdM : d < MD A := by omega
        have hdv := dv_bd hdM
        have hsb := sh_bd A d
        have e5 : σ1 39 5 - depth = ((r + 1 : Nat) : Int) := by rw [hS1.2.1.2.2.2.1]; omega
        have mm := mulbd (x := sh A d) (X := 1008) (y := ((r + 1 : Nat) : Int)) (Y := 4) hsb.1 (by omega) (by omega) (by omega)
        refine X6_choose_30 ⟨fun z => by rw [hS1.2.1.2.1] at z; omega, fun _ => X6_isFound_E ?_⟩
        rw [hS1.2.1.2.2.2.2, hS1.2.1.1]
        have body : 0 ≤ (d : Int) ∧ (d : Int) < 32 ∧ CJ layC MX7_quotient [vJ (σ1 39 4), vJ (σ1 41 d)] σ1 (fun r4 σ3 => I32 r4 ∧ I32 ((σ3 39 5) - depth) ∧ I32 (r4 * ((σ3 39 5) - depth)) ∧ ((left ≤ (r4 * ((σ3 39 5) - depth)) → ((left < r4 → I32 ((d : Int) + 1) ∧ LX6_choose_30 kr depth left ((d : Int) + 1) σ3 Q) ∧ (r4 ≤ left → 0 ≤ (d : Int) ∧ (d : Int) < 32 ∧ 0 ≤ (depth : Int) ∧ (depth : Int) < 4 ∧ I32 ((depth : Int) + 1) ∧ I32 (left - r4) ∧ CV layC (MX6_choose kr) [vP 39, vI ((depth : Int) + 1), vI d, vI (left - r4)] (upM σ3 40 depth (σ3 41 d)) (fun σ5 => I32 ((d : Int) + 1) ∧ LX6_choose_30 kr depth left ((d : Int) + 1) σ5 Q)))) ∧ ((r4 * ((σ3 39 5) - depth)) < left → Q σ3))) := by
          refine ⟨by omega, by omega, ?_⟩
          rw [hS1.2.1.2.2.1, hS1.2.2 d hdM]
          refine quot_s (by omega) (by omega) (by omega) ?_
          rw [show ((A : Int) / ((dv A d : Nat) : Int)) = sh A d from rfl, e5]
          have i32 : I32 ((d : Int) + 1) := ⟨by omega, by omega⟩
          refine ⟨⟨by omega, by omega⟩, ⟨by omega, by omega⟩, ⟨by omega, by omega⟩, fun z => ⟨fun z2 => ⟨i32, ?_⟩, fun z2 => ⟨by omega, by omega, by omega, by omega, ⟨by omega, by omega⟩, ⟨by omega, by omega⟩, ?_⟩⟩, fun z => ?_⟩
          · -- too large a share
            rw [cl_lt hdM, cl_neg (r := r) (left := left - sh A d) (by omega)] at hQ hB1
            have := ih2 (d + 1) σ1 c1 (by omega) hS1 hk1 hB1 hQ
            simpa using this
          · rw [cl_lt hdM] at hQ hB1
            rw [List.length_append, List.length_map] at hB1
            have hB2 : c1 + (cl A r d (left - sh A d)).length ≤ 2000000 := by omega
            have rcv := ih kr (depth + 1) d (left - sh A d) (upM σ1 40 depth (dv A d : Nat)) c1 (by omega) (by omega) (by omega) hS1.up40 hk1 ⟨by omega, by omega⟩ hB2 (Q := fun σ5 => I32 ((d : Int) + 1) ∧ LX6_choose_30 kr depth left ((d : Int) + 1) σ5 Q)
            rw [hS1.2.2 d hdM]
            refine rcv (fun σ2 hS2 hfr hrow => ⟨i32, ?_⟩)
            rw [List.length_append, List.length_map] at hQ
            by_cases hgo : k < 0 ∨ ((outN k c1 (cl A r d (left - sh A d)).length : Nat) : Int) ≤ k
            · have hc2 : outN k c1 (cl A r d (left - sh A d)).length = c1 + (cl A r d (left - sh A d)).length := by
                unfold outN at hgo ⊢
                split
                · rfl
                · rename_i hkn
                  rw [if_neg hkn] at hgo; omega
              rw [hc2] at hS2 hgo
              have := ih2 (d + 1) σ2 _ (by omega) hS2 hgo (by omega) (Q := Q) (fun σ3 hS3 hfr3 hrow3 => hQ σ3 ?_ (fun j a b => ?_) (fun l h0 e => ?_))
              · simpa using this
              · rw [show outN k c1 ((cl A r d (left - sh A d)).length + (cl A (r + 1) (d + 1) left).length) = outN k (c1 + (cl A r d (left - sh A d)).length) (cl A (r + 1) (d + 1) left).length from by unfold outN; rw [Nat.add_assoc]]
                exact hS3
              · rw [hfr3 j a b, hfr j a (by omega), upM_j (by omega)]
              · refine hrow3 l h0 ?_
                rw [List.getElem?_append_right (by rw [List.length_map]; omega), List.length_map] at e
                rw [← e]
                congr 1
                omega
            · have hgo' : 0 ≤ k ∧ k < ((outN k c1 (cl A r d (left - sh A d)).length : Nat) : Int) := by omega
              have hc2 : outN k c1 (cl A r d (left - sh A d)).length = k.toNat + 1 ∧ k.toNat + 1 ≤ c1 + (cl A r d (left - sh A d)).length := by
                unfold outN at hgo' ⊢
                rw [if_neg (by omega)] at hgo' ⊢; omega
              have fin : Q σ2 := by
                refine hQ σ2 ?_ (fun j a b => by rw [hfr j a (by omega), upM_j (by omega)]) (fun l h0 e => ?_)
                · rw [show outN k c1 ((cl A r d (left - sh A d)).length + (cl A (r + 1) (d + 1) left).length) = outN k c1 (cl A r d (left - sh A d)).length from by
                    rw [hc2.1]; unfold outN; rw [if_neg (by omega)]; omega]
                  exact hS2
                · rw [List.getElem?_append_left (by rw [List.length_map]; omega), List.getElem?_map] at e
                  cases e2 : (cl A r d (left - sh A d))[k.toNat - c1]? with
                  | none => rw [e2] at e; simp at e
                  | some l' =>
                    rw [e2] at e
                    have : l = d :: l' := by simpa using e.symm
                    subst this
                    exact ⟨by rw [hfr depth (by omega) (by omega), upM_s], hrow l' h0 e2⟩
              refine X6_choose_30 ⟨fun _ => fin, fun _ => X6_isFound_E ?_⟩
              rw [hS2.2.1.2.2.2.2, hS2.2.1.1]
              exact ⟨fun z => by omega, fun _ => ⟨fun z => by omega, fun _ => ⟨fun _ => fin, fun z => absurd z (by decide)⟩⟩⟩
          · have hz : cl A (r + 1) d left = [] := cl_big (by rw [Int.mul_comm]; exact z)
            rw [hz] at hQ
            exact hQ σ1 (by rw [List.length_nil, outN_0 hk1]; exact hS1) (fun _ _ _ => rfl) (fun l _ e => by simp at e)
        exact ⟨fun z => ⟨fun z2 => absurd rfl z2, fun _ => body⟩, fun z => ⟨fun _ => ⟨fun z2 => absurd rfl z2, fun _ => body⟩, fun z2 => by omega⟩⟩
    refine X6_choose_E ⟨fun _ => loop (MD A - f) f σ c (by omega) hS hk hB hQ, fun z => by rw [hS.2.1.2.2.2.1] at z; omega⟩
theorem nD_small {A : Nat} (h : A < 2) : nD A (A + 1) = 0 := by
  have : A = 0 ∨ A = 1 := by omega
  rcases this with e | e <;> subst e <;> rfl
theorem findDowns_s (hA : A ≤ 1008) {σ : Mem} (h4 : σ 39 4 = A) {Q : Mem → Prop} (hQ : ∀ σ' : Mem, (∀ q, q ≠ 39 → q ≠ 41 → σ' q = σ q) → (∀ j : Int, j ≠ 3 → σ' 39 j = σ 39 j) → σ' 39 3 = (MD A : Int) → (∀ j : Nat, j < MD A → σ' 41 j = (dv A j : Int)) → Q σ') : CV layC MX6_findDowns [vP 39] σ Q := by
  have hM : MD A ≤ 32 := nD_32 A hA
  refine X6_findDowns_E ?_
  by_cases hA2 : A < 2
  · refine X6_findDowns_7 ⟨fun _ => hQ _ (fun q a b => upM_q a) (fun j a => upM_j a) (by rw [upM_s, MD, nD_small hA2]; rfl) (fun j a => by rw [MD, nD_small hA2] at a; omega), fun z => by rw [upM_j (by decide), h4] at z; omega⟩
  · have key : ∀ (m a : Nat) (σ1 : Mem), a + m = A + 1 → 2 ≤ a → (∀ q, q ≠ 39 → q ≠ 41 → σ1 q = σ q) → (∀ j : Int, j ≠ 3 → σ1 39 j = σ 39 j) → σ1 39 3 = nD A a → (∀ j : Nat, j < nD A a → σ1 41 j = dF A a j) → LX6_findDowns_7 a σ1 Q := by
      intro m
      induction m with
      | zero =>
        intro a σ1 ha h2 hF hF39 h3 h41
        have e : a = A + 1 := by omega
        subst e
        exact X6_findDowns_7 ⟨fun _ => hQ σ1 hF hF39 h3 h41, fun z => by rw [hF39 4 (by decide), h4] at z; omega⟩
      | succ m ih =>
        intro a σ1 ha h2 hF hF39 h3 h41
        have e4 : σ1 39 4 = A := by rw [hF39 4 (by decide)]; exact h4
        have i32 : I32 ((a : Int) + 1) := ⟨by omega, by omega⟩
        refine X6_findDowns_7 ⟨fun z => by omega, fun _ => ?_⟩
        rw [e4]
        refine remd_s (by omega) (by omega) ⟨fun z => ⟨i32, ?_⟩, fun z => ⟨fun z2 => ?_, fun _ => ?_⟩⟩
        · have hc : ¬ (2 ≤ a ∧ A % a = 0) := fun y => z (by rw [show ((A : Int) % (a : Int)) = ((A % a : Nat) : Int) from rfl, y.2]; rfl)
          have := ih (a + 1) σ1 (by omega) (by omega) hF hF39 (by rw [nD_step, if_neg hc]; exact h3) (fun j hj => by rw [nD_step, if_neg hc] at hj; rw [dF, if_neg (fun y => hc y.1)]; exact h41 j hj)
          simpa using this
        · have hc : 2 ≤ a ∧ A % a = 0 := ⟨h2, by have : ((A % a : Nat) : Int) = 0 := z; omega⟩
          have := nD_mono A (show a + 1 ≤ A + 1 by omega)
          rw [nD_step, if_pos hc] at this
          have := nD_32 A hA
          omega
        · have hc : 2 ≤ a ∧ A % a = 0 := ⟨h2, by have : ((A % a : Nat) : Int) = 0 := z; omega⟩
          have hm := nD_mono A (show a + 1 ≤ A + 1 by omega)
          rw [nD_step, if_pos hc] at hm
          have hm2 := nD_32 A hA
          rw [upM_q (show (39 : Nat) ≠ 41 by decide), h3]
          refine ⟨by omega, by omega, ⟨by omega, by omega⟩, i32, ?_⟩
          have := ih (a + 1) (upM (upM σ1 41 (nD A a : Nat) a) 39 3 ((nD A a : Nat) + 1)) (by omega) (by omega) (fun q x y => by rw [upM_q x, upM_q y]; exact hF q x y) (fun j x => by rw [upM_j x, upM_q (by decide)]; exact hF39 j x) (by rw [upM_s, nD_step, if_pos hc]; rfl) (fun j hj => by
            rw [nD_step, if_pos hc] at hj
            rw [upM_q (show (41 : Nat) ≠ 39 by decide), dF]
            by_cases e : j = nD A a
            · rw [if_pos ⟨hc, e⟩, e, upM_s]
            · rw [if_neg (fun y => e y.2), upM_j (by omega)]; exact h41 j (by omega))
          simpa using this
    have := key (A - 1) 2 (upM σ 39 3 0) (by omega) (by omega) (fun q a b => upM_q a) (fun j a => upM_j a) (by rw [upM_s]; rfl) (fun j hj => absurd hj (by rw [show nD A 2 = 0 from rfl]; omega))
    exact this
theorem run_s (hA : A ≤ 1008) (hn : 1 ≤ n ∧ n ≤ 4) {V l : Int} (hV : 0 ≤ V ∧ V ≤ 999) (hl : 0 ≤ l) (hAV : V + l = A) {Q : Mem → Prop} (hQ : ∀ σ', CS σs A n k (outN k 0 (cl A n 0 V).length) σ' → (∀ l, 0 ≤ k → (cl A n 0 V)[k.toNat]? = some l → rowIs A σ' 0 l) → Q σ') : CV layC MX6_run [vP 39, vI V, vI l, vI n, vI k] σs Q := by
  refine X6_run_E ⟨⟨by omega, by omega⟩, ?_⟩
  rw [hAV, show min (n : Int) 4 = n by omega]
  refine findDowns_s hA (by rw [upM_j (by decide), upM_j (by decide), upM_s]) (fun σ1 hF h39 h3 h41 => ?_)
  have hS : CS σs A n k 0 σ1 := by
    have f : ∀ q, q ≠ 39 → q ≠ 41 → σ1 q = σs q := fun q a b => by rw [hF q a b, upM_q a, upM_q a, upM_q a, upM_q a]
    refine ⟨⟨fun q a => f q (by omega) (by omega), by rw [f 0 (by decide) (by decide)], by rw [f 36 (by decide) (by decide)], by rw [f 37 (by decide) (by decide)]⟩, ⟨?_, h3, ?_, ?_, ?_⟩, h41⟩
    · rw [h39 0 (by decide), upM_j (by decide), upM_j (by decide), upM_j (by decide), upM_s]; rfl
    · rw [h39 4 (by decide), upM_j (by decide), upM_j (by decide), upM_s]
    · rw [h39 5 (by decide), upM_j (by decide), upM_s]
    · rw [h39 6 (by decide), upM_s]
  have hB := cl_len (A := A) (r := n) (f := 0) (left := V) hA hn.2
  exact choose_s hA hn.2 n 6 0 0 V σ1 0 (by omega) (by omega) (by omega) hS (by omega) hV (by omega) (fun σ' h1 _ h3 => hQ σ' h1 h3)
/-! ===== wills: the reference ===== -/
def WS (τs : Mem) (A : Nat) (c : Nat) (τ : Mem) : Prop := KM τs τ ∧ (τ 0 20 = MD A ∧ τ 0 22 = c) ∧ ∀ j : Nat, j < MD A → τ 9 j = dv A j
def Res (τs : Mem) (A n : Nat) (k : Int) (c : Nat) (L : List (List Nat)) (r : Int) (τ : Mem) : Prop := KM τs τ ∧ ((k < 0 ∨ ((c + L.length : Nat) : Int) ≤ k) → r = 0 ∧ τ 0 22 = ((c + L.length : Nat) : Int)) ∧ ((0 ≤ k ∧ k < ((c + L.length : Nat) : Int)) → r = 1 ∧ ∃ ρ : Nat → Nat, (∀ j, j < n → τ 10 j = ρ j ∧ ρ j < MD A ∧ τ 9 (ρ j) = dv A (ρ j)) ∧ L[k.toNat - c]? = some (lst ρ 0 n))
theorem WS.up10 {τ : Mem} {c : Nat} {j x : Int} (h : WS τs A c τ) : WS τs A c (upM τ 10 j x) := by
  refine ⟨h.1.trans ⟨fun q a => upM_q (by omega), by rw [upM_q (by decide)], by rw [upM_q (by decide)], by rw [upM_q (by decide)]⟩, ?_, ?_⟩
  · rw [upM_q (show (0 : Nat) ≠ 10 by decide)]; exact h.2.1
  · rw [upM_q (show (9 : Nat) ≠ 10 by decide)]; exact h.2.2
theorem WS.up22 {τ : Mem} {c c' : Nat} {x : Int} (h : WS τs A c τ) (hx : x = c') : WS τs A c' (upM τ 0 22 x) := by
  refine ⟨h.1.trans ⟨fun q a => upM_q (by omega), upM_j (by decide), upM_j (by decide), upM_j (by decide)⟩, ⟨by rw [upM_j (by decide)]; exact h.2.1.1, by rw [upM_s]; exact hx⟩, ?_⟩
  rw [upM_q (show (9 : Nat) ≠ 0 by decide)]; exact h.2.2
theorem walk_s (hA : A ≤ 1008) (hn : 1 ≤ n ∧ n ≤ 4) {V : Nat} (hV : τs 1 0 = V) : ∀ (m : Nat) (ρ : Nat → Nat) (c : Nat) (τ : Mem), (sfx (MD A) (lst ρ 0 n)).length ≤ m → WS τs A c τ → (∀ j : Nat, j < n → τ 10 j = ρ j ∧ ρ j < MD A) → (k < 0 ∨ (c : Int) ≤ k) → c + ((sfx (MD A) (lst ρ 0 n)).filter (fun l => decide (sumS A l = (V : Int)))).length ≤ 2000000 →
    ∀ {Q : Int → Mem → Prop}, (∀ r τ', Res τs A n k c ((sfx (MD A) (lst ρ 0 n)).filter (fun l => decide (sumS A l = (V : Int)))) r τ' → Q r τ') → LX8_walksWills_100 n k A 1 τ Q := by
  have hM : MD A ≤ 32 := nD_32 A hA
  intro m
  induction m with
  | zero =>
    intro ρ c τ hm hW hρ hk hB Q hQ
    exfalso
    have : ∀ (l : List Nat), 0 < (sfx (MD A) l).length := by
      intro l
      induction l with
      | nil => exact Nat.one_pos
      | cons d l ih => rw [sfx, List.length_append, List.length_map]; omega
    have := this (lst ρ 0 n)
    omega
  | succ m ih =>
    intro ρ c τ hm hW hρ hk hB Q hQ
    refine X8_walksWills_100 ⟨fun z => absurd z (by decide), fun _ => ?_⟩
    -- on to the next row, when c1 are found, the others being L1
    have next : ∀ (c1 : Nat) (τ1 : Mem), WS τs A c1 τ1 → (∀ j : Nat, j < n → τ1 10 j = ρ j ∧ ρ j < MD A) → (k < 0 ∨ (c1 : Int) ≤ k) →
        (∀ (L1 : List (List Nat)), ((sfx (MD A) (lst ρ 0 n)) = lst ρ 0 n :: L1) → c1 + (L1.filter (fun l => decide (sumS A l = (V : Int)))).length ≤ 2000000 ∧ ∀ r τ', Res τs A n k c1 (L1.filter (fun l => decide (sumS A l = (V : Int)))) r τ' → Q r τ') →
        ∀ (t : Nat), t ≤ n → (∀ j, t ≤ j → j < n → ρ j + 1 = MD A) → LX8_walksWills_179 n k A ((t : Int) - 1) τ1 Q := by
      intro c1 τ1 hW1 hρ1 hk1 hR t
      induction t with
      | zero =>
        intro ht hmax
        obtain ⟨_, hR⟩ := hR [] (by rw [sfx_last n 0 (fun j a b => hmax j a (by omega))])
        refine X8_walksWills_179 ⟨fun _ => X8_walksWills_206 ⟨fun _ => X8_walksWills_100 ⟨fun _ => hR 0 τ1 ⟨hW1.1, fun _ => ⟨rfl, hW1.2.1.2⟩, fun z => by rw [List.filter_nil, List.length_nil] at z; omega⟩, fun z => absurd rfl z⟩, fun z => by omega⟩, fun z => by omega⟩
      | succ t iht =>
        intro ht hmax
        rw [show ((t + 1 : Nat) : Int) - 1 = t by omega]
        have ht1 := hρ1 t (by omega)
        refine X8_walksWills_179 ⟨fun z => by omega, fun _ => ⟨by omega, by omega, ?_⟩⟩
        rw [hW1.2.1.1, ht1.1]
        refine ⟨⟨by omega, by omega⟩, fun z => ?_, fun z => ⟨⟨by omega, by omega⟩, ?_⟩⟩
        · -- here it can go on
          have hlt : ρ t + 1 < MD A := by omega
          refine X8_walksWills_206 ⟨fun z => by omega, fun _ => ?_⟩
          rw [ht1.1]
          refine ⟨by omega, by omega, ⟨by omega, by omega⟩, by omega, by omega, ⟨by omega, by omega⟩, ?_⟩
          have hnx := sfx_next (M := MD A) (ρ := ρ) (ρ' := fun j => if j < t then ρ j else ρ t + 1) (p := t) hlt (fun j hj => if_pos hj) n 0 (by omega) (by omega) (fun j a b => hmax j (by omega) (by omega)) (fun j a b => if_neg (by omega))
          obtain ⟨hb2, hR⟩ := hR _ hnx
          have fill : ∀ (mm j : Nat) (τ2 : Mem), j + mm = n → t < j → WS τs A c1 τ2 → (∀ i : Nat, i < t → τ2 10 i = ρ i) → (∀ i : Nat, t ≤ i → i < j → τ2 10 i = ((ρ t + 1 : Nat) : Int)) → LX8_walksWills_240 n k A 1 t j τ2 Q := by
            intro mm
            induction mm with
            | zero =>
              intro j τ2 hj htj hW2 h1 h2
              refine X8_walksWills_240 ⟨fun _ => ih (fun j => if j < t then ρ j else ρ t + 1) c1 τ2 (by rw [hnx, List.length_cons] at hm; omega) hW2 (fun i hi => ?_) hk1 hb2 hR, fun z => by omega⟩
              by_cases e : i < t
              · show τ2 10 i = ((if i < t then ρ i else ρ t + 1 : Nat) : Int) ∧ (if i < t then ρ i else ρ t + 1) < MD A
                rw [if_pos e]; exact ⟨h1 i e, (hρ1 i hi).2⟩
              · show τ2 10 i = ((if i < t then ρ i else ρ t + 1 : Nat) : Int) ∧ (if i < t then ρ i else ρ t + 1) < MD A
                rw [if_neg e]; exact ⟨h2 i (by omega) (by omega), hlt⟩
            | succ mm ihm =>
              intro j τ2 hj htj hW2 h1 h2
              refine X8_walksWills_240 ⟨fun z => by omega, fun _ => ⟨by omega, by omega, by omega, by omega, ⟨by omega, by omega⟩, ?_⟩⟩
              have := ihm (j + 1) (upM τ2 10 j (τ2 10 t)) (by omega) (by omega) hW2.up10 (fun i hi => by rw [upM_j (by omega)]; exact h1 i hi) (fun i a b => by
                by_cases e : i = j
                · rw [e, upM_s]; exact h2 t (Nat.le_refl _) htj
                · rw [upM_j (by omega)]; exact h2 i a (by omega))
              simpa using this
          have := fill (n - (t + 1)) (t + 1) (upM τ1 10 t ((ρ t : Int) + 1)) (by omega) (by omega) hW1.up10 (fun i hi => by rw [upM_j (by omega)]; exact (hρ1 i (by omega)).1) (fun i a b => by
            rw [show i = t by omega, upM_s]; rfl)
          simpa using this
        · have := iht (by omega) (fun j a b => by
            by_cases e : j = t
            · rw [e]; omega
            · exact hmax j (by omega) b)
          rw [show (t : Int) + (-1) = (t : Int) - 1 by omega]
          exact this
    -- the sum of the row
    have sums : ∀ (mm j : Nat) (x : Int), j + mm = n → x + sumS A (lst ρ j mm) = sumS A (lst ρ 0 n) → (0 ≤ x ∧ x ≤ 1008 * j) → LX8_walksWills_111 n k A x j τ Q := by
      intro mm
      induction mm with
      | zero =>
        intro j x hj hx hb
        have hx : x = sumS A (lst ρ 0 n) := by rw [← hx]; show x = x + 0; omega
        refine X8_walksWills_111 ⟨fun _ => ?_, fun z => by omega⟩
        rw [hW.1.1 1 (by omega), hV, hW.2.1.2]
        have t1 : ((n : Int) - 1) = ((n : Nat) : Int) - 1 := rfl
        refine ⟨fun z => ⟨⟨by omega, by omega⟩, next c τ hW hρ hk (fun L1 e => ?_) n (Nat.le_refl _) (fun j a b => by omega)⟩, fun z => ⟨fun z2 => ⟨⟨by omega, by omega⟩, ⟨by omega, by omega⟩, next (c + 1) (upM τ 0 22 ((c : Int) + 1)) (hW.up22 rfl) (fun j hj => by rw [upM_q (by decide)]; exact hρ j hj) (by omega) (fun L1 e => ?_) n (Nat.le_refl _) (fun j a b => by omega)⟩, fun z2 => ?_⟩⟩
        · have hne : ¬ (decide (sumS A (lst ρ 0 n) = (V : Int)) = true) := by simp only [decide_eq_true_eq]; omega
          rw [e, List.filter_cons_of_neg (p := fun l => decide (sumS A l = (V : Int))) hne] at hQ hB
          exact ⟨hB, hQ⟩
        · have hyes : decide (sumS A (lst ρ 0 n) = (V : Int)) = true := decide_eq_true (by omega)
          rw [e, List.filter_cons_of_pos (p := fun l => decide (sumS A l = (V : Int))) hyes] at hQ hB
          rw [List.length_cons] at hB
          refine ⟨by omega, fun r τ' hr => hQ r τ' ⟨hr.1, fun z3 => ?_, fun z3 => ?_⟩⟩
          · rw [List.length_cons] at z3 ⊢
            have := hr.2.1 (by omega)
            exact ⟨this.1, by rw [this.2]; omega⟩
          · rw [List.length_cons] at z3
            obtain ⟨a1, ρ', a2, a3⟩ := hr.2.2 (by omega)
            refine ⟨a1, ρ', a2, ?_⟩
            rw [show k.toNat - c = (k.toNat - (c + 1)) + 1 by omega, List.getElem?_cons_succ]
            exact a3
        · have hyes : decide (sumS A (lst ρ 0 n) = (V : Int)) = true := decide_eq_true (by omega)
          obtain ⟨L1, e⟩ : ∃ L1, sfx (MD A) (lst ρ 0 n) = lst ρ 0 n :: L1 := by
            have : ∀ (l : List Nat), ∃ L1, sfx (MD A) l = l :: L1 := by
              intro l
              induction l with
              | nil => exact ⟨[], rfl⟩
              | cons d l ihl => obtain ⟨L1, e⟩ := ihl; rw [sfx, e]; exact ⟨_, rfl⟩
            exact this _
          rw [e, List.filter_cons_of_pos (p := fun l => decide (sumS A l = (V : Int))) hyes] at hQ
          refine hQ 1 τ ⟨hW.1, fun z3 => ?_, fun z3 => ⟨rfl, ρ, fun j hj => ⟨(hρ j hj).1, (hρ j hj).2, hW.2.2 _ (hρ j hj).2⟩, ?_⟩⟩
          · rw [List.length_cons] at z3; omega
          · rw [show k.toNat - c = 0 by omega]; rfl
      | succ mm ihm =>
        intro j x hj hx hb
        have hj1 := hρ j (by omega)
        have hdv := dv_bd hj1.2
        have hsb := sh_bd A (ρ j)
        refine X8_walksWills_111 ⟨fun z => by omega, fun _ => ?_⟩
        rw [hj1.1, hW.2.2 _ hj1.2, Int.tdiv_eq_ediv_of_nonneg (by omega), show ((A : Int) / ((dv A (ρ j) : Nat) : Int)) = sh A (ρ j) from rfl]
        refine ⟨by omega, by omega, by omega, by omega, by omega, ⟨by omega, by omega⟩, ⟨by omega, by omega⟩, ⟨by omega, by omega⟩, ?_⟩
        have e : sumS A (lst ρ j (mm + 1)) = sh A (ρ j) + sumS A (lst ρ (j + 1) mm) := rfl
        have := ihm (j + 1) (x + sh A (ρ j)) (by omega) (by rw [← hx, e]; omega) (by omega)
        simpa using this
    have := sums n 0 0 (by omega) (by omega) (by omega)
    exact this
theorem walksWills_s (hA : A ≤ 1008) (hn : 1 ≤ n ∧ n ≤ 4) {V : Nat} {l : Int} (hV : τs 1 0 = V) (hAV : (V : Int) + l = A) {Q : Int → Mem → Prop} (hQ : ∀ r τ', Res τs A n k 0 (cl A n 0 V) r τ' → Q r τ') : CI layM MX8_walksWills [vP 0, vI n, vI l, vI k] τs Q := by
  have hM : MD A ≤ 32 := nD_32 A hA
  refine X8_walksWills_E ?_
  rw [hV, hAV]
  refine ⟨⟨by omega, by omega⟩, ?_⟩
  -- the divisors are found
  have after : ∀ (τ1 : Mem), KM τs τ1 → τ1 0 20 = MD A → (∀ j : Nat, j < MD A → τ1 9 j = dv A j) → (((upM τ1 0 22 0) 0 20 ≠ 0 → LX8_walksWills_77 n k A 0 (upM τ1 0 22 0) Q) ∧ ((upM τ1 0 22 0) 0 20 = 0 → Q 0 (upM τ1 0 22 0))) := by
    intro τ1 hK h20 h9
    have hW : WS τs A 0 (upM τ1 0 22 0) := ⟨hK.trans ⟨fun q a => upM_q (by omega), upM_j (by decide), upM_j (by decide), upM_j (by decide)⟩, ⟨by rw [upM_j (by decide)]; exact h20, upM_s⟩, by rw [upM_q (show (9 : Nat) ≠ 0 by decide)]; exact h9⟩
    rw [hW.2.1.1]
    refine ⟨fun z => ?_, fun z => ?_⟩
    · have key : ∀ (m i : Nat) (τ2 : Mem), i + m = n → WS τs A 0 τ2 → (∀ j : Nat, j < i → τ2 10 j = 0) → LX8_walksWills_77 n k A i τ2 Q := by
        intro m
        induction m with
        | zero =>
          intro i τ2 hi hW2 h0
          have e : sfx (MD A) (lst (fun _ => 0) 0 n) = allR (MD A) n 0 := sfx_first n 0 (fun _ _ _ => rfl) (Or.inl (by omega))
          have hb := cl_len (A := A) (r := n) (f := 0) (left := V) hA hn.2
          refine X8_walksWills_77 ⟨fun _ => walk_s hA hn hV _ (fun _ => 0) 0 τ2 (Nat.le_refl _) hW2 (fun j hj => ⟨h0 j (by omega), by omega⟩) (by omega) ?_ ?_, fun z => by omega⟩
          · rw [e]; show 0 + (cl A n 0 V).length ≤ _; omega
          · rw [e]; exact hQ
        | succ m ih =>
          intro i τ2 hi hW2 h0
          refine X8_walksWills_77 ⟨fun z => by omega, fun _ => ⟨by omega, by omega, ⟨by omega, by omega⟩, ?_⟩⟩
          have := ih (i + 1) (upM τ2 10 i 0) (by omega) hW2.up10 (fun j hj => by
            by_cases e : j = i
            · rw [e, upM_s]
            · rw [upM_j (by omega)]; exact h0 j (by omega))
          simpa using this
      exact key n 0 _ (by omega) hW (fun j hj => by omega)
    · have e0 : cl A n 0 V = [] := by
        obtain ⟨n', e⟩ : ∃ n', n = n' + 1 := ⟨n - 1, by omega⟩
        rw [e]; exact cl_ge (by omega)
      rw [e0] at hQ
      exact hQ 0 _ ⟨hW.1, fun _ => ⟨rfl, hW.2.1.2⟩, fun y => by rw [List.length_nil] at y; omega⟩
  have k0 : KM τs (upM τs 0 20 0) := ⟨fun q a => upM_q (by omega), upM_j (by decide), upM_j (by decide), upM_j (by decide)⟩
  by_cases hA2 : A < 2
  · exact X8_walksWills_18 ⟨fun _ => after _ k0 (by rw [upM_s, MD, nD_small hA2]; rfl) (fun j a => by rw [MD, nD_small hA2] at a; omega), fun z => by omega⟩
  · have key : ∀ (m a : Nat) (τ1 : Mem), a + m = A + 1 → 2 ≤ a → KM τs τ1 → τ1 0 20 = nD A a → (∀ j : Nat, j < nD A a → τ1 9 j = dF A a j) → LX8_walksWills_18 n k A a τ1 Q := by
      intro m
      induction m with
      | zero =>
        intro a τ1 ha h2 hK h20 h9
        have e : a = A + 1 := by omega
        subst e
        exact X8_walksWills_18 ⟨fun _ => after τ1 hK h20 h9, fun z => by omega⟩
      | succ m ih =>
        intro a τ1 ha h2 hK h20 h9
        have i32 : I32 ((a : Int) + 1) := ⟨by omega, by omega⟩
        refine X8_walksWills_18 ⟨fun z => by omega, fun _ => ⟨by omega, ?_⟩⟩
        rw [Int.tmod_eq_emod_of_nonneg (by omega), show ((A : Int) % (a : Int)) = ((A % a : Nat) : Int) from rfl]
        refine ⟨fun z => ⟨i32, ?_⟩, fun z => ?_⟩
        · have hc : ¬ (2 ≤ a ∧ A % a = 0) := fun y => z (by rw [y.2]; rfl)
          have := ih (a + 1) τ1 (by omega) (by omega) hK (by rw [nD_step, if_neg hc]; exact h20) (fun j hj => by rw [nD_step, if_neg hc] at hj; rw [dF, if_neg (fun y => hc y.1)]; exact h9 j hj)
          simpa using this
        · have hc : 2 ≤ a ∧ A % a = 0 := ⟨h2, by omega⟩
          have hm := nD_mono A (show a + 1 ≤ A + 1 by omega)
          rw [nD_step, if_pos hc] at hm
          have hm2 := nD_32 A hA
          rw [upM_q (show (0 : Nat) ≠ 9 by decide), h20]
          refine ⟨by omega, by omega, ⟨by omega, by omega⟩, i32, ?_⟩
          have := ih (a + 1) (upM (upM τ1 9 (nD A a : Nat) a) 0 20 ((nD A a : Nat) + 1)) (by omega) (by omega) (hK.trans ⟨fun q x => by rw [upM_q (by omega), upM_q (by omega)], by rw [upM_j (by decide), upM_q (by decide)], by rw [upM_j (by decide), upM_q (by decide)], by rw [upM_j (by decide), upM_q (by decide)]⟩) (by rw [upM_s, nD_step, if_pos hc]; rfl) (fun j hj => by
            rw [nD_step, if_pos hc] at hj
            rw [upM_q (show (9 : Nat) ≠ 0 by decide), dF]
            by_cases e : j = nD A a
            · rw [if_pos ⟨hc, e⟩, e, upM_s]
            · rw [if_neg (fun y => e y.2), upM_j (by omega)]; exact h9 j (by omega))
          simpa using this
    exact key (A - 1) 2 _ (by omega) (by omega) k0 (by rw [upM_s]; rfl) (fun j hj => absurd hj (by rw [show nD A 2 = 0 from rfl]; omega))
theorem isWill_s {x y : Int} {τ : Mem} {Q : Int → Mem → Prop} (hQ : Q (if (1 ≤ x ∧ x ≤ 4) ∧ 0 ≤ y ∧ y ≤ 9 then 1 else 0) τ) : CI layM MX8_isWill [vI x, vI y] τ Q := by
  refine X8_isWill_E (in_s (gF (fun hx => in_s (gF (fun hy => ?_) (fun hy => ?_))) (fun hx => ?_)))
  · rwa [if_pos ⟨hx, hy⟩] at hQ
  · rwa [if_neg (fun z => hy z.2)] at hQ
  · rwa [if_neg (fun z => hx z.1)] at hQ
theorem lst_row {σ : Mem} {ρ : Nat → Nat} : ∀ (r i : Nat), rowIs A σ i (lst ρ i r) → ∀ j, i ≤ j → j < i + r → σ 40 j = dv A (ρ j)
  | 0, i, _, j, a, b => by omega
  | r + 1, i, h, j, a, b => by
    by_cases e : j = i
    · rw [e]; exact h.1
    · exact lst_row r (i + 1) h.2 j (by omega) (by omega)
theorem T_wills (h : Rel σs τs) (x y : Int) : TI MX7_wills MX8_wills [vI x, vI y] σs τs := by
  obtain ⟨V, N, S, K, hE⟩ := h.1
  have hV := hE.1.1
  by_cases hx : 1 ≤ x ∧ x ≤ 4
  · by_cases hy : 0 ≤ y ∧ y ≤ 9
    · obtain ⟨n, rfl⟩ : ∃ n : Nat, x = n := ⟨x.toNat, by omega⟩
      have hA : (V : Int) + y = ((V + y.toNat : Nat) : Int) := by omega
      refine TI_of h (F := ((cl (V + y.toNat) n 0 V).length : Nat)) (X7_wills_E (within_s (gF (fun _ => within_s (gT (fun _ => ?_) (fun z => absurd hy z))) (fun z => absurd hx z)))) (X8_wills_E (isWill_s (gT (fun _ => walksWills_s (A := V + y.toNat) (by omega) (by omega) hE.1.2.2 hA (fun r τ' hr => ?_)) (fun z => absurd ⟨hx, hy⟩ z))))
      · rw [hE.1.2.1]
        refine run_s (A := V + y.toNat) (by omega) (by omega) ⟨by omega, by omega⟩ hy.1 hA (fun σ' hS _ => ⟨?_, hS.1⟩)
        rw [hS.2.1.1]; unfold outN; rw [if_pos (by decide)]; omega
      · have := (hr.2.1 (Or.inl (by decide))).2
        exact ⟨by rw [this]; omega, hr.1⟩
    · exact TI_of h (F := -1) (X7_wills_E (within_s (gF (fun _ => within_s (gT (fun z => absurd z hy) (fun _ => ⟨rfl, KC.rf⟩))) (fun z => absurd hx z)))) (X8_wills_E (isWill_s (gT (fun z => absurd z.2 hy) (fun _ => ⟨rfl, KM.rf⟩))))
  · exact TI_of h (F := -1) (X7_wills_E (within_s (gF (fun z => absurd z hx) (fun _ => ⟨rfl, KC.rf⟩)))) (X8_wills_E (isWill_s (gT (fun z => absurd z.1 hx) (fun _ => ⟨rfl, KM.rf⟩))))
theorem T_will (h : Rel σs τs) (x y k i : Int) : TI MX7_will MX8_will [vI x, vI y, vI k, vI i] σs τs := by
  obtain ⟨V, N, S, K, hE⟩ := h.1
  have hV := hE.1.1
  have bad : ¬ ((1 ≤ x ∧ x ≤ 4) ∧ (0 ≤ y ∧ y ≤ 9) ∧ 0 ≤ k ∧ 0 ≤ i ∧ i ≤ x - 1) → TI MX7_will MX8_will [vI x, vI y, vI k, vI i] σs τs := by
    intro hb
    refine TI_of h (F := -1) (X7_will_E (within_s (gF (fun hx => within_s (gF (fun hy => ⟨fun _ => ⟨rfl, KC.rf⟩, fun hk => ⟨⟨by omega, by omega⟩, within_s (gT (fun hi => absurd ⟨hx, hy, hk, hi⟩ hb) (fun _ => ⟨rfl, KC.rf⟩))⟩⟩) (fun _ => ⟨rfl, KC.rf⟩))) (fun _ => ⟨rfl, KC.rf⟩)))) (X8_will_E (isWill_s (gF (fun hxy => ⟨fun _ => ⟨rfl, KM.rf⟩, fun hk => ⟨⟨by omega, by omega⟩, in_s (gT (fun hi => absurd ⟨hxy.1, hxy.2, hk, hi⟩ hb) (fun _ => ⟨rfl, KM.rf⟩))⟩⟩) (fun _ => ⟨rfl, KM.rf⟩))))
  by_cases hall : (1 ≤ x ∧ x ≤ 4) ∧ (0 ≤ y ∧ y ≤ 9) ∧ 0 ≤ k ∧ 0 ≤ i ∧ i ≤ x - 1
  · obtain ⟨hx, hy, hk, hi⟩ := hall
    obtain ⟨n, rfl⟩ : ∃ n : Nat, x = n := ⟨x.toNat, by omega⟩
    obtain ⟨i, rfl⟩ : ∃ i' : Nat, i = i' := ⟨i.toNat, by omega⟩
    have hA : (V : Int) + y = ((V + y.toNat : Nat) : Int) := by omega
    refine X7_will_E (within_s (gF (fun _ => within_s (gF (fun _ => ⟨fun z => by omega, fun _ => ⟨⟨by omega, by omega⟩, within_s (gT (fun _ => ?_) (fun z => absurd hi z))⟩⟩) (fun z => absurd hy z))) (fun z => absurd hx z)))
    rw [hE.1.2.1]
    refine run_s (A := V + y.toNat) (by omega) (by omega) ⟨by omega, by omega⟩ hy.1 hA (fun σ' hS hrow => ?_)
    rw [hS.2.1.1]
    have mref : ∀ {Q : Int → Mem → Prop}, (∀ r τ', Res τs (V + y.toNat) n k 0 (cl (V + y.toNat) n 0 V) r τ' → ((r = 0 → Q (-4) τ') ∧ (r ≠ 0 → 0 ≤ (i : Int) ∧ (i : Int) < 4 ∧ 0 ≤ τ' 10 i ∧ τ' 10 i < 64 ∧ Q (τ' 9 (τ' 10 i)) τ'))) → CI layM MX8_will [vP 0, vI n, vI y, vI k, vI i] τs Q :=
      fun hq => X8_will_E (isWill_s (gF (fun _ => ⟨fun z => by omega, fun _ => ⟨⟨by omega, by omega⟩, in_s (gT (fun _ => walksWills_s (A := V + y.toNat) (by omega) (by omega) hE.1.2.2 hA hq) (fun z => absurd hi z))⟩⟩) (fun z => absurd ⟨hx, hy⟩ z)))
    have hM : MD (V + y.toNat) ≤ 32 := nD_32 (V + y.toNat) (by omega)
    refine ⟨fun z => mref (fun r τ' hr => ?_), fun z => ⟨by omega, by omega, mref (fun r τ' hr => ?_)⟩⟩
    · have hle : ((0 + (cl (V + y.toNat) n 0 V).length : Nat) : Int) ≤ k := by unfold outN at z; rw [if_neg (by omega)] at z; omega
      have := (hr.2.1 (Or.inr hle)).1
      exact ⟨fun _ => ⟨rfl, h.keep hS.1 hr.1⟩, fun z2 => absurd this z2⟩
    · have hlt : 0 ≤ k ∧ k < ((0 + (cl (V + y.toNat) n 0 V).length : Nat) : Int) := by unfold outN at z; rw [if_neg (by omega)] at z; omega
      obtain ⟨e1, ρ, hρ, hl⟩ := hr.2.2 hlt
      obtain ⟨p1, p2, p3⟩ := hρ i (by omega)
      refine ⟨fun z2 => by omega, fun _ => ⟨by omega, by omega, by omega, by omega, ?_, h.keep hS.1 hr.1⟩⟩
      rw [p1, p3]
      exact lst_row n 0 (hrow _ hk (by rw [← hl]; rfl)) i (by omega) (by omega)
  · exact bad hall
end WC
