/-! ===== words ===== -/
def matchL (b : Int → Int) : Nat → List Int → Bool
  | _, [] => true
  | p, c :: l => decide (b p = c) && matchL b (p + 1) l
def isW (b : Int → Int) (s n : Nat) (w : List Int) : Bool := decide (n = s + w.length) && matchL b s w
def wrd : Nat → List Int
  | 0 => [104, 101, 105, 114]
  | 1 => [104, 101, 114, 100]
  | 2 => [116, 111, 108, 100]
  | 3 => [114, 101, 115, 116, 115]
  | 4 => [114, 111, 119]
  | _ => [111, 100, 100]
/-- what isName answers: shown further on -/
def NameSpec : Prop := ∀ (k : Nat), k < 6 → ∀ (σ : Mem) (b : Int → Int) (s n T : Nat), T ≤ 160 → s ≤ n → n ≤ T → σ 37 2 = s → σ 37 4 = n → (∀ i : Int, 0 ≤ i → i < T → σ 38 i = b i) → ∀ {Q : Int → Mem → Prop}, Q (if σ 37 1 = 0 ∧ isW b s n (wrd k) = true then 1 else 0) σ → CI layC MX5_isName [vP 37, vP (200 + k)] σ Q
def wordC (b : Int → Int) (s n : Nat) : Int := if isW b s n (wrd 0) then 4 else if isW b s n (wrd 1) then 5 else if isW b s n (wrd 2) then 0 else if isW b s n (wrd 3) then 1 else if isW b s n (wrd 4) then 2 else if isW b s n (wrd 5) then 3 else -1
theorem wordC_in (b : Int → Int) (s n : Nat) : wordC b s n = -1 ∨ (0 ≤ wordC b s n ∧ wordC b s n ≤ 5) := by
  unfold wordC
  repeat' split
  all_goals omega
theorem wordOfLine_s (hN : NameSpec) {σ : Mem} {b : Int → Int} {s n T : Nat} (hT : T ≤ 160) (hs : s ≤ n) (hn : n ≤ T) (h2 : σ 37 2 = s) (h4 : σ 37 4 = n) (hb : ∀ i : Int, 0 ≤ i → i < T → σ 38 i = b i) {Q : Int → Mem → Prop} (hQ : Q (if σ 37 1 = 0 then wordC b s n else -1) σ) : CI layC MX3_wordOfLine [vP 36] σ Q := by
  have nm : ∀ (k : Nat), k < 6 → ∀ {Q : Int → Mem → Prop}, Q (if σ 37 1 = 0 ∧ isW b s n (wrd k) = true then 1 else 0) σ → CI layC MX5_isName [vP 37, vP (200 + k)] σ Q := fun k hk Q hq => hN k hk σ b s n T hT hs hn h2 h4 hb hq
  refine X3_wordOfLine_E (nm 0 (by decide) (gF (fun z => ?_) (fun z0 => nm 1 (by decide) (gF (fun z => ?_) (fun z1 => nm 2 (by decide) (gF (fun z => ?_) (fun z2 => nm 3 (by decide) (gF (fun z => ?_) (fun z3 => nm 4 (by decide) (gF (fun z => ?_) (fun z4 => nm 5 (by decide) (gF (fun z => ?_) (fun z5 => ?_)))))))))))))
  · rw [if_pos z.1] at hQ; unfold wordC at hQ; rwa [if_pos z.2] at hQ
  · rw [if_pos z.1] at hQ; unfold wordC at hQ; rwa [if_neg (fun y => z0 ⟨z.1, y⟩), if_pos z.2] at hQ
  · rw [if_pos z.1] at hQ; unfold wordC at hQ; rwa [if_neg (fun y => z0 ⟨z.1, y⟩), if_neg (fun y => z1 ⟨z.1, y⟩), if_pos z.2] at hQ
  · rw [if_pos z.1] at hQ; unfold wordC at hQ; rwa [if_neg (fun y => z0 ⟨z.1, y⟩), if_neg (fun y => z1 ⟨z.1, y⟩), if_neg (fun y => z2 ⟨z.1, y⟩), if_pos z.2] at hQ
  · rw [if_pos z.1] at hQ; unfold wordC at hQ; rwa [if_neg (fun y => z0 ⟨z.1, y⟩), if_neg (fun y => z1 ⟨z.1, y⟩), if_neg (fun y => z2 ⟨z.1, y⟩), if_neg (fun y => z3 ⟨z.1, y⟩), if_pos z.2] at hQ
  · rw [if_pos z.1] at hQ; unfold wordC at hQ; rwa [if_neg (fun y => z0 ⟨z.1, y⟩), if_neg (fun y => z1 ⟨z.1, y⟩), if_neg (fun y => z2 ⟨z.1, y⟩), if_neg (fun y => z3 ⟨z.1, y⟩), if_neg (fun y => z4 ⟨z.1, y⟩), if_pos z.2] at hQ
  · by_cases e : σ 37 1 = 0
    · rw [if_pos e] at hQ; unfold wordC at hQ; rwa [if_neg (fun y => z0 ⟨e, y⟩), if_neg (fun y => z1 ⟨e, y⟩), if_neg (fun y => z2 ⟨e, y⟩), if_neg (fun y => z3 ⟨e, y⟩), if_neg (fun y => z4 ⟨e, y⟩), if_neg (fun y => z5 ⟨e, y⟩)] at hQ
    · rwa [if_neg e] at hQ
section IS
variable {b : Int → Int} {T s n : Nat} {τ : Mem}
/-- the same of the reference: letters by number, 0 for none -/
def isM (b : Int → Int) (T s n : Nat) (x1 x2 x3 x4 x5 x6 : Int) : Prop := (n : Int) - s = x1 ∧ bAt b T s = x2 ∧ bAt b T (s + 1) = x3 ∧ bAt b T (s + 2) = x4 ∧ (x5 = 0 ∨ bAt b T (s + 3) = x5) ∧ (x6 = 0 ∨ bAt b T (s + 4) = x6)
theorem is_s (hT : T ≤ 160) (hb : ∀ i : Int, 0 ≤ i → i < T → τ 5 i = b i) (h7 : τ 0 7 = T) (hs : s ≤ n) (hn : n ≤ T) (h9 : τ 0 9 = s) (h8 : τ 0 8 = n) {x1 x2 x3 x4 x5 x6 : Int} {Q : Int → Mem → Prop} (h1 : isM b T s n x1 x2 x3 x4 x5 x6 → Q 1 τ) (h0 : ¬ isM b T s n x1 x2 x3 x4 x5 x6 → Q 0 τ) : CI layM MX8_is [vP 0, vI x1, vI x2, vI x3, vI x4, vI x5, vI x6] τ Q := by
  have ba : ∀ (k : Nat) {x : Int} {Q : Int → Mem → Prop}, x = ((s + k : Nat) : Int) → Q (bAt b T (s + k)) τ → CI layM MX8_byteAt [vP 0, vI x] τ Q := fun k x Q hx hq => byteAt_s hT hb h7 Mp.rf hx hq
  have no : (¬ isM b T s n x1 x2 x3 x4 x5 x6) → LX8_is_59 x5 x6 0 τ Q := fun z => X8_is_59 ⟨fun _ => h0 z, fun y => absurd rfl y⟩
  refine X8_is_E ?_
  rw [h8, h9]
  refine ⟨⟨by omega, by omega⟩, fun z => no (fun y => z y.1), fun z1 => ba 0 rfl ⟨fun z => no (fun y => z y.2.1), fun z2 => ?_⟩⟩
  rw [h9]
  refine ⟨⟨by omega, by omega⟩, ba 1 rfl ⟨fun z => no (fun y => z y.2.2.1), fun z3 => ?_⟩⟩
  rw [h9]
  refine ⟨⟨by omega, by omega⟩, ba 2 rfl ⟨fun z => no (fun y => z y.2.2.2.1), fun z4 => X8_is_59 ⟨fun y => absurd y (by decide), fun _ => ?_⟩⟩⟩
  rw [h9]
  refine ⟨fun z5 => ⟨fun z6 => h1 ⟨z1, z2, z3, z4, Or.inl z5, Or.inl z6⟩, fun z6 => ⟨⟨by omega, by omega⟩, ba 4 rfl ⟨fun z => h0 (fun y => ?_), fun z => h1 ⟨z1, z2, z3, z4, Or.inl z5, Or.inr z⟩⟩⟩⟩, fun z5 => ⟨⟨by omega, by omega⟩, ba 3 rfl ⟨fun z => h0 (fun y => ?_), fun z => ?_⟩⟩⟩
  · rcases y.2.2.2.2.2 with e | e
    · exact z6 e
    · exact z e
  · rcases y.2.2.2.2.1 with e | e
    · exact z5 e
    · exact z e
  · rw [h9]
    refine ⟨fun z6 => h1 ⟨z1, z2, z3, z4, Or.inr z, Or.inl z6⟩, fun z6 => ⟨⟨by omega, by omega⟩, ba 4 rfl ⟨fun z7 => h0 (fun y => ?_), fun z7 => h1 ⟨z1, z2, z3, z4, Or.inr z, Or.inr z7⟩⟩⟩⟩
    rcases y.2.2.2.2.2 with e | e
    · exact z6 e
    · exact z7 e
theorem bAt_lt {p : Nat} (h : p < T) : bAt b T p = b p := by unfold bAt; rw [if_pos h]
theorem isM4 (hn : n ≤ T) {c0 c1 c2 c3 : Int} (h3 : c3 ≠ 0) : isM b T s n 4 c0 c1 c2 c3 0 ↔ isW b s n [c0, c1, c2, c3] = true := by
  simp only [isM, isW, matchL, List.length_cons, List.length_nil, Bool.and_eq_true, decide_eq_true_eq, and_true]
  constructor
  · rintro ⟨a1, a2, a3, a4, a5, _⟩
    have e : n = s + 4 := by omega
    rw [bAt_lt (by omega)] at a2 a3 a4
    rcases a5 with a5 | a5
    · exact absurd a5 h3
    · rw [bAt_lt (by omega)] at a5
      exact ⟨by omega, a2, a3, a4, a5⟩
  · rintro ⟨a1, a2, a3, a4, a5⟩
    refine ⟨by omega, ?_, ?_, ?_, Or.inr ?_, Or.inl trivial⟩ <;> rw [bAt_lt (by omega)] <;> assumption
theorem isM3 (hn : n ≤ T) {c0 c1 c2 : Int} : isM b T s n 3 c0 c1 c2 0 0 ↔ isW b s n [c0, c1, c2] = true := by
  simp only [isM, isW, matchL, List.length_cons, List.length_nil, Bool.and_eq_true, decide_eq_true_eq, and_true]
  constructor
  · rintro ⟨a1, a2, a3, a4, _, _⟩
    have e : n = s + 3 := by omega
    rw [bAt_lt (by omega)] at a2 a3 a4
    exact ⟨by omega, a2, a3, a4⟩
  · rintro ⟨a1, a2, a3, a4⟩
    refine ⟨by omega, ?_, ?_, ?_, Or.inl trivial, Or.inl trivial⟩ <;> rw [bAt_lt (by omega)] <;> assumption
theorem isM5 (hn : n ≤ T) {c0 c1 c2 c3 c4 : Int} (h3 : c3 ≠ 0) (h4 : c4 ≠ 0) : isM b T s n 5 c0 c1 c2 c3 c4 ↔ isW b s n [c0, c1, c2, c3, c4] = true := by
  simp only [isM, isW, matchL, List.length_cons, List.length_nil, Bool.and_eq_true, decide_eq_true_eq, and_true]
  constructor
  · rintro ⟨a1, a2, a3, a4, a5, a6⟩
    have e : n = s + 5 := by omega
    rw [bAt_lt (by omega)] at a2 a3 a4
    rcases a5 with a5 | a5
    · exact absurd a5 h3
    · rcases a6 with a6 | a6
      · exact absurd a6 h4
      · rw [bAt_lt (by omega)] at a5 a6
        exact ⟨by omega, a2, a3, a4, a5, a6⟩
  · rintro ⟨a1, a2, a3, a4, a5, a6⟩
    refine ⟨by omega, ?_, ?_, ?_, Or.inr ?_, Or.inr ?_⟩ <;> rw [bAt_lt (by omega)] <;> assumption
theorem isW_c0 {c0 : Int} {l : List Int} (h : isW b s n (c0 :: l) = true) : b s = c0 := by
  simp only [isW, matchL, Bool.and_eq_true, decide_eq_true_eq] at h
  exact h.2.1
theorem lineNow_s (hT : T ≤ 160) (hb : ∀ i : Int, 0 ≤ i → i < T → τ 5 i = b i) (h7 : τ 0 7 = T) (hs : s ≤ n) (hn : n ≤ T) (h9 : τ 0 9 = s) (h8 : τ 0 8 = n) {Q : Int → Mem → Prop} (hQ : Q (if wordC b s n = -1 then -4 else wordC b s n) τ) : CI layM MX8_lineNow [vP 0] τ Q := by
  have two : ∀ {x1 x2 x3 x4 x5 x6 : Int} {w : List Int} {A B : Prop}, (isM b T s n x1 x2 x3 x4 x5 x6 ↔ isW b s n w = true) → ((isW b s n w = true) → A) → (¬ (isW b s n w = true) → B) → CI layM MX8_is [vP 0, vI x1, vI x2, vI x3, vI x4, vI x5, vI x6] τ (fun r σ1 => (r = 0 → σ1 = τ → B) ∧ (r ≠ 0 → σ1 = τ → A)) := fun he hA hB => is_s hT hb h7 hs hn h9 h8 (fun z => ⟨fun y => absurd y (by decide), fun _ _ => hA (he.mp z)⟩) (fun z => ⟨fun _ _ => hB (fun y => z (he.mpr y)), fun y => absurd rfl y⟩)
  have one : ∀ {x1 x2 x3 x4 x5 x6 : Int} {w : List Int} {A B : Mem → Prop}, (isM b T s n x1 x2 x3 x4 x5 x6 ↔ isW b s n w = true) → ((isW b s n w = true) → A τ) → (¬ (isW b s n w = true) → B τ) → CI layM MX8_is [vP 0, vI x1, vI x2, vI x3, vI x4, vI x5, vI x6] τ (fun r σ1 => (r = 0 → B σ1) ∧ (r ≠ 0 → A σ1)) := fun he hA hB => is_s hT hb h7 hs hn h9 h8 (fun z => ⟨fun y => absurd y (by decide), fun _ => hA (he.mp z)⟩) (fun z => ⟨fun _ => hB (fun y => z (he.mpr y)), fun y => absurd rfl y⟩)
  refine X8_lineNow_E (one (w := wrd 2) (isM4 hn (by decide)) (fun z => ?_) (fun n2 => one (w := wrd 3) (isM5 hn (by decide) (by decide)) (fun z => ?_) (fun n3 => one (w := wrd 4) (isM3 hn) (fun z => ?_) (fun n4 => one (w := wrd 5) (isM3 hn) (fun z => ?_) (fun n5 => one (w := wrd 0) (isM4 hn (by decide)) (fun z => ?_) (fun n0 => one (w := wrd 1) (isM4 hn (by decide)) (fun z => ?_) (fun n1 => ?_)))))))
  · have e : wordC b s n = 0 := by
      have c := isW_c0 (c0 := 116) z
      unfold wordC
      rw [if_neg (fun y => by have := isW_c0 (c0 := 104) y; omega), if_neg (fun y => by have := isW_c0 (c0 := 104) y; omega), if_pos z]
    rwa [e] at hQ
  · have e : wordC b s n = 1 := by
      have c := isW_c0 (c0 := 114) z
      unfold wordC
      rw [if_neg (fun y => by have := isW_c0 (c0 := 104) y; omega), if_neg (fun y => by have := isW_c0 (c0 := 104) y; omega), if_neg n2, if_pos z]
    rwa [e] at hQ
  · have e : wordC b s n = 2 := by
      have c := isW_c0 (c0 := 114) z
      unfold wordC
      rw [if_neg (fun y => by have := isW_c0 (c0 := 104) y; omega), if_neg (fun y => by have := isW_c0 (c0 := 104) y; omega), if_neg n2, if_neg n3, if_pos z]
    rwa [e] at hQ
  · have e : wordC b s n = 3 := by
      have c := isW_c0 (c0 := 111) z
      unfold wordC
      rw [if_neg (fun y => by have := isW_c0 (c0 := 104) y; omega), if_neg (fun y => by have := isW_c0 (c0 := 104) y; omega), if_neg n2, if_neg n3, if_neg n4, if_pos z]
    rwa [e] at hQ
  · have e : wordC b s n = 4 := by unfold wordC; rw [if_pos z]
    rwa [e] at hQ
  · have e : wordC b s n = 5 := by unfold wordC; rw [if_neg n0, if_pos z]
    rwa [e] at hQ
  · have e : wordC b s n = -1 := by unfold wordC; rw [if_neg n0, if_neg n1, if_neg n2, if_neg n3, if_neg n4, if_neg n5]
    rwa [e] at hQ
end IS
