/-- the words of the tables that ride to every callee -/
def WT : List Cond := lw_tbl.filter goodWord
/-! ===== the pure picture: a memory of whole numbers over a fixed layout of cells ===== -/
abbrev AV : Type := Int ⊕ (Int ⊕ Nat)
abbrev Mem : Type := Nat → Int → Int
abbrev LC : Type := (Nat × (Nat × List Nat)) ⊕ (Nat × List Nat)
abbrev MI : Type := MethodName × (ByteArray × (Nat × (Option FieldType × Nat)))
abbrev mY (M : MI) : MethodName := M.1
abbrev mC (M : MI) : ByteArray := M.2.1
abbrev mL (M : MI) : Nat := M.2.2.1
abbrev mR (M : MI) : Option FieldType := M.2.2.2.1
abbrev mK (M : MI) : Nat := M.2.2.2.2
abbrev vI (x : Int) : AV := Sum.inl x
abbrev vJ (x : Int) : AV := Sum.inr (Sum.inl x)
abbrev vP (q : Nat) : AV := Sum.inr (Sum.inr q)
/-- the memory with one place changed -/
def upM (σ : Mem) (q : Nat) (j : Int) (x : Int) : Mem := fun a b => if a = q ∧ b = j then x else σ a b
/-- 0 int, 1 long, 2 boolean, 3 byte, above: a reference -/
def inT (t : Nat) (x : Int) : Prop := match t with
  | 0 => -2147483648 ≤ x ∧ x ≤ 2147483647
  | 1 => -9223372036854775808 ≤ x ∧ x ≤ 9223372036854775807
  | 2 => 0 ≤ x ∧ x ≤ 1
  | 3 => -128 ≤ x ∧ x ≤ 127
  | _ => True
def okV (v : AV) : Prop := match v with
  | .inl x => inT 0 x
  | .inr (.inl x) => inT 1 x
  | .inr (.inr _) => True
def rv (ad : Nat → Nat) (v : AV) : Value := match v with
  | .inl x => .int (Int32.ofInt x)
  | .inr (.inl x) => .long (Int64.ofInt x)
  | .inr (.inr q) => .ref (ad q)
def fv (ad : Nat → Nat) (x : Int) (d : Nat) : Value := match d with
  | 0 => .int (Int32.ofInt x)
  | 1 => .long (Int64.ofInt x)
  | 2 => .int (Int32.ofInt x)
  | 3 => .int (Int32.ofInt x)
  | q + 4 => .ref (ad q)
def aV (ad : Nat → Nat) (t : Nat) (rs : List Nat) (f : Nat → Int) : (Nat → Int32) ⊕ (Nat → Int64) ⊕ (Nat → UInt32) ⊕ (Nat → UInt64) ⊕ (Nat → Option Nat) := match t with
  | 0 => .inl fun j => Int32.ofInt (f j)
  | 1 => .inr (.inl fun j => Int64.ofInt (f j))
  | 2 => .inl fun j => Int32.ofInt (f j)
  | 3 => .inl fun j => Int32.ofInt (f j)
  | _ => .inr (.inr (.inr (.inr fun j => (rs[j]?).map ad)))
def cE (ad : Nat → Nat) (cA : Nat → ClassId) (σ : Mem) (q : Nat) (c : LC) : va_E := match c with
  | .inl (t, n, rs) => .inl (cA t, n, aV ad t rs (fun j => σ q (j : Int)))
  | .inr (k, fs) => .inr (k, fs.mapIdx fun j d => fv ad (σ q (j : Int)) d)
def cW (ad : Nat → Nat) (cA : Nat → ClassId) (lay : List LC) (σ : Mem) : va_W := lay.mapIdx fun q c => (ad q, cE ad cA σ q c)
def rngC (σ : Mem) (q : Nat) (c : LC) : Prop := match c with
  | .inl (t, n, _) => ∀ j : Nat, j < n → inT t (σ q (j : Int))
  | .inr (_, fs) => ∀ (j : Nat) (d : Nat), fs[j]? = some d → inT d (σ q (j : Int))
def rng (lay : List LC) (σ : Mem) : Prop := ∀ q c, lay[q]? = some c → rngC σ q c
abbrev vwCl : List vw_C := [(RX0, TX0, 8), (RX1, TX1, 3), (RX2, TX2, 9), (RX3, TX3, 9), (RX4, TX4, 3), (RX5, TX5, 6), (RX6, TX6, 7), (RX7, TX7, 12), (RX8, TX8, 33)]
def tyA (cA : Nat → ClassId) : List (ClassId × FieldType) := [(cA 0, .int), (cA 1, .long), (cA 2, .boolean), (cA 3, .byte), (cA 4, .object RX0), (cA 5, .object RX4)]
/-- the links to nest mates' private methods -/
def nestL : List (String × Nat × MethodName × String) := [(RX7, 9, yX0_init, RX7), (RX7, 29, yX2_init, RX7), (RX7, 39, yX3_init, RX7), (RX3, 11, yX5_init, RX7), (RX3, 20, yX0_init, RX7), (RX7, 46, yX6_init, RX7), (RX7, 53, yX1_init, RX7), (RX7, 72, yX4_init, RX7), (RX5, 53, yX7_within, RX7), (RX3, 123, yX7_isHerd, RX7), (RX3, 126, yX7_within, RX7), (RX0, 37, yX7_within, RX7), (RX3, 87, yX7_isKind, RX7), (RX2, 48, yX7_quotient, RX7), (RX2, 101, yX7_remainder, RX7), (RX6, 47, yX7_remainder, RX7), (RX6, 55, yX7_quotient, RX7)]
def nestW : List Cond := nestL.map fun q => Cond.methodLinkNest q.1 q.2.1 q.2.2.1 q.2.2.2
def KN (D : va_G) (cA : Nat → ClassId) (U : State) : Prop := va_K D vwCl (tyA cA) U ∧ (∀ w ∈ nestW, va_Nw w U)
def strL : List Nat := [4, 4, 4, 5, 3, 3]
def strB : List (List Int32) := [[104, 101, 105, 114], [104, 101, 114, 100], [116, 111, 108, 100], [114, 101, 115, 116, 115], [114, 111, 119], [111, 100, 100]]
def strI : List Nat := [94, 100, 102, 104, 106, 108]
def strT : List String := ["heir", "herd", "told", "rests", "row", "odd"]
/-- the class's six String constants, at the places 200 on (their bytes: 210 on), and what the String class itself reads -/
def SK (ad : Nat → Nat) (A : Nat → Prop) (U : State) (H : Heap) : Prop := vk_S 6 strL strB (fun i => ad (200 + i)) (fun i => ad (210 + i)) A U H ∧ (∀ i, i < 6 → vk_R RX3 (strI.getD i 0) (strT.getD i "") (ad (200 + i)) U) ∧ va_Z "java/lang/String" "COMPACT_STRINGS" "Z" (.int 1) A U H ∧ va_Zq "jdk/internal/util/Preconditions" "SIOOBE_FORMATTER" "Ljava/util/function/BiFunction;" A U H
theorem SK.kept {ad : Nat → Nat} {A : Nat → Prop} {U : State} {H H1 : Heap} (h : SK ad A U H) (hq : ∀ a : Nat, a < H.size → ¬ A a → H1[a]? = H[a]?) : SK ad A U H1 := ⟨h.1.kept hq, h.2.1, h.2.2.1.kept hq, h.2.2.2.kept hq⟩
theorem SK.narrow {ad : Nat → Nat} {A B : Nat → Prop} {U : State} {H : Heap} (h : SK ad A U H) (hAB : ∀ q, B q → A q) : SK ad B U H := ⟨h.1.narrow hAB, h.2.1, h.2.2.1.narrow hAB, h.2.2.2.narrow hAB⟩
theorem SK.warm {ad : Nat → Nat} {A : Nat → Prop} {s U : State} {H : Heap} (hW : s.WarmedH U.vm) (h : SK ad A s H) : SK ad A U H := ⟨h.1.moved hW.alike, fun i hi => (h.2.1 i hi).warm hW, h.2.2.1.moved hW.alike, h.2.2.2.moved hW.alike⟩
theorem SK.same {ad : Nat → Nat} {A : Nat → Prop} {s U : State} {H : Heap} (hv : U.vm = s.vm) (h : SK ad A s H) : SK ad A U H := ⟨h.1.moved (by rw [hv]; exact Vm.Alike.refl _), fun i hi => (h.2.1 i hi).same hv, h.2.2.1.moved (by rw [hv]; exact Vm.Alike.refl _), h.2.2.2.moved (by rw [hv]; exact Vm.Alike.refl _)⟩
def roV (M : MI) (ad : Nat → Nat) (v : AV) : Option Value := match mR M with
  | none => none
  | some _ => some (rv ad v)
def QC (lay : List LC) (M : MI) (ad : Nat → Nat) (D : va_G) (cA : Nat → ClassId) (A : Nat → Prop) (Q : AV → Mem → Prop) : Array Value → State → Outcome → State → Prop := fun _ st o t =>
  ∃ (v : AV) (σ : Mem), o = .returned (roV M ad v) ∧ Q v σ ∧ okV v ∧ rng lay σ ∧ va_P D vwCl (cW ad cA lay σ) t.heap ∧ va_F A st t
def CX (lay : List LC) (M : MI) (p : Program) (Rm : Room) (s : State) (m : MethodId) (args : Array Value) (meth : Method) (c : Code) (ad : Nat → Nat) (D : va_G) (cA : Nat → ClassId) (A : Nat → Prop) (nc ns : Nat) : Prop :=
  p.tables.exec = Jvm.exec ∧ c.code = mC M ∧ meth.sig.returnType = mR M ∧ c.maxLocals = mL M ∧ s.vm.findClass (mY M).cls = some m.cls ∧ (∀ w ∈ WT, w.before args s = true) ∧ meth.locks = false ∧ KN D cA s ∧
  ((∀ i j, i < lay.length → j < lay.length → ad i = ad j → i = j) ∧ ∀ i, i < lay.length → A (ad i)) ∧ (∀ q, s.heap.size ≤ q → A q) ∧ (mK M ≤ Rm.frames ∧ 100 * mK M ≤ Rm.locals ∧ nc ≤ Rm.cells ∧ ns ≤ Rm.slots) ∧ SK ad A s s.heap
/-- the method M, from pc on, with these locals and this stack over this memory, ends, and Q holds of its answer and of the memory -/
def Rn (lay : List LC) (M : MI) (pc : Nat) (ls : List (Nat × AV)) (st : List AV) (σ : Mem) (Q : AV → Mem → Prop) : Prop :=
  (∀ q ∈ ls, okV q.2) → (∀ v ∈ st, okV v) → rng lay σ →
  ∀ (p : Program) (l : Launch) (e : Env) (Rm : Room) (s : State) (m : MethodId) (args : Array Value) (below : List Frame) (meth : Method) (c : Code) (ad : Nat → Nat) (D : va_G) (cA : Nat → ClassId) (A : Nat → Prop) (nc ns : Nat) (H : Heap) (locs : List Loc) (lr : Array Slot),
    CX lay M p Rm s m args meth c ad D cA A nc ns → va_P D vwCl (cW ad cA lay σ) H → va_S A s.heap H locs → lv_has lr (mL M) (ls.map fun q => (q.1, rv ad q.2)) →
    W p l e Rm s m args below meth c H locs nc ns (MQ below (QC lay M ad D cA A Q) args s nc ns A) (F0 m pc lr (st.map (rv ad)))
def rmK (k : Nat) : Room := { frames := k, cells := 0, slots := 0, locals := 100 * k }
def wsM (M : MI) : List Cond := .code (mY M) (mC M) (mL M) (mR M) :: WT
/-- which cells a method may change -/
def aA (lay : List LC) (ad : Nat → Nat) (sz : Nat) : Nat → Prop := fun q => (∃ i, i < lay.length ∧ q = ad i) ∨ sz ≤ q
/-- what a call finds -/
def PB (lay : List LC) (ad : Nat → Nat) (D : va_G) (cA : Nat → ClassId) (σ : Mem) (sz : Nat) (U : State) : Prop := U.heap.size = sz ∧ va_P D vwCl (cW ad cA lay σ) U.heap ∧ KN D cA U ∧ SK ad (aA lay ad sz) U U.heap
/-- the method M, called with these arguments over this memory, ends, and Q holds of its answer and of the memory -/
def Cl (lay : List LC) (M : MI) (as : List AV) (σ : Mem) (Q : AV → Mem → Prop) : Prop :=
  (∀ v ∈ as, okV v) → rng lay σ → ∀ (l : Launch) (ad : Nat → Nat) (D : va_G) (cA : Nat → ClassId) (sz : Nat), (∀ i j, i < lay.length → j < lay.length → ad i = ad j → i = j) →
    Met l (mY M) (wsM M) (rmK (mK M)) (va_Pc (as.map (rv ad)) (PB lay ad D cA σ sz)) (QC lay M ad D cA (aA lay ad sz) Q) 0 0 (aA lay ad sz)
def qI (Q : Int → Mem → Prop) : AV → Mem → Prop := fun v σ => ∃ x, v = vI x ∧ Q x σ
def qJ (Q : Int → Mem → Prop) : AV → Mem → Prop := fun v σ => ∃ x, v = vJ x ∧ Q x σ
def qP (Q : Nat → Mem → Prop) : AV → Mem → Prop := fun v σ => ∃ x, v = vP x ∧ Q x σ
def qV (Q : Mem → Prop) : AV → Mem → Prop := fun v σ => v = vI 0 ∧ Q σ
/-! ===== numbers ===== -/
theorem i32r {x : Int} (h : inT 0 x) : (Int32.ofInt x).toInt = x := Int32.toInt_ofInt_of_le (by have := h.1; omega) (by have := h.2; omega)
theorem i64r {x : Int} (h : inT 1 x) : (Int64.ofInt x).toInt = x := Int64.toInt_ofInt_of_le (by have := h.1; omega) (by have := h.2; omega)
theorem i32eq {x y : Int} (hx : inT 0 x) (hy : inT 0 y) : Int32.ofInt x = Int32.ofInt y ↔ x = y := by rw [← Int32.toInt_inj, i32r hx, i32r hy]
theorem i32lt {x y : Int} (hx : inT 0 x) (hy : inT 0 y) : Int32.ofInt x < Int32.ofInt y ↔ x < y := by rw [Int32.lt_iff_toInt_lt, i32r hx, i32r hy]
theorem i32le {x y : Int} (hx : inT 0 x) (hy : inT 0 y) : Int32.ofInt x ≤ Int32.ofInt y ↔ x ≤ y := by rw [Int32.le_iff_toInt_le, i32r hx, i32r hy]
theorem i64eq {x y : Int} (hx : inT 1 x) (hy : inT 1 y) : Int64.ofInt x = Int64.ofInt y ↔ x = y := by rw [← Int64.toInt_inj, i64r hx, i64r hy]
theorem i64lt {x y : Int} (hx : inT 1 x) (hy : inT 1 y) : Int64.ofInt x < Int64.ofInt y ↔ x < y := by rw [Int64.lt_iff_toInt_lt, i64r hx, i64r hy]
theorem i32_0 : Int32.ofInt 0 = 0 := rfl
theorem i64_0 : Int64.ofInt 0 = 0 := rfl
theorem in0_0 : inT 0 0 := ⟨by decide, by decide⟩
theorem in1_0 : inT 1 0 := ⟨by decide, by decide⟩
def w32 (x : Int) : Int := x.bmod 4294967296
def w64 (x : Int) : Int := x.bmod 18446744073709551616
theorem w32_in (x : Int) : inT 0 (w32 x) := by
  have h1 := Int.le_bmod (x := x) (m := 4294967296) (by decide)
  have h2 := Int.bmod_lt (x := x) (m := 4294967296) (by decide)
  exact ⟨by unfold w32; omega, by unfold w32; omega⟩
theorem w32_of {x : Int} (h : inT 0 x) : w32 x = x := by
  have := i32r h
  rw [Int32.toInt_ofInt] at this
  exact this
theorem i32w (x : Int) : Int32.ofInt (w32 x) = Int32.ofInt x := by
  apply Int32.toInt_inj.mp
  rw [i32r (w32_in x), Int32.toInt_ofInt]
  rfl
theorem i32div {a b : Int} (ha : inT 0 a) (hb : inT 0 b) : Int32.ofInt a / Int32.ofInt b = Int32.ofInt (a.tdiv b) := (Int32.ofInt_tdiv ha.1 ha.2 hb.1 hb.2).symm
theorem i64div {a b : Int} (ha : inT 1 a) (hb : inT 1 b) : Int64.ofInt a / Int64.ofInt b = Int64.ofInt (a.tdiv b) := (Int64.ofInt_tdiv ha.1 ha.2 hb.1 hb.2).symm
theorem i32rem {a b : Int} (ha : inT 0 a) (hb : inT 0 b) : Int32.ofInt a - Int32.ofInt a / Int32.ofInt b * Int32.ofInt b = Int32.ofInt (a.tmod b) := by
  rw [i32div ha hb, ← Int32.ofInt_mul, ← Int32.ofInt_sub, Int.tmod_def, Int.mul_comm]
theorem i64rem {a b : Int} (ha : inT 1 a) (hb : inT 1 b) : Int64.ofInt a - Int64.ofInt a / Int64.ofInt b * Int64.ofInt b = Int64.ofInt (a.tmod b) := by
  rw [i64div ha hb, ← Int64.ofInt_mul, ← Int64.ofInt_sub, Int.tmod_def, Int.mul_comm]
theorem tmod_in {t : Nat} {a b : Int} (ht : t = 0 ∨ t = 1) (ha : inT t a) : inT t (a.tmod b) := by
  have h1 : (a.tmod b).natAbs ≤ a.natAbs := by rw [Int.natAbs_tmod]; exact Nat.mod_le _ _
  have h2 : 0 ≤ a → 0 ≤ a.tmod b := fun h => Int.tmod_nonneg b h
  have h3 : a ≤ 0 → a.tmod b ≤ 0 := fun h => by
    have := Int.tmod_nonneg b (a := -a) (by omega)
    rw [Int.neg_tmod] at this
    omega
  rcases ht with rfl | rfl
  · have := ha.1; have := ha.2; exact ⟨by omega, by omega⟩
  · have := ha.1; have := ha.2; exact ⟨by omega, by omega⟩
theorem clampN {i : Int} (h : inT 0 i) (h0 : 0 ≤ i) : (Int32.ofInt i).toNatClampNeg = i.toNat := by
  show (Int32.ofInt i).toInt.toNat = i.toNat
  rw [i32r h]
theorem vpin {i : Int} {n : Nat} (h : inT 0 i) (h0 : 0 ≤ i) (h1 : i < n) : vp_in (Int32.ofInt i) n := by
  rw [vp_in_iff, i32r h]
  exact ⟨h0, h1⟩
/-! ===== the rules, an instruction each ===== -/
def isJ (v : AV) : Bool := match v with
  | .inr (.inl _) => true
  | _ => false
def catA (v : AV) : Nat := match v with
  | .inr (.inl _) => 2
  | _ => 1
theorem rv_cat (ad : Nat → Nat) (v : AV) : (rv ad v).category = catA v := by
  rcases v with x | x | x <;> rfl
theorem rv_isJ (ad : Nat → Nat) (v : AV) : ((rv ad v).category == 2) = isJ v := by
  rcases v with x | x | x <;> rfl
theorem okc {v : AV} {st : List AV} (h : okV v) (hs : ∀ w ∈ st, okV w) : ∀ w ∈ v :: st, okV w := List.forall_mem_cons.mpr ⟨h, hs⟩
theorem okt {v : AV} {st : List AV} (h : ∀ w ∈ v :: st, okV w) : ∀ w ∈ st, okV w := (List.forall_mem_cons.mp h).2
theorem okh {v : AV} {st : List AV} (h : ∀ w ∈ v :: st, okV w) : okV v := (List.forall_mem_cons.mp h).1
/-- the locals behind a store -/
def stL (ls : List (Nat × AV)) (i : Nat) (v : AV) : List (Nat × AV) := (i, v) :: ls.filter (fun q => !(q.1 == i) && !(q.1 + 1 == i && isJ q.2))
def stJ (ls : List (Nat × AV)) (i : Nat) (v : AV) : List (Nat × AV) := (i, v) :: ls.filter (fun q => !(q.1 == i) && (!(q.1 == i + 1) && !(q.1 + 1 == i && isJ q.2)))
theorem stL_ok {ls : List (Nat × AV)} {i : Nat} {v : AV} (hl : ∀ q ∈ ls, okV q.2) (hv : okV v) : ∀ q ∈ stL ls i v, okV q.2 := by
  intro q hq
  rcases List.mem_cons.mp hq with rfl | hq
  · exact hv
  · exact hl q (List.mem_filter.mp hq).1
theorem stJ_ok {ls : List (Nat × AV)} {i : Nat} {v : AV} (hl : ∀ q ∈ ls, okV q.2) (hv : okV v) : ∀ q ∈ stJ ls i v, okV q.2 := by
  intro q hq
  rcases List.mem_cons.mp hq with rfl | hq
  · exact hv
  · exact hl q (List.mem_filter.mp hq).1
theorem stL_map (ad : Nat → Nat) (ls : List (Nat × AV)) (i : Nat) (v : AV) : (i, rv ad v) :: (ls.map fun q => (q.1, rv ad q.2)).filter (fun q => !(q.1 == i) && !(q.1 + 1 == i && q.2.category == 2)) = (stL ls i v).map fun q => (q.1, rv ad q.2) := by
  simp only [stL, List.map_cons, List.filter_map]
  congr 2
  apply List.filter_congr
  intro q _
  simp only [Function.comp, rv_isJ]
theorem stJ_map (ad : Nat → Nat) (ls : List (Nat × AV)) (i : Nat) (v : AV) : (i, rv ad v) :: (ls.map fun q => (q.1, rv ad q.2)).filter (fun q => !(q.1 == i) && (!(q.1 == i + 1) && !(q.1 + 1 == i && q.2.category == 2))) = (stJ ls i v).map fun q => (q.1, rv ad q.2) := by
  simp only [stJ, List.map_cons, List.filter_map]
  congr 2
  apply List.filter_congr
  intro q _
  simp only [Function.comp, rv_isJ]
section RR
variable {lay : List LC} {M : MI} {pc : Nat} {ls ls' : List (Nat × AV)} {st : List AV} {σ : Mem} {Q : AV → Mem → Prop}
theorem Rn.stk {pc' : Nat} {st st' : List AV} (k : Rn lay M pc' ls st' σ Q) (hok : (∀ q ∈ ls, okV q.2) → (∀ v ∈ st, okV v) → ∀ v ∈ st', okV v)
    (hw : ∀ (p : Program) (l : Launch) (e : Env) (Rm : Room) (s : State) (m : MethodId) (args : Array Value) (below : List Frame) (meth : Method) (c : Code) (nc ns : Nat) (H : Heap) (locs : List Loc) (Z : State → Prop) (lr : Array Slot) (ad : Nat → Nat), p.tables.exec = Jvm.exec → c.code = mC M → (s.vm.findClass (mY M).cls = some m.cls ∧ ∀ w ∈ WT, w.before args s = true) → lv_has lr (mL M) (ls.map fun q => (q.1, rv ad q.2)) → (∀ v ∈ st, okV v) →
      W p l e Rm s m args below meth c H locs nc ns Z (F0 m pc' lr (st'.map (rv ad))) → W p l e Rm s m args below meth c H locs nc ns Z (F0 m pc lr (st.map (rv ad)))) : Rn lay M pc ls st σ Q := fun hl hs hg p l e Rm s m args below meth c ad D cA A nc ns H locs lr C hP hS hv =>
  hw p l e Rm s m args below meth c nc ns H locs _ lr ad C.1 C.2.1 ⟨C.2.2.2.2.1, C.2.2.2.2.2.1⟩ hv hs (k hl (hok hl hs) hg p l e Rm s m args below meth c ad D cA A nc ns H locs lr C hP hS hv)
theorem lvat (ad : Nat → Nat) {lr : Array Slot} {N n i : Nat} {v : AV} (hv : lv_has lr N (ls.map fun q => (q.1, rv ad q.2))) (hn : ls[n]? = some (i, v)) : lr[i]? = some (.val (rv ad v)) :=
  lv_at hv n (by rw [List.getElem?_map, hn]; rfl)
theorem R_iload_n {k : Fin 4} {i : Nat} {x : Int} (n : Nat) (hn : ls[n]? = some (i, vI x)) (hi : (k : Nat) = i) (hd : decode (mC M) pc = .ok (.iload_n k, 1)) (h : Rn lay M (pc + 1) ls (vI x :: st) σ Q) : Rn lay M pc ls st σ Q :=
  Rn.stk h (fun hl hs => okc (hl _ (List.mem_of_getElem? hn)) hs) (fun p l e Rm s m args below meth c nc ns H locs Z lr ad hx hb _ hv hs k => lv_iload_n hx hb hd hi (lvat ad hv hn) k)
theorem R_iload {i : Nat} {x : Int} (n : Nat) (hn : ls[n]? = some (i, vI x)) (hd : decode (mC M) pc = .ok (.iload i, 2)) (h : Rn lay M (pc + 2) ls (vI x :: st) σ Q) : Rn lay M pc ls st σ Q :=
  Rn.stk h (fun hl hs => okc (hl _ (List.mem_of_getElem? hn)) hs) (fun p l e Rm s m args below meth c nc ns H locs Z lr ad hx hb _ hv hs k => lv_iload hx hb hd (lvat ad hv hn) k)
theorem R_lload_n {k : Fin 4} {i : Nat} {x : Int} (n : Nat) (hn : ls[n]? = some (i, vJ x)) (hi : (k : Nat) = i) (hd : decode (mC M) pc = .ok (.lload_n k, 1)) (h : Rn lay M (pc + 1) ls (vJ x :: st) σ Q) : Rn lay M pc ls st σ Q :=
  Rn.stk h (fun hl hs => okc (hl _ (List.mem_of_getElem? hn)) hs) (fun p l e Rm s m args below meth c nc ns H locs Z lr ad hx hb _ hv hs k => lv_lload_n hx hb hd hi (lvat ad hv hn) k)
theorem R_lload {i : Nat} {x : Int} (n : Nat) (hn : ls[n]? = some (i, vJ x)) (hd : decode (mC M) pc = .ok (.lload i, 2)) (h : Rn lay M (pc + 2) ls (vJ x :: st) σ Q) : Rn lay M pc ls st σ Q :=
  Rn.stk h (fun hl hs => okc (hl _ (List.mem_of_getElem? hn)) hs) (fun p l e Rm s m args below meth c nc ns H locs Z lr ad hx hb _ hv hs k => lv_lload hx hb hd (lvat ad hv hn) k)
theorem R_aload_n {k : Fin 4} {i : Nat} {q : Nat} (n : Nat) (hn : ls[n]? = some (i, vP q)) (hi : (k : Nat) = i) (hd : decode (mC M) pc = .ok (.aload_n k, 1)) (h : Rn lay M (pc + 1) ls (vP q :: st) σ Q) : Rn lay M pc ls st σ Q :=
  Rn.stk h (fun hl hs => okc (hl _ (List.mem_of_getElem? hn)) hs) (fun p l e Rm s m args below meth c nc ns H locs Z lr ad hx hb _ hv hs k => lv_aload_n hx hb hd hi (lvat ad hv hn) k)
theorem R_aload {i : Nat} {q : Nat} (n : Nat) (hn : ls[n]? = some (i, vP q)) (hd : decode (mC M) pc = .ok (.aload i, 2)) (h : Rn lay M (pc + 2) ls (vP q :: st) σ Q) : Rn lay M pc ls st σ Q :=
  Rn.stk h (fun hl hs => okc (hl _ (List.mem_of_getElem? hn)) hs) (fun p l e Rm s m args below meth c nc ns H locs Z lr ad hx hb _ hv hs k => lv_aload hx hb hd (lvat ad hv hn) k)
theorem R_iconst {n : Int} (hn : -1 ≤ n ∧ n ≤ 5) (hd : decode (mC M) pc = .ok (.iconst n, 1)) (h : Rn lay M (pc + 1) ls (vI n :: st) σ Q) : Rn lay M pc ls st σ Q :=
  Rn.stk h (fun hl hs => okc (show inT 0 n from ⟨by omega, by omega⟩) hs) (fun p l e Rm s m args below meth c nc ns H locs Z lr ad hx hb _ hv hs k => lv_iconst hx hb hd rfl k)
theorem R_bipush {n : Int} (hn : -128 ≤ n ∧ n ≤ 127) (hd : decode (mC M) pc = .ok (.bipush n, 2)) (h : Rn lay M (pc + 2) ls (vI n :: st) σ Q) : Rn lay M pc ls st σ Q :=
  Rn.stk h (fun hl hs => okc (show inT 0 n from ⟨by omega, by omega⟩) hs) (fun p l e Rm s m args below meth c nc ns H locs Z lr ad hx hb _ hv hs k => lv_bipush hx hb hd (Int8.toInt32_ofInt hn.1 hn.2) k)
theorem R_sipush {n : Int} (hn : -32768 ≤ n ∧ n ≤ 32767) (hd : decode (mC M) pc = .ok (.sipush n, 3)) (h : Rn lay M (pc + 3) ls (vI n :: st) σ Q) : Rn lay M pc ls st σ Q :=
  Rn.stk h (fun hl hs => okc (show inT 0 n from ⟨by omega, by omega⟩) hs) (fun p l e Rm s m args below meth c nc ns H locs Z lr ad hx hb _ hv hs k => lv_sipush hx hb hd (Int16.toInt32_ofInt hn.1 hn.2) k)
theorem R_lconst {n : Fin 2} {x : Int} (hn : ((n : Nat) : Int) = x) (hd : decode (mC M) pc = .ok (.lconst n, 1)) (h : Rn lay M (pc + 1) ls (vJ x :: st) σ Q) : Rn lay M pc ls st σ Q :=
  Rn.stk h (fun hl hs => okc (show inT 1 x from ⟨by omega, by omega⟩) hs) (fun p l e Rm s m args below meth c nc ns H locs Z lr ad hx hb _ hv hs k => lv_lconst hx hb hd (by rw [← hn]; exact (Int64.ofInt_eq_ofNat).symm) k)
theorem R_ldc2 {idx : Nat} {v : Int64} {x : Int} (hw : Jvm.Cond.constantLong (mY M).cls idx v ∈ WT) (hx0 : v.toInt = x) (hd : decode (mC M) pc = .ok (.ldc2_w idx, 3)) (h : Rn lay M (pc + 3) ls (vJ x :: st) σ Q) : Rn lay M pc ls st σ Q :=
  Rn.stk h (fun hl hs => okc (show inT 1 x from ⟨by have := v.le_toInt; omega, by have := v.toInt_lt; omega⟩) hs) (fun p l e Rm s m args below meth c nc ns H locs Z lr ad hx hb ho hv hs k => by
    refine lv_ldc2 hx hb ho.1 (ho.2 _ hw) hd ?_
    have e1 : Int64.ofInt x = v := by rw [← hx0]; exact Int64.ofInt_toInt v
    rw [← e1]
    exact k)
theorem R_ldc {idx : Nat} {v : Int32} {x : Int} (hw : Jvm.Cond.constant (mY M).cls idx v ∈ WT) (hx0 : v.toInt = x) (hd : decode (mC M) pc = .ok (.ldc idx, 2)) (h : Rn lay M (pc + 2) ls (vI x :: st) σ Q) : Rn lay M pc ls st σ Q :=
  Rn.stk h (fun hl hs => okc (show inT 0 x from ⟨by have := v.le_toInt; omega, by have := v.toInt_lt; omega⟩) hs) (fun p l e Rm s m args below meth c nc ns H locs Z lr ad hx hb ho hv hs k => by
    refine lv_ldc hx hb ho.1 (ho.2 _ hw) hd ?_
    have e1 : Int32.ofInt x = v := by rw [← hx0]; exact Int32.ofInt_toInt v
    rw [← e1]
    exact k)
theorem R_ldcw {idx : Nat} {v : Int32} {x : Int} (hw : Jvm.Cond.constant (mY M).cls idx v ∈ WT) (hx0 : v.toInt = x) (hd : decode (mC M) pc = .ok (.ldc_w idx, 3)) (h : Rn lay M (pc + 3) ls (vI x :: st) σ Q) : Rn lay M pc ls st σ Q :=
  Rn.stk h (fun hl hs => okc (show inT 0 x from ⟨by have := v.le_toInt; omega, by have := v.toInt_lt; omega⟩) hs) (fun p l e Rm s m args below meth c nc ns H locs Z lr ad hx hb ho hv hs k => by
    refine lv_ldcw hx hb ho.1 (ho.2 _ hw) hd ?_
    have e1 : Int32.ofInt x = v := by rw [← hx0]; exact Int32.ofInt_toInt v
    rw [← e1]
    exact k)
/- stores -/
theorem Rn.lst {pc' : Nat} {st' : List AV} (k : Rn lay M pc' ls' st' σ Q) (hok : (∀ q ∈ ls, okV q.2) → (∀ v ∈ st, okV v) → (∀ v ∈ st', okV v) ∧ ∀ q ∈ ls', okV q.2)
    (hw : ∀ (p : Program) (l : Launch) (e : Env) (Rm : Room) (s : State) (m : MethodId) (args : Array Value) (below : List Frame) (meth : Method) (c : Code) (nc ns : Nat) (H : Heap) (locs : List Loc) (Z : State → Prop) (lr : Array Slot) (ad : Nat → Nat), p.tables.exec = Jvm.exec → c.code = mC M → lv_has lr (mL M) (ls.map fun q => (q.1, rv ad q.2)) → (∀ v ∈ st, okV v) →
      (∀ lr' : Array Slot, lv_has lr' (mL M) (ls'.map fun q => (q.1, rv ad q.2)) → W p l e Rm s m args below meth c H locs nc ns Z (F0 m pc' lr' (st'.map (rv ad)))) → W p l e Rm s m args below meth c H locs nc ns Z (F0 m pc lr (st.map (rv ad)))) : Rn lay M pc ls st σ Q := fun hl hs hg p l e Rm s m args below meth c ad D cA A nc ns H locs lr C hP hS hv =>
  hw p l e Rm s m args below meth c nc ns H locs _ lr ad C.1 C.2.1 hv hs (fun lr' hv' => k (hok hl hs).2 (hok hl hs).1 hg p l e Rm s m args below meth c ad D cA A nc ns H locs lr' C hP hS hv')
theorem R_istore_n {k : Fin 4} {i : Nat} {x : Int} (hl' : stL ls i (vI x) = ls') (hi : (k : Nat) = i) (hn : i < mL M) (hd : decode (mC M) pc = .ok (.istore_n k, 1)) (h : Rn lay M (pc + 1) ls' st σ Q) : Rn lay M pc ls (vI x :: st) σ Q :=
  Rn.lst h (fun hl hs => ⟨okt hs, by rw [← hl']; exact stL_ok hl (okh hs)⟩) (fun p l e Rm s m args below meth c nc ns H locs Z lr ad hx hb hv hs k => lv_istore_n hx hb hd hi hv hn (by rw [← hl']; exact stL_map ad ls i (vI x)) k)
theorem R_istore {i : Nat} {x : Int} (hl' : stL ls i (vI x) = ls') (hn : i < mL M) (hd : decode (mC M) pc = .ok (.istore i, 2)) (h : Rn lay M (pc + 2) ls' st σ Q) : Rn lay M pc ls (vI x :: st) σ Q :=
  Rn.lst h (fun hl hs => ⟨okt hs, by rw [← hl']; exact stL_ok hl (okh hs)⟩) (fun p l e Rm s m args below meth c nc ns H locs Z lr ad hx hb hv hs k => lv_istore hx hb hd hv hn (by rw [← hl']; exact stL_map ad ls i (vI x)) k)
theorem R_lstore_n {k : Fin 4} {i : Nat} {x : Int} (hl' : stJ ls i (vJ x) = ls') (hi : (k : Nat) = i) (hn : i + 1 < mL M) (hd : decode (mC M) pc = .ok (.lstore_n k, 1)) (h : Rn lay M (pc + 1) ls' st σ Q) : Rn lay M pc ls (vJ x :: st) σ Q :=
  Rn.lst h (fun hl hs => ⟨okt hs, by rw [← hl']; exact stJ_ok hl (okh hs)⟩) (fun p l e Rm s m args below meth c nc ns H locs Z lr ad hx hb hv hs k => lv_lstore_n hx hb hd hi hv hn (by rw [← hl']; exact stJ_map ad ls i (vJ x)) k)
theorem R_lstore {i : Nat} {x : Int} (hl' : stJ ls i (vJ x) = ls') (hn : i + 1 < mL M) (hd : decode (mC M) pc = .ok (.lstore i, 2)) (h : Rn lay M (pc + 2) ls' st σ Q) : Rn lay M pc ls (vJ x :: st) σ Q :=
  Rn.lst h (fun hl hs => ⟨okt hs, by rw [← hl']; exact stJ_ok hl (okh hs)⟩) (fun p l e Rm s m args below meth c nc ns H locs Z lr ad hx hb hv hs k => lv_lstore hx hb hd hv hn (by rw [← hl']; exact stJ_map ad ls i (vJ x)) k)
theorem R_astore_n {k : Fin 4} {i : Nat} {q : Nat} (hl' : stL ls i (vP q) = ls') (hi : (k : Nat) = i) (hn : i < mL M) (hd : decode (mC M) pc = .ok (.astore_n k, 1)) (h : Rn lay M (pc + 1) ls' st σ Q) : Rn lay M pc ls (vP q :: st) σ Q :=
  Rn.lst h (fun hl hs => ⟨okt hs, by rw [← hl']; exact stL_ok hl (okh hs)⟩) (fun p l e Rm s m args below meth c nc ns H locs Z lr ad hx hb hv hs k => lv_astore_n hx hb hd hi hv hn (by rw [← hl']; exact stL_map ad ls i (vP q)) k)
theorem R_astore {i : Nat} {q : Nat} (hl' : stL ls i (vP q) = ls') (hn : i < mL M) (hd : decode (mC M) pc = .ok (.astore i, 2)) (h : Rn lay M (pc + 2) ls' st σ Q) : Rn lay M pc ls (vP q :: st) σ Q :=
  Rn.lst h (fun hl hs => ⟨okt hs, by rw [← hl']; exact stL_ok hl (okh hs)⟩) (fun p l e Rm s m args below meth c nc ns H locs Z lr ad hx hb hv hs k => lv_astore hx hb hd hv hn (by rw [← hl']; exact stL_map ad ls i (vP q)) k)
theorem R_iinc {i : Nat} {x n y : Int} (pl : Nat) (hp : ls[pl]? = some (i, vI x)) (hy : x + n = y) (hr : inT 0 y) (hl' : stL ls i (vI y) = ls') (hn : i < mL M) (hd : decode (mC M) pc = .ok (.iinc i n, 3)) (h : Rn lay M (pc + 3) ls' st σ Q) : Rn lay M pc ls st σ Q :=
  Rn.lst h (fun hl hs => ⟨hs, by rw [← hl']; exact stL_ok hl hr⟩) (fun p l e Rm s m args below meth c nc ns H locs Z lr ad hx hb hv hs k => lv_iinc (v := Int32.ofInt y) hx hb hd hv (k := pl) (by rw [List.getElem?_map, hp]; rfl) (by rw [← hy, Int32.ofInt_add]) hn (by rw [← hl']; exact stL_map ad ls i (vI y)) k)
/-- fewer locals, in another order -/
theorem R_sub (is : List Nat) (hl' : is.filterMap (fun i => ls[i]?) = ls') (h : Rn lay M pc ls' st σ Q) : Rn lay M pc ls st σ Q := fun hl hs hg p l e Rm s m args below meth c ad D cA A nc ns H locs lr C hP hS hv => by
  have hm : ∀ q ∈ ls', q ∈ ls := fun q hq => by
    rw [← hl'] at hq
    obtain ⟨i, -, hi⟩ := List.mem_filterMap.mp hq
    exact List.mem_of_getElem? hi
  refine h (fun q hq => hl q (hm q hq)) hs hg p l e Rm s m args below meth c ad D cA A nc ns H locs lr C hP hS ⟨hv.1, hv.2.1, fun q hq => ?_⟩
  obtain ⟨w, hw, rfl⟩ := List.mem_map.mp hq
  exact hv.2.2 _ (List.mem_map.mpr ⟨w, hm w hw, rfl⟩)
/- arithmetic -/
theorem R_bin {a b x : AV} {len : Nat} (h : Rn lay M (pc + len) ls (x :: st) σ Q) (hok : okV b → okV a → okV x) (hw : ∀ (p : Program) (l : Launch) (e : Env) (Rm : Room) (s : State) (m : MethodId) (args : Array Value) (below : List Frame) (meth : Method) (c : Code) (nc ns : Nat) (H : Heap) (locs : List Loc) (Z : State → Prop) (lr : Array Slot) (ad : Nat → Nat) (rest : List Value), p.tables.exec = Jvm.exec → c.code = mC M → okV b → okV a →
      W p l e Rm s m args below meth c H locs nc ns Z (F0 m (pc + len) lr (rv ad x :: rest)) → W p l e Rm s m args below meth c H locs nc ns Z (F0 m pc lr (rv ad b :: rv ad a :: rest))) : Rn lay M pc ls (b :: a :: st) σ Q :=
  Rn.stk h (fun _ hs => okc (hok (okh hs) (okh (okt hs))) (okt (okt hs))) (fun p l e Rm s m args below meth c nc ns H locs Z lr ad hx hb _ _ hs k => hw p l e Rm s m args below meth c nc ns H locs Z lr ad _ hx hb (okh hs) (okh (okt hs)) k)
theorem R_un {a x : AV} {len : Nat} (h : Rn lay M (pc + len) ls (x :: st) σ Q) (hok : okV a → okV x) (hw : ∀ (p : Program) (l : Launch) (e : Env) (Rm : Room) (s : State) (m : MethodId) (args : Array Value) (below : List Frame) (meth : Method) (c : Code) (nc ns : Nat) (H : Heap) (locs : List Loc) (Z : State → Prop) (lr : Array Slot) (ad : Nat → Nat) (rest : List Value), p.tables.exec = Jvm.exec → c.code = mC M → okV a →
      W p l e Rm s m args below meth c H locs nc ns Z (F0 m (pc + len) lr (rv ad x :: rest)) → W p l e Rm s m args below meth c H locs nc ns Z (F0 m pc lr (rv ad a :: rest))) : Rn lay M pc ls (a :: st) σ Q :=
  Rn.stk h (fun _ hs => okc (hok (okh hs)) (okt hs)) (fun p l e Rm s m args below meth c nc ns H locs Z lr ad hx hb _ _ hs k => hw p l e Rm s m args below meth c nc ns H locs Z lr ad _ hx hb (okh hs) k)
theorem R_iadd {a b : Int} (hr : inT 0 (a + b)) (hd : decode (mC M) pc = .ok (.iadd, 1)) (h : Rn lay M (pc + 1) ls (vI (a + b) :: st) σ Q) : Rn lay M pc ls (vI b :: vI a :: st) σ Q :=
  R_bin h (fun _ _ => hr) (fun p l e Rm s m args below meth c nc ns H locs Z lr ad rest hx hb h1 h2 k => lv_iadd hx hb hd (by rw [← Int32.ofInt_add]; exact k))
theorem R_iaddW {a b : Int} (hd : decode (mC M) pc = .ok (.iadd, 1)) (h : Rn lay M (pc + 1) ls (vI (w32 (a + b)) :: st) σ Q) : Rn lay M pc ls (vI b :: vI a :: st) σ Q :=
  R_bin h (fun _ _ => w32_in _) (fun p l e Rm s m args below meth c nc ns H locs Z lr ad rest hx hb h1 h2 k => lv_iadd hx hb hd (by rw [← Int32.ofInt_add, ← i32w]; exact k))
theorem R_ladd {a b : Int} (hr : inT 1 (a + b)) (hd : decode (mC M) pc = .ok (.ladd, 1)) (h : Rn lay M (pc + 1) ls (vJ (a + b) :: st) σ Q) : Rn lay M pc ls (vJ b :: vJ a :: st) σ Q :=
  R_bin h (fun _ _ => hr) (fun p l e Rm s m args below meth c nc ns H locs Z lr ad rest hx hb h1 h2 k => lv_ladd hx hb hd (by rw [← Int64.ofInt_add]; exact k))
theorem R_isub {a b : Int} (hr : inT 0 (a - b)) (hd : decode (mC M) pc = .ok (.isub, 1)) (h : Rn lay M (pc + 1) ls (vI (a - b) :: st) σ Q) : Rn lay M pc ls (vI b :: vI a :: st) σ Q :=
  R_bin h (fun _ _ => hr) (fun p l e Rm s m args below meth c nc ns H locs Z lr ad rest hx hb h1 h2 k => lv_isub hx hb hd (by rw [← Int32.ofInt_sub]; exact k))
theorem R_isubW {a b : Int} (hd : decode (mC M) pc = .ok (.isub, 1)) (h : Rn lay M (pc + 1) ls (vI (w32 (a - b)) :: st) σ Q) : Rn lay M pc ls (vI b :: vI a :: st) σ Q :=
  R_bin h (fun _ _ => w32_in _) (fun p l e Rm s m args below meth c nc ns H locs Z lr ad rest hx hb h1 h2 k => lv_isub hx hb hd (by rw [← Int32.ofInt_sub, ← i32w]; exact k))
theorem R_lsub {a b : Int} (hr : inT 1 (a - b)) (hd : decode (mC M) pc = .ok (.lsub, 1)) (h : Rn lay M (pc + 1) ls (vJ (a - b) :: st) σ Q) : Rn lay M pc ls (vJ b :: vJ a :: st) σ Q :=
  R_bin h (fun _ _ => hr) (fun p l e Rm s m args below meth c nc ns H locs Z lr ad rest hx hb h1 h2 k => lv_lsub hx hb hd (by rw [← Int64.ofInt_sub]; exact k))
theorem R_imul {a b : Int} (hr : inT 0 (a * b)) (hd : decode (mC M) pc = .ok (.imul, 1)) (h : Rn lay M (pc + 1) ls (vI (a * b) :: st) σ Q) : Rn lay M pc ls (vI b :: vI a :: st) σ Q :=
  R_bin h (fun _ _ => hr) (fun p l e Rm s m args below meth c nc ns H locs Z lr ad rest hx hb h1 h2 k => lv_imul hx hb hd (by rw [← Int32.ofInt_mul]; exact k))
theorem R_imulW {a b : Int} (hd : decode (mC M) pc = .ok (.imul, 1)) (h : Rn lay M (pc + 1) ls (vI (w32 (a * b)) :: st) σ Q) : Rn lay M pc ls (vI b :: vI a :: st) σ Q :=
  R_bin h (fun _ _ => w32_in _) (fun p l e Rm s m args below meth c nc ns H locs Z lr ad rest hx hb h1 h2 k => lv_imul hx hb hd (by rw [← Int32.ofInt_mul, ← i32w]; exact k))
theorem R_lmul {a b : Int} (hr : inT 1 (a * b)) (hd : decode (mC M) pc = .ok (.lmul, 1)) (h : Rn lay M (pc + 1) ls (vJ (a * b) :: st) σ Q) : Rn lay M pc ls (vJ b :: vJ a :: st) σ Q :=
  R_bin h (fun _ _ => hr) (fun p l e Rm s m args below meth c nc ns H locs Z lr ad rest hx hb h1 h2 k => lv_lmul hx hb hd (by rw [← Int64.ofInt_mul]; exact k))
theorem R_idiv {a b : Int} (hb0 : b ≠ 0) (hr : inT 0 (a.tdiv b)) (hd : decode (mC M) pc = .ok (.idiv, 1)) (h : Rn lay M (pc + 1) ls (vI (a.tdiv b) :: st) σ Q) : Rn lay M pc ls (vI b :: vI a :: st) σ Q :=
  R_bin h (fun _ _ => hr) (fun p l e Rm s m args below meth c nc ns H locs Z lr ad rest hx hb h1 h2 k => lv_idiv hx hb hd (fun z => hb0 ((i32eq h1 in0_0).mp z)) (by rw [i32div h2 h1]; exact k))
theorem R_irem {a b : Int} (hb0 : b ≠ 0) (hd : decode (mC M) pc = .ok (.irem, 1)) (h : Rn lay M (pc + 1) ls (vI (a.tmod b) :: st) σ Q) : Rn lay M pc ls (vI b :: vI a :: st) σ Q :=
  R_bin h (fun _ h2 => tmod_in (t := 0) (by decide) h2) (fun p l e Rm s m args below meth c nc ns H locs Z lr ad rest hx hb h1 h2 k => lv_irem hx hb hd (fun z => hb0 ((i32eq h1 in0_0).mp z)) (by rw [i32rem h2 h1]; exact k))
theorem R_ldiv {a b : Int} (hb0 : b ≠ 0) (hr : inT 1 (a.tdiv b)) (hd : decode (mC M) pc = .ok (.ldiv, 1)) (h : Rn lay M (pc + 1) ls (vJ (a.tdiv b) :: st) σ Q) : Rn lay M pc ls (vJ b :: vJ a :: st) σ Q :=
  R_bin h (fun _ _ => hr) (fun p l e Rm s m args below meth c nc ns H locs Z lr ad rest hx hb h1 h2 k => lv_ldiv hx hb hd (fun z => hb0 ((i64eq h1 in1_0).mp z)) (by rw [i64div h2 h1]; exact k))
theorem R_lrem {a b : Int} (hb0 : b ≠ 0) (hd : decode (mC M) pc = .ok (.lrem, 1)) (h : Rn lay M (pc + 1) ls (vJ (a.tmod b) :: st) σ Q) : Rn lay M pc ls (vJ b :: vJ a :: st) σ Q :=
  R_bin h (fun _ h2 => tmod_in (t := 1) (by decide) h2) (fun p l e Rm s m args below meth c nc ns H locs Z lr ad rest hx hb h1 h2 k => lv_lrem hx hb hd (fun z => hb0 ((i64eq h1 in1_0).mp z)) (by rw [i64rem h2 h1]; exact k))
theorem R_lneg {a : Int} (hr : inT 1 (-a)) (hd : decode (mC M) pc = .ok (.lneg, 1)) (h : Rn lay M (pc + 1) ls (vJ (-a) :: st) σ Q) : Rn lay M pc ls (vJ a :: st) σ Q :=
  R_un h (fun _ => hr) (fun p l e Rm s m args below meth c nc ns H locs Z lr ad rest hx hb h1 k => lv_lneg hx hb hd (by rw [← Int64.ofInt_neg]; exact k))
theorem R_i2l {a : Int} (hd : decode (mC M) pc = .ok (.i2l, 1)) (h : Rn lay M (pc + 1) ls (vJ a :: st) σ Q) : Rn lay M pc ls (vI a :: st) σ Q :=
  R_un h (fun ha => ⟨by have := ha.1; omega, by have := ha.2; omega⟩) (fun p l e Rm s m args below meth c nc ns H locs Z lr ad rest hx hb h1 k => lv_i2l hx hb hd (Int32.toInt64_ofInt h1.1 h1.2) k)
theorem R_l2i {a : Int} (hr : inT 0 a) (hd : decode (mC M) pc = .ok (.l2i, 1)) (h : Rn lay M (pc + 1) ls (vI a :: st) σ Q) : Rn lay M pc ls (vJ a :: st) σ Q :=
  R_un h (fun _ => hr) (fun p l e Rm s m args below meth c nc ns H locs Z lr ad rest hx hb h1 k => lv_l2i hx hb hd Int64.toInt32_ofInt k)
def w8 (x : Int) : Int := x.bmod 256
def w16 (x : Int) : Int := x.bmod 65536
theorem w8_in (x : Int) : inT 3 (w8 x) := by
  have h1 := Int.le_bmod (x := x) (m := 256) (by decide)
  have h2 := Int.bmod_lt (x := x) (m := 256) (by decide)
  exact ⟨by unfold w8; omega, by unfold w8; omega⟩
theorem w16_in (x : Int) : -32768 ≤ w16 x ∧ w16 x ≤ 32767 := by
  have h1 := Int.le_bmod (x := x) (m := 65536) (by decide)
  have h2 := Int.bmod_lt (x := x) (m := 65536) (by decide)
  exact ⟨by unfold w16; omega, by unfold w16; omega⟩
theorem i32b {x : Int} (h : inT 0 x) : (Int32.ofInt x).toInt8.toInt32 = Int32.ofInt (w8 x) := by
  apply Int32.toInt_inj.mp
  have h2 := w8_in x
  rw [i32r (show inT 0 (w8 x) from ⟨by have := h2.1; omega, by have := h2.2; omega⟩), Int8.toInt_toInt32, Int32.toInt_toInt8, i32r h]
  rfl
theorem i32s {x : Int} (h : inT 0 x) : (Int32.ofInt x).toInt16.toInt32 = Int32.ofInt (w16 x) := by
  apply Int32.toInt_inj.mp
  have h2 := w16_in x
  rw [i32r (show inT 0 (w16 x) from ⟨by have := h2.1; omega, by have := h2.2; omega⟩), Int16.toInt_toInt32, Int32.toInt_toInt16, i32r h]
  rfl
theorem R_i2b {a : Int} (hd : decode (mC M) pc = .ok (.i2b, 1)) (h : Rn lay M (pc + 1) ls (vI (w8 a) :: st) σ Q) : Rn lay M pc ls (vI a :: st) σ Q :=
  R_un h (fun _ => ⟨by have := (w8_in a).1; omega, by have := (w8_in a).2; omega⟩) (fun p l e Rm s m args below meth c nc ns H locs Z lr ad rest hx hb h1 k => lv_i2b hx hb hd (i32b h1) k)
theorem R_i2s {a : Int} (hd : decode (mC M) pc = .ok (.i2s, 1)) (h : Rn lay M (pc + 1) ls (vI (w16 a) :: st) σ Q) : Rn lay M pc ls (vI a :: st) σ Q :=
  R_un h (fun _ => ⟨by have := (w16_in a).1; omega, by have := (w16_in a).2; omega⟩) (fun p l e Rm s m args below meth c nc ns H locs Z lr ad rest hx hb h1 k => lv_i2s hx hb hd (i32s h1) k)
def bAnd (a b : Int) : Int := (Int32.ofInt a &&& Int32.ofInt b).toInt
def bOr (a b : Int) : Int := (Int32.ofInt a ||| Int32.ofInt b).toInt
def bShl (a b : Int) : Int := (Int32.ofInt a <<< (Int32.ofInt b &&& 31)).toInt
def bShr (a b : Int) : Int := (Int32.ofInt a >>> (Int32.ofInt b &&& 31)).toInt
def bUshr (a b : Int) : Int := ((Int32.ofInt a).toUInt32 >>> ((Int32.ofInt b).toUInt32 &&& Int32.toUInt32 31)).toInt32.toInt
theorem i32in (x : Int32) : inT 0 x.toInt := ⟨by have := x.le_toInt; omega, by have := x.toInt_lt; omega⟩
theorem R_iand {a b : Int} (hd : decode (mC M) pc = .ok (.iand, 1)) (h : Rn lay M (pc + 1) ls (vI (bAnd a b) :: st) σ Q) : Rn lay M pc ls (vI b :: vI a :: st) σ Q :=
  R_bin h (fun _ _ => i32in _) (fun p l e Rm s m args below meth c nc ns H locs Z lr ad rest hx hb h1 h2 k => lv_iand hx hb hd (by simpa only [rv, bAnd, Int32.ofInt_toInt] using k))
theorem R_ior {a b : Int} (hd : decode (mC M) pc = .ok (.ior, 1)) (h : Rn lay M (pc + 1) ls (vI (bOr a b) :: st) σ Q) : Rn lay M pc ls (vI b :: vI a :: st) σ Q :=
  R_bin h (fun _ _ => i32in _) (fun p l e Rm s m args below meth c nc ns H locs Z lr ad rest hx hb h1 h2 k => lv_ior hx hb hd (by simpa only [rv, bOr, Int32.ofInt_toInt] using k))
theorem R_ishl {a b : Int} (hd : decode (mC M) pc = .ok (.ishl, 1)) (h : Rn lay M (pc + 1) ls (vI (bShl a b) :: st) σ Q) : Rn lay M pc ls (vI b :: vI a :: st) σ Q :=
  R_bin h (fun _ _ => i32in _) (fun p l e Rm s m args below meth c nc ns H locs Z lr ad rest hx hb h1 h2 k => lv_ishl hx hb hd (by simpa only [rv, bShl, Int32.ofInt_toInt] using k))
theorem R_ishr {a b : Int} (hd : decode (mC M) pc = .ok (.ishr, 1)) (h : Rn lay M (pc + 1) ls (vI (bShr a b) :: st) σ Q) : Rn lay M pc ls (vI b :: vI a :: st) σ Q :=
  R_bin h (fun _ _ => i32in _) (fun p l e Rm s m args below meth c nc ns H locs Z lr ad rest hx hb h1 h2 k => lv_ishr hx hb hd (by simpa only [rv, bShr, Int32.ofInt_toInt] using k))
theorem R_iushr {a b : Int} (hd : decode (mC M) pc = .ok (.iushr, 1)) (h : Rn lay M (pc + 1) ls (vI (bUshr a b) :: st) σ Q) : Rn lay M pc ls (vI b :: vI a :: st) σ Q :=
  R_bin h (fun _ _ => i32in _) (fun p l e Rm s m args below meth c nc ns H locs Z lr ad rest hx hb h1 h2 k => lv_iushr hx hb hd (by rw [bUshr, Int32.ofInt_toInt]) k)
/- the stack -/
theorem R_dup {a : AV} (ha : catA a = 1) (hd : decode (mC M) pc = .ok (.dup, 1)) (h : Rn lay M (pc + 1) ls (a :: a :: st) σ Q) : Rn lay M pc ls (a :: st) σ Q :=
  Rn.stk h (fun _ hs => okc (okh hs) hs) (fun p l e Rm s m args below meth c nc ns H locs Z lr ad hx hb _ _ hs k => lv_dup hx hb hd (by rw [rv_cat]; exact ha) k)
theorem R_dup2 {a b : AV} (ha : catA a = 1) (hb1 : catA b = 1) (hd : decode (mC M) pc = .ok (.dup2, 1)) (h : Rn lay M (pc + 1) ls (b :: a :: b :: a :: st) σ Q) : Rn lay M pc ls (b :: a :: st) σ Q :=
  Rn.stk h (fun _ hs => okc (okh hs) (okc (okh (okt hs)) hs)) (fun p l e Rm s m args below meth c nc ns H locs Z lr ad hx hb _ _ hs k => lv_dup2_11 hx hb hd (by rw [rv_cat]; exact hb1) (by rw [rv_cat]; exact ha) k)
theorem R_pop {a : AV} (ha : catA a = 1) (hd : decode (mC M) pc = .ok (.pop, 1)) (h : Rn lay M (pc + 1) ls st σ Q) : Rn lay M pc ls (a :: st) σ Q :=
  Rn.stk h (fun _ hs => okt hs) (fun p l e Rm s m args below meth c nc ns H locs Z lr ad hx hb _ _ hs k => lv_pop hx hb hd (by rw [rv_cat]; exact ha) k)
/- branches -/
theorem R_goto {off : Int} {tgt : Nat} (ht : (pc : Int) + off = (tgt : Int)) (hd : decode (mC M) pc = .ok (.goto off, 3)) (h : Rn lay M tgt ls st σ Q) : Rn lay M pc ls st σ Q :=
  Rn.stk h (fun _ hs => hs) (fun p l e Rm s m args below meth c nc ns H locs Z lr ad hx hb _ _ hs k => lv_goto hx hb hd ht k)
theorem Rn.br {pt pf : Nat} {st st' : List AV} {P1 P2 : Prop} (k1 : P1 → Rn lay M pt ls st' σ Q) (k2 : P2 → Rn lay M pf ls st' σ Q) (hok : (∀ v ∈ st, okV v) → ∀ v ∈ st', okV v)
    (hw : ∀ (p : Program) (l : Launch) (e : Env) (Rm : Room) (s : State) (m : MethodId) (args : Array Value) (below : List Frame) (meth : Method) (c : Code) (nc ns : Nat) (H : Heap) (locs : List Loc) (Z : State → Prop) (lr : Array Slot) (ad : Nat → Nat), p.tables.exec = Jvm.exec → c.code = mC M → (∀ v ∈ st, okV v) →
      (P1 → W p l e Rm s m args below meth c H locs nc ns Z (F0 m pt lr (st'.map (rv ad)))) → (P2 → W p l e Rm s m args below meth c H locs nc ns Z (F0 m pf lr (st'.map (rv ad)))) → W p l e Rm s m args below meth c H locs nc ns Z (F0 m pc lr (st.map (rv ad)))) : Rn lay M pc ls st σ Q := fun hl hs hg p l e Rm s m args below meth c ad D cA A nc ns H locs lr C hP hS hv =>
  hw p l e Rm s m args below meth c nc ns H locs _ lr ad C.1 C.2.1 hs (fun q => k1 q hl (hok hs) hg p l e Rm s m args below meth c ad D cA A nc ns H locs lr C hP hS hv) (fun q => k2 q hl (hok hs) hg p l e Rm s m args below meth c ad D cA A nc ns H locs lr C hP hS hv)
theorem R_icmp_eq {a b : Int} {off : Int} {tgt : Nat} (ht : (pc : Int) + off = (tgt : Int)) (hd : decode (mC M) pc = .ok (.if_icmp .eq off, 3)) (h1 : a = b → Rn lay M tgt ls st σ Q) (h2 : a ≠ b → Rn lay M (pc + 3) ls st σ Q) : Rn lay M pc ls (vI b :: vI a :: st) σ Q :=
  Rn.br h1 h2 (fun hs => okt (okt hs)) (fun p l e Rm s m args below meth c nc ns H locs Z lr ad hx hb hs k1 k2 => lv_icmp_eq hx hb hd ht (fun z => k1 ((i32eq (okh (okt hs)) (okh hs)).mp z)) (fun z => k2 ((fun w => z ((i32eq (okh (okt hs)) (okh hs)).mpr w)))))
theorem R_icmp_ne {a b : Int} {off : Int} {tgt : Nat} (ht : (pc : Int) + off = (tgt : Int)) (hd : decode (mC M) pc = .ok (.if_icmp .ne off, 3)) (h1 : a ≠ b → Rn lay M tgt ls st σ Q) (h2 : a = b → Rn lay M (pc + 3) ls st σ Q) : Rn lay M pc ls (vI b :: vI a :: st) σ Q :=
  Rn.br h1 h2 (fun hs => okt (okt hs)) (fun p l e Rm s m args below meth c nc ns H locs Z lr ad hx hb hs k1 k2 => lv_icmp_ne hx hb hd ht (fun z => k1 ((fun w => z ((i32eq (okh (okt hs)) (okh hs)).mpr w)))) (fun z => k2 (((i32eq (okh (okt hs)) (okh hs)).mp z))))
theorem R_icmp_lt {a b : Int} {off : Int} {tgt : Nat} (ht : (pc : Int) + off = (tgt : Int)) (hd : decode (mC M) pc = .ok (.if_icmp .lt off, 3)) (h1 : a < b → Rn lay M tgt ls st σ Q) (h2 : b ≤ a → Rn lay M (pc + 3) ls st σ Q) : Rn lay M pc ls (vI b :: vI a :: st) σ Q :=
  Rn.br h1 h2 (fun hs => okt (okt hs)) (fun p l e Rm s m args below meth c nc ns H locs Z lr ad hx hb hs k1 k2 => lv_icmp_lt hx hb hd ht (fun z => k1 ((i32lt (okh (okt hs)) (okh hs)).mp z)) (fun z => k2 ((Int.not_lt.mp fun w => z ((i32lt (okh (okt hs)) (okh hs)).mpr w)))))
theorem R_icmp_ge {a b : Int} {off : Int} {tgt : Nat} (ht : (pc : Int) + off = (tgt : Int)) (hd : decode (mC M) pc = .ok (.if_icmp .ge off, 3)) (h1 : b ≤ a → Rn lay M tgt ls st σ Q) (h2 : a < b → Rn lay M (pc + 3) ls st σ Q) : Rn lay M pc ls (vI b :: vI a :: st) σ Q :=
  Rn.br h1 h2 (fun hs => okt (okt hs)) (fun p l e Rm s m args below meth c nc ns H locs Z lr ad hx hb hs k1 k2 => lv_icmp_ge hx hb hd ht (fun z => k1 ((i32le (okh hs) (okh (okt hs))).mp z)) (fun z => k2 ((Int.not_le.mp fun w => z ((i32le (okh hs) (okh (okt hs))).mpr w)))))
theorem R_icmp_gt {a b : Int} {off : Int} {tgt : Nat} (ht : (pc : Int) + off = (tgt : Int)) (hd : decode (mC M) pc = .ok (.if_icmp .gt off, 3)) (h1 : b < a → Rn lay M tgt ls st σ Q) (h2 : a ≤ b → Rn lay M (pc + 3) ls st σ Q) : Rn lay M pc ls (vI b :: vI a :: st) σ Q :=
  Rn.br h1 h2 (fun hs => okt (okt hs)) (fun p l e Rm s m args below meth c nc ns H locs Z lr ad hx hb hs k1 k2 => lv_icmp_gt hx hb hd ht (fun z => k1 ((i32lt (okh hs) (okh (okt hs))).mp z)) (fun z => k2 ((Int.not_lt.mp fun w => z ((i32lt (okh hs) (okh (okt hs))).mpr w)))))
theorem R_icmp_le {a b : Int} {off : Int} {tgt : Nat} (ht : (pc : Int) + off = (tgt : Int)) (hd : decode (mC M) pc = .ok (.if_icmp .le off, 3)) (h1 : a ≤ b → Rn lay M tgt ls st σ Q) (h2 : b < a → Rn lay M (pc + 3) ls st σ Q) : Rn lay M pc ls (vI b :: vI a :: st) σ Q :=
  Rn.br h1 h2 (fun hs => okt (okt hs)) (fun p l e Rm s m args below meth c nc ns H locs Z lr ad hx hb hs k1 k2 => lv_icmp_le hx hb hd ht (fun z => k1 ((i32le (okh (okt hs)) (okh hs)).mp z)) (fun z => k2 ((Int.not_le.mp fun w => z ((i32le (okh (okt hs)) (okh hs)).mpr w)))))
theorem R_if_eq {a : Int} {off : Int} {tgt : Nat} (ht : (pc : Int) + off = (tgt : Int)) (hd : decode (mC M) pc = .ok (.ifCond .eq off, 3)) (h1 : a = 0 → Rn lay M tgt ls st σ Q) (h2 : a ≠ 0 → Rn lay M (pc + 3) ls st σ Q) : Rn lay M pc ls (vI a :: st) σ Q :=
  Rn.br h1 h2 (fun hs => okt hs) (fun p l e Rm s m args below meth c nc ns H locs Z lr ad hx hb hs k1 k2 => lv_if_eq hx hb hd ht (fun z => k1 ((i32eq (okh hs) in0_0).mp z)) (fun z => k2 ((fun w => z ((i32eq (okh hs) in0_0).mpr w)))))
theorem R_if_ne {a : Int} {off : Int} {tgt : Nat} (ht : (pc : Int) + off = (tgt : Int)) (hd : decode (mC M) pc = .ok (.ifCond .ne off, 3)) (h1 : a ≠ 0 → Rn lay M tgt ls st σ Q) (h2 : a = 0 → Rn lay M (pc + 3) ls st σ Q) : Rn lay M pc ls (vI a :: st) σ Q :=
  Rn.br h1 h2 (fun hs => okt hs) (fun p l e Rm s m args below meth c nc ns H locs Z lr ad hx hb hs k1 k2 => lv_if_ne hx hb hd ht (fun z => k1 ((fun w => z ((i32eq (okh hs) in0_0).mpr w)))) (fun z => k2 (((i32eq (okh hs) in0_0).mp z))))
theorem R_if_lt {a : Int} {off : Int} {tgt : Nat} (ht : (pc : Int) + off = (tgt : Int)) (hd : decode (mC M) pc = .ok (.ifCond .lt off, 3)) (h1 : a < 0 → Rn lay M tgt ls st σ Q) (h2 : 0 ≤ a → Rn lay M (pc + 3) ls st σ Q) : Rn lay M pc ls (vI a :: st) σ Q :=
  Rn.br h1 h2 (fun hs => okt hs) (fun p l e Rm s m args below meth c nc ns H locs Z lr ad hx hb hs k1 k2 => lv_if_lt hx hb hd ht (fun z => k1 ((i32lt (okh hs) in0_0).mp z)) (fun z => k2 ((Int.not_lt.mp fun w => z ((i32lt (okh hs) in0_0).mpr w)))))
theorem R_if_ge {a : Int} {off : Int} {tgt : Nat} (ht : (pc : Int) + off = (tgt : Int)) (hd : decode (mC M) pc = .ok (.ifCond .ge off, 3)) (h1 : 0 ≤ a → Rn lay M tgt ls st σ Q) (h2 : a < 0 → Rn lay M (pc + 3) ls st σ Q) : Rn lay M pc ls (vI a :: st) σ Q :=
  Rn.br h1 h2 (fun hs => okt hs) (fun p l e Rm s m args below meth c nc ns H locs Z lr ad hx hb hs k1 k2 => lv_if_ge hx hb hd ht (fun z => k1 ((i32le in0_0 (okh hs)).mp z)) (fun z => k2 ((Int.not_le.mp fun w => z ((i32le in0_0 (okh hs)).mpr w)))))
theorem R_if_gt {a : Int} {off : Int} {tgt : Nat} (ht : (pc : Int) + off = (tgt : Int)) (hd : decode (mC M) pc = .ok (.ifCond .gt off, 3)) (h1 : 0 < a → Rn lay M tgt ls st σ Q) (h2 : a ≤ 0 → Rn lay M (pc + 3) ls st σ Q) : Rn lay M pc ls (vI a :: st) σ Q :=
  Rn.br h1 h2 (fun hs => okt hs) (fun p l e Rm s m args below meth c nc ns H locs Z lr ad hx hb hs k1 k2 => lv_if_gt hx hb hd ht (fun z => k1 ((i32lt in0_0 (okh hs)).mp z)) (fun z => k2 ((Int.not_lt.mp fun w => z ((i32lt in0_0 (okh hs)).mpr w)))))
theorem R_if_le {a : Int} {off : Int} {tgt : Nat} (ht : (pc : Int) + off = (tgt : Int)) (hd : decode (mC M) pc = .ok (.ifCond .le off, 3)) (h1 : a ≤ 0 → Rn lay M tgt ls st σ Q) (h2 : 0 < a → Rn lay M (pc + 3) ls st σ Q) : Rn lay M pc ls (vI a :: st) σ Q :=
  Rn.br h1 h2 (fun hs => okt hs) (fun p l e Rm s m args below meth c nc ns H locs Z lr ad hx hb hs k1 k2 => lv_if_le hx hb hd ht (fun z => k1 ((i32le (okh hs) in0_0).mp z)) (fun z => k2 ((Int.not_le.mp fun w => z ((i32le (okh hs) in0_0).mpr w)))))
def cmpL (a b : Int) : Int := if b < a then 1 else if a = b then 0 else -1
theorem lg_cmp_i {a b : Int} (ha : inT 1 a) (hb : inT 1 b) : lg_cmp (Int64.ofInt a) (Int64.ofInt b) = Int32.ofInt (cmpL a b) := by
  unfold lg_cmp cmpL
  simp only [i64lt hb ha, i64eq ha hb]
  by_cases h1 : b < a
  · simp [h1]
  · by_cases h2 : a = b
    · simp [h1, h2]
    · simp [h1, h2]
theorem R_lcmp {a b : Int} (hd : decode (mC M) pc = .ok (.lcmp, 1)) (h : Rn lay M (pc + 1) ls (vI (cmpL a b) :: st) σ Q) : Rn lay M pc ls (vJ b :: vJ a :: st) σ Q :=
  R_bin h (fun _ _ => by show inT 0 (cmpL a b); unfold cmpL; split; exact ⟨by decide, by decide⟩; split; exact ⟨by decide, by decide⟩; exact ⟨by decide, by decide⟩) (fun p l e Rm s m args below meth c nc ns H locs Z lr ad rest hx hb h1 h2 k => W.lcmp hx hb hd (by rw [lg_cmp_i h2 h1]; exact k))
theorem cmpL_eq {a b : Int} : cmpL a b = 0 ↔ a = b := by unfold cmpL; split; constructor <;> omega; split <;> constructor <;> omega
theorem cmpL_lt {a b : Int} : cmpL a b < 0 ↔ a < b := by unfold cmpL; split; constructor <;> omega; split <;> constructor <;> omega
theorem cmpL_gt {a b : Int} : 0 < cmpL a b ↔ b < a := by unfold cmpL; split; constructor <;> omega; split <;> constructor <;> omega
theorem cmpL_ge {a b : Int} : 0 ≤ cmpL a b ↔ b ≤ a := by unfold cmpL; split; constructor <;> omega; split <;> constructor <;> omega
theorem cmpL_le {a b : Int} : cmpL a b ≤ 0 ↔ a ≤ b := by unfold cmpL; split; constructor <;> omega; split <;> constructor <;> omega
theorem R_lcmp_eq {a b : Int} {off : Int} {tgt : Nat} (hd0 : decode (mC M) pc = .ok (.lcmp, 1)) (ht : ((pc + 1 : Nat) : Int) + off = (tgt : Int)) (hd : decode (mC M) (pc + 1) = .ok (.ifCond .eq off, 3)) (h1 : a = b → Rn lay M tgt ls st σ Q) (h2 : a ≠ b → Rn lay M (pc + 4) ls st σ Q) : Rn lay M pc ls (vJ b :: vJ a :: st) σ Q :=
  R_lcmp hd0 (R_if_eq ht hd (fun z => h1 (cmpL_eq.mp z)) (fun z => h2 ((fun w => z (cmpL_eq.mpr w)))))
theorem R_lcmp_ne {a b : Int} {off : Int} {tgt : Nat} (hd0 : decode (mC M) pc = .ok (.lcmp, 1)) (ht : ((pc + 1 : Nat) : Int) + off = (tgt : Int)) (hd : decode (mC M) (pc + 1) = .ok (.ifCond .ne off, 3)) (h1 : a ≠ b → Rn lay M tgt ls st σ Q) (h2 : a = b → Rn lay M (pc + 4) ls st σ Q) : Rn lay M pc ls (vJ b :: vJ a :: st) σ Q :=
  R_lcmp hd0 (R_if_ne ht hd (fun z => h1 ((fun w => z (cmpL_eq.mpr w)))) (fun z => h2 (cmpL_eq.mp z)))
theorem R_lcmp_lt {a b : Int} {off : Int} {tgt : Nat} (hd0 : decode (mC M) pc = .ok (.lcmp, 1)) (ht : ((pc + 1 : Nat) : Int) + off = (tgt : Int)) (hd : decode (mC M) (pc + 1) = .ok (.ifCond .lt off, 3)) (h1 : a < b → Rn lay M tgt ls st σ Q) (h2 : b ≤ a → Rn lay M (pc + 4) ls st σ Q) : Rn lay M pc ls (vJ b :: vJ a :: st) σ Q :=
  R_lcmp hd0 (R_if_lt ht hd (fun z => h1 (cmpL_lt.mp z)) (fun z => h2 (cmpL_ge.mp z)))
theorem R_lcmp_ge {a b : Int} {off : Int} {tgt : Nat} (hd0 : decode (mC M) pc = .ok (.lcmp, 1)) (ht : ((pc + 1 : Nat) : Int) + off = (tgt : Int)) (hd : decode (mC M) (pc + 1) = .ok (.ifCond .ge off, 3)) (h1 : b ≤ a → Rn lay M tgt ls st σ Q) (h2 : a < b → Rn lay M (pc + 4) ls st σ Q) : Rn lay M pc ls (vJ b :: vJ a :: st) σ Q :=
  R_lcmp hd0 (R_if_ge ht hd (fun z => h1 (cmpL_ge.mp z)) (fun z => h2 (cmpL_lt.mp z)))
theorem R_lcmp_gt {a b : Int} {off : Int} {tgt : Nat} (hd0 : decode (mC M) pc = .ok (.lcmp, 1)) (ht : ((pc + 1 : Nat) : Int) + off = (tgt : Int)) (hd : decode (mC M) (pc + 1) = .ok (.ifCond .gt off, 3)) (h1 : b < a → Rn lay M tgt ls st σ Q) (h2 : a ≤ b → Rn lay M (pc + 4) ls st σ Q) : Rn lay M pc ls (vJ b :: vJ a :: st) σ Q :=
  R_lcmp hd0 (R_if_gt ht hd (fun z => h1 (cmpL_gt.mp z)) (fun z => h2 (cmpL_le.mp z)))
theorem R_lcmp_le {a b : Int} {off : Int} {tgt : Nat} (hd0 : decode (mC M) pc = .ok (.lcmp, 1)) (ht : ((pc + 1 : Nat) : Int) + off = (tgt : Int)) (hd : decode (mC M) (pc + 1) = .ok (.ifCond .le off, 3)) (h1 : a ≤ b → Rn lay M tgt ls st σ Q) (h2 : b < a → Rn lay M (pc + 4) ls st σ Q) : Rn lay M pc ls (vJ b :: vJ a :: st) σ Q :=
  R_lcmp hd0 (R_if_le ht hd (fun z => h1 (cmpL_le.mp z)) (fun z => h2 (cmpL_gt.mp z)))
/- memory -/
theorem cW_at {ad : Nat → Nat} {cA : Nat → ClassId} {q : Nat} {c : LC} (h : lay[q]? = some c) : (cW ad cA lay σ)[q]? = some (ad q, cE ad cA σ q c) := by
  rw [cW, List.getElem?_mapIdx, h]; rfl
theorem cE_off {ad : Nat → Nat} {cA : Nat → ClassId} {q q' : Nat} {j x : Int} {c : LC} (h : q' ≠ q) : cE ad cA (upM σ q j x) q' c = cE ad cA σ q' c := by
  have e : ∀ b, upM σ q j x q' b = σ q' b := fun b => if_neg (fun z => h z.1)
  rcases c with ⟨t, n, rs⟩ | ⟨k, fs⟩
  · simp only [cE, e]
  · simp only [cE, e]
theorem cW_set {ad : Nat → Nat} {cA : Nat → ClassId} {q : Nat} {j x : Int} {c : LC} (h : lay[q]? = some c) : (cW ad cA lay σ).set q (ad q, cE ad cA (upM σ q j x) q c) = cW ad cA lay (upM σ q j x) := by
  apply List.ext_getElem?
  intro i
  by_cases hi : i = q
  · subst hi
    rw [List.getElem?_set_self (by rw [cW, List.length_mapIdx]; exact (List.getElem?_eq_some_iff.mp h).1), cW_at h]
  · rw [List.getElem?_set_ne (Ne.symm hi), cW, cW, List.getElem?_mapIdx, List.getElem?_mapIdx]
    cases hc : lay[i]? with
    | none => rfl
    | some c' => simp only [Option.map_some]; rw [cE_off hi]
theorem cD {ad : Nat → Nat} {cA : Nat → ClassId} {A : Nat → Prop} (h : (∀ i j, i < lay.length → j < lay.length → ad i = ad j → i = j) ∧ ∀ i, i < lay.length → A (ad i)) : va_D A (cW ad cA lay σ) := by
  have key : ∀ (k : Nat) (q : Nat × va_E), (cW ad cA lay σ)[k]? = some q → k < lay.length ∧ q.1 = ad k := by
    intro k q hk
    rw [cW, List.getElem?_mapIdx] at hk
    cases hc : lay[k]? with
    | none => rw [hc] at hk; cases hk
    | some c => rw [hc] at hk; cases hk; exact ⟨(List.getElem?_eq_some_iff.mp hc).1, rfl⟩
  refine ⟨fun i j p q hi hj e => ?_, fun k q hk => ?_⟩
  · obtain ⟨l1, e1⟩ := key i p hi
    obtain ⟨l2, e2⟩ := key j q hj
    exact h.1 i j l1 l2 (by rw [← e1, ← e2]; exact e)
  · obtain ⟨l1, e1⟩ := key k q hk
    rw [e1]; exact h.2 k l1
/-- a field's place by its link: class number ci, field k, as the word of the pool entry idx of the class own says -/
def FL (own : String) (idx ci k : Nat) : Prop := ∃ (C : String) (T : u_T) (N : Nat), vwCl[ci]? = some (C, T, N) ∧ k < N ∧ (∀ w ∈ u_ws C T N, w ∈ WT) ∧ Cond.fieldLink own idx (T k).1 (T k).2.1 (T k).2.2.1 ∈ WT
def FP (own : String) (idx ci k : Nat) (ty : FieldType) : Prop := ∃ (C : String) (T : u_T) (N : Nat) (t0 : Nat → FieldType), vwCl[ci]? = some (C, T, N) ∧ k < N ∧ (∀ w ∈ u_ws C T N, w ∈ WT) ∧ Cond.fieldLink own idx (T k).1 (T k).2.1 (T k).2.2.1 ∈ WT ∧ (∀ k, k < N → parseFieldDescriptor (T k).2.2.1 = some (t0 k)) ∧ (∀ a, a < N → ∀ b, b < N → a ≠ b → (T a).2.1 ≠ (T b).2.1) ∧ (T k).2.2.2 = false ∧ t0 k = ty
theorem R_get {q ci k idx d : Nat} {fs : List Nat} {v : AV} (hq : lay[q]? = some (.inr (ci, fs))) (hk : fs[k]? = some d) (hF : FL (mY M).cls idx ci k) (hv : ∀ ad, fv ad (σ q (k : Int)) d = rv ad v) (hok : inT d (σ q (k : Int)) → okV v) (hd : decode (mC M) pc = .ok (.getfield idx, 3)) (h : Rn lay M (pc + 3) ls (v :: st) σ Q) : Rn lay M pc ls (vP q :: st) σ Q := by
  intro hl hs hg p l e Rm s m args below meth c ad D cA A nc ns H locs lr C hP hS hlv
  obtain ⟨Cn, T, N, h1, h2, h3, h4⟩ := hF
  have C0 := C
  obtain ⟨hx, hb, hr, hml, hown, hts, hlk, hKN, hDD, hA, hrm⟩ := C
  refine va_get (D := D) (ci := ci) (C := Cn) (T := T) (N := N) (cl := vwCl) hx hb hts h3 hown hKN.1 hP q (cW_at hq) h1 k h2 (hts _ h4) (fun _ z => z) (v := rv ad v) ?_ hd ?_
  · rw [List.getElem?_mapIdx, hk, ← hv ad]; rfl
  · exact h hl (okc (hok (hg q _ hq k d hk)) (okt hs)) hg p l e Rm s m args below meth c ad D cA A nc ns H locs lr C0 hP hS hlv
theorem R_getI {q ci k idx : Nat} {fs : List Nat} (hq : lay[q]? = some (.inr (ci, fs))) (hk : fs[k]? = some 0) (hF : FL (mY M).cls idx ci k) (hd : decode (mC M) pc = .ok (.getfield idx, 3)) (h : Rn lay M (pc + 3) ls (vI (σ q (k : Int)) :: st) σ Q) : Rn lay M pc ls (vP q :: st) σ Q :=
  R_get (v := vI (σ q (k : Int))) hq hk hF (fun _ => rfl) (fun z => z) hd h
theorem R_getJ {q ci k idx : Nat} {fs : List Nat} (hq : lay[q]? = some (.inr (ci, fs))) (hk : fs[k]? = some 1) (hF : FL (mY M).cls idx ci k) (hd : decode (mC M) pc = .ok (.getfield idx, 3)) (h : Rn lay M (pc + 3) ls (vJ (σ q (k : Int)) :: st) σ Q) : Rn lay M pc ls (vP q :: st) σ Q :=
  R_get (v := vJ (σ q (k : Int))) hq hk hF (fun _ => rfl) (fun z => z) hd h
theorem R_getZ {q ci k idx : Nat} {fs : List Nat} (hq : lay[q]? = some (.inr (ci, fs))) (hk : fs[k]? = some 2) (hF : FL (mY M).cls idx ci k) (hd : decode (mC M) pc = .ok (.getfield idx, 3)) (h : Rn lay M (pc + 3) ls (vI (σ q (k : Int)) :: st) σ Q) : Rn lay M pc ls (vP q :: st) σ Q :=
  R_get (v := vI (σ q (k : Int))) hq hk hF (fun _ => rfl) (fun z => ⟨by have := z.1; omega, by have := z.2; omega⟩) hd h
theorem R_getP {q ci k idx q' : Nat} {fs : List Nat} (hq : lay[q]? = some (.inr (ci, fs))) (hk : fs[k]? = some (q' + 4)) (hF : FL (mY M).cls idx ci k) (hd : decode (mC M) pc = .ok (.getfield idx, 3)) (h : Rn lay M (pc + 3) ls (vP q' :: st) σ Q) : Rn lay M pc ls (vP q :: st) σ Q :=
  R_get (v := vP q') hq hk hF (fun _ => rfl) (fun _ => trivial) hd h
theorem rng_up {q : Nat} {j x : Int} (hg : rng lay σ) (hx : ∀ c, lay[q]? = some c → match c with
    | .inl (t, n, _) => 0 ≤ j → j < n → inT t x
    | .inr (_, fs) => ∀ (k d : Nat), j = (k : Int) → fs[k]? = some d → inT d x) : rng lay (upM σ q j x) := by
  intro q' c hc
  have h0 := hg q' c hc
  by_cases hq : q' = q
  · subst hq
    have h1 := hx c hc
    rcases c with ⟨t, n, rs⟩ | ⟨k, fs⟩
    · intro j' hj'
      by_cases hj : (j' : Int) = j
      · rw [show upM σ q' j x q' (j' : Int) = x from if_pos ⟨rfl, hj⟩]
        exact h1 (by omega) (by omega)
      · rw [show upM σ q' j x q' (j' : Int) = σ q' (j' : Int) from if_neg (fun z => hj z.2)]
        exact h0 j' hj'
    · intro j' d hd
      by_cases hj : (j' : Int) = j
      · rw [show upM σ q' j x q' (j' : Int) = x from if_pos ⟨rfl, hj⟩]
        exact h1 j' d hj.symm hd
      · rw [show upM σ q' j x q' (j' : Int) = σ q' (j' : Int) from if_neg (fun z => hj z.2)]
        exact h0 j' d hd
  · have e : ∀ b, upM σ q j x q' b = σ q' b := fun b => if_neg (fun z => hq z.1)
    rcases c with ⟨t, n, rs⟩ | ⟨k, fs⟩
    · intro j' hj'; rw [e]; exact h0 j' hj'
    · intro j' d hd; rw [e]; exact h0 j' d hd
theorem fs_set {ad : Nat → Nat} {q k d : Nat} {x : Int} {fs : List Nat} (hk : fs[k]? = some d) : (fs.mapIdx fun j d => fv ad (σ q (j : Int)) d).set k (fv ad x d) = fs.mapIdx fun j d => fv ad (upM σ q (k : Int) x q (j : Int)) d := by
  apply List.ext_getElem?
  intro i
  by_cases hi : i = k
  · subst hi
    rw [List.getElem?_set_self (by rw [List.length_mapIdx]; exact (List.getElem?_eq_some_iff.mp hk).1), List.getElem?_mapIdx, hk]
    simp [upM]
  · rw [List.getElem?_set_ne (Ne.symm hi), List.getElem?_mapIdx, List.getElem?_mapIdx]
    cases hc : fs[i]? with
    | none => rfl
    | some c' =>
      simp only [Option.map_some]
      rw [show upM σ q (k : Int) x q (i : Int) = σ q (i : Int) from if_neg (fun z => hi (by have := z.2; omega))]
theorem R_put {q ci k idx d : Nat} {fs : List Nat} {v : AV} {x : Int} {ty : FieldType} (hq : lay[q]? = some (.inr (ci, fs))) (hk : fs[k]? = some d) (hF : FP (mY M).cls idx ci k ty) (hv : ∀ ad, rv ad v = fv ad x d) (hn : ∀ ad, okV v → narrow ty (rv ad v) = rv ad v ∧ fits ty (rv ad v) = true) (hin : okV v → inT d x) (hd : decode (mC M) pc = .ok (.putfield idx, 3)) (h : Rn lay M (pc + 3) ls st (upM σ q (k : Int) x) Q) : Rn lay M pc ls (v :: vP q :: st) σ Q := by
  intro hl hs hg p l e Rm s m args below meth c ad D cA A nc ns H locs lr C hP hS hlv
  obtain ⟨Cn, T, N, t0, h1, h2, h3, h4, h5, h6, h7, h8⟩ := hF
  have C0 := C
  obtain ⟨hx, hb, hr, hml, hown, hts, hlk, hKN, hDD, hA, hrm⟩ := C
  refine va_put (D := D) (ci := ci) (C := Cn) (T := T) (N := N) (cl := vwCl) (ty := ty) (v := rv ad v) hx hb hts h3 t0 h5 h6 hown hKN.1 hP (cD hDD) hS q (cW_at hq) h1 k h2 (hts _ h4) (fun _ z => z) h7 (by rw [h5 k h2, h8]) (hn ad (okh hs)).1 (hn ad (okh hs)).2 (by rw [List.length_mapIdx]; exact (List.getElem?_eq_some_iff.mp hk).1) hd (fun H1 locs1 hP1 hD1 hS1 => ?_)
  have hP2 : va_P D vwCl (cW ad cA lay (upM σ q (k : Int) x)) H1 := by
    rw [← cW_set hq]
    rw [hv ad, fs_set hk] at hP1
    exact hP1
  refine h hl (okt (okt hs)) (rng_up hg (fun c hc => ?_)) p l e Rm s m args below meth c ad D cA A nc ns H1 locs1 lr C0 hP2 hS1 hlv
  rw [hq] at hc
  cases hc
  intro k' d' e1 e2
  have : k' = k := by omega
  subst this
  rw [hk] at e2
  cases e2
  exact hin (okh hs)
theorem R_putI {q ci k idx : Nat} {fs : List Nat} {x : Int} (hq : lay[q]? = some (.inr (ci, fs))) (hk : fs[k]? = some 0) (hF : FP (mY M).cls idx ci k .int) (hd : decode (mC M) pc = .ok (.putfield idx, 3)) (h : Rn lay M (pc + 3) ls st (upM σ q (k : Int) x) Q) : Rn lay M pc ls (vI x :: vP q :: st) σ Q :=
  R_put hq hk hF (fun _ => rfl) (fun _ _ => ⟨rfl, rfl⟩) (fun z => z) hd h
theorem R_putJ {q ci k idx : Nat} {fs : List Nat} {x : Int} (hq : lay[q]? = some (.inr (ci, fs))) (hk : fs[k]? = some 1) (hF : FP (mY M).cls idx ci k .long) (hd : decode (mC M) pc = .ok (.putfield idx, 3)) (h : Rn lay M (pc + 3) ls st (upM σ q (k : Int) x) Q) : Rn lay M pc ls (vJ x :: vP q :: st) σ Q :=
  R_put hq hk hF (fun _ => rfl) (fun _ _ => ⟨rfl, rfl⟩) (fun z => z) hd h
theorem R_putZ {q ci k idx : Nat} {fs : List Nat} {x : Int} (hx : x = 0 ∨ x = 1) (hq : lay[q]? = some (.inr (ci, fs))) (hk : fs[k]? = some 2) (hF : FP (mY M).cls idx ci k .boolean) (hd : decode (mC M) pc = .ok (.putfield idx, 3)) (h : Rn lay M (pc + 3) ls st (upM σ q (k : Int) x) Q) : Rn lay M pc ls (vI x :: vP q :: st) σ Q :=
  R_put hq hk hF (fun _ => rfl) (fun _ _ => by rcases hx with rfl | rfl <;> exact ⟨rfl, rfl⟩) (fun _ => by rcases hx with rfl | rfl <;> exact ⟨by decide, by decide⟩) hd h
/- arrays -/
theorem tyA_at (cA : Nat → ClassId) : (tyA cA)[0]? = some (cA 0, .int) ∧ (tyA cA)[1]? = some (cA 1, .long) ∧ (tyA cA)[2]? = some (cA 2, .boolean) ∧ (tyA cA)[3]? = some (cA 3, .byte) ∧ (tyA cA)[4]? = some (cA 4, .object RX0) ∧ (tyA cA)[5]? = some (cA 5, .object RX4) := ⟨rfl, rfl, rfl, rfl, rfl, rfl⟩
theorem arr_at {t n : Nat} {rs : List Nat} {q : Nat} {i : Int} (hg : rng lay σ) (hq : lay[q]? = some (.inl (t, n, rs))) (h0 : 0 ≤ i) (h1 : i < (n : Int)) : inT t (σ q i) := by
  have := hg q _ hq i.toNat (by omega)
  rwa [Int.toNat_of_nonneg h0] at this
theorem R_ald {t n : Nat} {rs : List Nat} {q : Nat} {i : Int} {v : AV} (hq : lay[q]? = some (.inl (t, n, rs))) (h0 : 0 ≤ i) (h1 : i < (n : Int)) (hok : inT t (σ q i) → okV v)
    (hw : ∀ (p : Program) (l : Launch) (e : Env) (Rm : Room) (s : State) (m : MethodId) (args : Array Value) (below : List Frame) (meth : Method) (c : Code) (nc ns : Nat) (H : Heap) (locs : List Loc) (Z : State → Prop) (lr : Array Slot) (ad : Nat → Nat) (D : va_G) (cA : Nat → ClassId) (rest : List Value), p.tables.exec = Jvm.exec → c.code = mC M → va_K D vwCl (tyA cA) s → va_P D vwCl (cW ad cA lay σ) H → (cW ad cA lay σ)[q]? = some (ad q, cE ad cA σ q (.inl (t, n, rs))) → inT 0 i →
      W p l e Rm s m args below meth c H locs nc ns Z (F0 m (pc + 1) lr (rv ad v :: rest)) → W p l e Rm s m args below meth c H locs nc ns Z (F0 m pc lr (.int (Int32.ofInt i) :: .ref (ad q) :: rest)))
    (h : Rn lay M (pc + 1) ls (v :: st) σ Q) : Rn lay M pc ls (vI i :: vP q :: st) σ Q := by
  intro hl hs hg p l e Rm s m args below meth c ad D cA A nc ns H locs lr C hP hS hlv
  exact hw p l e Rm s m args below meth c nc ns H locs _ lr ad D cA _ C.1 C.2.1 C.2.2.2.2.2.2.2.1.1 hP (cW_at hq) (okh hs) (h hl (okc (hok (arr_at hg hq h0 h1)) (okt (okt hs))) hg p l e Rm s m args below meth c ad D cA A nc ns H locs lr C hP hS hlv)
theorem fclamp {i : Int} (hi : inT 0 i) (h0 : 0 ≤ i) : (((Int32.ofInt i).toNatClampNeg : Nat) : Int) = i := by rw [clampN hi h0, Int.toNat_of_nonneg h0]
theorem R_iaload {n : Nat} {rs : List Nat} {q : Nat} {i : Int} (hq : lay[q]? = some (.inl (0, n, rs))) (h0 : 0 ≤ i) (h1 : i < (n : Int)) (hd : decode (mC M) pc = .ok (.iaload, 1)) (h : Rn lay M (pc + 1) ls (vI (σ q i) :: st) σ Q) : Rn lay M pc ls (vI i :: vP q :: st) σ Q :=
  R_ald (v := vI (σ q i)) hq h0 h1 (fun z => z) (fun p l e Rm s m args below meth c nc ns H locs Z lr ad D cA rest hx hb hK hP he hi k => by
    refine va_iald hx hb hK hP q 0 (f := fun j => Int32.ofInt (σ q (j : Int))) he (tyA_at cA).1 (vpin hi h0 h1) hd ?_
    rw [fclamp hi h0]
    exact k) h
theorem R_laload {n : Nat} {rs : List Nat} {q : Nat} {i : Int} (hq : lay[q]? = some (.inl (1, n, rs))) (h0 : 0 ≤ i) (h1 : i < (n : Int)) (hd : decode (mC M) pc = .ok (.laload, 1)) (h : Rn lay M (pc + 1) ls (vJ (σ q i) :: st) σ Q) : Rn lay M pc ls (vI i :: vP q :: st) σ Q :=
  R_ald (v := vJ (σ q i)) hq h0 h1 (fun z => z) (fun p l e Rm s m args below meth c nc ns H locs Z lr ad D cA rest hx hb hK hP he hi k => by
    refine va_lald hx hb hK hP q 1 (f := fun j => Int64.ofInt (σ q (j : Int))) he (tyA_at cA).2.1 (vpin hi h0 h1) hd ?_
    rw [fclamp hi h0]
    exact k) h
theorem R_zaload {n : Nat} {rs : List Nat} {q : Nat} {i : Int} (hq : lay[q]? = some (.inl (2, n, rs))) (h0 : 0 ≤ i) (h1 : i < (n : Int)) (hd : decode (mC M) pc = .ok (.baload, 1)) (h : Rn lay M (pc + 1) ls (vI (σ q i) :: st) σ Q) : Rn lay M pc ls (vI i :: vP q :: st) σ Q :=
  R_ald (v := vI (σ q i)) hq h0 h1 (fun z => ⟨by have := z.1; omega, by have := z.2; omega⟩) (fun p l e Rm s m args below meth c nc ns H locs Z lr ad D cA rest hx hb hK hP he hi k => by
    refine va_zald hx hb hK hP q 2 (f := fun j => Int32.ofInt (σ q (j : Int))) he (tyA_at cA).2.2.1 (vpin hi h0 h1) hd ?_
    rw [fclamp hi h0]
    exact k) h
theorem R_baload {n : Nat} {rs : List Nat} {q : Nat} {i : Int} (hq : lay[q]? = some (.inl (3, n, rs))) (h0 : 0 ≤ i) (h1 : i < (n : Int)) (hd : decode (mC M) pc = .ok (.baload, 1)) (h : Rn lay M (pc + 1) ls (vI (σ q i) :: st) σ Q) : Rn lay M pc ls (vI i :: vP q :: st) σ Q :=
  R_ald (v := vI (σ q i)) hq h0 h1 (fun z => ⟨by have := z.1; omega, by have := z.2; omega⟩) (fun p l e Rm s m args below meth c nc ns H locs Z lr ad D cA rest hx hb hK hP he hi k => by
    refine va_bald hx hb hK hP q 3 (f := fun j => Int32.ofInt (σ q (j : Int))) he (tyA_at cA).2.2.2.1 (vpin hi h0 h1) hd ?_
    rw [fclamp hi h0]
    exact k) h
theorem R_aaload4 {n : Nat} {rs : List Nat} {q q' : Nat} {i : Int} (hq : lay[q]? = some (.inl (4, n, rs))) (h0 : 0 ≤ i) (h1 : i < (n : Int)) (hr : rs[i.toNat]? = some q') (hd : decode (mC M) pc = .ok (.aaload, 1)) (h : Rn lay M (pc + 1) ls (vP q' :: st) σ Q) : Rn lay M pc ls (vI i :: vP q :: st) σ Q :=
  R_ald (v := vP q') hq h0 h1 (fun _ => trivial) (fun p l e Rm s m args below meth c nc ns H locs Z lr ad D cA rest hx hb hK hP he hi k => by
    refine va_aldq hx hb hK hP q 4 (f := fun j => (rs[j]?).map ad) he (tyA_at cA).2.2.2.2.1 (vpin hi h0 h1) hd ?_
    rw [clampN hi h0, hr]
    exact k) h
theorem R_aaload5 {n : Nat} {rs : List Nat} {q q' : Nat} {i : Int} (hq : lay[q]? = some (.inl (5, n, rs))) (h0 : 0 ≤ i) (h1 : i < (n : Int)) (hr : rs[i.toNat]? = some q') (hd : decode (mC M) pc = .ok (.aaload, 1)) (h : Rn lay M (pc + 1) ls (vP q' :: st) σ Q) : Rn lay M pc ls (vI i :: vP q :: st) σ Q :=
  R_ald (v := vP q') hq h0 h1 (fun _ => trivial) (fun p l e Rm s m args below meth c nc ns H locs Z lr ad D cA rest hx hb hK hP he hi k => by
    refine va_aldq hx hb hK hP q 5 (f := fun j => (rs[j]?).map ad) he (tyA_at cA).2.2.2.2.2 (vpin hi h0 h1) hd ?_
    rw [clampN hi h0, hr]
    exact k) h
theorem R_alen {n : Nat} {rs : List Nat} {q : Nat} (hq : lay[q]? = some (.inl (0, n, rs))) (hn : n < 1000000) (hd : decode (mC M) pc = .ok (.arraylength, 1)) (h : Rn lay M (pc + 1) ls (vI (n : Int) :: st) σ Q) : Rn lay M pc ls (vP q :: st) σ Q := by
  intro hl hs hg p l e Rm s m args below meth c ad D cA A nc ns H locs lr C hP hS hlv
  refine va_alen C.1 C.2.1 C.2.2.2.2.2.2.2.1.1 hP q 0 (cW_at hq) (tyA_at cA).1 (v := Int32.ofInt (n : Int)) (Int32.ofInt_eq_ofNat).symm hd ?_
  exact h hl (okc (show inT 0 (n : Int) from ⟨by omega, by omega⟩) (okt hs)) hg p l e Rm s m args below meth c ad D cA A nc ns H locs lr C hP hS hlv
theorem R_ast {t n : Nat} {rs : List Nat} {q : Nat} {i x : Int} {v : AV} (hq : lay[q]? = some (.inl (t, n, rs))) (h0 : 0 ≤ i) (h1 : i < (n : Int)) (hin : okV v → inT t x)
    (hw : ∀ (p : Program) (l : Launch) (e : Env) (Rm : Room) (s : State) (m : MethodId) (args : Array Value) (below : List Frame) (meth : Method) (c : Code) (nc ns : Nat) (H : Heap) (locs : List Loc) (Z : State → Prop) (lr : Array Slot) (ad : Nat → Nat) (D : va_G) (cA : Nat → ClassId) (A : Nat → Prop) (rest : List Value), p.tables.exec = Jvm.exec → c.code = mC M → va_K D vwCl (tyA cA) s → va_P D vwCl (cW ad cA lay σ) H → va_D A (cW ad cA lay σ) → va_S A s.heap H locs → (cW ad cA lay σ)[q]? = some (ad q, cE ad cA σ q (.inl (t, n, rs))) → inT 0 i → okV v →
      (∀ (H1 : Heap) (locs1 : List Loc), va_P D vwCl ((cW ad cA lay σ).set q (ad q, cE ad cA (upM σ q i x) q (.inl (t, n, rs)))) H1 → va_S A s.heap H1 locs1 → W p l e Rm s m args below meth c H1 locs1 nc ns Z (F0 m (pc + 1) lr rest)) → W p l e Rm s m args below meth c H locs nc ns Z (F0 m pc lr (rv ad v :: .int (Int32.ofInt i) :: .ref (ad q) :: rest)))
    (h : Rn lay M (pc + 1) ls st (upM σ q i x) Q) : Rn lay M pc ls (v :: vI i :: vP q :: st) σ Q := by
  intro hl hs hg p l e Rm s m args below meth c ad D cA A nc ns H locs lr C hP hS hlv
  refine hw p l e Rm s m args below meth c nc ns H locs _ lr ad D cA A _ C.1 C.2.1 C.2.2.2.2.2.2.2.1.1 hP (cD C.2.2.2.2.2.2.2.2.1) hS (cW_at hq) (okh (okt hs)) (okh hs) (fun H1 locs1 hP1 hS1 => ?_)
  rw [cW_set hq] at hP1
  refine h hl (okt (okt (okt hs))) (rng_up hg (fun c hc => ?_)) p l e Rm s m args below meth c ad D cA A nc ns H1 locs1 lr C hP1 hS1 hlv
  rw [hq] at hc
  cases hc
  intro _ _
  exact hin (okh hs)
theorem up_fun {q : Nat} {i x : Int} {n : Nat} (hi : inT 0 i) (h0 : 0 ≤ i) : (fun j : Nat => Int32.ofInt (upM σ q i x q (j : Int))) = upd (fun j : Nat => Int32.ofInt (σ q (j : Int))) (Int32.ofInt i).toNatClampNeg (Int32.ofInt x) := by
  funext j
  rw [clampN hi h0]
  unfold upd upM
  by_cases hj : j = i.toNat
  · rw [if_pos hj, if_pos ⟨rfl, by omega⟩]
  · rw [if_neg hj, if_neg (fun z => hj (by have := z.2; omega))]
theorem up_funL {q : Nat} {i x : Int} {n : Nat} (hi : inT 0 i) (h0 : 0 ≤ i) : (fun j : Nat => Int64.ofInt (upM σ q i x q (j : Int))) = vp_updL (fun j : Nat => Int64.ofInt (σ q (j : Int))) (Int32.ofInt i).toNatClampNeg (Int64.ofInt x) := by
  funext j
  rw [clampN hi h0]
  unfold vp_updL upM
  by_cases hj : j = i.toNat
  · rw [if_pos hj, if_pos ⟨rfl, by omega⟩]
  · rw [if_neg hj, if_neg (fun z => hj (by have := z.2; omega))]
theorem R_iastore {n : Nat} {rs : List Nat} {q : Nat} {i x : Int} (hq : lay[q]? = some (.inl (0, n, rs))) (h0 : 0 ≤ i) (h1 : i < (n : Int)) (hd : decode (mC M) pc = .ok (.iastore, 1)) (h : Rn lay M (pc + 1) ls st (upM σ q i x) Q) : Rn lay M pc ls (vI x :: vI i :: vP q :: st) σ Q :=
  R_ast hq h0 h1 (fun z => z) (fun p l e Rm s m args below meth c nc ns H locs Z lr ad D cA A rest hx hb hK hP hD hS he hi hv k => by
    refine va_iast hx hb hK hP hD hS q 0 (f := fun j => Int32.ofInt (σ q (j : Int))) he (tyA_at cA).1 (vpin hi h0 h1) hd (fun H1 locs1 hP1 _ hS1 => k H1 locs1 ?_ hS1)
    simp only [cE, aV, up_fun (n := n) hi h0]
    exact hP1) h
theorem R_lastore {n : Nat} {rs : List Nat} {q : Nat} {i x : Int} (hq : lay[q]? = some (.inl (1, n, rs))) (h0 : 0 ≤ i) (h1 : i < (n : Int)) (hd : decode (mC M) pc = .ok (.lastore, 1)) (h : Rn lay M (pc + 1) ls st (upM σ q i x) Q) : Rn lay M pc ls (vJ x :: vI i :: vP q :: st) σ Q :=
  R_ast hq h0 h1 (fun z => z) (fun p l e Rm s m args below meth c nc ns H locs Z lr ad D cA A rest hx hb hK hP hD hS he hi hv k => by
    refine va_last hx hb hK hP hD hS q 1 (f := fun j => Int64.ofInt (σ q (j : Int))) he (tyA_at cA).2.1 (vpin hi h0 h1) hd (fun H1 locs1 hP1 _ hS1 => k H1 locs1 ?_ hS1)
    simp only [cE, aV, up_funL (n := n) hi h0]
    exact hP1) h
theorem narZ {x : Int} (hx : x = 0 ∨ x = 1) : vp_nar .boolean (Int32.ofInt x) = Int32.ofInt x := by rcases hx with rfl | rfl <;> rfl
theorem narB {x : Int} (hx : -128 ≤ x ∧ x ≤ 127) : vp_nar .byte (Int32.ofInt x) = Int32.ofInt x := by
  have hi : inT 0 x := ⟨by omega, by omega⟩
  rw [vp_nar_byte, i32b hi]
  congr 1
  unfold w8
  exact Int.bmod_eq_of_le (by omega) (by omega)
theorem R_zastore {n : Nat} {rs : List Nat} {q : Nat} {i x : Int} (hx0 : x = 0 ∨ x = 1) (hq : lay[q]? = some (.inl (2, n, rs))) (h0 : 0 ≤ i) (h1 : i < (n : Int)) (hd : decode (mC M) pc = .ok (.bastore, 1)) (h : Rn lay M (pc + 1) ls st (upM σ q i x) Q) : Rn lay M pc ls (vI x :: vI i :: vP q :: st) σ Q :=
  R_ast hq h0 h1 (fun _ => by rcases hx0 with rfl | rfl <;> exact ⟨by decide, by decide⟩) (fun p l e Rm s m args below meth c nc ns H locs Z lr ad D cA A rest hx hb hK hP hD hS he hi hv k => by
    refine va_zast hx hb hK hP hD hS q 2 (f := fun j => Int32.ofInt (σ q (j : Int))) he (tyA_at cA).2.2.1 (vpin hi h0 h1) hd (fun H1 locs1 hP1 _ hS1 => k H1 locs1 ?_ hS1)
    rw [narZ hx0] at hP1
    simp only [cE, aV, up_fun (n := n) hi h0]
    exact hP1) h
theorem R_bastore {n : Nat} {rs : List Nat} {q : Nat} {i x : Int} (hx0 : -128 ≤ x ∧ x ≤ 127) (hq : lay[q]? = some (.inl (3, n, rs))) (h0 : 0 ≤ i) (h1 : i < (n : Int)) (hd : decode (mC M) pc = .ok (.bastore, 1)) (h : Rn lay M (pc + 1) ls st (upM σ q i x) Q) : Rn lay M pc ls (vI x :: vI i :: vP q :: st) σ Q :=
  R_ast hq h0 h1 (fun _ => hx0) (fun p l e Rm s m args below meth c nc ns H locs Z lr ad D cA A rest hx hb hK hP hD hS he hi hv k => by
    refine va_bast hx hb hK hP hD hS q 3 (f := fun j => Int32.ofInt (σ q (j : Int))) he (tyA_at cA).2.2.2.1 (vpin hi h0 h1) hd (fun H1 locs1 hP1 _ hS1 => k H1 locs1 ?_ hS1)
    rw [narB hx0] at hP1
    simp only [cE, aV, up_fun (n := n) hi h0]
    exact hP1) h
theorem R_ldcS {idx : Nat} (k : Nat) (hk : k < 6) (hi : strI.getD k 0 = idx) (hM : (mY M).cls = RX3) (hd : decode (mC M) pc = .ok (.ldc idx, 2)) (h : Rn lay M (pc + 2) ls (vP (200 + k) :: st) σ Q) : Rn lay M pc ls st σ Q := by
  intro hl hs hg p l e Rm s m args below meth c ad D cA A nc ns H locs lr C hP hS hlv
  have hSK := C.2.2.2.2.2.2.2.2.2.2.2
  refine va_ldcS C.1 C.2.1 (by rw [← hM]; exact C.2.2.2.2.1) (hSK.2.1 k hk) (by rw [hi]; exact hd) ?_
  exact h hl (okc trivial hs) hg p l e Rm s m args below meth c ad D cA A nc ns H locs lr C hP hS hlv
/- switches -/
theorem R_tableIn {dflt lo hi : Int} {offs : Array Int} {len : Nat} {x off : Int} {tgt : Nat} (k : Nat) (hx0 : x = lo + (k : Int)) (hk : x ≤ hi) (ho : offs[k]? = some off) (ht : (pc : Int) + off = (tgt : Int)) (hd : decode (mC M) pc = .ok (.tableswitch dflt lo hi offs, len)) (h : Rn lay M tgt ls st σ Q) : Rn lay M pc ls (vI x :: st) σ Q :=
  Rn.stk h (fun _ hs => okt hs) (fun p l e Rm s m args below meth c nc ns H locs Z lr ad hx hb _ _ hs k1 => by
    have e1 : (Int32.ofInt x).toInt = x := i32r (okh hs)
    exact lv_tableIn hx hb hd (by rw [e1]; omega) (by rw [e1]; omega) (by rw [e1, hx0, show (lo + (k : Int) - lo).toNat = k by omega]; exact ho) ht k1)
theorem R_tableOut {dflt lo hi : Int} {offs : Array Int} {len : Nat} {x : Int} {tgt : Nat} (hx0 : x < lo ∨ hi < x) (ht : (pc : Int) + dflt = (tgt : Int)) (hd : decode (mC M) pc = .ok (.tableswitch dflt lo hi offs, len)) (h : Rn lay M tgt ls st σ Q) : Rn lay M pc ls (vI x :: st) σ Q :=
  Rn.stk h (fun _ hs => okt hs) (fun p l e Rm s m args below meth c nc ns H locs Z lr ad hx hb _ _ hs k1 => by
    have e1 : (Int32.ofInt x).toInt = x := i32r (okh hs)
    exact lv_tableOut hx hb hd (by rw [e1]; exact hx0) ht k1)
theorem R_lookup {dflt : Int} {ps : Array (Int × Int)} {len : Nat} {x off : Int} {tgt : Nat} (hp : (ps.toList.zip (ps.toList.drop 1)).all (fun (a, next) => a.1 < next.1) = true) (ho : Op.lookupswitch.offset ps.toList dflt x = off) (ht : (pc : Int) + off = (tgt : Int)) (hd : decode (mC M) pc = .ok (.lookupswitch dflt ps, len)) (h : Rn lay M tgt ls st σ Q) : Rn lay M pc ls (vI x :: st) σ Q :=
  Rn.stk h (fun _ hs => okt hs) (fun p l e Rm s m args below meth c nc ns H locs Z lr ad hx hb _ _ hs k1 => by
    have e1 : (Int32.ofInt x).toInt = x := i32r (okh hs)
    exact lv_lookup hx hb hd hp (by rw [e1]; exact ho) ht k1)
/- the end of a method -/
theorem R_iret {x : Int} (hR : mR M = some .int) (hd : decode (mC M) pc = .ok (.ireturn, 1)) (h : Q (vI x) σ) : Rn lay M pc ls [vI x] σ Q := by
  intro hl hs hg p l e Rm s m args below meth c ad D cA A nc ns H locs lr C hP hS hlv
  exact W.iret (v := Int32.ofInt x) C.1 C.2.1 (C.2.2.1.trans hR) (fun t ht _ => ⟨vI x, σ, by rw [roV, hR]; rfl, h, okh hs, hg, by rw [ht]; exact hP, hS.F ht⟩) hS.2.2 hd C.2.2.2.2.2.2.1
theorem R_zret {x : Int} (hR : mR M = some .boolean) (hx : x = 0 ∨ x = 1) (hd : decode (mC M) pc = .ok (.ireturn, 1)) (h : Q (vI x) σ) : Rn lay M pc ls [vI x] σ Q := by
  intro hl hs hg p l e Rm s m args below meth c ad D cA A nc ns H locs lr C hP hS hlv
  exact W.zret (v := Int32.ofInt x) C.1 C.2.1 (C.2.2.1.trans hR) (by rcases hx with rfl | rfl <;> rfl) (fun t ht _ => ⟨vI x, σ, by rw [roV, hR]; rfl, h, okh hs, hg, by rw [ht]; exact hP, hS.F ht⟩) hS.2.2 hd C.2.2.2.2.2.2.1
theorem R_lret {x : Int} (hR : mR M = some .long) (hd : decode (mC M) pc = .ok (.lreturn, 1)) (h : Q (vJ x) σ) : Rn lay M pc ls [vJ x] σ Q := by
  intro hl hs hg p l e Rm s m args below meth c ad D cA A nc ns H locs lr C hP hS hlv
  exact W.lret (v := Int64.ofInt x) C.1 C.2.1 (C.2.2.1.trans hR) (fun t ht _ => ⟨vJ x, σ, by rw [roV, hR]; rfl, h, okh hs, hg, by rw [ht]; exact hP, hS.F ht⟩) hS.2.2 hd C.2.2.2.2.2.2.1
theorem R_vret (hR : mR M = none) (hd : decode (mC M) pc = .ok (.return_, 1)) (h : Q (vI 0) σ) : Rn lay M pc ls [] σ Q := by
  intro hl hs hg p l e Rm s m args below meth c ad D cA A nc ns H locs lr C hP hS hlv
  exact W.vret C.1 C.2.1 (C.2.2.1.trans hR) (fun t ht _ => ⟨vI 0, σ, by rw [roV, hR], h, in0_0, hg, by rw [ht]; exact hP, hS.F ht⟩) hS.2.2 hd C.2.2.2.2.2.2.1
theorem R_aret {q : Nat} {n : String} (hR : mR M = some (.object n)) (hd : decode (mC M) pc = .ok (.areturn, 1)) (h : Q (vP q) σ) : Rn lay M pc ls [vP q] σ Q := by
  intro hl hs hg p l e Rm s m args below meth c ad D cA A nc ns H locs lr C hP hS hlv
  exact W.aret (v := .ref (ad q)) C.1 C.2.1 (C.2.2.1.trans hR) (Or.inl ⟨n, rfl⟩) (Or.inr ⟨_, rfl⟩) (fun t ht _ => ⟨vP q, σ, by rw [roV, hR]; rfl, h, okh hs, hg, by rw [ht]; exact hP, hS.F ht⟩) hS.2.2 hd C.2.2.2.2.2.2.1
/- calls -/
def roA (M : MI) (v : AV) : List AV := match mR M with
  | none => []
  | some _ => [v]
theorem wt_sub {w : Cond} (h : w ∈ WT) : w ∈ lw_tbl ∧ goodWord w = true := List.mem_filter.mp h
theorem nest_warm {s U : State} (hW : s.WarmedH U.vm) (h : ∀ w ∈ nestW, va_Nw w s) : ∀ w ∈ nestW, va_Nw w U := by
  intro w hw
  have h1 := h w hw
  obtain ⟨q, -, rfl⟩ := List.mem_map.mp hw
  exact va_Nw.warmM hW h1
theorem KN.warm {D : va_G} {cA : Nat → ClassId} {s U : State} (hW : s.WarmedH U.vm) (h : KN D cA s) : KN D cA U := ⟨va_K.moved hW.alike h.1, nest_warm hW h.2⟩
theorem KN.calling {D : va_G} {cA : Nat → ClassId} {U : State} {g : JFrame} {mk : MethodId} {a : Array Value} (h : KN D cA U) : KN D cA (U.calling g mk a) := by
  refine ⟨va_K.moved (u := U) (U := U.calling g mk a) (Vm.Alike.refl U.vm) h.1, fun w hw => ?_⟩
  have h1 := h.2 w hw
  obtain ⟨q, -, rfl⟩ := List.mem_map.mp hw
  exact va_Nw.same rfl rfl h1
theorem PB.calling {ad : Nat → Nat} {D : va_G} {cA : Nat → ClassId} {sz : Nat} {U : State} {g : JFrame} {mk : MethodId} {a : Array Value} (h : PB lay ad D cA σ sz U) : PB lay ad D cA σ sz (U.calling g mk a) := ⟨h.1, h.2.1, h.2.2.1.calling, SK.same (s := U) rfl h.2.2.2⟩
theorem aA_in {ad : Nat → Nat} {A : Nat → Prop} {H0 H : Heap} {locs : List Loc} (hD : (∀ i j, i < lay.length → j < lay.length → ad i = ad j → i = j) ∧ ∀ i, i < lay.length → A (ad i)) (hA : ∀ q, H0.size ≤ q → A q) (hS : va_S A H0 H locs) : ∀ q, aA lay ad H.size q → A q := by
  intro q hq
  rcases hq with ⟨i, hi, rfl⟩ | hq
  · exact hD.2 i hi
  · exact hA q (Nat.le_trans hS.1 hq)
theorem PB.at {ad : Nat → Nat} {D : va_G} {cA : Nat → ClassId} {A : Nat → Prop} {s U : State} {H : Heap} {locs : List Loc} (hP : va_P D vwCl (cW ad cA lay σ) H) (hKN : KN D cA s) (hSK : SK ad A s s.heap) (hS : va_S A s.heap H locs) (hD : (∀ i j, i < lay.length → j < lay.length → ad i = ad j → i = j) ∧ ∀ i, i < lay.length → A (ad i)) (hA : ∀ q, s.heap.size ≤ q → A q) (hU : U.heap = H) (hW : s.WarmedH U.vm) : PB lay ad D cA σ H.size U := by
  subst hU
  exact ⟨rfl, hP, hKN.warm hW, ((hSK.kept hS.2.1).narrow (aA_in hD hA hS)).warm hW⟩
theorem wsM_good {My : MI} (hc : Cond.code (mY My) (mC My) (mL My) (mR My) ∈ WT) : GoodIn WT (wsM My) := by
  intro w hw
  rcases List.mem_cons.mp hw with rfl | hw
  · exact ⟨hc, good_of_word (wt_sub hc).2⟩
  · exact ⟨hw, good_of_word (wt_sub hw).2⟩
/-- what the tables say of a method: its code, its class, how many arguments -/
def MOK (M : MI) (n : Nat) : Prop := Cond.code (mY M) (mC M) (mL M) (mR M) ∈ WT ∧ Cond.initialized (mY M).cls ∈ WT ∧ ((mY M).cls ≠ "java/lang/invoke/MethodHandle" ∧ (mY M).cls ≠ "java/lang/invoke/VarHandle" ∧ (parseMethodDescriptor (mY M).desc).map (fun d => d.parameters.length) = some n) ∧ mL M ≤ 80
def MOV (M : MI) : Prop := Cond.instanceMethod (mY M) ∈ WT ∧ Cond.selects (mY M).cls (mY M) (mY M) ∈ WT
theorem catSum (ad : Nat → Nat) (st : List AV) : ((st.map (rv ad)).map fun v => v.category).sum = (st.map catA).sum := by
  rw [List.map_map]
  congr 1
  apply List.map_congr_left
  intro v _
  exact rv_cat ad v
def absI (a : Int) : Int := if 0 < a then a else -a
theorem R_mmax {idx : Nat} {a b : Int} (hlink : Cond.methodLink (mY M).cls idx Lib.Math.max.name ∈ WT) (hstat : Cond.static Lib.Math.max.name ∈ WT) (hini : Cond.initialized "java/lang/Math" ∈ WT) (hcode : Cond.code Lib.Math.max.name Lib.Math.max.code 2 (some .int) ∈ WT) (hk : 1 ≤ mK M) (hst : (st.map catA).sum ≤ 8) (hd : decode (mC M) pc = .ok (.invokestatic idx, 3)) (h : Rn lay M (pc + 3) ls (vI (max a b) :: st) σ Q) : Rn lay M pc ls (vI b :: vI a :: st) σ Q := by
  intro hl hs hg p l e Rm s m args below meth c ad D cA A nc ns H locs lr C hP hS hlv
  have C0 := C
  obtain ⟨hx, hb, hr, hml, hown, hts, hlk, hKN, hDD, hA, hrm, hSK⟩ := C
  have h1 := okh hs
  have h2 := okh (okt hs)
  refine va_mmax hx hb (hml.trans hlv.1.symm) hown (hts _ hlink) (hts _ hstat) (hts _ hini) (hts _ hcode) (by have := hrm.1; omega) (by rw [catSum]; have := hrm.2.1; omega) hrm.2.2.1 hrm.2.2.2 hd ?_
  rw [show (if Int32.ofInt a < Int32.ofInt b then Int32.ofInt b else Int32.ofInt a) = Int32.ofInt (max a b) by simp only [i32lt h2 h1]; split <;> (congr 1; omega)]
  refine h hl (okc ?_ (okt (okt hs))) hg p l e Rm s m args below meth c ad D cA A nc ns H locs lr C0 hP hS hlv
  rcases (show max a b = a ∨ max a b = b by omega) with e1 | e1 <;> rw [e1] <;> assumption
theorem R_mmin {idx : Nat} {a b : Int} (hlink : Cond.methodLink (mY M).cls idx Lib.Math.min.name ∈ WT) (hstat : Cond.static Lib.Math.min.name ∈ WT) (hini : Cond.initialized "java/lang/Math" ∈ WT) (hcode : Cond.code Lib.Math.min.name Lib.Math.min.code 2 (some .int) ∈ WT) (hk : 1 ≤ mK M) (hst : (st.map catA).sum ≤ 8) (hd : decode (mC M) pc = .ok (.invokestatic idx, 3)) (h : Rn lay M (pc + 3) ls (vI (min a b) :: st) σ Q) : Rn lay M pc ls (vI b :: vI a :: st) σ Q := by
  intro hl hs hg p l e Rm s m args below meth c ad D cA A nc ns H locs lr C hP hS hlv
  have C0 := C
  obtain ⟨hx, hb, hr, hml, hown, hts, hlk, hKN, hDD, hA, hrm, hSK⟩ := C
  have h1 := okh hs
  have h2 := okh (okt hs)
  refine va_mmin hx hb (hml.trans hlv.1.symm) hown (hts _ hlink) (hts _ hstat) (hts _ hini) (hts _ hcode) (by have := hrm.1; omega) (by rw [catSum]; have := hrm.2.1; omega) hrm.2.2.1 hrm.2.2.2 hd ?_
  rw [show (if Int32.ofInt b < Int32.ofInt a then Int32.ofInt b else Int32.ofInt a) = Int32.ofInt (min a b) by simp only [i32lt h1 h2]; split <;> (congr 1; omega)]
  refine h hl (okc ?_ (okt (okt hs))) hg p l e Rm s m args below meth c ad D cA A nc ns H locs lr C0 hP hS hlv
  rcases (show min a b = a ∨ min a b = b by omega) with e1 | e1 <;> rw [e1] <;> assumption
theorem R_lmax {idx : Nat} {a b : Int} (hlink : Cond.methodLink (mY M).cls idx Lib.MathLoose.max_long.x ∈ WT) (hstat : Cond.static Lib.MathLoose.max_long.x ∈ WT) (hini : Cond.initialized "java/lang/Math" ∈ WT) (hcode : Cond.code Lib.MathLoose.max_long.x Lib.MathLoose.max_long.code 4 (some .long) ∈ WT) (hk : 1 ≤ mK M) (hst : (st.map catA).sum ≤ 8) (hd : decode (mC M) pc = .ok (.invokestatic idx, 3)) (h : Rn lay M (pc + 3) ls (vJ (max a b) :: st) σ Q) : Rn lay M pc ls (vJ b :: vJ a :: st) σ Q := by
  intro hl hs hg p l e Rm s m args below meth c ad D cA A nc ns H locs lr C hP hS hlv
  have C0 := C
  obtain ⟨hx, hb, hr, hml, hown, hts, hlk, hKN, hDD, hA, hrm, hSK⟩ := C
  have h1 := okh hs
  have h2 := okh (okt hs)
  refine va_mmax_long hx hb (hml.trans hlv.1.symm) hown (hts _ hlink) (hts _ hstat) (hts _ hini) (hts _ hcode) (by have := hrm.1; omega) (by rw [catSum]; have := hrm.2.1; omega) hrm.2.2.1 hrm.2.2.2 hd ?_
  rw [show (if Int64.ofInt b < Int64.ofInt a then Int64.ofInt a else Int64.ofInt b) = Int64.ofInt (max a b) by simp only [i64lt h1 h2]; split <;> (congr 1; omega)]
  refine h hl (okc ?_ (okt (okt hs))) hg p l e Rm s m args below meth c ad D cA A nc ns H locs lr C0 hP hS hlv
  rcases (show max a b = a ∨ max a b = b by omega) with e1 | e1 <;> rw [e1] <;> assumption
theorem R_lmin {idx : Nat} {a b : Int} (hlink : Cond.methodLink (mY M).cls idx Lib.MathLoose.min_long.x ∈ WT) (hstat : Cond.static Lib.MathLoose.min_long.x ∈ WT) (hini : Cond.initialized "java/lang/Math" ∈ WT) (hcode : Cond.code Lib.MathLoose.min_long.x Lib.MathLoose.min_long.code 4 (some .long) ∈ WT) (hk : 1 ≤ mK M) (hst : (st.map catA).sum ≤ 8) (hd : decode (mC M) pc = .ok (.invokestatic idx, 3)) (h : Rn lay M (pc + 3) ls (vJ (min a b) :: st) σ Q) : Rn lay M pc ls (vJ b :: vJ a :: st) σ Q := by
  intro hl hs hg p l e Rm s m args below meth c ad D cA A nc ns H locs lr C hP hS hlv
  have C0 := C
  obtain ⟨hx, hb, hr, hml, hown, hts, hlk, hKN, hDD, hA, hrm, hSK⟩ := C
  have h1 := okh hs
  have h2 := okh (okt hs)
  refine va_mmin_long hx hb (hml.trans hlv.1.symm) hown (hts _ hlink) (hts _ hstat) (hts _ hini) (hts _ hcode) (by have := hrm.1; omega) (by rw [catSum]; have := hrm.2.1; omega) hrm.2.2.1 hrm.2.2.2 hd ?_
  rw [show (if Int64.ofInt b < Int64.ofInt a then Int64.ofInt b else Int64.ofInt a) = Int64.ofInt (min a b) by simp only [i64lt h1 h2]; split <;> (congr 1; omega)]
  refine h hl (okc ?_ (okt (okt hs))) hg p l e Rm s m args below meth c ad D cA A nc ns H locs lr C0 hP hS hlv
  rcases (show min a b = a ∨ min a b = b by omega) with e1 | e1 <;> rw [e1] <;> assumption
theorem R_labs {idx : Nat} {a : Int} (hng : inT 1 (-a)) (hlink : Cond.methodLink (mY M).cls idx Lib.MathLoose.abs_long.x ∈ WT) (hstat : Cond.static Lib.MathLoose.abs_long.x ∈ WT) (hini : Cond.initialized "java/lang/Math" ∈ WT) (hcode : Cond.code Lib.MathLoose.abs_long.x Lib.MathLoose.abs_long.code 2 (some .long) ∈ WT) (hk : 1 ≤ mK M) (hst : (st.map catA).sum ≤ 8) (hd : decode (mC M) pc = .ok (.invokestatic idx, 3)) (h : Rn lay M (pc + 3) ls (vJ (absI a) :: st) σ Q) : Rn lay M pc ls (vJ a :: st) σ Q := by
  intro hl hs hg p l e Rm s m args below meth c ad D cA A nc ns H locs lr C hP hS hlv
  have C0 := C
  obtain ⟨hx, hb, hr, hml, hown, hts, hlk, hKN, hDD, hA, hrm, hSK⟩ := C
  have h1 := okh hs
  
  refine va_mabs_long hx hb (hml.trans hlv.1.symm) hown (hts _ hlink) (hts _ hstat) (hts _ hini) (hts _ hcode) (by have := hrm.1; omega) (by rw [catSum]; have := hrm.2.1; omega) hrm.2.2.1 hrm.2.2.2 hd ?_
  rw [show (if 0 < Int64.ofInt a then Int64.ofInt a else -Int64.ofInt a) = Int64.ofInt (absI a) by rw [← i64_0]; unfold absI; simp only [i64lt in1_0 h1]; split <;> first | rfl | rw [Int64.ofInt_neg]]
  refine h hl (okc ?_ (okt hs)) hg p l e Rm s m args below meth c ad D cA A nc ns H locs lr C0 hP hS hlv
  show inT 1 (absI a)
  unfold absI
  split
  · exact h1
  · exact hng
theorem R_call {My : MI} {as : List AV} {P : AV → Mem → Prop} {stk : List AV} (hm : mK My < mK M) (hargs : ∀ v ∈ as, v ∈ stk) (hst : ∀ v ∈ st, v ∈ stk) (h : Cl lay My as σ P)
    (hrun : ∀ (p : Program) (l : Launch) (e : Env) (Rm : Room) (s : State) (m : MethodId) (args : Array Value) (below : List Frame) (meth : Method) (c : Code) (ad : Nat → Nat) (D : va_G) (cA : Nat → ClassId) (A : Nat → Prop) (nc ns : Nat) (H : Heap) (locs : List Loc) (lr : Array Slot), CX lay M p Rm s m args meth c ad D cA A nc ns → va_P D vwCl (cW ad cA lay σ) H → va_S A s.heap H locs → lr.size = mL M →
      Met l (mY My) (wsM My) (rmK (mK My)) (va_Pc (as.map (rv ad)) (PB lay ad D cA σ H.size)) (QC lay My ad D cA (aA lay ad H.size) P) 0 0 (aA lay ad H.size) →
      va_Run p l e Rm s m args below meth c H locs nc ns 0 0 (F0 m pc lr (stk.map (rv ad))) (st.map (rv ad)) (QC lay My ad D cA (aA lay ad H.size) P (as.map (rv ad)).toArray) (aA lay ad H.size))
    (kk : ∀ v σ', P v σ' → Rn lay M (pc + 3) ls (roA My v ++ st) σ' Q) : Rn lay M pc ls stk σ Q := by
  intro hl hs hg p l e Rm s m args below meth c ad D cA A nc ns H locs lr C hP hS hlv
  have hinj := C.2.2.2.2.2.2.2.2.1
  have hA := C.2.2.2.2.2.2.2.2.2.1
  have hAA := aA_in hinj hA hS
  have hmet := h (fun v hv => hs v (hargs v hv)) hg l ad D cA H.size hinj.1
  have hr := hrun p l e Rm s m args below meth c ad D cA A nc ns H locs lr C hP hS hlv.1 hmet
  intro T hT X
  obtain ⟨v, st₀, t, T', L, h0, X', hL, e1, e2, ⟨w, σ', hv', hPw, hokw, hg', hP', hF'⟩, hgo⟩ := hr T hT X
  obtain ⟨hF1, hF2⟩ := hF'
  rw [h0] at hF1 hF2
  have hS' : va_S A s.heap T'.heap (locs ++ L) := by
    refine ⟨Nat.le_trans hS.1 (by rw [e1]; exact hF1), fun q h1 h2 => ?_, fun q hq => ?_⟩
    · rw [e1, hF2 q (Nat.lt_of_lt_of_le h1 hS.1) (fun z => h2 (hAA q z))]
      exact hS.2.1 q h1 h2
    · rcases List.mem_append.mp hq with hq | hq
      · exact hS.2.2 q hq
      · exact hAA _ (hL q hq)
  obtain ⟨t2, a1, b1⟩ := kk w σ' hPw hl (fun u hu => by
      rcases List.mem_append.mp hu with hu | hu
      · unfold roA at hu
        cases hRy : mR My with
        | none => rw [hRy] at hu; cases hu
        | some z => rw [hRy] at hu; rcases List.mem_singleton.mp hu with rfl; exact hokw
      · exact hs u (hst u hu)) hg' p l e Rm s m args below meth c ad D cA A nc ns T'.heap (locs ++ L) lr C (by rw [e1]; exact hP') hS' hlv T' rfl X'
  refine ⟨t2, hgo t2 ?_, b1⟩
  have e3 : v.toList ++ st.map (rv ad) = (roA My w ++ st).map (rv ad) := by
    have e4 : v = roV My ad w := by injection hv'
    rw [e4, List.map_append]
    unfold roA roV
    cases hRy : mR My with
    | none => rfl
    | some z => rfl
  rw [← e3] at a1
  exact a1
theorem R_callV {My : MI} {n q ci idx : Nat} {fs : List Nat} {as : List AV} {P : AV → Mem → Prop} {stk : List AV} (hs : stk = as.reverse ++ vP q :: st) (hM : MOK My n) (hV : MOV My) (hq : lay[q]? = some (.inr (ci, fs))) (hc : (vwCl[ci]?).map (fun z => z.1) = some (mY My).cls) (hlink : Cond.methodLink (mY M).cls idx (mY My) ∈ WT) (hk : mK My < mK M) (hn : as.length = n) (hst : (st.map catA).sum ≤ 8) (hd : decode (mC M) pc = .ok (.invokevirtual idx, 3)) (h : Cl lay My (vP q :: as) σ P) (kk : ∀ v σ', P v σ' → Rn lay M (pc + 3) ls (roA My v ++ st) σ' Q) : Rn lay M pc ls stk σ Q := by
  subst hs
  refine R_call hk (fun v hv => ?_) (fun v hv => List.mem_append_right _ (List.mem_cons_of_mem _ hv)) h (fun p l e Rm s m args below meth c ad D cA A nc ns H locs lr C hP hS hlr hmet => ?_) kk
  · rcases List.mem_cons.mp hv with rfl | hv
    · exact List.mem_append_right _ List.mem_cons_self
    · exact List.mem_append_left _ (List.mem_reverse.mpr hv)
  · obtain ⟨hx, hb, hr, hml, hown, hts, hlk, hKN, hDD, hA, hrm, hSK⟩ := C
    obtain ⟨cl1, hcl1⟩ : ∃ z, vwCl[ci]? = some z := by
      cases hz : vwCl[ci]? with
      | none => rw [hz] at hc; cases hc
      | some z => exact ⟨z, rfl⟩
    have hcn : cl1.1 = (mY My).cls := by rw [hcl1] at hc; exact Option.some.inj hc
    refine va_runV (As := as.map (rv ad)) (rest := st.map (rv ad)) (b := ad q) (C := (mY My).cls) (own := (mY M).cls) (Ts := WT) (bytes := mC My) (maxL := mL My) (ret := mR My) (n := n) ⟨hx, hb, hml, hown, hts⟩ hmet ⟨callB_of n hts (wsM_good hM.1) rfl rfl rfl (hts _ hM.2.1) (hts _ hlink) hM.2.2.1 ⟨?_, ?_⟩, hts _ hV.1, hts _ hV.2⟩ ⟨fun a U g mk hq => ⟨hq.1, hq.2.calling⟩, ?_, fun U hU hW => ⟨rfl, PB.at hP hKN hSK hS hDD hA hU hW⟩⟩ rfl (by rw [List.length_map]; exact hn) hlr ?_ ?_ hd ⟨hrm.2.2.1, hrm.2.2.2⟩
    · show mK My + 1 ≤ Rm.frames
      have := hrm.1; omega
    · show 8 + (mL My + 11) + 100 * mK My ≤ Rm.locals
      have := hrm.2.1; have := hM.2.2.2; omega
    · obtain ⟨cell, h1, h2, h3⟩ := va_recv hKN.1 hP hcl1 (cW_at hq)
      exact ⟨cell, h1, h2, by rw [← hcn]; exact h3⟩
    · rw [List.map_append, List.map_reverse]; rfl
    · show 2 * 0 + _ ≤ 8
      rw [catSum]; omega
theorem R_callS {My : MI} {n idx : Nat} {as : List AV} {P : AV → Mem → Prop} {stk : List AV} (hs : stk = as.reverse ++ st) (hM : MOK My n) (hV : Cond.static (mY My) ∈ WT) (hlink : Cond.methodLink (mY M).cls idx (mY My) ∈ WT) (hk : mK My < mK M) (hn : as.length = n) (hst : (st.map catA).sum ≤ 8) (hd : decode (mC M) pc = .ok (.invokestatic idx, 3)) (h : Cl lay My as σ P) (kk : ∀ v σ', P v σ' → Rn lay M (pc + 3) ls (roA My v ++ st) σ' Q) : Rn lay M pc ls stk σ Q := by
  subst hs
  refine R_call hk (fun v hv => List.mem_append_left _ (List.mem_reverse.mpr hv)) (fun v hv => List.mem_append_right _ hv) h (fun p l e Rm s m args below meth c ad D cA A nc ns H locs lr C hP hS hlr hmet => ?_) kk
  obtain ⟨hx, hb, hr, hml, hown, hts, hlk, hKN, hDD, hA, hrm, hSK⟩ := C
  refine va_runS (As := as.map (rv ad)) (rest := st.map (rv ad)) (own := (mY M).cls) (Ts := WT) (bytes := mC My) (maxL := mL My) (ret := mR My) (n := n) ⟨hx, hb, hml, hown, hts⟩ hmet ⟨callB_of n hts (wsM_good hM.1) rfl rfl rfl (hts _ hM.2.1) (hts _ hlink) hM.2.2.1 ⟨?_, ?_⟩, hts _ hV⟩ ⟨fun a U g mk hq => ⟨hq.1, hq.2.calling⟩, fun U hU hW => ⟨rfl, PB.at hP hKN hSK hS hDD hA hU hW⟩⟩ rfl (by rw [List.length_map]; exact hn) hlr ?_ ?_ hd ⟨hrm.2.2.1, hrm.2.2.2⟩
  · show mK My + 1 ≤ Rm.frames
    have := hrm.1; omega
  · show 8 + (mL My + 11) + 100 * mK My ≤ Rm.locals
    have := hrm.2.1; have := hM.2.2.2; omega
  · rw [List.map_append, List.map_reverse]
  · show 2 * 0 + _ ≤ 8
    rw [catSum]; omega
theorem R_callSN {My : MI} {n idx : Nat} {host : String} {as : List AV} {P : AV → Mem → Prop} {stk : List AV} (hs : stk = as.reverse ++ st) (hM : MOK My n) (hV : Cond.static (mY My) ∈ WT) (hlink : ((mY M).cls, idx, mY My, host) ∈ nestL) (hk : mK My < mK M) (hn : as.length = n) (hst : (st.map catA).sum ≤ 8) (hd : decode (mC M) pc = .ok (.invokestatic idx, 3)) (h : Cl lay My as σ P) (kk : ∀ v σ', P v σ' → Rn lay M (pc + 3) ls (roA My v ++ st) σ' Q) : Rn lay M pc ls stk σ Q := by
  subst hs
  refine R_call hk (fun v hv => List.mem_append_left _ (List.mem_reverse.mpr hv)) (fun v hv => List.mem_append_right _ hv) h (fun p l e Rm s m args below meth c ad D cA A nc ns H locs lr C hP hS hlr hmet => ?_) kk
  obtain ⟨hx, hb, hr, hml, hown, hts, hlk, hKN, hDD, hA, hrm, hSK⟩ := C
  refine va_runSN (As := as.map (rv ad)) (rest := st.map (rv ad)) (own := (mY M).cls) (host := host) (Ts := WT) (bytes := mC My) (maxL := mL My) (ret := mR My) (n := n) ⟨hx, hb, hml, hown, hts⟩ hmet ⟨va_cnB n hts (wsM_good hM.1) rfl rfl rfl (hKN.2 _ (List.mem_map.mpr ⟨_, hlink, rfl⟩)) (hts _ hM.2.1) hM.2.2.1 ⟨?_, ?_⟩, hts _ hV, trivial⟩ ⟨fun a U g mk hq => ⟨hq.1, hq.2.calling⟩, fun U hU hW => ⟨rfl, PB.at hP hKN hSK hS hDD hA hU hW⟩⟩ rfl (by rw [List.length_map]; exact hn) hlr ?_ ?_ hd ⟨hrm.2.2.1, hrm.2.2.2⟩
  · show mK My + 1 ≤ Rm.frames
    have := hrm.1; omega
  · show 8 + (mL My + 11) + 100 * mK My ≤ Rm.locals
    have := hrm.2.1; have := hM.2.2.2; omega
  · rw [List.map_append, List.map_reverse]
  · show 2 * 0 + _ ≤ 8
    rw [catSum]; omega
theorem R_callVI {My : MI} {n idx : Nat} {q ci : Nat} {fs : List Nat} {as : List AV} {P : Int → Mem → Prop} {stk : List AV} (hR : (mR My).isSome = true) (hs : stk = as.reverse ++ vP q :: st) (hM : MOK My n) (hV : MOV My) (hq : lay[q]? = some (.inr (ci, fs))) (hc : (vwCl[ci]?).map (fun z => z.1) = some (mY My).cls) (hlink : Cond.methodLink (mY M).cls idx (mY My) ∈ WT) (hk : mK My < mK M) (hn : as.length = n) (hst : (st.map catA).sum ≤ 8) (hd : decode (mC M) pc = .ok (.invokevirtual idx, 3)) (h : Cl lay My (vP q :: as) σ (qI P)) (kk : ∀ x σ', P x σ' → Rn lay M (pc + 3) ls (vI x :: st) σ' Q) : Rn lay M pc ls stk σ Q :=
  R_callV hs hM hV hq hc hlink hk hn hst hd h (fun v σ' hv => by
    obtain ⟨x, rfl, hx⟩ := hv
    have := kk x σ' hx
    unfold roA
    cases hz : mR My with
    | none => rw [hz] at hR; cases hR
    | some z => exact this)
theorem R_callVJ {My : MI} {n idx : Nat} {q ci : Nat} {fs : List Nat} {as : List AV} {P : Int → Mem → Prop} {stk : List AV} (hR : (mR My).isSome = true) (hs : stk = as.reverse ++ vP q :: st) (hM : MOK My n) (hV : MOV My) (hq : lay[q]? = some (.inr (ci, fs))) (hc : (vwCl[ci]?).map (fun z => z.1) = some (mY My).cls) (hlink : Cond.methodLink (mY M).cls idx (mY My) ∈ WT) (hk : mK My < mK M) (hn : as.length = n) (hst : (st.map catA).sum ≤ 8) (hd : decode (mC M) pc = .ok (.invokevirtual idx, 3)) (h : Cl lay My (vP q :: as) σ (qJ P)) (kk : ∀ x σ', P x σ' → Rn lay M (pc + 3) ls (vJ x :: st) σ' Q) : Rn lay M pc ls stk σ Q :=
  R_callV hs hM hV hq hc hlink hk hn hst hd h (fun v σ' hv => by
    obtain ⟨x, rfl, hx⟩ := hv
    have := kk x σ' hx
    unfold roA
    cases hz : mR My with
    | none => rw [hz] at hR; cases hR
    | some z => exact this)
theorem R_callVP {My : MI} {n idx : Nat} {q ci : Nat} {fs : List Nat} {as : List AV} {P : Nat → Mem → Prop} {stk : List AV} (hR : (mR My).isSome = true) (hs : stk = as.reverse ++ vP q :: st) (hM : MOK My n) (hV : MOV My) (hq : lay[q]? = some (.inr (ci, fs))) (hc : (vwCl[ci]?).map (fun z => z.1) = some (mY My).cls) (hlink : Cond.methodLink (mY M).cls idx (mY My) ∈ WT) (hk : mK My < mK M) (hn : as.length = n) (hst : (st.map catA).sum ≤ 8) (hd : decode (mC M) pc = .ok (.invokevirtual idx, 3)) (h : Cl lay My (vP q :: as) σ (qP P)) (kk : ∀ x σ', P x σ' → Rn lay M (pc + 3) ls (vP x :: st) σ' Q) : Rn lay M pc ls stk σ Q :=
  R_callV hs hM hV hq hc hlink hk hn hst hd h (fun v σ' hv => by
    obtain ⟨x, rfl, hx⟩ := hv
    have := kk x σ' hx
    unfold roA
    cases hz : mR My with
    | none => rw [hz] at hR; cases hR
    | some z => exact this)
theorem R_callV0 {My : MI} {n idx : Nat} {q ci : Nat} {fs : List Nat} {as : List AV} {P : Mem → Prop} {stk : List AV} (hR : mR My = none) (hs : stk = as.reverse ++ vP q :: st) (hM : MOK My n) (hV : MOV My) (hq : lay[q]? = some (.inr (ci, fs))) (hc : (vwCl[ci]?).map (fun z => z.1) = some (mY My).cls) (hlink : Cond.methodLink (mY M).cls idx (mY My) ∈ WT) (hk : mK My < mK M) (hn : as.length = n) (hst : (st.map catA).sum ≤ 8) (hd : decode (mC M) pc = .ok (.invokevirtual idx, 3)) (h : Cl lay My (vP q :: as) σ (qV P)) (kk : ∀ σ', P σ' → Rn lay M (pc + 3) ls st σ' Q) : Rn lay M pc ls stk σ Q :=
  R_callV hs hM hV hq hc hlink hk hn hst hd h (fun v σ' hv => by
    have := kk σ' hv.2
    unfold roA
    rw [hR]
    exact this)
theorem R_callSI {My : MI} {n idx : Nat} {as : List AV} {P : Int → Mem → Prop} {stk : List AV} (hR : (mR My).isSome = true) (hs : stk = as.reverse ++ st) (hM : MOK My n) (hV : Cond.static (mY My) ∈ WT) (hlink : Cond.methodLink (mY M).cls idx (mY My) ∈ WT) (hk : mK My < mK M) (hn : as.length = n) (hst : (st.map catA).sum ≤ 8) (hd : decode (mC M) pc = .ok (.invokestatic idx, 3)) (h : Cl lay My (as) σ (qI P)) (kk : ∀ x σ', P x σ' → Rn lay M (pc + 3) ls (vI x :: st) σ' Q) : Rn lay M pc ls stk σ Q :=
  R_callS hs hM hV hlink hk hn hst hd h (fun v σ' hv => by
    obtain ⟨x, rfl, hx⟩ := hv
    have := kk x σ' hx
    unfold roA
    cases hz : mR My with
    | none => rw [hz] at hR; cases hR
    | some z => exact this)
theorem R_callSJ {My : MI} {n idx : Nat} {as : List AV} {P : Int → Mem → Prop} {stk : List AV} (hR : (mR My).isSome = true) (hs : stk = as.reverse ++ st) (hM : MOK My n) (hV : Cond.static (mY My) ∈ WT) (hlink : Cond.methodLink (mY M).cls idx (mY My) ∈ WT) (hk : mK My < mK M) (hn : as.length = n) (hst : (st.map catA).sum ≤ 8) (hd : decode (mC M) pc = .ok (.invokestatic idx, 3)) (h : Cl lay My (as) σ (qJ P)) (kk : ∀ x σ', P x σ' → Rn lay M (pc + 3) ls (vJ x :: st) σ' Q) : Rn lay M pc ls stk σ Q :=
  R_callS hs hM hV hlink hk hn hst hd h (fun v σ' hv => by
    obtain ⟨x, rfl, hx⟩ := hv
    have := kk x σ' hx
    unfold roA
    cases hz : mR My with
    | none => rw [hz] at hR; cases hR
    | some z => exact this)
theorem R_callSP {My : MI} {n idx : Nat} {as : List AV} {P : Nat → Mem → Prop} {stk : List AV} (hR : (mR My).isSome = true) (hs : stk = as.reverse ++ st) (hM : MOK My n) (hV : Cond.static (mY My) ∈ WT) (hlink : Cond.methodLink (mY M).cls idx (mY My) ∈ WT) (hk : mK My < mK M) (hn : as.length = n) (hst : (st.map catA).sum ≤ 8) (hd : decode (mC M) pc = .ok (.invokestatic idx, 3)) (h : Cl lay My (as) σ (qP P)) (kk : ∀ x σ', P x σ' → Rn lay M (pc + 3) ls (vP x :: st) σ' Q) : Rn lay M pc ls stk σ Q :=
  R_callS hs hM hV hlink hk hn hst hd h (fun v σ' hv => by
    obtain ⟨x, rfl, hx⟩ := hv
    have := kk x σ' hx
    unfold roA
    cases hz : mR My with
    | none => rw [hz] at hR; cases hR
    | some z => exact this)
theorem R_callS0 {My : MI} {n idx : Nat} {as : List AV} {P : Mem → Prop} {stk : List AV} (hR : mR My = none) (hs : stk = as.reverse ++ st) (hM : MOK My n) (hV : Cond.static (mY My) ∈ WT) (hlink : Cond.methodLink (mY M).cls idx (mY My) ∈ WT) (hk : mK My < mK M) (hn : as.length = n) (hst : (st.map catA).sum ≤ 8) (hd : decode (mC M) pc = .ok (.invokestatic idx, 3)) (h : Cl lay My (as) σ (qV P)) (kk : ∀ σ', P σ' → Rn lay M (pc + 3) ls st σ' Q) : Rn lay M pc ls stk σ Q :=
  R_callS hs hM hV hlink hk hn hst hd h (fun v σ' hv => by
    have := kk σ' hv.2
    unfold roA
    rw [hR]
    exact this)
theorem R_callSNI {My : MI} {n idx : Nat} {host : String} {as : List AV} {P : Int → Mem → Prop} {stk : List AV} (hR : (mR My).isSome = true) (hs : stk = as.reverse ++ st) (hM : MOK My n) (hV : Cond.static (mY My) ∈ WT) (hlink : ((mY M).cls, idx, mY My, host) ∈ nestL) (hk : mK My < mK M) (hn : as.length = n) (hst : (st.map catA).sum ≤ 8) (hd : decode (mC M) pc = .ok (.invokestatic idx, 3)) (h : Cl lay My (as) σ (qI P)) (kk : ∀ x σ', P x σ' → Rn lay M (pc + 3) ls (vI x :: st) σ' Q) : Rn lay M pc ls stk σ Q :=
  R_callSN hs hM hV hlink hk hn hst hd h (fun v σ' hv => by
    obtain ⟨x, rfl, hx⟩ := hv
    have := kk x σ' hx
    unfold roA
    cases hz : mR My with
    | none => rw [hz] at hR; cases hR
    | some z => exact this)
theorem R_callSNJ {My : MI} {n idx : Nat} {host : String} {as : List AV} {P : Int → Mem → Prop} {stk : List AV} (hR : (mR My).isSome = true) (hs : stk = as.reverse ++ st) (hM : MOK My n) (hV : Cond.static (mY My) ∈ WT) (hlink : ((mY M).cls, idx, mY My, host) ∈ nestL) (hk : mK My < mK M) (hn : as.length = n) (hst : (st.map catA).sum ≤ 8) (hd : decode (mC M) pc = .ok (.invokestatic idx, 3)) (h : Cl lay My (as) σ (qJ P)) (kk : ∀ x σ', P x σ' → Rn lay M (pc + 3) ls (vJ x :: st) σ' Q) : Rn lay M pc ls stk σ Q :=
  R_callSN hs hM hV hlink hk hn hst hd h (fun v σ' hv => by
    obtain ⟨x, rfl, hx⟩ := hv
    have := kk x σ' hx
    unfold roA
    cases hz : mR My with
    | none => rw [hz] at hR; cases hR
    | some z => exact this)
theorem R_callSNP {My : MI} {n idx : Nat} {host : String} {as : List AV} {P : Nat → Mem → Prop} {stk : List AV} (hR : (mR My).isSome = true) (hs : stk = as.reverse ++ st) (hM : MOK My n) (hV : Cond.static (mY My) ∈ WT) (hlink : ((mY M).cls, idx, mY My, host) ∈ nestL) (hk : mK My < mK M) (hn : as.length = n) (hst : (st.map catA).sum ≤ 8) (hd : decode (mC M) pc = .ok (.invokestatic idx, 3)) (h : Cl lay My (as) σ (qP P)) (kk : ∀ x σ', P x σ' → Rn lay M (pc + 3) ls (vP x :: st) σ' Q) : Rn lay M pc ls stk σ Q :=
  R_callSN hs hM hV hlink hk hn hst hd h (fun v σ' hv => by
    obtain ⟨x, rfl, hx⟩ := hv
    have := kk x σ' hx
    unfold roA
    cases hz : mR My with
    | none => rw [hz] at hR; cases hR
    | some z => exact this)
theorem R_callSN0 {My : MI} {n idx : Nat} {host : String} {as : List AV} {P : Mem → Prop} {stk : List AV} (hR : mR My = none) (hs : stk = as.reverse ++ st) (hM : MOK My n) (hV : Cond.static (mY My) ∈ WT) (hlink : ((mY M).cls, idx, mY My, host) ∈ nestL) (hk : mK My < mK M) (hn : as.length = n) (hst : (st.map catA).sum ≤ 8) (hd : decode (mC M) pc = .ok (.invokestatic idx, 3)) (h : Cl lay My (as) σ (qV P)) (kk : ∀ σ', P σ' → Rn lay M (pc + 3) ls st σ' Q) : Rn lay M pc ls stk σ Q :=
  R_callSN hs hM hV hlink hk hn hst hd h (fun v σ' hv => by
    have := kk σ' hv.2
    unfold roA
    rw [hR]
    exact this)
/- the entry -/
def laL : Nat → List AV → List (Nat × AV)
  | _, [] => []
  | i, v :: vs => (i, v) :: laL (i + catA v) vs
theorem laL_map (ad : Nat → Nat) : ∀ (i : Nat) (as : List AV), lv_args i (as.map (rv ad)) = (laL i as).map fun q => (q.1, rv ad q.2)
  | _, [] => rfl
  | i, v :: vs => by
    show (i, rv ad v) :: lv_args _ (vs.map (rv ad)) = _
    have e : (if (rv ad v).category = 2 then i + 2 else i + 1) = i + catA v := by
      rw [rv_cat]
      rcases v with x | x | x <;> rfl
    rw [e, laL_map ad (i + catA v) vs]
    rfl
theorem laL_ok : ∀ (i : Nat) (as : List AV), (∀ v ∈ as, okV v) → ∀ q ∈ laL i as, okV q.2
  | _, [], _, q, hq => by cases hq
  | i, v :: vs, h, q, hq => by
    rcases List.mem_cons.mp hq with rfl | hq
    · exact okh h
    · exact laL_ok _ vs (okt h) q hq
theorem lg_len (ad : Nat → Nat) (as : List AV) : (lg_sl (as.map (rv ad))).length = (as.map catA).sum := by
  induction as with
  | nil => rfl
  | cons v t ih =>
    have e : (lg_sl ((v :: t).map (rv ad))).length = catA v + (lg_sl (t.map (rv ad))).length := by
      show (List.flatMap _ (rv ad v :: t.map (rv ad))).length = _
      rw [List.flatMap_cons, List.length_append]
      congr 1
      rw [rv_cat]
      rcases v with x | x | x <;> rfl
    rw [e, ih, List.map_cons, List.sum_cons]
theorem Cl.ofR {as : List AV} (hpl : plainName (mY M).cls = true) (hlen : (as.map catA).sum ≤ mL M) (hls : laL 0 as = ls) (h : Rn lay M 0 ls [] σ Q) : Cl lay M as σ Q := by
  intro ha hg l ad D cA sz hinj
  refine Met.ofW (cc := mC M) (maxL := mL M) (ret := mR M) hpl rfl ?_
  intro p e s m args below meth c s₁ B hml hv
  obtain ⟨rfl, hsz, hP, hKN, hSK⟩ := hv
  subst hsz
  have hts := atoms_spec (ws := wsM M) B.pre
  have hl := lv_entry (as.map (rv ad)) (n := mL M) (by rw [lg_len]; exact hlen)
  rw [lg_entry_eq]
  rw [laL_map, hls] at hl
  exact h (by rw [← hls]; exact laL_ok 0 as ha) (fun _ z => by cases z) hg p l e _ s m _ below meth c ad D cA (aA lay ad s.heap.size) 0 0 s.heap [] _
    ⟨B.exec, B.bytes, B.returns, hml, findClass_of_methodNamed B.named, fun w hw => hts w (List.mem_cons_of_mem _ hw), B.notSynchronized, hKN, ⟨hinj, fun i hi => Or.inl ⟨i, hi, rfl⟩⟩, fun q hq => Or.inr hq, ⟨Nat.le_refl _, Nat.le_refl _, Nat.le_refl _, Nat.le_refl _⟩, hSK⟩ hP va_S.rf hl
theorem Cl.mono {as : List AV} {P : AV → Mem → Prop} (h : Cl lay M as σ P) (hPQ : ∀ v σ', P v σ' → Q v σ') : Cl lay M as σ Q := by
  intro ha hg l ad D cA sz hinj p e h1 h2 h3 s m args below h4 h5 h6 h7
  obtain ⟨n, o, a1, a2, a3, ⟨v, σ', b1, b2, b3⟩, b4⟩ := h ha hg l ad D cA sz hinj p e h1 h2 h3 s m args below h4 h5 h6 h7
  exact ⟨n, o, a1, a2, a3, ⟨v, σ', b1, hPQ v σ' b2, b3⟩, b4⟩
theorem Cl.monoI {as : List AV} {P P' : Int → Mem → Prop} (h : Cl lay M as σ (qI P)) (hPQ : ∀ v σ', P v σ' → P' v σ') : Cl lay M as σ (qI P') := Cl.mono h (fun _ σ' ⟨x, e, hx⟩ => ⟨x, e, hPQ x σ' hx⟩)
theorem Cl.monoJ {as : List AV} {P P' : Int → Mem → Prop} (h : Cl lay M as σ (qJ P)) (hPQ : ∀ v σ', P v σ' → P' v σ') : Cl lay M as σ (qJ P') := Cl.mono h (fun _ σ' ⟨x, e, hx⟩ => ⟨x, e, hPQ x σ' hx⟩)
theorem Cl.monoP {as : List AV} {P P' : Nat → Mem → Prop} (h : Cl lay M as σ (qP P)) (hPQ : ∀ v σ', P v σ' → P' v σ') : Cl lay M as σ (qP P') := Cl.mono h (fun _ σ' ⟨x, e, hx⟩ => ⟨x, e, hPQ x σ' hx⟩)
theorem Cl.monoV {as : List AV} {P P' : Mem → Prop} (h : Cl lay M as σ (qV P)) (hPQ : ∀ σ', P σ' → P' σ') : Cl lay M as σ (qV P') := Cl.mono h (fun _ σ' hx => ⟨hx.1, hPQ σ' hx.2⟩)
end RR
theorem leb {a b : Nat} (h : Nat.ble a b = true) : a ≤ b := Nat.le_of_ble_eq_true h
theorem ltb {a b : Nat} (h : Nat.ble (a + 1) b = true) : a < b := Nat.le_of_ble_eq_true h
abbrev I32 (x : Int) : Prop := -2147483648 ≤ x ∧ x ≤ 2147483647
abbrev I64 (x : Int) : Prop := -9223372036854775808 ≤ x ∧ x ≤ 9223372036854775807
/-- a word of the tables, by its place -/
theorem wtm {w : Cond} (h : w ∈ lw_tbl) (hg : goodWord w = true) : w ∈ WT := List.mem_filter.mpr ⟨h, hg⟩
theorem tb1 {w : Cond} (h : w ∈ tables_1_1) : w ∈ lw_tbl := List.mem_append_right _ (List.mem_append_left _ h)
theorem tb2 {w : Cond} (h : w ∈ tables_1_2) : w ∈ lw_tbl := List.mem_append_right _ (List.mem_append_right _ (List.mem_append_left _ h))
theorem tb3 {w : Cond} (h : w ∈ tables_1_3) : w ∈ lw_tbl := List.mem_append_right _ (List.mem_append_right _ (List.mem_append_right _ (List.mem_append_left _ h)))
theorem tb4 {w : Cond} (h : w ∈ tables_1_4) : w ∈ lw_tbl := List.mem_append_right _ (List.mem_append_right _ (List.mem_append_right _ (List.mem_append_right _ (List.mem_append_left _ h))))
theorem tb5 {w : Cond} (h : w ∈ tables_1_5) : w ∈ lw_tbl := List.mem_append_right _ (List.mem_append_right _ (List.mem_append_right _ (List.mem_append_right _ (List.mem_append_right _ (List.mem_append_left _ h)))))
theorem tb6 {w : Cond} (h : w ∈ tables_1_6) : w ∈ lw_tbl := List.mem_append_right _ (List.mem_append_right _ (List.mem_append_right _ (List.mem_append_right _ (List.mem_append_right _ (List.mem_append_right _ h)))))
theorem tbp {w : Cond} (h : w ∈ k2_sels lw_privs) : w ∈ lw_tbl := List.mem_append_left _ h
