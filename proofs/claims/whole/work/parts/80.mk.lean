/-! ===== making worlds: the rows of the kit over one bundle of what stays ===== -/
def tyN (t : Nat) : FieldType := match t with
  | 0 => .int
  | 1 => .long
  | 2 => .boolean
  | _ => .byte
def atN (t : Nat) : ArrayType := match t with
  | 0 => .int
  | 1 => .long
  | 2 => .boolean
  | _ => .byte
def zA (t : Nat) : (Nat → Int32) ⊕ (Nat → Int64) ⊕ (Nat → UInt32) ⊕ (Nat → UInt64) ⊕ (Nat → Option Nat) := aV (fun _ => 0) t [] (fun _ => 0)
def KO (D : va_G) (cA : Nat → ClassId) (g : Nat → Nat) (A : Nat → Prop) (U : State) (H : Heap) : Prop := KN D cA U ∧ va_AO RX0 U ∧ va_AO RX4 U ∧ SK g A U H
theorem KO.warm {D : va_G} {cA : Nat → ClassId} {g : Nat → Nat} {A : Nat → Prop} {s U : State} {H : Heap} (hW : s.WarmedH U.vm) (h : KO D cA g A s H) : KO D cA g A U H := ⟨h.1.warm hW, h.2.1.moved hW.alike, h.2.2.1.moved hW.alike, h.2.2.2.warm hW⟩
theorem KO.calling {D : va_G} {cA : Nat → ClassId} {gg : Nat → Nat} {A : Nat → Prop} {U : State} {H : Heap} {g : JFrame} {mk : MethodId} {a : Array Value} (h : KO D cA gg A U H) : KO D cA gg A (U.calling g mk a) H := ⟨h.1.calling, va_AO.moved (u := U) (U := U.calling g mk a) (Vm.Alike.refl U.vm) h.2.1, va_AO.moved (u := U) (U := U.calling g mk a) (Vm.Alike.refl U.vm) h.2.2.1, SK.same (s := U) rfl h.2.2.2⟩
/-- what stays while the method M (or the law) makes its cells: NC cells of NS slots in all -/
def NX (M : MI) (NC NS : Nat) (p : Program) (Rm : Room) (s : State) (m : MethodId) (args : Array Value) (c : Code) (g : Nat → Nat) (D : va_G) (cA : Nat → ClassId) (A : Nat → Prop) : Prop :=
  p.tables.exec = Jvm.exec ∧ c.code = mC M ∧ c.maxLocals = mL M ∧ s.vm.findClass (mY M).cls = some m.cls ∧ (∀ w ∈ WT, w.before args s = true) ∧ KO D cA g A s s.heap ∧ (∀ q, s.heap.size ≤ q → A q) ∧ (NC ≤ Rm.cells ∧ NS ≤ Rm.slots ∧ mK M ≤ Rm.frames ∧ 100 * mK M ≤ Rm.locals)
def Wd (D : va_G) (A : Nat → Prop) (H0 : Heap) (ws : va_W) (H : Heap) (locs : List Loc) : Prop := va_P D vwCl ws H ∧ va_D A ws ∧ va_S A H0 H locs
def FF (own : String) (idx ci k : Nat) (ty : FieldType) : Prop := ∃ (C : String) (T : u_T) (N : Nat) (t0 : Nat → FieldType), vwCl[ci]? = some (C, T, N) ∧ k < N ∧ (∀ w ∈ u_ws C T N, w ∈ WT) ∧ Cond.fieldLink own idx (T k).1 (T k).2.1 (T k).2.2.1 ∈ WT ∧ (∀ k, k < N → parseFieldDescriptor (T k).2.2.1 = some (t0 k)) ∧ (∀ a, a < N → ∀ b, b < N → a ≠ b → (T a).2.1 ≠ (T b).2.1) ∧ (T k).2.2.2 = true ∧ t0 k = ty ∧ (T k).1 = own
def CN (own : String) (idx ci : Nat) (df : List Value) (N : Nat) : Prop := ∃ (C : String) (T : u_T) (t0 : Nat → FieldType), vwCl[ci]? = some (C, T, N) ∧ (∀ w ∈ u_ws C T N, w ∈ WT) ∧ (∀ k, k < N → parseFieldDescriptor (T k).2.2.1 = some (t0 k)) ∧ Cond.classLink own idx C ∈ WT ∧ Cond.instantiable C N ∈ WT ∧ Cond.initialized C ∈ WT ∧ (∀ j, j < N → defaultValue (t0 j) = vp_V df j)
section NN
variable {M : MI} {NC NS : Nat} {p : Program} {l : Launch} {e : Env} {Rm : Room} {s : State} {m : MethodId} {args : Array Value} {below : List Frame} {meth : Method} {c : Code} {g : Nat → Nat} {D : va_G} {cA : Nat → ClassId} {A : Nat → Prop} {ws : va_W} {H : Heap} {locs : List Loc} {nc ns pc : Nat} {Q : State → Prop} {lr : Array Slot} {rest : List Value}
theorem cA_eq {t : Nat} (ht : t < 4) {c1 : ClassId} {tys : List (ClassId × FieldType)} (hK : KN D cA s) (h1 : va_K D vwCl (tys ++ [(c1, tyN t)]) s) : c1 = cA t := by
  have a1 := (h1.2 tys.length (c1, tyN t) (by simp)).2
  have a2 : ∀ (k : Nat) (q : ClassId × FieldType), (tyA cA)[k]? = some q → va_RA s q.1 q.2 := fun k q h => (hK.1.2 k q h).2
  match t, ht with
  | 0, _ => exact Option.some.inj ((show s.vm.findClass _ = some c1 from a1).symm.trans (a2 0 _ rfl))
  | 1, _ => exact Option.some.inj ((show s.vm.findClass _ = some c1 from a1).symm.trans (a2 1 _ rfl))
  | 2, _ => exact Option.some.inj ((show s.vm.findClass _ = some c1 from a1).symm.trans (a2 2 _ rfl))
  | 3, _ => exact Option.some.inj ((show s.vm.findClass _ = some c1 from a1).symm.trans (a2 3 _ rfl))
theorem zA_cell {t : Nat} (ht : t < 4) (n : Nat) (c1 : ClassId) : vp_cell c1 (n, zA t) = arrV c1 n (fun _ => defaultValue (tyN t)) := by
  match t, ht with
  | 0, _ => rfl
  | 1, _ => rfl
  | 2, _ => rfl
  | 3, _ => rfl
theorem N_newa {t n : Nat} {v : Int32} (C : NX M NC NS p Rm s m args c g D cA A) (hW : Wd D A s.heap ws H locs) (ht : t < 4) (hw : Cond.arrayClass (tyN t) ∈ WT) (hv : ¬ v < 0) (hn : v.toNatClampNeg = n) (hn1 : Nat.ble n 10000 = true) (hc : Nat.ble (nc + 1) NC = true) (hs : Nat.ble (ns + n) NS = true) (hd : decode (mC M) pc = .ok (.newarray (atN t), 2))
    (kk : ∀ q H1, Wd D A s.heap (ws ++ [(q, .inl (cA t, n, zA t))]) H1 locs → W p l e Rm s m args below meth c H1 locs (nc + 1) (ns + n) Q (F0 m (pc + 2) lr (.ref q :: rest))) : W p l e Rm s m args below meth c H locs nc ns Q (F0 m pc lr (.int v :: rest)) := by
  obtain ⟨hx, hb, hml, hown, hts, hK, hA, hr1, hr2, hr3, hr4⟩ := C
  obtain ⟨hP, hD, hS⟩ := hW
  have e1 : newarray.typeOf (atN t) = tyN t := by
    match t, ht with
    | 0, _ => rfl
    | 1, _ => rfl
    | 2, _ => rfl
    | 3, _ => rfl
  refine va_newa (atype := atN t) (ty := tyN t) (a0 := (n, zA t)) (N' := n) hx hb (by rw [e1]; exact hts _ hw) e1 hK.1.1 hP hD hS hA (fun c1 => zA_cell ht n c1) hv hn ?_ (Nat.le_trans (Nat.le_of_ble_eq_true hc) hr1) (Nat.le_trans (Nat.le_of_ble_eq_true hs) hr2) hd (fun q c1 H1 k1 p1 d1 s1 => ?_)
  · have h2 := Nat.le_of_ble_eq_true hn1
    have h3 : componentBytes (tyN t) ≤ 8 := by
      match t, ht with
      | 0, _ => decide
      | 1, _ => decide
      | 2, _ => decide
      | 3, _ => decide
    exact Nat.le_trans (Nat.mul_le_mul h2 h3) (by decide)
  · have h := cA_eq ht hK.1 k1
    subst h
    exact kk q H1 ⟨p1, d1, s1⟩
theorem N_newq {t n : Nat} {v : Int32} {Cn : String} {idx : Nat} (C : NX M NC NS p Rm s m args c g D cA A) (hW : Wd D A s.heap ws H locs) (ht : (t = 4 ∧ Cn = RX0) ∨ (t = 5 ∧ Cn = RX4)) (hw : Cond.classLink (mY M).cls idx Cn ∈ WT) (hv : ¬ v < 0) (hn : v.toNatClampNeg = n) (hn1 : Nat.ble n 10000 = true) (hc : Nat.ble (nc + 1) NC = true) (hs : Nat.ble (ns + n) NS = true) (hd : decode (mC M) pc = .ok (.anewarray idx, 3))
    (kk : ∀ q H1, Wd D A s.heap (ws ++ [(q, .inl (cA t, n, .inr (.inr (.inr (.inr (fun _ => none))))))]) H1 locs → W p l e Rm s m args below meth c H1 locs (nc + 1) (ns + n) Q (F0 m (pc + 3) lr (.ref q :: rest))) : W p l e Rm s m args below meth c H locs nc ns Q (F0 m pc lr (.int v :: rest)) := by
  obtain ⟨hx, hb, hml, hown, hts, hK, hA, hr1, hr2, hr3, hr4⟩ := C
  obtain ⟨hP, hD, hS⟩ := hW
  refine va_newq (N' := n) (C := Cn) hx hb hown (hts _ hw) (by rcases ht with ⟨-, h0⟩ | ⟨-, h0⟩ <;> subst h0 <;> first | exact hK.2.1 | exact hK.2.2.1) hK.1.1 hP hD hS hA hv hn (by have := Nat.le_of_ble_eq_true hn1; omega) (Nat.le_trans (Nat.le_of_ble_eq_true hc) hr1) (Nat.le_trans (Nat.le_of_ble_eq_true hs) hr2) hd (fun q c1 H1 k1 p1 d1 s1 => ?_)
  have h : c1 = cA t := by
    obtain ⟨kA, comp, -, -, -, a1⟩ := (k1.2 (tyA cA).length (c1, .object Cn) (by simp)).2
    rcases ht with ⟨rfl, rfl⟩ | ⟨rfl, rfl⟩
    · obtain ⟨kB, comp2, -, -, -, a2⟩ := (hK.1.1.2 4 _ (tyA_at cA).2.2.2.2.1).2
      exact Option.some.inj (a1.symm.trans a2)
    · obtain ⟨kB, comp2, -, -, -, a2⟩ := (hK.1.1.2 5 _ (tyA_at cA).2.2.2.2.2).2
      exact Option.some.inj (a1.symm.trans a2)
  subst h
  exact kk q H1 ⟨p1, d1, s1⟩
theorem N_new {idx ci N : Nat} {df : List Value} (C : NX M NC NS p Rm s m args c g D cA A) (hW : Wd D A s.heap ws H locs) (hF : CN (mY M).cls idx ci df N) (hc : Nat.ble (nc + 1) NC = true) (hs : Nat.ble (ns + N) NS = true) (hd : decode (mC M) pc = .ok (.new idx, 3))
    (kk : ∀ q H1, Wd D A s.heap (ws ++ [(q, .inr (ci, df))]) H1 locs → W p l e Rm s m args below meth c H1 locs (nc + 1) (ns + N) Q (F0 m (pc + 3) lr (.ref q :: rest))) : W p l e Rm s m args below meth c H locs nc ns Q (F0 m pc lr rest) := by
  obtain ⟨hx, hb, hml, hown, hts, hK, hA, hr1, hr2, hr3, hr4⟩ := C
  obtain ⟨hP, hD, hS⟩ := hW
  obtain ⟨Cn, T, t0, f1, f2, f3, f4, f5, f6, f7⟩ := hF
  exact va_new (ci := ci) (fs := df) (C := Cn) (T := T) (N := N) hx hb hts f2 t0 f3 hown (hts _ f4) (hts _ f5) (hts _ f6) hK.1.1 hP hD hS hA f1 f7 (Nat.le_trans (Nat.le_of_ble_eq_true hc) hr1) (Nat.le_trans (Nat.le_of_ble_eq_true hs) hr2) hd (fun q H1 p1 d1 s1 => kk q H1 ⟨p1, d1, s1⟩)
theorem N_put {idx ci k a : Nat} {fs : List Value} {v : Value} {ty : FieldType} (q0 : Nat) (C : NX M NC NS p Rm s m args c g D cA A) (hW : Wd D A s.heap ws H locs) (hF : FP (mY M).cls idx ci k ty) (he : ws[q0]? = some (a, .inr (ci, fs))) (hn : narrow ty v = v) (hfit : fits ty v = true) (hl : k < fs.length) (hd : decode (mC M) pc = .ok (.putfield idx, 3))
    (kk : ∀ H1 locs1, Wd D A s.heap (ws.set q0 (a, .inr (ci, fs.set k v))) H1 locs1 → W p l e Rm s m args below meth c H1 locs1 nc ns Q (F0 m (pc + 3) lr rest)) : W p l e Rm s m args below meth c H locs nc ns Q (F0 m pc lr (v :: .ref a :: rest)) := by
  obtain ⟨hx, hb, hml, hown, hts, hK, hA, hr1, hr2, hr3, hr4⟩ := C
  obtain ⟨hP, hD, hS⟩ := hW
  obtain ⟨Cn, T, N, t0, h1, h2, h3, h4, h5, h6, h7, h8⟩ := hF
  exact va_put (D := D) (ci := ci) (C := Cn) (T := T) (N := N) (cl := vwCl) (ty := ty) (v := v) hx hb hts h3 t0 h5 h6 hown hK.1.1 hP hD hS q0 he h1 k h2 (hts _ h4) (fun _ z => z) h7 (by rw [h5 k h2, h8]) hn hfit hl hd (fun H1 locs1 p1 d1 s1 => kk H1 locs1 ⟨p1, d1, s1⟩)
theorem N_putF {idx ci k a : Nat} {fs : List Value} {v : Value} {ty : FieldType} (q0 : Nat) (C : NX M NC NS p Rm s m args c g D cA A) (hW : Wd D A s.heap ws H locs) (hin : meth.name = "<init>") (hF : FF (mY M).cls idx ci k ty) (he : ws[q0]? = some (a, .inr (ci, fs))) (hn : narrow ty v = v) (hfit : fits ty v = true) (hl : k < fs.length) (hd : decode (mC M) pc = .ok (.putfield idx, 3))
    (kk : ∀ H1 locs1, Wd D A s.heap (ws.set q0 (a, .inr (ci, fs.set k v))) H1 locs1 → W p l e Rm s m args below meth c H1 locs1 nc ns Q (F0 m (pc + 3) lr rest)) : W p l e Rm s m args below meth c H locs nc ns Q (F0 m pc lr (v :: .ref a :: rest)) := by
  obtain ⟨hx, hb, hml, hown, hts, hK, hA, hr1, hr2, hr3, hr4⟩ := C
  obtain ⟨hP, hD, hS⟩ := hW
  obtain ⟨Cn, T, N, t0, h1, h2, h3, h4, h5, h6, h7, h8, h9⟩ := hF
  exact va_putF (D := D) (ci := ci) (C := Cn) (T := T) (N := N) (cl := vwCl) (ty := ty) (v := v) hx hb hts h3 t0 h5 h6 hown hK.1.1 hP hD hS q0 he h1 k h2 (hts _ h4) (fun _ z => z) h7 hin h9 (by rw [h5 k h2, h8]) hn hfit hl hd (fun H1 locs1 p1 d1 s1 => kk H1 locs1 ⟨p1, d1, s1⟩)
theorem N_get {idx ci k a : Nat} {fs : List Value} {v : Value} (q0 : Nat) (C : NX M NC NS p Rm s m args c g D cA A) (hW : Wd D A s.heap ws H locs) (hF : FL (mY M).cls idx ci k) (he : ws[q0]? = some (a, .inr (ci, fs))) (hv : fs[k]? = some v) (hd : decode (mC M) pc = .ok (.getfield idx, 3))
    (kk : W p l e Rm s m args below meth c H locs nc ns Q (F0 m (pc + 3) lr (v :: rest))) : W p l e Rm s m args below meth c H locs nc ns Q (F0 m pc lr (.ref a :: rest)) := by
  obtain ⟨hx, hb, hml, hown, hts, hK, hA, hr1, hr2, hr3, hr4⟩ := C
  obtain ⟨hP, hD, hS⟩ := hW
  obtain ⟨Cn, T, N, h1, h2, h3, h4⟩ := hF
  exact va_get (D := D) (ci := ci) (C := Cn) (T := T) (N := N) (cl := vwCl) hx hb hts h3 hown hK.1.1 hP q0 he h1 k h2 (hts _ h4) (fun _ z => z) (v := v) hv hd kk
theorem N_astq {t n ci a v qk : Nat} {i : Int32} {vs : List Value} {f : Nat → Option Nat} (q0 : Nat) (C : NX M NC NS p Rm s m args c g D cA A) (hW : Wd D A s.heap ws H locs) (ht : (t = 4 ∧ ci = 0) ∨ (t = 5 ∧ ci = 4)) (ha : ws[q0]? = some (a, .inl (cA t, n, .inr (.inr (.inr (.inr f)))))) (hv : ws[qk]? = some (v, .inr (ci, vs))) (hin : vp_in i n) (hd : decode (mC M) pc = .ok (.aastore, 1))
    (kk : ∀ H1 locs1, Wd D A s.heap (ws.set q0 (a, .inl (cA t, n, .inr (.inr (.inr (.inr (va_up f i.toNatClampNeg (some v)))))))) H1 locs1 → W p l e Rm s m args below meth c H1 locs1 nc ns Q (F0 m (pc + 1) lr rest)) : W p l e Rm s m args below meth c H locs nc ns Q (F0 m pc lr (.ref v :: .int i :: .ref a :: rest)) := by
  obtain ⟨hx, hb, hml, hown, hts, hK, hA, hr1, hr2, hr3, hr4⟩ := C
  obtain ⟨hP, hD, hS⟩ := hW
  rcases ht with ⟨rfl, rfl⟩ | ⟨rfl, rfl⟩
  · exact va_astq hx hb hK.1.1 hP hD hS q0 4 qk 0 (r := (RX0, TX0, 8)) ha (tyA_at cA).2.2.2.2.1 hv rfl hin hd (fun H1 locs1 p1 d1 s1 => kk H1 locs1 ⟨p1, d1, s1⟩)
  · exact va_astq hx hb hK.1.1 hP hD hS q0 5 qk 4 (r := (RX4, TX4, 3)) ha (tyA_at cA).2.2.2.2.2 hv rfl hin hd (fun H1 locs1 p1 d1 s1 => kk H1 locs1 ⟨p1, d1, s1⟩)
/-- what a constructor finds: its object, with nothing in it -/
def aN (h0 ci : Nat) (df : List Value) (sz : Nat) : Nat → Prop := va_A [(h0, .inr (ci, df))] sz
def PN (D : va_G) (cA : Nat → ClassId) (g : Nat → Nat) (h0 ci : Nat) (df : List Value) (sz : Nat) (U : State) : Prop := U.heap.size = sz ∧ va_P D vwCl [(h0, .inr (ci, df))] U.heap ∧ KO D cA g (aN h0 ci df sz) U U.heap
abbrev QN (D : va_G) (cA : Nat → ClassId) (g : Nat → Nat) (h0 : Nat) {S : Type} (w1 : (Nat → ClassId) → Nat → S → va_W) (G : Nat → (Nat → Nat) → S → Prop) (A : Nat → Prop) : Array Value → State → Outcome → State → Prop := va_Qv (fun f : S => G h0 g f) (fun f t => va_P D vwCl (w1 cA h0 f) t.heap ∧ va_D A (w1 cA h0 f)) A
def rmN (k nc ns : Nat) : Room := { frames := k, cells := nc, slots := ns, locals := 100 * k }
/-- the constructor M makes, out of its object h0 with nothing in it, the cells w1 at the places f -/
def Mk (M : MI) (ci : Nat) (df : List Value) (nc ns : Nat) {S : Type} (w1 : (Nat → ClassId) → Nat → S → va_W) (G : Nat → (Nat → Nat) → S → Prop) : Prop :=
  ∀ (l : Launch) (D : va_G) (cA : Nat → ClassId) (g : Nat → Nat) (h0 sz : Nat), Met l (mY M) (wsM M) (rmN (mK M) nc ns) (va_Pc [.ref h0] (PN D cA g h0 ci df sz)) (QN D cA g h0 w1 G (aN h0 ci df sz)) nc ns (aN h0 ci df sz)
theorem Mk.of {ci : Nat} {df : List Value} {nc ns : Nat} {S : Type} {w1 : (Nat → ClassId) → Nat → S → va_W} {G : Nat → (Nat → Nat) → S → Prop} (hpl : plainName (mY M).cls = true) (hy1 : (mY M).name = "<init>") (hR : mR M = none) (hL : 1 ≤ mL M)
    (body : ∀ (p : Program) (l : Launch) (e : Env) (Rm : Room) (s : State) (m : MethodId) (args : Array Value) (below : List Frame) (meth : Method) (c : Code) (g : Nat → Nat) (D : va_G) (cA : Nat → ClassId) (A : Nat → Prop) (h0 : Nat) (lr : Array Slot), NX M nc ns p Rm s m args c g D cA A → meth.name = "<init>" → meth.sig.returnType = none → meth.locks = false → Wd D A s.heap [(h0, .inr (ci, df))] s.heap [] → lv_has lr (mL M) [(0, .ref h0)] → W p l e Rm s m args below meth c s.heap [] 0 0 (MQ below (QN D cA g h0 w1 G A) args s nc ns A) (F0 m 0 lr [])) : Mk M ci df nc ns w1 G := by
  intro l D cA g h0 sz
  refine Met.ofW (cc := mC M) (maxL := mL M) (ret := mR M) hpl rfl ?_
  intro p e s m args below meth c s₁ B hml hv
  obtain ⟨rfl, hsz, hP, hK⟩ := hv
  subst hsz
  have hts := atoms_spec (ws := wsM M) B.pre
  have hl := lv_entry [Value.ref h0] (n := mL M) hL
  rw [lg_entry_eq]
  refine body p l e _ s m _ below meth c g D cA (aN h0 ci df s.heap.size) h0 _ ⟨B.exec, B.bytes, hml, findClass_of_methodNamed B.named, fun w hw => hts w (List.mem_cons_of_mem _ hw), hK, fun q hq => Or.inr hq, Nat.le_refl _, Nat.le_refl _, Nat.le_refl _, Nat.le_refl _⟩ ((name_of_methodNamed B.named B.method).1.trans hy1) (B.returns.trans hR) B.notSynchronized ⟨hP, ⟨?_, ?_⟩, va_S.rf⟩ hl
  · intro i j x y hx hy _
    have := (List.getElem?_eq_some_iff.mp hx).1
    have := (List.getElem?_eq_some_iff.mp hy).1
    simp at *
    omega
  · intro k q hq
    exact va_A.in hq
theorem N_vret {S : Type} {w1 : (Nat → ClassId) → Nat → S → va_W} {G : Nat → (Nat → Nat) → S → Prop} {h0 : Nat} (f : S) (C : NX M NC NS p Rm s m args c g D cA A) (hr : meth.sig.returnType = none) (hlk : meth.locks = false) (hW : Wd D A s.heap (w1 cA h0 f) H locs) (hG : G h0 g f) (hc : Nat.ble nc NC = true) (hs : Nat.ble ns NS = true) (hd : decode (mC M) pc = .ok (.return_, 1)) : W p l e Rm s m args below meth c H locs nc ns (MQ below (QN D cA g h0 w1 G A) args s NC NS A) (F0 m pc lr []) := by
  obtain ⟨hx, hb, hml, hown, hts, hK, hA, hr1, hr2, hr3, hr4⟩ := C
  obtain ⟨hP, hD, hS⟩ := hW
  refine W.widen (k := NC) (n := NS) (Nat.le_of_ble_eq_true hc) (Nat.le_of_ble_eq_true hs) ?_
  exact W.vret hx hb hr (fun t ht hW => ⟨⟨f, rfl, hG, by rw [ht]; exact hP, hD⟩, hS.F ht⟩) hS.2.2 hd hlk
theorem w_oi1 : Cond.instanceMethod Lib.objectInit ∈ WT := wtm (tb1 (List.mem_of_getElem? (i := 22) rfl)) rfl
theorem w_oi2 : Cond.code Lib.objectInit ⟨#[0xb1]⟩ 1 none ∈ WT := wtm (tb1 (List.mem_of_getElem? (i := 23) rfl)) rfl
theorem N_obj {idx a : Nat} (C : NX M NC NS p Rm s m args c g D cA A) (hw : Cond.methodLink (mY M).cls idx Lib.objectInit ∈ WT) (hsz : lr.size = mL M) (hk : Nat.ble 1 (mK M) = true) (hd : decode (mC M) pc = .ok (.invokespecial idx, 3)) (kk : W p l e Rm s m args below meth c H locs nc ns Q (F0 m (pc + 3) lr [])) : W p l e Rm s m args below meth c H locs nc ns Q (F0 m pc lr [.ref a]) := by
  obtain ⟨hx, hb, hml, hown, hts, hK, hA, hr1, hr2, hr3, hr4⟩ := C
  have h1 := Nat.le_of_ble_eq_true hk
  exact W.objInit hx hb hown (hts _ hw) (hts _ w_oi1) (hts _ w_oi2) rfl (hsz.trans hml.symm) rfl hd (by omega) (show 2 * 0 + 0 + 12 ≤ Rm.locals by omega) kk
theorem join1 {ws w1 : va_W} {q ci : Nat} {df : List Value} {H1 : Heap} (hP : va_P D vwCl (ws ++ [(q, .inr (ci, df))]) H) (hD : va_D A (ws ++ [(q, .inr (ci, df))])) (hk : ∀ x : Nat, x < H.size → ¬ aN q ci df H.size x → H1[x]? = H[x]?) (hF : ∀ x, aN q ci df H.size x → A x) (hP1 : va_P D vwCl w1 H1) (hD1 : va_D (aN q ci df H.size) w1) : va_P D vwCl (ws ++ w1) H1 ∧ va_D A (ws ++ w1) := by
  have hat : ∀ (k : Nat) (x : Nat × va_E), ws[k]? = some x → (ws ++ [(q, (.inr (ci, df) : va_E))])[k]? = some x := fun k x hx => by
    rw [List.getElem?_append_left (List.getElem?_eq_some_iff.mp hx).1]; exact hx
  have hlast : (ws ++ [(q, (.inr (ci, df) : va_E))])[ws.length]? = some (q, .inr (ci, df)) := by simp
  have apart : ∀ (k : Nat) (x : Nat × va_E), ws[k]? = some x → x.1 < H.size ∧ ¬ aN q ci df H.size x.1 := by
    intro k x hx
    have hl := (hP k x (hat k x hx)).lt
    refine ⟨hl, fun h => ?_⟩
    rcases h with ⟨k2, e, h⟩ | h
    · have hk2 := (List.getElem?_eq_some_iff.mp h).1
      have : k2 = 0 := by simp at hk2; exact hk2
      subst this
      have hq : q = x.1 := by simp at h; exact h.1
      have := hD.1 k ws.length x _ (hat k x hx) hlast hq.symm
      have := (List.getElem?_eq_some_iff.mp hx).1
      omega
    · omega
  refine ⟨va_P.app (fun k x hx => (hP k x (hat k x hx)).kept (hk x.1 (apart k x hx).1 (apart k x hx).2)) hP1, va_D.app ⟨fun i j x y hx hy => hD.1 i j x y (hat i x hx) (hat j y hy), fun k x hx => hD.2 k x (hat k x hx)⟩ (hD1.weaken (fun _ x _ h => hF x.1 h)) (fun i j x y hx hy hxy => ?_)⟩
  exact (apart i x hx).2 (by rw [hxy]; exact hD1.2 j y hy)
theorem aN_in {q ci : Nat} {df : List Value} (hD : va_D A (ws ++ [(q, .inr (ci, df))])) (hS : va_S A s.heap H locs) (hA : ∀ x, s.heap.size ≤ x → A x) : ∀ x, aN q ci df H.size x → A x := by
  intro x hx
  rcases hx with ⟨k, e, h⟩ | h
  · have hk2 := (List.getElem?_eq_some_iff.mp h).1
    have : k = 0 := by simp at hk2; exact hk2
    subst this
    have hq : q = x := by simp at h; exact h.1
    rw [← hq]
    exact hD.2 ws.length (q, .inr (ci, df)) (by simp)
  · exact hA x (Nat.le_trans hS.1 h)
/-- a constructor's call, its link by R1 (own or of the nest) -/
theorem N_init {My : MI} {ci n1 s1 q idx : Nat} {df : List Value} {S : Type} {w1 : (Nat → ClassId) → Nat → S → va_W} {G : Nat → (Nat → Nat) → S → Prop} (h : Mk My ci df n1 s1 w1 G) (C : NX M NC NS p Rm s m args c g D cA A) (hW : Wd D A s.heap (ws ++ [(q, .inr (ci, df))]) H locs)
    (hc1 : Cond.code (mY My) (mC My) (mL My) none ∈ WT) (hR : mR My = none) (hini : Cond.initialized (mY My).cls ∈ WT) (hy : (mY My).cls ≠ "java/lang/invoke/MethodHandle" ∧ (mY My).cls ≠ "java/lang/invoke/VarHandle" ∧ (parseMethodDescriptor (mY My).desc).map (fun d => d.parameters.length) = some 0) (hL : mL My ≤ 80) (hins : Cond.instanceMethod (mY My) ∈ WT) (hy1 : (mY My).name = "<init>")
    (hlink : Cond.methodLink (mY M).cls idx (mY My) ∈ WT ∨ ∃ host, ((mY M).cls, idx, mY My, host) ∈ nestL) (hk : Nat.ble (mK My + 1) (mK M) = true) (hc : Nat.ble (nc + n1) NC = true) (hs : Nat.ble (ns + s1) NS = true) (hsz : lr.size = mL M) (hst : (rest.map fun v => v.category).sum ≤ 8) (hd : decode (mC M) pc = .ok (.invokespecial idx, 3))
    (kk : ∀ f H1 locs1, G q g f → Wd D A s.heap (ws ++ w1 cA q f) H1 locs1 → W p l e Rm s m args below meth c H1 locs1 (nc + n1) (ns + s1) Q (F0 m (pc + 3) lr rest)) : W p l e Rm s m args below meth c H locs nc ns Q (F0 m pc lr (.ref q :: rest)) := by
  obtain ⟨hx, hb, hml, hown, hts, hK, hA, hr1, hr2, hr3, hr4⟩ := C
  obtain ⟨hP, hD, hS⟩ := hW
  have hin := aN_in hD hS hA
  have hk1 := Nat.le_of_ble_eq_true hk
  have hc1' : Cond.code (mY My) (mC My) (mL My) (mR My) ∈ WT := by rw [hR]; exact hc1
  have hpre : ∀ U : State, U.heap = H → s.WarmedH U.vm → va_Pc [.ref q] (PN D cA g q ci df H.size) [Value.ref q].toArray U := by
    intro U hU hw
    subst hU
    refine ⟨rfl, rfl, fun k x hx => ?_, KO.warm hw ⟨hK.1, hK.2.1, hK.2.2.1, (hK.2.2.2.kept hS.2.1).narrow hin⟩⟩
    have hk2 := (List.getElem?_eq_some_iff.mp hx).1
    have : k = 0 := by simp at hk2; exact hk2
    subst this
    have hq : (q, (.inr (ci, df) : va_E)) = x := by simpa using hx
    rw [← hq]
    exact hP ws.length _ (by simp)
  have hrun : va_Run p l e Rm s m args below meth c H locs nc ns n1 s1 (F0 m pc lr (.ref q :: rest)) rest (QN D cA g q w1 G (aN q ci df H.size) [Value.ref q].toArray) (aN q ci df H.size) := by
    rcases hlink with hlink | ⟨host, hlink⟩
    · exact va_runI (As := []) (rest := rest) (b := q) (own := (mY M).cls) (Ts := WT) (bytes := mC My) (maxL := mL My) (n := 0) ⟨hx, hb, hml, hown, hts⟩ (h l D cA g q H.size) ⟨callB_of 0 hts (wsM_good hc1') (by unfold wsM; rw [hR]) rfl rfl (hts _ hini) (hts _ hlink) hy ⟨by show mK My + 1 ≤ Rm.frames; omega, by show 8 + (mL My + 11) + 100 * mK My ≤ Rm.locals; omega⟩, hy1, hts _ hins⟩ ⟨fun a U g mk hq => ⟨hq.1, hq.2.1, hq.2.2.1, hq.2.2.2.calling⟩, hpre⟩ rfl rfl hsz rfl (lv_room hst) hd ⟨Nat.le_trans (Nat.le_of_ble_eq_true hc) hr1, Nat.le_trans (Nat.le_of_ble_eq_true hs) hr2⟩
    · exact va_runIN (As := []) (rest := rest) (b := q) (own := (mY M).cls) (host := host) (Ts := WT) (bytes := mC My) (maxL := mL My) (n := 0) ⟨hx, hb, hml, hown, hts⟩ (h l D cA g q H.size) ⟨va_cnB 0 hts (wsM_good hc1') (by unfold wsM; rw [hR]) rfl rfl (hK.1.2 _ (List.mem_map.mpr ⟨_, hlink, rfl⟩)) (hts _ hini) hy ⟨by show mK My + 1 ≤ Rm.frames; omega, by show 8 + (mL My + 11) + 100 * mK My ≤ Rm.locals; omega⟩, hy1, hts _ hins⟩ ⟨fun a U g mk hq => ⟨hq.1, hq.2.1, hq.2.2.1, hq.2.2.2.calling⟩, hpre⟩ rfl rfl hsz rfl (lv_room hst) hd ⟨Nat.le_trans (Nat.le_of_ble_eq_true hc) hr1, Nat.le_trans (Nat.le_of_ble_eq_true hs) hr2⟩
  refine va_callv hrun hS (fun x _ h => hin x h) hin (fun f t H1 locs1 ht hvm hw hB hz1 hk1 hS1 => ?_)
  obtain ⟨hP1, hD1⟩ := hB
  rw [ht] at hP1
  obtain ⟨hP2, hD2⟩ := join1 hP hD hk1 hin hP1 hD1
  exact kk f H1 locs1 hw ⟨hP2, hD2, hS1⟩
end NN
