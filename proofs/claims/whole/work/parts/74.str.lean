/-! ===== the constant Strings: rules beside those of the layout ===== -/
section STR
variable {lay : List LC} {M : MI} {pc : Nat} {ls : List (Nat × AV)} {st : List AV} {σ : Mem} {Q : AV → Mem → Prop}
theorem R_sval {k idx : Nat} (hk : k < 6) (hlink : Cond.fieldLink (mY M).cls idx "java/lang/String" "value" "[B" ∈ WT) (hd : decode (mC M) pc = .ok (.getfield idx, 3)) (h : Rn lay M (pc + 3) ls (vP (210 + k) :: st) σ Q) : Rn lay M pc ls (vP (200 + k) :: st) σ Q := by
  intro hl hs hg p l e Rm s m args below meth c ad D cA A nc ns H locs lr C hP hS hlv
  have hSK := C.2.2.2.2.2.2.2.2.2.2.2
  refine vk_getf C.1 C.2.1 (hSK.1.1 k hk).2.2.1 hS C.2.2.2.2.1 (C.2.2.2.2.2.1 _ hlink) (fun _ z => z) hd ?_
  exact h hl (okc trivial (okt hs)) hg p l e Rm s m args below meth c ad D cA A nc ns H locs lr C hP hS hlv
theorem R_scod {k idx : Nat} (hk : k < 6) (hlink : Cond.fieldLink (mY M).cls idx "java/lang/String" "coder" "B" ∈ WT) (hd : decode (mC M) pc = .ok (.getfield idx, 3)) (h : Rn lay M (pc + 3) ls (vI 0 :: st) σ Q) : Rn lay M pc ls (vP (200 + k) :: st) σ Q := by
  intro hl hs hg p l e Rm s m args below meth c ad D cA A nc ns H locs lr C hP hS hlv
  have hSK := C.2.2.2.2.2.2.2.2.2.2.2
  refine vk_getf C.1 C.2.1 (hSK.1.1 k hk).2.1 hS C.2.2.2.2.1 (C.2.2.2.2.2.1 _ hlink) (fun _ z => z) hd ?_
  exact h hl (okc in0_0 (okt hs)) hg p l e Rm s m args below meth c ad D cA A nc ns H locs lr C hP hS hlv
theorem R_scs {idx : Nat} (hlink : Cond.fieldLink (mY M).cls idx "java/lang/String" "COMPACT_STRINGS" "Z" ∈ WT) (hd : decode (mC M) pc = .ok (.getstatic idx, 3)) (h : Rn lay M (pc + 3) ls (vI 1 :: st) σ Q) : Rn lay M pc ls st σ Q := by
  intro hl hs hg p l e Rm s m args below meth c ad D cA A nc ns H locs lr C hP hS hlv
  have hSK := C.2.2.2.2.2.2.2.2.2.2.2
  refine va_gets C.1 C.2.1 hSK.2.2.1 hS C.2.2.2.2.1 (C.2.2.2.2.2.1 _ hlink) (fun _ z => z) hd ?_
  exact h hl (okc (show inT 0 1 from ⟨by decide, by decide⟩) hs) hg p l e Rm s m args below meth c ad D cA A nc ns H locs lr C hP hS hlv
theorem R_slen {k : Nat} (hk : k < 6) (hd : decode (mC M) pc = .ok (.arraylength, 1)) (h : Rn lay M (pc + 1) ls (vI (strL.getD k 0 : Nat) :: st) σ Q) : Rn lay M pc ls (vP (210 + k) :: st) σ Q := by
  intro hl hs hg p l e Rm s m args below meth c ad D cA A nc ns H locs lr C hP hS hlv
  have hSK := C.2.2.2.2.2.2.2.2.2.2.2
  have hb : strL.getD k 0 ≤ 5 := by
    have : ∀ k : Fin 6, strL.getD k.val 0 ≤ 5 := by decide
    exact this ⟨k, hk⟩
  refine va_tlen C.1 C.2.1 (hSK.1.1 k hk).2.2.2 hS (v := Int32.ofInt ((strL.getD k 0 : Nat) : Int)) (Int32.ofInt_eq_ofNat).symm hd ?_
  exact h hl (okc (show inT 0 _ from ⟨by omega, by omega⟩) (okt hs)) hg p l e Rm s m args below meth c ad D cA A nc ns H locs lr C hP hS hlv
theorem R_sbld {k : Nat} {i : Int} (hk : k < 6) (h0 : 0 ≤ i) (h1 : i < (strL.getD k 0 : Nat)) (hd : decode (mC M) pc = .ok (.baload, 1)) (h : Rn lay M (pc + 1) ls (vI (((strB.getD k []).getD i.toNat 0).toInt) :: st) σ Q) : Rn lay M pc ls (vI i :: vP (210 + k) :: st) σ Q := by
  intro hl hs hg p l e Rm s m args below meth c ad D cA A nc ns H locs lr C hP hS hlv
  have hSK := C.2.2.2.2.2.2.2.2.2.2.2
  have hb : strL.getD k 0 ≤ 5 := by
    have : ∀ k : Fin 6, strL.getD k.val 0 ≤ 5 := by decide
    exact this ⟨k, hk⟩
  have hi : inT 0 i := ⟨by omega, by omega⟩
  have e1 : (Int32.ofInt i).toNatClampNeg = i.toNat := clampN hi h0
  refine va_tb C.1 C.2.1 (hSK.1.1 k hk).2.2.2 hS (vpin hi h0 h1) (v := .int (Int32.ofInt (((strB.getD k []).getD i.toNat 0).toInt))) (by rw [e1, Int32.ofInt_toInt]) hd ?_
  exact h hl (okc (i32in _) (okt (okt hs))) hg p l e Rm s m args below meth c ad D cA A nc ns H locs lr C hP hS hlv
theorem R_nret {x : Int} {ty : FieldType} (hR : mR M = some ty) (hn : narrow ty (.int (Int32.ofInt x)) = .int (Int32.ofInt x)) (hd : decode (mC M) pc = .ok (.ireturn, 1)) (h : Q (vI x) σ) : Rn lay M pc ls [vI x] σ Q := by
  intro hl hs hg p l e Rm s m args below meth c ad D cA A nc ns H locs lr C hP hS hlv
  exact W.zret (v := Int32.ofInt x) C.1 C.2.1 (C.2.2.1.trans hR) hn (fun t ht _ => ⟨vI x, σ, by rw [roV, hR]; rfl, h, okh hs, hg, by rw [ht]; exact hP, hS.F ht⟩) hS.2.2 hd C.2.2.2.2.2.2.1
end STR
