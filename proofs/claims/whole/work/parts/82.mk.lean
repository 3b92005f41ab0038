def MX7_init : MI := (yX7_init, cX7_init, 2, none, 3)
def stC : Mem := fun q j => match q with
  | 1 => if j = 0 then 17 else 0
  | 6 => if j = 0 then 17 else 0
  | 11 => if j = 0 then 17 else 0
  | 16 => if j = 0 then 17 else 0
  | 21 => if j = 0 then 17 else 0
  | 26 => if j = 0 then 1 else 0
  | 31 => if j = 0 then 1 else 0
  | 36 => if j = 5 then 5 else 0
  | 37 => if j = 1 then 3 else 0
  | 42 => if j = 1 then (-4) else if j = 2 then (-4) else 0
  | 47 => if j = 0 then (-1) else 0
  | 49 => if j = 0 then (-1) else 0
  | 51 => if j = 0 then (-1) else 0
  | 53 => if j = 0 then (-1) else 0
  | _ => 0
def permC : List Nat := [0, 1, 2, 3, 4, 5, 6, 7, 8, 9, 10, 37, 38, 39, 40, 41, 42, 43, 44, 45, 46, 26, 27, 28, 29, 30, 13, 14, 15, 16, 17, 18, 19, 20, 21, 22, 23, 24, 25, 31, 32, 33, 34, 11, 12, 35, 36, 47, 48, 49, 50, 51, 52, 53, 54]
theorem permC_inj : ∀ i, i < 55 → ∀ j, j < 55 → permC.getD i 0 = permC.getD j 0 → i = j := by decide +kernel
theorem P_of {lay : List LC} {D : va_G} {cA : Nat → ClassId} {F : Nat → Nat} {σ : Mem} {H : Heap} (h : ∀ (k : Nat) (c : LC), lay[k]? = some c → va_at D vwCl (F k, cE F cA σ k c) H) : va_P D vwCl (cW F cA lay σ) H := by
  intro k q hq
  unfold cW at hq
  rw [List.getElem?_mapIdx] at hq
  cases hc : lay[k]? with
  | none => rw [hc] at hq; cases hq
  | some c => rw [hc] at hq; cases hq; exact h k c hc
theorem getD_far (L : List Nat) {i d : Nat} (h : L.length ≤ i) : L.getD i d = d := by
  rw [List.getD_eq_getElem?_getD, List.getElem?_eq_none h]; rfl
theorem up2 (F : Nat → Nat) (x y : Nat) : va_up (va_up (fun _ => none) 0 (some (F x))) 1 (some (F y)) = fun j => (([x, y] : List Nat)[j]?).map F := by
  funext j
  match j with
  | 0 => rfl
  | 1 => rfl
  | j + 2 => simp [va_up]
theorem up4 (F : Nat → Nat) (x y z w : Nat) : va_up (va_up (va_up (va_up (fun _ => none) 0 (some (F x))) 1 (some (F y))) 2 (some (F z))) 3 (some (F w)) = fun j => (([x, y, z, w] : List Nat)[j]?).map F := by
  funext j
  match j with
  | 0 => rfl
  | 1 => rfl
  | 2 => rfl
  | 3 => rfl
  | j + 4 => simp [va_up]
theorem wn_1_21 : Cond.methodLink RX7 1 Lib.objectInit ∈ WT := wtm (tb1 (List.mem_of_getElem? (i := 21) rfl)) rfl
theorem wn_1_24 : Cond.classLink RX7 7 RX0 ∈ WT := wtm (tb1 (List.mem_of_getElem? (i := 24) rfl)) rfl
theorem cnX7_7 : CN RX7 7 0 [.int 0, .int 0, .int 0, .int 0, .null, .null, .null, .null] 8 := ⟨_, _, tyX0, rfl, inX0, tyX0_ok, wn_1_24, wn_1_25, wn_1_2, fun j hj => by match j, hj with | 0, _ => rfl | 1, _ => rfl | 2, _ => rfl | 3, _ => rfl | 4, _ => rfl | 5, _ => rfl | 6, _ => rfl | 7, _ => rfl⟩
theorem wn_2_6 : Cond.fieldLink RX7 10 "CamelParts" "estate" "LCamelParts$Estate;" ∈ WT := wtm (tb2 (List.mem_of_getElem? (i := 6) rfl)) rfl
theorem ffX7_10 : FF RX7 10 7 0 (tyX7 0) := ⟨_, _, _, tyX7, rfl, by decide, inX7, wn_2_6, tyX7_ok, nmX7, rfl, rfl, rfl⟩
theorem wn_2_7 : Cond.fieldLink RX7 16 "CamelParts" "scratch" "LCamelParts$Estate;" ∈ WT := wtm (tb2 (List.mem_of_getElem? (i := 7) rfl)) rfl
theorem ffX7_16 : FF RX7 16 7 1 (tyX7 1) := ⟨_, _, _, tyX7, rfl, by decide, inX7, wn_2_7, tyX7_ok, nmX7, rfl, rfl, rfl⟩
theorem wn_2_8 : Cond.fieldLink RX7 19 "CamelParts" "images" "[LCamelParts$Estate;" ∈ WT := wtm (tb2 (List.mem_of_getElem? (i := 8) rfl)) rfl
theorem ffX7_19 : FF RX7 19 7 2 (tyX7 2) := ⟨_, _, _, tyX7, rfl, by decide, inX7, wn_2_8, tyX7_ok, nmX7, rfl, rfl, rfl⟩
theorem wn_1_108 : Cond.arrayClass (tyN 2) ∈ WT := wtm (tb1 (List.mem_of_getElem? (i := 108) rfl)) rfl
theorem wn_2_9 : Cond.fieldLink RX7 23 "CamelParts" "kept" "[Z" ∈ WT := wtm (tb2 (List.mem_of_getElem? (i := 9) rfl)) rfl
theorem ffX7_23 : FF RX7 23 7 3 (tyX7 3) := ⟨_, _, _, tyX7, rfl, by decide, inX7, wn_2_9, tyX7_ok, nmX7, rfl, rfl, rfl⟩
theorem wn_1_72 : Cond.classLink RX7 27 RX2 ∈ WT := wtm (tb1 (List.mem_of_getElem? (i := 72) rfl)) rfl
theorem wn_1_73 : Cond.instantiable RX2 9 ∈ WT := wtm (tb1 (List.mem_of_getElem? (i := 73) rfl)) rfl
theorem wn_1_3 : Cond.initialized RX2 ∈ WT := wtm (tb1 (List.mem_of_getElem? (i := 3) rfl)) rfl
theorem cnX7_27 : CN RX7 27 2 [.long 0, .long 0, .null, .null, .null, .null, .int 0, .int 0, .int 0] 9 := ⟨_, _, tyX2, rfl, inX2, tyX2_ok, wn_1_72, wn_1_73, wn_1_3, fun j hj => by match j, hj with | 0, _ => rfl | 1, _ => rfl | 2, _ => rfl | 3, _ => rfl | 4, _ => rfl | 5, _ => rfl | 6, _ => rfl | 7, _ => rfl | 8, _ => rfl⟩
theorem wn_1_76 : Cond.code (mY MX2_init) (mC MX2_init) (mL MX2_init) none ∈ WT := wtm (tb1 (List.mem_of_getElem? (i := 76) rfl)) rfl
theorem wn_1_75 : Cond.instanceMethod (mY MX2_init) ∈ WT := wtm (tb1 (List.mem_of_getElem? (i := 75) rfl)) rfl
theorem wn_2_10 : Cond.fieldLink RX7 30 "CamelParts" "parting" "LCamelParts$Parting;" ∈ WT := wtm (tb2 (List.mem_of_getElem? (i := 10) rfl)) rfl
theorem ffX7_30 : FF RX7 30 7 4 (tyX7 4) := ⟨_, _, _, tyX7, rfl, by decide, inX7, wn_2_10, tyX7_ok, nmX7, rfl, rfl, rfl⟩
theorem wn_2_11 : Cond.fieldLink RX7 34 "CamelParts" "rival" "LCamelParts$Parting;" ∈ WT := wtm (tb2 (List.mem_of_getElem? (i := 11) rfl)) rfl
theorem ffX7_34 : FF RX7 34 7 5 (tyX7 5) := ⟨_, _, _, tyX7, rfl, by decide, inX7, wn_2_11, tyX7_ok, nmX7, rfl, rfl, rfl⟩
theorem wn_1_110 : Cond.classLink RX7 37 RX3 ∈ WT := wtm (tb1 (List.mem_of_getElem? (i := 110) rfl)) rfl
theorem wn_1_111 : Cond.instantiable RX3 9 ∈ WT := wtm (tb1 (List.mem_of_getElem? (i := 111) rfl)) rfl
theorem wn_1_4 : Cond.initialized RX3 ∈ WT := wtm (tb1 (List.mem_of_getElem? (i := 4) rfl)) rfl
theorem cnX7_37 : CN RX7 37 3 [.null, .null, .int 0, .int 0, .int 0, .int 0, .int 0, .int 0, .int 0] 9 := ⟨_, _, tyX3, rfl, inX3, tyX3_ok, wn_1_110, wn_1_111, wn_1_4, fun j hj => by match j, hj with | 0, _ => rfl | 1, _ => rfl | 2, _ => rfl | 3, _ => rfl | 4, _ => rfl | 5, _ => rfl | 6, _ => rfl | 7, _ => rfl | 8, _ => rfl⟩
theorem wn_1_114 : Cond.code (mY MX3_init) (mC MX3_init) (mL MX3_init) none ∈ WT := wtm (tb1 (List.mem_of_getElem? (i := 114) rfl)) rfl
theorem wn_1_113 : Cond.instanceMethod (mY MX3_init) ∈ WT := wtm (tb1 (List.mem_of_getElem? (i := 113) rfl)) rfl
theorem wn_2_12 : Cond.fieldLink RX7 40 "CamelParts" "script" "LCamelParts$Script;" ∈ WT := wtm (tb2 (List.mem_of_getElem? (i := 12) rfl)) rfl
theorem ffX7_40 : FF RX7 40 7 6 (tyX7 6) := ⟨_, _, _, tyX7, rfl, by decide, inX7, wn_2_12, tyX7_ok, nmX7, rfl, rfl, rfl⟩
theorem wn_1_181 : Cond.classLink RX7 44 RX6 ∈ WT := wtm (tb1 (List.mem_of_getElem? (i := 181) rfl)) rfl
theorem wn_1_182 : Cond.instantiable RX6 7 ∈ WT := wtm (tb1 (List.mem_of_getElem? (i := 182) rfl)) rfl
theorem wn_1_6 : Cond.initialized RX6 ∈ WT := wtm (tb1 (List.mem_of_getElem? (i := 6) rfl)) rfl
theorem cnX7_44 : CN RX7 44 6 [.int 0, .null, .null, .int 0, .int 0, .int 0, .int 0] 7 := ⟨_, _, tyX6, rfl, inX6, tyX6_ok, wn_1_181, wn_1_182, wn_1_6, fun j hj => by match j, hj with | 0, _ => rfl | 1, _ => rfl | 2, _ => rfl | 3, _ => rfl | 4, _ => rfl | 5, _ => rfl | 6, _ => rfl⟩
theorem wn_1_185 : Cond.code (mY MX6_init) (mC MX6_init) (mL MX6_init) none ∈ WT := wtm (tb1 (List.mem_of_getElem? (i := 185) rfl)) rfl
theorem wn_1_184 : Cond.instanceMethod (mY MX6_init) ∈ WT := wtm (tb1 (List.mem_of_getElem? (i := 184) rfl)) rfl
theorem wn_2_13 : Cond.fieldLink RX7 47 "CamelParts" "search" "LCamelParts$WillSearch;" ∈ WT := wtm (tb2 (List.mem_of_getElem? (i := 13) rfl)) rfl
theorem ffX7_47 : FF RX7 47 7 7 (tyX7 7) := ⟨_, _, _, tyX7, rfl, by decide, inX7, wn_2_13, tyX7_ok, nmX7, rfl, rfl, rfl⟩
theorem wn_1_211 : Cond.classLink RX7 51 RX1 ∈ WT := wtm (tb1 (List.mem_of_getElem? (i := 211) rfl)) rfl
theorem wn_1_212 : Cond.instantiable RX1 3 ∈ WT := wtm (tb1 (List.mem_of_getElem? (i := 212) rfl)) rfl
theorem wn_1_7 : Cond.initialized RX1 ∈ WT := wtm (tb1 (List.mem_of_getElem? (i := 7) rfl)) rfl
theorem cnX7_51 : CN RX7 51 1 [.int 0, .int 0, .int 0] 3 := ⟨_, _, tyX1, rfl, inX1, tyX1_ok, wn_1_211, wn_1_212, wn_1_7, fun j hj => by match j, hj with | 0, _ => rfl | 1, _ => rfl | 2, _ => rfl⟩
theorem wn_1_215 : Cond.code (mY MX1_init) (mC MX1_init) (mL MX1_init) none ∈ WT := wtm (tb1 (List.mem_of_getElem? (i := 215) rfl)) rfl
theorem wn_1_214 : Cond.instanceMethod (mY MX1_init) ∈ WT := wtm (tb1 (List.mem_of_getElem? (i := 214) rfl)) rfl
theorem wn_2_14 : Cond.fieldLink RX7 54 "CamelParts" "finds" "LCamelParts$Finds;" ∈ WT := wtm (tb2 (List.mem_of_getElem? (i := 14) rfl)) rfl
theorem ffX7_54 : FF RX7 54 7 8 (tyX7 8) := ⟨_, _, _, tyX7, rfl, by decide, inX7, wn_2_14, tyX7_ok, nmX7, rfl, rfl, rfl⟩
theorem wn_2_15 : Cond.fieldLink RX7 58 "CamelParts" "tally" "[I" ∈ WT := wtm (tb2 (List.mem_of_getElem? (i := 15) rfl)) rfl
theorem ffX7_58 : FF RX7 58 7 9 (tyX7 9) := ⟨_, _, _, tyX7, rfl, by decide, inX7, wn_2_15, tyX7_ok, nmX7, rfl, rfl, rfl⟩
theorem wn_1_228 : Cond.classLink RX7 62 RX4 ∈ WT := wtm (tb1 (List.mem_of_getElem? (i := 228) rfl)) rfl
theorem wn_2_16 : Cond.fieldLink RX7 64 "CamelParts" "sheets" "[LCamelParts$Sheet;" ∈ WT := wtm (tb2 (List.mem_of_getElem? (i := 16) rfl)) rfl
theorem ffX7_64 : FF RX7 64 7 10 (tyX7 10) := ⟨_, _, _, tyX7, rfl, by decide, inX7, wn_2_16, tyX7_ok, nmX7, rfl, rfl, rfl⟩
theorem wn_2_17 : Cond.fieldLink RX7 68 "CamelParts" "tornBy" "I" ∈ WT := wtm (tb2 (List.mem_of_getElem? (i := 17) rfl)) rfl
theorem fqX7_68 : FP RX7 68 7 11 (tyX7 11) := ⟨_, _, _, tyX7, rfl, by decide, inX7, wn_2_17, tyX7_ok, nmX7, rfl, rfl⟩
theorem fgX7_19 : FL RX7 19 7 2 := ⟨_, _, _, rfl, by decide, inX7, wn_2_8⟩
theorem fgX7_64 : FL RX7 64 7 10 := ⟨_, _, _, rfl, by decide, inX7, wn_2_16⟩
theorem wn_1_230 : Cond.instantiable RX4 3 ∈ WT := wtm (tb1 (List.mem_of_getElem? (i := 230) rfl)) rfl
theorem wn_1_8 : Cond.initialized RX4 ∈ WT := wtm (tb1 (List.mem_of_getElem? (i := 8) rfl)) rfl
theorem cnX7_62 : CN RX7 62 4 [.int 0, .int 0, .null] 3 := ⟨_, _, tyX4, rfl, inX4, tyX4_ok, wn_1_228, wn_1_230, wn_1_8, fun j hj => by match j, hj with | 0, _ => rfl | 1, _ => rfl | 2, _ => rfl⟩
theorem wn_1_233 : Cond.code (mY MX4_init) (mC MX4_init) (mL MX4_init) none ∈ WT := wtm (tb1 (List.mem_of_getElem? (i := 233) rfl)) rfl
theorem wn_1_232 : Cond.instanceMethod (mY MX4_init) ∈ WT := wtm (tb1 (List.mem_of_getElem? (i := 232) rfl)) rfl
set_option maxRecDepth 100000 in
set_option maxHeartbeats 4000000 in
theorem mkX7 : Mk MX7_init 7 [.null, .null, .null, .null, .null, .null, .null, .null, .null, .null, .null, .int 0] 54 810 (fun cA _ f => cW f cA layC stC) (fun h0 g f => f 0 = h0 ∧ ∀ i, 200 ≤ i → f i = g i) := by
  refine Mk.of (by decide +kernel) rfl rfl (by decide) ?_
  intro p l e Rm s m args below meth c g D cA A h0 lr C hin hr hlk hW hl
  have hx := C.1
  have hb := C.2.1
  refine lv_aload_n hx hb dX7_init_0 rfl (lv_at hl 0 rfl) ?_
  refine N_obj C wn_1_21 hl.1 rfl dX7_init_1 ?_
  refine lv_aload_n hx hb dX7_init_4 rfl (lv_at hl 0 rfl) ?_
  refine N_new (ns := 0) (nc := 0) C hW cnX7_7 rfl rfl dX7_init_5 (fun q1 H hW => ?_)
  refine lv_dup hx hb dX7_init_8 rfl ?_
  refine N_init (ns := 8) (nc := 1) mkX0 C hW wn_1_28 rfl wn_1_2 (by decide +kernel) (by decide) wn_1_27 rfl (Or.inr ⟨_, List.mem_of_getElem? (i := 0) rfl⟩) rfl rfl rfl hl.1 (leb rfl) dX7_init_9 (fun f1 H locs _ hW => ?_)
  refine N_putF 0 C hW hin ffX7_10 rfl rfl rfl (ltb rfl) dX7_init_12 (fun H locs hW => ?_)
  have hW : Wd D A s.heap [(h0, .inr (7, [.ref q1, .null, .null, .null, .null, .null, .null, .null, .null, .null, .null, .int 0])), (q1, .inr (0, [.int 17, .int 0, .int 0, .int 0, .ref (f1 0), .ref (f1 1), .ref (f1 2), .ref (f1 3)])), ((f1 0), .inl (cA 0, 5, zA 0)), ((f1 1), .inl (cA 0, 5, zA 0)), ((f1 2), .inl (cA 0, 6, zA 0)), ((f1 3), .inl (cA 0, 6, zA 0))] _ _ := hW
  refine lv_aload_n hx hb dX7_init_15 rfl (lv_at hl 0 rfl) ?_
  refine N_new (ns := 30) (nc := 5) C hW cnX7_7 rfl rfl dX7_init_16 (fun q2 H hW => ?_)
  refine lv_dup hx hb dX7_init_19 rfl ?_
  refine N_init (ns := 38) (nc := 6) mkX0 C hW wn_1_28 rfl wn_1_2 (by decide +kernel) (by decide) wn_1_27 rfl (Or.inr ⟨_, List.mem_of_getElem? (i := 0) rfl⟩) rfl rfl rfl hl.1 (leb rfl) dX7_init_20 (fun f2 H locs _ hW => ?_)
  refine N_putF 0 C hW hin ffX7_16 rfl rfl rfl (ltb rfl) dX7_init_23 (fun H locs hW => ?_)
  have hW : Wd D A s.heap [(h0, .inr (7, [.ref q1, .ref q2, .null, .null, .null, .null, .null, .null, .null, .null, .null, .int 0])), (q1, .inr (0, [.int 17, .int 0, .int 0, .int 0, .ref (f1 0), .ref (f1 1), .ref (f1 2), .ref (f1 3)])), ((f1 0), .inl (cA 0, 5, zA 0)), ((f1 1), .inl (cA 0, 5, zA 0)), ((f1 2), .inl (cA 0, 6, zA 0)), ((f1 3), .inl (cA 0, 6, zA 0)), (q2, .inr (0, [.int 17, .int 0, .int 0, .int 0, .ref (f2 0), .ref (f2 1), .ref (f2 2), .ref (f2 3)])), ((f2 0), .inl (cA 0, 5, zA 0)), ((f2 1), .inl (cA 0, 5, zA 0)), ((f2 2), .inl (cA 0, 6, zA 0)), ((f2 3), .inl (cA 0, 6, zA 0))] _ _ := hW
  refine lv_aload_n hx hb dX7_init_26 rfl (lv_at hl 0 rfl) ?_
  refine lv_iconst (v := 2) hx hb dX7_init_27 (by decide) ?_
  refine N_newq (t := 4) (n := 2) (ns := 60) (nc := 10) C hW (by decide) wn_1_24 (by decide) rfl rfl rfl rfl dX7_init_28 (fun q3 H hW => ?_)
  refine N_putF 0 C hW hin ffX7_19 rfl rfl rfl (ltb rfl) dX7_init_31 (fun H locs hW => ?_)
  have hW : Wd D A s.heap [(h0, .inr (7, [.ref q1, .ref q2, .ref q3, .null, .null, .null, .null, .null, .null, .null, .null, .int 0])), (q1, .inr (0, [.int 17, .int 0, .int 0, .int 0, .ref (f1 0), .ref (f1 1), .ref (f1 2), .ref (f1 3)])), ((f1 0), .inl (cA 0, 5, zA 0)), ((f1 1), .inl (cA 0, 5, zA 0)), ((f1 2), .inl (cA 0, 6, zA 0)), ((f1 3), .inl (cA 0, 6, zA 0)), (q2, .inr (0, [.int 17, .int 0, .int 0, .int 0, .ref (f2 0), .ref (f2 1), .ref (f2 2), .ref (f2 3)])), ((f2 0), .inl (cA 0, 5, zA 0)), ((f2 1), .inl (cA 0, 5, zA 0)), ((f2 2), .inl (cA 0, 6, zA 0)), ((f2 3), .inl (cA 0, 6, zA 0)), (q3, .inl (cA 4, 2, .inr (.inr (.inr (.inr (fun _ => none))))))] _ _ := hW
  refine lv_aload_n hx hb dX7_init_34 rfl (lv_at hl 0 rfl) ?_
  refine lv_iconst (v := 2) hx hb dX7_init_35 (by decide) ?_
  refine N_newa (t := 2) (n := 2) (ns := 62) (nc := 11) C hW (by decide) wn_1_108 (by decide) rfl rfl rfl rfl dX7_init_36 (fun q4 H hW => ?_)
  refine N_putF 0 C hW hin ffX7_23 rfl rfl rfl (ltb rfl) dX7_init_38 (fun H locs hW => ?_)
  have hW : Wd D A s.heap [(h0, .inr (7, [.ref q1, .ref q2, .ref q3, .ref q4, .null, .null, .null, .null, .null, .null, .null, .int 0])), (q1, .inr (0, [.int 17, .int 0, .int 0, .int 0, .ref (f1 0), .ref (f1 1), .ref (f1 2), .ref (f1 3)])), ((f1 0), .inl (cA 0, 5, zA 0)), ((f1 1), .inl (cA 0, 5, zA 0)), ((f1 2), .inl (cA 0, 6, zA 0)), ((f1 3), .inl (cA 0, 6, zA 0)), (q2, .inr (0, [.int 17, .int 0, .int 0, .int 0, .ref (f2 0), .ref (f2 1), .ref (f2 2), .ref (f2 3)])), ((f2 0), .inl (cA 0, 5, zA 0)), ((f2 1), .inl (cA 0, 5, zA 0)), ((f2 2), .inl (cA 0, 6, zA 0)), ((f2 3), .inl (cA 0, 6, zA 0)), (q3, .inl (cA 4, 2, .inr (.inr (.inr (.inr (fun _ => none)))))), (q4, .inl (cA 2, 2, zA 2))] _ _ := hW
  refine lv_aload_n hx hb dX7_init_41 rfl (lv_at hl 0 rfl) ?_
  refine N_new (ns := 64) (nc := 12) C hW cnX7_27 rfl rfl dX7_init_42 (fun q5 H hW => ?_)
  refine lv_dup hx hb dX7_init_45 rfl ?_
  refine N_init (ns := 73) (nc := 13) mkX2 C hW wn_1_76 rfl wn_1_3 (by decide +kernel) (by decide) wn_1_75 rfl (Or.inr ⟨_, List.mem_of_getElem? (i := 1) rfl⟩) rfl rfl rfl hl.1 (leb rfl) dX7_init_46 (fun f5 H locs _ hW => ?_)
  refine N_putF 0 C hW hin ffX7_30 rfl rfl rfl (ltb rfl) dX7_init_49 (fun H locs hW => ?_)
  have hW : Wd D A s.heap [(h0, .inr (7, [.ref q1, .ref q2, .ref q3, .ref q4, .ref q5, .null, .null, .null, .null, .null, .null, .int 0])), (q1, .inr (0, [.int 17, .int 0, .int 0, .int 0, .ref (f1 0), .ref (f1 1), .ref (f1 2), .ref (f1 3)])), ((f1 0), .inl (cA 0, 5, zA 0)), ((f1 1), .inl (cA 0, 5, zA 0)), ((f1 2), .inl (cA 0, 6, zA 0)), ((f1 3), .inl (cA 0, 6, zA 0)), (q2, .inr (0, [.int 17, .int 0, .int 0, .int 0, .ref (f2 0), .ref (f2 1), .ref (f2 2), .ref (f2 3)])), ((f2 0), .inl (cA 0, 5, zA 0)), ((f2 1), .inl (cA 0, 5, zA 0)), ((f2 2), .inl (cA 0, 6, zA 0)), ((f2 3), .inl (cA 0, 6, zA 0)), (q3, .inl (cA 4, 2, .inr (.inr (.inr (.inr (fun _ => none)))))), (q4, .inl (cA 2, 2, zA 2)), (q5, .inr (2, [.long 1, .long 0, .ref (f5 0), .ref (f5 1), .ref (f5 2), .ref (f5 3), .int 0, .int 0, .int 0])), ((f5 0), .inl (cA 1, 5, zA 1)), ((f5 1), .inl (cA 1, 5, zA 1)), ((f5 2), .inl (cA 0, 5, zA 0)), ((f5 3), .inl (cA 0, 5, zA 0))] _ _ := hW
  refine lv_aload_n hx hb dX7_init_52 rfl (lv_at hl 0 rfl) ?_
  refine N_new (ns := 93) (nc := 17) C hW cnX7_27 rfl rfl dX7_init_53 (fun q6 H hW => ?_)
  refine lv_dup hx hb dX7_init_56 rfl ?_
  refine N_init (ns := 102) (nc := 18) mkX2 C hW wn_1_76 rfl wn_1_3 (by decide +kernel) (by decide) wn_1_75 rfl (Or.inr ⟨_, List.mem_of_getElem? (i := 1) rfl⟩) rfl rfl rfl hl.1 (leb rfl) dX7_init_57 (fun f6 H locs _ hW => ?_)
  refine N_putF 0 C hW hin ffX7_34 rfl rfl rfl (ltb rfl) dX7_init_60 (fun H locs hW => ?_)
  have hW : Wd D A s.heap [(h0, .inr (7, [.ref q1, .ref q2, .ref q3, .ref q4, .ref q5, .ref q6, .null, .null, .null, .null, .null, .int 0])), (q1, .inr (0, [.int 17, .int 0, .int 0, .int 0, .ref (f1 0), .ref (f1 1), .ref (f1 2), .ref (f1 3)])), ((f1 0), .inl (cA 0, 5, zA 0)), ((f1 1), .inl (cA 0, 5, zA 0)), ((f1 2), .inl (cA 0, 6, zA 0)), ((f1 3), .inl (cA 0, 6, zA 0)), (q2, .inr (0, [.int 17, .int 0, .int 0, .int 0, .ref (f2 0), .ref (f2 1), .ref (f2 2), .ref (f2 3)])), ((f2 0), .inl (cA 0, 5, zA 0)), ((f2 1), .inl (cA 0, 5, zA 0)), ((f2 2), .inl (cA 0, 6, zA 0)), ((f2 3), .inl (cA 0, 6, zA 0)), (q3, .inl (cA 4, 2, .inr (.inr (.inr (.inr (fun _ => none)))))), (q4, .inl (cA 2, 2, zA 2)), (q5, .inr (2, [.long 1, .long 0, .ref (f5 0), .ref (f5 1), .ref (f5 2), .ref (f5 3), .int 0, .int 0, .int 0])), ((f5 0), .inl (cA 1, 5, zA 1)), ((f5 1), .inl (cA 1, 5, zA 1)), ((f5 2), .inl (cA 0, 5, zA 0)), ((f5 3), .inl (cA 0, 5, zA 0)), (q6, .inr (2, [.long 1, .long 0, .ref (f6 0), .ref (f6 1), .ref (f6 2), .ref (f6 3), .int 0, .int 0, .int 0])), ((f6 0), .inl (cA 1, 5, zA 1)), ((f6 1), .inl (cA 1, 5, zA 1)), ((f6 2), .inl (cA 0, 5, zA 0)), ((f6 3), .inl (cA 0, 5, zA 0))] _ _ := hW
  refine lv_aload_n hx hb dX7_init_63 rfl (lv_at hl 0 rfl) ?_
  refine N_new (ns := 122) (nc := 22) C hW cnX7_37 rfl rfl dX7_init_64 (fun q7 H hW => ?_)
  refine lv_dup hx hb dX7_init_67 rfl ?_
  refine N_init (ns := 131) (nc := 23) mkX3 C hW wn_1_114 rfl wn_1_4 (by decide +kernel) (by decide) wn_1_113 rfl (Or.inr ⟨_, List.mem_of_getElem? (i := 2) rfl⟩) rfl rfl rfl hl.1 (leb rfl) dX7_init_68 (fun f7 H locs _ hW => ?_)
  refine N_putF 0 C hW hin ffX7_40 rfl rfl rfl (ltb rfl) dX7_init_71 (fun H locs hW => ?_)
  have hW : Wd D A s.heap [(h0, .inr (7, [.ref q1, .ref q2, .ref q3, .ref q4, .ref q5, .ref q6, .ref q7, .null, .null, .null, .null, .int 0])), (q1, .inr (0, [.int 17, .int 0, .int 0, .int 0, .ref (f1 0), .ref (f1 1), .ref (f1 2), .ref (f1 3)])), ((f1 0), .inl (cA 0, 5, zA 0)), ((f1 1), .inl (cA 0, 5, zA 0)), ((f1 2), .inl (cA 0, 6, zA 0)), ((f1 3), .inl (cA 0, 6, zA 0)), (q2, .inr (0, [.int 17, .int 0, .int 0, .int 0, .ref (f2 0), .ref (f2 1), .ref (f2 2), .ref (f2 3)])), ((f2 0), .inl (cA 0, 5, zA 0)), ((f2 1), .inl (cA 0, 5, zA 0)), ((f2 2), .inl (cA 0, 6, zA 0)), ((f2 3), .inl (cA 0, 6, zA 0)), (q3, .inl (cA 4, 2, .inr (.inr (.inr (.inr (fun _ => none)))))), (q4, .inl (cA 2, 2, zA 2)), (q5, .inr (2, [.long 1, .long 0, .ref (f5 0), .ref (f5 1), .ref (f5 2), .ref (f5 3), .int 0, .int 0, .int 0])), ((f5 0), .inl (cA 1, 5, zA 1)), ((f5 1), .inl (cA 1, 5, zA 1)), ((f5 2), .inl (cA 0, 5, zA 0)), ((f5 3), .inl (cA 0, 5, zA 0)), (q6, .inr (2, [.long 1, .long 0, .ref (f6 0), .ref (f6 1), .ref (f6 2), .ref (f6 3), .int 0, .int 0, .int 0])), ((f6 0), .inl (cA 1, 5, zA 1)), ((f6 1), .inl (cA 1, 5, zA 1)), ((f6 2), .inl (cA 0, 5, zA 0)), ((f6 3), .inl (cA 0, 5, zA 0)), (q7, .inr (3, [.ref (f7 0), .ref (f7 2), .int 0, .int 0, .int 0, .int 5, .int 0, .int 0, .int 0])), ((f7 0), .inr (5, [.int 0, .int 3, .int 0, .int 0, .int 0, .ref (f7 1)])), ((f7 1), .inl (cA 3, 160, zA 3)), ((f7 2), .inr (0, [.int 17, .int 0, .int 0, .int 0, .ref (f7 3), .ref (f7 4), .ref (f7 5), .ref (f7 6)])), ((f7 3), .inl (cA 0, 5, zA 0)), ((f7 4), .inl (cA 0, 5, zA 0)), ((f7 5), .inl (cA 0, 6, zA 0)), ((f7 6), .inl (cA 0, 6, zA 0))] _ _ := hW
  refine lv_aload_n hx hb dX7_init_74 rfl (lv_at hl 0 rfl) ?_
  refine N_new (ns := 327) (nc := 30) C hW cnX7_44 rfl rfl dX7_init_75 (fun q8 H hW => ?_)
  refine lv_dup hx hb dX7_init_78 rfl ?_
  refine N_init (ns := 334) (nc := 31) mkX6 C hW wn_1_185 rfl wn_1_6 (by decide +kernel) (by decide) wn_1_184 rfl (Or.inr ⟨_, List.mem_of_getElem? (i := 5) rfl⟩) rfl rfl rfl hl.1 (leb rfl) dX7_init_79 (fun f8 H locs _ hW => ?_)
  refine N_putF 0 C hW hin ffX7_47 rfl rfl rfl (ltb rfl) dX7_init_82 (fun H locs hW => ?_)
  have hW : Wd D A s.heap [(h0, .inr (7, [.ref q1, .ref q2, .ref q3, .ref q4, .ref q5, .ref q6, .ref q7, .ref q8, .null, .null, .null, .int 0])), (q1, .inr (0, [.int 17, .int 0, .int 0, .int 0, .ref (f1 0), .ref (f1 1), .ref (f1 2), .ref (f1 3)])), ((f1 0), .inl (cA 0, 5, zA 0)), ((f1 1), .inl (cA 0, 5, zA 0)), ((f1 2), .inl (cA 0, 6, zA 0)), ((f1 3), .inl (cA 0, 6, zA 0)), (q2, .inr (0, [.int 17, .int 0, .int 0, .int 0, .ref (f2 0), .ref (f2 1), .ref (f2 2), .ref (f2 3)])), ((f2 0), .inl (cA 0, 5, zA 0)), ((f2 1), .inl (cA 0, 5, zA 0)), ((f2 2), .inl (cA 0, 6, zA 0)), ((f2 3), .inl (cA 0, 6, zA 0)), (q3, .inl (cA 4, 2, .inr (.inr (.inr (.inr (fun _ => none)))))), (q4, .inl (cA 2, 2, zA 2)), (q5, .inr (2, [.long 1, .long 0, .ref (f5 0), .ref (f5 1), .ref (f5 2), .ref (f5 3), .int 0, .int 0, .int 0])), ((f5 0), .inl (cA 1, 5, zA 1)), ((f5 1), .inl (cA 1, 5, zA 1)), ((f5 2), .inl (cA 0, 5, zA 0)), ((f5 3), .inl (cA 0, 5, zA 0)), (q6, .inr (2, [.long 1, .long 0, .ref (f6 0), .ref (f6 1), .ref (f6 2), .ref (f6 3), .int 0, .int 0, .int 0])), ((f6 0), .inl (cA 1, 5, zA 1)), ((f6 1), .inl (cA 1, 5, zA 1)), ((f6 2), .inl (cA 0, 5, zA 0)), ((f6 3), .inl (cA 0, 5, zA 0)), (q7, .inr (3, [.ref (f7 0), .ref (f7 2), .int 0, .int 0, .int 0, .int 5, .int 0, .int 0, .int 0])), ((f7 0), .inr (5, [.int 0, .int 3, .int 0, .int 0, .int 0, .ref (f7 1)])), ((f7 1), .inl (cA 3, 160, zA 3)), ((f7 2), .inr (0, [.int 17, .int 0, .int 0, .int 0, .ref (f7 3), .ref (f7 4), .ref (f7 5), .ref (f7 6)])), ((f7 3), .inl (cA 0, 5, zA 0)), ((f7 4), .inl (cA 0, 5, zA 0)), ((f7 5), .inl (cA 0, 6, zA 0)), ((f7 6), .inl (cA 0, 6, zA 0)), (q8, .inr (6, [.int 0, .ref (f8 0), .ref (f8 1), .int 0, .int 0, .int 0, .int 0])), ((f8 0), .inl (cA 0, 4, zA 0)), ((f8 1), .inl (cA 0, 32, zA 0))] _ _ := hW
  refine lv_aload_n hx hb dX7_init_85 rfl (lv_at hl 0 rfl) ?_
  refine N_new (ns := 370) (nc := 33) C hW cnX7_51 rfl rfl dX7_init_86 (fun q9 H hW => ?_)
  refine lv_dup hx hb dX7_init_89 rfl ?_
  refine N_init (ns := 373) (nc := 34) mkX1 C hW wn_1_215 rfl wn_1_7 (by decide +kernel) (by decide) wn_1_214 rfl (Or.inr ⟨_, List.mem_of_getElem? (i := 6) rfl⟩) rfl rfl rfl hl.1 (leb rfl) dX7_init_90 (fun f9 H locs _ hW => ?_)
  refine N_putF 0 C hW hin ffX7_54 rfl rfl rfl (ltb rfl) dX7_init_93 (fun H locs hW => ?_)
  have hW : Wd D A s.heap [(h0, .inr (7, [.ref q1, .ref q2, .ref q3, .ref q4, .ref q5, .ref q6, .ref q7, .ref q8, .ref q9, .null, .null, .int 0])), (q1, .inr (0, [.int 17, .int 0, .int 0, .int 0, .ref (f1 0), .ref (f1 1), .ref (f1 2), .ref (f1 3)])), ((f1 0), .inl (cA 0, 5, zA 0)), ((f1 1), .inl (cA 0, 5, zA 0)), ((f1 2), .inl (cA 0, 6, zA 0)), ((f1 3), .inl (cA 0, 6, zA 0)), (q2, .inr (0, [.int 17, .int 0, .int 0, .int 0, .ref (f2 0), .ref (f2 1), .ref (f2 2), .ref (f2 3)])), ((f2 0), .inl (cA 0, 5, zA 0)), ((f2 1), .inl (cA 0, 5, zA 0)), ((f2 2), .inl (cA 0, 6, zA 0)), ((f2 3), .inl (cA 0, 6, zA 0)), (q3, .inl (cA 4, 2, .inr (.inr (.inr (.inr (fun _ => none)))))), (q4, .inl (cA 2, 2, zA 2)), (q5, .inr (2, [.long 1, .long 0, .ref (f5 0), .ref (f5 1), .ref (f5 2), .ref (f5 3), .int 0, .int 0, .int 0])), ((f5 0), .inl (cA 1, 5, zA 1)), ((f5 1), .inl (cA 1, 5, zA 1)), ((f5 2), .inl (cA 0, 5, zA 0)), ((f5 3), .inl (cA 0, 5, zA 0)), (q6, .inr (2, [.long 1, .long 0, .ref (f6 0), .ref (f6 1), .ref (f6 2), .ref (f6 3), .int 0, .int 0, .int 0])), ((f6 0), .inl (cA 1, 5, zA 1)), ((f6 1), .inl (cA 1, 5, zA 1)), ((f6 2), .inl (cA 0, 5, zA 0)), ((f6 3), .inl (cA 0, 5, zA 0)), (q7, .inr (3, [.ref (f7 0), .ref (f7 2), .int 0, .int 0, .int 0, .int 5, .int 0, .int 0, .int 0])), ((f7 0), .inr (5, [.int 0, .int 3, .int 0, .int 0, .int 0, .ref (f7 1)])), ((f7 1), .inl (cA 3, 160, zA 3)), ((f7 2), .inr (0, [.int 17, .int 0, .int 0, .int 0, .ref (f7 3), .ref (f7 4), .ref (f7 5), .ref (f7 6)])), ((f7 3), .inl (cA 0, 5, zA 0)), ((f7 4), .inl (cA 0, 5, zA 0)), ((f7 5), .inl (cA 0, 6, zA 0)), ((f7 6), .inl (cA 0, 6, zA 0)), (q8, .inr (6, [.int 0, .ref (f8 0), .ref (f8 1), .int 0, .int 0, .int 0, .int 0])), ((f8 0), .inl (cA 0, 4, zA 0)), ((f8 1), .inl (cA 0, 32, zA 0)), (q9, .inr (1, [.int 0, .int (-4), .int (-4)]))] _ _ := hW
  refine lv_aload_n hx hb dX7_init_96 rfl (lv_at hl 0 rfl) ?_
  refine lv_sipush (v := 201) hx hb dX7_init_97 (by decide) ?_
  refine N_newa (t := 0) (n := 201) (ns := 373) (nc := 34) C hW (by decide) wn_1_70 (by decide) rfl rfl rfl rfl dX7_init_100 (fun q10 H hW => ?_)
  refine N_putF 0 C hW hin ffX7_58 rfl rfl rfl (ltb rfl) dX7_init_102 (fun H locs hW => ?_)
  have hW : Wd D A s.heap [(h0, .inr (7, [.ref q1, .ref q2, .ref q3, .ref q4, .ref q5, .ref q6, .ref q7, .ref q8, .ref q9, .ref q10, .null, .int 0])), (q1, .inr (0, [.int 17, .int 0, .int 0, .int 0, .ref (f1 0), .ref (f1 1), .ref (f1 2), .ref (f1 3)])), ((f1 0), .inl (cA 0, 5, zA 0)), ((f1 1), .inl (cA 0, 5, zA 0)), ((f1 2), .inl (cA 0, 6, zA 0)), ((f1 3), .inl (cA 0, 6, zA 0)), (q2, .inr (0, [.int 17, .int 0, .int 0, .int 0, .ref (f2 0), .ref (f2 1), .ref (f2 2), .ref (f2 3)])), ((f2 0), .inl (cA 0, 5, zA 0)), ((f2 1), .inl (cA 0, 5, zA 0)), ((f2 2), .inl (cA 0, 6, zA 0)), ((f2 3), .inl (cA 0, 6, zA 0)), (q3, .inl (cA 4, 2, .inr (.inr (.inr (.inr (fun _ => none)))))), (q4, .inl (cA 2, 2, zA 2)), (q5, .inr (2, [.long 1, .long 0, .ref (f5 0), .ref (f5 1), .ref (f5 2), .ref (f5 3), .int 0, .int 0, .int 0])), ((f5 0), .inl (cA 1, 5, zA 1)), ((f5 1), .inl (cA 1, 5, zA 1)), ((f5 2), .inl (cA 0, 5, zA 0)), ((f5 3), .inl (cA 0, 5, zA 0)), (q6, .inr (2, [.long 1, .long 0, .ref (f6 0), .ref (f6 1), .ref (f6 2), .ref (f6 3), .int 0, .int 0, .int 0])), ((f6 0), .inl (cA 1, 5, zA 1)), ((f6 1), .inl (cA 1, 5, zA 1)), ((f6 2), .inl (cA 0, 5, zA 0)), ((f6 3), .inl (cA 0, 5, zA 0)), (q7, .inr (3, [.ref (f7 0), .ref (f7 2), .int 0, .int 0, .int 0, .int 5, .int 0, .int 0, .int 0])), ((f7 0), .inr (5, [.int 0, .int 3, .int 0, .int 0, .int 0, .ref (f7 1)])), ((f7 1), .inl (cA 3, 160, zA 3)), ((f7 2), .inr (0, [.int 17, .int 0, .int 0, .int 0, .ref (f7 3), .ref (f7 4), .ref (f7 5), .ref (f7 6)])), ((f7 3), .inl (cA 0, 5, zA 0)), ((f7 4), .inl (cA 0, 5, zA 0)), ((f7 5), .inl (cA 0, 6, zA 0)), ((f7 6), .inl (cA 0, 6, zA 0)), (q8, .inr (6, [.int 0, .ref (f8 0), .ref (f8 1), .int 0, .int 0, .int 0, .int 0])), ((f8 0), .inl (cA 0, 4, zA 0)), ((f8 1), .inl (cA 0, 32, zA 0)), (q9, .inr (1, [.int 0, .int (-4), .int (-4)])), (q10, .inl (cA 0, 201, zA 0))] _ _ := hW
  refine lv_aload_n hx hb dX7_init_105 rfl (lv_at hl 0 rfl) ?_
  refine lv_iconst (v := 4) hx hb dX7_init_106 (by decide) ?_
  refine N_newq (t := 5) (n := 4) (ns := 574) (nc := 35) C hW (by decide) wn_1_228 (by decide) rfl rfl rfl rfl dX7_init_107 (fun q11 H hW => ?_)
  refine N_putF 0 C hW hin ffX7_64 rfl rfl rfl (ltb rfl) dX7_init_110 (fun H locs hW => ?_)
  have hW : Wd D A s.heap [(h0, .inr (7, [.ref q1, .ref q2, .ref q3, .ref q4, .ref q5, .ref q6, .ref q7, .ref q8, .ref q9, .ref q10, .ref q11, .int 0])), (q1, .inr (0, [.int 17, .int 0, .int 0, .int 0, .ref (f1 0), .ref (f1 1), .ref (f1 2), .ref (f1 3)])), ((f1 0), .inl (cA 0, 5, zA 0)), ((f1 1), .inl (cA 0, 5, zA 0)), ((f1 2), .inl (cA 0, 6, zA 0)), ((f1 3), .inl (cA 0, 6, zA 0)), (q2, .inr (0, [.int 17, .int 0, .int 0, .int 0, .ref (f2 0), .ref (f2 1), .ref (f2 2), .ref (f2 3)])), ((f2 0), .inl (cA 0, 5, zA 0)), ((f2 1), .inl (cA 0, 5, zA 0)), ((f2 2), .inl (cA 0, 6, zA 0)), ((f2 3), .inl (cA 0, 6, zA 0)), (q3, .inl (cA 4, 2, .inr (.inr (.inr (.inr (fun _ => none)))))), (q4, .inl (cA 2, 2, zA 2)), (q5, .inr (2, [.long 1, .long 0, .ref (f5 0), .ref (f5 1), .ref (f5 2), .ref (f5 3), .int 0, .int 0, .int 0])), ((f5 0), .inl (cA 1, 5, zA 1)), ((f5 1), .inl (cA 1, 5, zA 1)), ((f5 2), .inl (cA 0, 5, zA 0)), ((f5 3), .inl (cA 0, 5, zA 0)), (q6, .inr (2, [.long 1, .long 0, .ref (f6 0), .ref (f6 1), .ref (f6 2), .ref (f6 3), .int 0, .int 0, .int 0])), ((f6 0), .inl (cA 1, 5, zA 1)), ((f6 1), .inl (cA 1, 5, zA 1)), ((f6 2), .inl (cA 0, 5, zA 0)), ((f6 3), .inl (cA 0, 5, zA 0)), (q7, .inr (3, [.ref (f7 0), .ref (f7 2), .int 0, .int 0, .int 0, .int 5, .int 0, .int 0, .int 0])), ((f7 0), .inr (5, [.int 0, .int 3, .int 0, .int 0, .int 0, .ref (f7 1)])), ((f7 1), .inl (cA 3, 160, zA 3)), ((f7 2), .inr (0, [.int 17, .int 0, .int 0, .int 0, .ref (f7 3), .ref (f7 4), .ref (f7 5), .ref (f7 6)])), ((f7 3), .inl (cA 0, 5, zA 0)), ((f7 4), .inl (cA 0, 5, zA 0)), ((f7 5), .inl (cA 0, 6, zA 0)), ((f7 6), .inl (cA 0, 6, zA 0)), (q8, .inr (6, [.int 0, .ref (f8 0), .ref (f8 1), .int 0, .int 0, .int 0, .int 0])), ((f8 0), .inl (cA 0, 4, zA 0)), ((f8 1), .inl (cA 0, 32, zA 0)), (q9, .inr (1, [.int 0, .int (-4), .int (-4)])), (q10, .inl (cA 0, 201, zA 0)), (q11, .inl (cA 5, 4, .inr (.inr (.inr (.inr (fun _ => none))))))] _ _ := hW
  refine lv_aload_n hx hb dX7_init_113 rfl (lv_at hl 0 rfl) ?_
  refine lv_iconst (v := 0) hx hb dX7_init_114 (by decide) ?_
  refine N_put 0 C hW fqX7_68 rfl rfl rfl (ltb rfl) dX7_init_115 (fun H locs hW => ?_)
  have hW : Wd D A s.heap [(h0, .inr (7, [.ref q1, .ref q2, .ref q3, .ref q4, .ref q5, .ref q6, .ref q7, .ref q8, .ref q9, .ref q10, .ref q11, .int 0])), (q1, .inr (0, [.int 17, .int 0, .int 0, .int 0, .ref (f1 0), .ref (f1 1), .ref (f1 2), .ref (f1 3)])), ((f1 0), .inl (cA 0, 5, zA 0)), ((f1 1), .inl (cA 0, 5, zA 0)), ((f1 2), .inl (cA 0, 6, zA 0)), ((f1 3), .inl (cA 0, 6, zA 0)), (q2, .inr (0, [.int 17, .int 0, .int 0, .int 0, .ref (f2 0), .ref (f2 1), .ref (f2 2), .ref (f2 3)])), ((f2 0), .inl (cA 0, 5, zA 0)), ((f2 1), .inl (cA 0, 5, zA 0)), ((f2 2), .inl (cA 0, 6, zA 0)), ((f2 3), .inl (cA 0, 6, zA 0)), (q3, .inl (cA 4, 2, .inr (.inr (.inr (.inr (fun _ => none)))))), (q4, .inl (cA 2, 2, zA 2)), (q5, .inr (2, [.long 1, .long 0, .ref (f5 0), .ref (f5 1), .ref (f5 2), .ref (f5 3), .int 0, .int 0, .int 0])), ((f5 0), .inl (cA 1, 5, zA 1)), ((f5 1), .inl (cA 1, 5, zA 1)), ((f5 2), .inl (cA 0, 5, zA 0)), ((f5 3), .inl (cA 0, 5, zA 0)), (q6, .inr (2, [.long 1, .long 0, .ref (f6 0), .ref (f6 1), .ref (f6 2), .ref (f6 3), .int 0, .int 0, .int 0])), ((f6 0), .inl (cA 1, 5, zA 1)), ((f6 1), .inl (cA 1, 5, zA 1)), ((f6 2), .inl (cA 0, 5, zA 0)), ((f6 3), .inl (cA 0, 5, zA 0)), (q7, .inr (3, [.ref (f7 0), .ref (f7 2), .int 0, .int 0, .int 0, .int 5, .int 0, .int 0, .int 0])), ((f7 0), .inr (5, [.int 0, .int 3, .int 0, .int 0, .int 0, .ref (f7 1)])), ((f7 1), .inl (cA 3, 160, zA 3)), ((f7 2), .inr (0, [.int 17, .int 0, .int 0, .int 0, .ref (f7 3), .ref (f7 4), .ref (f7 5), .ref (f7 6)])), ((f7 3), .inl (cA 0, 5, zA 0)), ((f7 4), .inl (cA 0, 5, zA 0)), ((f7 5), .inl (cA 0, 6, zA 0)), ((f7 6), .inl (cA 0, 6, zA 0)), (q8, .inr (6, [.int 0, .ref (f8 0), .ref (f8 1), .int 0, .int 0, .int 0, .int 0])), ((f8 0), .inl (cA 0, 4, zA 0)), ((f8 1), .inl (cA 0, 32, zA 0)), (q9, .inr (1, [.int 0, .int (-4), .int (-4)])), (q10, .inl (cA 0, 201, zA 0)), (q11, .inl (cA 5, 4, .inr (.inr (.inr (.inr (fun _ => none))))))] _ _ := hW
  refine lv_iconst (v := 0) hx hb dX7_init_118 (by decide) ?_
  refine lv_istore_n (lv' := [(1, .int 0), (0, .ref h0)]) hx hb dX7_init_119 rfl hl (by decide) rfl (fun lr hl => ?_)
  refine lv_iload_n hx hb dX7_init_120 rfl (lv_at hl 0 rfl) ?_
  refine lv_iconst (v := 2) hx hb dX7_init_121 (by decide) ?_
  refine lv_icmp_ge (tgt := 144) hx hb dX7_init_122 (by decide) (fun hc => ?_) (fun hc => ?_)
  exact absurd hc (by decide)
  refine lv_aload_n hx hb dX7_init_125 rfl (lv_at hl 1 rfl) ?_
  refine N_get 0 C hW fgX7_19 rfl rfl dX7_init_126 ?_
  refine lv_iload_n hx hb dX7_init_129 rfl (lv_at hl 0 rfl) ?_
  refine N_new (ns := 578) (nc := 36) C hW cnX7_7 rfl rfl dX7_init_130 (fun q12 H hW => ?_)
  refine lv_dup hx hb dX7_init_133 rfl ?_
  refine N_init (ns := 586) (nc := 37) mkX0 C hW wn_1_28 rfl wn_1_2 (by decide +kernel) (by decide) wn_1_27 rfl (Or.inr ⟨_, List.mem_of_getElem? (i := 0) rfl⟩) rfl rfl rfl hl.1 (leb rfl) dX7_init_134 (fun f12 H locs _ hW => ?_)
  have hW : Wd D A s.heap [(h0, .inr (7, [.ref q1, .ref q2, .ref q3, .ref q4, .ref q5, .ref q6, .ref q7, .ref q8, .ref q9, .ref q10, .ref q11, .int 0])), (q1, .inr (0, [.int 17, .int 0, .int 0, .int 0, .ref (f1 0), .ref (f1 1), .ref (f1 2), .ref (f1 3)])), ((f1 0), .inl (cA 0, 5, zA 0)), ((f1 1), .inl (cA 0, 5, zA 0)), ((f1 2), .inl (cA 0, 6, zA 0)), ((f1 3), .inl (cA 0, 6, zA 0)), (q2, .inr (0, [.int 17, .int 0, .int 0, .int 0, .ref (f2 0), .ref (f2 1), .ref (f2 2), .ref (f2 3)])), ((f2 0), .inl (cA 0, 5, zA 0)), ((f2 1), .inl (cA 0, 5, zA 0)), ((f2 2), .inl (cA 0, 6, zA 0)), ((f2 3), .inl (cA 0, 6, zA 0)), (q3, .inl (cA 4, 2, .inr (.inr (.inr (.inr (fun _ => none)))))), (q4, .inl (cA 2, 2, zA 2)), (q5, .inr (2, [.long 1, .long 0, .ref (f5 0), .ref (f5 1), .ref (f5 2), .ref (f5 3), .int 0, .int 0, .int 0])), ((f5 0), .inl (cA 1, 5, zA 1)), ((f5 1), .inl (cA 1, 5, zA 1)), ((f5 2), .inl (cA 0, 5, zA 0)), ((f5 3), .inl (cA 0, 5, zA 0)), (q6, .inr (2, [.long 1, .long 0, .ref (f6 0), .ref (f6 1), .ref (f6 2), .ref (f6 3), .int 0, .int 0, .int 0])), ((f6 0), .inl (cA 1, 5, zA 1)), ((f6 1), .inl (cA 1, 5, zA 1)), ((f6 2), .inl (cA 0, 5, zA 0)), ((f6 3), .inl (cA 0, 5, zA 0)), (q7, .inr (3, [.ref (f7 0), .ref (f7 2), .int 0, .int 0, .int 0, .int 5, .int 0, .int 0, .int 0])), ((f7 0), .inr (5, [.int 0, .int 3, .int 0, .int 0, .int 0, .ref (f7 1)])), ((f7 1), .inl (cA 3, 160, zA 3)), ((f7 2), .inr (0, [.int 17, .int 0, .int 0, .int 0, .ref (f7 3), .ref (f7 4), .ref (f7 5), .ref (f7 6)])), ((f7 3), .inl (cA 0, 5, zA 0)), ((f7 4), .inl (cA 0, 5, zA 0)), ((f7 5), .inl (cA 0, 6, zA 0)), ((f7 6), .inl (cA 0, 6, zA 0)), (q8, .inr (6, [.int 0, .ref (f8 0), .ref (f8 1), .int 0, .int 0, .int 0, .int 0])), ((f8 0), .inl (cA 0, 4, zA 0)), ((f8 1), .inl (cA 0, 32, zA 0)), (q9, .inr (1, [.int 0, .int (-4), .int (-4)])), (q10, .inl (cA 0, 201, zA 0)), (q11, .inl (cA 5, 4, .inr (.inr (.inr (.inr (fun _ => none)))))), (q12, .inr (0, [.int 17, .int 0, .int 0, .int 0, .ref (f12 0), .ref (f12 1), .ref (f12 2), .ref (f12 3)])), ((f12 0), .inl (cA 0, 5, zA 0)), ((f12 1), .inl (cA 0, 5, zA 0)), ((f12 2), .inl (cA 0, 6, zA 0)), ((f12 3), .inl (cA 0, 6, zA 0))] _ _ := hW
  refine N_astq (t := 4) (ci := 0) (qk := 37) 11 C hW (by decide) rfl rfl (show ¬ (_ ∨ _) by decide) dX7_init_137 (fun H locs hW => ?_)
  have hW : Wd D A s.heap [(h0, .inr (7, [.ref q1, .ref q2, .ref q3, .ref q4, .ref q5, .ref q6, .ref q7, .ref q8, .ref q9, .ref q10, .ref q11, .int 0])), (q1, .inr (0, [.int 17, .int 0, .int 0, .int 0, .ref (f1 0), .ref (f1 1), .ref (f1 2), .ref (f1 3)])), ((f1 0), .inl (cA 0, 5, zA 0)), ((f1 1), .inl (cA 0, 5, zA 0)), ((f1 2), .inl (cA 0, 6, zA 0)), ((f1 3), .inl (cA 0, 6, zA 0)), (q2, .inr (0, [.int 17, .int 0, .int 0, .int 0, .ref (f2 0), .ref (f2 1), .ref (f2 2), .ref (f2 3)])), ((f2 0), .inl (cA 0, 5, zA 0)), ((f2 1), .inl (cA 0, 5, zA 0)), ((f2 2), .inl (cA 0, 6, zA 0)), ((f2 3), .inl (cA 0, 6, zA 0)), (q3, .inl (cA 4, 2, .inr (.inr (.inr (.inr (va_up (fun _ => none) 0 (some q12))))))), (q4, .inl (cA 2, 2, zA 2)), (q5, .inr (2, [.long 1, .long 0, .ref (f5 0), .ref (f5 1), .ref (f5 2), .ref (f5 3), .int 0, .int 0, .int 0])), ((f5 0), .inl (cA 1, 5, zA 1)), ((f5 1), .inl (cA 1, 5, zA 1)), ((f5 2), .inl (cA 0, 5, zA 0)), ((f5 3), .inl (cA 0, 5, zA 0)), (q6, .inr (2, [.long 1, .long 0, .ref (f6 0), .ref (f6 1), .ref (f6 2), .ref (f6 3), .int 0, .int 0, .int 0])), ((f6 0), .inl (cA 1, 5, zA 1)), ((f6 1), .inl (cA 1, 5, zA 1)), ((f6 2), .inl (cA 0, 5, zA 0)), ((f6 3), .inl (cA 0, 5, zA 0)), (q7, .inr (3, [.ref (f7 0), .ref (f7 2), .int 0, .int 0, .int 0, .int 5, .int 0, .int 0, .int 0])), ((f7 0), .inr (5, [.int 0, .int 3, .int 0, .int 0, .int 0, .ref (f7 1)])), ((f7 1), .inl (cA 3, 160, zA 3)), ((f7 2), .inr (0, [.int 17, .int 0, .int 0, .int 0, .ref (f7 3), .ref (f7 4), .ref (f7 5), .ref (f7 6)])), ((f7 3), .inl (cA 0, 5, zA 0)), ((f7 4), .inl (cA 0, 5, zA 0)), ((f7 5), .inl (cA 0, 6, zA 0)), ((f7 6), .inl (cA 0, 6, zA 0)), (q8, .inr (6, [.int 0, .ref (f8 0), .ref (f8 1), .int 0, .int 0, .int 0, .int 0])), ((f8 0), .inl (cA 0, 4, zA 0)), ((f8 1), .inl (cA 0, 32, zA 0)), (q9, .inr (1, [.int 0, .int (-4), .int (-4)])), (q10, .inl (cA 0, 201, zA 0)), (q11, .inl (cA 5, 4, .inr (.inr (.inr (.inr (fun _ => none)))))), (q12, .inr (0, [.int 17, .int 0, .int 0, .int 0, .ref (f12 0), .ref (f12 1), .ref (f12 2), .ref (f12 3)])), ((f12 0), .inl (cA 0, 5, zA 0)), ((f12 1), .inl (cA 0, 5, zA 0)), ((f12 2), .inl (cA 0, 6, zA 0)), ((f12 3), .inl (cA 0, 6, zA 0))] _ _ := hW
  refine lv_iinc (v := 1) (lv' := [(1, .int 1), (0, .ref h0)]) hx hb dX7_init_138 hl (k := 0) rfl (by decide) (by decide) rfl (fun lr hl => ?_)
  refine lv_goto (tgt := 120) hx hb dX7_init_141 (by decide) ?_
  refine lv_iload_n hx hb dX7_init_120 rfl (lv_at hl 0 rfl) ?_
  refine lv_iconst (v := 2) hx hb dX7_init_121 (by decide) ?_
  refine lv_icmp_ge (tgt := 144) hx hb dX7_init_122 (by decide) (fun hc => ?_) (fun hc => ?_)
  exact absurd hc (by decide)
  refine lv_aload_n hx hb dX7_init_125 rfl (lv_at hl 1 rfl) ?_
  refine N_get 0 C hW fgX7_19 rfl rfl dX7_init_126 ?_
  refine lv_iload_n hx hb dX7_init_129 rfl (lv_at hl 0 rfl) ?_
  refine N_new (ns := 608) (nc := 41) C hW cnX7_7 rfl rfl dX7_init_130 (fun q13 H hW => ?_)
  refine lv_dup hx hb dX7_init_133 rfl ?_
  refine N_init (ns := 616) (nc := 42) mkX0 C hW wn_1_28 rfl wn_1_2 (by decide +kernel) (by decide) wn_1_27 rfl (Or.inr ⟨_, List.mem_of_getElem? (i := 0) rfl⟩) rfl rfl rfl hl.1 (leb rfl) dX7_init_134 (fun f13 H locs _ hW => ?_)
  have hW : Wd D A s.heap [(h0, .inr (7, [.ref q1, .ref q2, .ref q3, .ref q4, .ref q5, .ref q6, .ref q7, .ref q8, .ref q9, .ref q10, .ref q11, .int 0])), (q1, .inr (0, [.int 17, .int 0, .int 0, .int 0, .ref (f1 0), .ref (f1 1), .ref (f1 2), .ref (f1 3)])), ((f1 0), .inl (cA 0, 5, zA 0)), ((f1 1), .inl (cA 0, 5, zA 0)), ((f1 2), .inl (cA 0, 6, zA 0)), ((f1 3), .inl (cA 0, 6, zA 0)), (q2, .inr (0, [.int 17, .int 0, .int 0, .int 0, .ref (f2 0), .ref (f2 1), .ref (f2 2), .ref (f2 3)])), ((f2 0), .inl (cA 0, 5, zA 0)), ((f2 1), .inl (cA 0, 5, zA 0)), ((f2 2), .inl (cA 0, 6, zA 0)), ((f2 3), .inl (cA 0, 6, zA 0)), (q3, .inl (cA 4, 2, .inr (.inr (.inr (.inr (va_up (fun _ => none) 0 (some q12))))))), (q4, .inl (cA 2, 2, zA 2)), (q5, .inr (2, [.long 1, .long 0, .ref (f5 0), .ref (f5 1), .ref (f5 2), .ref (f5 3), .int 0, .int 0, .int 0])), ((f5 0), .inl (cA 1, 5, zA 1)), ((f5 1), .inl (cA 1, 5, zA 1)), ((f5 2), .inl (cA 0, 5, zA 0)), ((f5 3), .inl (cA 0, 5, zA 0)), (q6, .inr (2, [.long 1, .long 0, .ref (f6 0), .ref (f6 1), .ref (f6 2), .ref (f6 3), .int 0, .int 0, .int 0])), ((f6 0), .inl (cA 1, 5, zA 1)), ((f6 1), .inl (cA 1, 5, zA 1)), ((f6 2), .inl (cA 0, 5, zA 0)), ((f6 3), .inl (cA 0, 5, zA 0)), (q7, .inr (3, [.ref (f7 0), .ref (f7 2), .int 0, .int 0, .int 0, .int 5, .int 0, .int 0, .int 0])), ((f7 0), .inr (5, [.int 0, .int 3, .int 0, .int 0, .int 0, .ref (f7 1)])), ((f7 1), .inl (cA 3, 160, zA 3)), ((f7 2), .inr (0, [.int 17, .int 0, .int 0, .int 0, .ref (f7 3), .ref (f7 4), .ref (f7 5), .ref (f7 6)])), ((f7 3), .inl (cA 0, 5, zA 0)), ((f7 4), .inl (cA 0, 5, zA 0)), ((f7 5), .inl (cA 0, 6, zA 0)), ((f7 6), .inl (cA 0, 6, zA 0)), (q8, .inr (6, [.int 0, .ref (f8 0), .ref (f8 1), .int 0, .int 0, .int 0, .int 0])), ((f8 0), .inl (cA 0, 4, zA 0)), ((f8 1), .inl (cA 0, 32, zA 0)), (q9, .inr (1, [.int 0, .int (-4), .int (-4)])), (q10, .inl (cA 0, 201, zA 0)), (q11, .inl (cA 5, 4, .inr (.inr (.inr (.inr (fun _ => none)))))), (q12, .inr (0, [.int 17, .int 0, .int 0, .int 0, .ref (f12 0), .ref (f12 1), .ref (f12 2), .ref (f12 3)])), ((f12 0), .inl (cA 0, 5, zA 0)), ((f12 1), .inl (cA 0, 5, zA 0)), ((f12 2), .inl (cA 0, 6, zA 0)), ((f12 3), .inl (cA 0, 6, zA 0)), (q13, .inr (0, [.int 17, .int 0, .int 0, .int 0, .ref (f13 0), .ref (f13 1), .ref (f13 2), .ref (f13 3)])), ((f13 0), .inl (cA 0, 5, zA 0)), ((f13 1), .inl (cA 0, 5, zA 0)), ((f13 2), .inl (cA 0, 6, zA 0)), ((f13 3), .inl (cA 0, 6, zA 0))] _ _ := hW
  refine N_astq (t := 4) (ci := 0) (qk := 42) 11 C hW (by decide) rfl rfl (show ¬ (_ ∨ _) by decide) dX7_init_137 (fun H locs hW => ?_)
  have hW : Wd D A s.heap [(h0, .inr (7, [.ref q1, .ref q2, .ref q3, .ref q4, .ref q5, .ref q6, .ref q7, .ref q8, .ref q9, .ref q10, .ref q11, .int 0])), (q1, .inr (0, [.int 17, .int 0, .int 0, .int 0, .ref (f1 0), .ref (f1 1), .ref (f1 2), .ref (f1 3)])), ((f1 0), .inl (cA 0, 5, zA 0)), ((f1 1), .inl (cA 0, 5, zA 0)), ((f1 2), .inl (cA 0, 6, zA 0)), ((f1 3), .inl (cA 0, 6, zA 0)), (q2, .inr (0, [.int 17, .int 0, .int 0, .int 0, .ref (f2 0), .ref (f2 1), .ref (f2 2), .ref (f2 3)])), ((f2 0), .inl (cA 0, 5, zA 0)), ((f2 1), .inl (cA 0, 5, zA 0)), ((f2 2), .inl (cA 0, 6, zA 0)), ((f2 3), .inl (cA 0, 6, zA 0)), (q3, .inl (cA 4, 2, .inr (.inr (.inr (.inr (va_up (va_up (fun _ => none) 0 (some q12)) 1 (some q13))))))), (q4, .inl (cA 2, 2, zA 2)), (q5, .inr (2, [.long 1, .long 0, .ref (f5 0), .ref (f5 1), .ref (f5 2), .ref (f5 3), .int 0, .int 0, .int 0])), ((f5 0), .inl (cA 1, 5, zA 1)), ((f5 1), .inl (cA 1, 5, zA 1)), ((f5 2), .inl (cA 0, 5, zA 0)), ((f5 3), .inl (cA 0, 5, zA 0)), (q6, .inr (2, [.long 1, .long 0, .ref (f6 0), .ref (f6 1), .ref (f6 2), .ref (f6 3), .int 0, .int 0, .int 0])), ((f6 0), .inl (cA 1, 5, zA 1)), ((f6 1), .inl (cA 1, 5, zA 1)), ((f6 2), .inl (cA 0, 5, zA 0)), ((f6 3), .inl (cA 0, 5, zA 0)), (q7, .inr (3, [.ref (f7 0), .ref (f7 2), .int 0, .int 0, .int 0, .int 5, .int 0, .int 0, .int 0])), ((f7 0), .inr (5, [.int 0, .int 3, .int 0, .int 0, .int 0, .ref (f7 1)])), ((f7 1), .inl (cA 3, 160, zA 3)), ((f7 2), .inr (0, [.int 17, .int 0, .int 0, .int 0, .ref (f7 3), .ref (f7 4), .ref (f7 5), .ref (f7 6)])), ((f7 3), .inl (cA 0, 5, zA 0)), ((f7 4), .inl (cA 0, 5, zA 0)), ((f7 5), .inl (cA 0, 6, zA 0)), ((f7 6), .inl (cA 0, 6, zA 0)), (q8, .inr (6, [.int 0, .ref (f8 0), .ref (f8 1), .int 0, .int 0, .int 0, .int 0])), ((f8 0), .inl (cA 0, 4, zA 0)), ((f8 1), .inl (cA 0, 32, zA 0)), (q9, .inr (1, [.int 0, .int (-4), .int (-4)])), (q10, .inl (cA 0, 201, zA 0)), (q11, .inl (cA 5, 4, .inr (.inr (.inr (.inr (fun _ => none)))))), (q12, .inr (0, [.int 17, .int 0, .int 0, .int 0, .ref (f12 0), .ref (f12 1), .ref (f12 2), .ref (f12 3)])), ((f12 0), .inl (cA 0, 5, zA 0)), ((f12 1), .inl (cA 0, 5, zA 0)), ((f12 2), .inl (cA 0, 6, zA 0)), ((f12 3), .inl (cA 0, 6, zA 0)), (q13, .inr (0, [.int 17, .int 0, .int 0, .int 0, .ref (f13 0), .ref (f13 1), .ref (f13 2), .ref (f13 3)])), ((f13 0), .inl (cA 0, 5, zA 0)), ((f13 1), .inl (cA 0, 5, zA 0)), ((f13 2), .inl (cA 0, 6, zA 0)), ((f13 3), .inl (cA 0, 6, zA 0))] _ _ := hW
  refine lv_iinc (v := 2) (lv' := [(1, .int 2), (0, .ref h0)]) hx hb dX7_init_138 hl (k := 0) rfl (by decide) (by decide) rfl (fun lr hl => ?_)
  refine lv_goto (tgt := 120) hx hb dX7_init_141 (by decide) ?_
  refine lv_iload_n hx hb dX7_init_120 rfl (lv_at hl 0 rfl) ?_
  refine lv_iconst (v := 2) hx hb dX7_init_121 (by decide) ?_
  refine lv_icmp_ge (tgt := 144) hx hb dX7_init_122 (by decide) (fun hc => ?_) (fun hc => ?_)
  rotate_left
  exact absurd (by decide) hc
  refine lv_iconst (v := 0) hx hb dX7_init_144 (by decide) ?_
  refine lv_istore_n (lv' := [(1, .int 0), (0, .ref h0)]) hx hb dX7_init_145 rfl hl (by decide) rfl (fun lr hl => ?_)
  refine lv_iload_n hx hb dX7_init_146 rfl (lv_at hl 0 rfl) ?_
  refine lv_iconst (v := 4) hx hb dX7_init_147 (by decide) ?_
  refine lv_icmp_ge (tgt := 170) hx hb dX7_init_148 (by decide) (fun hc => ?_) (fun hc => ?_)
  exact absurd hc (by decide)
  refine lv_aload_n hx hb dX7_init_151 rfl (lv_at hl 1 rfl) ?_
  refine N_get 0 C hW fgX7_64 rfl rfl dX7_init_152 ?_
  refine lv_iload_n hx hb dX7_init_155 rfl (lv_at hl 0 rfl) ?_
  refine N_new (ns := 638) (nc := 46) C hW cnX7_62 rfl rfl dX7_init_156 (fun q14 H hW => ?_)
  refine lv_dup hx hb dX7_init_159 rfl ?_
  refine N_init (ns := 641) (nc := 47) mkX4 C hW wn_1_233 rfl wn_1_8 (by decide +kernel) (by decide) wn_1_232 rfl (Or.inr ⟨_, List.mem_of_getElem? (i := 7) rfl⟩) rfl rfl rfl hl.1 (leb rfl) dX7_init_160 (fun f14 H locs _ hW => ?_)
  have hW : Wd D A s.heap [(h0, .inr (7, [.ref q1, .ref q2, .ref q3, .ref q4, .ref q5, .ref q6, .ref q7, .ref q8, .ref q9, .ref q10, .ref q11, .int 0])), (q1, .inr (0, [.int 17, .int 0, .int 0, .int 0, .ref (f1 0), .ref (f1 1), .ref (f1 2), .ref (f1 3)])), ((f1 0), .inl (cA 0, 5, zA 0)), ((f1 1), .inl (cA 0, 5, zA 0)), ((f1 2), .inl (cA 0, 6, zA 0)), ((f1 3), .inl (cA 0, 6, zA 0)), (q2, .inr (0, [.int 17, .int 0, .int 0, .int 0, .ref (f2 0), .ref (f2 1), .ref (f2 2), .ref (f2 3)])), ((f2 0), .inl (cA 0, 5, zA 0)), ((f2 1), .inl (cA 0, 5, zA 0)), ((f2 2), .inl (cA 0, 6, zA 0)), ((f2 3), .inl (cA 0, 6, zA 0)), (q3, .inl (cA 4, 2, .inr (.inr (.inr (.inr (va_up (va_up (fun _ => none) 0 (some q12)) 1 (some q13))))))), (q4, .inl (cA 2, 2, zA 2)), (q5, .inr (2, [.long 1, .long 0, .ref (f5 0), .ref (f5 1), .ref (f5 2), .ref (f5 3), .int 0, .int 0, .int 0])), ((f5 0), .inl (cA 1, 5, zA 1)), ((f5 1), .inl (cA 1, 5, zA 1)), ((f5 2), .inl (cA 0, 5, zA 0)), ((f5 3), .inl (cA 0, 5, zA 0)), (q6, .inr (2, [.long 1, .long 0, .ref (f6 0), .ref (f6 1), .ref (f6 2), .ref (f6 3), .int 0, .int 0, .int 0])), ((f6 0), .inl (cA 1, 5, zA 1)), ((f6 1), .inl (cA 1, 5, zA 1)), ((f6 2), .inl (cA 0, 5, zA 0)), ((f6 3), .inl (cA 0, 5, zA 0)), (q7, .inr (3, [.ref (f7 0), .ref (f7 2), .int 0, .int 0, .int 0, .int 5, .int 0, .int 0, .int 0])), ((f7 0), .inr (5, [.int 0, .int 3, .int 0, .int 0, .int 0, .ref (f7 1)])), ((f7 1), .inl (cA 3, 160, zA 3)), ((f7 2), .inr (0, [.int 17, .int 0, .int 0, .int 0, .ref (f7 3), .ref (f7 4), .ref (f7 5), .ref (f7 6)])), ((f7 3), .inl (cA 0, 5, zA 0)), ((f7 4), .inl (cA 0, 5, zA 0)), ((f7 5), .inl (cA 0, 6, zA 0)), ((f7 6), .inl (cA 0, 6, zA 0)), (q8, .inr (6, [.int 0, .ref (f8 0), .ref (f8 1), .int 0, .int 0, .int 0, .int 0])), ((f8 0), .inl (cA 0, 4, zA 0)), ((f8 1), .inl (cA 0, 32, zA 0)), (q9, .inr (1, [.int 0, .int (-4), .int (-4)])), (q10, .inl (cA 0, 201, zA 0)), (q11, .inl (cA 5, 4, .inr (.inr (.inr (.inr (fun _ => none)))))), (q12, .inr (0, [.int 17, .int 0, .int 0, .int 0, .ref (f12 0), .ref (f12 1), .ref (f12 2), .ref (f12 3)])), ((f12 0), .inl (cA 0, 5, zA 0)), ((f12 1), .inl (cA 0, 5, zA 0)), ((f12 2), .inl (cA 0, 6, zA 0)), ((f12 3), .inl (cA 0, 6, zA 0)), (q13, .inr (0, [.int 17, .int 0, .int 0, .int 0, .ref (f13 0), .ref (f13 1), .ref (f13 2), .ref (f13 3)])), ((f13 0), .inl (cA 0, 5, zA 0)), ((f13 1), .inl (cA 0, 5, zA 0)), ((f13 2), .inl (cA 0, 6, zA 0)), ((f13 3), .inl (cA 0, 6, zA 0)), (q14, .inr (4, [.int (-1), .int 0, .ref (f14 0)])), ((f14 0), .inl (cA 0, 40, zA 0))] _ _ := hW
  refine N_astq (t := 5) (ci := 4) (qk := 47) 36 C hW (by decide) rfl rfl (show ¬ (_ ∨ _) by decide) dX7_init_163 (fun H locs hW => ?_)
  have hW : Wd D A s.heap [(h0, .inr (7, [.ref q1, .ref q2, .ref q3, .ref q4, .ref q5, .ref q6, .ref q7, .ref q8, .ref q9, .ref q10, .ref q11, .int 0])), (q1, .inr (0, [.int 17, .int 0, .int 0, .int 0, .ref (f1 0), .ref (f1 1), .ref (f1 2), .ref (f1 3)])), ((f1 0), .inl (cA 0, 5, zA 0)), ((f1 1), .inl (cA 0, 5, zA 0)), ((f1 2), .inl (cA 0, 6, zA 0)), ((f1 3), .inl (cA 0, 6, zA 0)), (q2, .inr (0, [.int 17, .int 0, .int 0, .int 0, .ref (f2 0), .ref (f2 1), .ref (f2 2), .ref (f2 3)])), ((f2 0), .inl (cA 0, 5, zA 0)), ((f2 1), .inl (cA 0, 5, zA 0)), ((f2 2), .inl (cA 0, 6, zA 0)), ((f2 3), .inl (cA 0, 6, zA 0)), (q3, .inl (cA 4, 2, .inr (.inr (.inr (.inr (va_up (va_up (fun _ => none) 0 (some q12)) 1 (some q13))))))), (q4, .inl (cA 2, 2, zA 2)), (q5, .inr (2, [.long 1, .long 0, .ref (f5 0), .ref (f5 1), .ref (f5 2), .ref (f5 3), .int 0, .int 0, .int 0])), ((f5 0), .inl (cA 1, 5, zA 1)), ((f5 1), .inl (cA 1, 5, zA 1)), ((f5 2), .inl (cA 0, 5, zA 0)), ((f5 3), .inl (cA 0, 5, zA 0)), (q6, .inr (2, [.long 1, .long 0, .ref (f6 0), .ref (f6 1), .ref (f6 2), .ref (f6 3), .int 0, .int 0, .int 0])), ((f6 0), .inl (cA 1, 5, zA 1)), ((f6 1), .inl (cA 1, 5, zA 1)), ((f6 2), .inl (cA 0, 5, zA 0)), ((f6 3), .inl (cA 0, 5, zA 0)), (q7, .inr (3, [.ref (f7 0), .ref (f7 2), .int 0, .int 0, .int 0, .int 5, .int 0, .int 0, .int 0])), ((f7 0), .inr (5, [.int 0, .int 3, .int 0, .int 0, .int 0, .ref (f7 1)])), ((f7 1), .inl (cA 3, 160, zA 3)), ((f7 2), .inr (0, [.int 17, .int 0, .int 0, .int 0, .ref (f7 3), .ref (f7 4), .ref (f7 5), .ref (f7 6)])), ((f7 3), .inl (cA 0, 5, zA 0)), ((f7 4), .inl (cA 0, 5, zA 0)), ((f7 5), .inl (cA 0, 6, zA 0)), ((f7 6), .inl (cA 0, 6, zA 0)), (q8, .inr (6, [.int 0, .ref (f8 0), .ref (f8 1), .int 0, .int 0, .int 0, .int 0])), ((f8 0), .inl (cA 0, 4, zA 0)), ((f8 1), .inl (cA 0, 32, zA 0)), (q9, .inr (1, [.int 0, .int (-4), .int (-4)])), (q10, .inl (cA 0, 201, zA 0)), (q11, .inl (cA 5, 4, .inr (.inr (.inr (.inr (va_up (fun _ => none) 0 (some q14))))))), (q12, .inr (0, [.int 17, .int 0, .int 0, .int 0, .ref (f12 0), .ref (f12 1), .ref (f12 2), .ref (f12 3)])), ((f12 0), .inl (cA 0, 5, zA 0)), ((f12 1), .inl (cA 0, 5, zA 0)), ((f12 2), .inl (cA 0, 6, zA 0)), ((f12 3), .inl (cA 0, 6, zA 0)), (q13, .inr (0, [.int 17, .int 0, .int 0, .int 0, .ref (f13 0), .ref (f13 1), .ref (f13 2), .ref (f13 3)])), ((f13 0), .inl (cA 0, 5, zA 0)), ((f13 1), .inl (cA 0, 5, zA 0)), ((f13 2), .inl (cA 0, 6, zA 0)), ((f13 3), .inl (cA 0, 6, zA 0)), (q14, .inr (4, [.int (-1), .int 0, .ref (f14 0)])), ((f14 0), .inl (cA 0, 40, zA 0))] _ _ := hW
  refine lv_iinc (v := 1) (lv' := [(1, .int 1), (0, .ref h0)]) hx hb dX7_init_164 hl (k := 0) rfl (by decide) (by decide) rfl (fun lr hl => ?_)
  refine lv_goto (tgt := 146) hx hb dX7_init_167 (by decide) ?_
  refine lv_iload_n hx hb dX7_init_146 rfl (lv_at hl 0 rfl) ?_
  refine lv_iconst (v := 4) hx hb dX7_init_147 (by decide) ?_
  refine lv_icmp_ge (tgt := 170) hx hb dX7_init_148 (by decide) (fun hc => ?_) (fun hc => ?_)
  exact absurd hc (by decide)
  refine lv_aload_n hx hb dX7_init_151 rfl (lv_at hl 1 rfl) ?_
  refine N_get 0 C hW fgX7_64 rfl rfl dX7_init_152 ?_
  refine lv_iload_n hx hb dX7_init_155 rfl (lv_at hl 0 rfl) ?_
  refine N_new (ns := 681) (nc := 48) C hW cnX7_62 rfl rfl dX7_init_156 (fun q15 H hW => ?_)
  refine lv_dup hx hb dX7_init_159 rfl ?_
  refine N_init (ns := 684) (nc := 49) mkX4 C hW wn_1_233 rfl wn_1_8 (by decide +kernel) (by decide) wn_1_232 rfl (Or.inr ⟨_, List.mem_of_getElem? (i := 7) rfl⟩) rfl rfl rfl hl.1 (leb rfl) dX7_init_160 (fun f15 H locs _ hW => ?_)
  have hW : Wd D A s.heap [(h0, .inr (7, [.ref q1, .ref q2, .ref q3, .ref q4, .ref q5, .ref q6, .ref q7, .ref q8, .ref q9, .ref q10, .ref q11, .int 0])), (q1, .inr (0, [.int 17, .int 0, .int 0, .int 0, .ref (f1 0), .ref (f1 1), .ref (f1 2), .ref (f1 3)])), ((f1 0), .inl (cA 0, 5, zA 0)), ((f1 1), .inl (cA 0, 5, zA 0)), ((f1 2), .inl (cA 0, 6, zA 0)), ((f1 3), .inl (cA 0, 6, zA 0)), (q2, .inr (0, [.int 17, .int 0, .int 0, .int 0, .ref (f2 0), .ref (f2 1), .ref (f2 2), .ref (f2 3)])), ((f2 0), .inl (cA 0, 5, zA 0)), ((f2 1), .inl (cA 0, 5, zA 0)), ((f2 2), .inl (cA 0, 6, zA 0)), ((f2 3), .inl (cA 0, 6, zA 0)), (q3, .inl (cA 4, 2, .inr (.inr (.inr (.inr (va_up (va_up (fun _ => none) 0 (some q12)) 1 (some q13))))))), (q4, .inl (cA 2, 2, zA 2)), (q5, .inr (2, [.long 1, .long 0, .ref (f5 0), .ref (f5 1), .ref (f5 2), .ref (f5 3), .int 0, .int 0, .int 0])), ((f5 0), .inl (cA 1, 5, zA 1)), ((f5 1), .inl (cA 1, 5, zA 1)), ((f5 2), .inl (cA 0, 5, zA 0)), ((f5 3), .inl (cA 0, 5, zA 0)), (q6, .inr (2, [.long 1, .long 0, .ref (f6 0), .ref (f6 1), .ref (f6 2), .ref (f6 3), .int 0, .int 0, .int 0])), ((f6 0), .inl (cA 1, 5, zA 1)), ((f6 1), .inl (cA 1, 5, zA 1)), ((f6 2), .inl (cA 0, 5, zA 0)), ((f6 3), .inl (cA 0, 5, zA 0)), (q7, .inr (3, [.ref (f7 0), .ref (f7 2), .int 0, .int 0, .int 0, .int 5, .int 0, .int 0, .int 0])), ((f7 0), .inr (5, [.int 0, .int 3, .int 0, .int 0, .int 0, .ref (f7 1)])), ((f7 1), .inl (cA 3, 160, zA 3)), ((f7 2), .inr (0, [.int 17, .int 0, .int 0, .int 0, .ref (f7 3), .ref (f7 4), .ref (f7 5), .ref (f7 6)])), ((f7 3), .inl (cA 0, 5, zA 0)), ((f7 4), .inl (cA 0, 5, zA 0)), ((f7 5), .inl (cA 0, 6, zA 0)), ((f7 6), .inl (cA 0, 6, zA 0)), (q8, .inr (6, [.int 0, .ref (f8 0), .ref (f8 1), .int 0, .int 0, .int 0, .int 0])), ((f8 0), .inl (cA 0, 4, zA 0)), ((f8 1), .inl (cA 0, 32, zA 0)), (q9, .inr (1, [.int 0, .int (-4), .int (-4)])), (q10, .inl (cA 0, 201, zA 0)), (q11, .inl (cA 5, 4, .inr (.inr (.inr (.inr (va_up (fun _ => none) 0 (some q14))))))), (q12, .inr (0, [.int 17, .int 0, .int 0, .int 0, .ref (f12 0), .ref (f12 1), .ref (f12 2), .ref (f12 3)])), ((f12 0), .inl (cA 0, 5, zA 0)), ((f12 1), .inl (cA 0, 5, zA 0)), ((f12 2), .inl (cA 0, 6, zA 0)), ((f12 3), .inl (cA 0, 6, zA 0)), (q13, .inr (0, [.int 17, .int 0, .int 0, .int 0, .ref (f13 0), .ref (f13 1), .ref (f13 2), .ref (f13 3)])), ((f13 0), .inl (cA 0, 5, zA 0)), ((f13 1), .inl (cA 0, 5, zA 0)), ((f13 2), .inl (cA 0, 6, zA 0)), ((f13 3), .inl (cA 0, 6, zA 0)), (q14, .inr (4, [.int (-1), .int 0, .ref (f14 0)])), ((f14 0), .inl (cA 0, 40, zA 0)), (q15, .inr (4, [.int (-1), .int 0, .ref (f15 0)])), ((f15 0), .inl (cA 0, 40, zA 0))] _ _ := hW
  refine N_astq (t := 5) (ci := 4) (qk := 49) 36 C hW (by decide) rfl rfl (show ¬ (_ ∨ _) by decide) dX7_init_163 (fun H locs hW => ?_)
  have hW : Wd D A s.heap [(h0, .inr (7, [.ref q1, .ref q2, .ref q3, .ref q4, .ref q5, .ref q6, .ref q7, .ref q8, .ref q9, .ref q10, .ref q11, .int 0])), (q1, .inr (0, [.int 17, .int 0, .int 0, .int 0, .ref (f1 0), .ref (f1 1), .ref (f1 2), .ref (f1 3)])), ((f1 0), .inl (cA 0, 5, zA 0)), ((f1 1), .inl (cA 0, 5, zA 0)), ((f1 2), .inl (cA 0, 6, zA 0)), ((f1 3), .inl (cA 0, 6, zA 0)), (q2, .inr (0, [.int 17, .int 0, .int 0, .int 0, .ref (f2 0), .ref (f2 1), .ref (f2 2), .ref (f2 3)])), ((f2 0), .inl (cA 0, 5, zA 0)), ((f2 1), .inl (cA 0, 5, zA 0)), ((f2 2), .inl (cA 0, 6, zA 0)), ((f2 3), .inl (cA 0, 6, zA 0)), (q3, .inl (cA 4, 2, .inr (.inr (.inr (.inr (va_up (va_up (fun _ => none) 0 (some q12)) 1 (some q13))))))), (q4, .inl (cA 2, 2, zA 2)), (q5, .inr (2, [.long 1, .long 0, .ref (f5 0), .ref (f5 1), .ref (f5 2), .ref (f5 3), .int 0, .int 0, .int 0])), ((f5 0), .inl (cA 1, 5, zA 1)), ((f5 1), .inl (cA 1, 5, zA 1)), ((f5 2), .inl (cA 0, 5, zA 0)), ((f5 3), .inl (cA 0, 5, zA 0)), (q6, .inr (2, [.long 1, .long 0, .ref (f6 0), .ref (f6 1), .ref (f6 2), .ref (f6 3), .int 0, .int 0, .int 0])), ((f6 0), .inl (cA 1, 5, zA 1)), ((f6 1), .inl (cA 1, 5, zA 1)), ((f6 2), .inl (cA 0, 5, zA 0)), ((f6 3), .inl (cA 0, 5, zA 0)), (q7, .inr (3, [.ref (f7 0), .ref (f7 2), .int 0, .int 0, .int 0, .int 5, .int 0, .int 0, .int 0])), ((f7 0), .inr (5, [.int 0, .int 3, .int 0, .int 0, .int 0, .ref (f7 1)])), ((f7 1), .inl (cA 3, 160, zA 3)), ((f7 2), .inr (0, [.int 17, .int 0, .int 0, .int 0, .ref (f7 3), .ref (f7 4), .ref (f7 5), .ref (f7 6)])), ((f7 3), .inl (cA 0, 5, zA 0)), ((f7 4), .inl (cA 0, 5, zA 0)), ((f7 5), .inl (cA 0, 6, zA 0)), ((f7 6), .inl (cA 0, 6, zA 0)), (q8, .inr (6, [.int 0, .ref (f8 0), .ref (f8 1), .int 0, .int 0, .int 0, .int 0])), ((f8 0), .inl (cA 0, 4, zA 0)), ((f8 1), .inl (cA 0, 32, zA 0)), (q9, .inr (1, [.int 0, .int (-4), .int (-4)])), (q10, .inl (cA 0, 201, zA 0)), (q11, .inl (cA 5, 4, .inr (.inr (.inr (.inr (va_up (va_up (fun _ => none) 0 (some q14)) 1 (some q15))))))), (q12, .inr (0, [.int 17, .int 0, .int 0, .int 0, .ref (f12 0), .ref (f12 1), .ref (f12 2), .ref (f12 3)])), ((f12 0), .inl (cA 0, 5, zA 0)), ((f12 1), .inl (cA 0, 5, zA 0)), ((f12 2), .inl (cA 0, 6, zA 0)), ((f12 3), .inl (cA 0, 6, zA 0)), (q13, .inr (0, [.int 17, .int 0, .int 0, .int 0, .ref (f13 0), .ref (f13 1), .ref (f13 2), .ref (f13 3)])), ((f13 0), .inl (cA 0, 5, zA 0)), ((f13 1), .inl (cA 0, 5, zA 0)), ((f13 2), .inl (cA 0, 6, zA 0)), ((f13 3), .inl (cA 0, 6, zA 0)), (q14, .inr (4, [.int (-1), .int 0, .ref (f14 0)])), ((f14 0), .inl (cA 0, 40, zA 0)), (q15, .inr (4, [.int (-1), .int 0, .ref (f15 0)])), ((f15 0), .inl (cA 0, 40, zA 0))] _ _ := hW
  refine lv_iinc (v := 2) (lv' := [(1, .int 2), (0, .ref h0)]) hx hb dX7_init_164 hl (k := 0) rfl (by decide) (by decide) rfl (fun lr hl => ?_)
  refine lv_goto (tgt := 146) hx hb dX7_init_167 (by decide) ?_
  refine lv_iload_n hx hb dX7_init_146 rfl (lv_at hl 0 rfl) ?_
  refine lv_iconst (v := 4) hx hb dX7_init_147 (by decide) ?_
  refine lv_icmp_ge (tgt := 170) hx hb dX7_init_148 (by decide) (fun hc => ?_) (fun hc => ?_)
  exact absurd hc (by decide)
  refine lv_aload_n hx hb dX7_init_151 rfl (lv_at hl 1 rfl) ?_
  refine N_get 0 C hW fgX7_64 rfl rfl dX7_init_152 ?_
  refine lv_iload_n hx hb dX7_init_155 rfl (lv_at hl 0 rfl) ?_
  refine N_new (ns := 724) (nc := 50) C hW cnX7_62 rfl rfl dX7_init_156 (fun q16 H hW => ?_)
  refine lv_dup hx hb dX7_init_159 rfl ?_
  refine N_init (ns := 727) (nc := 51) mkX4 C hW wn_1_233 rfl wn_1_8 (by decide +kernel) (by decide) wn_1_232 rfl (Or.inr ⟨_, List.mem_of_getElem? (i := 7) rfl⟩) rfl rfl rfl hl.1 (leb rfl) dX7_init_160 (fun f16 H locs _ hW => ?_)
  have hW : Wd D A s.heap [(h0, .inr (7, [.ref q1, .ref q2, .ref q3, .ref q4, .ref q5, .ref q6, .ref q7, .ref q8, .ref q9, .ref q10, .ref q11, .int 0])), (q1, .inr (0, [.int 17, .int 0, .int 0, .int 0, .ref (f1 0), .ref (f1 1), .ref (f1 2), .ref (f1 3)])), ((f1 0), .inl (cA 0, 5, zA 0)), ((f1 1), .inl (cA 0, 5, zA 0)), ((f1 2), .inl (cA 0, 6, zA 0)), ((f1 3), .inl (cA 0, 6, zA 0)), (q2, .inr (0, [.int 17, .int 0, .int 0, .int 0, .ref (f2 0), .ref (f2 1), .ref (f2 2), .ref (f2 3)])), ((f2 0), .inl (cA 0, 5, zA 0)), ((f2 1), .inl (cA 0, 5, zA 0)), ((f2 2), .inl (cA 0, 6, zA 0)), ((f2 3), .inl (cA 0, 6, zA 0)), (q3, .inl (cA 4, 2, .inr (.inr (.inr (.inr (va_up (va_up (fun _ => none) 0 (some q12)) 1 (some q13))))))), (q4, .inl (cA 2, 2, zA 2)), (q5, .inr (2, [.long 1, .long 0, .ref (f5 0), .ref (f5 1), .ref (f5 2), .ref (f5 3), .int 0, .int 0, .int 0])), ((f5 0), .inl (cA 1, 5, zA 1)), ((f5 1), .inl (cA 1, 5, zA 1)), ((f5 2), .inl (cA 0, 5, zA 0)), ((f5 3), .inl (cA 0, 5, zA 0)), (q6, .inr (2, [.long 1, .long 0, .ref (f6 0), .ref (f6 1), .ref (f6 2), .ref (f6 3), .int 0, .int 0, .int 0])), ((f6 0), .inl (cA 1, 5, zA 1)), ((f6 1), .inl (cA 1, 5, zA 1)), ((f6 2), .inl (cA 0, 5, zA 0)), ((f6 3), .inl (cA 0, 5, zA 0)), (q7, .inr (3, [.ref (f7 0), .ref (f7 2), .int 0, .int 0, .int 0, .int 5, .int 0, .int 0, .int 0])), ((f7 0), .inr (5, [.int 0, .int 3, .int 0, .int 0, .int 0, .ref (f7 1)])), ((f7 1), .inl (cA 3, 160, zA 3)), ((f7 2), .inr (0, [.int 17, .int 0, .int 0, .int 0, .ref (f7 3), .ref (f7 4), .ref (f7 5), .ref (f7 6)])), ((f7 3), .inl (cA 0, 5, zA 0)), ((f7 4), .inl (cA 0, 5, zA 0)), ((f7 5), .inl (cA 0, 6, zA 0)), ((f7 6), .inl (cA 0, 6, zA 0)), (q8, .inr (6, [.int 0, .ref (f8 0), .ref (f8 1), .int 0, .int 0, .int 0, .int 0])), ((f8 0), .inl (cA 0, 4, zA 0)), ((f8 1), .inl (cA 0, 32, zA 0)), (q9, .inr (1, [.int 0, .int (-4), .int (-4)])), (q10, .inl (cA 0, 201, zA 0)), (q11, .inl (cA 5, 4, .inr (.inr (.inr (.inr (va_up (va_up (fun _ => none) 0 (some q14)) 1 (some q15))))))), (q12, .inr (0, [.int 17, .int 0, .int 0, .int 0, .ref (f12 0), .ref (f12 1), .ref (f12 2), .ref (f12 3)])), ((f12 0), .inl (cA 0, 5, zA 0)), ((f12 1), .inl (cA 0, 5, zA 0)), ((f12 2), .inl (cA 0, 6, zA 0)), ((f12 3), .inl (cA 0, 6, zA 0)), (q13, .inr (0, [.int 17, .int 0, .int 0, .int 0, .ref (f13 0), .ref (f13 1), .ref (f13 2), .ref (f13 3)])), ((f13 0), .inl (cA 0, 5, zA 0)), ((f13 1), .inl (cA 0, 5, zA 0)), ((f13 2), .inl (cA 0, 6, zA 0)), ((f13 3), .inl (cA 0, 6, zA 0)), (q14, .inr (4, [.int (-1), .int 0, .ref (f14 0)])), ((f14 0), .inl (cA 0, 40, zA 0)), (q15, .inr (4, [.int (-1), .int 0, .ref (f15 0)])), ((f15 0), .inl (cA 0, 40, zA 0)), (q16, .inr (4, [.int (-1), .int 0, .ref (f16 0)])), ((f16 0), .inl (cA 0, 40, zA 0))] _ _ := hW
  refine N_astq (t := 5) (ci := 4) (qk := 51) 36 C hW (by decide) rfl rfl (show ¬ (_ ∨ _) by decide) dX7_init_163 (fun H locs hW => ?_)
  have hW : Wd D A s.heap [(h0, .inr (7, [.ref q1, .ref q2, .ref q3, .ref q4, .ref q5, .ref q6, .ref q7, .ref q8, .ref q9, .ref q10, .ref q11, .int 0])), (q1, .inr (0, [.int 17, .int 0, .int 0, .int 0, .ref (f1 0), .ref (f1 1), .ref (f1 2), .ref (f1 3)])), ((f1 0), .inl (cA 0, 5, zA 0)), ((f1 1), .inl (cA 0, 5, zA 0)), ((f1 2), .inl (cA 0, 6, zA 0)), ((f1 3), .inl (cA 0, 6, zA 0)), (q2, .inr (0, [.int 17, .int 0, .int 0, .int 0, .ref (f2 0), .ref (f2 1), .ref (f2 2), .ref (f2 3)])), ((f2 0), .inl (cA 0, 5, zA 0)), ((f2 1), .inl (cA 0, 5, zA 0)), ((f2 2), .inl (cA 0, 6, zA 0)), ((f2 3), .inl (cA 0, 6, zA 0)), (q3, .inl (cA 4, 2, .inr (.inr (.inr (.inr (va_up (va_up (fun _ => none) 0 (some q12)) 1 (some q13))))))), (q4, .inl (cA 2, 2, zA 2)), (q5, .inr (2, [.long 1, .long 0, .ref (f5 0), .ref (f5 1), .ref (f5 2), .ref (f5 3), .int 0, .int 0, .int 0])), ((f5 0), .inl (cA 1, 5, zA 1)), ((f5 1), .inl (cA 1, 5, zA 1)), ((f5 2), .inl (cA 0, 5, zA 0)), ((f5 3), .inl (cA 0, 5, zA 0)), (q6, .inr (2, [.long 1, .long 0, .ref (f6 0), .ref (f6 1), .ref (f6 2), .ref (f6 3), .int 0, .int 0, .int 0])), ((f6 0), .inl (cA 1, 5, zA 1)), ((f6 1), .inl (cA 1, 5, zA 1)), ((f6 2), .inl (cA 0, 5, zA 0)), ((f6 3), .inl (cA 0, 5, zA 0)), (q7, .inr (3, [.ref (f7 0), .ref (f7 2), .int 0, .int 0, .int 0, .int 5, .int 0, .int 0, .int 0])), ((f7 0), .inr (5, [.int 0, .int 3, .int 0, .int 0, .int 0, .ref (f7 1)])), ((f7 1), .inl (cA 3, 160, zA 3)), ((f7 2), .inr (0, [.int 17, .int 0, .int 0, .int 0, .ref (f7 3), .ref (f7 4), .ref (f7 5), .ref (f7 6)])), ((f7 3), .inl (cA 0, 5, zA 0)), ((f7 4), .inl (cA 0, 5, zA 0)), ((f7 5), .inl (cA 0, 6, zA 0)), ((f7 6), .inl (cA 0, 6, zA 0)), (q8, .inr (6, [.int 0, .ref (f8 0), .ref (f8 1), .int 0, .int 0, .int 0, .int 0])), ((f8 0), .inl (cA 0, 4, zA 0)), ((f8 1), .inl (cA 0, 32, zA 0)), (q9, .inr (1, [.int 0, .int (-4), .int (-4)])), (q10, .inl (cA 0, 201, zA 0)), (q11, .inl (cA 5, 4, .inr (.inr (.inr (.inr (va_up (va_up (va_up (fun _ => none) 0 (some q14)) 1 (some q15)) 2 (some q16))))))), (q12, .inr (0, [.int 17, .int 0, .int 0, .int 0, .ref (f12 0), .ref (f12 1), .ref (f12 2), .ref (f12 3)])), ((f12 0), .inl (cA 0, 5, zA 0)), ((f12 1), .inl (cA 0, 5, zA 0)), ((f12 2), .inl (cA 0, 6, zA 0)), ((f12 3), .inl (cA 0, 6, zA 0)), (q13, .inr (0, [.int 17, .int 0, .int 0, .int 0, .ref (f13 0), .ref (f13 1), .ref (f13 2), .ref (f13 3)])), ((f13 0), .inl (cA 0, 5, zA 0)), ((f13 1), .inl (cA 0, 5, zA 0)), ((f13 2), .inl (cA 0, 6, zA 0)), ((f13 3), .inl (cA 0, 6, zA 0)), (q14, .inr (4, [.int (-1), .int 0, .ref (f14 0)])), ((f14 0), .inl (cA 0, 40, zA 0)), (q15, .inr (4, [.int (-1), .int 0, .ref (f15 0)])), ((f15 0), .inl (cA 0, 40, zA 0)), (q16, .inr (4, [.int (-1), .int 0, .ref (f16 0)])), ((f16 0), .inl (cA 0, 40, zA 0))] _ _ := hW
  refine lv_iinc (v := 3) (lv' := [(1, .int 3), (0, .ref h0)]) hx hb dX7_init_164 hl (k := 0) rfl (by decide) (by decide) rfl (fun lr hl => ?_)
  refine lv_goto (tgt := 146) hx hb dX7_init_167 (by decide) ?_
  refine lv_iload_n hx hb dX7_init_146 rfl (lv_at hl 0 rfl) ?_
  refine lv_iconst (v := 4) hx hb dX7_init_147 (by decide) ?_
  refine lv_icmp_ge (tgt := 170) hx hb dX7_init_148 (by decide) (fun hc => ?_) (fun hc => ?_)
  exact absurd hc (by decide)
  refine lv_aload_n hx hb dX7_init_151 rfl (lv_at hl 1 rfl) ?_
  refine N_get 0 C hW fgX7_64 rfl rfl dX7_init_152 ?_
  refine lv_iload_n hx hb dX7_init_155 rfl (lv_at hl 0 rfl) ?_
  refine N_new (ns := 767) (nc := 52) C hW cnX7_62 rfl rfl dX7_init_156 (fun q17 H hW => ?_)
  refine lv_dup hx hb dX7_init_159 rfl ?_
  refine N_init (ns := 770) (nc := 53) mkX4 C hW wn_1_233 rfl wn_1_8 (by decide +kernel) (by decide) wn_1_232 rfl (Or.inr ⟨_, List.mem_of_getElem? (i := 7) rfl⟩) rfl rfl rfl hl.1 (leb rfl) dX7_init_160 (fun f17 H locs _ hW => ?_)
  have hW : Wd D A s.heap [(h0, .inr (7, [.ref q1, .ref q2, .ref q3, .ref q4, .ref q5, .ref q6, .ref q7, .ref q8, .ref q9, .ref q10, .ref q11, .int 0])), (q1, .inr (0, [.int 17, .int 0, .int 0, .int 0, .ref (f1 0), .ref (f1 1), .ref (f1 2), .ref (f1 3)])), ((f1 0), .inl (cA 0, 5, zA 0)), ((f1 1), .inl (cA 0, 5, zA 0)), ((f1 2), .inl (cA 0, 6, zA 0)), ((f1 3), .inl (cA 0, 6, zA 0)), (q2, .inr (0, [.int 17, .int 0, .int 0, .int 0, .ref (f2 0), .ref (f2 1), .ref (f2 2), .ref (f2 3)])), ((f2 0), .inl (cA 0, 5, zA 0)), ((f2 1), .inl (cA 0, 5, zA 0)), ((f2 2), .inl (cA 0, 6, zA 0)), ((f2 3), .inl (cA 0, 6, zA 0)), (q3, .inl (cA 4, 2, .inr (.inr (.inr (.inr (va_up (va_up (fun _ => none) 0 (some q12)) 1 (some q13))))))), (q4, .inl (cA 2, 2, zA 2)), (q5, .inr (2, [.long 1, .long 0, .ref (f5 0), .ref (f5 1), .ref (f5 2), .ref (f5 3), .int 0, .int 0, .int 0])), ((f5 0), .inl (cA 1, 5, zA 1)), ((f5 1), .inl (cA 1, 5, zA 1)), ((f5 2), .inl (cA 0, 5, zA 0)), ((f5 3), .inl (cA 0, 5, zA 0)), (q6, .inr (2, [.long 1, .long 0, .ref (f6 0), .ref (f6 1), .ref (f6 2), .ref (f6 3), .int 0, .int 0, .int 0])), ((f6 0), .inl (cA 1, 5, zA 1)), ((f6 1), .inl (cA 1, 5, zA 1)), ((f6 2), .inl (cA 0, 5, zA 0)), ((f6 3), .inl (cA 0, 5, zA 0)), (q7, .inr (3, [.ref (f7 0), .ref (f7 2), .int 0, .int 0, .int 0, .int 5, .int 0, .int 0, .int 0])), ((f7 0), .inr (5, [.int 0, .int 3, .int 0, .int 0, .int 0, .ref (f7 1)])), ((f7 1), .inl (cA 3, 160, zA 3)), ((f7 2), .inr (0, [.int 17, .int 0, .int 0, .int 0, .ref (f7 3), .ref (f7 4), .ref (f7 5), .ref (f7 6)])), ((f7 3), .inl (cA 0, 5, zA 0)), ((f7 4), .inl (cA 0, 5, zA 0)), ((f7 5), .inl (cA 0, 6, zA 0)), ((f7 6), .inl (cA 0, 6, zA 0)), (q8, .inr (6, [.int 0, .ref (f8 0), .ref (f8 1), .int 0, .int 0, .int 0, .int 0])), ((f8 0), .inl (cA 0, 4, zA 0)), ((f8 1), .inl (cA 0, 32, zA 0)), (q9, .inr (1, [.int 0, .int (-4), .int (-4)])), (q10, .inl (cA 0, 201, zA 0)), (q11, .inl (cA 5, 4, .inr (.inr (.inr (.inr (va_up (va_up (va_up (fun _ => none) 0 (some q14)) 1 (some q15)) 2 (some q16))))))), (q12, .inr (0, [.int 17, .int 0, .int 0, .int 0, .ref (f12 0), .ref (f12 1), .ref (f12 2), .ref (f12 3)])), ((f12 0), .inl (cA 0, 5, zA 0)), ((f12 1), .inl (cA 0, 5, zA 0)), ((f12 2), .inl (cA 0, 6, zA 0)), ((f12 3), .inl (cA 0, 6, zA 0)), (q13, .inr (0, [.int 17, .int 0, .int 0, .int 0, .ref (f13 0), .ref (f13 1), .ref (f13 2), .ref (f13 3)])), ((f13 0), .inl (cA 0, 5, zA 0)), ((f13 1), .inl (cA 0, 5, zA 0)), ((f13 2), .inl (cA 0, 6, zA 0)), ((f13 3), .inl (cA 0, 6, zA 0)), (q14, .inr (4, [.int (-1), .int 0, .ref (f14 0)])), ((f14 0), .inl (cA 0, 40, zA 0)), (q15, .inr (4, [.int (-1), .int 0, .ref (f15 0)])), ((f15 0), .inl (cA 0, 40, zA 0)), (q16, .inr (4, [.int (-1), .int 0, .ref (f16 0)])), ((f16 0), .inl (cA 0, 40, zA 0)), (q17, .inr (4, [.int (-1), .int 0, .ref (f17 0)])), ((f17 0), .inl (cA 0, 40, zA 0))] _ _ := hW
  refine N_astq (t := 5) (ci := 4) (qk := 53) 36 C hW (by decide) rfl rfl (show ¬ (_ ∨ _) by decide) dX7_init_163 (fun H locs hW => ?_)
  have hW : Wd D A s.heap [(h0, .inr (7, [.ref q1, .ref q2, .ref q3, .ref q4, .ref q5, .ref q6, .ref q7, .ref q8, .ref q9, .ref q10, .ref q11, .int 0])), (q1, .inr (0, [.int 17, .int 0, .int 0, .int 0, .ref (f1 0), .ref (f1 1), .ref (f1 2), .ref (f1 3)])), ((f1 0), .inl (cA 0, 5, zA 0)), ((f1 1), .inl (cA 0, 5, zA 0)), ((f1 2), .inl (cA 0, 6, zA 0)), ((f1 3), .inl (cA 0, 6, zA 0)), (q2, .inr (0, [.int 17, .int 0, .int 0, .int 0, .ref (f2 0), .ref (f2 1), .ref (f2 2), .ref (f2 3)])), ((f2 0), .inl (cA 0, 5, zA 0)), ((f2 1), .inl (cA 0, 5, zA 0)), ((f2 2), .inl (cA 0, 6, zA 0)), ((f2 3), .inl (cA 0, 6, zA 0)), (q3, .inl (cA 4, 2, .inr (.inr (.inr (.inr (va_up (va_up (fun _ => none) 0 (some q12)) 1 (some q13))))))), (q4, .inl (cA 2, 2, zA 2)), (q5, .inr (2, [.long 1, .long 0, .ref (f5 0), .ref (f5 1), .ref (f5 2), .ref (f5 3), .int 0, .int 0, .int 0])), ((f5 0), .inl (cA 1, 5, zA 1)), ((f5 1), .inl (cA 1, 5, zA 1)), ((f5 2), .inl (cA 0, 5, zA 0)), ((f5 3), .inl (cA 0, 5, zA 0)), (q6, .inr (2, [.long 1, .long 0, .ref (f6 0), .ref (f6 1), .ref (f6 2), .ref (f6 3), .int 0, .int 0, .int 0])), ((f6 0), .inl (cA 1, 5, zA 1)), ((f6 1), .inl (cA 1, 5, zA 1)), ((f6 2), .inl (cA 0, 5, zA 0)), ((f6 3), .inl (cA 0, 5, zA 0)), (q7, .inr (3, [.ref (f7 0), .ref (f7 2), .int 0, .int 0, .int 0, .int 5, .int 0, .int 0, .int 0])), ((f7 0), .inr (5, [.int 0, .int 3, .int 0, .int 0, .int 0, .ref (f7 1)])), ((f7 1), .inl (cA 3, 160, zA 3)), ((f7 2), .inr (0, [.int 17, .int 0, .int 0, .int 0, .ref (f7 3), .ref (f7 4), .ref (f7 5), .ref (f7 6)])), ((f7 3), .inl (cA 0, 5, zA 0)), ((f7 4), .inl (cA 0, 5, zA 0)), ((f7 5), .inl (cA 0, 6, zA 0)), ((f7 6), .inl (cA 0, 6, zA 0)), (q8, .inr (6, [.int 0, .ref (f8 0), .ref (f8 1), .int 0, .int 0, .int 0, .int 0])), ((f8 0), .inl (cA 0, 4, zA 0)), ((f8 1), .inl (cA 0, 32, zA 0)), (q9, .inr (1, [.int 0, .int (-4), .int (-4)])), (q10, .inl (cA 0, 201, zA 0)), (q11, .inl (cA 5, 4, .inr (.inr (.inr (.inr (va_up (va_up (va_up (va_up (fun _ => none) 0 (some q14)) 1 (some q15)) 2 (some q16)) 3 (some q17))))))), (q12, .inr (0, [.int 17, .int 0, .int 0, .int 0, .ref (f12 0), .ref (f12 1), .ref (f12 2), .ref (f12 3)])), ((f12 0), .inl (cA 0, 5, zA 0)), ((f12 1), .inl (cA 0, 5, zA 0)), ((f12 2), .inl (cA 0, 6, zA 0)), ((f12 3), .inl (cA 0, 6, zA 0)), (q13, .inr (0, [.int 17, .int 0, .int 0, .int 0, .ref (f13 0), .ref (f13 1), .ref (f13 2), .ref (f13 3)])), ((f13 0), .inl (cA 0, 5, zA 0)), ((f13 1), .inl (cA 0, 5, zA 0)), ((f13 2), .inl (cA 0, 6, zA 0)), ((f13 3), .inl (cA 0, 6, zA 0)), (q14, .inr (4, [.int (-1), .int 0, .ref (f14 0)])), ((f14 0), .inl (cA 0, 40, zA 0)), (q15, .inr (4, [.int (-1), .int 0, .ref (f15 0)])), ((f15 0), .inl (cA 0, 40, zA 0)), (q16, .inr (4, [.int (-1), .int 0, .ref (f16 0)])), ((f16 0), .inl (cA 0, 40, zA 0)), (q17, .inr (4, [.int (-1), .int 0, .ref (f17 0)])), ((f17 0), .inl (cA 0, 40, zA 0))] _ _ := hW
  refine lv_iinc (v := 4) (lv' := [(1, .int 4), (0, .ref h0)]) hx hb dX7_init_164 hl (k := 0) rfl (by decide) (by decide) rfl (fun lr hl => ?_)
  refine lv_goto (tgt := 146) hx hb dX7_init_167 (by decide) ?_
  refine lv_iload_n hx hb dX7_init_146 rfl (lv_at hl 0 rfl) ?_
  refine lv_iconst (v := 4) hx hb dX7_init_147 (by decide) ?_
  refine lv_icmp_ge (tgt := 170) hx hb dX7_init_148 (by decide) (fun hc => ?_) (fun hc => ?_)
  rotate_left
  exact absurd (by decide) hc
  obtain ⟨F, hF⟩ : ∃ F : Nat → Nat, F = fun i => ([h0, q1, (f1 0), (f1 1), (f1 2), (f1 3), q2, (f2 0), (f2 1), (f2 2), (f2 3), q12, (f12 0), (f12 1), (f12 2), (f12 3), q13, (f13 0), (f13 1), (f13 2), (f13 3), (f7 2), (f7 3), (f7 4), (f7 5), (f7 6), q5, (f5 0), (f5 1), (f5 2), (f5 3), q6, (f6 0), (f6 1), (f6 2), (f6 3), q7, (f7 0), (f7 1), q8, (f8 0), (f8 1), q9, q3, q4, q10, q11, q14, (f14 0), q15, (f15 0), q16, (f16 0), q17, (f17 0)] : List Nat).getD i (g i) := ⟨_, rfl⟩
  have e1 : va_up (va_up (fun _ => none) 0 (some q12)) 1 (some q13) = (fun j => (([11, 16] : List Nat)[j]?).map F) := by rw [hF]; exact up2 (fun i => ([h0, q1, (f1 0), (f1 1), (f1 2), (f1 3), q2, (f2 0), (f2 1), (f2 2), (f2 3), q12, (f12 0), (f12 1), (f12 2), (f12 3), q13, (f13 0), (f13 1), (f13 2), (f13 3), (f7 2), (f7 3), (f7 4), (f7 5), (f7 6), q5, (f5 0), (f5 1), (f5 2), (f5 3), q6, (f6 0), (f6 1), (f6 2), (f6 3), q7, (f7 0), (f7 1), q8, (f8 0), (f8 1), q9, q3, q4, q10, q11, q14, (f14 0), q15, (f15 0), q16, (f16 0), q17, (f17 0)] : List Nat).getD i (g i)) 11 16
  have e2 : va_up (va_up (va_up (va_up (fun _ => none) 0 (some q14)) 1 (some q15)) 2 (some q16)) 3 (some q17) = (fun j => (([47, 49, 51, 53] : List Nat)[j]?).map F) := by rw [hF]; exact up4 (fun i => ([h0, q1, (f1 0), (f1 1), (f1 2), (f1 3), q2, (f2 0), (f2 1), (f2 2), (f2 3), q12, (f12 0), (f12 1), (f12 2), (f12 3), q13, (f13 0), (f13 1), (f13 2), (f13 3), (f7 2), (f7 3), (f7 4), (f7 5), (f7 6), q5, (f5 0), (f5 1), (f5 2), (f5 3), q6, (f6 0), (f6 1), (f6 2), (f6 3), q7, (f7 0), (f7 1), q8, (f8 0), (f8 1), q9, q3, q4, q10, q11, q14, (f14 0), q15, (f15 0), q16, (f16 0), q17, (f17 0)] : List Nat).getD i (g i)) 47 49 51 53
  rw [e1, e2] at hW
  clear e1 e2
  obtain ⟨hP, hD, hS⟩ := hW
  have c0 : va_at D vwCl (F 0, cE F cA stC 0 (.inr (7, [5, 10, 47, 48, 30, 35, 40, 43, 46, 49, 50, 0]))) H := by subst hF; exact hP 0 _ rfl
  have c1 : va_at D vwCl (F 1, cE F cA stC 1 (.inr (0, [0, 0, 0, 0, 6, 7, 8, 9]))) H := by subst hF; exact hP 1 _ rfl
  have c2 : va_at D vwCl (F 2, cE F cA stC 2 (.inl (0, 5, []))) H := by subst hF; exact hP 2 _ rfl
  have c3 : va_at D vwCl (F 3, cE F cA stC 3 (.inl (0, 5, []))) H := by subst hF; exact hP 3 _ rfl
  have c4 : va_at D vwCl (F 4, cE F cA stC 4 (.inl (0, 6, []))) H := by subst hF; exact hP 4 _ rfl
  have c5 : va_at D vwCl (F 5, cE F cA stC 5 (.inl (0, 6, []))) H := by subst hF; exact hP 5 _ rfl
  have c6 : va_at D vwCl (F 6, cE F cA stC 6 (.inr (0, [0, 0, 0, 0, 11, 12, 13, 14]))) H := by subst hF; exact hP 6 _ rfl
  have c7 : va_at D vwCl (F 7, cE F cA stC 7 (.inl (0, 5, []))) H := by subst hF; exact hP 7 _ rfl
  have c8 : va_at D vwCl (F 8, cE F cA stC 8 (.inl (0, 5, []))) H := by subst hF; exact hP 8 _ rfl
  have c9 : va_at D vwCl (F 9, cE F cA stC 9 (.inl (0, 6, []))) H := by subst hF; exact hP 9 _ rfl
  have c10 : va_at D vwCl (F 10, cE F cA stC 10 (.inl (0, 6, []))) H := by subst hF; exact hP 10 _ rfl
  have c11 : va_at D vwCl (F 11, cE F cA stC 11 (.inr (0, [0, 0, 0, 0, 16, 17, 18, 19]))) H := by subst hF; exact hP 37 _ rfl
  have c12 : va_at D vwCl (F 12, cE F cA stC 12 (.inl (0, 5, []))) H := by subst hF; exact hP 38 _ rfl
  have c13 : va_at D vwCl (F 13, cE F cA stC 13 (.inl (0, 5, []))) H := by subst hF; exact hP 39 _ rfl
  have c14 : va_at D vwCl (F 14, cE F cA stC 14 (.inl (0, 6, []))) H := by subst hF; exact hP 40 _ rfl
  have c15 : va_at D vwCl (F 15, cE F cA stC 15 (.inl (0, 6, []))) H := by subst hF; exact hP 41 _ rfl
  have c16 : va_at D vwCl (F 16, cE F cA stC 16 (.inr (0, [0, 0, 0, 0, 21, 22, 23, 24]))) H := by subst hF; exact hP 42 _ rfl
  have c17 : va_at D vwCl (F 17, cE F cA stC 17 (.inl (0, 5, []))) H := by subst hF; exact hP 43 _ rfl
  have c18 : va_at D vwCl (F 18, cE F cA stC 18 (.inl (0, 5, []))) H := by subst hF; exact hP 44 _ rfl
  have c19 : va_at D vwCl (F 19, cE F cA stC 19 (.inl (0, 6, []))) H := by subst hF; exact hP 45 _ rfl
  have c20 : va_at D vwCl (F 20, cE F cA stC 20 (.inl (0, 6, []))) H := by subst hF; exact hP 46 _ rfl
  have c21 : va_at D vwCl (F 21, cE F cA stC 21 (.inr (0, [0, 0, 0, 0, 26, 27, 28, 29]))) H := by subst hF; exact hP 26 _ rfl
  have c22 : va_at D vwCl (F 22, cE F cA stC 22 (.inl (0, 5, []))) H := by subst hF; exact hP 27 _ rfl
  have c23 : va_at D vwCl (F 23, cE F cA stC 23 (.inl (0, 5, []))) H := by subst hF; exact hP 28 _ rfl
  have c24 : va_at D vwCl (F 24, cE F cA stC 24 (.inl (0, 6, []))) H := by subst hF; exact hP 29 _ rfl
  have c25 : va_at D vwCl (F 25, cE F cA stC 25 (.inl (0, 6, []))) H := by subst hF; exact hP 30 _ rfl
  have c26 : va_at D vwCl (F 26, cE F cA stC 26 (.inr (2, [1, 1, 31, 32, 33, 34, 0, 0, 0]))) H := by subst hF; exact hP 13 _ rfl
  have c27 : va_at D vwCl (F 27, cE F cA stC 27 (.inl (1, 5, []))) H := by subst hF; exact hP 14 _ rfl
  have c28 : va_at D vwCl (F 28, cE F cA stC 28 (.inl (1, 5, []))) H := by subst hF; exact hP 15 _ rfl
  have c29 : va_at D vwCl (F 29, cE F cA stC 29 (.inl (0, 5, []))) H := by subst hF; exact hP 16 _ rfl
  have c30 : va_at D vwCl (F 30, cE F cA stC 30 (.inl (0, 5, []))) H := by subst hF; exact hP 17 _ rfl
  have c31 : va_at D vwCl (F 31, cE F cA stC 31 (.inr (2, [1, 1, 36, 37, 38, 39, 0, 0, 0]))) H := by subst hF; exact hP 18 _ rfl
  have c32 : va_at D vwCl (F 32, cE F cA stC 32 (.inl (1, 5, []))) H := by subst hF; exact hP 19 _ rfl
  have c33 : va_at D vwCl (F 33, cE F cA stC 33 (.inl (1, 5, []))) H := by subst hF; exact hP 20 _ rfl
  have c34 : va_at D vwCl (F 34, cE F cA stC 34 (.inl (0, 5, []))) H := by subst hF; exact hP 21 _ rfl
  have c35 : va_at D vwCl (F 35, cE F cA stC 35 (.inl (0, 5, []))) H := by subst hF; exact hP 22 _ rfl
  have c36 : va_at D vwCl (F 36, cE F cA stC 36 (.inr (3, [41, 25, 0, 0, 0, 0, 0, 2, 2]))) H := by subst hF; exact hP 23 _ rfl
  have c37 : va_at D vwCl (F 37, cE F cA stC 37 (.inr (5, [0, 0, 0, 0, 0, 42]))) H := by subst hF; exact hP 24 _ rfl
  have c38 : va_at D vwCl (F 38, cE F cA stC 38 (.inl (3, 160, []))) H := by subst hF; exact hP 25 _ rfl
  have c39 : va_at D vwCl (F 39, cE F cA stC 39 (.inr (6, [0, 44, 45, 0, 0, 0, 0]))) H := by subst hF; exact hP 31 _ rfl
  have c40 : va_at D vwCl (F 40, cE F cA stC 40 (.inl (0, 4, []))) H := by subst hF; exact hP 32 _ rfl
  have c41 : va_at D vwCl (F 41, cE F cA stC 41 (.inl (0, 32, []))) H := by subst hF; exact hP 33 _ rfl
  have c42 : va_at D vwCl (F 42, cE F cA stC 42 (.inr (1, [0, 0, 0]))) H := by subst hF; exact hP 34 _ rfl
  have c43 : va_at D vwCl (F 43, cE F cA stC 43 (.inl (4, 2, [11, 16]))) H := by subst hF; exact hP 11 _ rfl
  have c44 : va_at D vwCl (F 44, cE F cA stC 44 (.inl (2, 2, []))) H := by subst hF; exact hP 12 _ rfl
  have c45 : va_at D vwCl (F 45, cE F cA stC 45 (.inl (0, 201, []))) H := by subst hF; exact hP 35 _ rfl
  have c46 : va_at D vwCl (F 46, cE F cA stC 46 (.inl (5, 4, [47, 49, 51, 53]))) H := by subst hF; exact hP 36 _ rfl
  have c47 : va_at D vwCl (F 47, cE F cA stC 47 (.inr (4, [0, 0, 52]))) H := by subst hF; exact hP 47 _ rfl
  have c48 : va_at D vwCl (F 48, cE F cA stC 48 (.inl (0, 40, []))) H := by subst hF; exact hP 48 _ rfl
  have c49 : va_at D vwCl (F 49, cE F cA stC 49 (.inr (4, [0, 0, 54]))) H := by subst hF; exact hP 49 _ rfl
  have c50 : va_at D vwCl (F 50, cE F cA stC 50 (.inl (0, 40, []))) H := by subst hF; exact hP 50 _ rfl
  have c51 : va_at D vwCl (F 51, cE F cA stC 51 (.inr (4, [0, 0, 56]))) H := by subst hF; exact hP 51 _ rfl
  have c52 : va_at D vwCl (F 52, cE F cA stC 52 (.inl (0, 40, []))) H := by subst hF; exact hP 52 _ rfl
  have c53 : va_at D vwCl (F 53, cE F cA stC 53 (.inr (4, [0, 0, 58]))) H := by subst hF; exact hP 53 _ rfl
  have c54 : va_at D vwCl (F 54, cE F cA stC 54 (.inl (0, 40, []))) H := by subst hF; exact hP 54 _ rfl
  have hP2 : va_P D vwCl (cW F cA layC stC) H := P_of (fun k c hc => by
    match k, hc with
    | 0, hc => cases hc; exact c0
    | 1, hc => cases hc; exact c1
    | 2, hc => cases hc; exact c2
    | 3, hc => cases hc; exact c3
    | 4, hc => cases hc; exact c4
    | 5, hc => cases hc; exact c5
    | 6, hc => cases hc; exact c6
    | 7, hc => cases hc; exact c7
    | 8, hc => cases hc; exact c8
    | 9, hc => cases hc; exact c9
    | 10, hc => cases hc; exact c10
    | 11, hc => cases hc; exact c11
    | 12, hc => cases hc; exact c12
    | 13, hc => cases hc; exact c13
    | 14, hc => cases hc; exact c14
    | 15, hc => cases hc; exact c15
    | 16, hc => cases hc; exact c16
    | 17, hc => cases hc; exact c17
    | 18, hc => cases hc; exact c18
    | 19, hc => cases hc; exact c19
    | 20, hc => cases hc; exact c20
    | 21, hc => cases hc; exact c21
    | 22, hc => cases hc; exact c22
    | 23, hc => cases hc; exact c23
    | 24, hc => cases hc; exact c24
    | 25, hc => cases hc; exact c25
    | 26, hc => cases hc; exact c26
    | 27, hc => cases hc; exact c27
    | 28, hc => cases hc; exact c28
    | 29, hc => cases hc; exact c29
    | 30, hc => cases hc; exact c30
    | 31, hc => cases hc; exact c31
    | 32, hc => cases hc; exact c32
    | 33, hc => cases hc; exact c33
    | 34, hc => cases hc; exact c34
    | 35, hc => cases hc; exact c35
    | 36, hc => cases hc; exact c36
    | 37, hc => cases hc; exact c37
    | 38, hc => cases hc; exact c38
    | 39, hc => cases hc; exact c39
    | 40, hc => cases hc; exact c40
    | 41, hc => cases hc; exact c41
    | 42, hc => cases hc; exact c42
    | 43, hc => cases hc; exact c43
    | 44, hc => cases hc; exact c44
    | 45, hc => cases hc; exact c45
    | 46, hc => cases hc; exact c46
    | 47, hc => cases hc; exact c47
    | 48, hc => cases hc; exact c48
    | 49, hc => cases hc; exact c49
    | 50, hc => cases hc; exact c50
    | 51, hc => cases hc; exact c51
    | 52, hc => cases hc; exact c52
    | 53, hc => cases hc; exact c53
    | 54, hc => cases hc; exact c54
    | k + 55, hc => simp [layC] at hc)
  have hF1 : ∀ i, i < 55 → ∃ (k : Nat) (e : va_E), k = permC.getD i 0 ∧ ([(h0, .inr (7, [.ref q1, .ref q2, .ref q3, .ref q4, .ref q5, .ref q6, .ref q7, .ref q8, .ref q9, .ref q10, .ref q11, .int 0])), (q1, .inr (0, [.int 17, .int 0, .int 0, .int 0, .ref (f1 0), .ref (f1 1), .ref (f1 2), .ref (f1 3)])), ((f1 0), .inl (cA 0, 5, zA 0)), ((f1 1), .inl (cA 0, 5, zA 0)), ((f1 2), .inl (cA 0, 6, zA 0)), ((f1 3), .inl (cA 0, 6, zA 0)), (q2, .inr (0, [.int 17, .int 0, .int 0, .int 0, .ref (f2 0), .ref (f2 1), .ref (f2 2), .ref (f2 3)])), ((f2 0), .inl (cA 0, 5, zA 0)), ((f2 1), .inl (cA 0, 5, zA 0)), ((f2 2), .inl (cA 0, 6, zA 0)), ((f2 3), .inl (cA 0, 6, zA 0)), (q3, .inl (cA 4, 2, .inr (.inr (.inr (.inr (fun j => (([11, 16] : List Nat)[j]?).map F)))))), (q4, .inl (cA 2, 2, zA 2)), (q5, .inr (2, [.long 1, .long 0, .ref (f5 0), .ref (f5 1), .ref (f5 2), .ref (f5 3), .int 0, .int 0, .int 0])), ((f5 0), .inl (cA 1, 5, zA 1)), ((f5 1), .inl (cA 1, 5, zA 1)), ((f5 2), .inl (cA 0, 5, zA 0)), ((f5 3), .inl (cA 0, 5, zA 0)), (q6, .inr (2, [.long 1, .long 0, .ref (f6 0), .ref (f6 1), .ref (f6 2), .ref (f6 3), .int 0, .int 0, .int 0])), ((f6 0), .inl (cA 1, 5, zA 1)), ((f6 1), .inl (cA 1, 5, zA 1)), ((f6 2), .inl (cA 0, 5, zA 0)), ((f6 3), .inl (cA 0, 5, zA 0)), (q7, .inr (3, [.ref (f7 0), .ref (f7 2), .int 0, .int 0, .int 0, .int 5, .int 0, .int 0, .int 0])), ((f7 0), .inr (5, [.int 0, .int 3, .int 0, .int 0, .int 0, .ref (f7 1)])), ((f7 1), .inl (cA 3, 160, zA 3)), ((f7 2), .inr (0, [.int 17, .int 0, .int 0, .int 0, .ref (f7 3), .ref (f7 4), .ref (f7 5), .ref (f7 6)])), ((f7 3), .inl (cA 0, 5, zA 0)), ((f7 4), .inl (cA 0, 5, zA 0)), ((f7 5), .inl (cA 0, 6, zA 0)), ((f7 6), .inl (cA 0, 6, zA 0)), (q8, .inr (6, [.int 0, .ref (f8 0), .ref (f8 1), .int 0, .int 0, .int 0, .int 0])), ((f8 0), .inl (cA 0, 4, zA 0)), ((f8 1), .inl (cA 0, 32, zA 0)), (q9, .inr (1, [.int 0, .int (-4), .int (-4)])), (q10, .inl (cA 0, 201, zA 0)), (q11, .inl (cA 5, 4, .inr (.inr (.inr (.inr (fun j => (([47, 49, 51, 53] : List Nat)[j]?).map F)))))), (q12, .inr (0, [.int 17, .int 0, .int 0, .int 0, .ref (f12 0), .ref (f12 1), .ref (f12 2), .ref (f12 3)])), ((f12 0), .inl (cA 0, 5, zA 0)), ((f12 1), .inl (cA 0, 5, zA 0)), ((f12 2), .inl (cA 0, 6, zA 0)), ((f12 3), .inl (cA 0, 6, zA 0)), (q13, .inr (0, [.int 17, .int 0, .int 0, .int 0, .ref (f13 0), .ref (f13 1), .ref (f13 2), .ref (f13 3)])), ((f13 0), .inl (cA 0, 5, zA 0)), ((f13 1), .inl (cA 0, 5, zA 0)), ((f13 2), .inl (cA 0, 6, zA 0)), ((f13 3), .inl (cA 0, 6, zA 0)), (q14, .inr (4, [.int (-1), .int 0, .ref (f14 0)])), ((f14 0), .inl (cA 0, 40, zA 0)), (q15, .inr (4, [.int (-1), .int 0, .ref (f15 0)])), ((f15 0), .inl (cA 0, 40, zA 0)), (q16, .inr (4, [.int (-1), .int 0, .ref (f16 0)])), ((f16 0), .inl (cA 0, 40, zA 0)), (q17, .inr (4, [.int (-1), .int 0, .ref (f17 0)])), ((f17 0), .inl (cA 0, 40, zA 0))] : va_W)[k]? = some (F i, e) := by
    intro i hi
    subst hF
    match i, hi with
    | 0, _ => exact ⟨0, _, rfl, rfl⟩
    | 1, _ => exact ⟨1, _, rfl, rfl⟩
    | 2, _ => exact ⟨2, _, rfl, rfl⟩
    | 3, _ => exact ⟨3, _, rfl, rfl⟩
    | 4, _ => exact ⟨4, _, rfl, rfl⟩
    | 5, _ => exact ⟨5, _, rfl, rfl⟩
    | 6, _ => exact ⟨6, _, rfl, rfl⟩
    | 7, _ => exact ⟨7, _, rfl, rfl⟩
    | 8, _ => exact ⟨8, _, rfl, rfl⟩
    | 9, _ => exact ⟨9, _, rfl, rfl⟩
    | 10, _ => exact ⟨10, _, rfl, rfl⟩
    | 11, _ => exact ⟨37, _, rfl, rfl⟩
    | 12, _ => exact ⟨38, _, rfl, rfl⟩
    | 13, _ => exact ⟨39, _, rfl, rfl⟩
    | 14, _ => exact ⟨40, _, rfl, rfl⟩
    | 15, _ => exact ⟨41, _, rfl, rfl⟩
    | 16, _ => exact ⟨42, _, rfl, rfl⟩
    | 17, _ => exact ⟨43, _, rfl, rfl⟩
    | 18, _ => exact ⟨44, _, rfl, rfl⟩
    | 19, _ => exact ⟨45, _, rfl, rfl⟩
    | 20, _ => exact ⟨46, _, rfl, rfl⟩
    | 21, _ => exact ⟨26, _, rfl, rfl⟩
    | 22, _ => exact ⟨27, _, rfl, rfl⟩
    | 23, _ => exact ⟨28, _, rfl, rfl⟩
    | 24, _ => exact ⟨29, _, rfl, rfl⟩
    | 25, _ => exact ⟨30, _, rfl, rfl⟩
    | 26, _ => exact ⟨13, _, rfl, rfl⟩
    | 27, _ => exact ⟨14, _, rfl, rfl⟩
    | 28, _ => exact ⟨15, _, rfl, rfl⟩
    | 29, _ => exact ⟨16, _, rfl, rfl⟩
    | 30, _ => exact ⟨17, _, rfl, rfl⟩
    | 31, _ => exact ⟨18, _, rfl, rfl⟩
    | 32, _ => exact ⟨19, _, rfl, rfl⟩
    | 33, _ => exact ⟨20, _, rfl, rfl⟩
    | 34, _ => exact ⟨21, _, rfl, rfl⟩
    | 35, _ => exact ⟨22, _, rfl, rfl⟩
    | 36, _ => exact ⟨23, _, rfl, rfl⟩
    | 37, _ => exact ⟨24, _, rfl, rfl⟩
    | 38, _ => exact ⟨25, _, rfl, rfl⟩
    | 39, _ => exact ⟨31, _, rfl, rfl⟩
    | 40, _ => exact ⟨32, _, rfl, rfl⟩
    | 41, _ => exact ⟨33, _, rfl, rfl⟩
    | 42, _ => exact ⟨34, _, rfl, rfl⟩
    | 43, _ => exact ⟨11, _, rfl, rfl⟩
    | 44, _ => exact ⟨12, _, rfl, rfl⟩
    | 45, _ => exact ⟨35, _, rfl, rfl⟩
    | 46, _ => exact ⟨36, _, rfl, rfl⟩
    | 47, _ => exact ⟨47, _, rfl, rfl⟩
    | 48, _ => exact ⟨48, _, rfl, rfl⟩
    | 49, _ => exact ⟨49, _, rfl, rfl⟩
    | 50, _ => exact ⟨50, _, rfl, rfl⟩
    | 51, _ => exact ⟨51, _, rfl, rfl⟩
    | 52, _ => exact ⟨52, _, rfl, rfl⟩
    | 53, _ => exact ⟨53, _, rfl, rfl⟩
    | 54, _ => exact ⟨54, _, rfl, rfl⟩
    | i + 55, hi => omega
  have hDD : (∀ i j, i < layC.length → j < layC.length → F i = F j → i = j) ∧ ∀ i, i < layC.length → A (F i) := by
    refine ⟨fun i j hi hj hij => ?_, fun i hi => ?_⟩
    · obtain ⟨k1, e1, p1, g1⟩ := hF1 i hi
      obtain ⟨k2, e2, p2, g2⟩ := hF1 j hj
      have h := hD.1 k1 k2 _ _ g1 g2 hij
      exact permC_inj i hi j hj (by rw [← p1, ← p2, h])
    · obtain ⟨k1, e1, p1, g1⟩ := hF1 i hi
      exact hD.2 k1 (F i, e1) g1
  exact N_vret (w1 := fun cA _ f => cW f cA layC stC) F C hr hlk ⟨hP2, cD hDD, hS⟩ ⟨by rw [hF]; rfl, fun i hi => by rw [hF]; exact getD_far _ (show 55 ≤ i by omega)⟩ rfl rfl dX7_init_170
