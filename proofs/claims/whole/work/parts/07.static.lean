def layC : List LC := [.inr (7, [5, 10, 47, 48, 30, 35, 40, 43, 46, 49, 50, 0]), .inr (0, [0, 0, 0, 0, 6, 7, 8, 9]), .inl (0, 5, []), .inl (0, 5, []), .inl (0, 6, []), .inl (0, 6, []), .inr (0, [0, 0, 0, 0, 11, 12, 13, 14]), .inl (0, 5, []), .inl (0, 5, []), .inl (0, 6, []), .inl (0, 6, []), .inr (0, [0, 0, 0, 0, 16, 17, 18, 19]), .inl (0, 5, []), .inl (0, 5, []), .inl (0, 6, []), .inl (0, 6, []), .inr (0, [0, 0, 0, 0, 21, 22, 23, 24]), .inl (0, 5, []), .inl (0, 5, []), .inl (0, 6, []), .inl (0, 6, []), .inr (0, [0, 0, 0, 0, 26, 27, 28, 29]), .inl (0, 5, []), .inl (0, 5, []), .inl (0, 6, []), .inl (0, 6, []), .inr (2, [1, 1, 31, 32, 33, 34, 0, 0, 0]), .inl (1, 5, []), .inl (1, 5, []), .inl (0, 5, []), .inl (0, 5, []), .inr (2, [1, 1, 36, 37, 38, 39, 0, 0, 0]), .inl (1, 5, []), .inl (1, 5, []), .inl (0, 5, []), .inl (0, 5, []), .inr (3, [41, 25, 0, 0, 0, 0, 0, 2, 2]), .inr (5, [0, 0, 0, 0, 0, 42]), .inl (3, 160, []), .inr (6, [0, 44, 45, 0, 0, 0, 0]), .inl (0, 4, []), .inl (0, 32, []), .inr (1, [0, 0, 0]), .inl (4, 2, [11, 16]), .inl (2, 2, []), .inl (0, 201, []), .inl (5, 4, [47, 49, 51, 53]), .inr (4, [0, 0, 52]), .inl (0, 40, []), .inr (4, [0, 0, 54]), .inl (0, 40, []), .inr (4, [0, 0, 56]), .inl (0, 40, []), .inr (4, [0, 0, 58]), .inl (0, 40, [])]
theorem lC_0 : layC[0]? = some (.inr (7, [5, 10, 47, 48, 30, 35, 40, 43, 46, 49, 50, 0])) := rfl
theorem lC_1 : layC[1]? = some (.inr (0, [0, 0, 0, 0, 6, 7, 8, 9])) := rfl
theorem lC_2 : layC[2]? = some (.inl (0, 5, [])) := rfl
theorem lC_3 : layC[3]? = some (.inl (0, 5, [])) := rfl
theorem lC_4 : layC[4]? = some (.inl (0, 6, [])) := rfl
theorem lC_5 : layC[5]? = some (.inl (0, 6, [])) := rfl
theorem lC_6 : layC[6]? = some (.inr (0, [0, 0, 0, 0, 11, 12, 13, 14])) := rfl
theorem lC_7 : layC[7]? = some (.inl (0, 5, [])) := rfl
theorem lC_8 : layC[8]? = some (.inl (0, 5, [])) := rfl
theorem lC_9 : layC[9]? = some (.inl (0, 6, [])) := rfl
theorem lC_10 : layC[10]? = some (.inl (0, 6, [])) := rfl
theorem lC_11 : layC[11]? = some (.inr (0, [0, 0, 0, 0, 16, 17, 18, 19])) := rfl
theorem lC_12 : layC[12]? = some (.inl (0, 5, [])) := rfl
theorem lC_13 : layC[13]? = some (.inl (0, 5, [])) := rfl
theorem lC_14 : layC[14]? = some (.inl (0, 6, [])) := rfl
theorem lC_15 : layC[15]? = some (.inl (0, 6, [])) := rfl
theorem lC_16 : layC[16]? = some (.inr (0, [0, 0, 0, 0, 21, 22, 23, 24])) := rfl
theorem lC_17 : layC[17]? = some (.inl (0, 5, [])) := rfl
theorem lC_18 : layC[18]? = some (.inl (0, 5, [])) := rfl
theorem lC_19 : layC[19]? = some (.inl (0, 6, [])) := rfl
theorem lC_20 : layC[20]? = some (.inl (0, 6, [])) := rfl
theorem lC_21 : layC[21]? = some (.inr (0, [0, 0, 0, 0, 26, 27, 28, 29])) := rfl
theorem lC_22 : layC[22]? = some (.inl (0, 5, [])) := rfl
theorem lC_23 : layC[23]? = some (.inl (0, 5, [])) := rfl
theorem lC_24 : layC[24]? = some (.inl (0, 6, [])) := rfl
theorem lC_25 : layC[25]? = some (.inl (0, 6, [])) := rfl
theorem lC_26 : layC[26]? = some (.inr (2, [1, 1, 31, 32, 33, 34, 0, 0, 0])) := rfl
theorem lC_27 : layC[27]? = some (.inl (1, 5, [])) := rfl
theorem lC_28 : layC[28]? = some (.inl (1, 5, [])) := rfl
theorem lC_29 : layC[29]? = some (.inl (0, 5, [])) := rfl
theorem lC_30 : layC[30]? = some (.inl (0, 5, [])) := rfl
theorem lC_31 : layC[31]? = some (.inr (2, [1, 1, 36, 37, 38, 39, 0, 0, 0])) := rfl
theorem lC_32 : layC[32]? = some (.inl (1, 5, [])) := rfl
theorem lC_33 : layC[33]? = some (.inl (1, 5, [])) := rfl
theorem lC_34 : layC[34]? = some (.inl (0, 5, [])) := rfl
theorem lC_35 : layC[35]? = some (.inl (0, 5, [])) := rfl
theorem lC_36 : layC[36]? = some (.inr (3, [41, 25, 0, 0, 0, 0, 0, 2, 2])) := rfl
theorem lC_37 : layC[37]? = some (.inr (5, [0, 0, 0, 0, 0, 42])) := rfl
theorem lC_38 : layC[38]? = some (.inl (3, 160, [])) := rfl
theorem lC_39 : layC[39]? = some (.inr (6, [0, 44, 45, 0, 0, 0, 0])) := rfl
theorem lC_40 : layC[40]? = some (.inl (0, 4, [])) := rfl
theorem lC_41 : layC[41]? = some (.inl (0, 32, [])) := rfl
theorem lC_42 : layC[42]? = some (.inr (1, [0, 0, 0])) := rfl
theorem lC_43 : layC[43]? = some (.inl (4, 2, [11, 16])) := rfl
theorem lC_44 : layC[44]? = some (.inl (2, 2, [])) := rfl
theorem lC_45 : layC[45]? = some (.inl (0, 201, [])) := rfl
theorem lC_46 : layC[46]? = some (.inl (5, 4, [47, 49, 51, 53])) := rfl
theorem lC_47 : layC[47]? = some (.inr (4, [0, 0, 52])) := rfl
theorem lC_48 : layC[48]? = some (.inl (0, 40, [])) := rfl
theorem lC_49 : layC[49]? = some (.inr (4, [0, 0, 54])) := rfl
theorem lC_50 : layC[50]? = some (.inl (0, 40, [])) := rfl
theorem lC_51 : layC[51]? = some (.inr (4, [0, 0, 56])) := rfl
theorem lC_52 : layC[52]? = some (.inl (0, 40, [])) := rfl
theorem lC_53 : layC[53]? = some (.inr (4, [0, 0, 58])) := rfl
theorem lC_54 : layC[54]? = some (.inl (0, 40, [])) := rfl
def layM : List LC := [.inr (8, [5, 6, 7, 8, 2, 2, 9, 0, 0, 0, 0, 0, 0, 0, 10, 1, 1, 11, 12, 13, 0, 14, 0, 15, 1, 1, 1, 16, 17, 18, 19, 0, 20]), .inl (0, 78, []), .inl (0, 26, []), .inl (2, 2, []), .inl (0, 26, []), .inl (0, 160, []), .inl (1, 5, []), .inl (0, 5, []), .inl (2, 5, []), .inl (0, 64, []), .inl (0, 4, []), .inl (0, 5, []), .inl (0, 1005, []), .inl (0, 4, []), .inl (0, 4, []), .inl (0, 160, []), .inl (0, 26, [])]
theorem lM_0 : layM[0]? = some (.inr (8, [5, 6, 7, 8, 2, 2, 9, 0, 0, 0, 0, 0, 0, 0, 10, 1, 1, 11, 12, 13, 0, 14, 0, 15, 1, 1, 1, 16, 17, 18, 19, 0, 20])) := rfl
theorem lM_1 : layM[1]? = some (.inl (0, 78, [])) := rfl
theorem lM_2 : layM[2]? = some (.inl (0, 26, [])) := rfl
theorem lM_3 : layM[3]? = some (.inl (2, 2, [])) := rfl
theorem lM_4 : layM[4]? = some (.inl (0, 26, [])) := rfl
theorem lM_5 : layM[5]? = some (.inl (0, 160, [])) := rfl
theorem lM_6 : layM[6]? = some (.inl (1, 5, [])) := rfl
theorem lM_7 : layM[7]? = some (.inl (0, 5, [])) := rfl
theorem lM_8 : layM[8]? = some (.inl (2, 5, [])) := rfl
theorem lM_9 : layM[9]? = some (.inl (0, 64, [])) := rfl
theorem lM_10 : layM[10]? = some (.inl (0, 4, [])) := rfl
theorem lM_11 : layM[11]? = some (.inl (0, 5, [])) := rfl
theorem lM_12 : layM[12]? = some (.inl (0, 1005, [])) := rfl
theorem lM_13 : layM[13]? = some (.inl (0, 4, [])) := rfl
theorem lM_14 : layM[14]? = some (.inl (0, 4, [])) := rfl
theorem lM_15 : layM[15]? = some (.inl (0, 160, [])) := rfl
theorem lM_16 : layM[16]? = some (.inl (0, 26, [])) := rfl
def isE (b : Nat) : Prop := layC[b]? = some (.inr (0, [0, 0, 0, 0, b + 1 + 4, b + 2 + 4, b + 3 + 4, b + 4 + 4])) ∧ layC[b + 1]? = some (.inl (0, 5, [])) ∧ layC[b + 2]? = some (.inl (0, 5, [])) ∧ layC[b + 3]? = some (.inl (0, 6, [])) ∧ layC[b + 4]? = some (.inl (0, 6, []))
def isPt (b : Nat) : Prop := layC[b]? = some (.inr (2, [1, 1, b + 1 + 4, b + 2 + 4, b + 3 + 4, b + 4 + 4, 0, 0, 0])) ∧ layC[b + 1]? = some (.inl (1, 5, [])) ∧ layC[b + 2]? = some (.inl (1, 5, [])) ∧ layC[b + 3]? = some (.inl (0, 5, [])) ∧ layC[b + 4]? = some (.inl (0, 5, []))
def isSh (b : Nat) : Prop := layC[b]? = some (.inr (4, [0, 0, b + 1 + 4])) ∧ layC[b + 1]? = some (.inl (0, 40, []))
theorem isE_1 : isE 1 := ⟨rfl, rfl, rfl, rfl, rfl⟩
theorem isE_6 : isE 6 := ⟨rfl, rfl, rfl, rfl, rfl⟩
theorem isE_11 : isE 11 := ⟨rfl, rfl, rfl, rfl, rfl⟩
theorem isE_16 : isE 16 := ⟨rfl, rfl, rfl, rfl, rfl⟩
theorem isE_21 : isE 21 := ⟨rfl, rfl, rfl, rfl, rfl⟩
theorem isPt_26 : isPt 26 := ⟨rfl, rfl, rfl, rfl, rfl⟩
theorem isPt_31 : isPt 31 := ⟨rfl, rfl, rfl, rfl, rfl⟩
theorem isSh_47 : isSh 47 := ⟨rfl, rfl⟩
theorem isSh_49 : isSh 49 := ⟨rfl, rfl⟩
theorem isSh_51 : isSh 51 := ⟨rfl, rfl⟩
theorem isSh_53 : isSh 53 := ⟨rfl, rfl⟩
abbrev CI (lay : List LC) (M : MI) (as : List AV) (σ : Mem) (Q : Int → Mem → Prop) : Prop := Cl lay M as σ (qI Q)
abbrev CJ (lay : List LC) (M : MI) (as : List AV) (σ : Mem) (Q : Int → Mem → Prop) : Prop := Cl lay M as σ (qJ Q)
abbrev CP (lay : List LC) (M : MI) (as : List AV) (σ : Mem) (Q : Nat → Mem → Prop) : Prop := Cl lay M as σ (qP Q)
abbrev CV (lay : List LC) (M : MI) (as : List AV) (σ : Mem) (Q : Mem → Prop) : Prop := Cl lay M as σ (qV Q)
theorem inX0 : ∀ w ∈ u_ws RX0 TX0 8, w ∈ WT := by
  have e : u_ws RX0 TX0 8 = [u_lay RX0 TX0 0, u_lay RX0 TX0 1, u_lay RX0 TX0 2, u_lay RX0 TX0 3, u_lay RX0 TX0 4, u_lay RX0 TX0 5, u_lay RX0 TX0 6, u_lay RX0 TX0 7] := rfl
  rw [e]
  exact List.forall_mem_cons.mpr ⟨wtm (tb1 (List.mem_of_getElem? (i := 53) rfl)) rfl, List.forall_mem_cons.mpr ⟨wtm (tb1 (List.mem_of_getElem? (i := 55) rfl)) rfl, List.forall_mem_cons.mpr ⟨wtm (tb1 (List.mem_of_getElem? (i := 57) rfl)) rfl, List.forall_mem_cons.mpr ⟨wtm (tb1 (List.mem_of_getElem? (i := 59) rfl)) rfl, List.forall_mem_cons.mpr ⟨wtm (tb1 (List.mem_of_getElem? (i := 61) rfl)) rfl, List.forall_mem_cons.mpr ⟨wtm (tb1 (List.mem_of_getElem? (i := 63) rfl)) rfl, List.forall_mem_cons.mpr ⟨wtm (tb1 (List.mem_of_getElem? (i := 65) rfl)) rfl, List.forall_mem_cons.mpr ⟨wtm (tb1 (List.mem_of_getElem? (i := 67) rfl)) rfl, fun _ h => absurd h List.not_mem_nil⟩⟩⟩⟩⟩⟩⟩⟩
theorem inX1 : ∀ w ∈ u_ws RX1 TX1 3, w ∈ WT := by
  have e : u_ws RX1 TX1 3 = [u_lay RX1 TX1 0, u_lay RX1 TX1 1, u_lay RX1 TX1 2] := rfl
  rw [e]
  exact List.forall_mem_cons.mpr ⟨wtm (tb1 (List.mem_of_getElem? (i := 221) rfl)) rfl, List.forall_mem_cons.mpr ⟨wtm (tb1 (List.mem_of_getElem? (i := 223) rfl)) rfl, List.forall_mem_cons.mpr ⟨wtm (tb1 (List.mem_of_getElem? (i := 225) rfl)) rfl, fun _ h => absurd h List.not_mem_nil⟩⟩⟩
theorem inX2 : ∀ w ∈ u_ws RX2 TX2 9, w ∈ WT := by
  have e : u_ws RX2 TX2 9 = [u_lay RX2 TX2 0, u_lay RX2 TX2 1, u_lay RX2 TX2 2, u_lay RX2 TX2 3, u_lay RX2 TX2 4, u_lay RX2 TX2 5, u_lay RX2 TX2 6, u_lay RX2 TX2 7, u_lay RX2 TX2 8] := rfl
  rw [e]
  exact List.forall_mem_cons.mpr ⟨wtm (tb1 (List.mem_of_getElem? (i := 89) rfl)) rfl, List.forall_mem_cons.mpr ⟨wtm (tb1 (List.mem_of_getElem? (i := 91) rfl)) rfl, List.forall_mem_cons.mpr ⟨wtm (tb1 (List.mem_of_getElem? (i := 93) rfl)) rfl, List.forall_mem_cons.mpr ⟨wtm (tb1 (List.mem_of_getElem? (i := 95) rfl)) rfl, List.forall_mem_cons.mpr ⟨wtm (tb1 (List.mem_of_getElem? (i := 97) rfl)) rfl, List.forall_mem_cons.mpr ⟨wtm (tb1 (List.mem_of_getElem? (i := 99) rfl)) rfl, List.forall_mem_cons.mpr ⟨wtm (tb1 (List.mem_of_getElem? (i := 101) rfl)) rfl, List.forall_mem_cons.mpr ⟨wtm (tb1 (List.mem_of_getElem? (i := 103) rfl)) rfl, List.forall_mem_cons.mpr ⟨wtm (tb1 (List.mem_of_getElem? (i := 105) rfl)) rfl, fun _ h => absurd h List.not_mem_nil⟩⟩⟩⟩⟩⟩⟩⟩⟩
theorem inX3 : ∀ w ∈ u_ws RX3 TX3 9, w ∈ WT := by
  have e : u_ws RX3 TX3 9 = [u_lay RX3 TX3 0, u_lay RX3 TX3 1, u_lay RX3 TX3 2, u_lay RX3 TX3 3, u_lay RX3 TX3 4, u_lay RX3 TX3 5, u_lay RX3 TX3 6, u_lay RX3 TX3 7, u_lay RX3 TX3 8] := rfl
  rw [e]
  exact List.forall_mem_cons.mpr ⟨wtm (tb1 (List.mem_of_getElem? (i := 162) rfl)) rfl, List.forall_mem_cons.mpr ⟨wtm (tb1 (List.mem_of_getElem? (i := 164) rfl)) rfl, List.forall_mem_cons.mpr ⟨wtm (tb1 (List.mem_of_getElem? (i := 166) rfl)) rfl, List.forall_mem_cons.mpr ⟨wtm (tb1 (List.mem_of_getElem? (i := 168) rfl)) rfl, List.forall_mem_cons.mpr ⟨wtm (tb1 (List.mem_of_getElem? (i := 170) rfl)) rfl, List.forall_mem_cons.mpr ⟨wtm (tb1 (List.mem_of_getElem? (i := 172) rfl)) rfl, List.forall_mem_cons.mpr ⟨wtm (tb1 (List.mem_of_getElem? (i := 174) rfl)) rfl, List.forall_mem_cons.mpr ⟨wtm (tb1 (List.mem_of_getElem? (i := 176) rfl)) rfl, List.forall_mem_cons.mpr ⟨wtm (tb1 (List.mem_of_getElem? (i := 178) rfl)) rfl, fun _ h => absurd h List.not_mem_nil⟩⟩⟩⟩⟩⟩⟩⟩⟩
theorem inX4 : ∀ w ∈ u_ws RX4 TX4 3, w ∈ WT := by
  have e : u_ws RX4 TX4 3 = [u_lay RX4 TX4 0, u_lay RX4 TX4 1, u_lay RX4 TX4 2] := rfl
  rw [e]
  exact List.forall_mem_cons.mpr ⟨wtm (tb1 (List.mem_of_getElem? (i := 239) rfl)) rfl, List.forall_mem_cons.mpr ⟨wtm (tb2 (List.mem_of_getElem? (i := 1) rfl)) rfl, List.forall_mem_cons.mpr ⟨wtm (tb2 (List.mem_of_getElem? (i := 3) rfl)) rfl, fun _ h => absurd h List.not_mem_nil⟩⟩⟩
theorem inX5 : ∀ w ∈ u_ws RX5 TX5 6, w ∈ WT := by
  have e : u_ws RX5 TX5 6 = [u_lay RX5 TX5 0, u_lay RX5 TX5 1, u_lay RX5 TX5 2, u_lay RX5 TX5 3, u_lay RX5 TX5 4, u_lay RX5 TX5 5] := rfl
  rw [e]
  exact List.forall_mem_cons.mpr ⟨wtm (tb1 (List.mem_of_getElem? (i := 132) rfl)) rfl, List.forall_mem_cons.mpr ⟨wtm (tb1 (List.mem_of_getElem? (i := 134) rfl)) rfl, List.forall_mem_cons.mpr ⟨wtm (tb1 (List.mem_of_getElem? (i := 136) rfl)) rfl, List.forall_mem_cons.mpr ⟨wtm (tb1 (List.mem_of_getElem? (i := 138) rfl)) rfl, List.forall_mem_cons.mpr ⟨wtm (tb1 (List.mem_of_getElem? (i := 140) rfl)) rfl, List.forall_mem_cons.mpr ⟨wtm (tb1 (List.mem_of_getElem? (i := 142) rfl)) rfl, fun _ h => absurd h List.not_mem_nil⟩⟩⟩⟩⟩⟩
theorem inX6 : ∀ w ∈ u_ws RX6 TX6 7, w ∈ WT := by
  have e : u_ws RX6 TX6 7 = [u_lay RX6 TX6 0, u_lay RX6 TX6 1, u_lay RX6 TX6 2, u_lay RX6 TX6 3, u_lay RX6 TX6 4, u_lay RX6 TX6 5, u_lay RX6 TX6 6] := rfl
  rw [e]
  exact List.forall_mem_cons.mpr ⟨wtm (tb1 (List.mem_of_getElem? (i := 196) rfl)) rfl, List.forall_mem_cons.mpr ⟨wtm (tb1 (List.mem_of_getElem? (i := 198) rfl)) rfl, List.forall_mem_cons.mpr ⟨wtm (tb1 (List.mem_of_getElem? (i := 200) rfl)) rfl, List.forall_mem_cons.mpr ⟨wtm (tb1 (List.mem_of_getElem? (i := 202) rfl)) rfl, List.forall_mem_cons.mpr ⟨wtm (tb1 (List.mem_of_getElem? (i := 204) rfl)) rfl, List.forall_mem_cons.mpr ⟨wtm (tb1 (List.mem_of_getElem? (i := 206) rfl)) rfl, List.forall_mem_cons.mpr ⟨wtm (tb1 (List.mem_of_getElem? (i := 208) rfl)) rfl, fun _ h => absurd h List.not_mem_nil⟩⟩⟩⟩⟩⟩⟩
theorem inX7 : ∀ w ∈ u_ws RX7 TX7 12, w ∈ WT := by
  have e : u_ws RX7 TX7 12 = [u_lay RX7 TX7 0, u_lay RX7 TX7 1, u_lay RX7 TX7 2, u_lay RX7 TX7 3, u_lay RX7 TX7 4, u_lay RX7 TX7 5, u_lay RX7 TX7 6, u_lay RX7 TX7 7, u_lay RX7 TX7 8, u_lay RX7 TX7 9, u_lay RX7 TX7 10, u_lay RX7 TX7 11] := rfl
  rw [e]
  exact List.forall_mem_cons.mpr ⟨wtm (tb2 (List.mem_of_getElem? (i := 18) rfl)) rfl, List.forall_mem_cons.mpr ⟨wtm (tb2 (List.mem_of_getElem? (i := 20) rfl)) rfl, List.forall_mem_cons.mpr ⟨wtm (tb2 (List.mem_of_getElem? (i := 22) rfl)) rfl, List.forall_mem_cons.mpr ⟨wtm (tb2 (List.mem_of_getElem? (i := 24) rfl)) rfl, List.forall_mem_cons.mpr ⟨wtm (tb2 (List.mem_of_getElem? (i := 26) rfl)) rfl, List.forall_mem_cons.mpr ⟨wtm (tb2 (List.mem_of_getElem? (i := 28) rfl)) rfl, List.forall_mem_cons.mpr ⟨wtm (tb2 (List.mem_of_getElem? (i := 30) rfl)) rfl, List.forall_mem_cons.mpr ⟨wtm (tb2 (List.mem_of_getElem? (i := 32) rfl)) rfl, List.forall_mem_cons.mpr ⟨wtm (tb2 (List.mem_of_getElem? (i := 34) rfl)) rfl, List.forall_mem_cons.mpr ⟨wtm (tb2 (List.mem_of_getElem? (i := 36) rfl)) rfl, List.forall_mem_cons.mpr ⟨wtm (tb2 (List.mem_of_getElem? (i := 38) rfl)) rfl, List.forall_mem_cons.mpr ⟨wtm (tb2 (List.mem_of_getElem? (i := 40) rfl)) rfl, fun _ h => absurd h List.not_mem_nil⟩⟩⟩⟩⟩⟩⟩⟩⟩⟩⟩⟩
theorem inX8 : ∀ w ∈ u_ws RX8 TX8 33, w ∈ WT := by
  have e : u_ws RX8 TX8 33 = [u_lay RX8 TX8 0, u_lay RX8 TX8 1, u_lay RX8 TX8 2, u_lay RX8 TX8 3, u_lay RX8 TX8 4, u_lay RX8 TX8 5, u_lay RX8 TX8 6, u_lay RX8 TX8 7, u_lay RX8 TX8 8, u_lay RX8 TX8 9, u_lay RX8 TX8 10, u_lay RX8 TX8 11, u_lay RX8 TX8 12, u_lay RX8 TX8 13, u_lay RX8 TX8 14, u_lay RX8 TX8 15, u_lay RX8 TX8 16, u_lay RX8 TX8 17, u_lay RX8 TX8 18, u_lay RX8 TX8 19, u_lay RX8 TX8 20, u_lay RX8 TX8 21, u_lay RX8 TX8 22, u_lay RX8 TX8 23, u_lay RX8 TX8 24, u_lay RX8 TX8 25, u_lay RX8 TX8 26, u_lay RX8 TX8 27, u_lay RX8 TX8 28, u_lay RX8 TX8 29, u_lay RX8 TX8 30, u_lay RX8 TX8 31, u_lay RX8 TX8 32] := rfl
  rw [e]
  exact List.forall_mem_cons.mpr ⟨wtm (tb4 (List.mem_of_getElem? (i := 138) rfl)) rfl, List.forall_mem_cons.mpr ⟨wtm (tb4 (List.mem_of_getElem? (i := 140) rfl)) rfl, List.forall_mem_cons.mpr ⟨wtm (tb4 (List.mem_of_getElem? (i := 142) rfl)) rfl, List.forall_mem_cons.mpr ⟨wtm (tb4 (List.mem_of_getElem? (i := 144) rfl)) rfl, List.forall_mem_cons.mpr ⟨wtm (tb4 (List.mem_of_getElem? (i := 146) rfl)) rfl, List.forall_mem_cons.mpr ⟨wtm (tb4 (List.mem_of_getElem? (i := 148) rfl)) rfl, List.forall_mem_cons.mpr ⟨wtm (tb4 (List.mem_of_getElem? (i := 150) rfl)) rfl, List.forall_mem_cons.mpr ⟨wtm (tb4 (List.mem_of_getElem? (i := 152) rfl)) rfl, List.forall_mem_cons.mpr ⟨wtm (tb4 (List.mem_of_getElem? (i := 154) rfl)) rfl, List.forall_mem_cons.mpr ⟨wtm (tb4 (List.mem_of_getElem? (i := 156) rfl)) rfl, List.forall_mem_cons.mpr ⟨wtm (tb4 (List.mem_of_getElem? (i := 158) rfl)) rfl, List.forall_mem_cons.mpr ⟨wtm (tb4 (List.mem_of_getElem? (i := 160) rfl)) rfl, List.forall_mem_cons.mpr ⟨wtm (tb4 (List.mem_of_getElem? (i := 162) rfl)) rfl, List.forall_mem_cons.mpr ⟨wtm (tb4 (List.mem_of_getElem? (i := 164) rfl)) rfl, List.forall_mem_cons.mpr ⟨wtm (tb4 (List.mem_of_getElem? (i := 166) rfl)) rfl, List.forall_mem_cons.mpr ⟨wtm (tb4 (List.mem_of_getElem? (i := 168) rfl)) rfl, List.forall_mem_cons.mpr ⟨wtm (tb4 (List.mem_of_getElem? (i := 170) rfl)) rfl, List.forall_mem_cons.mpr ⟨wtm (tb4 (List.mem_of_getElem? (i := 172) rfl)) rfl, List.forall_mem_cons.mpr ⟨wtm (tb4 (List.mem_of_getElem? (i := 174) rfl)) rfl, List.forall_mem_cons.mpr ⟨wtm (tb4 (List.mem_of_getElem? (i := 176) rfl)) rfl, List.forall_mem_cons.mpr ⟨wtm (tb4 (List.mem_of_getElem? (i := 178) rfl)) rfl, List.forall_mem_cons.mpr ⟨wtm (tb4 (List.mem_of_getElem? (i := 180) rfl)) rfl, List.forall_mem_cons.mpr ⟨wtm (tb4 (List.mem_of_getElem? (i := 182) rfl)) rfl, List.forall_mem_cons.mpr ⟨wtm (tb4 (List.mem_of_getElem? (i := 184) rfl)) rfl, List.forall_mem_cons.mpr ⟨wtm (tb4 (List.mem_of_getElem? (i := 186) rfl)) rfl, List.forall_mem_cons.mpr ⟨wtm (tb4 (List.mem_of_getElem? (i := 188) rfl)) rfl, List.forall_mem_cons.mpr ⟨wtm (tb4 (List.mem_of_getElem? (i := 190) rfl)) rfl, List.forall_mem_cons.mpr ⟨wtm (tb4 (List.mem_of_getElem? (i := 192) rfl)) rfl, List.forall_mem_cons.mpr ⟨wtm (tb4 (List.mem_of_getElem? (i := 194) rfl)) rfl, List.forall_mem_cons.mpr ⟨wtm (tb4 (List.mem_of_getElem? (i := 196) rfl)) rfl, List.forall_mem_cons.mpr ⟨wtm (tb4 (List.mem_of_getElem? (i := 198) rfl)) rfl, List.forall_mem_cons.mpr ⟨wtm (tb4 (List.mem_of_getElem? (i := 200) rfl)) rfl, List.forall_mem_cons.mpr ⟨wtm (tb4 (List.mem_of_getElem? (i := 202) rfl)) rfl, fun _ h => absurd h List.not_mem_nil⟩⟩⟩⟩⟩⟩⟩⟩⟩⟩⟩⟩⟩⟩⟩⟩⟩⟩⟩⟩⟩⟩⟩⟩⟩⟩⟩⟩⟩⟩⟩⟩⟩
theorem w_1_40 : Cond.fieldLink RX0 21 "CamelParts$Estate" "seen" "I" ∈ WT := wtm (tb1 (List.mem_of_getElem? (i := 40) rfl)) rfl
theorem w_1_49 : Cond.fieldLink RX0 31 "CamelParts$Estate" "seenHeirs" "[I" ∈ WT := wtm (tb1 (List.mem_of_getElem? (i := 49) rfl)) rfl
theorem w_1_51 : Cond.fieldLink RX0 34 "CamelParts$Estate" "seenCamels" "[I" ∈ WT := wtm (tb1 (List.mem_of_getElem? (i := 51) rfl)) rfl
theorem w_1_30 : Cond.fieldLink RX0 9 "CamelParts$Estate" "camels" "I" ∈ WT := wtm (tb1 (List.mem_of_getElem? (i := 30) rfl)) rfl
theorem w_1_33 : Cond.fieldLink RX0 15 "CamelParts$Estate" "kind" "I" ∈ WT := wtm (tb1 (List.mem_of_getElem? (i := 33) rfl)) rfl
theorem w_1_36 : Cond.fieldLink RX0 18 "CamelParts$Estate" "heirs" "I" ∈ WT := wtm (tb1 (List.mem_of_getElem? (i := 36) rfl)) rfl
theorem w_1_43 : Cond.fieldLink RX0 24 "CamelParts$Estate" "ups" "[I" ∈ WT := wtm (tb1 (List.mem_of_getElem? (i := 43) rfl)) rfl
theorem w_1_46 : Cond.fieldLink RX0 28 "CamelParts$Estate" "downs" "[I" ∈ WT := wtm (tb1 (List.mem_of_getElem? (i := 46) rfl)) rfl
theorem w_1_220 : Cond.fieldLink RX1 18 "CamelParts$Finds" "greatest" "I" ∈ WT := wtm (tb1 (List.mem_of_getElem? (i := 220) rfl)) rfl
theorem w_1_219 : Cond.fieldLink RX1 15 "CamelParts$Finds" "least" "I" ∈ WT := wtm (tb1 (List.mem_of_getElem? (i := 219) rfl)) rfl
theorem w_1_217 : Cond.fieldLink RX1 9 "CamelParts$Finds" "number" "I" ∈ WT := wtm (tb1 (List.mem_of_getElem? (i := 217) rfl)) rfl
theorem w_1_86 : Cond.fieldLink RX2 32 "CamelParts$Parting" "heirs" "I" ∈ WT := wtm (tb1 (List.mem_of_getElem? (i := 86) rfl)) rfl
theorem w_1_84 : Cond.fieldLink RX2 25 "CamelParts$Parting" "gets" "[I" ∈ WT := wtm (tb1 (List.mem_of_getElem? (i := 84) rfl)) rfl
theorem w_1_85 : Cond.fieldLink RX2 29 "CamelParts$Parting" "gotBefore" "[I" ∈ WT := wtm (tb1 (List.mem_of_getElem? (i := 85) rfl)) rfl
theorem w_1_83 : Cond.fieldLink RX2 22 "CamelParts$Parting" "rests" "[J" ∈ WT := wtm (tb1 (List.mem_of_getElem? (i := 83) rfl)) rfl
theorem w_3_18 : Jvm.Cond.constantLong RX2 111 (-1) ∈ WT := wtm (tb3 (List.mem_of_getElem? (i := 18) rfl)) rfl
theorem w_1_87 : Cond.fieldLink RX2 36 "CamelParts$Parting" "kind" "I" ∈ WT := wtm (tb1 (List.mem_of_getElem? (i := 87) rfl)) rfl
theorem w_1_154 : Cond.fieldLink RX3 29 "CamelParts$Script" "flaw" "I" ∈ WT := wtm (tb1 (List.mem_of_getElem? (i := 154) rfl)) rfl
theorem w_1_148 : Cond.fieldLink RX3 12 "CamelParts$Script" "tape" "LCamelParts$Tape;" ∈ WT := wtm (tb1 (List.mem_of_getElem? (i := 148) rfl)) rfl
theorem w_1_127 : Cond.fieldLink RX3 130 "CamelParts$Tape" "start" "I" ∈ WT := wtm (tb1 (List.mem_of_getElem? (i := 127) rfl)) rfl
theorem w_1_156 : Cond.fieldLink RX3 32 "CamelParts$Script" "place" "I" ∈ WT := wtm (tb1 (List.mem_of_getElem? (i := 156) rfl)) rfl
theorem w_1_158 : Cond.fieldLink RX3 35 "CamelParts$Script" "awaited" "I" ∈ WT := wtm (tb1 (List.mem_of_getElem? (i := 158) rfl)) rfl
theorem w_1_235 : Cond.fieldLink RX4 9 "CamelParts$Sheet" "size" "I" ∈ WT := wtm (tb1 (List.mem_of_getElem? (i := 235) rfl)) rfl
theorem w_1_122 : Cond.fieldLink RX5 9 "CamelParts$Tape" "length" "I" ∈ WT := wtm (tb1 (List.mem_of_getElem? (i := 122) rfl)) rfl
theorem w_1_131 : Cond.fieldLink RX5 27 "CamelParts$Tape" "bytes" "[B" ∈ WT := wtm (tb1 (List.mem_of_getElem? (i := 131) rfl)) rfl
theorem w_1_130 : Cond.fieldLink RX5 24 "CamelParts$Tape" "next" "I" ∈ WT := wtm (tb1 (List.mem_of_getElem? (i := 130) rfl)) rfl
theorem w_1_195 : Cond.fieldLink RX6 31 "CamelParts$WillSearch" "sought" "I" ∈ WT := wtm (tb1 (List.mem_of_getElem? (i := 195) rfl)) rfl
theorem w_1_187 : Cond.fieldLink RX6 9 "CamelParts$WillSearch" "found" "I" ∈ WT := wtm (tb1 (List.mem_of_getElem? (i := 187) rfl)) rfl
theorem w_2_12 : Cond.fieldLink RX7 40 "CamelParts" "script" "LCamelParts$Script;" ∈ WT := wtm (tb2 (List.mem_of_getElem? (i := 12) rfl)) rfl
theorem w_1_155 : Cond.fieldLink RX7 93 "CamelParts$Script" "flaw" "I" ∈ WT := wtm (tb1 (List.mem_of_getElem? (i := 155) rfl)) rfl
theorem w_2_17 : Cond.fieldLink RX7 68 "CamelParts" "tornBy" "I" ∈ WT := wtm (tb2 (List.mem_of_getElem? (i := 17) rfl)) rfl
theorem w_4_106 : Cond.fieldLink RX8 13 "CamelPartsModel" "now" "[I" ∈ WT := wtm (tb4 (List.mem_of_getElem? (i := 106) rfl)) rfl
theorem w_4_122 : Cond.fieldLink RX8 30 "CamelPartsModel" "got" "[I" ∈ WT := wtm (tb4 (List.mem_of_getElem? (i := 122) rfl)) rfl
theorem w_4_105 : Cond.fieldLink RX8 7 "CamelPartsModel" "st" "[I" ∈ WT := wtm (tb4 (List.mem_of_getElem? (i := 105) rfl)) rfl
theorem w_4_112 : Cond.fieldLink RX8 79 "CamelPartsModel" "taped" "I" ∈ WT := wtm (tb4 (List.mem_of_getElem? (i := 112) rfl)) rfl
theorem w_4_111 : Cond.fieldLink RX8 23 "CamelPartsModel" "tape" "[I" ∈ WT := wtm (tb4 (List.mem_of_getElem? (i := 111) rfl)) rfl
theorem w_4_117 : Cond.fieldLink RX8 83 "CamelPartsModel" "fault" "I" ∈ WT := wtm (tb4 (List.mem_of_getElem? (i := 117) rfl)) rfl
theorem w_4_108 : Cond.fieldLink RX8 20 "CamelPartsModel" "draft" "[I" ∈ WT := wtm (tb4 (List.mem_of_getElem? (i := 108) rfl)) rfl
theorem w_4_109 : Cond.fieldLink RX8 66 "CamelPartsModel" "hasHerd" "Z" ∈ WT := wtm (tb4 (List.mem_of_getElem? (i := 109) rfl)) rfl
theorem w_4_110 : Cond.fieldLink RX8 70 "CamelPartsModel" "hasJudge" "Z" ∈ WT := wtm (tb4 (List.mem_of_getElem? (i := 110) rfl)) rfl
theorem w_4_119 : Cond.fieldLink RX8 26 "CamelPartsModel" "parts" "[J" ∈ WT := wtm (tb4 (List.mem_of_getElem? (i := 119) rfl)) rfl
theorem w_4_121 : Cond.fieldLink RX8 145 "CamelPartsModel" "allParts" "J" ∈ WT := wtm (tb4 (List.mem_of_getElem? (i := 121) rfl)) rfl
theorem w_4_123 : Cond.fieldLink RX8 33 "CamelPartsModel" "isRisen" "[Z" ∈ WT := wtm (tb4 (List.mem_of_getElem? (i := 123) rfl)) rfl
theorem w_4_107 : Cond.fieldLink RX8 16 "CamelPartsModel" "isKept" "[Z" ∈ WT := wtm (tb4 (List.mem_of_getElem? (i := 107) rfl)) rfl
theorem w_4_114 : Cond.fieldLink RX8 86 "CamelPartsModel" "begun" "I" ∈ WT := wtm (tb4 (List.mem_of_getElem? (i := 114) rfl)) rfl
theorem w_4_118 : Cond.fieldLink RX8 89 "CamelPartsModel" "wrongAt" "I" ∈ WT := wtm (tb4 (List.mem_of_getElem? (i := 118) rfl)) rfl
theorem w_4_120 : Cond.fieldLink RX8 141 "CamelPartsModel" "under" "J" ∈ WT := wtm (tb4 (List.mem_of_getElem? (i := 120) rfl)) rfl
theorem w_4_128 : Cond.fieldLink RX8 42 "CamelPartsModel" "was" "[I" ∈ WT := wtm (tb4 (List.mem_of_getElem? (i := 128) rfl)) rfl
theorem w_4_136 : Cond.fieldLink RX8 286 "CamelPartsModel" "torn" "I" ∈ WT := wtm (tb4 (List.mem_of_getElem? (i := 136) rfl)) rfl
theorem w_4_125 : Cond.fieldLink RX8 216 "CamelPartsModel" "divisorMany" "I" ∈ WT := wtm (tb4 (List.mem_of_getElem? (i := 125) rfl)) rfl
theorem w_4_127 : Cond.fieldLink RX8 219 "CamelPartsModel" "found" "I" ∈ WT := wtm (tb4 (List.mem_of_getElem? (i := 127) rfl)) rfl
theorem w_4_124 : Cond.fieldLink RX8 36 "CamelPartsModel" "divisors" "[I" ∈ WT := wtm (tb4 (List.mem_of_getElem? (i := 124) rfl)) rfl
theorem w_4_126 : Cond.fieldLink RX8 39 "CamelPartsModel" "row" "[I" ∈ WT := wtm (tb4 (List.mem_of_getElem? (i := 126) rfl)) rfl
theorem w_3_100 : Cond.methodLink RX0 41 yX0_has ∈ WT := wtm (tb3 (List.mem_of_getElem? (i := 100) rfl)) rfl
theorem w_1_82 : Cond.fieldLink RX2 18 "CamelParts$Parting" "weights" "[J" ∈ WT := wtm (tb1 (List.mem_of_getElem? (i := 82) rfl)) rfl
theorem w_3_27 : Cond.methodLink RX2 116 yX2_rowDivisor ∈ WT := wtm (tb3 (List.mem_of_getElem? (i := 27) rfl)) rfl
theorem w_1_88 : Cond.fieldLink RX2 39 "CamelParts$Parting" "camels" "I" ∈ WT := wtm (tb1 (List.mem_of_getElem? (i := 88) rfl)) rfl
theorem w_1_80 : Cond.fieldLink RX2 15 "CamelParts$Parting" "all" "J" ∈ WT := wtm (tb1 (List.mem_of_getElem? (i := 80) rfl)) rfl
theorem w_3_4 : Cond.methodLink RX2 113 Lib.MathLoose.max_long.x ∈ WT := wtm (tb3 (List.mem_of_getElem? (i := 4) rfl)) rfl
theorem w_3_5 : Cond.static Lib.MathLoose.max_long.x ∈ WT := wtm (tb3 (List.mem_of_getElem? (i := 5) rfl)) rfl
theorem w_1_15 : Cond.initialized "java/lang/Math" ∈ WT := wtm (tb1 (List.mem_of_getElem? (i := 15) rfl)) rfl
theorem w_3_6 : Cond.code Lib.MathLoose.max_long.x Lib.MathLoose.max_long.code 4 (some .long) ∈ WT := wtm (tb3 (List.mem_of_getElem? (i := 6) rfl)) rfl
theorem w_1_78 : Cond.fieldLink RX2 9 "CamelParts$Parting" "common" "J" ∈ WT := wtm (tb1 (List.mem_of_getElem? (i := 78) rfl)) rfl
theorem w_2_233 : Cond.methodLink RX2 94 Lib.MathLoose.min_long.x ∈ WT := wtm (tb2 (List.mem_of_getElem? (i := 233) rfl)) rfl
theorem w_2_234 : Cond.static Lib.MathLoose.min_long.x ∈ WT := wtm (tb2 (List.mem_of_getElem? (i := 234) rfl)) rfl
theorem w_2_235 : Cond.code Lib.MathLoose.min_long.x Lib.MathLoose.min_long.code 4 (some .long) ∈ WT := wtm (tb2 (List.mem_of_getElem? (i := 235) rfl)) rfl
theorem w_3_183 : Cond.methodLink RX2 81 yX2_got ∈ WT := wtm (tb3 (List.mem_of_getElem? (i := 183) rfl)) rfl
theorem w_1_41 : Cond.fieldLink RX2 85 "CamelParts$Estate" "seen" "I" ∈ WT := wtm (tb1 (List.mem_of_getElem? (i := 41) rfl)) rfl
theorem w_1_50 : Cond.fieldLink RX2 88 "CamelParts$Estate" "seenHeirs" "[I" ∈ WT := wtm (tb1 (List.mem_of_getElem? (i := 50) rfl)) rfl
theorem w_1_52 : Cond.fieldLink RX2 91 "CamelParts$Estate" "seenCamels" "[I" ∈ WT := wtm (tb1 (List.mem_of_getElem? (i := 52) rfl)) rfl
theorem w_3_48 : Cond.methodLink RX2 71 Lib.MathLoose.abs_long.x ∈ WT := wtm (tb3 (List.mem_of_getElem? (i := 48) rfl)) rfl
theorem w_3_49 : Cond.static Lib.MathLoose.abs_long.x ∈ WT := wtm (tb3 (List.mem_of_getElem? (i := 49) rfl)) rfl
theorem w_3_50 : Cond.code Lib.MathLoose.abs_long.x Lib.MathLoose.abs_long.code 2 (some .long) ∈ WT := wtm (tb3 (List.mem_of_getElem? (i := 50) rfl)) rfl
theorem w_1_37 : Cond.fieldLink RX2 42 "CamelParts$Estate" "heirs" "I" ∈ WT := wtm (tb1 (List.mem_of_getElem? (i := 37) rfl)) rfl
theorem w_1_47 : Cond.fieldLink RX2 45 "CamelParts$Estate" "downs" "[I" ∈ WT := wtm (tb1 (List.mem_of_getElem? (i := 47) rfl)) rfl
theorem w_1_44 : Cond.fieldLink RX2 52 "CamelParts$Estate" "ups" "[I" ∈ WT := wtm (tb1 (List.mem_of_getElem? (i := 44) rfl)) rfl
theorem w_2_97 : Cond.methodLink RX3 63 yX3_refuse ∈ WT := wtm (tb2 (List.mem_of_getElem? (i := 97) rfl)) rfl
theorem w_1_125 : Cond.fieldLink RX3 60 "CamelParts$Tape" "sort" "I" ∈ WT := wtm (tb1 (List.mem_of_getElem? (i := 125) rfl)) rfl
theorem w_1_152 : Cond.fieldLink RX3 25 "CamelParts$Script" "lines" "I" ∈ WT := wtm (tb1 (List.mem_of_getElem? (i := 152) rfl)) rfl
theorem w_4_70 : Cond.methodLink RX4 28 yX4_flawAt ∈ WT := wtm (tb4 (List.mem_of_getElem? (i := 70) rfl)) rfl
theorem w_1_238 : Cond.fieldLink RX4 18 "CamelParts$Sheet" "cells" "[I" ∈ WT := wtm (tb1 (List.mem_of_getElem? (i := 238) rfl)) rfl
theorem w_1_237 : Cond.fieldLink RX4 15 "CamelParts$Sheet" "lane" "I" ∈ WT := wtm (tb1 (List.mem_of_getElem? (i := 237) rfl)) rfl
theorem w_4_57 : Cond.methodLink RX4 22 Lib.Math.min.name ∈ WT := wtm (tb4 (List.mem_of_getElem? (i := 57) rfl)) rfl
theorem w_3_126 : Cond.static Lib.Math.min.name ∈ WT := wtm (tb3 (List.mem_of_getElem? (i := 126) rfl)) rfl
theorem w_3_127 : Cond.code Lib.Math.min.name Lib.Math.min.code 2 (some .int) ∈ WT := wtm (tb3 (List.mem_of_getElem? (i := 127) rfl)) rfl
theorem w_1_192 : Cond.fieldLink RX6 22 "CamelParts$WillSearch" "downsFound" "I" ∈ WT := wtm (tb1 (List.mem_of_getElem? (i := 192) rfl)) rfl
theorem w_1_193 : Cond.fieldLink RX6 25 "CamelParts$WillSearch" "camels" "I" ∈ WT := wtm (tb1 (List.mem_of_getElem? (i := 193) rfl)) rfl
theorem w_1_191 : Cond.fieldLink RX6 19 "CamelParts$WillSearch" "downs" "[I" ∈ WT := wtm (tb1 (List.mem_of_getElem? (i := 191) rfl)) rfl
theorem w_2_6 : Cond.fieldLink RX7 10 "CamelParts" "estate" "LCamelParts$Estate;" ∈ WT := wtm (tb2 (List.mem_of_getElem? (i := 6) rfl)) rfl
theorem w_3_36 : Cond.methodLink RX7 142 yX0_has ∈ WT := wtm (tb3 (List.mem_of_getElem? (i := 36) rfl)) rfl
theorem w_2_47 : Cond.methodLink RX7 73 yX7_within ∈ WT := wtm (tb2 (List.mem_of_getElem? (i := 47) rfl)) rfl
theorem w_1_45 : Cond.fieldLink RX7 146 "CamelParts$Estate" "ups" "[I" ∈ WT := wtm (tb1 (List.mem_of_getElem? (i := 45) rfl)) rfl
theorem w_1_48 : Cond.fieldLink RX7 149 "CamelParts$Estate" "downs" "[I" ∈ WT := wtm (tb1 (List.mem_of_getElem? (i := 48) rfl)) rfl
theorem w_2_9 : Cond.fieldLink RX7 23 "CamelParts" "kept" "[Z" ∈ WT := wtm (tb2 (List.mem_of_getElem? (i := 9) rfl)) rfl
theorem w_2_8 : Cond.fieldLink RX7 19 "CamelParts" "images" "[LCamelParts$Estate;" ∈ WT := wtm (tb2 (List.mem_of_getElem? (i := 8) rfl)) rfl
theorem w_2_195 : Cond.methodLink RX7 102 yX0_copy ∈ WT := wtm (tb2 (List.mem_of_getElem? (i := 195) rfl)) rfl
theorem w_1_31 : Cond.fieldLink RX7 112 "CamelParts$Estate" "camels" "I" ∈ WT := wtm (tb1 (List.mem_of_getElem? (i := 31) rfl)) rfl
theorem w_3_63 : Cond.methodLink RX7 294 yX7_remainder ∈ WT := wtm (tb3 (List.mem_of_getElem? (i := 63) rfl)) rfl
theorem w_1_149 : Cond.fieldLink RX7 77 "CamelParts$Script" "tape" "LCamelParts$Tape;" ∈ WT := wtm (tb1 (List.mem_of_getElem? (i := 149) rfl)) rfl
theorem w_1_123 : Cond.fieldLink RX7 87 "CamelParts$Tape" "length" "I" ∈ WT := wtm (tb1 (List.mem_of_getElem? (i := 123) rfl)) rfl
theorem w_2_50 : Cond.methodLink RX7 81 yX5_append ∈ WT := wtm (tb2 (List.mem_of_getElem? (i := 50) rfl)) rfl
theorem w_1_42 : Cond.fieldLink RX7 231 "CamelParts$Estate" "seen" "I" ∈ WT := wtm (tb1 (List.mem_of_getElem? (i := 42) rfl)) rfl
theorem w_3_208 : Cond.methodLink RX7 224 yX7_power ∈ WT := wtm (tb3 (List.mem_of_getElem? (i := 208) rfl)) rfl
theorem w_3_64 : Cond.methodLink RX7 291 yX7_quotient ∈ WT := wtm (tb3 (List.mem_of_getElem? (i := 64) rfl)) rfl
theorem w_4_210 : Cond.methodLink RX8 75 yX8_in ∈ WT := wtm (tb4 (List.mem_of_getElem? (i := 210) rfl)) rfl
theorem w_6_23 : Cond.methodLink RX8 275 yX8_copies ∈ WT := wtm (tb6 (List.mem_of_getElem? (i := 23) rfl)) rfl
theorem w_5_99 : Jvm.Cond.constantLong RX8 198 (9) ∈ WT := wtm (tb5 (List.mem_of_getElem? (i := 99) rfl)) rfl
theorem w_5_100 : Jvm.Cond.constantLong RX8 200 (99) ∈ WT := wtm (tb5 (List.mem_of_getElem? (i := 100) rfl)) rfl
theorem w_5_29 : Cond.methodLink RX8 148 yX8_reckons ∈ WT := wtm (tb5 (List.mem_of_getElem? (i := 29) rfl)) rfl
theorem w_4_209 : Jvm.Cond.constantLong RX8 73 (127) ∈ WT := wtm (tb4 (List.mem_of_getElem? (i := 209) rfl)) rfl
theorem w_5_66 : Cond.methodLink RX8 164 yX8_isOff ∈ WT := wtm (tb5 (List.mem_of_getElem? (i := 66) rfl)) rfl
theorem w_5_101 : Cond.methodLink RX8 202 yX8_becomes ∈ WT := wtm (tb5 (List.mem_of_getElem? (i := 101) rfl)) rfl
theorem w_5_49 : Cond.methodLink RX8 157 yX8_givesRow ∈ WT := wtm (tb5 (List.mem_of_getElem? (i := 49) rfl)) rfl
theorem w_5_45 : Cond.methodLink RX8 154 yX8_givesRests ∈ WT := wtm (tb5 (List.mem_of_getElem? (i := 45) rfl)) rfl
theorem w_5_41 : Cond.methodLink RX8 151 yX8_givesTold ∈ WT := wtm (tb5 (List.mem_of_getElem? (i := 41) rfl)) rfl
theorem w_5_109 : Jvm.Cond.constantLong RX8 205 (999) ∈ WT := wtm (tb5 (List.mem_of_getElem? (i := 109) rfl)) rfl
theorem w_4_113 : Cond.fieldLink RX8 92 "CamelPartsModel" "pos" "I" ∈ WT := wtm (tb4 (List.mem_of_getElem? (i := 113) rfl)) rfl
theorem w_4_225 : Cond.methodLink RX8 95 yX8_byteAt ∈ WT := wtm (tb4 (List.mem_of_getElem? (i := 225) rfl)) rfl
theorem w_5_65 : Jvm.Cond.constantLong RX8 139 (3) ∈ WT := wtm (tb5 (List.mem_of_getElem? (i := 65) rfl)) rfl
theorem w_5_232 : Jvm.Cond.constantLong RX8 260 (2) ∈ WT := wtm (tb5 (List.mem_of_getElem? (i := 232) rfl)) rfl
theorem w_5_148 : Jvm.Cond.constantLong RX8 222 (4) ∈ WT := wtm (tb5 (List.mem_of_getElem? (i := 148) rfl)) rfl
theorem w_5_70 : Cond.methodLink RX8 181 yX8_flag ∈ WT := wtm (tb5 (List.mem_of_getElem? (i := 70) rfl)) rfl
theorem w_5_83 : Cond.methodLink RX8 185 yX8_common ∈ WT := wtm (tb5 (List.mem_of_getElem? (i := 83) rfl)) rfl
theorem w_4_229 : Jvm.Cond.constantLong RX8 106 (97) ∈ WT := wtm (tb4 (List.mem_of_getElem? (i := 229) rfl)) rfl
theorem w_4_230 : Jvm.Cond.constantLong RX8 108 (122) ∈ WT := wtm (tb4 (List.mem_of_getElem? (i := 230) rfl)) rfl
theorem w_4_231 : Jvm.Cond.constantLong RX8 110 (48) ∈ WT := wtm (tb4 (List.mem_of_getElem? (i := 231) rfl)) rfl
theorem w_4_232 : Jvm.Cond.constantLong RX8 112 (57) ∈ WT := wtm (tb4 (List.mem_of_getElem? (i := 232) rfl)) rfl
theorem w_4_115 : Cond.fieldLink RX8 103 "CamelPartsModel" "sort" "I" ∈ WT := wtm (tb4 (List.mem_of_getElem? (i := 115) rfl)) rfl
theorem w_4_233 : Cond.methodLink RX8 117 yX8_needs ∈ WT := wtm (tb4 (List.mem_of_getElem? (i := 233) rfl)) rfl
theorem w_4_116 : Cond.fieldLink RX8 114 "CamelPartsModel" "value" "I" ∈ WT := wtm (tb4 (List.mem_of_getElem? (i := 116) rfl)) rfl
theorem w_3_174 : Cond.methodLink RX2 77 yX2_isOff ∈ WT := wtm (tb3 (List.mem_of_getElem? (i := 174) rfl)) rfl
theorem w_3_0 : Cond.methodLink RX2 97 yX2_giveQuotasLess ∈ WT := wtm (tb3 (List.mem_of_getElem? (i := 0) rfl)) rfl
theorem w_3_10 : Cond.methodLink RX2 104 yX2_given ∈ WT := wtm (tb3 (List.mem_of_getElem? (i := 10) rfl)) rfl
theorem w_3_14 : Cond.methodLink RX2 108 yX2_giveByGreatestRest ∈ WT := wtm (tb3 (List.mem_of_getElem? (i := 14) rfl)) rfl
theorem w_3_23 : Cond.methodLink RX2 64 yX2_giveNext ∈ WT := wtm (tb3 (List.mem_of_getElem? (i := 23) rfl)) rfl
theorem w_1_124 : Cond.fieldLink RX5 15 "CamelParts$Tape" "sort" "I" ∈ WT := wtm (tb1 (List.mem_of_getElem? (i := 124) rfl)) rfl
theorem w_2_78 : Cond.methodLink RX5 31 yX5_isLetter ∈ WT := wtm (tb2 (List.mem_of_getElem? (i := 78) rfl)) rfl
theorem w_1_128 : Cond.fieldLink RX5 21 "CamelParts$Tape" "value" "I" ∈ WT := wtm (tb1 (List.mem_of_getElem? (i := 128) rfl)) rfl
theorem w_1_126 : Cond.fieldLink RX5 18 "CamelParts$Tape" "start" "I" ∈ WT := wtm (tb1 (List.mem_of_getElem? (i := 126) rfl)) rfl
theorem w_2_86 : Cond.methodLink RX5 38 yX5_isFigure ∈ WT := wtm (tb2 (List.mem_of_getElem? (i := 86) rfl)) rfl
theorem w_3_91 : Cond.methodLink RX7 170 yX0_add ∈ WT := wtm (tb3 (List.mem_of_getElem? (i := 91) rfl)) rfl
theorem w_3_96 : Cond.methodLink RX7 174 yX0_remove ∈ WT := wtm (tb3 (List.mem_of_getElem? (i := 96) rfl)) rfl
theorem w_1_39 : Cond.fieldLink RX7 109 "CamelParts$Estate" "heirs" "I" ∈ WT := wtm (tb1 (List.mem_of_getElem? (i := 39) rfl)) rfl
theorem w_3_59 : Cond.methodLink RX7 281 Lib.MathLoose.abs_long.x ∈ WT := wtm (tb3 (List.mem_of_getElem? (i := 59) rfl)) rfl
theorem w_3_60 : Cond.methodLink RX7 287 yX7_divisor ∈ WT := wtm (tb3 (List.mem_of_getElem? (i := 60) rfl)) rfl
theorem w_3_81 : Cond.methodLink RX7 164 yX7_isHerd ∈ WT := wtm (tb3 (List.mem_of_getElem? (i := 81) rfl)) rfl
theorem w_3_86 : Cond.methodLink RX7 167 yX7_isKind ∈ WT := wtm (tb3 (List.mem_of_getElem? (i := 86) rfl)) rfl
theorem w_1_35 : Cond.fieldLink RX7 115 "CamelParts$Estate" "kind" "I" ∈ WT := wtm (tb1 (List.mem_of_getElem? (i := 35) rfl)) rfl
theorem w_4_47 : Cond.methodLink RX7 257 yX7_isSheet ∈ WT := wtm (tb4 (List.mem_of_getElem? (i := 47) rfl)) rfl
theorem w_2_16 : Cond.fieldLink RX7 64 "CamelParts" "sheets" "[LCamelParts$Sheet;" ∈ WT := wtm (tb2 (List.mem_of_getElem? (i := 16) rfl)) rfl
theorem w_4_62 : Cond.methodLink RX7 266 yX4_flawAt ∈ WT := wtm (tb4 (List.mem_of_getElem? (i := 62) rfl)) rfl
theorem w_4_66 : Cond.methodLink RX7 269 yX4_put ∈ WT := wtm (tb4 (List.mem_of_getElem? (i := 66) rfl)) rfl
theorem w_4_50 : Cond.methodLink RX7 260 yX7_isLane ∈ WT := wtm (tb4 (List.mem_of_getElem? (i := 50) rfl)) rfl
theorem w_4_75 : Cond.methodLink RX7 272 yX4_pairFlaw ∈ WT := wtm (tb4 (List.mem_of_getElem? (i := 75) rfl)) rfl
theorem w_4_79 : Cond.methodLink RX7 275 yX4_cell ∈ WT := wtm (tb4 (List.mem_of_getElem? (i := 79) rfl)) rfl
theorem w_3_219 : Cond.methodLink RX7 228 yX0_addSeen ∈ WT := wtm (tb3 (List.mem_of_getElem? (i := 219) rfl)) rfl
theorem w_3_109 : Cond.methodLink RX7 181 yX7_wholePart ∈ WT := wtm (tb3 (List.mem_of_getElem? (i := 109) rfl)) rfl
theorem w_4_53 : Cond.methodLink RX7 263 yX4_renew ∈ WT := wtm (tb4 (List.mem_of_getElem? (i := 53) rfl)) rfl
theorem w_5_61 : Cond.methodLink RX8 177 yX8_isHeir ∈ WT := wtm (tb5 (List.mem_of_getElem? (i := 61) rfl)) rfl
theorem w_5_77 : Cond.methodLink RX8 189 yX8_isPart ∈ WT := wtm (tb5 (List.mem_of_getElem? (i := 77) rfl)) rfl
theorem w_5_25 : Cond.methodLink RX8 168 yX8_starts ∈ WT := wtm (tb5 (List.mem_of_getElem? (i := 25) rfl)) rfl
theorem w_5_37 : Cond.methodLink RX8 161 yX8_gives ∈ WT := wtm (tb5 (List.mem_of_getElem? (i := 37) rfl)) rfl
theorem w_5_114 : Cond.methodLink RX8 207 yX8_isKind ∈ WT := wtm (tb5 (List.mem_of_getElem? (i := 114) rfl)) rfl
theorem w_5_125 : Cond.methodLink RX8 210 yX8_dropsNow ∈ WT := wtm (tb5 (List.mem_of_getElem? (i := 125) rfl)) rfl
theorem w_6_17 : Jvm.Cond.constantLong RX8 272 (60) ∈ WT := wtm (tb6 (List.mem_of_getElem? (i := 17) rfl)) rfl
theorem w_6_18 : Jvm.Cond.constant RX8 274 (1103515245) ∈ WT := wtm (tb6 (List.mem_of_getElem? (i := 18) rfl)) rfl
theorem w_5_178 : Cond.methodLink RX8 236 yX8_firstOff ∈ WT := wtm (tb5 (List.mem_of_getElem? (i := 178) rfl)) rfl
theorem w_4_129 : Cond.fieldLink RX8 239 "CamelPartsModel" "getSum" "J" ∈ WT := wtm (tb4 (List.mem_of_getElem? (i := 129) rfl)) rfl
theorem w_4_130 : Cond.fieldLink RX8 242 "CamelPartsModel" "enoughSum" "J" ∈ WT := wtm (tb4 (List.mem_of_getElem? (i := 130) rfl)) rfl
theorem w_4_131 : Cond.fieldLink RX8 245 "CamelPartsModel" "allWays" "J" ∈ WT := wtm (tb4 (List.mem_of_getElem? (i := 131) rfl)) rfl
theorem w_5_202 : Jvm.Cond.constantLong RX8 248 (10) ∈ WT := wtm (tb5 (List.mem_of_getElem? (i := 202) rfl)) rfl
theorem w_5_224 : Cond.methodLink RX8 256 yX8_isSo ∈ WT := wtm (tb5 (List.mem_of_getElem? (i := 224) rfl)) rfl
theorem w_5_169 : Jvm.Cond.constantLong RX8 231 (200) ∈ WT := wtm (tb5 (List.mem_of_getElem? (i := 169) rfl)) rfl
theorem w_6_35 : Cond.methodLink RX8 278 yX8_isSheet ∈ WT := wtm (tb6 (List.mem_of_getElem? (i := 35) rfl)) rfl
theorem w_4_133 : Cond.fieldLink RX8 48 "CamelPartsModel" "lanes" "[I" ∈ WT := wtm (tb4 (List.mem_of_getElem? (i := 133) rfl)) rfl
theorem w_4_134 : Cond.fieldLink RX8 51 "CamelPartsModel" "sizes" "[I" ∈ WT := wtm (tb4 (List.mem_of_getElem? (i := 134) rfl)) rfl
theorem w_4_135 : Cond.fieldLink RX8 54 "CamelPartsModel" "cells" "[I" ∈ WT := wtm (tb4 (List.mem_of_getElem? (i := 135) rfl)) rfl
theorem w_5_133 : Cond.methodLink RX8 213 yX8_isWhole ∈ WT := wtm (tb5 (List.mem_of_getElem? (i := 133) rfl)) rfl
theorem w_5_5 : Cond.methodLink RX8 99 yX8_is ∈ WT := wtm (tb5 (List.mem_of_getElem? (i := 5) rfl)) rfl
theorem w_5_170 : Cond.methodLink RX8 233 yX8_remembers ∈ WT := wtm (tb5 (List.mem_of_getElem? (i := 170) rfl)) rfl
theorem w_6_46 : Jvm.Cond.constantLong RX8 281 (20) ∈ WT := wtm (tb6 (List.mem_of_getElem? (i := 46) rfl)) rfl
theorem w_4_137 : Cond.fieldLink RX8 57 "CamelPartsModel" "before" "[I" ∈ WT := wtm (tb4 (List.mem_of_getElem? (i := 137) rfl)) rfl
theorem w_6_47 : Cond.methodLink RX8 283 yX8_bear ∈ WT := wtm (tb6 (List.mem_of_getElem? (i := 47) rfl)) rfl
theorem w_4_221 : Cond.methodLink RX8 121 yX8_takes ∈ WT := wtm (tb4 (List.mem_of_getElem? (i := 221) rfl)) rfl
theorem w_5_80 : Cond.methodLink RX8 192 yX8_lowest ∈ WT := wtm (tb5 (List.mem_of_getElem? (i := 80) rfl)) rfl
theorem w_5_86 : Jvm.Cond.constantLong RX8 196 (-1) ∈ WT := wtm (tb5 (List.mem_of_getElem? (i := 86) rfl)) rfl
theorem w_5_145 : Cond.methodLink RX8 224 yX8_isWill ∈ WT := wtm (tb5 (List.mem_of_getElem? (i := 145) rfl)) rfl
theorem w_5_149 : Cond.methodLink RX8 227 yX8_walksWills ∈ WT := wtm (tb5 (List.mem_of_getElem? (i := 149) rfl)) rfl
theorem w_3_19 : Cond.methodLink RX2 61 yX2_giveByRow ∈ WT := wtm (tb3 (List.mem_of_getElem? (i := 19) rfl)) rfl
theorem w_2_236 : Cond.methodLink RX2 58 yX2_giveByRests ∈ WT := wtm (tb2 (List.mem_of_getElem? (i := 236) rfl)) rfl
theorem w_2_229 : Cond.methodLink RX2 55 yX2_giveTold ∈ WT := wtm (tb2 (List.mem_of_getElem? (i := 229) rfl)) rfl
theorem w_1_129 : Cond.fieldLink RX3 110 "CamelParts$Tape" "value" "I" ∈ WT := wtm (tb1 (List.mem_of_getElem? (i := 129) rfl)) rfl
theorem w_2_109 : Cond.methodLink RX3 113 yX3_isInBounds ∈ WT := wtm (tb2 (List.mem_of_getElem? (i := 109) rfl)) rfl
theorem w_1_150 : Cond.fieldLink RX3 21 "CamelParts$Script" "draft" "LCamelParts$Estate;" ∈ WT := wtm (tb1 (List.mem_of_getElem? (i := 150) rfl)) rfl
theorem w_1_32 : Cond.fieldLink RX3 120 "CamelParts$Estate" "camels" "I" ∈ WT := wtm (tb1 (List.mem_of_getElem? (i := 32) rfl)) rfl
theorem w_1_159 : Cond.fieldLink RX3 38 "CamelParts$Script" "up" "I" ∈ WT := wtm (tb1 (List.mem_of_getElem? (i := 159) rfl)) rfl
theorem w_2_117 : Cond.methodLink RX3 116 yX0_add ∈ WT := wtm (tb2 (List.mem_of_getElem? (i := 117) rfl)) rfl
theorem w_2_89 : Cond.methodLink RX5 41 yX5_takeNumber ∈ WT := wtm (tb2 (List.mem_of_getElem? (i := 89) rfl)) rfl
theorem w_2_82 : Cond.methodLink RX5 35 yX5_takeName ∈ WT := wtm (tb2 (List.mem_of_getElem? (i := 82) rfl)) rfl
theorem w_3_105 : Cond.methodLink RX7 178 yX7_sharedWhole ∈ WT := wtm (tb3 (List.mem_of_getElem? (i := 105) rfl)) rfl
theorem w_2_10 : Cond.fieldLink RX7 30 "CamelParts" "parting" "LCamelParts$Parting;" ∈ WT := wtm (tb2 (List.mem_of_getElem? (i := 10) rfl)) rfl
theorem w_2_207 : Cond.methodLink RX7 118 yX2_load ∈ WT := wtm (tb2 (List.mem_of_getElem? (i := 207) rfl)) rfl
theorem w_1_81 : Cond.fieldLink RX7 121 "CamelParts$Parting" "all" "J" ∈ WT := wtm (tb1 (List.mem_of_getElem? (i := 81) rfl)) rfl
theorem w_1_79 : Cond.fieldLink RX7 125 "CamelParts$Parting" "common" "J" ∈ WT := wtm (tb1 (List.mem_of_getElem? (i := 79) rfl)) rfl
theorem w_3_56 : Cond.methodLink RX7 160 yX7_fraction ∈ WT := wtm (tb3 (List.mem_of_getElem? (i := 56) rfl)) rfl
theorem w_3_55 : Jvm.Cond.constantLong RX7 158 (-1) ∈ WT := wtm (tb3 (List.mem_of_getElem? (i := 55) rfl)) rfl
theorem w_4_132 : Cond.fieldLink RX8 45 "CamelPartsModel" "ways" "[I" ∈ WT := wtm (tb4 (List.mem_of_getElem? (i := 132) rfl)) rfl
theorem w_5_233 : Cond.methodLink RX8 262 yX8_isHerdSo ∈ WT := wtm (tb5 (List.mem_of_getElem? (i := 233) rfl)) rfl
theorem w_5_33 : Cond.methodLink RX8 171 yX8_givesNow ∈ WT := wtm (tb5 (List.mem_of_getElem? (i := 33) rfl)) rfl
theorem w_5_53 : Cond.methodLink RX8 174 yX8_allGot ∈ WT := wtm (tb5 (List.mem_of_getElem? (i := 53) rfl)) rfl
theorem w_5_237 : Cond.methodLink RX8 265 yX8_ofThree ∈ WT := wtm (tb5 (List.mem_of_getElem? (i := 237) rfl)) rfl
theorem w_5_204 : Cond.methodLink RX8 252 yX8_findOdds ∈ WT := wtm (tb5 (List.mem_of_getElem? (i := 204) rfl)) rfl
theorem w_5_203 : Jvm.Cond.constantLong RX8 250 (-2) ∈ WT := wtm (tb5 (List.mem_of_getElem? (i := 203) rfl)) rfl
theorem w_5_13 : Cond.methodLink RX8 124 yX8_readNumber ∈ WT := wtm (tb5 (List.mem_of_getElem? (i := 13) rfl)) rfl
theorem w_3_161 : Cond.methodLink RX2 67 yX2_part ∈ WT := wtm (tb3 (List.mem_of_getElem? (i := 161) rfl)) rfl
theorem w_2_225 : Cond.methodLink RX7 194 yX2_part ∈ WT := wtm (tb2 (List.mem_of_getElem? (i := 225) rfl)) rfl
theorem w_3_40 : Cond.methodLink RX7 152 yX2_got ∈ WT := wtm (tb3 (List.mem_of_getElem? (i := 40) rfl)) rfl
theorem w_2_14 : Cond.fieldLink RX7 54 "CamelParts" "finds" "LCamelParts$Finds;" ∈ WT := wtm (tb2 (List.mem_of_getElem? (i := 14) rfl)) rfl
theorem w_4_3 : Cond.methodLink RX7 244 yX1_clear ∈ WT := wtm (tb4 (List.mem_of_getElem? (i := 3) rfl)) rfl
theorem w_2_7 : Cond.fieldLink RX7 16 "CamelParts" "scratch" "LCamelParts$Estate;" ∈ WT := wtm (tb2 (List.mem_of_getElem? (i := 7) rfl)) rfl
theorem w_4_11 : Cond.methodLink RX7 241 yX1_answer ∈ WT := wtm (tb4 (List.mem_of_getElem? (i := 11) rfl)) rfl
theorem w_3_231 : Cond.methodLink RX7 234 yX2_isAsSeen ∈ WT := wtm (tb3 (List.mem_of_getElem? (i := 231) rfl)) rfl
theorem w_4_7 : Cond.methodLink RX7 247 yX1_note ∈ WT := wtm (tb4 (List.mem_of_getElem? (i := 7) rfl)) rfl
theorem w_4_34 : Jvm.Cond.constant RX7 256 (1103515245) ∈ WT := wtm (tb4 (List.mem_of_getElem? (i := 34) rfl)) rfl
theorem w_3_170 : Cond.methodLink RX7 208 yX2_firstOff ∈ WT := wtm (tb3 (List.mem_of_getElem? (i := 170) rfl)) rfl
theorem w_6_5 : Cond.methodLink RX8 269 yX8_isDownSo ∈ WT := wtm (tb6 (List.mem_of_getElem? (i := 5) rfl)) rfl
theorem w_5_1 : Cond.methodLink RX8 128 yX8_lineNow ∈ WT := wtm (tb5 (List.mem_of_getElem? (i := 1) rfl)) rfl
theorem w_5_9 : Cond.methodLink RX8 132 yX8_readLineOf ∈ WT := wtm (tb5 (List.mem_of_getElem? (i := 9) rfl)) rfl
theorem w_2_221 : Cond.methodLink RX7 198 yX7_partOf ∈ WT := wtm (tb2 (List.mem_of_getElem? (i := 221) rfl)) rfl
theorem w_3_157 : Cond.methodLink RX7 202 yX2_grow ∈ WT := wtm (tb3 (List.mem_of_getElem? (i := 157) rfl)) rfl
theorem w_2_15 : Cond.fieldLink RX7 58 "CamelParts" "tally" "[I" ∈ WT := wtm (tb2 (List.mem_of_getElem? (i := 15) rfl)) rfl
theorem w_4_27 : Cond.methodLink RX7 297 Lib.Math.max.name ∈ WT := wtm (tb4 (List.mem_of_getElem? (i := 27) rfl)) rfl
theorem w_4_28 : Cond.static Lib.Math.max.name ∈ WT := wtm (tb4 (List.mem_of_getElem? (i := 28) rfl)) rfl
theorem w_4_29 : Cond.code Lib.Math.max.name Lib.Math.max.code 2 (some .int) ∈ WT := wtm (tb4 (List.mem_of_getElem? (i := 29) rfl)) rfl
theorem w_3_162 : Cond.methodLink RX7 205 yX2_firstLoser ∈ WT := wtm (tb3 (List.mem_of_getElem? (i := 162) rfl)) rfl
theorem w_3_204 : Jvm.Cond.constantLong RX7 218 (-2) ∈ WT := wtm (tb3 (List.mem_of_getElem? (i := 204) rfl)) rfl
theorem w_3_205 : Cond.methodLink RX7 220 yX7_odds ∈ WT := wtm (tb3 (List.mem_of_getElem? (i := 205) rfl)) rfl
theorem w_2_11 : Cond.fieldLink RX7 34 "CamelParts" "rival" "LCamelParts$Parting;" ∈ WT := wtm (tb2 (List.mem_of_getElem? (i := 11) rfl)) rfl
theorem w_3_179 : Cond.methodLink RX7 211 yX2_givesAs ∈ WT := wtm (tb3 (List.mem_of_getElem? (i := 179) rfl)) rfl
theorem w_4_97 : Cond.methodLink RX8 60 yX8_firstDraft ∈ WT := wtm (tb4 (List.mem_of_getElem? (i := 97) rfl)) rfl
theorem w_4_101 : Cond.methodLink RX8 63 yX8_keepDraft ∈ WT := wtm (tb4 (List.mem_of_getElem? (i := 101) rfl)) rfl
theorem w_4_237 : Cond.methodLink RX8 136 yX8_readLine ∈ WT := wtm (tb4 (List.mem_of_getElem? (i := 237) rfl)) rfl
theorem w_1_194 : Cond.fieldLink RX6 28 "CamelParts$WillSearch" "heirs" "I" ∈ WT := wtm (tb1 (List.mem_of_getElem? (i := 194) rfl)) rfl
theorem w_3_136 : Cond.methodLink RX6 51 yX6_isFound ∈ WT := wtm (tb3 (List.mem_of_getElem? (i := 136) rfl)) rfl
theorem w_1_189 : Cond.fieldLink RX6 15 "CamelParts$WillSearch" "row" "[I" ∈ WT := wtm (tb1 (List.mem_of_getElem? (i := 189) rfl)) rfl
theorem w_3_133 : Cond.methodLink RX6 43 yX6_choose ∈ WT := wtm (tb3 (List.mem_of_getElem? (i := 133) rfl)) rfl
theorem w_3_239 : Cond.methodLink RX7 238 yX7_findHerds ∈ WT := wtm (tb3 (List.mem_of_getElem? (i := 239) rfl)) rfl
theorem w_1_218 : Cond.fieldLink RX7 250 "CamelParts$Finds" "number" "I" ∈ WT := wtm (tb1 (List.mem_of_getElem? (i := 218) rfl)) rfl
theorem w_4_23 : Cond.methodLink RX7 253 yX7_leftAtWorst ∈ WT := wtm (tb4 (List.mem_of_getElem? (i := 23) rfl)) rfl
theorem w_1_236 : Cond.fieldLink RX7 278 "CamelParts$Sheet" "size" "I" ∈ WT := wtm (tb1 (List.mem_of_getElem? (i := 236) rfl)) rfl
theorem w_2_217 : Cond.methodLink RX7 134 yX7_partNow ∈ WT := wtm (tb2 (List.mem_of_getElem? (i := 217) rfl)) rfl
theorem w_3_31 : Cond.methodLink RX7 138 yX2_given ∈ WT := wtm (tb3 (List.mem_of_getElem? (i := 31) rfl)) rfl
theorem w_3_192 : Cond.methodLink RX7 215 yX7_getsWithout ∈ WT := wtm (tb3 (List.mem_of_getElem? (i := 192) rfl)) rfl
theorem w_3_44 : Cond.methodLink RX7 155 yX2_isOff ∈ WT := wtm (tb3 (List.mem_of_getElem? (i := 44) rfl)) rfl
theorem w_2_214 : Cond.methodLink RX7 128 yJ13_compare_74951 ∈ WT := wtm (tb2 (List.mem_of_getElem? (i := 214) rfl)) rfl
theorem w_3_125 : Cond.methodLink RX6 34 Lib.Math.min.name ∈ WT := wtm (tb3 (List.mem_of_getElem? (i := 125) rfl)) rfl
theorem w_3_128 : Cond.methodLink RX6 40 yX6_findDowns ∈ WT := wtm (tb3 (List.mem_of_getElem? (i := 128) rfl)) rfl
theorem w_2_13 : Cond.fieldLink RX7 47 "CamelParts" "search" "LCamelParts$WillSearch;" ∈ WT := wtm (tb2 (List.mem_of_getElem? (i := 13) rfl)) rfl
theorem w_3_121 : Cond.methodLink RX7 184 yX6_run ∈ WT := wtm (tb3 (List.mem_of_getElem? (i := 121) rfl)) rfl
theorem w_1_188 : Cond.fieldLink RX7 188 "CamelParts$WillSearch" "found" "I" ∈ WT := wtm (tb1 (List.mem_of_getElem? (i := 188) rfl)) rfl
theorem w_1_190 : Cond.fieldLink RX7 191 "CamelParts$WillSearch" "row" "[I" ∈ WT := wtm (tb1 (List.mem_of_getElem? (i := 190) rfl)) rfl
theorem w_2_131 : Cond.methodLink RX3 96 yX5_isName ∈ WT := wtm (tb2 (List.mem_of_getElem? (i := 131) rfl)) rfl
theorem w_2_126 : Cond.methodLink RX3 76 yX3_wordOfLine ∈ WT := wtm (tb2 (List.mem_of_getElem? (i := 126) rfl)) rfl
theorem w_1_161 : Cond.fieldLink RX3 45 "CamelParts$Script" "hasJudge" "Z" ∈ WT := wtm (tb1 (List.mem_of_getElem? (i := 161) rfl)) rfl
theorem w_2_188 : Cond.methodLink RX3 83 yX3_begin ∈ WT := wtm (tb2 (List.mem_of_getElem? (i := 188) rfl)) rfl
theorem w_1_34 : Cond.fieldLink RX3 91 "CamelParts$Estate" "kind" "I" ∈ WT := wtm (tb1 (List.mem_of_getElem? (i := 34) rfl)) rfl
theorem w_1_160 : Cond.fieldLink RX3 41 "CamelParts$Script" "hasHerd" "Z" ∈ WT := wtm (tb1 (List.mem_of_getElem? (i := 160) rfl)) rfl
theorem w_1_38 : Cond.fieldLink RX3 80 "CamelParts$Estate" "heirs" "I" ∈ WT := wtm (tb1 (List.mem_of_getElem? (i := 38) rfl)) rfl
theorem w_2_122 : Cond.methodLink RX3 73 yX3_takeWord ∈ WT := wtm (tb2 (List.mem_of_getElem? (i := 122) rfl)) rfl
theorem w_2_105 : Cond.methodLink RX3 70 yX3_takeNumber ∈ WT := wtm (tb2 (List.mem_of_getElem? (i := 105) rfl)) rfl
theorem w_2_101 : Cond.methodLink RX3 67 yX3_takeSemicolon ∈ WT := wtm (tb2 (List.mem_of_getElem? (i := 101) rfl)) rfl
theorem w_2_66 : Cond.methodLink RX3 48 yX0_clear ∈ WT := wtm (tb2 (List.mem_of_getElem? (i := 66) rfl)) rfl
theorem w_2_70 : Cond.methodLink RX3 51 yX5_rewind ∈ WT := wtm (tb2 (List.mem_of_getElem? (i := 70) rfl)) rfl
theorem w_2_74 : Cond.methodLink RX3 54 yX5_advance ∈ WT := wtm (tb2 (List.mem_of_getElem? (i := 74) rfl)) rfl
theorem w_2_93 : Cond.methodLink RX3 57 yX3_takeToken ∈ WT := wtm (tb2 (List.mem_of_getElem? (i := 93) rfl)) rfl
theorem w_2_62 : Cond.methodLink RX7 90 yX3_parse ∈ WT := wtm (tb2 (List.mem_of_getElem? (i := 62) rfl)) rfl
theorem w_1_151 : Cond.fieldLink RX7 99 "CamelParts$Script" "draft" "LCamelParts$Estate;" ∈ WT := wtm (tb1 (List.mem_of_getElem? (i := 151) rfl)) rfl
theorem w_1_157 : Cond.fieldLink RX7 96 "CamelParts$Script" "place" "I" ∈ WT := wtm (tb1 (List.mem_of_getElem? (i := 157) rfl)) rfl
theorem w_1_153 : Cond.fieldLink RX7 106 "CamelParts$Script" "lines" "I" ∈ WT := wtm (tb1 (List.mem_of_getElem? (i := 153) rfl)) rfl
theorem w_2_216 : Cond.code yJ13_compare_74951 cJ13_compare_74951 4 (some .int) ∈ WT := wtm (tb2 (List.mem_of_getElem? (i := 216) rfl)) rfl
theorem w_1_14 : Cond.initialized RJ13 ∈ WT := wtm (tb1 (List.mem_of_getElem? (i := 14) rfl)) rfl
theorem w_2_215 : Cond.static yJ13_compare_74951 ∈ WT := wtm (tb2 (List.mem_of_getElem? (i := 215) rfl)) rfl
theorem w_3_222 : Cond.code yX0_addSeen cX0_addSeen 3 (some .int) ∈ WT := wtm (tb3 (List.mem_of_getElem? (i := 222) rfl)) rfl
theorem w_1_2 : Cond.initialized RX0 ∈ WT := wtm (tb1 (List.mem_of_getElem? (i := 2) rfl)) rfl
theorem w_3_220 : Cond.instanceMethod yX0_addSeen ∈ WT := wtm (tb3 (List.mem_of_getElem? (i := 220) rfl)) rfl
theorem w_3_221 : Cond.selects RX0 yX0_addSeen yX0_addSeen ∈ WT := wtm (tb3 (List.mem_of_getElem? (i := 221) rfl)) rfl
theorem w_2_69 : Cond.code yX0_clear cX0_clear 1 none ∈ WT := wtm (tb2 (List.mem_of_getElem? (i := 69) rfl)) rfl
theorem w_2_67 : Cond.instanceMethod yX0_clear ∈ WT := wtm (tb2 (List.mem_of_getElem? (i := 67) rfl)) rfl
theorem w_2_68 : Cond.selects RX0 yX0_clear yX0_clear ∈ WT := wtm (tb2 (List.mem_of_getElem? (i := 68) rfl)) rfl
theorem w_2_198 : Cond.code yX0_copy cX0_copy 3 none ∈ WT := wtm (tb2 (List.mem_of_getElem? (i := 198) rfl)) rfl
theorem w_2_196 : Cond.instanceMethod yX0_copy ∈ WT := wtm (tb2 (List.mem_of_getElem? (i := 196) rfl)) rfl
theorem w_2_197 : Cond.selects RX0 yX0_copy yX0_copy ∈ WT := wtm (tb2 (List.mem_of_getElem? (i := 197) rfl)) rfl
theorem w_3_39 : Cond.code yX0_has cX0_has 2 (some .boolean) ∈ WT := wtm (tb3 (List.mem_of_getElem? (i := 39) rfl)) rfl
theorem w_3_37 : Cond.instanceMethod yX0_has ∈ WT := wtm (tb3 (List.mem_of_getElem? (i := 37) rfl)) rfl
theorem w_3_38 : Cond.selects RX0 yX0_has yX0_has ∈ WT := wtm (tb3 (List.mem_of_getElem? (i := 38) rfl)) rfl
theorem w_4_14 : Cond.code yX1_answer cX1_answer 2 (some .int) ∈ WT := wtm (tb4 (List.mem_of_getElem? (i := 14) rfl)) rfl
theorem w_1_7 : Cond.initialized RX1 ∈ WT := wtm (tb1 (List.mem_of_getElem? (i := 7) rfl)) rfl
theorem w_4_12 : Cond.instanceMethod yX1_answer ∈ WT := wtm (tb4 (List.mem_of_getElem? (i := 12) rfl)) rfl
theorem w_4_13 : Cond.selects RX1 yX1_answer yX1_answer ∈ WT := wtm (tb4 (List.mem_of_getElem? (i := 13) rfl)) rfl
theorem w_4_6 : Cond.code yX1_clear cX1_clear 1 none ∈ WT := wtm (tb4 (List.mem_of_getElem? (i := 6) rfl)) rfl
theorem w_4_4 : Cond.instanceMethod yX1_clear ∈ WT := wtm (tb4 (List.mem_of_getElem? (i := 4) rfl)) rfl
theorem w_4_5 : Cond.selects RX1 yX1_clear yX1_clear ∈ WT := wtm (tb4 (List.mem_of_getElem? (i := 5) rfl)) rfl
theorem w_4_10 : Cond.code yX1_note cX1_note 2 none ∈ WT := wtm (tb4 (List.mem_of_getElem? (i := 10) rfl)) rfl
theorem w_4_8 : Cond.instanceMethod yX1_note ∈ WT := wtm (tb4 (List.mem_of_getElem? (i := 8) rfl)) rfl
theorem w_4_9 : Cond.selects RX1 yX1_note yX1_note ∈ WT := wtm (tb4 (List.mem_of_getElem? (i := 9) rfl)) rfl
theorem w_3_165 : Cond.code yX2_firstLoser cX2_firstLoser 2 (some .int) ∈ WT := wtm (tb3 (List.mem_of_getElem? (i := 165) rfl)) rfl
theorem w_1_3 : Cond.initialized RX2 ∈ WT := wtm (tb1 (List.mem_of_getElem? (i := 3) rfl)) rfl
theorem w_3_163 : Cond.instanceMethod yX2_firstLoser ∈ WT := wtm (tb3 (List.mem_of_getElem? (i := 163) rfl)) rfl
theorem w_3_164 : Cond.selects RX2 yX2_firstLoser yX2_firstLoser ∈ WT := wtm (tb3 (List.mem_of_getElem? (i := 164) rfl)) rfl
theorem w_3_17 : Cond.code yX2_giveByGreatestRest cX2_giveByGreatestRest 3 none ∈ WT := wtm (tb3 (List.mem_of_getElem? (i := 17) rfl)) rfl
theorem w_3_16 : Cond.instanceMethod yX2_giveByGreatestRest ∈ WT := wtm (tb3 (List.mem_of_getElem? (i := 16) rfl)) rfl
theorem w_3_13 : Cond.code yX2_given cX2_given 3 (some .int) ∈ WT := wtm (tb3 (List.mem_of_getElem? (i := 13) rfl)) rfl
theorem w_3_11 : Cond.instanceMethod yX2_given ∈ WT := wtm (tb3 (List.mem_of_getElem? (i := 11) rfl)) rfl
theorem w_3_12 : Cond.selects RX2 yX2_given yX2_given ∈ WT := wtm (tb3 (List.mem_of_getElem? (i := 12) rfl)) rfl
theorem w_3_43 : Cond.code yX2_got cX2_got 2 (some .int) ∈ WT := wtm (tb3 (List.mem_of_getElem? (i := 43) rfl)) rfl
theorem w_3_41 : Cond.instanceMethod yX2_got ∈ WT := wtm (tb3 (List.mem_of_getElem? (i := 41) rfl)) rfl
theorem w_3_42 : Cond.selects RX2 yX2_got yX2_got ∈ WT := wtm (tb3 (List.mem_of_getElem? (i := 42) rfl)) rfl
theorem w_3_30 : Cond.code yX2_rowDivisor cX2_rowDivisor 2 (some .int) ∈ WT := wtm (tb3 (List.mem_of_getElem? (i := 30) rfl)) rfl
theorem w_3_29 : Cond.instanceMethod yX2_rowDivisor ∈ WT := wtm (tb3 (List.mem_of_getElem? (i := 29) rfl)) rfl
theorem w_2_100 : Cond.code yX3_refuse cX3_refuse 2 none ∈ WT := wtm (tb2 (List.mem_of_getElem? (i := 100) rfl)) rfl
theorem w_1_4 : Cond.initialized RX3 ∈ WT := wtm (tb1 (List.mem_of_getElem? (i := 4) rfl)) rfl
theorem w_2_99 : Cond.instanceMethod yX3_refuse ∈ WT := wtm (tb2 (List.mem_of_getElem? (i := 99) rfl)) rfl
theorem w_4_65 : Cond.code yX4_flawAt cX4_flawAt 2 (some .int) ∈ WT := wtm (tb4 (List.mem_of_getElem? (i := 65) rfl)) rfl
theorem w_1_8 : Cond.initialized RX4 ∈ WT := wtm (tb1 (List.mem_of_getElem? (i := 8) rfl)) rfl
theorem w_4_63 : Cond.instanceMethod yX4_flawAt ∈ WT := wtm (tb4 (List.mem_of_getElem? (i := 63) rfl)) rfl
theorem w_4_64 : Cond.selects RX4 yX4_flawAt yX4_flawAt ∈ WT := wtm (tb4 (List.mem_of_getElem? (i := 64) rfl)) rfl
theorem w_2_53 : Cond.code yX5_append cX5_append 2 (some .int) ∈ WT := wtm (tb2 (List.mem_of_getElem? (i := 53) rfl)) rfl
theorem w_1_5 : Cond.initialized RX5 ∈ WT := wtm (tb1 (List.mem_of_getElem? (i := 5) rfl)) rfl
theorem w_2_51 : Cond.instanceMethod yX5_append ∈ WT := wtm (tb2 (List.mem_of_getElem? (i := 51) rfl)) rfl
theorem w_2_52 : Cond.selects RX5 yX5_append yX5_append ∈ WT := wtm (tb2 (List.mem_of_getElem? (i := 52) rfl)) rfl
theorem w_2_73 : Cond.code yX5_rewind cX5_rewind 1 none ∈ WT := wtm (tb2 (List.mem_of_getElem? (i := 73) rfl)) rfl
theorem w_2_71 : Cond.instanceMethod yX5_rewind ∈ WT := wtm (tb2 (List.mem_of_getElem? (i := 71) rfl)) rfl
theorem w_2_72 : Cond.selects RX5 yX5_rewind yX5_rewind ∈ WT := wtm (tb2 (List.mem_of_getElem? (i := 72) rfl)) rfl
theorem w_3_139 : Cond.code yX6_isFound cX6_isFound 1 (some .boolean) ∈ WT := wtm (tb3 (List.mem_of_getElem? (i := 139) rfl)) rfl
theorem w_1_6 : Cond.initialized RX6 ∈ WT := wtm (tb1 (List.mem_of_getElem? (i := 6) rfl)) rfl
theorem w_3_138 : Cond.instanceMethod yX6_isFound ∈ WT := wtm (tb3 (List.mem_of_getElem? (i := 138) rfl)) rfl
theorem w_2_202 : Cond.code yX7_fault cX7_fault 1 (some .int) ∈ WT := wtm (tb2 (List.mem_of_getElem? (i := 202) rfl)) rfl
theorem w_1_1 : Cond.initialized RX7 ∈ WT := wtm (tb1 (List.mem_of_getElem? (i := 1) rfl)) rfl
theorem w_2_200 : Cond.instanceMethod yX7_fault ∈ WT := wtm (tb2 (List.mem_of_getElem? (i := 200) rfl)) rfl
theorem w_2_201 : Cond.selects RX7 yX7_fault yX7_fault ∈ WT := wtm (tb2 (List.mem_of_getElem? (i := 201) rfl)) rfl
theorem w_3_210 : Cond.code yX7_power cX7_power 5 (some .long) ∈ WT := wtm (tb3 (List.mem_of_getElem? (i := 210) rfl)) rfl
theorem w_3_209 : Cond.static yX7_power ∈ WT := wtm (tb3 (List.mem_of_getElem? (i := 209) rfl)) rfl
theorem w_2_213 : Cond.code yX7_quotient cX7_quotient 4 (some .long) ∈ WT := wtm (tb2 (List.mem_of_getElem? (i := 213) rfl)) rfl
theorem w_2_212 : Cond.static yX7_quotient ∈ WT := wtm (tb2 (List.mem_of_getElem? (i := 212) rfl)) rfl
theorem w_3_9 : Cond.code yX7_remainder cX7_remainder 4 (some .long) ∈ WT := wtm (tb3 (List.mem_of_getElem? (i := 9) rfl)) rfl
theorem w_3_8 : Cond.static yX7_remainder ∈ WT := wtm (tb3 (List.mem_of_getElem? (i := 8) rfl)) rfl
theorem w_4_86 : Cond.code yX7_torn cX7_torn 1 (some .int) ∈ WT := wtm (tb4 (List.mem_of_getElem? (i := 86) rfl)) rfl
theorem w_4_84 : Cond.instanceMethod yX7_torn ∈ WT := wtm (tb4 (List.mem_of_getElem? (i := 84) rfl)) rfl
theorem w_4_85 : Cond.selects RX7 yX7_torn yX7_torn ∈ WT := wtm (tb4 (List.mem_of_getElem? (i := 85) rfl)) rfl
theorem w_2_49 : Cond.code yX7_within cX7_within 3 (some .boolean) ∈ WT := wtm (tb2 (List.mem_of_getElem? (i := 49) rfl)) rfl
theorem w_2_48 : Cond.static yX7_within ∈ WT := wtm (tb2 (List.mem_of_getElem? (i := 48) rfl)) rfl
theorem w_5_56 : Cond.code yX8_allGot cX8_allGot 3 (some .int) ∈ WT := wtm (tb5 (List.mem_of_getElem? (i := 56) rfl)) rfl
theorem w_1_9 : Cond.initialized RX8 ∈ WT := wtm (tb1 (List.mem_of_getElem? (i := 9) rfl)) rfl
theorem w_5_55 : Cond.instanceMethod yX8_allGot ∈ WT := wtm (tb5 (List.mem_of_getElem? (i := 55) rfl)) rfl
theorem w_5_104 : Cond.code yX8_becomes cX8_becomes 4 (some .int) ∈ WT := wtm (tb5 (List.mem_of_getElem? (i := 104) rfl)) rfl
theorem w_5_103 : Cond.instanceMethod yX8_becomes ∈ WT := wtm (tb5 (List.mem_of_getElem? (i := 103) rfl)) rfl
theorem w_4_228 : Cond.code yX8_byteAt cX8_byteAt 2 (some .int) ∈ WT := wtm (tb4 (List.mem_of_getElem? (i := 228) rfl)) rfl
theorem w_4_227 : Cond.instanceMethod yX8_byteAt ∈ WT := wtm (tb4 (List.mem_of_getElem? (i := 227) rfl)) rfl
theorem w_5_85 : Cond.code yX8_common cX8_common 10 (some .long) ∈ WT := wtm (tb5 (List.mem_of_getElem? (i := 85) rfl)) rfl
theorem w_5_84 : Cond.static yX8_common ∈ WT := wtm (tb5 (List.mem_of_getElem? (i := 84) rfl)) rfl
theorem w_6_26 : Cond.code yX8_copies cX8_copies 4 none ∈ WT := wtm (tb6 (List.mem_of_getElem? (i := 26) rfl)) rfl
theorem w_6_25 : Cond.instanceMethod yX8_copies ∈ WT := wtm (tb6 (List.mem_of_getElem? (i := 25) rfl)) rfl
theorem w_5_20 : Cond.code yX8_fault cX8_fault 1 (some .int) ∈ WT := wtm (tb5 (List.mem_of_getElem? (i := 20) rfl)) rfl
theorem w_5_18 : Cond.instanceMethod yX8_fault ∈ WT := wtm (tb5 (List.mem_of_getElem? (i := 18) rfl)) rfl
theorem w_5_19 : Cond.selects RX8 yX8_fault yX8_fault ∈ WT := wtm (tb5 (List.mem_of_getElem? (i := 19) rfl)) rfl
theorem w_4_100 : Cond.code yX8_firstDraft cX8_firstDraft 2 none ∈ WT := wtm (tb4 (List.mem_of_getElem? (i := 100) rfl)) rfl
theorem w_4_99 : Cond.instanceMethod yX8_firstDraft ∈ WT := wtm (tb4 (List.mem_of_getElem? (i := 99) rfl)) rfl
theorem w_5_72 : Cond.code yX8_flag cX8_flag 1 (some .int) ∈ WT := wtm (tb5 (List.mem_of_getElem? (i := 72) rfl)) rfl
theorem w_5_71 : Cond.static yX8_flag ∈ WT := wtm (tb5 (List.mem_of_getElem? (i := 71) rfl)) rfl
theorem w_5_48 : Cond.code yX8_givesRests cX8_givesRests 6 none ∈ WT := wtm (tb5 (List.mem_of_getElem? (i := 48) rfl)) rfl
theorem w_5_47 : Cond.instanceMethod yX8_givesRests ∈ WT := wtm (tb5 (List.mem_of_getElem? (i := 47) rfl)) rfl
theorem w_5_52 : Cond.code yX8_givesRow cX8_givesRow 6 none ∈ WT := wtm (tb5 (List.mem_of_getElem? (i := 52) rfl)) rfl
theorem w_5_51 : Cond.instanceMethod yX8_givesRow ∈ WT := wtm (tb5 (List.mem_of_getElem? (i := 51) rfl)) rfl
theorem w_5_44 : Cond.code yX8_givesTold cX8_givesTold 5 none ∈ WT := wtm (tb5 (List.mem_of_getElem? (i := 44) rfl)) rfl
theorem w_5_43 : Cond.instanceMethod yX8_givesTold ∈ WT := wtm (tb5 (List.mem_of_getElem? (i := 43) rfl)) rfl
theorem w_4_212 : Cond.code yX8_in cX8_in 6 (some .boolean) ∈ WT := wtm (tb4 (List.mem_of_getElem? (i := 212) rfl)) rfl
theorem w_4_211 : Cond.static yX8_in ∈ WT := wtm (tb4 (List.mem_of_getElem? (i := 211) rfl)) rfl
theorem w_5_69 : Cond.code yX8_isOff cX8_isOff 5 (some .boolean) ∈ WT := wtm (tb5 (List.mem_of_getElem? (i := 69) rfl)) rfl
theorem w_5_68 : Cond.instanceMethod yX8_isOff ∈ WT := wtm (tb5 (List.mem_of_getElem? (i := 68) rfl)) rfl
theorem w_5_227 : Cond.code yX8_isSo cX8_isSo 4 (some .boolean) ∈ WT := wtm (tb5 (List.mem_of_getElem? (i := 227) rfl)) rfl
theorem w_5_226 : Cond.instanceMethod yX8_isSo ∈ WT := wtm (tb5 (List.mem_of_getElem? (i := 226) rfl)) rfl
theorem w_5_136 : Cond.code yX8_isWhole cX8_isWhole 3 (some .boolean) ∈ WT := wtm (tb5 (List.mem_of_getElem? (i := 136) rfl)) rfl
theorem w_5_135 : Cond.instanceMethod yX8_isWhole ∈ WT := wtm (tb5 (List.mem_of_getElem? (i := 135) rfl)) rfl
theorem w_4_104 : Cond.code yX8_keepDraft cX8_keepDraft 2 none ∈ WT := wtm (tb4 (List.mem_of_getElem? (i := 104) rfl)) rfl
theorem w_4_103 : Cond.instanceMethod yX8_keepDraft ∈ WT := wtm (tb4 (List.mem_of_getElem? (i := 103) rfl)) rfl
theorem w_4_236 : Cond.code yX8_needs cX8_needs 3 none ∈ WT := wtm (tb4 (List.mem_of_getElem? (i := 236) rfl)) rfl
theorem w_4_235 : Cond.instanceMethod yX8_needs ∈ WT := wtm (tb4 (List.mem_of_getElem? (i := 235) rfl)) rfl
theorem w_6_0 : Cond.code yX8_ofThree cX8_ofThree 5 (some .int) ∈ WT := wtm (tb6 (List.mem_of_getElem? (i := 0) rfl)) rfl
theorem w_5_239 : Cond.instanceMethod yX8_ofThree ∈ WT := wtm (tb5 (List.mem_of_getElem? (i := 239) rfl)) rfl
theorem w_5_32 : Cond.code yX8_reckons cX8_reckons 2 none ∈ WT := wtm (tb5 (List.mem_of_getElem? (i := 32) rfl)) rfl
theorem w_5_31 : Cond.instanceMethod yX8_reckons ∈ WT := wtm (tb5 (List.mem_of_getElem? (i := 31) rfl)) rfl
theorem w_5_173 : Cond.code yX8_remembers cX8_remembers 2 none ∈ WT := wtm (tb5 (List.mem_of_getElem? (i := 173) rfl)) rfl
theorem w_5_172 : Cond.instanceMethod yX8_remembers ∈ WT := wtm (tb5 (List.mem_of_getElem? (i := 172) rfl)) rfl
theorem w_6_51 : Cond.code yX8_torn cX8_torn 1 (some .int) ∈ WT := wtm (tb6 (List.mem_of_getElem? (i := 51) rfl)) rfl
theorem w_6_49 : Cond.instanceMethod yX8_torn ∈ WT := wtm (tb6 (List.mem_of_getElem? (i := 49) rfl)) rfl
theorem w_6_50 : Cond.selects RX8 yX8_torn yX8_torn ∈ WT := wtm (tb6 (List.mem_of_getElem? (i := 50) rfl)) rfl
theorem w_5_152 : Cond.code yX8_walksWills cX8_walksWills 9 (some .boolean) ∈ WT := wtm (tb5 (List.mem_of_getElem? (i := 152) rfl)) rfl
theorem w_5_151 : Cond.instanceMethod yX8_walksWills ∈ WT := wtm (tb5 (List.mem_of_getElem? (i := 151) rfl)) rfl
theorem w_2_120 : Cond.code yX0_add cX0_add 3 (some .int) ∈ WT := wtm (tb2 (List.mem_of_getElem? (i := 120) rfl)) rfl
theorem w_2_118 : Cond.instanceMethod yX0_add ∈ WT := wtm (tb2 (List.mem_of_getElem? (i := 118) rfl)) rfl
theorem w_2_119 : Cond.selects RX0 yX0_add yX0_add ∈ WT := wtm (tb2 (List.mem_of_getElem? (i := 119) rfl)) rfl
theorem w_3_99 : Cond.code yX0_remove cX0_remove 3 none ∈ WT := wtm (tb3 (List.mem_of_getElem? (i := 99) rfl)) rfl
theorem w_3_97 : Cond.instanceMethod yX0_remove ∈ WT := wtm (tb3 (List.mem_of_getElem? (i := 97) rfl)) rfl
theorem w_3_98 : Cond.selects RX0 yX0_remove yX0_remove ∈ WT := wtm (tb3 (List.mem_of_getElem? (i := 98) rfl)) rfl
theorem w_3_26 : Cond.code yX2_giveNext cX2_giveNext 3 none ∈ WT := wtm (tb3 (List.mem_of_getElem? (i := 26) rfl)) rfl
theorem w_3_25 : Cond.instanceMethod yX2_giveNext ∈ WT := wtm (tb3 (List.mem_of_getElem? (i := 25) rfl)) rfl
theorem w_3_3 : Cond.code yX2_giveQuotasLess cX2_giveQuotasLess 3 none ∈ WT := wtm (tb3 (List.mem_of_getElem? (i := 3) rfl)) rfl
theorem w_3_2 : Cond.instanceMethod yX2_giveQuotasLess ∈ WT := wtm (tb3 (List.mem_of_getElem? (i := 2) rfl)) rfl
theorem w_2_232 : Cond.code yX2_giveTold cX2_giveTold 3 none ∈ WT := wtm (tb2 (List.mem_of_getElem? (i := 232) rfl)) rfl
theorem w_2_231 : Cond.instanceMethod yX2_giveTold ∈ WT := wtm (tb2 (List.mem_of_getElem? (i := 231) rfl)) rfl
theorem w_3_182 : Cond.code yX2_givesAs cX2_givesAs 3 (some .boolean) ∈ WT := wtm (tb3 (List.mem_of_getElem? (i := 182) rfl)) rfl
theorem w_3_180 : Cond.instanceMethod yX2_givesAs ∈ WT := wtm (tb3 (List.mem_of_getElem? (i := 180) rfl)) rfl
theorem w_3_181 : Cond.selects RX2 yX2_givesAs yX2_givesAs ∈ WT := wtm (tb3 (List.mem_of_getElem? (i := 181) rfl)) rfl
theorem w_3_234 : Cond.code yX2_isAsSeen cX2_isAsSeen 4 (some .boolean) ∈ WT := wtm (tb3 (List.mem_of_getElem? (i := 234) rfl)) rfl
theorem w_3_232 : Cond.instanceMethod yX2_isAsSeen ∈ WT := wtm (tb3 (List.mem_of_getElem? (i := 232) rfl)) rfl
theorem w_3_233 : Cond.selects RX2 yX2_isAsSeen yX2_isAsSeen ∈ WT := wtm (tb3 (List.mem_of_getElem? (i := 233) rfl)) rfl
theorem w_3_47 : Cond.code yX2_isOff cX2_isOff 2 (some .boolean) ∈ WT := wtm (tb3 (List.mem_of_getElem? (i := 47) rfl)) rfl
theorem w_3_45 : Cond.instanceMethod yX2_isOff ∈ WT := wtm (tb3 (List.mem_of_getElem? (i := 45) rfl)) rfl
theorem w_3_46 : Cond.selects RX2 yX2_isOff yX2_isOff ∈ WT := wtm (tb3 (List.mem_of_getElem? (i := 46) rfl)) rfl
theorem w_2_210 : Cond.code yX2_load cX2_load 3 none ∈ WT := wtm (tb2 (List.mem_of_getElem? (i := 210) rfl)) rfl
theorem w_2_208 : Cond.instanceMethod yX2_load ∈ WT := wtm (tb2 (List.mem_of_getElem? (i := 208) rfl)) rfl
theorem w_2_209 : Cond.selects RX2 yX2_load yX2_load ∈ WT := wtm (tb2 (List.mem_of_getElem? (i := 209) rfl)) rfl
theorem w_2_191 : Cond.code yX3_begin cX3_begin 4 none ∈ WT := wtm (tb2 (List.mem_of_getElem? (i := 191) rfl)) rfl
theorem w_2_190 : Cond.instanceMethod yX3_begin ∈ WT := wtm (tb2 (List.mem_of_getElem? (i := 190) rfl)) rfl
theorem w_2_104 : Cond.code yX3_takeSemicolon cX3_takeSemicolon 1 none ∈ WT := wtm (tb2 (List.mem_of_getElem? (i := 104) rfl)) rfl
theorem w_2_103 : Cond.instanceMethod yX3_takeSemicolon ∈ WT := wtm (tb2 (List.mem_of_getElem? (i := 103) rfl)) rfl
theorem w_4_82 : Cond.code yX4_cell cX4_cell 2 (some .int) ∈ WT := wtm (tb4 (List.mem_of_getElem? (i := 82) rfl)) rfl
theorem w_4_80 : Cond.instanceMethod yX4_cell ∈ WT := wtm (tb4 (List.mem_of_getElem? (i := 80) rfl)) rfl
theorem w_4_81 : Cond.selects RX4 yX4_cell yX4_cell ∈ WT := wtm (tb4 (List.mem_of_getElem? (i := 81) rfl)) rfl
theorem w_4_78 : Cond.code yX4_pairFlaw cX4_pairFlaw 4 (some .int) ∈ WT := wtm (tb4 (List.mem_of_getElem? (i := 78) rfl)) rfl
theorem w_4_76 : Cond.instanceMethod yX4_pairFlaw ∈ WT := wtm (tb4 (List.mem_of_getElem? (i := 76) rfl)) rfl
theorem w_4_77 : Cond.selects RX4 yX4_pairFlaw yX4_pairFlaw ∈ WT := wtm (tb4 (List.mem_of_getElem? (i := 77) rfl)) rfl
theorem w_4_69 : Cond.code yX4_put cX4_put 3 none ∈ WT := wtm (tb4 (List.mem_of_getElem? (i := 69) rfl)) rfl
theorem w_4_67 : Cond.instanceMethod yX4_put ∈ WT := wtm (tb4 (List.mem_of_getElem? (i := 67) rfl)) rfl
theorem w_4_68 : Cond.selects RX4 yX4_put yX4_put ∈ WT := wtm (tb4 (List.mem_of_getElem? (i := 68) rfl)) rfl
theorem w_4_56 : Cond.code yX4_renew cX4_renew 4 none ∈ WT := wtm (tb4 (List.mem_of_getElem? (i := 56) rfl)) rfl
theorem w_4_54 : Cond.instanceMethod yX4_renew ∈ WT := wtm (tb4 (List.mem_of_getElem? (i := 54) rfl)) rfl
theorem w_4_55 : Cond.selects RX4 yX4_renew yX4_renew ∈ WT := wtm (tb4 (List.mem_of_getElem? (i := 55) rfl)) rfl
theorem w_2_88 : Cond.code yX5_isFigure cX5_isFigure 1 (some .boolean) ∈ WT := wtm (tb2 (List.mem_of_getElem? (i := 88) rfl)) rfl
theorem w_2_87 : Cond.static yX5_isFigure ∈ WT := wtm (tb2 (List.mem_of_getElem? (i := 87) rfl)) rfl
theorem w_2_80 : Cond.code yX5_isLetter cX5_isLetter 1 (some .boolean) ∈ WT := wtm (tb2 (List.mem_of_getElem? (i := 80) rfl)) rfl
theorem w_2_79 : Cond.static yX5_isLetter ∈ WT := wtm (tb2 (List.mem_of_getElem? (i := 79) rfl)) rfl
theorem w_3_131 : Cond.code yX6_findDowns cX6_findDowns 2 none ∈ WT := wtm (tb3 (List.mem_of_getElem? (i := 131) rfl)) rfl
theorem w_3_130 : Cond.instanceMethod yX6_findDowns ∈ WT := wtm (tb3 (List.mem_of_getElem? (i := 130) rfl)) rfl
theorem w_3_76 : Cond.code yX7_alter cX7_alter 5 (some .int) ∈ WT := wtm (tb3 (List.mem_of_getElem? (i := 76) rfl)) rfl
theorem w_3_74 : Cond.instanceMethod yX7_alter ∈ WT := wtm (tb3 (List.mem_of_getElem? (i := 74) rfl)) rfl
theorem w_3_75 : Cond.selects RX7 yX7_alter yX7_alter ∈ WT := wtm (tb3 (List.mem_of_getElem? (i := 75) rfl)) rfl
theorem w_4_42 : Cond.code yX7_back cX7_back 2 (some .int) ∈ WT := wtm (tb4 (List.mem_of_getElem? (i := 42) rfl)) rfl
theorem w_4_40 : Cond.instanceMethod yX7_back ∈ WT := wtm (tb4 (List.mem_of_getElem? (i := 40) rfl)) rfl
theorem w_4_41 : Cond.selects RX7 yX7_back yX7_back ∈ WT := wtm (tb4 (List.mem_of_getElem? (i := 41) rfl)) rfl
theorem w_3_62 : Cond.code yX7_divisor cX7_divisor 11 (some .long) ∈ WT := wtm (tb3 (List.mem_of_getElem? (i := 62) rfl)) rfl
theorem w_3_61 : Cond.static yX7_divisor ∈ WT := wtm (tb3 (List.mem_of_getElem? (i := 61) rfl)) rfl
theorem w_2_57 : Cond.code yX7_end cX7_end 3 (some .int) ∈ WT := wtm (tb2 (List.mem_of_getElem? (i := 57) rfl)) rfl
theorem w_2_55 : Cond.instanceMethod yX7_end ∈ WT := wtm (tb2 (List.mem_of_getElem? (i := 55) rfl)) rfl
theorem w_2_56 : Cond.selects RX7 yX7_end yX7_end ∈ WT := wtm (tb2 (List.mem_of_getElem? (i := 56) rfl)) rfl
theorem w_2_46 : Cond.code yX7_feed cX7_feed 2 (some .int) ∈ WT := wtm (tb2 (List.mem_of_getElem? (i := 46) rfl)) rfl
theorem w_2_44 : Cond.instanceMethod yX7_feed ∈ WT := wtm (tb2 (List.mem_of_getElem? (i := 44) rfl)) rfl
theorem w_2_45 : Cond.selects RX7 yX7_feed yX7_feed ∈ WT := wtm (tb2 (List.mem_of_getElem? (i := 45) rfl)) rfl
theorem w_3_226 : Cond.code yX7_forget cX7_forget 3 (some .int) ∈ WT := wtm (tb3 (List.mem_of_getElem? (i := 226) rfl)) rfl
theorem w_3_224 : Cond.instanceMethod yX7_forget ∈ WT := wtm (tb3 (List.mem_of_getElem? (i := 224) rfl)) rfl
theorem w_3_225 : Cond.selects RX7 yX7_forget yX7_forget ∈ WT := wtm (tb3 (List.mem_of_getElem? (i := 225) rfl)) rfl
theorem w_2_115 : Cond.code yX7_isHerd cX7_isHerd 1 (some .boolean) ∈ WT := wtm (tb2 (List.mem_of_getElem? (i := 115) rfl)) rfl
theorem w_2_114 : Cond.static yX7_isHerd ∈ WT := wtm (tb2 (List.mem_of_getElem? (i := 114) rfl)) rfl
theorem w_2_194 : Cond.code yX7_isKind cX7_isKind 1 (some .boolean) ∈ WT := wtm (tb2 (List.mem_of_getElem? (i := 194) rfl)) rfl
theorem w_2_193 : Cond.static yX7_isKind ∈ WT := wtm (tb2 (List.mem_of_getElem? (i := 193) rfl)) rfl
theorem w_4_52 : Cond.code yX7_isLane cX7_isLane 1 (some .boolean) ∈ WT := wtm (tb4 (List.mem_of_getElem? (i := 52) rfl)) rfl
theorem w_4_51 : Cond.static yX7_isLane ∈ WT := wtm (tb4 (List.mem_of_getElem? (i := 51) rfl)) rfl
theorem w_4_49 : Cond.code yX7_isSheet cX7_isSheet 1 (some .boolean) ∈ WT := wtm (tb4 (List.mem_of_getElem? (i := 49) rfl)) rfl
theorem w_4_48 : Cond.static yX7_isSheet ∈ WT := wtm (tb4 (List.mem_of_getElem? (i := 48) rfl)) rfl
theorem w_4_38 : Cond.code yX7_keep cX7_keep 3 (some .int) ∈ WT := wtm (tb4 (List.mem_of_getElem? (i := 38) rfl)) rfl
theorem w_4_36 : Cond.instanceMethod yX7_keep ∈ WT := wtm (tb4 (List.mem_of_getElem? (i := 36) rfl)) rfl
theorem w_4_37 : Cond.selects RX7 yX7_keep yX7_keep ∈ WT := wtm (tb4 (List.mem_of_getElem? (i := 37) rfl)) rfl
theorem w_3_207 : Cond.code yX7_odds cX7_odds 6 (some .long) ∈ WT := wtm (tb3 (List.mem_of_getElem? (i := 207) rfl)) rfl
theorem w_3_206 : Cond.static yX7_odds ∈ WT := wtm (tb3 (List.mem_of_getElem? (i := 206) rfl)) rfl
theorem w_3_112 : Cond.code yX7_wholePart cX7_wholePart 5 (some .int) ∈ WT := wtm (tb3 (List.mem_of_getElem? (i := 112) rfl)) rfl
theorem w_3_111 : Cond.instanceMethod yX7_wholePart ∈ WT := wtm (tb3 (List.mem_of_getElem? (i := 111) rfl)) rfl
theorem w_6_30 : Cond.code yX8_back cX8_back 2 (some .int) ∈ WT := wtm (tb6 (List.mem_of_getElem? (i := 30) rfl)) rfl
theorem w_6_28 : Cond.instanceMethod yX8_back ∈ WT := wtm (tb6 (List.mem_of_getElem? (i := 28) rfl)) rfl
theorem w_6_29 : Cond.selects RX8 yX8_back yX8_back ∈ WT := wtm (tb6 (List.mem_of_getElem? (i := 29) rfl)) rfl
theorem w_5_120 : Cond.code yX8_bear cX8_bear 3 (some .int) ∈ WT := wtm (tb5 (List.mem_of_getElem? (i := 120) rfl)) rfl
theorem w_5_118 : Cond.instanceMethod yX8_bear ∈ WT := wtm (tb5 (List.mem_of_getElem? (i := 118) rfl)) rfl
theorem w_5_119 : Cond.selects RX8 yX8_bear yX8_bear ∈ WT := wtm (tb5 (List.mem_of_getElem? (i := 119) rfl)) rfl
theorem w_5_128 : Cond.code yX8_dropsNow cX8_dropsNow 3 none ∈ WT := wtm (tb5 (List.mem_of_getElem? (i := 128) rfl)) rfl
theorem w_5_127 : Cond.instanceMethod yX8_dropsNow ∈ WT := wtm (tb5 (List.mem_of_getElem? (i := 127) rfl)) rfl
theorem w_4_216 : Cond.code yX8_end cX8_end 3 (some .int) ∈ WT := wtm (tb4 (List.mem_of_getElem? (i := 216) rfl)) rfl
theorem w_4_214 : Cond.instanceMethod yX8_end ∈ WT := wtm (tb4 (List.mem_of_getElem? (i := 214) rfl)) rfl
theorem w_4_215 : Cond.selects RX8 yX8_end yX8_end ∈ WT := wtm (tb4 (List.mem_of_getElem? (i := 215) rfl)) rfl
theorem w_4_208 : Cond.code yX8_feed cX8_feed 2 (some .int) ∈ WT := wtm (tb4 (List.mem_of_getElem? (i := 208) rfl)) rfl
theorem w_4_206 : Cond.instanceMethod yX8_feed ∈ WT := wtm (tb4 (List.mem_of_getElem? (i := 206) rfl)) rfl
theorem w_4_207 : Cond.selects RX8 yX8_feed yX8_feed ∈ WT := wtm (tb4 (List.mem_of_getElem? (i := 207) rfl)) rfl
theorem w_5_181 : Cond.code yX8_firstOff cX8_firstOff 3 (some .int) ∈ WT := wtm (tb5 (List.mem_of_getElem? (i := 181) rfl)) rfl
theorem w_5_180 : Cond.instanceMethod yX8_firstOff ∈ WT := wtm (tb5 (List.mem_of_getElem? (i := 180) rfl)) rfl
theorem w_5_219 : Cond.code yX8_forget cX8_forget 2 (some .int) ∈ WT := wtm (tb5 (List.mem_of_getElem? (i := 219) rfl)) rfl
theorem w_5_217 : Cond.instanceMethod yX8_forget ∈ WT := wtm (tb5 (List.mem_of_getElem? (i := 217) rfl)) rfl
theorem w_5_218 : Cond.selects RX8 yX8_forget yX8_forget ∈ WT := wtm (tb5 (List.mem_of_getElem? (i := 218) rfl)) rfl
theorem w_5_40 : Cond.code yX8_gives cX8_gives 4 none ∈ WT := wtm (tb5 (List.mem_of_getElem? (i := 40) rfl)) rfl
theorem w_5_39 : Cond.instanceMethod yX8_gives ∈ WT := wtm (tb5 (List.mem_of_getElem? (i := 39) rfl)) rfl
theorem w_5_108 : Cond.code yX8_herd cX8_herd 2 (some .int) ∈ WT := wtm (tb5 (List.mem_of_getElem? (i := 108) rfl)) rfl
theorem w_5_106 : Cond.instanceMethod yX8_herd ∈ WT := wtm (tb5 (List.mem_of_getElem? (i := 106) rfl)) rfl
theorem w_5_107 : Cond.selects RX8 yX8_herd yX8_herd ∈ WT := wtm (tb5 (List.mem_of_getElem? (i := 107) rfl)) rfl
theorem w_5_8 : Cond.code yX8_is cX8_is 8 (some .boolean) ∈ WT := wtm (tb5 (List.mem_of_getElem? (i := 8) rfl)) rfl
theorem w_5_7 : Cond.instanceMethod yX8_is ∈ WT := wtm (tb5 (List.mem_of_getElem? (i := 7) rfl)) rfl
theorem w_5_64 : Cond.code yX8_isHeir cX8_isHeir 2 (some .boolean) ∈ WT := wtm (tb5 (List.mem_of_getElem? (i := 64) rfl)) rfl
theorem w_5_63 : Cond.instanceMethod yX8_isHeir ∈ WT := wtm (tb5 (List.mem_of_getElem? (i := 63) rfl)) rfl
theorem w_5_116 : Cond.code yX8_isKind cX8_isKind 1 (some .boolean) ∈ WT := wtm (tb5 (List.mem_of_getElem? (i := 116) rfl)) rfl
theorem w_5_115 : Cond.static yX8_isKind ∈ WT := wtm (tb5 (List.mem_of_getElem? (i := 115) rfl)) rfl
theorem w_5_79 : Cond.code yX8_isPart cX8_isPart 1 (some .boolean) ∈ WT := wtm (tb5 (List.mem_of_getElem? (i := 79) rfl)) rfl
theorem w_5_78 : Cond.static yX8_isPart ∈ WT := wtm (tb5 (List.mem_of_getElem? (i := 78) rfl)) rfl
theorem w_6_37 : Cond.code yX8_isSheet cX8_isSheet 2 (some .boolean) ∈ WT := wtm (tb6 (List.mem_of_getElem? (i := 37) rfl)) rfl
theorem w_6_36 : Cond.static yX8_isSheet ∈ WT := wtm (tb6 (List.mem_of_getElem? (i := 36) rfl)) rfl
theorem w_5_147 : Cond.code yX8_isWill cX8_isWill 2 (some .boolean) ∈ WT := wtm (tb5 (List.mem_of_getElem? (i := 147) rfl)) rfl
theorem w_5_146 : Cond.static yX8_isWill ∈ WT := wtm (tb5 (List.mem_of_getElem? (i := 146) rfl)) rfl
theorem w_6_22 : Cond.code yX8_keep cX8_keep 3 (some .int) ∈ WT := wtm (tb6 (List.mem_of_getElem? (i := 22) rfl)) rfl
theorem w_6_20 : Cond.instanceMethod yX8_keep ∈ WT := wtm (tb6 (List.mem_of_getElem? (i := 20) rfl)) rfl
theorem w_6_21 : Cond.selects RX8 yX8_keep yX8_keep ∈ WT := wtm (tb6 (List.mem_of_getElem? (i := 21) rfl)) rfl
theorem w_5_82 : Cond.code yX8_lowest cX8_lowest 7 (some .long) ∈ WT := wtm (tb5 (List.mem_of_getElem? (i := 82) rfl)) rfl
theorem w_5_81 : Cond.static yX8_lowest ∈ WT := wtm (tb5 (List.mem_of_getElem? (i := 81) rfl)) rfl
theorem w_5_28 : Cond.code yX8_starts cX8_starts 2 none ∈ WT := wtm (tb5 (List.mem_of_getElem? (i := 28) rfl)) rfl
theorem w_5_27 : Cond.instanceMethod yX8_starts ∈ WT := wtm (tb5 (List.mem_of_getElem? (i := 27) rfl)) rfl
theorem w_4_224 : Cond.code yX8_takes cX8_takes 2 none ∈ WT := wtm (tb4 (List.mem_of_getElem? (i := 224) rfl)) rfl
theorem w_4_223 : Cond.instanceMethod yX8_takes ∈ WT := wtm (tb4 (List.mem_of_getElem? (i := 223) rfl)) rfl
theorem w_3_173 : Cond.code yX2_firstOff cX2_firstOff 2 (some .int) ∈ WT := wtm (tb3 (List.mem_of_getElem? (i := 173) rfl)) rfl
theorem w_3_171 : Cond.instanceMethod yX2_firstOff ∈ WT := wtm (tb3 (List.mem_of_getElem? (i := 171) rfl)) rfl
theorem w_3_172 : Cond.selects RX2 yX2_firstOff yX2_firstOff ∈ WT := wtm (tb3 (List.mem_of_getElem? (i := 172) rfl)) rfl
theorem w_2_239 : Cond.code yX2_giveByRests cX2_giveByRests 2 none ∈ WT := wtm (tb2 (List.mem_of_getElem? (i := 239) rfl)) rfl
theorem w_2_238 : Cond.instanceMethod yX2_giveByRests ∈ WT := wtm (tb2 (List.mem_of_getElem? (i := 238) rfl)) rfl
theorem w_3_22 : Cond.code yX2_giveByRow cX2_giveByRow 2 none ∈ WT := wtm (tb3 (List.mem_of_getElem? (i := 22) rfl)) rfl
theorem w_3_21 : Cond.instanceMethod yX2_giveByRow ∈ WT := wtm (tb3 (List.mem_of_getElem? (i := 21) rfl)) rfl
theorem w_2_112 : Cond.code yX3_isInBounds cX3_isInBounds 2 (some .boolean) ∈ WT := wtm (tb2 (List.mem_of_getElem? (i := 112) rfl)) rfl
theorem w_2_111 : Cond.instanceMethod yX3_isInBounds ∈ WT := wtm (tb2 (List.mem_of_getElem? (i := 111) rfl)) rfl
theorem w_2_85 : Cond.code yX5_takeName cX5_takeName 1 none ∈ WT := wtm (tb2 (List.mem_of_getElem? (i := 85) rfl)) rfl
theorem w_2_84 : Cond.instanceMethod yX5_takeName ∈ WT := wtm (tb2 (List.mem_of_getElem? (i := 84) rfl)) rfl
theorem w_2_92 : Cond.code yX5_takeNumber cX5_takeNumber 1 none ∈ WT := wtm (tb2 (List.mem_of_getElem? (i := 92) rfl)) rfl
theorem w_2_91 : Cond.instanceMethod yX5_takeNumber ∈ WT := wtm (tb2 (List.mem_of_getElem? (i := 91) rfl)) rfl
theorem w_3_90 : Cond.code yX7_bear cX7_bear 3 (some .int) ∈ WT := wtm (tb3 (List.mem_of_getElem? (i := 90) rfl)) rfl
theorem w_3_88 : Cond.instanceMethod yX7_bear ∈ WT := wtm (tb3 (List.mem_of_getElem? (i := 88) rfl)) rfl
theorem w_3_89 : Cond.selects RX7 yX7_bear yX7_bear ∈ WT := wtm (tb3 (List.mem_of_getElem? (i := 89) rfl)) rfl
theorem w_3_95 : Cond.code yX7_dies cX7_dies 2 (some .int) ∈ WT := wtm (tb3 (List.mem_of_getElem? (i := 95) rfl)) rfl
theorem w_3_93 : Cond.instanceMethod yX7_dies ∈ WT := wtm (tb3 (List.mem_of_getElem? (i := 93) rfl)) rfl
theorem w_3_94 : Cond.selects RX7 yX7_dies yX7_dies ∈ WT := wtm (tb3 (List.mem_of_getElem? (i := 94) rfl)) rfl
theorem w_3_58 : Cond.code yX7_fraction cX7_fraction 7 (some .long) ∈ WT := wtm (tb3 (List.mem_of_getElem? (i := 58) rfl)) rfl
theorem w_3_57 : Cond.static yX7_fraction ∈ WT := wtm (tb3 (List.mem_of_getElem? (i := 57) rfl)) rfl
theorem w_3_80 : Cond.code yX7_herd cX7_herd 3 (some .int) ∈ WT := wtm (tb3 (List.mem_of_getElem? (i := 80) rfl)) rfl
theorem w_3_78 : Cond.instanceMethod yX7_herd ∈ WT := wtm (tb3 (List.mem_of_getElem? (i := 78) rfl)) rfl
theorem w_3_79 : Cond.selects RX7 yX7_herd yX7_herd ∈ WT := wtm (tb3 (List.mem_of_getElem? (i := 79) rfl)) rfl
theorem w_3_85 : Cond.code yX7_judge cX7_judge 3 (some .int) ∈ WT := wtm (tb3 (List.mem_of_getElem? (i := 85) rfl)) rfl
theorem w_3_83 : Cond.instanceMethod yX7_judge ∈ WT := wtm (tb3 (List.mem_of_getElem? (i := 83) rfl)) rfl
theorem w_3_84 : Cond.selects RX7 yX7_judge yX7_judge ∈ WT := wtm (tb3 (List.mem_of_getElem? (i := 84) rfl)) rfl
theorem w_4_61 : Cond.code yX7_lay cX7_lay 5 (some .int) ∈ WT := wtm (tb4 (List.mem_of_getElem? (i := 61) rfl)) rfl
theorem w_4_59 : Cond.instanceMethod yX7_lay ∈ WT := wtm (tb4 (List.mem_of_getElem? (i := 59) rfl)) rfl
theorem w_4_60 : Cond.selects RX7 yX7_lay yX7_lay ∈ WT := wtm (tb4 (List.mem_of_getElem? (i := 60) rfl)) rfl
theorem w_4_74 : Cond.code yX7_read cX7_read 10 (some .int) ∈ WT := wtm (tb4 (List.mem_of_getElem? (i := 74) rfl)) rfl
theorem w_4_72 : Cond.instanceMethod yX7_read ∈ WT := wtm (tb4 (List.mem_of_getElem? (i := 72) rfl)) rfl
theorem w_4_73 : Cond.selects RX7 yX7_read yX7_read ∈ WT := wtm (tb4 (List.mem_of_getElem? (i := 73) rfl)) rfl
theorem w_3_218 : Cond.code yX7_see cX7_see 3 (some .int) ∈ WT := wtm (tb3 (List.mem_of_getElem? (i := 218) rfl)) rfl
theorem w_3_216 : Cond.instanceMethod yX7_see ∈ WT := wtm (tb3 (List.mem_of_getElem? (i := 216) rfl)) rfl
theorem w_3_217 : Cond.selects RX7 yX7_see yX7_see ∈ WT := wtm (tb3 (List.mem_of_getElem? (i := 217) rfl)) rfl
theorem w_3_116 : Cond.code yX7_share cX7_share 3 (some .int) ∈ WT := wtm (tb3 (List.mem_of_getElem? (i := 116) rfl)) rfl
theorem w_3_114 : Cond.instanceMethod yX7_share ∈ WT := wtm (tb3 (List.mem_of_getElem? (i := 114) rfl)) rfl
theorem w_3_115 : Cond.selects RX7 yX7_share yX7_share ∈ WT := wtm (tb3 (List.mem_of_getElem? (i := 115) rfl)) rfl
theorem w_3_108 : Cond.code yX7_sharedWhole cX7_sharedWhole 5 (some .int) ∈ WT := wtm (tb3 (List.mem_of_getElem? (i := 108) rfl)) rfl
theorem w_3_107 : Cond.instanceMethod yX7_sharedWhole ∈ WT := wtm (tb3 (List.mem_of_getElem? (i := 107) rfl)) rfl
theorem w_4_46 : Cond.code yX7_sheet cX7_sheet 4 (some .int) ∈ WT := wtm (tb4 (List.mem_of_getElem? (i := 46) rfl)) rfl
theorem w_4_44 : Cond.instanceMethod yX7_sheet ∈ WT := wtm (tb4 (List.mem_of_getElem? (i := 44) rfl)) rfl
theorem w_4_45 : Cond.selects RX7 yX7_sheet yX7_sheet ∈ WT := wtm (tb4 (List.mem_of_getElem? (i := 45) rfl)) rfl
theorem w_5_98 : Cond.code yX8_alter cX8_alter 4 (some .int) ∈ WT := wtm (tb5 (List.mem_of_getElem? (i := 98) rfl)) rfl
theorem w_5_96 : Cond.instanceMethod yX8_alter ∈ WT := wtm (tb5 (List.mem_of_getElem? (i := 96) rfl)) rfl
theorem w_5_97 : Cond.selects RX8 yX8_alter yX8_alter ∈ WT := wtm (tb5 (List.mem_of_getElem? (i := 97) rfl)) rfl
theorem w_5_189 : Cond.code yX8_best cX8_best 5 (some .int) ∈ WT := wtm (tb5 (List.mem_of_getElem? (i := 189) rfl)) rfl
theorem w_5_187 : Cond.instanceMethod yX8_best ∈ WT := wtm (tb5 (List.mem_of_getElem? (i := 187) rfl)) rfl
theorem w_5_188 : Cond.selects RX8 yX8_best yX8_best ∈ WT := wtm (tb5 (List.mem_of_getElem? (i := 188) rfl)) rfl
theorem w_5_160 : Cond.code yX8_by cX8_by 3 (some .int) ∈ WT := wtm (tb5 (List.mem_of_getElem? (i := 160) rfl)) rfl
theorem w_5_158 : Cond.instanceMethod yX8_by ∈ WT := wtm (tb5 (List.mem_of_getElem? (i := 158) rfl)) rfl
theorem w_5_159 : Cond.selects RX8 yX8_by yX8_by ∈ WT := wtm (tb5 (List.mem_of_getElem? (i := 159) rfl)) rfl
theorem w_5_124 : Cond.code yX8_dies cX8_dies 3 (some .int) ∈ WT := wtm (tb5 (List.mem_of_getElem? (i := 124) rfl)) rfl
theorem w_5_122 : Cond.instanceMethod yX8_dies ∈ WT := wtm (tb5 (List.mem_of_getElem? (i := 122) rfl)) rfl
theorem w_5_123 : Cond.selects RX8 yX8_dies yX8_dies ∈ WT := wtm (tb5 (List.mem_of_getElem? (i := 123) rfl)) rfl
theorem w_6_16 : Cond.code yX8_drift cX8_drift 9 (some .int) ∈ WT := wtm (tb6 (List.mem_of_getElem? (i := 16) rfl)) rfl
theorem w_6_14 : Cond.instanceMethod yX8_drift ∈ WT := wtm (tb6 (List.mem_of_getElem? (i := 14) rfl)) rfl
theorem w_6_15 : Cond.selects RX8 yX8_drift yX8_drift ∈ WT := wtm (tb6 (List.mem_of_getElem? (i := 15) rfl)) rfl
theorem w_5_207 : Cond.code yX8_findOdds cX8_findOdds 11 none ∈ WT := wtm (tb5 (List.mem_of_getElem? (i := 207) rfl)) rfl
theorem w_5_206 : Cond.instanceMethod yX8_findOdds ∈ WT := wtm (tb5 (List.mem_of_getElem? (i := 206) rfl)) rfl
theorem w_5_36 : Cond.code yX8_givesNow cX8_givesNow 1 none ∈ WT := wtm (tb5 (List.mem_of_getElem? (i := 36) rfl)) rfl
theorem w_5_35 : Cond.instanceMethod yX8_givesNow ∈ WT := wtm (tb5 (List.mem_of_getElem? (i := 35) rfl)) rfl
theorem w_5_236 : Cond.code yX8_isHerdSo cX8_isHerdSo 2 (some .boolean) ∈ WT := wtm (tb5 (List.mem_of_getElem? (i := 236) rfl)) rfl
theorem w_5_235 : Cond.instanceMethod yX8_isHerdSo ∈ WT := wtm (tb5 (List.mem_of_getElem? (i := 235) rfl)) rfl
theorem w_5_113 : Cond.code yX8_judge cX8_judge 2 (some .int) ∈ WT := wtm (tb5 (List.mem_of_getElem? (i := 113) rfl)) rfl
theorem w_5_111 : Cond.instanceMethod yX8_judge ∈ WT := wtm (tb5 (List.mem_of_getElem? (i := 111) rfl)) rfl
theorem w_5_112 : Cond.selects RX8 yX8_judge yX8_judge ∈ WT := wtm (tb5 (List.mem_of_getElem? (i := 112) rfl)) rfl
theorem w_5_223 : Cond.code yX8_judges cX8_judges 3 (some .int) ∈ WT := wtm (tb5 (List.mem_of_getElem? (i := 223) rfl)) rfl
theorem w_5_221 : Cond.instanceMethod yX8_judges ∈ WT := wtm (tb5 (List.mem_of_getElem? (i := 221) rfl)) rfl
theorem w_5_222 : Cond.selects RX8 yX8_judges yX8_judges ∈ WT := wtm (tb5 (List.mem_of_getElem? (i := 222) rfl)) rfl
theorem w_5_177 : Cond.code yX8_keeps cX8_keeps 5 (some .int) ∈ WT := wtm (tb5 (List.mem_of_getElem? (i := 177) rfl)) rfl
theorem w_5_175 : Cond.instanceMethod yX8_keeps ∈ WT := wtm (tb5 (List.mem_of_getElem? (i := 175) rfl)) rfl
theorem w_5_176 : Cond.selects RX8 yX8_keeps yX8_keeps ∈ WT := wtm (tb5 (List.mem_of_getElem? (i := 176) rfl)) rfl
theorem w_6_41 : Cond.code yX8_lay cX8_lay 4 (some .int) ∈ WT := wtm (tb6 (List.mem_of_getElem? (i := 41) rfl)) rfl
theorem w_6_39 : Cond.instanceMethod yX8_lay ∈ WT := wtm (tb6 (List.mem_of_getElem? (i := 39) rfl)) rfl
theorem w_6_40 : Cond.selects RX8 yX8_lay yX8_lay ∈ WT := wtm (tb6 (List.mem_of_getElem? (i := 40) rfl)) rfl
theorem w_5_132 : Cond.code yX8_lend cX8_lend 7 (some .int) ∈ WT := wtm (tb5 (List.mem_of_getElem? (i := 132) rfl)) rfl
theorem w_5_130 : Cond.instanceMethod yX8_lend ∈ WT := wtm (tb5 (List.mem_of_getElem? (i := 130) rfl)) rfl
theorem w_5_131 : Cond.selects RX8 yX8_lend yX8_lend ∈ WT := wtm (tb5 (List.mem_of_getElem? (i := 131) rfl)) rfl
theorem w_5_4 : Cond.code yX8_lineNow cX8_lineNow 1 (some .int) ∈ WT := wtm (tb5 (List.mem_of_getElem? (i := 4) rfl)) rfl
theorem w_5_3 : Cond.instanceMethod yX8_lineNow ∈ WT := wtm (tb5 (List.mem_of_getElem? (i := 3) rfl)) rfl
theorem w_5_168 : Cond.code yX8_loses cX8_loses 5 (some .int) ∈ WT := wtm (tb5 (List.mem_of_getElem? (i := 168) rfl)) rfl
theorem w_5_166 : Cond.instanceMethod yX8_loses ∈ WT := wtm (tb5 (List.mem_of_getElem? (i := 166) rfl)) rfl
theorem w_5_167 : Cond.selects RX8 yX8_loses yX8_loses ∈ WT := wtm (tb5 (List.mem_of_getElem? (i := 167) rfl)) rfl
theorem w_5_164 : Cond.code yX8_of cX8_of 3 (some .int) ∈ WT := wtm (tb5 (List.mem_of_getElem? (i := 164) rfl)) rfl
theorem w_5_162 : Cond.instanceMethod yX8_of ∈ WT := wtm (tb5 (List.mem_of_getElem? (i := 162) rfl)) rfl
theorem w_5_163 : Cond.selects RX8 yX8_of yX8_of ∈ WT := wtm (tb5 (List.mem_of_getElem? (i := 163) rfl)) rfl
theorem w_6_45 : Cond.code yX8_read cX8_read 11 (some .int) ∈ WT := wtm (tb6 (List.mem_of_getElem? (i := 45) rfl)) rfl
theorem w_6_43 : Cond.instanceMethod yX8_read ∈ WT := wtm (tb6 (List.mem_of_getElem? (i := 43) rfl)) rfl
theorem w_6_44 : Cond.selects RX8 yX8_read yX8_read ∈ WT := wtm (tb6 (List.mem_of_getElem? (i := 44) rfl)) rfl
theorem w_5_16 : Cond.code yX8_readNumber cX8_readNumber 4 (some .int) ∈ WT := wtm (tb5 (List.mem_of_getElem? (i := 16) rfl)) rfl
theorem w_5_15 : Cond.instanceMethod yX8_readNumber ∈ WT := wtm (tb5 (List.mem_of_getElem? (i := 15) rfl)) rfl
theorem w_5_215 : Cond.code yX8_see cX8_see 4 (some .int) ∈ WT := wtm (tb5 (List.mem_of_getElem? (i := 215) rfl)) rfl
theorem w_5_213 : Cond.instanceMethod yX8_see ∈ WT := wtm (tb5 (List.mem_of_getElem? (i := 213) rfl)) rfl
theorem w_5_214 : Cond.selects RX8 yX8_see yX8_see ∈ WT := wtm (tb5 (List.mem_of_getElem? (i := 214) rfl)) rfl
theorem w_5_140 : Cond.code yX8_share cX8_share 4 (some .int) ∈ WT := wtm (tb5 (List.mem_of_getElem? (i := 140) rfl)) rfl
theorem w_5_138 : Cond.instanceMethod yX8_share ∈ WT := wtm (tb5 (List.mem_of_getElem? (i := 138) rfl)) rfl
theorem w_5_139 : Cond.selects RX8 yX8_share yX8_share ∈ WT := wtm (tb5 (List.mem_of_getElem? (i := 139) rfl)) rfl
theorem w_6_34 : Cond.code yX8_sheet cX8_sheet 5 (some .int) ∈ WT := wtm (tb6 (List.mem_of_getElem? (i := 34) rfl)) rfl
theorem w_6_32 : Cond.instanceMethod yX8_sheet ∈ WT := wtm (tb6 (List.mem_of_getElem? (i := 32) rfl)) rfl
theorem w_6_33 : Cond.selects RX8 yX8_sheet yX8_sheet ∈ WT := wtm (tb6 (List.mem_of_getElem? (i := 33) rfl)) rfl
theorem w_5_90 : Cond.code yX8_sum cX8_sum 2 (some .long) ∈ WT := wtm (tb5 (List.mem_of_getElem? (i := 90) rfl)) rfl
theorem w_5_88 : Cond.instanceMethod yX8_sum ∈ WT := wtm (tb5 (List.mem_of_getElem? (i := 88) rfl)) rfl
theorem w_5_89 : Cond.selects RX8 yX8_sum yX8_sum ∈ WT := wtm (tb5 (List.mem_of_getElem? (i := 89) rfl)) rfl
theorem w_5_76 : Cond.code yX8_told cX8_told 3 (some .long) ∈ WT := wtm (tb5 (List.mem_of_getElem? (i := 76) rfl)) rfl
theorem w_5_74 : Cond.instanceMethod yX8_told ∈ WT := wtm (tb5 (List.mem_of_getElem? (i := 74) rfl)) rfl
theorem w_5_75 : Cond.selects RX8 yX8_told yX8_told ∈ WT := wtm (tb5 (List.mem_of_getElem? (i := 75) rfl)) rfl
theorem w_5_185 : Cond.code yX8_unlike cX8_unlike 6 (some .int) ∈ WT := wtm (tb5 (List.mem_of_getElem? (i := 185) rfl)) rfl
theorem w_5_183 : Cond.instanceMethod yX8_unlike ∈ WT := wtm (tb5 (List.mem_of_getElem? (i := 183) rfl)) rfl
theorem w_5_184 : Cond.selects RX8 yX8_unlike yX8_unlike ∈ WT := wtm (tb5 (List.mem_of_getElem? (i := 184) rfl)) rfl
theorem w_5_197 : Cond.code yX8_wants cX8_wants 4 (some .int) ∈ WT := wtm (tb5 (List.mem_of_getElem? (i := 197) rfl)) rfl
theorem w_5_195 : Cond.instanceMethod yX8_wants ∈ WT := wtm (tb5 (List.mem_of_getElem? (i := 195) rfl)) rfl
theorem w_5_196 : Cond.selects RX8 yX8_wants yX8_wants ∈ WT := wtm (tb5 (List.mem_of_getElem? (i := 196) rfl)) rfl
theorem w_5_156 : Cond.code yX8_will cX8_will 5 (some .int) ∈ WT := wtm (tb5 (List.mem_of_getElem? (i := 156) rfl)) rfl
theorem w_5_154 : Cond.instanceMethod yX8_will ∈ WT := wtm (tb5 (List.mem_of_getElem? (i := 154) rfl)) rfl
theorem w_5_155 : Cond.selects RX8 yX8_will yX8_will ∈ WT := wtm (tb5 (List.mem_of_getElem? (i := 155) rfl)) rfl
theorem w_5_144 : Cond.code yX8_wills cX8_wills 3 (some .int) ∈ WT := wtm (tb5 (List.mem_of_getElem? (i := 144) rfl)) rfl
theorem w_5_142 : Cond.instanceMethod yX8_wills ∈ WT := wtm (tb5 (List.mem_of_getElem? (i := 142) rfl)) rfl
theorem w_5_143 : Cond.selects RX8 yX8_wills yX8_wills ∈ WT := wtm (tb5 (List.mem_of_getElem? (i := 143) rfl)) rfl
theorem w_2_228 : Cond.code yX2_part cX2_part 3 none ∈ WT := wtm (tb2 (List.mem_of_getElem? (i := 228) rfl)) rfl
theorem w_2_226 : Cond.instanceMethod yX2_part ∈ WT := wtm (tb2 (List.mem_of_getElem? (i := 226) rfl)) rfl
theorem w_2_227 : Cond.selects RX2 yX2_part yX2_part ∈ WT := wtm (tb2 (List.mem_of_getElem? (i := 227) rfl)) rfl
theorem w_2_108 : Cond.code yX3_takeNumber cX3_takeNumber 1 none ∈ WT := wtm (tb2 (List.mem_of_getElem? (i := 108) rfl)) rfl
theorem w_2_107 : Cond.instanceMethod yX3_takeNumber ∈ WT := wtm (tb2 (List.mem_of_getElem? (i := 107) rfl)) rfl
theorem w_2_77 : Cond.code yX5_advance cX5_advance 1 none ∈ WT := wtm (tb2 (List.mem_of_getElem? (i := 77) rfl)) rfl
theorem w_2_75 : Cond.instanceMethod yX5_advance ∈ WT := wtm (tb2 (List.mem_of_getElem? (i := 75) rfl)) rfl
theorem w_2_76 : Cond.selects RX5 yX5_advance yX5_advance ∈ WT := wtm (tb2 (List.mem_of_getElem? (i := 76) rfl)) rfl
theorem w_3_104 : Cond.code yX7_lend cX7_lend 4 (some .int) ∈ WT := wtm (tb3 (List.mem_of_getElem? (i := 104) rfl)) rfl
theorem w_3_102 : Cond.instanceMethod yX7_lend ∈ WT := wtm (tb3 (List.mem_of_getElem? (i := 102) rfl)) rfl
theorem w_3_103 : Cond.selects RX7 yX7_lend yX7_lend ∈ WT := wtm (tb3 (List.mem_of_getElem? (i := 103) rfl)) rfl
theorem w_3_68 : Cond.code yX7_sum cX7_sum 2 (some .long) ∈ WT := wtm (tb3 (List.mem_of_getElem? (i := 68) rfl)) rfl
theorem w_3_66 : Cond.instanceMethod yX7_sum ∈ WT := wtm (tb3 (List.mem_of_getElem? (i := 66) rfl)) rfl
theorem w_3_67 : Cond.selects RX7 yX7_sum yX7_sum ∈ WT := wtm (tb3 (List.mem_of_getElem? (i := 67) rfl)) rfl
theorem w_3_54 : Cond.code yX7_told cX7_told 3 (some .long) ∈ WT := wtm (tb3 (List.mem_of_getElem? (i := 54) rfl)) rfl
theorem w_3_52 : Cond.instanceMethod yX7_told ∈ WT := wtm (tb3 (List.mem_of_getElem? (i := 52) rfl)) rfl
theorem w_3_53 : Cond.selects RX7 yX7_told yX7_told ∈ WT := wtm (tb3 (List.mem_of_getElem? (i := 53) rfl)) rfl
theorem w_6_12 : Cond.code yX8_ask cX8_ask 7 (some .int) ∈ WT := wtm (tb6 (List.mem_of_getElem? (i := 12) rfl)) rfl
theorem w_6_10 : Cond.instanceMethod yX8_ask ∈ WT := wtm (tb6 (List.mem_of_getElem? (i := 10) rfl)) rfl
theorem w_6_11 : Cond.selects RX8 yX8_ask yX8_ask ∈ WT := wtm (tb6 (List.mem_of_getElem? (i := 11) rfl)) rfl
theorem w_6_55 : Cond.code yX8_count cX8_count 2 (some .int) ∈ WT := wtm (tb6 (List.mem_of_getElem? (i := 55) rfl)) rfl
theorem w_6_53 : Cond.instanceMethod yX8_count ∈ WT := wtm (tb6 (List.mem_of_getElem? (i := 53) rfl)) rfl
theorem w_6_54 : Cond.selects RX8 yX8_count yX8_count ∈ WT := wtm (tb6 (List.mem_of_getElem? (i := 54) rfl)) rfl
theorem w_5_193 : Cond.code yX8_gains cX8_gains 8 (some .int) ∈ WT := wtm (tb5 (List.mem_of_getElem? (i := 193) rfl)) rfl
theorem w_5_191 : Cond.instanceMethod yX8_gains ∈ WT := wtm (tb5 (List.mem_of_getElem? (i := 191) rfl)) rfl
theorem w_5_192 : Cond.selects RX8 yX8_gains yX8_gains ∈ WT := wtm (tb5 (List.mem_of_getElem? (i := 192) rfl)) rfl
theorem w_5_60 : Cond.code yX8_heir cX8_heir 3 (some .int) ∈ WT := wtm (tb5 (List.mem_of_getElem? (i := 60) rfl)) rfl
theorem w_5_58 : Cond.instanceMethod yX8_heir ∈ WT := wtm (tb5 (List.mem_of_getElem? (i := 58) rfl)) rfl
theorem w_5_59 : Cond.selects RX8 yX8_heir yX8_heir ∈ WT := wtm (tb5 (List.mem_of_getElem? (i := 59) rfl)) rfl
theorem w_5_231 : Cond.code yX8_herds cX8_herds 6 (some .int) ∈ WT := wtm (tb5 (List.mem_of_getElem? (i := 231) rfl)) rfl
theorem w_5_229 : Cond.instanceMethod yX8_herds ∈ WT := wtm (tb5 (List.mem_of_getElem? (i := 229) rfl)) rfl
theorem w_5_230 : Cond.selects RX8 yX8_herds yX8_herds ∈ WT := wtm (tb5 (List.mem_of_getElem? (i := 230) rfl)) rfl
theorem w_6_8 : Cond.code yX8_isDownSo cX8_isDownSo 3 (some .boolean) ∈ WT := wtm (tb6 (List.mem_of_getElem? (i := 8) rfl)) rfl
theorem w_6_7 : Cond.instanceMethod yX8_isDownSo ∈ WT := wtm (tb6 (List.mem_of_getElem? (i := 7) rfl)) rfl
theorem w_5_211 : Cond.code yX8_luck cX8_luck 5 (some .long) ∈ WT := wtm (tb5 (List.mem_of_getElem? (i := 211) rfl)) rfl
theorem w_5_209 : Cond.instanceMethod yX8_luck ∈ WT := wtm (tb5 (List.mem_of_getElem? (i := 209) rfl)) rfl
theorem w_5_210 : Cond.selects RX8 yX8_luck yX8_luck ∈ WT := wtm (tb5 (List.mem_of_getElem? (i := 210) rfl)) rfl
theorem w_5_201 : Cond.code yX8_mean cX8_mean 4 (some .long) ∈ WT := wtm (tb5 (List.mem_of_getElem? (i := 201) rfl)) rfl
theorem w_5_199 : Cond.instanceMethod yX8_mean ∈ WT := wtm (tb5 (List.mem_of_getElem? (i := 199) rfl)) rfl
theorem w_5_200 : Cond.selects RX8 yX8_mean yX8_mean ∈ WT := wtm (tb5 (List.mem_of_getElem? (i := 200) rfl)) rfl
theorem w_5_94 : Cond.code yX8_over cX8_over 5 (some .long) ∈ WT := wtm (tb5 (List.mem_of_getElem? (i := 94) rfl)) rfl
theorem w_5_92 : Cond.instanceMethod yX8_over ∈ WT := wtm (tb5 (List.mem_of_getElem? (i := 92) rfl)) rfl
theorem w_5_93 : Cond.selects RX8 yX8_over yX8_over ∈ WT := wtm (tb5 (List.mem_of_getElem? (i := 93) rfl)) rfl
theorem w_5_12 : Cond.code yX8_readLineOf cX8_readLineOf 2 none ∈ WT := wtm (tb5 (List.mem_of_getElem? (i := 12) rfl)) rfl
theorem w_5_11 : Cond.instanceMethod yX8_readLineOf ∈ WT := wtm (tb5 (List.mem_of_getElem? (i := 11) rfl)) rfl
theorem w_5_24 : Cond.code yX8_rule cX8_rule 2 (some .int) ∈ WT := wtm (tb5 (List.mem_of_getElem? (i := 24) rfl)) rfl
theorem w_5_22 : Cond.instanceMethod yX8_rule ∈ WT := wtm (tb5 (List.mem_of_getElem? (i := 22) rfl)) rfl
theorem w_5_23 : Cond.selects RX8 yX8_rule yX8_rule ∈ WT := wtm (tb5 (List.mem_of_getElem? (i := 23) rfl)) rfl
theorem w_3_160 : Cond.code yX2_grow cX2_grow 2 none ∈ WT := wtm (tb3 (List.mem_of_getElem? (i := 160) rfl)) rfl
theorem w_3_158 : Cond.instanceMethod yX2_grow ∈ WT := wtm (tb3 (List.mem_of_getElem? (i := 158) rfl)) rfl
theorem w_3_159 : Cond.selects RX2 yX2_grow yX2_grow ∈ WT := wtm (tb3 (List.mem_of_getElem? (i := 159) rfl)) rfl
theorem w_3_187 : Cond.code yX7_best cX7_best 5 (some .int) ∈ WT := wtm (tb3 (List.mem_of_getElem? (i := 187) rfl)) rfl
theorem w_3_185 : Cond.instanceMethod yX7_best ∈ WT := wtm (tb3 (List.mem_of_getElem? (i := 185) rfl)) rfl
theorem w_3_186 : Cond.selects RX7 yX7_best yX7_best ∈ WT := wtm (tb3 (List.mem_of_getElem? (i := 186) rfl)) rfl
theorem w_3_148 : Cond.code yX7_by cX7_by 3 (some .int) ∈ WT := wtm (tb3 (List.mem_of_getElem? (i := 148) rfl)) rfl
theorem w_3_146 : Cond.instanceMethod yX7_by ∈ WT := wtm (tb3 (List.mem_of_getElem? (i := 146) rfl)) rfl
theorem w_3_147 : Cond.selects RX7 yX7_by yX7_by ∈ WT := wtm (tb3 (List.mem_of_getElem? (i := 147) rfl)) rfl
theorem w_4_18 : Cond.code yX7_downs cX7_downs 4 (some .int) ∈ WT := wtm (tb4 (List.mem_of_getElem? (i := 18) rfl)) rfl
theorem w_4_16 : Cond.instanceMethod yX7_downs ∈ WT := wtm (tb4 (List.mem_of_getElem? (i := 16) rfl)) rfl
theorem w_4_17 : Cond.selects RX7 yX7_downs yX7_downs ∈ WT := wtm (tb4 (List.mem_of_getElem? (i := 17) rfl)) rfl
theorem w_4_33 : Cond.code yX7_drift cX7_drift 7 (some .int) ∈ WT := wtm (tb4 (List.mem_of_getElem? (i := 33) rfl)) rfl
theorem w_4_31 : Cond.instanceMethod yX7_drift ∈ WT := wtm (tb4 (List.mem_of_getElem? (i := 31) rfl)) rfl
theorem w_4_32 : Cond.selects RX7 yX7_drift yX7_drift ∈ WT := wtm (tb4 (List.mem_of_getElem? (i := 32) rfl)) rfl
theorem w_3_195 : Cond.code yX7_getsWithout cX7_getsWithout 3 (some .int) ∈ WT := wtm (tb3 (List.mem_of_getElem? (i := 195) rfl)) rfl
theorem w_3_194 : Cond.instanceMethod yX7_getsWithout ∈ WT := wtm (tb3 (List.mem_of_getElem? (i := 194) rfl)) rfl
theorem w_3_230 : Cond.code yX7_judges cX7_judges 3 (some .int) ∈ WT := wtm (tb3 (List.mem_of_getElem? (i := 230) rfl)) rfl
theorem w_3_228 : Cond.instanceMethod yX7_judges ∈ WT := wtm (tb3 (List.mem_of_getElem? (i := 228) rfl)) rfl
theorem w_3_229 : Cond.selects RX7 yX7_judges yX7_judges ∈ WT := wtm (tb3 (List.mem_of_getElem? (i := 229) rfl)) rfl
theorem w_2_224 : Cond.code yX7_partOf cX7_partOf 2 (some (.object "CamelParts$Parting")) ∈ WT := wtm (tb2 (List.mem_of_getElem? (i := 224) rfl)) rfl
theorem w_2_223 : Cond.instanceMethod yX7_partOf ∈ WT := wtm (tb2 (List.mem_of_getElem? (i := 223) rfl)) rfl
theorem w_6_4 : Cond.code yX8_downs cX8_downs 7 (some .int) ∈ WT := wtm (tb6 (List.mem_of_getElem? (i := 4) rfl)) rfl
theorem w_6_2 : Cond.instanceMethod yX8_downs ∈ WT := wtm (tb6 (List.mem_of_getElem? (i := 2) rfl)) rfl
theorem w_6_3 : Cond.selects RX8 yX8_downs yX8_downs ∈ WT := wtm (tb6 (List.mem_of_getElem? (i := 3) rfl)) rfl
theorem w_5_0 : Cond.code yX8_readLine cX8_readLine 2 none ∈ WT := wtm (tb5 (List.mem_of_getElem? (i := 0) rfl)) rfl
theorem w_4_239 : Cond.instanceMethod yX8_readLine ∈ WT := wtm (tb4 (List.mem_of_getElem? (i := 239) rfl)) rfl
theorem w_4_2 : Cond.code yX7_findHerds cX7_findHerds 2 none ∈ WT := wtm (tb4 (List.mem_of_getElem? (i := 2) rfl)) rfl
theorem w_4_1 : Cond.instanceMethod yX7_findHerds ∈ WT := wtm (tb4 (List.mem_of_getElem? (i := 1) rfl)) rfl
theorem w_3_169 : Cond.code yX7_keeps cX7_keeps 5 (some .int) ∈ WT := wtm (tb3 (List.mem_of_getElem? (i := 169) rfl)) rfl
theorem w_3_167 : Cond.instanceMethod yX7_keeps ∈ WT := wtm (tb3 (List.mem_of_getElem? (i := 167) rfl)) rfl
theorem w_3_168 : Cond.selects RX7 yX7_keeps yX7_keeps ∈ WT := wtm (tb3 (List.mem_of_getElem? (i := 168) rfl)) rfl
theorem w_4_26 : Cond.code yX7_leftAtWorst cX7_leftAtWorst 5 (some .int) ∈ WT := wtm (tb4 (List.mem_of_getElem? (i := 26) rfl)) rfl
theorem w_4_25 : Cond.instanceMethod yX7_leftAtWorst ∈ WT := wtm (tb4 (List.mem_of_getElem? (i := 25) rfl)) rfl
theorem w_3_156 : Cond.code yX7_loses cX7_loses 5 (some .int) ∈ WT := wtm (tb3 (List.mem_of_getElem? (i := 156) rfl)) rfl
theorem w_3_154 : Cond.instanceMethod yX7_loses ∈ WT := wtm (tb3 (List.mem_of_getElem? (i := 154) rfl)) rfl
theorem w_3_155 : Cond.selects RX7 yX7_loses yX7_loses ∈ WT := wtm (tb3 (List.mem_of_getElem? (i := 155) rfl)) rfl
theorem w_3_214 : Cond.code yX7_luck cX7_luck 8 (some .long) ∈ WT := wtm (tb3 (List.mem_of_getElem? (i := 214) rfl)) rfl
theorem w_3_212 : Cond.instanceMethod yX7_luck ∈ WT := wtm (tb3 (List.mem_of_getElem? (i := 212) rfl)) rfl
theorem w_3_213 : Cond.selects RX7 yX7_luck yX7_luck ∈ WT := wtm (tb3 (List.mem_of_getElem? (i := 213) rfl)) rfl
theorem w_3_203 : Cond.code yX7_mean cX7_mean 7 (some .long) ∈ WT := wtm (tb3 (List.mem_of_getElem? (i := 203) rfl)) rfl
theorem w_3_201 : Cond.instanceMethod yX7_mean ∈ WT := wtm (tb3 (List.mem_of_getElem? (i := 201) rfl)) rfl
theorem w_3_202 : Cond.selects RX7 yX7_mean yX7_mean ∈ WT := wtm (tb3 (List.mem_of_getElem? (i := 202) rfl)) rfl
theorem w_3_152 : Cond.code yX7_of cX7_of 3 (some .int) ∈ WT := wtm (tb3 (List.mem_of_getElem? (i := 152) rfl)) rfl
theorem w_3_150 : Cond.instanceMethod yX7_of ∈ WT := wtm (tb3 (List.mem_of_getElem? (i := 150) rfl)) rfl
theorem w_3_151 : Cond.selects RX7 yX7_of yX7_of ∈ WT := wtm (tb3 (List.mem_of_getElem? (i := 151) rfl)) rfl
theorem w_2_220 : Cond.code yX7_partNow cX7_partNow 1 (some (.object "CamelParts$Parting")) ∈ WT := wtm (tb2 (List.mem_of_getElem? (i := 220) rfl)) rfl
theorem w_2_219 : Cond.instanceMethod yX7_partNow ∈ WT := wtm (tb2 (List.mem_of_getElem? (i := 219) rfl)) rfl
theorem w_3_178 : Cond.code yX7_unlike cX7_unlike 4 (some .int) ∈ WT := wtm (tb3 (List.mem_of_getElem? (i := 178) rfl)) rfl
theorem w_3_176 : Cond.instanceMethod yX7_unlike ∈ WT := wtm (tb3 (List.mem_of_getElem? (i := 176) rfl)) rfl
theorem w_3_177 : Cond.selects RX7 yX7_unlike yX7_unlike ∈ WT := wtm (tb3 (List.mem_of_getElem? (i := 177) rfl)) rfl
theorem w_3_199 : Cond.code yX7_wants cX7_wants 4 (some .int) ∈ WT := wtm (tb3 (List.mem_of_getElem? (i := 199) rfl)) rfl
theorem w_3_197 : Cond.instanceMethod yX7_wants ∈ WT := wtm (tb3 (List.mem_of_getElem? (i := 197) rfl)) rfl
theorem w_3_198 : Cond.selects RX7 yX7_wants yX7_wants ∈ WT := wtm (tb3 (List.mem_of_getElem? (i := 198) rfl)) rfl
theorem w_4_220 : Cond.code yX8_text cX8_text 2 (some .int) ∈ WT := wtm (tb4 (List.mem_of_getElem? (i := 220) rfl)) rfl
theorem w_4_218 : Cond.instanceMethod yX8_text ∈ WT := wtm (tb4 (List.mem_of_getElem? (i := 218) rfl)) rfl
theorem w_4_219 : Cond.selects RX8 yX8_text yX8_text ∈ WT := wtm (tb4 (List.mem_of_getElem? (i := 219) rfl)) rfl
theorem w_3_135 : Cond.code yX6_choose cX6_choose 6 none ∈ WT := wtm (tb3 (List.mem_of_getElem? (i := 135) rfl)) rfl
theorem w_3_134 : Cond.static yX6_choose ∈ WT := wtm (tb3 (List.mem_of_getElem? (i := 134) rfl)) rfl
theorem w_4_22 : Cond.code yX7_ask cX7_ask 6 (some .int) ∈ WT := wtm (tb4 (List.mem_of_getElem? (i := 22) rfl)) rfl
theorem w_4_20 : Cond.instanceMethod yX7_ask ∈ WT := wtm (tb4 (List.mem_of_getElem? (i := 20) rfl)) rfl
theorem w_4_21 : Cond.selects RX7 yX7_ask yX7_ask ∈ WT := wtm (tb4 (List.mem_of_getElem? (i := 21) rfl)) rfl
theorem w_4_90 : Cond.code yX7_count cX7_count 2 (some .int) ∈ WT := wtm (tb4 (List.mem_of_getElem? (i := 90) rfl)) rfl
theorem w_4_88 : Cond.instanceMethod yX7_count ∈ WT := wtm (tb4 (List.mem_of_getElem? (i := 88) rfl)) rfl
theorem w_4_89 : Cond.selects RX7 yX7_count yX7_count ∈ WT := wtm (tb4 (List.mem_of_getElem? (i := 89) rfl)) rfl
theorem w_3_191 : Cond.code yX7_gains cX7_gains 8 (some .int) ∈ WT := wtm (tb3 (List.mem_of_getElem? (i := 191) rfl)) rfl
theorem w_3_189 : Cond.instanceMethod yX7_gains ∈ WT := wtm (tb3 (List.mem_of_getElem? (i := 189) rfl)) rfl
theorem w_3_190 : Cond.selects RX7 yX7_gains yX7_gains ∈ WT := wtm (tb3 (List.mem_of_getElem? (i := 190) rfl)) rfl
theorem w_3_35 : Cond.code yX7_heir cX7_heir 3 (some .int) ∈ WT := wtm (tb3 (List.mem_of_getElem? (i := 35) rfl)) rfl
theorem w_3_33 : Cond.instanceMethod yX7_heir ∈ WT := wtm (tb3 (List.mem_of_getElem? (i := 33) rfl)) rfl
theorem w_3_34 : Cond.selects RX7 yX7_heir yX7_heir ∈ WT := wtm (tb3 (List.mem_of_getElem? (i := 34) rfl)) rfl
theorem w_3_238 : Cond.code yX7_herds cX7_herds 2 (some .int) ∈ WT := wtm (tb3 (List.mem_of_getElem? (i := 238) rfl)) rfl
theorem w_3_236 : Cond.instanceMethod yX7_herds ∈ WT := wtm (tb3 (List.mem_of_getElem? (i := 236) rfl)) rfl
theorem w_3_237 : Cond.selects RX7 yX7_herds yX7_herds ∈ WT := wtm (tb3 (List.mem_of_getElem? (i := 237) rfl)) rfl
theorem w_3_72 : Cond.code yX7_over cX7_over 5 (some .long) ∈ WT := wtm (tb3 (List.mem_of_getElem? (i := 72) rfl)) rfl
theorem w_3_70 : Cond.instanceMethod yX7_over ∈ WT := wtm (tb3 (List.mem_of_getElem? (i := 70) rfl)) rfl
theorem w_3_71 : Cond.selects RX7 yX7_over yX7_over ∈ WT := wtm (tb3 (List.mem_of_getElem? (i := 71) rfl)) rfl
theorem w_2_206 : Cond.code yX7_rule cX7_rule 2 (some .int) ∈ WT := wtm (tb2 (List.mem_of_getElem? (i := 206) rfl)) rfl
theorem w_2_204 : Cond.instanceMethod yX7_rule ∈ WT := wtm (tb2 (List.mem_of_getElem? (i := 204) rfl)) rfl
theorem w_2_205 : Cond.selects RX7 yX7_rule yX7_rule ∈ WT := wtm (tb2 (List.mem_of_getElem? (i := 205) rfl)) rfl
theorem w_3_124 : Cond.code yX6_run cX6_run 5 none ∈ WT := wtm (tb3 (List.mem_of_getElem? (i := 124) rfl)) rfl
theorem w_3_122 : Cond.instanceMethod yX6_run ∈ WT := wtm (tb3 (List.mem_of_getElem? (i := 122) rfl)) rfl
theorem w_3_123 : Cond.selects RX6 yX6_run yX6_run ∈ WT := wtm (tb3 (List.mem_of_getElem? (i := 123) rfl)) rfl
theorem w_2_134 : Cond.code yX5_isName cX5_isName 3 (some .boolean) ∈ WT := wtm (tb2 (List.mem_of_getElem? (i := 134) rfl)) rfl
theorem w_2_132 : Cond.instanceMethod yX5_isName ∈ WT := wtm (tb2 (List.mem_of_getElem? (i := 132) rfl)) rfl
theorem w_2_133 : Cond.selects RX5 yX5_isName yX5_isName ∈ WT := wtm (tb2 (List.mem_of_getElem? (i := 133) rfl)) rfl
theorem w_3_144 : Cond.code yX7_will cX7_will 5 (some .int) ∈ WT := wtm (tb3 (List.mem_of_getElem? (i := 144) rfl)) rfl
theorem w_3_142 : Cond.instanceMethod yX7_will ∈ WT := wtm (tb3 (List.mem_of_getElem? (i := 142) rfl)) rfl
theorem w_3_143 : Cond.selects RX7 yX7_will yX7_will ∈ WT := wtm (tb3 (List.mem_of_getElem? (i := 143) rfl)) rfl
theorem w_3_120 : Cond.code yX7_wills cX7_wills 3 (some .int) ∈ WT := wtm (tb3 (List.mem_of_getElem? (i := 120) rfl)) rfl
theorem w_3_118 : Cond.instanceMethod yX7_wills ∈ WT := wtm (tb3 (List.mem_of_getElem? (i := 118) rfl)) rfl
theorem w_3_119 : Cond.selects RX7 yX7_wills yX7_wills ∈ WT := wtm (tb3 (List.mem_of_getElem? (i := 119) rfl)) rfl
theorem w_2_129 : Cond.code yX3_wordOfLine cX3_wordOfLine 1 (some .int) ∈ WT := wtm (tb2 (List.mem_of_getElem? (i := 129) rfl)) rfl
theorem w_2_128 : Cond.instanceMethod yX3_wordOfLine ∈ WT := wtm (tb2 (List.mem_of_getElem? (i := 128) rfl)) rfl
theorem w_2_125 : Cond.code yX3_takeWord cX3_takeWord 2 none ∈ WT := wtm (tb2 (List.mem_of_getElem? (i := 125) rfl)) rfl
theorem w_2_124 : Cond.instanceMethod yX3_takeWord ∈ WT := wtm (tb2 (List.mem_of_getElem? (i := 124) rfl)) rfl
theorem w_2_96 : Cond.code yX3_takeToken cX3_takeToken 1 none ∈ WT := wtm (tb2 (List.mem_of_getElem? (i := 96) rfl)) rfl
theorem w_2_95 : Cond.instanceMethod yX3_takeToken ∈ WT := wtm (tb2 (List.mem_of_getElem? (i := 95) rfl)) rfl
theorem w_2_65 : Cond.code yX3_parse cX3_parse 2 none ∈ WT := wtm (tb2 (List.mem_of_getElem? (i := 65) rfl)) rfl
theorem w_2_63 : Cond.instanceMethod yX3_parse ∈ WT := wtm (tb2 (List.mem_of_getElem? (i := 63) rfl)) rfl
theorem w_2_64 : Cond.selects RX3 yX3_parse yX3_parse ∈ WT := wtm (tb2 (List.mem_of_getElem? (i := 64) rfl)) rfl
theorem w_2_61 : Cond.code yX7_text cX7_text 2 (some .int) ∈ WT := wtm (tb2 (List.mem_of_getElem? (i := 61) rfl)) rfl
theorem w_2_59 : Cond.instanceMethod yX7_text ∈ WT := wtm (tb2 (List.mem_of_getElem? (i := 59) rfl)) rfl
theorem w_2_60 : Cond.selects RX7 yX7_text yX7_text ∈ WT := wtm (tb2 (List.mem_of_getElem? (i := 60) rfl)) rfl
theorem flX0_21 : FL RX0 21 0 3 := ⟨_, _, _, rfl, by decide, inX0, w_1_40⟩
theorem flX0_31 : FL RX0 31 0 6 := ⟨_, _, _, rfl, by decide, inX0, w_1_49⟩
theorem flX0_34 : FL RX0 34 0 7 := ⟨_, _, _, rfl, by decide, inX0, w_1_51⟩
theorem fpX0_21 : FP RX0 21 0 3 .int := ⟨_, _, _, tyX0, rfl, by decide, inX0, w_1_40, tyX0_ok, nmX0, rfl, rfl⟩
theorem flX0_9 : FL RX0 9 0 0 := ⟨_, _, _, rfl, by decide, inX0, w_1_30⟩
theorem fpX0_9 : FP RX0 9 0 0 .int := ⟨_, _, _, tyX0, rfl, by decide, inX0, w_1_30, tyX0_ok, nmX0, rfl, rfl⟩
theorem flX0_15 : FL RX0 15 0 1 := ⟨_, _, _, rfl, by decide, inX0, w_1_33⟩
theorem fpX0_15 : FP RX0 15 0 1 .int := ⟨_, _, _, tyX0, rfl, by decide, inX0, w_1_33, tyX0_ok, nmX0, rfl, rfl⟩
theorem flX0_18 : FL RX0 18 0 2 := ⟨_, _, _, rfl, by decide, inX0, w_1_36⟩
theorem fpX0_18 : FP RX0 18 0 2 .int := ⟨_, _, _, tyX0, rfl, by decide, inX0, w_1_36, tyX0_ok, nmX0, rfl, rfl⟩
theorem flX0_24 : FL RX0 24 0 4 := ⟨_, _, _, rfl, by decide, inX0, w_1_43⟩
theorem flX0_28 : FL RX0 28 0 5 := ⟨_, _, _, rfl, by decide, inX0, w_1_46⟩
theorem flX1_18 : FL RX1 18 1 2 := ⟨_, _, _, rfl, by decide, inX1, w_1_220⟩
theorem flX1_15 : FL RX1 15 1 1 := ⟨_, _, _, rfl, by decide, inX1, w_1_219⟩
theorem flX1_9 : FL RX1 9 1 0 := ⟨_, _, _, rfl, by decide, inX1, w_1_217⟩
theorem fpX1_9 : FP RX1 9 1 0 .int := ⟨_, _, _, tyX1, rfl, by decide, inX1, w_1_217, tyX1_ok, nmX1, rfl, rfl⟩
theorem fpX1_15 : FP RX1 15 1 1 .int := ⟨_, _, _, tyX1, rfl, by decide, inX1, w_1_219, tyX1_ok, nmX1, rfl, rfl⟩
theorem fpX1_18 : FP RX1 18 1 2 .int := ⟨_, _, _, tyX1, rfl, by decide, inX1, w_1_220, tyX1_ok, nmX1, rfl, rfl⟩
theorem flX2_32 : FL RX2 32 2 6 := ⟨_, _, _, rfl, by decide, inX2, w_1_86⟩
theorem flX2_25 : FL RX2 25 2 4 := ⟨_, _, _, rfl, by decide, inX2, w_1_84⟩
theorem flX2_29 : FL RX2 29 2 5 := ⟨_, _, _, rfl, by decide, inX2, w_1_85⟩
theorem flX2_22 : FL RX2 22 2 3 := ⟨_, _, _, rfl, by decide, inX2, w_1_83⟩
theorem flX2_36 : FL RX2 36 2 7 := ⟨_, _, _, rfl, by decide, inX2, w_1_87⟩
theorem flX3_29 : FL RX3 29 3 3 := ⟨_, _, _, rfl, by decide, inX3, w_1_154⟩
theorem fpX3_29 : FP RX3 29 3 3 .int := ⟨_, _, _, tyX3, rfl, by decide, inX3, w_1_154, tyX3_ok, nmX3, rfl, rfl⟩
theorem flX3_12 : FL RX3 12 3 0 := ⟨_, _, _, rfl, by decide, inX3, w_1_148⟩
theorem flX3_130 : FL RX3 130 5 2 := ⟨_, _, _, rfl, by decide, inX5, w_1_127⟩
theorem flX3_32 : FL RX3 32 3 4 := ⟨_, _, _, rfl, by decide, inX3, w_1_156⟩
theorem fpX3_32 : FP RX3 32 3 4 .int := ⟨_, _, _, tyX3, rfl, by decide, inX3, w_1_156, tyX3_ok, nmX3, rfl, rfl⟩
theorem flX3_35 : FL RX3 35 3 5 := ⟨_, _, _, rfl, by decide, inX3, w_1_158⟩
theorem fpX3_35 : FP RX3 35 3 5 .int := ⟨_, _, _, tyX3, rfl, by decide, inX3, w_1_158, tyX3_ok, nmX3, rfl, rfl⟩
theorem flX4_9 : FL RX4 9 4 0 := ⟨_, _, _, rfl, by decide, inX4, w_1_235⟩
theorem flX5_9 : FL RX5 9 5 0 := ⟨_, _, _, rfl, by decide, inX5, w_1_122⟩
theorem flX5_27 : FL RX5 27 5 5 := ⟨_, _, _, rfl, by decide, inX5, w_1_131⟩
theorem fpX5_9 : FP RX5 9 5 0 .int := ⟨_, _, _, tyX5, rfl, by decide, inX5, w_1_122, tyX5_ok, nmX5, rfl, rfl⟩
theorem flX5_24 : FL RX5 24 5 4 := ⟨_, _, _, rfl, by decide, inX5, w_1_130⟩
theorem fpX5_24 : FP RX5 24 5 4 .int := ⟨_, _, _, tyX5, rfl, by decide, inX5, w_1_130, tyX5_ok, nmX5, rfl, rfl⟩
theorem flX6_31 : FL RX6 31 6 6 := ⟨_, _, _, rfl, by decide, inX6, w_1_195⟩
theorem flX6_9 : FL RX6 9 6 0 := ⟨_, _, _, rfl, by decide, inX6, w_1_187⟩
theorem flX7_40 : FL RX7 40 7 6 := ⟨_, _, _, rfl, by decide, inX7, w_2_12⟩
theorem flX7_93 : FL RX7 93 3 3 := ⟨_, _, _, rfl, by decide, inX3, w_1_155⟩
theorem flX7_68 : FL RX7 68 7 11 := ⟨_, _, _, rfl, by decide, inX7, w_2_17⟩
theorem flX8_13 : FL RX8 13 8 1 := ⟨_, _, _, rfl, by decide, inX8, w_4_106⟩
theorem flX8_30 : FL RX8 30 8 17 := ⟨_, _, _, rfl, by decide, inX8, w_4_122⟩
theorem flX8_7 : FL RX8 7 8 0 := ⟨_, _, _, rfl, by decide, inX8, w_4_105⟩
theorem flX8_79 : FL RX8 79 8 7 := ⟨_, _, _, rfl, by decide, inX8, w_4_112⟩
theorem flX8_23 : FL RX8 23 8 6 := ⟨_, _, _, rfl, by decide, inX8, w_4_111⟩
theorem flX8_83 : FL RX8 83 8 12 := ⟨_, _, _, rfl, by decide, inX8, w_4_117⟩
theorem flX8_20 : FL RX8 20 8 3 := ⟨_, _, _, rfl, by decide, inX8, w_4_108⟩
theorem flX8_66 : FL RX8 66 8 4 := ⟨_, _, _, rfl, by decide, inX8, w_4_109⟩
theorem fpX8_66 : FP RX8 66 8 4 .boolean := ⟨_, _, _, tyX8, rfl, by decide, inX8, w_4_109, tyX8_ok, nmX8, rfl, rfl⟩
theorem flX8_70 : FL RX8 70 8 5 := ⟨_, _, _, rfl, by decide, inX8, w_4_110⟩
theorem fpX8_70 : FP RX8 70 8 5 .boolean := ⟨_, _, _, tyX8, rfl, by decide, inX8, w_4_110, tyX8_ok, nmX8, rfl, rfl⟩
theorem flX8_26 : FL RX8 26 8 14 := ⟨_, _, _, rfl, by decide, inX8, w_4_119⟩
theorem flX8_145 : FL RX8 145 8 16 := ⟨_, _, _, rfl, by decide, inX8, w_4_121⟩
theorem flX8_33 : FL RX8 33 8 18 := ⟨_, _, _, rfl, by decide, inX8, w_4_123⟩
theorem flX8_16 : FL RX8 16 8 2 := ⟨_, _, _, rfl, by decide, inX8, w_4_107⟩
theorem fpX8_83 : FP RX8 83 8 12 .int := ⟨_, _, _, tyX8, rfl, by decide, inX8, w_4_117, tyX8_ok, nmX8, rfl, rfl⟩
theorem flX8_86 : FL RX8 86 8 9 := ⟨_, _, _, rfl, by decide, inX8, w_4_114⟩
theorem flX8_89 : FL RX8 89 8 13 := ⟨_, _, _, rfl, by decide, inX8, w_4_118⟩
theorem fpX8_89 : FP RX8 89 8 13 .int := ⟨_, _, _, tyX8, rfl, by decide, inX8, w_4_118, tyX8_ok, nmX8, rfl, rfl⟩
theorem flX8_141 : FL RX8 141 8 15 := ⟨_, _, _, rfl, by decide, inX8, w_4_120⟩
theorem fpX8_141 : FP RX8 141 8 15 .long := ⟨_, _, _, tyX8, rfl, by decide, inX8, w_4_120, tyX8_ok, nmX8, rfl, rfl⟩
theorem fpX8_145 : FP RX8 145 8 16 .long := ⟨_, _, _, tyX8, rfl, by decide, inX8, w_4_121, tyX8_ok, nmX8, rfl, rfl⟩
theorem flX8_42 : FL RX8 42 8 23 := ⟨_, _, _, rfl, by decide, inX8, w_4_128⟩
theorem flX8_286 : FL RX8 286 8 31 := ⟨_, _, _, rfl, by decide, inX8, w_4_136⟩
theorem flX8_216 : FL RX8 216 8 20 := ⟨_, _, _, rfl, by decide, inX8, w_4_125⟩
theorem fpX8_216 : FP RX8 216 8 20 .int := ⟨_, _, _, tyX8, rfl, by decide, inX8, w_4_125, tyX8_ok, nmX8, rfl, rfl⟩
theorem flX8_219 : FL RX8 219 8 22 := ⟨_, _, _, rfl, by decide, inX8, w_4_127⟩
theorem fpX8_219 : FP RX8 219 8 22 .int := ⟨_, _, _, tyX8, rfl, by decide, inX8, w_4_127, tyX8_ok, nmX8, rfl, rfl⟩
theorem flX8_36 : FL RX8 36 8 19 := ⟨_, _, _, rfl, by decide, inX8, w_4_124⟩
theorem flX8_39 : FL RX8 39 8 21 := ⟨_, _, _, rfl, by decide, inX8, w_4_126⟩
theorem flX2_18 : FL RX2 18 2 2 := ⟨_, _, _, rfl, by decide, inX2, w_1_82⟩
theorem flX2_39 : FL RX2 39 2 8 := ⟨_, _, _, rfl, by decide, inX2, w_1_88⟩
theorem flX2_15 : FL RX2 15 2 1 := ⟨_, _, _, rfl, by decide, inX2, w_1_80⟩
theorem flX2_9 : FL RX2 9 2 0 := ⟨_, _, _, rfl, by decide, inX2, w_1_78⟩
theorem flX2_85 : FL RX2 85 0 3 := ⟨_, _, _, rfl, by decide, inX0, w_1_41⟩
theorem flX2_88 : FL RX2 88 0 6 := ⟨_, _, _, rfl, by decide, inX0, w_1_50⟩
theorem flX2_91 : FL RX2 91 0 7 := ⟨_, _, _, rfl, by decide, inX0, w_1_52⟩
theorem flX2_42 : FL RX2 42 0 2 := ⟨_, _, _, rfl, by decide, inX0, w_1_37⟩
theorem fpX2_32 : FP RX2 32 2 6 .int := ⟨_, _, _, tyX2, rfl, by decide, inX2, w_1_86, tyX2_ok, nmX2, rfl, rfl⟩
theorem fpX2_9 : FP RX2 9 2 0 .long := ⟨_, _, _, tyX2, rfl, by decide, inX2, w_1_78, tyX2_ok, nmX2, rfl, rfl⟩
theorem fpX2_15 : FP RX2 15 2 1 .long := ⟨_, _, _, tyX2, rfl, by decide, inX2, w_1_80, tyX2_ok, nmX2, rfl, rfl⟩
theorem flX2_45 : FL RX2 45 0 5 := ⟨_, _, _, rfl, by decide, inX0, w_1_47⟩
theorem flX2_52 : FL RX2 52 0 4 := ⟨_, _, _, rfl, by decide, inX0, w_1_44⟩
theorem flX3_60 : FL RX3 60 5 1 := ⟨_, _, _, rfl, by decide, inX5, w_1_125⟩
theorem flX3_25 : FL RX3 25 3 2 := ⟨_, _, _, rfl, by decide, inX3, w_1_152⟩
theorem fpX3_25 : FP RX3 25 3 2 .int := ⟨_, _, _, tyX3, rfl, by decide, inX3, w_1_152, tyX3_ok, nmX3, rfl, rfl⟩
theorem flX4_18 : FL RX4 18 4 2 := ⟨_, _, _, rfl, by decide, inX4, w_1_238⟩
theorem flX4_15 : FL RX4 15 4 1 := ⟨_, _, _, rfl, by decide, inX4, w_1_237⟩
theorem fpX4_15 : FP RX4 15 4 1 .int := ⟨_, _, _, tyX4, rfl, by decide, inX4, w_1_237, tyX4_ok, nmX4, rfl, rfl⟩
theorem fpX4_9 : FP RX4 9 4 0 .int := ⟨_, _, _, tyX4, rfl, by decide, inX4, w_1_235, tyX4_ok, nmX4, rfl, rfl⟩
theorem flX6_22 : FL RX6 22 6 3 := ⟨_, _, _, rfl, by decide, inX6, w_1_192⟩
theorem fpX6_22 : FP RX6 22 6 3 .int := ⟨_, _, _, tyX6, rfl, by decide, inX6, w_1_192, tyX6_ok, nmX6, rfl, rfl⟩
theorem flX6_25 : FL RX6 25 6 4 := ⟨_, _, _, rfl, by decide, inX6, w_1_193⟩
theorem flX6_19 : FL RX6 19 6 2 := ⟨_, _, _, rfl, by decide, inX6, w_1_191⟩
theorem flX7_10 : FL RX7 10 7 0 := ⟨_, _, _, rfl, by decide, inX7, w_2_6⟩
theorem flX7_146 : FL RX7 146 0 4 := ⟨_, _, _, rfl, by decide, inX0, w_1_45⟩
theorem flX7_149 : FL RX7 149 0 5 := ⟨_, _, _, rfl, by decide, inX0, w_1_48⟩
theorem flX7_23 : FL RX7 23 7 3 := ⟨_, _, _, rfl, by decide, inX7, w_2_9⟩
theorem flX7_19 : FL RX7 19 7 2 := ⟨_, _, _, rfl, by decide, inX7, w_2_8⟩
theorem flX7_112 : FL RX7 112 0 0 := ⟨_, _, _, rfl, by decide, inX0, w_1_31⟩
theorem flX7_77 : FL RX7 77 3 0 := ⟨_, _, _, rfl, by decide, inX3, w_1_149⟩
theorem flX7_87 : FL RX7 87 5 0 := ⟨_, _, _, rfl, by decide, inX5, w_1_123⟩
theorem fpX7_87 : FP RX7 87 5 0 .int := ⟨_, _, _, tyX5, rfl, by decide, inX5, w_1_123, tyX5_ok, nmX5, rfl, rfl⟩
theorem flX7_231 : FL RX7 231 0 3 := ⟨_, _, _, rfl, by decide, inX0, w_1_42⟩
theorem fpX7_231 : FP RX7 231 0 3 .int := ⟨_, _, _, tyX0, rfl, by decide, inX0, w_1_42, tyX0_ok, nmX0, rfl, rfl⟩
theorem fpX8_79 : FP RX8 79 8 7 .int := ⟨_, _, _, tyX8, rfl, by decide, inX8, w_4_112, tyX8_ok, nmX8, rfl, rfl⟩
theorem flX8_92 : FL RX8 92 8 8 := ⟨_, _, _, rfl, by decide, inX8, w_4_113⟩
theorem fpX8_86 : FP RX8 86 8 9 .int := ⟨_, _, _, tyX8, rfl, by decide, inX8, w_4_114, tyX8_ok, nmX8, rfl, rfl⟩
theorem flX8_103 : FL RX8 103 8 10 := ⟨_, _, _, rfl, by decide, inX8, w_4_115⟩
theorem fpX8_103 : FP RX8 103 8 10 .int := ⟨_, _, _, tyX8, rfl, by decide, inX8, w_4_115, tyX8_ok, nmX8, rfl, rfl⟩
theorem fpX8_92 : FP RX8 92 8 8 .int := ⟨_, _, _, tyX8, rfl, by decide, inX8, w_4_113, tyX8_ok, nmX8, rfl, rfl⟩
theorem flX8_114 : FL RX8 114 8 11 := ⟨_, _, _, rfl, by decide, inX8, w_4_116⟩
theorem fpX8_114 : FP RX8 114 8 11 .int := ⟨_, _, _, tyX8, rfl, by decide, inX8, w_4_116, tyX8_ok, nmX8, rfl, rfl⟩
theorem flX5_15 : FL RX5 15 5 1 := ⟨_, _, _, rfl, by decide, inX5, w_1_124⟩
theorem fpX5_15 : FP RX5 15 5 1 .int := ⟨_, _, _, tyX5, rfl, by decide, inX5, w_1_124, tyX5_ok, nmX5, rfl, rfl⟩
theorem flX5_21 : FL RX5 21 5 3 := ⟨_, _, _, rfl, by decide, inX5, w_1_128⟩
theorem fpX5_21 : FP RX5 21 5 3 .int := ⟨_, _, _, tyX5, rfl, by decide, inX5, w_1_128, tyX5_ok, nmX5, rfl, rfl⟩
theorem flX5_18 : FL RX5 18 5 2 := ⟨_, _, _, rfl, by decide, inX5, w_1_126⟩
theorem flX7_109 : FL RX7 109 0 2 := ⟨_, _, _, rfl, by decide, inX0, w_1_39⟩
theorem fpX7_112 : FP RX7 112 0 0 .int := ⟨_, _, _, tyX0, rfl, by decide, inX0, w_1_31, tyX0_ok, nmX0, rfl, rfl⟩
theorem flX7_115 : FL RX7 115 0 1 := ⟨_, _, _, rfl, by decide, inX0, w_1_35⟩
theorem fpX7_115 : FP RX7 115 0 1 .int := ⟨_, _, _, tyX0, rfl, by decide, inX0, w_1_35, tyX0_ok, nmX0, rfl, rfl⟩
theorem flX7_64 : FL RX7 64 7 10 := ⟨_, _, _, rfl, by decide, inX7, w_2_16⟩
theorem fpX7_68 : FP RX7 68 7 11 .int := ⟨_, _, _, tyX7, rfl, by decide, inX7, w_2_17, tyX7_ok, nmX7, rfl, rfl⟩
theorem fpX7_109 : FP RX7 109 0 2 .int := ⟨_, _, _, tyX0, rfl, by decide, inX0, w_1_39, tyX0_ok, nmX0, rfl, rfl⟩
theorem flX8_239 : FL RX8 239 8 24 := ⟨_, _, _, rfl, by decide, inX8, w_4_129⟩
theorem fpX8_239 : FP RX8 239 8 24 .long := ⟨_, _, _, tyX8, rfl, by decide, inX8, w_4_129, tyX8_ok, nmX8, rfl, rfl⟩
theorem flX8_242 : FL RX8 242 8 25 := ⟨_, _, _, rfl, by decide, inX8, w_4_130⟩
theorem fpX8_242 : FP RX8 242 8 25 .long := ⟨_, _, _, tyX8, rfl, by decide, inX8, w_4_130, tyX8_ok, nmX8, rfl, rfl⟩
theorem flX8_245 : FL RX8 245 8 26 := ⟨_, _, _, rfl, by decide, inX8, w_4_131⟩
theorem fpX8_245 : FP RX8 245 8 26 .long := ⟨_, _, _, tyX8, rfl, by decide, inX8, w_4_131, tyX8_ok, nmX8, rfl, rfl⟩
theorem flX8_48 : FL RX8 48 8 28 := ⟨_, _, _, rfl, by decide, inX8, w_4_133⟩
theorem flX8_51 : FL RX8 51 8 29 := ⟨_, _, _, rfl, by decide, inX8, w_4_134⟩
theorem flX8_54 : FL RX8 54 8 30 := ⟨_, _, _, rfl, by decide, inX8, w_4_135⟩
theorem flX8_57 : FL RX8 57 8 32 := ⟨_, _, _, rfl, by decide, inX8, w_4_137⟩
theorem fpX8_286 : FP RX8 286 8 31 .int := ⟨_, _, _, tyX8, rfl, by decide, inX8, w_4_136, tyX8_ok, nmX8, rfl, rfl⟩
theorem fpX2_36 : FP RX2 36 2 7 .int := ⟨_, _, _, tyX2, rfl, by decide, inX2, w_1_87, tyX2_ok, nmX2, rfl, rfl⟩
theorem fpX2_39 : FP RX2 39 2 8 .int := ⟨_, _, _, tyX2, rfl, by decide, inX2, w_1_88, tyX2_ok, nmX2, rfl, rfl⟩
theorem flX3_110 : FL RX3 110 5 3 := ⟨_, _, _, rfl, by decide, inX5, w_1_129⟩
theorem flX3_21 : FL RX3 21 3 1 := ⟨_, _, _, rfl, by decide, inX3, w_1_150⟩
theorem flX3_120 : FL RX3 120 0 0 := ⟨_, _, _, rfl, by decide, inX0, w_1_32⟩
theorem fpX3_120 : FP RX3 120 0 0 .int := ⟨_, _, _, tyX0, rfl, by decide, inX0, w_1_32, tyX0_ok, nmX0, rfl, rfl⟩
theorem flX3_38 : FL RX3 38 3 6 := ⟨_, _, _, rfl, by decide, inX3, w_1_159⟩
theorem fpX3_38 : FP RX3 38 3 6 .int := ⟨_, _, _, tyX3, rfl, by decide, inX3, w_1_159, tyX3_ok, nmX3, rfl, rfl⟩
theorem fpX5_18 : FP RX5 18 5 2 .int := ⟨_, _, _, tyX5, rfl, by decide, inX5, w_1_126, tyX5_ok, nmX5, rfl, rfl⟩
theorem flX7_30 : FL RX7 30 7 4 := ⟨_, _, _, rfl, by decide, inX7, w_2_10⟩
theorem flX7_121 : FL RX7 121 2 1 := ⟨_, _, _, rfl, by decide, inX2, w_1_81⟩
theorem flX7_125 : FL RX7 125 2 0 := ⟨_, _, _, rfl, by decide, inX2, w_1_79⟩
theorem flX8_45 : FL RX8 45 8 27 := ⟨_, _, _, rfl, by decide, inX8, w_4_132⟩
theorem flX7_54 : FL RX7 54 7 8 := ⟨_, _, _, rfl, by decide, inX7, w_2_14⟩
theorem flX7_16 : FL RX7 16 7 1 := ⟨_, _, _, rfl, by decide, inX7, w_2_7⟩
theorem flX7_58 : FL RX7 58 7 9 := ⟨_, _, _, rfl, by decide, inX7, w_2_15⟩
theorem flX7_34 : FL RX7 34 7 5 := ⟨_, _, _, rfl, by decide, inX7, w_2_11⟩
theorem flX6_28 : FL RX6 28 6 5 := ⟨_, _, _, rfl, by decide, inX6, w_1_194⟩
theorem fpX6_9 : FP RX6 9 6 0 .int := ⟨_, _, _, tyX6, rfl, by decide, inX6, w_1_187, tyX6_ok, nmX6, rfl, rfl⟩
theorem flX6_15 : FL RX6 15 6 1 := ⟨_, _, _, rfl, by decide, inX6, w_1_189⟩
theorem flX7_250 : FL RX7 250 1 0 := ⟨_, _, _, rfl, by decide, inX1, w_1_218⟩
theorem flX7_278 : FL RX7 278 4 0 := ⟨_, _, _, rfl, by decide, inX4, w_1_236⟩
theorem fpX6_25 : FP RX6 25 6 4 .int := ⟨_, _, _, tyX6, rfl, by decide, inX6, w_1_193, tyX6_ok, nmX6, rfl, rfl⟩
theorem fpX6_28 : FP RX6 28 6 5 .int := ⟨_, _, _, tyX6, rfl, by decide, inX6, w_1_194, tyX6_ok, nmX6, rfl, rfl⟩
theorem fpX6_31 : FP RX6 31 6 6 .int := ⟨_, _, _, tyX6, rfl, by decide, inX6, w_1_195, tyX6_ok, nmX6, rfl, rfl⟩
theorem flX7_47 : FL RX7 47 7 7 := ⟨_, _, _, rfl, by decide, inX7, w_2_13⟩
theorem flX7_188 : FL RX7 188 6 0 := ⟨_, _, _, rfl, by decide, inX6, w_1_188⟩
theorem flX7_191 : FL RX7 191 6 1 := ⟨_, _, _, rfl, by decide, inX6, w_1_190⟩
theorem flX3_45 : FL RX3 45 3 8 := ⟨_, _, _, rfl, by decide, inX3, w_1_161⟩
theorem fpX3_45 : FP RX3 45 3 8 .boolean := ⟨_, _, _, tyX3, rfl, by decide, inX3, w_1_161, tyX3_ok, nmX3, rfl, rfl⟩
theorem flX3_91 : FL RX3 91 0 1 := ⟨_, _, _, rfl, by decide, inX0, w_1_34⟩
theorem fpX3_91 : FP RX3 91 0 1 .int := ⟨_, _, _, tyX0, rfl, by decide, inX0, w_1_34, tyX0_ok, nmX0, rfl, rfl⟩
theorem flX3_41 : FL RX3 41 3 7 := ⟨_, _, _, rfl, by decide, inX3, w_1_160⟩
theorem fpX3_41 : FP RX3 41 3 7 .boolean := ⟨_, _, _, tyX3, rfl, by decide, inX3, w_1_160, tyX3_ok, nmX3, rfl, rfl⟩
theorem flX3_80 : FL RX3 80 0 2 := ⟨_, _, _, rfl, by decide, inX0, w_1_38⟩
theorem flX7_99 : FL RX7 99 3 1 := ⟨_, _, _, rfl, by decide, inX3, w_1_151⟩
theorem flX7_96 : FL RX7 96 3 4 := ⟨_, _, _, rfl, by decide, inX3, w_1_157⟩
theorem flX7_106 : FL RX7 106 3 2 := ⟨_, _, _, rfl, by decide, inX3, w_1_153⟩
def MJ13_compare_74951 : MI := (yJ13_compare_74951, cJ13_compare_74951, 4, (some .int), 0)
theorem kJ13_compare_74951 : MOK MJ13_compare_74951 2 := ⟨w_2_216, w_1_14, ⟨show RJ13 ≠ _ by decide +kernel, show RJ13 ≠ _ by decide +kernel, show Option.map (fun d => d.parameters.length) (parseMethodDescriptor (yJ13_compare_74951).desc) = some 2 by decide +kernel⟩, leb rfl⟩
theorem sJ13_compare_74951 : Cond.static (mY MJ13_compare_74951) ∈ WT := w_2_215
def MX0_addSeen : MI := (yX0_addSeen, cX0_addSeen, 3, (some .int), 0)
theorem kX0_addSeen : MOK MX0_addSeen 2 := ⟨w_3_222, w_1_2, ⟨show RX0 ≠ _ by decide +kernel, show RX0 ≠ _ by decide +kernel, show Option.map (fun d => d.parameters.length) (parseMethodDescriptor (yX0_addSeen).desc) = some 2 by decide +kernel⟩, leb rfl⟩
theorem sX0_addSeen : MOV MX0_addSeen := ⟨w_3_220, w_3_221⟩
def MX0_clear : MI := (yX0_clear, cX0_clear, 1, none, 0)
theorem kX0_clear : MOK MX0_clear 0 := ⟨w_2_69, w_1_2, ⟨show RX0 ≠ _ by decide +kernel, show RX0 ≠ _ by decide +kernel, show Option.map (fun d => d.parameters.length) (parseMethodDescriptor (yX0_clear).desc) = some 0 by decide +kernel⟩, leb rfl⟩
theorem sX0_clear : MOV MX0_clear := ⟨w_2_67, w_2_68⟩
def MX0_copy : MI := (yX0_copy, cX0_copy, 3, none, 0)
theorem kX0_copy : MOK MX0_copy 1 := ⟨w_2_198, w_1_2, ⟨show RX0 ≠ _ by decide +kernel, show RX0 ≠ _ by decide +kernel, show Option.map (fun d => d.parameters.length) (parseMethodDescriptor (yX0_copy).desc) = some 1 by decide +kernel⟩, leb rfl⟩
theorem sX0_copy : MOV MX0_copy := ⟨w_2_196, w_2_197⟩
def MX0_has : MI := (yX0_has, cX0_has, 2, (some .boolean), 0)
theorem kX0_has : MOK MX0_has 1 := ⟨w_3_39, w_1_2, ⟨show RX0 ≠ _ by decide +kernel, show RX0 ≠ _ by decide +kernel, show Option.map (fun d => d.parameters.length) (parseMethodDescriptor (yX0_has).desc) = some 1 by decide +kernel⟩, leb rfl⟩
theorem sX0_has : MOV MX0_has := ⟨w_3_37, w_3_38⟩
def MX1_answer : MI := (yX1_answer, cX1_answer, 2, (some .int), 0)
theorem kX1_answer : MOK MX1_answer 1 := ⟨w_4_14, w_1_7, ⟨show RX1 ≠ _ by decide +kernel, show RX1 ≠ _ by decide +kernel, show Option.map (fun d => d.parameters.length) (parseMethodDescriptor (yX1_answer).desc) = some 1 by decide +kernel⟩, leb rfl⟩
theorem sX1_answer : MOV MX1_answer := ⟨w_4_12, w_4_13⟩
def MX1_clear : MI := (yX1_clear, cX1_clear, 1, none, 0)
theorem kX1_clear : MOK MX1_clear 0 := ⟨w_4_6, w_1_7, ⟨show RX1 ≠ _ by decide +kernel, show RX1 ≠ _ by decide +kernel, show Option.map (fun d => d.parameters.length) (parseMethodDescriptor (yX1_clear).desc) = some 0 by decide +kernel⟩, leb rfl⟩
theorem sX1_clear : MOV MX1_clear := ⟨w_4_4, w_4_5⟩
def MX1_note : MI := (yX1_note, cX1_note, 2, none, 0)
theorem kX1_note : MOK MX1_note 1 := ⟨w_4_10, w_1_7, ⟨show RX1 ≠ _ by decide +kernel, show RX1 ≠ _ by decide +kernel, show Option.map (fun d => d.parameters.length) (parseMethodDescriptor (yX1_note).desc) = some 1 by decide +kernel⟩, leb rfl⟩
theorem sX1_note : MOV MX1_note := ⟨w_4_8, w_4_9⟩
def MX2_firstLoser : MI := (yX2_firstLoser, cX2_firstLoser, 2, (some .int), 0)
theorem kX2_firstLoser : MOK MX2_firstLoser 0 := ⟨w_3_165, w_1_3, ⟨show RX2 ≠ _ by decide +kernel, show RX2 ≠ _ by decide +kernel, show Option.map (fun d => d.parameters.length) (parseMethodDescriptor (yX2_firstLoser).desc) = some 0 by decide +kernel⟩, leb rfl⟩
theorem sX2_firstLoser : MOV MX2_firstLoser := ⟨w_3_163, w_3_164⟩
def MX2_giveByGreatestRest : MI := (yX2_giveByGreatestRest, cX2_giveByGreatestRest, 3, none, 0)
theorem kX2_giveByGreatestRest : MOK MX2_giveByGreatestRest 0 := ⟨w_3_17, w_1_3, ⟨show RX2 ≠ _ by decide +kernel, show RX2 ≠ _ by decide +kernel, show Option.map (fun d => d.parameters.length) (parseMethodDescriptor (yX2_giveByGreatestRest).desc) = some 0 by decide +kernel⟩, leb rfl⟩
theorem sX2_giveByGreatestRest : MOV MX2_giveByGreatestRest := ⟨w_3_16, wtm (tbp (List.mem_of_getElem? (i := 15) rfl)) rfl⟩
def MX2_given : MI := (yX2_given, cX2_given, 3, (some .int), 0)
theorem kX2_given : MOK MX2_given 0 := ⟨w_3_13, w_1_3, ⟨show RX2 ≠ _ by decide +kernel, show RX2 ≠ _ by decide +kernel, show Option.map (fun d => d.parameters.length) (parseMethodDescriptor (yX2_given).desc) = some 0 by decide +kernel⟩, leb rfl⟩
theorem sX2_given : MOV MX2_given := ⟨w_3_11, w_3_12⟩
def MX2_got : MI := (yX2_got, cX2_got, 2, (some .int), 0)
theorem kX2_got : MOK MX2_got 1 := ⟨w_3_43, w_1_3, ⟨show RX2 ≠ _ by decide +kernel, show RX2 ≠ _ by decide +kernel, show Option.map (fun d => d.parameters.length) (parseMethodDescriptor (yX2_got).desc) = some 1 by decide +kernel⟩, leb rfl⟩
theorem sX2_got : MOV MX2_got := ⟨w_3_41, w_3_42⟩
def MX2_rowDivisor : MI := (yX2_rowDivisor, cX2_rowDivisor, 2, (some .int), 0)
theorem kX2_rowDivisor : MOK MX2_rowDivisor 1 := ⟨w_3_30, w_1_3, ⟨show RX2 ≠ _ by decide +kernel, show RX2 ≠ _ by decide +kernel, show Option.map (fun d => d.parameters.length) (parseMethodDescriptor (yX2_rowDivisor).desc) = some 1 by decide +kernel⟩, leb rfl⟩
theorem sX2_rowDivisor : MOV MX2_rowDivisor := ⟨w_3_29, wtm (tbp (List.mem_of_getElem? (i := 18) rfl)) rfl⟩
def MX3_refuse : MI := (yX3_refuse, cX3_refuse, 2, none, 0)
theorem kX3_refuse : MOK MX3_refuse 1 := ⟨w_2_100, w_1_4, ⟨show RX3 ≠ _ by decide +kernel, show RX3 ≠ _ by decide +kernel, show Option.map (fun d => d.parameters.length) (parseMethodDescriptor (yX3_refuse).desc) = some 1 by decide +kernel⟩, leb rfl⟩
theorem sX3_refuse : MOV MX3_refuse := ⟨w_2_99, wtm (tbp (List.mem_of_getElem? (i := 3) rfl)) rfl⟩
def MX4_flawAt : MI := (yX4_flawAt, cX4_flawAt, 2, (some .int), 0)
theorem kX4_flawAt : MOK MX4_flawAt 1 := ⟨w_4_65, w_1_8, ⟨show RX4 ≠ _ by decide +kernel, show RX4 ≠ _ by decide +kernel, show Option.map (fun d => d.parameters.length) (parseMethodDescriptor (yX4_flawAt).desc) = some 1 by decide +kernel⟩, leb rfl⟩
theorem sX4_flawAt : MOV MX4_flawAt := ⟨w_4_63, w_4_64⟩
def MX5_append : MI := (yX5_append, cX5_append, 2, (some .int), 0)
theorem kX5_append : MOK MX5_append 1 := ⟨w_2_53, w_1_5, ⟨show RX5 ≠ _ by decide +kernel, show RX5 ≠ _ by decide +kernel, show Option.map (fun d => d.parameters.length) (parseMethodDescriptor (yX5_append).desc) = some 1 by decide +kernel⟩, leb rfl⟩
theorem sX5_append : MOV MX5_append := ⟨w_2_51, w_2_52⟩
def MX5_rewind : MI := (yX5_rewind, cX5_rewind, 1, none, 0)
theorem kX5_rewind : MOK MX5_rewind 0 := ⟨w_2_73, w_1_5, ⟨show RX5 ≠ _ by decide +kernel, show RX5 ≠ _ by decide +kernel, show Option.map (fun d => d.parameters.length) (parseMethodDescriptor (yX5_rewind).desc) = some 0 by decide +kernel⟩, leb rfl⟩
theorem sX5_rewind : MOV MX5_rewind := ⟨w_2_71, w_2_72⟩
def MX6_isFound : MI := (yX6_isFound, cX6_isFound, 1, (some .boolean), 0)
theorem kX6_isFound : MOK MX6_isFound 0 := ⟨w_3_139, w_1_6, ⟨show RX6 ≠ _ by decide +kernel, show RX6 ≠ _ by decide +kernel, show Option.map (fun d => d.parameters.length) (parseMethodDescriptor (yX6_isFound).desc) = some 0 by decide +kernel⟩, leb rfl⟩
theorem sX6_isFound : MOV MX6_isFound := ⟨w_3_138, wtm (tbp (List.mem_of_getElem? (i := 22) rfl)) rfl⟩
def MX7_fault : MI := (yX7_fault, cX7_fault, 1, (some .int), 0)
theorem kX7_fault : MOK MX7_fault 0 := ⟨w_2_202, w_1_1, ⟨show RX7 ≠ _ by decide +kernel, show RX7 ≠ _ by decide +kernel, show Option.map (fun d => d.parameters.length) (parseMethodDescriptor (yX7_fault).desc) = some 0 by decide +kernel⟩, leb rfl⟩
theorem sX7_fault : MOV MX7_fault := ⟨w_2_200, w_2_201⟩
def MX7_power : MI := (yX7_power, cX7_power, 5, (some .long), 0)
theorem kX7_power : MOK MX7_power 2 := ⟨w_3_210, w_1_1, ⟨show RX7 ≠ _ by decide +kernel, show RX7 ≠ _ by decide +kernel, show Option.map (fun d => d.parameters.length) (parseMethodDescriptor (yX7_power).desc) = some 2 by decide +kernel⟩, leb rfl⟩
theorem sX7_power : Cond.static (mY MX7_power) ∈ WT := w_3_209
def MX7_quotient : MI := (yX7_quotient, cX7_quotient, 4, (some .long), 0)
theorem kX7_quotient : MOK MX7_quotient 2 := ⟨w_2_213, w_1_1, ⟨show RX7 ≠ _ by decide +kernel, show RX7 ≠ _ by decide +kernel, show Option.map (fun d => d.parameters.length) (parseMethodDescriptor (yX7_quotient).desc) = some 2 by decide +kernel⟩, leb rfl⟩
theorem sX7_quotient : Cond.static (mY MX7_quotient) ∈ WT := w_2_212
def MX7_remainder : MI := (yX7_remainder, cX7_remainder, 4, (some .long), 0)
theorem kX7_remainder : MOK MX7_remainder 2 := ⟨w_3_9, w_1_1, ⟨show RX7 ≠ _ by decide +kernel, show RX7 ≠ _ by decide +kernel, show Option.map (fun d => d.parameters.length) (parseMethodDescriptor (yX7_remainder).desc) = some 2 by decide +kernel⟩, leb rfl⟩
theorem sX7_remainder : Cond.static (mY MX7_remainder) ∈ WT := w_3_8
def MX7_torn : MI := (yX7_torn, cX7_torn, 1, (some .int), 0)
theorem kX7_torn : MOK MX7_torn 0 := ⟨w_4_86, w_1_1, ⟨show RX7 ≠ _ by decide +kernel, show RX7 ≠ _ by decide +kernel, show Option.map (fun d => d.parameters.length) (parseMethodDescriptor (yX7_torn).desc) = some 0 by decide +kernel⟩, leb rfl⟩
theorem sX7_torn : MOV MX7_torn := ⟨w_4_84, w_4_85⟩
def MX7_within : MI := (yX7_within, cX7_within, 3, (some .boolean), 0)
theorem kX7_within : MOK MX7_within 3 := ⟨w_2_49, w_1_1, ⟨show RX7 ≠ _ by decide +kernel, show RX7 ≠ _ by decide +kernel, show Option.map (fun d => d.parameters.length) (parseMethodDescriptor (yX7_within).desc) = some 3 by decide +kernel⟩, leb rfl⟩
theorem sX7_within : Cond.static (mY MX7_within) ∈ WT := w_2_48
def MX8_allGot : MI := (yX8_allGot, cX8_allGot, 3, (some .int), 0)
theorem kX8_allGot : MOK MX8_allGot 0 := ⟨w_5_56, w_1_9, ⟨show RX8 ≠ _ by decide +kernel, show RX8 ≠ _ by decide +kernel, show Option.map (fun d => d.parameters.length) (parseMethodDescriptor (yX8_allGot).desc) = some 0 by decide +kernel⟩, leb rfl⟩
theorem sX8_allGot : MOV MX8_allGot := ⟨w_5_55, wtm (tbp (List.mem_of_getElem? (i := 43) rfl)) rfl⟩
def MX8_becomes : MI := (yX8_becomes, cX8_becomes, 4, (some .int), 0)
theorem kX8_becomes : MOK MX8_becomes 2 := ⟨w_5_104, w_1_9, ⟨show RX8 ≠ _ by decide +kernel, show RX8 ≠ _ by decide +kernel, show Option.map (fun d => d.parameters.length) (parseMethodDescriptor (yX8_becomes).desc) = some 2 by decide +kernel⟩, leb rfl⟩
theorem sX8_becomes : MOV MX8_becomes := ⟨w_5_103, wtm (tbp (List.mem_of_getElem? (i := 46) rfl)) rfl⟩
def MX8_byteAt : MI := (yX8_byteAt, cX8_byteAt, 2, (some .int), 0)
theorem kX8_byteAt : MOK MX8_byteAt 1 := ⟨w_4_228, w_1_9, ⟨show RX8 ≠ _ by decide +kernel, show RX8 ≠ _ by decide +kernel, show Option.map (fun d => d.parameters.length) (parseMethodDescriptor (yX8_byteAt).desc) = some 1 by decide +kernel⟩, leb rfl⟩
theorem sX8_byteAt : MOV MX8_byteAt := ⟨w_4_227, wtm (tbp (List.mem_of_getElem? (i := 29) rfl)) rfl⟩
def MX8_common : MI := (yX8_common, cX8_common, 10, (some .long), 0)
theorem kX8_common : MOK MX8_common 2 := ⟨w_5_85, w_1_9, ⟨show RX8 ≠ _ by decide +kernel, show RX8 ≠ _ by decide +kernel, show Option.map (fun d => d.parameters.length) (parseMethodDescriptor (yX8_common).desc) = some 2 by decide +kernel⟩, leb rfl⟩
theorem sX8_common : Cond.static (mY MX8_common) ∈ WT := w_5_84
def MX8_copies : MI := (yX8_copies, cX8_copies, 4, none, 0)
theorem kX8_copies : MOK MX8_copies 2 := ⟨w_6_26, w_1_9, ⟨show RX8 ≠ _ by decide +kernel, show RX8 ≠ _ by decide +kernel, show Option.map (fun d => d.parameters.length) (parseMethodDescriptor (yX8_copies).desc) = some 2 by decide +kernel⟩, leb rfl⟩
theorem sX8_copies : MOV MX8_copies := ⟨w_6_25, wtm (tbp (List.mem_of_getElem? (i := 57) rfl)) rfl⟩
def MX8_fault : MI := (yX8_fault, cX8_fault, 1, (some .int), 0)
theorem kX8_fault : MOK MX8_fault 0 := ⟨w_5_20, w_1_9, ⟨show RX8 ≠ _ by decide +kernel, show RX8 ≠ _ by decide +kernel, show Option.map (fun d => d.parameters.length) (parseMethodDescriptor (yX8_fault).desc) = some 0 by decide +kernel⟩, leb rfl⟩
theorem sX8_fault : MOV MX8_fault := ⟨w_5_18, w_5_19⟩
def MX8_firstDraft : MI := (yX8_firstDraft, cX8_firstDraft, 2, none, 0)
theorem kX8_firstDraft : MOK MX8_firstDraft 0 := ⟨w_4_100, w_1_9, ⟨show RX8 ≠ _ by decide +kernel, show RX8 ≠ _ by decide +kernel, show Option.map (fun d => d.parameters.length) (parseMethodDescriptor (yX8_firstDraft).desc) = some 0 by decide +kernel⟩, leb rfl⟩
theorem sX8_firstDraft : MOV MX8_firstDraft := ⟨w_4_99, wtm (tbp (List.mem_of_getElem? (i := 26) rfl)) rfl⟩
def MX8_flag : MI := (yX8_flag, cX8_flag, 1, (some .int), 0)
theorem kX8_flag : MOK MX8_flag 1 := ⟨w_5_72, w_1_9, ⟨show RX8 ≠ _ by decide +kernel, show RX8 ≠ _ by decide +kernel, show Option.map (fun d => d.parameters.length) (parseMethodDescriptor (yX8_flag).desc) = some 1 by decide +kernel⟩, leb rfl⟩
theorem sX8_flag : Cond.static (mY MX8_flag) ∈ WT := w_5_71
def MX8_givesRests : MI := (yX8_givesRests, cX8_givesRests, 6, none, 0)
theorem kX8_givesRests : MOK MX8_givesRests 1 := ⟨w_5_48, w_1_9, ⟨show RX8 ≠ _ by decide +kernel, show RX8 ≠ _ by decide +kernel, show Option.map (fun d => d.parameters.length) (parseMethodDescriptor (yX8_givesRests).desc) = some 1 by decide +kernel⟩, leb rfl⟩
theorem sX8_givesRests : MOV MX8_givesRests := ⟨w_5_47, wtm (tbp (List.mem_of_getElem? (i := 41) rfl)) rfl⟩
def MX8_givesRow : MI := (yX8_givesRow, cX8_givesRow, 6, none, 0)
theorem kX8_givesRow : MOK MX8_givesRow 2 := ⟨w_5_52, w_1_9, ⟨show RX8 ≠ _ by decide +kernel, show RX8 ≠ _ by decide +kernel, show Option.map (fun d => d.parameters.length) (parseMethodDescriptor (yX8_givesRow).desc) = some 2 by decide +kernel⟩, leb rfl⟩
theorem sX8_givesRow : MOV MX8_givesRow := ⟨w_5_51, wtm (tbp (List.mem_of_getElem? (i := 42) rfl)) rfl⟩
def MX8_givesTold : MI := (yX8_givesTold, cX8_givesTold, 5, none, 0)
theorem kX8_givesTold : MOK MX8_givesTold 1 := ⟨w_5_44, w_1_9, ⟨show RX8 ≠ _ by decide +kernel, show RX8 ≠ _ by decide +kernel, show Option.map (fun d => d.parameters.length) (parseMethodDescriptor (yX8_givesTold).desc) = some 1 by decide +kernel⟩, leb rfl⟩
theorem sX8_givesTold : MOV MX8_givesTold := ⟨w_5_43, wtm (tbp (List.mem_of_getElem? (i := 40) rfl)) rfl⟩
def MX8_in : MI := (yX8_in, cX8_in, 6, (some .boolean), 0)
theorem kX8_in : MOK MX8_in 3 := ⟨w_4_212, w_1_9, ⟨show RX8 ≠ _ by decide +kernel, show RX8 ≠ _ by decide +kernel, show Option.map (fun d => d.parameters.length) (parseMethodDescriptor (yX8_in).desc) = some 3 by decide +kernel⟩, leb rfl⟩
theorem sX8_in : Cond.static (mY MX8_in) ∈ WT := w_4_211
def MX8_isOff : MI := (yX8_isOff, cX8_isOff, 5, (some .boolean), 0)
theorem kX8_isOff : MOK MX8_isOff 2 := ⟨w_5_69, w_1_9, ⟨show RX8 ≠ _ by decide +kernel, show RX8 ≠ _ by decide +kernel, show Option.map (fun d => d.parameters.length) (parseMethodDescriptor (yX8_isOff).desc) = some 2 by decide +kernel⟩, leb rfl⟩
theorem sX8_isOff : MOV MX8_isOff := ⟨w_5_68, wtm (tbp (List.mem_of_getElem? (i := 45) rfl)) rfl⟩
def MX8_isSo : MI := (yX8_isSo, cX8_isSo, 4, (some .boolean), 0)
theorem kX8_isSo : MOK MX8_isSo 0 := ⟨w_5_227, w_1_9, ⟨show RX8 ≠ _ by decide +kernel, show RX8 ≠ _ by decide +kernel, show Option.map (fun d => d.parameters.length) (parseMethodDescriptor (yX8_isSo).desc) = some 0 by decide +kernel⟩, leb rfl⟩
theorem sX8_isSo : MOV MX8_isSo := ⟨w_5_226, wtm (tbp (List.mem_of_getElem? (i := 53) rfl)) rfl⟩
def MX8_isWhole : MI := (yX8_isWhole, cX8_isWhole, 3, (some .boolean), 0)
theorem kX8_isWhole : MOK MX8_isWhole 2 := ⟨w_5_136, w_1_9, ⟨show RX8 ≠ _ by decide +kernel, show RX8 ≠ _ by decide +kernel, show Option.map (fun d => d.parameters.length) (parseMethodDescriptor (yX8_isWhole).desc) = some 2 by decide +kernel⟩, leb rfl⟩
theorem sX8_isWhole : MOV MX8_isWhole := ⟨w_5_135, wtm (tbp (List.mem_of_getElem? (i := 48) rfl)) rfl⟩
def MX8_keepDraft : MI := (yX8_keepDraft, cX8_keepDraft, 2, none, 0)
theorem kX8_keepDraft : MOK MX8_keepDraft 0 := ⟨w_4_104, w_1_9, ⟨show RX8 ≠ _ by decide +kernel, show RX8 ≠ _ by decide +kernel, show Option.map (fun d => d.parameters.length) (parseMethodDescriptor (yX8_keepDraft).desc) = some 0 by decide +kernel⟩, leb rfl⟩
theorem sX8_keepDraft : MOV MX8_keepDraft := ⟨w_4_103, wtm (tbp (List.mem_of_getElem? (i := 27) rfl)) rfl⟩
def MX8_needs : MI := (yX8_needs, cX8_needs, 3, none, 0)
theorem kX8_needs : MOK MX8_needs 2 := ⟨w_4_236, w_1_9, ⟨show RX8 ≠ _ by decide +kernel, show RX8 ≠ _ by decide +kernel, show Option.map (fun d => d.parameters.length) (parseMethodDescriptor (yX8_needs).desc) = some 2 by decide +kernel⟩, leb rfl⟩
theorem sX8_needs : MOV MX8_needs := ⟨w_4_235, wtm (tbp (List.mem_of_getElem? (i := 30) rfl)) rfl⟩
def MX8_ofThree : MI := (yX8_ofThree, cX8_ofThree, 5, (some .int), 0)
theorem kX8_ofThree : MOK MX8_ofThree 4 := ⟨w_6_0, w_1_9, ⟨show RX8 ≠ _ by decide +kernel, show RX8 ≠ _ by decide +kernel, show Option.map (fun d => d.parameters.length) (parseMethodDescriptor (yX8_ofThree).desc) = some 4 by decide +kernel⟩, leb rfl⟩
theorem sX8_ofThree : MOV MX8_ofThree := ⟨w_5_239, wtm (tbp (List.mem_of_getElem? (i := 55) rfl)) rfl⟩
def MX8_reckons : MI := (yX8_reckons, cX8_reckons, 2, none, 0)
theorem kX8_reckons : MOK MX8_reckons 0 := ⟨w_5_32, w_1_9, ⟨show RX8 ≠ _ by decide +kernel, show RX8 ≠ _ by decide +kernel, show Option.map (fun d => d.parameters.length) (parseMethodDescriptor (yX8_reckons).desc) = some 0 by decide +kernel⟩, leb rfl⟩
theorem sX8_reckons : MOV MX8_reckons := ⟨w_5_31, wtm (tbp (List.mem_of_getElem? (i := 37) rfl)) rfl⟩
def MX8_remembers : MI := (yX8_remembers, cX8_remembers, 2, none, 0)
theorem kX8_remembers : MOK MX8_remembers 0 := ⟨w_5_173, w_1_9, ⟨show RX8 ≠ _ by decide +kernel, show RX8 ≠ _ by decide +kernel, show Option.map (fun d => d.parameters.length) (parseMethodDescriptor (yX8_remembers).desc) = some 0 by decide +kernel⟩, leb rfl⟩
theorem sX8_remembers : MOV MX8_remembers := ⟨w_5_172, wtm (tbp (List.mem_of_getElem? (i := 50) rfl)) rfl⟩
def MX8_torn : MI := (yX8_torn, cX8_torn, 1, (some .int), 0)
theorem kX8_torn : MOK MX8_torn 0 := ⟨w_6_51, w_1_9, ⟨show RX8 ≠ _ by decide +kernel, show RX8 ≠ _ by decide +kernel, show Option.map (fun d => d.parameters.length) (parseMethodDescriptor (yX8_torn).desc) = some 0 by decide +kernel⟩, leb rfl⟩
theorem sX8_torn : MOV MX8_torn := ⟨w_6_49, w_6_50⟩
def MX8_walksWills : MI := (yX8_walksWills, cX8_walksWills, 9, (some .boolean), 0)
theorem kX8_walksWills : MOK MX8_walksWills 3 := ⟨w_5_152, w_1_9, ⟨show RX8 ≠ _ by decide +kernel, show RX8 ≠ _ by decide +kernel, show Option.map (fun d => d.parameters.length) (parseMethodDescriptor (yX8_walksWills).desc) = some 3 by decide +kernel⟩, leb rfl⟩
theorem sX8_walksWills : MOV MX8_walksWills := ⟨w_5_151, wtm (tbp (List.mem_of_getElem? (i := 49) rfl)) rfl⟩
def MX0_add : MI := (yX0_add, cX0_add, 3, (some .int), 1)
theorem kX0_add : MOK MX0_add 2 := ⟨w_2_120, w_1_2, ⟨show RX0 ≠ _ by decide +kernel, show RX0 ≠ _ by decide +kernel, show Option.map (fun d => d.parameters.length) (parseMethodDescriptor (yX0_add).desc) = some 2 by decide +kernel⟩, leb rfl⟩
theorem sX0_add : MOV MX0_add := ⟨w_2_118, w_2_119⟩
def MX0_remove : MI := (yX0_remove, cX0_remove, 3, none, 1)
theorem kX0_remove : MOK MX0_remove 1 := ⟨w_3_99, w_1_2, ⟨show RX0 ≠ _ by decide +kernel, show RX0 ≠ _ by decide +kernel, show Option.map (fun d => d.parameters.length) (parseMethodDescriptor (yX0_remove).desc) = some 1 by decide +kernel⟩, leb rfl⟩
theorem sX0_remove : MOV MX0_remove := ⟨w_3_97, w_3_98⟩
def MX2_giveNext : MI := (yX2_giveNext, cX2_giveNext, 3, none, 1)
theorem kX2_giveNext : MOK MX2_giveNext 0 := ⟨w_3_26, w_1_3, ⟨show RX2 ≠ _ by decide +kernel, show RX2 ≠ _ by decide +kernel, show Option.map (fun d => d.parameters.length) (parseMethodDescriptor (yX2_giveNext).desc) = some 0 by decide +kernel⟩, leb rfl⟩
theorem sX2_giveNext : MOV MX2_giveNext := ⟨w_3_25, wtm (tbp (List.mem_of_getElem? (i := 17) rfl)) rfl⟩
def MX2_giveQuotasLess : MI := (yX2_giveQuotasLess, cX2_giveQuotasLess, 3, none, 1)
theorem kX2_giveQuotasLess : MOK MX2_giveQuotasLess 1 := ⟨w_3_3, w_1_3, ⟨show RX2 ≠ _ by decide +kernel, show RX2 ≠ _ by decide +kernel, show Option.map (fun d => d.parameters.length) (parseMethodDescriptor (yX2_giveQuotasLess).desc) = some 1 by decide +kernel⟩, leb rfl⟩
theorem sX2_giveQuotasLess : MOV MX2_giveQuotasLess := ⟨w_3_2, wtm (tbp (List.mem_of_getElem? (i := 14) rfl)) rfl⟩
def MX2_giveTold : MI := (yX2_giveTold, cX2_giveTold, 3, none, 1)
theorem kX2_giveTold : MOK MX2_giveTold 0 := ⟨w_2_232, w_1_3, ⟨show RX2 ≠ _ by decide +kernel, show RX2 ≠ _ by decide +kernel, show Option.map (fun d => d.parameters.length) (parseMethodDescriptor (yX2_giveTold).desc) = some 0 by decide +kernel⟩, leb rfl⟩
theorem sX2_giveTold : MOV MX2_giveTold := ⟨w_2_231, wtm (tbp (List.mem_of_getElem? (i := 12) rfl)) rfl⟩
def MX2_givesAs : MI := (yX2_givesAs, cX2_givesAs, 3, (some .boolean), 1)
theorem kX2_givesAs : MOK MX2_givesAs 1 := ⟨w_3_182, w_1_3, ⟨show RX2 ≠ _ by decide +kernel, show RX2 ≠ _ by decide +kernel, show Option.map (fun d => d.parameters.length) (parseMethodDescriptor (yX2_givesAs).desc) = some 1 by decide +kernel⟩, leb rfl⟩
theorem sX2_givesAs : MOV MX2_givesAs := ⟨w_3_180, w_3_181⟩
def MX2_isAsSeen : MI := (yX2_isAsSeen, cX2_isAsSeen, 4, (some .boolean), 1)
theorem kX2_isAsSeen : MOK MX2_isAsSeen 1 := ⟨w_3_234, w_1_3, ⟨show RX2 ≠ _ by decide +kernel, show RX2 ≠ _ by decide +kernel, show Option.map (fun d => d.parameters.length) (parseMethodDescriptor (yX2_isAsSeen).desc) = some 1 by decide +kernel⟩, leb rfl⟩
theorem sX2_isAsSeen : MOV MX2_isAsSeen := ⟨w_3_232, w_3_233⟩
def MX2_isOff : MI := (yX2_isOff, cX2_isOff, 2, (some .boolean), 1)
theorem kX2_isOff : MOK MX2_isOff 1 := ⟨w_3_47, w_1_3, ⟨show RX2 ≠ _ by decide +kernel, show RX2 ≠ _ by decide +kernel, show Option.map (fun d => d.parameters.length) (parseMethodDescriptor (yX2_isOff).desc) = some 1 by decide +kernel⟩, leb rfl⟩
theorem sX2_isOff : MOV MX2_isOff := ⟨w_3_45, w_3_46⟩
def MX2_load : MI := (yX2_load, cX2_load, 3, none, 1)
theorem kX2_load : MOK MX2_load 1 := ⟨w_2_210, w_1_3, ⟨show RX2 ≠ _ by decide +kernel, show RX2 ≠ _ by decide +kernel, show Option.map (fun d => d.parameters.length) (parseMethodDescriptor (yX2_load).desc) = some 1 by decide +kernel⟩, leb rfl⟩
theorem sX2_load : MOV MX2_load := ⟨w_2_208, w_2_209⟩
def MX3_begin : MI := (yX3_begin, cX3_begin, 4, none, 1)
theorem kX3_begin : MOK MX3_begin 3 := ⟨w_2_191, w_1_4, ⟨show RX3 ≠ _ by decide +kernel, show RX3 ≠ _ by decide +kernel, show Option.map (fun d => d.parameters.length) (parseMethodDescriptor (yX3_begin).desc) = some 3 by decide +kernel⟩, leb rfl⟩
theorem sX3_begin : MOV MX3_begin := ⟨w_2_190, wtm (tbp (List.mem_of_getElem? (i := 9) rfl)) rfl⟩
def MX3_takeSemicolon : MI := (yX3_takeSemicolon, cX3_takeSemicolon, 1, none, 1)
theorem kX3_takeSemicolon : MOK MX3_takeSemicolon 0 := ⟨w_2_104, w_1_4, ⟨show RX3 ≠ _ by decide +kernel, show RX3 ≠ _ by decide +kernel, show Option.map (fun d => d.parameters.length) (parseMethodDescriptor (yX3_takeSemicolon).desc) = some 0 by decide +kernel⟩, leb rfl⟩
theorem sX3_takeSemicolon : MOV MX3_takeSemicolon := ⟨w_2_103, wtm (tbp (List.mem_of_getElem? (i := 4) rfl)) rfl⟩
def MX4_cell : MI := (yX4_cell, cX4_cell, 2, (some .int), 1)
theorem kX4_cell : MOK MX4_cell 1 := ⟨w_4_82, w_1_8, ⟨show RX4 ≠ _ by decide +kernel, show RX4 ≠ _ by decide +kernel, show Option.map (fun d => d.parameters.length) (parseMethodDescriptor (yX4_cell).desc) = some 1 by decide +kernel⟩, leb rfl⟩
theorem sX4_cell : MOV MX4_cell := ⟨w_4_80, w_4_81⟩
def MX4_pairFlaw : MI := (yX4_pairFlaw, cX4_pairFlaw, 4, (some .int), 1)
theorem kX4_pairFlaw : MOK MX4_pairFlaw 2 := ⟨w_4_78, w_1_8, ⟨show RX4 ≠ _ by decide +kernel, show RX4 ≠ _ by decide +kernel, show Option.map (fun d => d.parameters.length) (parseMethodDescriptor (yX4_pairFlaw).desc) = some 2 by decide +kernel⟩, leb rfl⟩
theorem sX4_pairFlaw : MOV MX4_pairFlaw := ⟨w_4_76, w_4_77⟩
def MX4_put : MI := (yX4_put, cX4_put, 3, none, 1)
theorem kX4_put : MOK MX4_put 2 := ⟨w_4_69, w_1_8, ⟨show RX4 ≠ _ by decide +kernel, show RX4 ≠ _ by decide +kernel, show Option.map (fun d => d.parameters.length) (parseMethodDescriptor (yX4_put).desc) = some 2 by decide +kernel⟩, leb rfl⟩
theorem sX4_put : MOV MX4_put := ⟨w_4_67, w_4_68⟩
def MX4_renew : MI := (yX4_renew, cX4_renew, 4, none, 1)
theorem kX4_renew : MOK MX4_renew 2 := ⟨w_4_56, w_1_8, ⟨show RX4 ≠ _ by decide +kernel, show RX4 ≠ _ by decide +kernel, show Option.map (fun d => d.parameters.length) (parseMethodDescriptor (yX4_renew).desc) = some 2 by decide +kernel⟩, leb rfl⟩
theorem sX4_renew : MOV MX4_renew := ⟨w_4_54, w_4_55⟩
def MX5_isFigure : MI := (yX5_isFigure, cX5_isFigure, 1, (some .boolean), 1)
theorem kX5_isFigure : MOK MX5_isFigure 1 := ⟨w_2_88, w_1_5, ⟨show RX5 ≠ _ by decide +kernel, show RX5 ≠ _ by decide +kernel, show Option.map (fun d => d.parameters.length) (parseMethodDescriptor (yX5_isFigure).desc) = some 1 by decide +kernel⟩, leb rfl⟩
theorem sX5_isFigure : Cond.static (mY MX5_isFigure) ∈ WT := w_2_87
def MX5_isLetter : MI := (yX5_isLetter, cX5_isLetter, 1, (some .boolean), 1)
theorem kX5_isLetter : MOK MX5_isLetter 1 := ⟨w_2_80, w_1_5, ⟨show RX5 ≠ _ by decide +kernel, show RX5 ≠ _ by decide +kernel, show Option.map (fun d => d.parameters.length) (parseMethodDescriptor (yX5_isLetter).desc) = some 1 by decide +kernel⟩, leb rfl⟩
theorem sX5_isLetter : Cond.static (mY MX5_isLetter) ∈ WT := w_2_79
def MX6_findDowns : MI := (yX6_findDowns, cX6_findDowns, 2, none, 1)
theorem kX6_findDowns : MOK MX6_findDowns 0 := ⟨w_3_131, w_1_6, ⟨show RX6 ≠ _ by decide +kernel, show RX6 ≠ _ by decide +kernel, show Option.map (fun d => d.parameters.length) (parseMethodDescriptor (yX6_findDowns).desc) = some 0 by decide +kernel⟩, leb rfl⟩
theorem sX6_findDowns : MOV MX6_findDowns := ⟨w_3_130, wtm (tbp (List.mem_of_getElem? (i := 21) rfl)) rfl⟩
def MX7_alter : MI := (yX7_alter, cX7_alter, 5, (some .int), 1)
theorem kX7_alter : MOK MX7_alter 3 := ⟨w_3_76, w_1_1, ⟨show RX7 ≠ _ by decide +kernel, show RX7 ≠ _ by decide +kernel, show Option.map (fun d => d.parameters.length) (parseMethodDescriptor (yX7_alter).desc) = some 3 by decide +kernel⟩, leb rfl⟩
theorem sX7_alter : MOV MX7_alter := ⟨w_3_74, w_3_75⟩
def MX7_back : MI := (yX7_back, cX7_back, 2, (some .int), 1)
theorem kX7_back : MOK MX7_back 1 := ⟨w_4_42, w_1_1, ⟨show RX7 ≠ _ by decide +kernel, show RX7 ≠ _ by decide +kernel, show Option.map (fun d => d.parameters.length) (parseMethodDescriptor (yX7_back).desc) = some 1 by decide +kernel⟩, leb rfl⟩
theorem sX7_back : MOV MX7_back := ⟨w_4_40, w_4_41⟩
def MX7_divisor : MI := (yX7_divisor, cX7_divisor, 11, (some .long), 1)
theorem kX7_divisor : MOK MX7_divisor 2 := ⟨w_3_62, w_1_1, ⟨show RX7 ≠ _ by decide +kernel, show RX7 ≠ _ by decide +kernel, show Option.map (fun d => d.parameters.length) (parseMethodDescriptor (yX7_divisor).desc) = some 2 by decide +kernel⟩, leb rfl⟩
theorem sX7_divisor : Cond.static (mY MX7_divisor) ∈ WT := w_3_61
def MX7_end : MI := (yX7_end, cX7_end, 3, (some .int), 1)
theorem kX7_end : MOK MX7_end 1 := ⟨w_2_57, w_1_1, ⟨show RX7 ≠ _ by decide +kernel, show RX7 ≠ _ by decide +kernel, show Option.map (fun d => d.parameters.length) (parseMethodDescriptor (yX7_end).desc) = some 1 by decide +kernel⟩, leb rfl⟩
theorem sX7_end : MOV MX7_end := ⟨w_2_55, w_2_56⟩
def MX7_feed : MI := (yX7_feed, cX7_feed, 2, (some .int), 1)
theorem kX7_feed : MOK MX7_feed 1 := ⟨w_2_46, w_1_1, ⟨show RX7 ≠ _ by decide +kernel, show RX7 ≠ _ by decide +kernel, show Option.map (fun d => d.parameters.length) (parseMethodDescriptor (yX7_feed).desc) = some 1 by decide +kernel⟩, leb rfl⟩
theorem sX7_feed : MOV MX7_feed := ⟨w_2_44, w_2_45⟩
def MX7_forget : MI := (yX7_forget, cX7_forget, 3, (some .int), 1)
theorem kX7_forget : MOK MX7_forget 1 := ⟨w_3_226, w_1_1, ⟨show RX7 ≠ _ by decide +kernel, show RX7 ≠ _ by decide +kernel, show Option.map (fun d => d.parameters.length) (parseMethodDescriptor (yX7_forget).desc) = some 1 by decide +kernel⟩, leb rfl⟩
theorem sX7_forget : MOV MX7_forget := ⟨w_3_224, w_3_225⟩
def MX7_isHerd : MI := (yX7_isHerd, cX7_isHerd, 1, (some .boolean), 1)
theorem kX7_isHerd : MOK MX7_isHerd 1 := ⟨w_2_115, w_1_1, ⟨show RX7 ≠ _ by decide +kernel, show RX7 ≠ _ by decide +kernel, show Option.map (fun d => d.parameters.length) (parseMethodDescriptor (yX7_isHerd).desc) = some 1 by decide +kernel⟩, leb rfl⟩
theorem sX7_isHerd : Cond.static (mY MX7_isHerd) ∈ WT := w_2_114
def MX7_isKind : MI := (yX7_isKind, cX7_isKind, 1, (some .boolean), 1)
theorem kX7_isKind : MOK MX7_isKind 1 := ⟨w_2_194, w_1_1, ⟨show RX7 ≠ _ by decide +kernel, show RX7 ≠ _ by decide +kernel, show Option.map (fun d => d.parameters.length) (parseMethodDescriptor (yX7_isKind).desc) = some 1 by decide +kernel⟩, leb rfl⟩
theorem sX7_isKind : Cond.static (mY MX7_isKind) ∈ WT := w_2_193
def MX7_isLane : MI := (yX7_isLane, cX7_isLane, 1, (some .boolean), 1)
theorem kX7_isLane : MOK MX7_isLane 1 := ⟨w_4_52, w_1_1, ⟨show RX7 ≠ _ by decide +kernel, show RX7 ≠ _ by decide +kernel, show Option.map (fun d => d.parameters.length) (parseMethodDescriptor (yX7_isLane).desc) = some 1 by decide +kernel⟩, leb rfl⟩
theorem sX7_isLane : Cond.static (mY MX7_isLane) ∈ WT := w_4_51
def MX7_isSheet : MI := (yX7_isSheet, cX7_isSheet, 1, (some .boolean), 1)
theorem kX7_isSheet : MOK MX7_isSheet 1 := ⟨w_4_49, w_1_1, ⟨show RX7 ≠ _ by decide +kernel, show RX7 ≠ _ by decide +kernel, show Option.map (fun d => d.parameters.length) (parseMethodDescriptor (yX7_isSheet).desc) = some 1 by decide +kernel⟩, leb rfl⟩
theorem sX7_isSheet : Cond.static (mY MX7_isSheet) ∈ WT := w_4_48
def MX7_keep : MI := (yX7_keep, cX7_keep, 3, (some .int), 1)
theorem kX7_keep : MOK MX7_keep 1 := ⟨w_4_38, w_1_1, ⟨show RX7 ≠ _ by decide +kernel, show RX7 ≠ _ by decide +kernel, show Option.map (fun d => d.parameters.length) (parseMethodDescriptor (yX7_keep).desc) = some 1 by decide +kernel⟩, leb rfl⟩
theorem sX7_keep : MOV MX7_keep := ⟨w_4_36, w_4_37⟩
def MX7_odds : MI := (yX7_odds, cX7_odds, 6, (some .long), 1)
theorem kX7_odds : MOK MX7_odds 3 := ⟨w_3_207, w_1_1, ⟨show RX7 ≠ _ by decide +kernel, show RX7 ≠ _ by decide +kernel, show Option.map (fun d => d.parameters.length) (parseMethodDescriptor (yX7_odds).desc) = some 3 by decide +kernel⟩, leb rfl⟩
theorem sX7_odds : Cond.static (mY MX7_odds) ∈ WT := w_3_206
def MX7_wholePart : MI := (yX7_wholePart, cX7_wholePart, 5, (some .int), 1)
theorem kX7_wholePart : MOK MX7_wholePart 2 := ⟨w_3_112, w_1_1, ⟨show RX7 ≠ _ by decide +kernel, show RX7 ≠ _ by decide +kernel, show Option.map (fun d => d.parameters.length) (parseMethodDescriptor (yX7_wholePart).desc) = some 2 by decide +kernel⟩, leb rfl⟩
theorem sX7_wholePart : MOV MX7_wholePart := ⟨w_3_111, wtm (tbp (List.mem_of_getElem? (i := 20) rfl)) rfl⟩
def MX8_back : MI := (yX8_back, cX8_back, 2, (some .int), 1)
theorem kX8_back : MOK MX8_back 1 := ⟨w_6_30, w_1_9, ⟨show RX8 ≠ _ by decide +kernel, show RX8 ≠ _ by decide +kernel, show Option.map (fun d => d.parameters.length) (parseMethodDescriptor (yX8_back).desc) = some 1 by decide +kernel⟩, leb rfl⟩
theorem sX8_back : MOV MX8_back := ⟨w_6_28, w_6_29⟩
def MX8_bear : MI := (yX8_bear, cX8_bear, 3, (some .int), 1)
theorem kX8_bear : MOK MX8_bear 2 := ⟨w_5_120, w_1_9, ⟨show RX8 ≠ _ by decide +kernel, show RX8 ≠ _ by decide +kernel, show Option.map (fun d => d.parameters.length) (parseMethodDescriptor (yX8_bear).desc) = some 2 by decide +kernel⟩, leb rfl⟩
theorem sX8_bear : MOV MX8_bear := ⟨w_5_118, w_5_119⟩
def MX8_dropsNow : MI := (yX8_dropsNow, cX8_dropsNow, 3, none, 1)
theorem kX8_dropsNow : MOK MX8_dropsNow 1 := ⟨w_5_128, w_1_9, ⟨show RX8 ≠ _ by decide +kernel, show RX8 ≠ _ by decide +kernel, show Option.map (fun d => d.parameters.length) (parseMethodDescriptor (yX8_dropsNow).desc) = some 1 by decide +kernel⟩, leb rfl⟩
theorem sX8_dropsNow : MOV MX8_dropsNow := ⟨w_5_127, wtm (tbp (List.mem_of_getElem? (i := 47) rfl)) rfl⟩
def MX8_end : MI := (yX8_end, cX8_end, 3, (some .int), 1)
theorem kX8_end : MOK MX8_end 1 := ⟨w_4_216, w_1_9, ⟨show RX8 ≠ _ by decide +kernel, show RX8 ≠ _ by decide +kernel, show Option.map (fun d => d.parameters.length) (parseMethodDescriptor (yX8_end).desc) = some 1 by decide +kernel⟩, leb rfl⟩
theorem sX8_end : MOV MX8_end := ⟨w_4_214, w_4_215⟩
def MX8_feed : MI := (yX8_feed, cX8_feed, 2, (some .int), 1)
theorem kX8_feed : MOK MX8_feed 1 := ⟨w_4_208, w_1_9, ⟨show RX8 ≠ _ by decide +kernel, show RX8 ≠ _ by decide +kernel, show Option.map (fun d => d.parameters.length) (parseMethodDescriptor (yX8_feed).desc) = some 1 by decide +kernel⟩, leb rfl⟩
theorem sX8_feed : MOV MX8_feed := ⟨w_4_206, w_4_207⟩
def MX8_firstOff : MI := (yX8_firstOff, cX8_firstOff, 3, (some .int), 1)
theorem kX8_firstOff : MOK MX8_firstOff 1 := ⟨w_5_181, w_1_9, ⟨show RX8 ≠ _ by decide +kernel, show RX8 ≠ _ by decide +kernel, show Option.map (fun d => d.parameters.length) (parseMethodDescriptor (yX8_firstOff).desc) = some 1 by decide +kernel⟩, leb rfl⟩
theorem sX8_firstOff : MOV MX8_firstOff := ⟨w_5_180, wtm (tbp (List.mem_of_getElem? (i := 51) rfl)) rfl⟩
def MX8_forget : MI := (yX8_forget, cX8_forget, 2, (some .int), 1)
theorem kX8_forget : MOK MX8_forget 1 := ⟨w_5_219, w_1_9, ⟨show RX8 ≠ _ by decide +kernel, show RX8 ≠ _ by decide +kernel, show Option.map (fun d => d.parameters.length) (parseMethodDescriptor (yX8_forget).desc) = some 1 by decide +kernel⟩, leb rfl⟩
theorem sX8_forget : MOV MX8_forget := ⟨w_5_217, w_5_218⟩
def MX8_gives : MI := (yX8_gives, cX8_gives, 4, none, 1)
theorem kX8_gives : MOK MX8_gives 2 := ⟨w_5_40, w_1_9, ⟨show RX8 ≠ _ by decide +kernel, show RX8 ≠ _ by decide +kernel, show Option.map (fun d => d.parameters.length) (parseMethodDescriptor (yX8_gives).desc) = some 2 by decide +kernel⟩, leb rfl⟩
theorem sX8_gives : MOV MX8_gives := ⟨w_5_39, wtm (tbp (List.mem_of_getElem? (i := 39) rfl)) rfl⟩
def MX8_herd : MI := (yX8_herd, cX8_herd, 2, (some .int), 1)
theorem kX8_herd : MOK MX8_herd 1 := ⟨w_5_108, w_1_9, ⟨show RX8 ≠ _ by decide +kernel, show RX8 ≠ _ by decide +kernel, show Option.map (fun d => d.parameters.length) (parseMethodDescriptor (yX8_herd).desc) = some 1 by decide +kernel⟩, leb rfl⟩
theorem sX8_herd : MOV MX8_herd := ⟨w_5_106, w_5_107⟩
def MX8_is : MI := (yX8_is, cX8_is, 8, (some .boolean), 1)
theorem kX8_is : MOK MX8_is 6 := ⟨w_5_8, w_1_9, ⟨show RX8 ≠ _ by decide +kernel, show RX8 ≠ _ by decide +kernel, show Option.map (fun d => d.parameters.length) (parseMethodDescriptor (yX8_is).desc) = some 6 by decide +kernel⟩, leb rfl⟩
theorem sX8_is : MOV MX8_is := ⟨w_5_7, wtm (tbp (List.mem_of_getElem? (i := 33) rfl)) rfl⟩
def MX8_isHeir : MI := (yX8_isHeir, cX8_isHeir, 2, (some .boolean), 1)
theorem kX8_isHeir : MOK MX8_isHeir 1 := ⟨w_5_64, w_1_9, ⟨show RX8 ≠ _ by decide +kernel, show RX8 ≠ _ by decide +kernel, show Option.map (fun d => d.parameters.length) (parseMethodDescriptor (yX8_isHeir).desc) = some 1 by decide +kernel⟩, leb rfl⟩
theorem sX8_isHeir : MOV MX8_isHeir := ⟨w_5_63, wtm (tbp (List.mem_of_getElem? (i := 44) rfl)) rfl⟩
def MX8_isKind : MI := (yX8_isKind, cX8_isKind, 1, (some .boolean), 1)
theorem kX8_isKind : MOK MX8_isKind 1 := ⟨w_5_116, w_1_9, ⟨show RX8 ≠ _ by decide +kernel, show RX8 ≠ _ by decide +kernel, show Option.map (fun d => d.parameters.length) (parseMethodDescriptor (yX8_isKind).desc) = some 1 by decide +kernel⟩, leb rfl⟩
theorem sX8_isKind : Cond.static (mY MX8_isKind) ∈ WT := w_5_115
def MX8_isPart : MI := (yX8_isPart, cX8_isPart, 1, (some .boolean), 1)
theorem kX8_isPart : MOK MX8_isPart 1 := ⟨w_5_79, w_1_9, ⟨show RX8 ≠ _ by decide +kernel, show RX8 ≠ _ by decide +kernel, show Option.map (fun d => d.parameters.length) (parseMethodDescriptor (yX8_isPart).desc) = some 1 by decide +kernel⟩, leb rfl⟩
theorem sX8_isPart : Cond.static (mY MX8_isPart) ∈ WT := w_5_78
def MX8_isSheet : MI := (yX8_isSheet, cX8_isSheet, 2, (some .boolean), 1)
theorem kX8_isSheet : MOK MX8_isSheet 2 := ⟨w_6_37, w_1_9, ⟨show RX8 ≠ _ by decide +kernel, show RX8 ≠ _ by decide +kernel, show Option.map (fun d => d.parameters.length) (parseMethodDescriptor (yX8_isSheet).desc) = some 2 by decide +kernel⟩, leb rfl⟩
theorem sX8_isSheet : Cond.static (mY MX8_isSheet) ∈ WT := w_6_36
def MX8_isWill : MI := (yX8_isWill, cX8_isWill, 2, (some .boolean), 1)
theorem kX8_isWill : MOK MX8_isWill 2 := ⟨w_5_147, w_1_9, ⟨show RX8 ≠ _ by decide +kernel, show RX8 ≠ _ by decide +kernel, show Option.map (fun d => d.parameters.length) (parseMethodDescriptor (yX8_isWill).desc) = some 2 by decide +kernel⟩, leb rfl⟩
theorem sX8_isWill : Cond.static (mY MX8_isWill) ∈ WT := w_5_146
def MX8_keep : MI := (yX8_keep, cX8_keep, 3, (some .int), 1)
theorem kX8_keep : MOK MX8_keep 1 := ⟨w_6_22, w_1_9, ⟨show RX8 ≠ _ by decide +kernel, show RX8 ≠ _ by decide +kernel, show Option.map (fun d => d.parameters.length) (parseMethodDescriptor (yX8_keep).desc) = some 1 by decide +kernel⟩, leb rfl⟩
theorem sX8_keep : MOV MX8_keep := ⟨w_6_20, w_6_21⟩
def MX8_lowest : MI := (yX8_lowest, cX8_lowest, 7, (some .long), 1)
theorem kX8_lowest : MOK MX8_lowest 3 := ⟨w_5_82, w_1_9, ⟨show RX8 ≠ _ by decide +kernel, show RX8 ≠ _ by decide +kernel, show Option.map (fun d => d.parameters.length) (parseMethodDescriptor (yX8_lowest).desc) = some 3 by decide +kernel⟩, leb rfl⟩
theorem sX8_lowest : Cond.static (mY MX8_lowest) ∈ WT := w_5_81
def MX8_starts : MI := (yX8_starts, cX8_starts, 2, none, 1)
theorem kX8_starts : MOK MX8_starts 0 := ⟨w_5_28, w_1_9, ⟨show RX8 ≠ _ by decide +kernel, show RX8 ≠ _ by decide +kernel, show Option.map (fun d => d.parameters.length) (parseMethodDescriptor (yX8_starts).desc) = some 0 by decide +kernel⟩, leb rfl⟩
theorem sX8_starts : MOV MX8_starts := ⟨w_5_27, wtm (tbp (List.mem_of_getElem? (i := 36) rfl)) rfl⟩
def MX8_takes : MI := (yX8_takes, cX8_takes, 2, none, 1)
theorem kX8_takes : MOK MX8_takes 0 := ⟨w_4_224, w_1_9, ⟨show RX8 ≠ _ by decide +kernel, show RX8 ≠ _ by decide +kernel, show Option.map (fun d => d.parameters.length) (parseMethodDescriptor (yX8_takes).desc) = some 0 by decide +kernel⟩, leb rfl⟩
theorem sX8_takes : MOV MX8_takes := ⟨w_4_223, wtm (tbp (List.mem_of_getElem? (i := 28) rfl)) rfl⟩
def MX2_firstOff : MI := (yX2_firstOff, cX2_firstOff, 2, (some .int), 2)
theorem kX2_firstOff : MOK MX2_firstOff 0 := ⟨w_3_173, w_1_3, ⟨show RX2 ≠ _ by decide +kernel, show RX2 ≠ _ by decide +kernel, show Option.map (fun d => d.parameters.length) (parseMethodDescriptor (yX2_firstOff).desc) = some 0 by decide +kernel⟩, leb rfl⟩
theorem sX2_firstOff : MOV MX2_firstOff := ⟨w_3_171, w_3_172⟩
def MX2_giveByRests : MI := (yX2_giveByRests, cX2_giveByRests, 2, none, 2)
theorem kX2_giveByRests : MOK MX2_giveByRests 0 := ⟨w_2_239, w_1_3, ⟨show RX2 ≠ _ by decide +kernel, show RX2 ≠ _ by decide +kernel, show Option.map (fun d => d.parameters.length) (parseMethodDescriptor (yX2_giveByRests).desc) = some 0 by decide +kernel⟩, leb rfl⟩
theorem sX2_giveByRests : MOV MX2_giveByRests := ⟨w_2_238, wtm (tbp (List.mem_of_getElem? (i := 13) rfl)) rfl⟩
def MX2_giveByRow : MI := (yX2_giveByRow, cX2_giveByRow, 2, none, 2)
theorem kX2_giveByRow : MOK MX2_giveByRow 0 := ⟨w_3_22, w_1_3, ⟨show RX2 ≠ _ by decide +kernel, show RX2 ≠ _ by decide +kernel, show Option.map (fun d => d.parameters.length) (parseMethodDescriptor (yX2_giveByRow).desc) = some 0 by decide +kernel⟩, leb rfl⟩
theorem sX2_giveByRow : MOV MX2_giveByRow := ⟨w_3_21, wtm (tbp (List.mem_of_getElem? (i := 16) rfl)) rfl⟩
def MX3_isInBounds : MI := (yX3_isInBounds, cX3_isInBounds, 2, (some .boolean), 2)
theorem kX3_isInBounds : MOK MX3_isInBounds 1 := ⟨w_2_112, w_1_4, ⟨show RX3 ≠ _ by decide +kernel, show RX3 ≠ _ by decide +kernel, show Option.map (fun d => d.parameters.length) (parseMethodDescriptor (yX3_isInBounds).desc) = some 1 by decide +kernel⟩, leb rfl⟩
theorem sX3_isInBounds : MOV MX3_isInBounds := ⟨w_2_111, wtm (tbp (List.mem_of_getElem? (i := 6) rfl)) rfl⟩
def MX5_takeName : MI := (yX5_takeName, cX5_takeName, 1, none, 2)
theorem kX5_takeName : MOK MX5_takeName 0 := ⟨w_2_85, w_1_5, ⟨show RX5 ≠ _ by decide +kernel, show RX5 ≠ _ by decide +kernel, show Option.map (fun d => d.parameters.length) (parseMethodDescriptor (yX5_takeName).desc) = some 0 by decide +kernel⟩, leb rfl⟩
theorem sX5_takeName : MOV MX5_takeName := ⟨w_2_84, wtm (tbp (List.mem_of_getElem? (i := 0) rfl)) rfl⟩
def MX5_takeNumber : MI := (yX5_takeNumber, cX5_takeNumber, 1, none, 2)
theorem kX5_takeNumber : MOK MX5_takeNumber 0 := ⟨w_2_92, w_1_5, ⟨show RX5 ≠ _ by decide +kernel, show RX5 ≠ _ by decide +kernel, show Option.map (fun d => d.parameters.length) (parseMethodDescriptor (yX5_takeNumber).desc) = some 0 by decide +kernel⟩, leb rfl⟩
theorem sX5_takeNumber : MOV MX5_takeNumber := ⟨w_2_91, wtm (tbp (List.mem_of_getElem? (i := 1) rfl)) rfl⟩
def MX7_bear : MI := (yX7_bear, cX7_bear, 3, (some .int), 2)
theorem kX7_bear : MOK MX7_bear 2 := ⟨w_3_90, w_1_1, ⟨show RX7 ≠ _ by decide +kernel, show RX7 ≠ _ by decide +kernel, show Option.map (fun d => d.parameters.length) (parseMethodDescriptor (yX7_bear).desc) = some 2 by decide +kernel⟩, leb rfl⟩
theorem sX7_bear : MOV MX7_bear := ⟨w_3_88, w_3_89⟩
def MX7_dies : MI := (yX7_dies, cX7_dies, 2, (some .int), 2)
theorem kX7_dies : MOK MX7_dies 1 := ⟨w_3_95, w_1_1, ⟨show RX7 ≠ _ by decide +kernel, show RX7 ≠ _ by decide +kernel, show Option.map (fun d => d.parameters.length) (parseMethodDescriptor (yX7_dies).desc) = some 1 by decide +kernel⟩, leb rfl⟩
theorem sX7_dies : MOV MX7_dies := ⟨w_3_93, w_3_94⟩
def MX7_fraction : MI := (yX7_fraction, cX7_fraction, 7, (some .long), 2)
theorem kX7_fraction : MOK MX7_fraction 3 := ⟨w_3_58, w_1_1, ⟨show RX7 ≠ _ by decide +kernel, show RX7 ≠ _ by decide +kernel, show Option.map (fun d => d.parameters.length) (parseMethodDescriptor (yX7_fraction).desc) = some 3 by decide +kernel⟩, leb rfl⟩
theorem sX7_fraction : Cond.static (mY MX7_fraction) ∈ WT := w_3_57
def MX7_herd : MI := (yX7_herd, cX7_herd, 3, (some .int), 2)
theorem kX7_herd : MOK MX7_herd 1 := ⟨w_3_80, w_1_1, ⟨show RX7 ≠ _ by decide +kernel, show RX7 ≠ _ by decide +kernel, show Option.map (fun d => d.parameters.length) (parseMethodDescriptor (yX7_herd).desc) = some 1 by decide +kernel⟩, leb rfl⟩
theorem sX7_herd : MOV MX7_herd := ⟨w_3_78, w_3_79⟩
def MX7_judge : MI := (yX7_judge, cX7_judge, 3, (some .int), 2)
theorem kX7_judge : MOK MX7_judge 1 := ⟨w_3_85, w_1_1, ⟨show RX7 ≠ _ by decide +kernel, show RX7 ≠ _ by decide +kernel, show Option.map (fun d => d.parameters.length) (parseMethodDescriptor (yX7_judge).desc) = some 1 by decide +kernel⟩, leb rfl⟩
theorem sX7_judge : MOV MX7_judge := ⟨w_3_83, w_3_84⟩
def MX7_lay : MI := (yX7_lay, cX7_lay, 5, (some .int), 2)
theorem kX7_lay : MOK MX7_lay 3 := ⟨w_4_61, w_1_1, ⟨show RX7 ≠ _ by decide +kernel, show RX7 ≠ _ by decide +kernel, show Option.map (fun d => d.parameters.length) (parseMethodDescriptor (yX7_lay).desc) = some 3 by decide +kernel⟩, leb rfl⟩
theorem sX7_lay : MOV MX7_lay := ⟨w_4_59, w_4_60⟩
def MX7_read : MI := (yX7_read, cX7_read, 10, (some .int), 2)
theorem kX7_read : MOK MX7_read 4 := ⟨w_4_74, w_1_1, ⟨show RX7 ≠ _ by decide +kernel, show RX7 ≠ _ by decide +kernel, show Option.map (fun d => d.parameters.length) (parseMethodDescriptor (yX7_read).desc) = some 4 by decide +kernel⟩, leb rfl⟩
theorem sX7_read : MOV MX7_read := ⟨w_4_72, w_4_73⟩
def MX7_see : MI := (yX7_see, cX7_see, 3, (some .int), 2)
theorem kX7_see : MOK MX7_see 2 := ⟨w_3_218, w_1_1, ⟨show RX7 ≠ _ by decide +kernel, show RX7 ≠ _ by decide +kernel, show Option.map (fun d => d.parameters.length) (parseMethodDescriptor (yX7_see).desc) = some 2 by decide +kernel⟩, leb rfl⟩
theorem sX7_see : MOV MX7_see := ⟨w_3_216, w_3_217⟩
def MX7_share : MI := (yX7_share, cX7_share, 3, (some .int), 2)
theorem kX7_share : MOK MX7_share 2 := ⟨w_3_116, w_1_1, ⟨show RX7 ≠ _ by decide +kernel, show RX7 ≠ _ by decide +kernel, show Option.map (fun d => d.parameters.length) (parseMethodDescriptor (yX7_share).desc) = some 2 by decide +kernel⟩, leb rfl⟩
theorem sX7_share : MOV MX7_share := ⟨w_3_114, w_3_115⟩
def MX7_sharedWhole : MI := (yX7_sharedWhole, cX7_sharedWhole, 5, (some .int), 2)
theorem kX7_sharedWhole : MOK MX7_sharedWhole 1 := ⟨w_3_108, w_1_1, ⟨show RX7 ≠ _ by decide +kernel, show RX7 ≠ _ by decide +kernel, show Option.map (fun d => d.parameters.length) (parseMethodDescriptor (yX7_sharedWhole).desc) = some 1 by decide +kernel⟩, leb rfl⟩
theorem sX7_sharedWhole : MOV MX7_sharedWhole := ⟨w_3_107, wtm (tbp (List.mem_of_getElem? (i := 19) rfl)) rfl⟩
def MX7_sheet : MI := (yX7_sheet, cX7_sheet, 4, (some .int), 2)
theorem kX7_sheet : MOK MX7_sheet 3 := ⟨w_4_46, w_1_1, ⟨show RX7 ≠ _ by decide +kernel, show RX7 ≠ _ by decide +kernel, show Option.map (fun d => d.parameters.length) (parseMethodDescriptor (yX7_sheet).desc) = some 3 by decide +kernel⟩, leb rfl⟩
theorem sX7_sheet : MOV MX7_sheet := ⟨w_4_44, w_4_45⟩
def MX8_alter : MI := (yX8_alter, cX8_alter, 4, (some .int), 2)
theorem kX8_alter : MOK MX8_alter 3 := ⟨w_5_98, w_1_9, ⟨show RX8 ≠ _ by decide +kernel, show RX8 ≠ _ by decide +kernel, show Option.map (fun d => d.parameters.length) (parseMethodDescriptor (yX8_alter).desc) = some 3 by decide +kernel⟩, leb rfl⟩
theorem sX8_alter : MOV MX8_alter := ⟨w_5_96, w_5_97⟩
def MX8_best : MI := (yX8_best, cX8_best, 5, (some .int), 2)
theorem kX8_best : MOK MX8_best 1 := ⟨w_5_189, w_1_9, ⟨show RX8 ≠ _ by decide +kernel, show RX8 ≠ _ by decide +kernel, show Option.map (fun d => d.parameters.length) (parseMethodDescriptor (yX8_best).desc) = some 1 by decide +kernel⟩, leb rfl⟩
theorem sX8_best : MOV MX8_best := ⟨w_5_187, w_5_188⟩
def MX8_by : MI := (yX8_by, cX8_by, 3, (some .int), 2)
theorem kX8_by : MOK MX8_by 2 := ⟨w_5_160, w_1_9, ⟨show RX8 ≠ _ by decide +kernel, show RX8 ≠ _ by decide +kernel, show Option.map (fun d => d.parameters.length) (parseMethodDescriptor (yX8_by).desc) = some 2 by decide +kernel⟩, leb rfl⟩
theorem sX8_by : MOV MX8_by := ⟨w_5_158, w_5_159⟩
def MX8_dies : MI := (yX8_dies, cX8_dies, 3, (some .int), 2)
theorem kX8_dies : MOK MX8_dies 1 := ⟨w_5_124, w_1_9, ⟨show RX8 ≠ _ by decide +kernel, show RX8 ≠ _ by decide +kernel, show Option.map (fun d => d.parameters.length) (parseMethodDescriptor (yX8_dies).desc) = some 1 by decide +kernel⟩, leb rfl⟩
theorem sX8_dies : MOV MX8_dies := ⟨w_5_122, w_5_123⟩
def MX8_drift : MI := (yX8_drift, cX8_drift, 9, (some .int), 2)
theorem kX8_drift : MOK MX8_drift 3 := ⟨w_6_16, w_1_9, ⟨show RX8 ≠ _ by decide +kernel, show RX8 ≠ _ by decide +kernel, show Option.map (fun d => d.parameters.length) (parseMethodDescriptor (yX8_drift).desc) = some 3 by decide +kernel⟩, leb rfl⟩
theorem sX8_drift : MOV MX8_drift := ⟨w_6_14, w_6_15⟩
def MX8_findOdds : MI := (yX8_findOdds, cX8_findOdds, 11, none, 2)
theorem kX8_findOdds : MOK MX8_findOdds 3 := ⟨w_5_207, w_1_9, ⟨show RX8 ≠ _ by decide +kernel, show RX8 ≠ _ by decide +kernel, show Option.map (fun d => d.parameters.length) (parseMethodDescriptor (yX8_findOdds).desc) = some 3 by decide +kernel⟩, leb rfl⟩
theorem sX8_findOdds : MOV MX8_findOdds := ⟨w_5_206, wtm (tbp (List.mem_of_getElem? (i := 52) rfl)) rfl⟩
def MX8_givesNow : MI := (yX8_givesNow, cX8_givesNow, 1, none, 2)
theorem kX8_givesNow : MOK MX8_givesNow 0 := ⟨w_5_36, w_1_9, ⟨show RX8 ≠ _ by decide +kernel, show RX8 ≠ _ by decide +kernel, show Option.map (fun d => d.parameters.length) (parseMethodDescriptor (yX8_givesNow).desc) = some 0 by decide +kernel⟩, leb rfl⟩
theorem sX8_givesNow : MOV MX8_givesNow := ⟨w_5_35, wtm (tbp (List.mem_of_getElem? (i := 38) rfl)) rfl⟩
def MX8_isHerdSo : MI := (yX8_isHerdSo, cX8_isHerdSo, 2, (some .boolean), 2)
theorem kX8_isHerdSo : MOK MX8_isHerdSo 1 := ⟨w_5_236, w_1_9, ⟨show RX8 ≠ _ by decide +kernel, show RX8 ≠ _ by decide +kernel, show Option.map (fun d => d.parameters.length) (parseMethodDescriptor (yX8_isHerdSo).desc) = some 1 by decide +kernel⟩, leb rfl⟩
theorem sX8_isHerdSo : MOV MX8_isHerdSo := ⟨w_5_235, wtm (tbp (List.mem_of_getElem? (i := 54) rfl)) rfl⟩
def MX8_judge : MI := (yX8_judge, cX8_judge, 2, (some .int), 2)
theorem kX8_judge : MOK MX8_judge 1 := ⟨w_5_113, w_1_9, ⟨show RX8 ≠ _ by decide +kernel, show RX8 ≠ _ by decide +kernel, show Option.map (fun d => d.parameters.length) (parseMethodDescriptor (yX8_judge).desc) = some 1 by decide +kernel⟩, leb rfl⟩
theorem sX8_judge : MOV MX8_judge := ⟨w_5_111, w_5_112⟩
def MX8_judges : MI := (yX8_judges, cX8_judges, 3, (some .int), 2)
theorem kX8_judges : MOK MX8_judges 0 := ⟨w_5_223, w_1_9, ⟨show RX8 ≠ _ by decide +kernel, show RX8 ≠ _ by decide +kernel, show Option.map (fun d => d.parameters.length) (parseMethodDescriptor (yX8_judges).desc) = some 0 by decide +kernel⟩, leb rfl⟩
theorem sX8_judges : MOV MX8_judges := ⟨w_5_221, w_5_222⟩
def MX8_keeps : MI := (yX8_keeps, cX8_keeps, 5, (some .int), 2)
theorem kX8_keeps : MOK MX8_keeps 2 := ⟨w_5_177, w_1_9, ⟨show RX8 ≠ _ by decide +kernel, show RX8 ≠ _ by decide +kernel, show Option.map (fun d => d.parameters.length) (parseMethodDescriptor (yX8_keeps).desc) = some 2 by decide +kernel⟩, leb rfl⟩
theorem sX8_keeps : MOV MX8_keeps := ⟨w_5_175, w_5_176⟩
def MX8_lay : MI := (yX8_lay, cX8_lay, 4, (some .int), 2)
theorem kX8_lay : MOK MX8_lay 3 := ⟨w_6_41, w_1_9, ⟨show RX8 ≠ _ by decide +kernel, show RX8 ≠ _ by decide +kernel, show Option.map (fun d => d.parameters.length) (parseMethodDescriptor (yX8_lay).desc) = some 3 by decide +kernel⟩, leb rfl⟩
theorem sX8_lay : MOV MX8_lay := ⟨w_6_39, w_6_40⟩
def MX8_lend : MI := (yX8_lend, cX8_lend, 7, (some .int), 2)
theorem kX8_lend : MOK MX8_lend 1 := ⟨w_5_132, w_1_9, ⟨show RX8 ≠ _ by decide +kernel, show RX8 ≠ _ by decide +kernel, show Option.map (fun d => d.parameters.length) (parseMethodDescriptor (yX8_lend).desc) = some 1 by decide +kernel⟩, leb rfl⟩
theorem sX8_lend : MOV MX8_lend := ⟨w_5_130, w_5_131⟩
def MX8_lineNow : MI := (yX8_lineNow, cX8_lineNow, 1, (some .int), 2)
theorem kX8_lineNow : MOK MX8_lineNow 0 := ⟨w_5_4, w_1_9, ⟨show RX8 ≠ _ by decide +kernel, show RX8 ≠ _ by decide +kernel, show Option.map (fun d => d.parameters.length) (parseMethodDescriptor (yX8_lineNow).desc) = some 0 by decide +kernel⟩, leb rfl⟩
theorem sX8_lineNow : MOV MX8_lineNow := ⟨w_5_3, wtm (tbp (List.mem_of_getElem? (i := 32) rfl)) rfl⟩
def MX8_loses : MI := (yX8_loses, cX8_loses, 5, (some .int), 2)
theorem kX8_loses : MOK MX8_loses 2 := ⟨w_5_168, w_1_9, ⟨show RX8 ≠ _ by decide +kernel, show RX8 ≠ _ by decide +kernel, show Option.map (fun d => d.parameters.length) (parseMethodDescriptor (yX8_loses).desc) = some 2 by decide +kernel⟩, leb rfl⟩
theorem sX8_loses : MOV MX8_loses := ⟨w_5_166, w_5_167⟩
def MX8_of : MI := (yX8_of, cX8_of, 3, (some .int), 2)
theorem kX8_of : MOK MX8_of 2 := ⟨w_5_164, w_1_9, ⟨show RX8 ≠ _ by decide +kernel, show RX8 ≠ _ by decide +kernel, show Option.map (fun d => d.parameters.length) (parseMethodDescriptor (yX8_of).desc) = some 2 by decide +kernel⟩, leb rfl⟩
theorem sX8_of : MOV MX8_of := ⟨w_5_162, w_5_163⟩
def MX8_read : MI := (yX8_read, cX8_read, 11, (some .int), 2)
theorem kX8_read : MOK MX8_read 4 := ⟨w_6_45, w_1_9, ⟨show RX8 ≠ _ by decide +kernel, show RX8 ≠ _ by decide +kernel, show Option.map (fun d => d.parameters.length) (parseMethodDescriptor (yX8_read).desc) = some 4 by decide +kernel⟩, leb rfl⟩
theorem sX8_read : MOV MX8_read := ⟨w_6_43, w_6_44⟩
def MX8_readNumber : MI := (yX8_readNumber, cX8_readNumber, 4, (some .int), 2)
theorem kX8_readNumber : MOK MX8_readNumber 2 := ⟨w_5_16, w_1_9, ⟨show RX8 ≠ _ by decide +kernel, show RX8 ≠ _ by decide +kernel, show Option.map (fun d => d.parameters.length) (parseMethodDescriptor (yX8_readNumber).desc) = some 2 by decide +kernel⟩, leb rfl⟩
theorem sX8_readNumber : MOV MX8_readNumber := ⟨w_5_15, wtm (tbp (List.mem_of_getElem? (i := 35) rfl)) rfl⟩
def MX8_see : MI := (yX8_see, cX8_see, 4, (some .int), 2)
theorem kX8_see : MOK MX8_see 2 := ⟨w_5_215, w_1_9, ⟨show RX8 ≠ _ by decide +kernel, show RX8 ≠ _ by decide +kernel, show Option.map (fun d => d.parameters.length) (parseMethodDescriptor (yX8_see).desc) = some 2 by decide +kernel⟩, leb rfl⟩
theorem sX8_see : MOV MX8_see := ⟨w_5_213, w_5_214⟩
def MX8_share : MI := (yX8_share, cX8_share, 4, (some .int), 2)
theorem kX8_share : MOK MX8_share 2 := ⟨w_5_140, w_1_9, ⟨show RX8 ≠ _ by decide +kernel, show RX8 ≠ _ by decide +kernel, show Option.map (fun d => d.parameters.length) (parseMethodDescriptor (yX8_share).desc) = some 2 by decide +kernel⟩, leb rfl⟩
theorem sX8_share : MOV MX8_share := ⟨w_5_138, w_5_139⟩
def MX8_sheet : MI := (yX8_sheet, cX8_sheet, 5, (some .int), 2)
theorem kX8_sheet : MOK MX8_sheet 3 := ⟨w_6_34, w_1_9, ⟨show RX8 ≠ _ by decide +kernel, show RX8 ≠ _ by decide +kernel, show Option.map (fun d => d.parameters.length) (parseMethodDescriptor (yX8_sheet).desc) = some 3 by decide +kernel⟩, leb rfl⟩
theorem sX8_sheet : MOV MX8_sheet := ⟨w_6_32, w_6_33⟩
def MX8_sum : MI := (yX8_sum, cX8_sum, 2, (some .long), 2)
theorem kX8_sum : MOK MX8_sum 1 := ⟨w_5_90, w_1_9, ⟨show RX8 ≠ _ by decide +kernel, show RX8 ≠ _ by decide +kernel, show Option.map (fun d => d.parameters.length) (parseMethodDescriptor (yX8_sum).desc) = some 1 by decide +kernel⟩, leb rfl⟩
theorem sX8_sum : MOV MX8_sum := ⟨w_5_88, w_5_89⟩
def MX8_told : MI := (yX8_told, cX8_told, 3, (some .long), 2)
theorem kX8_told : MOK MX8_told 2 := ⟨w_5_76, w_1_9, ⟨show RX8 ≠ _ by decide +kernel, show RX8 ≠ _ by decide +kernel, show Option.map (fun d => d.parameters.length) (parseMethodDescriptor (yX8_told).desc) = some 2 by decide +kernel⟩, leb rfl⟩
theorem sX8_told : MOV MX8_told := ⟨w_5_74, w_5_75⟩
def MX8_unlike : MI := (yX8_unlike, cX8_unlike, 6, (some .int), 2)
theorem kX8_unlike : MOK MX8_unlike 2 := ⟨w_5_185, w_1_9, ⟨show RX8 ≠ _ by decide +kernel, show RX8 ≠ _ by decide +kernel, show Option.map (fun d => d.parameters.length) (parseMethodDescriptor (yX8_unlike).desc) = some 2 by decide +kernel⟩, leb rfl⟩
theorem sX8_unlike : MOV MX8_unlike := ⟨w_5_183, w_5_184⟩
def MX8_wants : MI := (yX8_wants, cX8_wants, 4, (some .int), 2)
theorem kX8_wants : MOK MX8_wants 2 := ⟨w_5_197, w_1_9, ⟨show RX8 ≠ _ by decide +kernel, show RX8 ≠ _ by decide +kernel, show Option.map (fun d => d.parameters.length) (parseMethodDescriptor (yX8_wants).desc) = some 2 by decide +kernel⟩, leb rfl⟩
theorem sX8_wants : MOV MX8_wants := ⟨w_5_195, w_5_196⟩
def MX8_will : MI := (yX8_will, cX8_will, 5, (some .int), 2)
theorem kX8_will : MOK MX8_will 4 := ⟨w_5_156, w_1_9, ⟨show RX8 ≠ _ by decide +kernel, show RX8 ≠ _ by decide +kernel, show Option.map (fun d => d.parameters.length) (parseMethodDescriptor (yX8_will).desc) = some 4 by decide +kernel⟩, leb rfl⟩
theorem sX8_will : MOV MX8_will := ⟨w_5_154, w_5_155⟩
def MX8_wills : MI := (yX8_wills, cX8_wills, 3, (some .int), 2)
theorem kX8_wills : MOK MX8_wills 2 := ⟨w_5_144, w_1_9, ⟨show RX8 ≠ _ by decide +kernel, show RX8 ≠ _ by decide +kernel, show Option.map (fun d => d.parameters.length) (parseMethodDescriptor (yX8_wills).desc) = some 2 by decide +kernel⟩, leb rfl⟩
theorem sX8_wills : MOV MX8_wills := ⟨w_5_142, w_5_143⟩
def MX2_part : MI := (yX2_part, cX2_part, 3, none, 3)
theorem kX2_part : MOK MX2_part 2 := ⟨w_2_228, w_1_3, ⟨show RX2 ≠ _ by decide +kernel, show RX2 ≠ _ by decide +kernel, show Option.map (fun d => d.parameters.length) (parseMethodDescriptor (yX2_part).desc) = some 2 by decide +kernel⟩, leb rfl⟩
theorem sX2_part : MOV MX2_part := ⟨w_2_226, w_2_227⟩
def MX3_takeNumber : MI := (yX3_takeNumber, cX3_takeNumber, 1, none, 3)
theorem kX3_takeNumber : MOK MX3_takeNumber 0 := ⟨w_2_108, w_1_4, ⟨show RX3 ≠ _ by decide +kernel, show RX3 ≠ _ by decide +kernel, show Option.map (fun d => d.parameters.length) (parseMethodDescriptor (yX3_takeNumber).desc) = some 0 by decide +kernel⟩, leb rfl⟩
theorem sX3_takeNumber : MOV MX3_takeNumber := ⟨w_2_107, wtm (tbp (List.mem_of_getElem? (i := 5) rfl)) rfl⟩
def MX5_advance : MI := (yX5_advance, cX5_advance, 1, none, 3)
theorem kX5_advance : MOK MX5_advance 0 := ⟨w_2_77, w_1_5, ⟨show RX5 ≠ _ by decide +kernel, show RX5 ≠ _ by decide +kernel, show Option.map (fun d => d.parameters.length) (parseMethodDescriptor (yX5_advance).desc) = some 0 by decide +kernel⟩, leb rfl⟩
theorem sX5_advance : MOV MX5_advance := ⟨w_2_75, w_2_76⟩
def MX7_lend : MI := (yX7_lend, cX7_lend, 4, (some .int), 3)
theorem kX7_lend : MOK MX7_lend 1 := ⟨w_3_104, w_1_1, ⟨show RX7 ≠ _ by decide +kernel, show RX7 ≠ _ by decide +kernel, show Option.map (fun d => d.parameters.length) (parseMethodDescriptor (yX7_lend).desc) = some 1 by decide +kernel⟩, leb rfl⟩
theorem sX7_lend : MOV MX7_lend := ⟨w_3_102, w_3_103⟩
def MX7_sum : MI := (yX7_sum, cX7_sum, 2, (some .long), 3)
theorem kX7_sum : MOK MX7_sum 1 := ⟨w_3_68, w_1_1, ⟨show RX7 ≠ _ by decide +kernel, show RX7 ≠ _ by decide +kernel, show Option.map (fun d => d.parameters.length) (parseMethodDescriptor (yX7_sum).desc) = some 1 by decide +kernel⟩, leb rfl⟩
theorem sX7_sum : MOV MX7_sum := ⟨w_3_66, w_3_67⟩
def MX7_told : MI := (yX7_told, cX7_told, 3, (some .long), 3)
theorem kX7_told : MOK MX7_told 2 := ⟨w_3_54, w_1_1, ⟨show RX7 ≠ _ by decide +kernel, show RX7 ≠ _ by decide +kernel, show Option.map (fun d => d.parameters.length) (parseMethodDescriptor (yX7_told).desc) = some 2 by decide +kernel⟩, leb rfl⟩
theorem sX7_told : MOV MX7_told := ⟨w_3_52, w_3_53⟩
def MX8_ask : MI := (yX8_ask, cX8_ask, 7, (some .int), 3)
theorem kX8_ask : MOK MX8_ask 1 := ⟨w_6_12, w_1_9, ⟨show RX8 ≠ _ by decide +kernel, show RX8 ≠ _ by decide +kernel, show Option.map (fun d => d.parameters.length) (parseMethodDescriptor (yX8_ask).desc) = some 1 by decide +kernel⟩, leb rfl⟩
theorem sX8_ask : MOV MX8_ask := ⟨w_6_10, w_6_11⟩
def MX8_count : MI := (yX8_count, cX8_count, 2, (some .int), 3)
theorem kX8_count : MOK MX8_count 1 := ⟨w_6_55, w_1_9, ⟨show RX8 ≠ _ by decide +kernel, show RX8 ≠ _ by decide +kernel, show Option.map (fun d => d.parameters.length) (parseMethodDescriptor (yX8_count).desc) = some 1 by decide +kernel⟩, leb rfl⟩
theorem sX8_count : MOV MX8_count := ⟨w_6_53, w_6_54⟩
def MX8_gains : MI := (yX8_gains, cX8_gains, 8, (some .int), 3)
theorem kX8_gains : MOK MX8_gains 2 := ⟨w_5_193, w_1_9, ⟨show RX8 ≠ _ by decide +kernel, show RX8 ≠ _ by decide +kernel, show Option.map (fun d => d.parameters.length) (parseMethodDescriptor (yX8_gains).desc) = some 2 by decide +kernel⟩, leb rfl⟩
theorem sX8_gains : MOV MX8_gains := ⟨w_5_191, w_5_192⟩
def MX8_heir : MI := (yX8_heir, cX8_heir, 3, (some .int), 3)
theorem kX8_heir : MOK MX8_heir 2 := ⟨w_5_60, w_1_9, ⟨show RX8 ≠ _ by decide +kernel, show RX8 ≠ _ by decide +kernel, show Option.map (fun d => d.parameters.length) (parseMethodDescriptor (yX8_heir).desc) = some 2 by decide +kernel⟩, leb rfl⟩
theorem sX8_heir : MOV MX8_heir := ⟨w_5_58, w_5_59⟩
def MX8_herds : MI := (yX8_herds, cX8_herds, 6, (some .int), 3)
theorem kX8_herds : MOK MX8_herds 1 := ⟨w_5_231, w_1_9, ⟨show RX8 ≠ _ by decide +kernel, show RX8 ≠ _ by decide +kernel, show Option.map (fun d => d.parameters.length) (parseMethodDescriptor (yX8_herds).desc) = some 1 by decide +kernel⟩, leb rfl⟩
theorem sX8_herds : MOV MX8_herds := ⟨w_5_229, w_5_230⟩
def MX8_isDownSo : MI := (yX8_isDownSo, cX8_isDownSo, 3, (some .boolean), 3)
theorem kX8_isDownSo : MOK MX8_isDownSo 2 := ⟨w_6_8, w_1_9, ⟨show RX8 ≠ _ by decide +kernel, show RX8 ≠ _ by decide +kernel, show Option.map (fun d => d.parameters.length) (parseMethodDescriptor (yX8_isDownSo).desc) = some 2 by decide +kernel⟩, leb rfl⟩
theorem sX8_isDownSo : MOV MX8_isDownSo := ⟨w_6_7, wtm (tbp (List.mem_of_getElem? (i := 56) rfl)) rfl⟩
def MX8_luck : MI := (yX8_luck, cX8_luck, 5, (some .long), 3)
theorem kX8_luck : MOK MX8_luck 4 := ⟨w_5_211, w_1_9, ⟨show RX8 ≠ _ by decide +kernel, show RX8 ≠ _ by decide +kernel, show Option.map (fun d => d.parameters.length) (parseMethodDescriptor (yX8_luck).desc) = some 4 by decide +kernel⟩, leb rfl⟩
theorem sX8_luck : MOV MX8_luck := ⟨w_5_209, w_5_210⟩
def MX8_mean : MI := (yX8_mean, cX8_mean, 4, (some .long), 3)
theorem kX8_mean : MOK MX8_mean 3 := ⟨w_5_201, w_1_9, ⟨show RX8 ≠ _ by decide +kernel, show RX8 ≠ _ by decide +kernel, show Option.map (fun d => d.parameters.length) (parseMethodDescriptor (yX8_mean).desc) = some 3 by decide +kernel⟩, leb rfl⟩
theorem sX8_mean : MOV MX8_mean := ⟨w_5_199, w_5_200⟩
def MX8_over : MI := (yX8_over, cX8_over, 5, (some .long), 3)
theorem kX8_over : MOK MX8_over 2 := ⟨w_5_94, w_1_9, ⟨show RX8 ≠ _ by decide +kernel, show RX8 ≠ _ by decide +kernel, show Option.map (fun d => d.parameters.length) (parseMethodDescriptor (yX8_over).desc) = some 2 by decide +kernel⟩, leb rfl⟩
theorem sX8_over : MOV MX8_over := ⟨w_5_92, w_5_93⟩
def MX8_readLineOf : MI := (yX8_readLineOf, cX8_readLineOf, 2, none, 3)
theorem kX8_readLineOf : MOK MX8_readLineOf 1 := ⟨w_5_12, w_1_9, ⟨show RX8 ≠ _ by decide +kernel, show RX8 ≠ _ by decide +kernel, show Option.map (fun d => d.parameters.length) (parseMethodDescriptor (yX8_readLineOf).desc) = some 1 by decide +kernel⟩, leb rfl⟩
theorem sX8_readLineOf : MOV MX8_readLineOf := ⟨w_5_11, wtm (tbp (List.mem_of_getElem? (i := 34) rfl)) rfl⟩
def MX8_rule : MI := (yX8_rule, cX8_rule, 2, (some .int), 3)
theorem kX8_rule : MOK MX8_rule 1 := ⟨w_5_24, w_1_9, ⟨show RX8 ≠ _ by decide +kernel, show RX8 ≠ _ by decide +kernel, show Option.map (fun d => d.parameters.length) (parseMethodDescriptor (yX8_rule).desc) = some 1 by decide +kernel⟩, leb rfl⟩
theorem sX8_rule : MOV MX8_rule := ⟨w_5_22, w_5_23⟩
def MX2_grow : MI := (yX2_grow, cX2_grow, 2, none, 4)
theorem kX2_grow : MOK MX2_grow 0 := ⟨w_3_160, w_1_3, ⟨show RX2 ≠ _ by decide +kernel, show RX2 ≠ _ by decide +kernel, show Option.map (fun d => d.parameters.length) (parseMethodDescriptor (yX2_grow).desc) = some 0 by decide +kernel⟩, leb rfl⟩
theorem sX2_grow : MOV MX2_grow := ⟨w_3_158, w_3_159⟩
def MX7_best : MI := (yX7_best, cX7_best, 5, (some .int), 4)
theorem kX7_best : MOK MX7_best 1 := ⟨w_3_187, w_1_1, ⟨show RX7 ≠ _ by decide +kernel, show RX7 ≠ _ by decide +kernel, show Option.map (fun d => d.parameters.length) (parseMethodDescriptor (yX7_best).desc) = some 1 by decide +kernel⟩, leb rfl⟩
theorem sX7_best : MOV MX7_best := ⟨w_3_185, w_3_186⟩
def MX7_by : MI := (yX7_by, cX7_by, 3, (some .int), 4)
theorem kX7_by : MOK MX7_by 2 := ⟨w_3_148, w_1_1, ⟨show RX7 ≠ _ by decide +kernel, show RX7 ≠ _ by decide +kernel, show Option.map (fun d => d.parameters.length) (parseMethodDescriptor (yX7_by).desc) = some 2 by decide +kernel⟩, leb rfl⟩
theorem sX7_by : MOV MX7_by := ⟨w_3_146, w_3_147⟩
def MX7_downs : MI := (yX7_downs, cX7_downs, 4, (some .int), 4)
theorem kX7_downs : MOK MX7_downs 2 := ⟨w_4_18, w_1_1, ⟨show RX7 ≠ _ by decide +kernel, show RX7 ≠ _ by decide +kernel, show Option.map (fun d => d.parameters.length) (parseMethodDescriptor (yX7_downs).desc) = some 2 by decide +kernel⟩, leb rfl⟩
theorem sX7_downs : MOV MX7_downs := ⟨w_4_16, w_4_17⟩
def MX7_drift : MI := (yX7_drift, cX7_drift, 7, (some .int), 4)
theorem kX7_drift : MOK MX7_drift 3 := ⟨w_4_33, w_1_1, ⟨show RX7 ≠ _ by decide +kernel, show RX7 ≠ _ by decide +kernel, show Option.map (fun d => d.parameters.length) (parseMethodDescriptor (yX7_drift).desc) = some 3 by decide +kernel⟩, leb rfl⟩
theorem sX7_drift : MOV MX7_drift := ⟨w_4_31, w_4_32⟩
def MX7_getsWithout : MI := (yX7_getsWithout, cX7_getsWithout, 3, (some .int), 4)
theorem kX7_getsWithout : MOK MX7_getsWithout 2 := ⟨w_3_195, w_1_1, ⟨show RX7 ≠ _ by decide +kernel, show RX7 ≠ _ by decide +kernel, show Option.map (fun d => d.parameters.length) (parseMethodDescriptor (yX7_getsWithout).desc) = some 2 by decide +kernel⟩, leb rfl⟩
theorem sX7_getsWithout : MOV MX7_getsWithout := ⟨w_3_194, wtm (tbp (List.mem_of_getElem? (i := 23) rfl)) rfl⟩
def MX7_judges : MI := (yX7_judges, cX7_judges, 3, (some .int), 4)
theorem kX7_judges : MOK MX7_judges 0 := ⟨w_3_230, w_1_1, ⟨show RX7 ≠ _ by decide +kernel, show RX7 ≠ _ by decide +kernel, show Option.map (fun d => d.parameters.length) (parseMethodDescriptor (yX7_judges).desc) = some 0 by decide +kernel⟩, leb rfl⟩
theorem sX7_judges : MOV MX7_judges := ⟨w_3_228, w_3_229⟩
def MX7_partOf : MI := (yX7_partOf, cX7_partOf, 2, (some (.object "CamelParts$Parting")), 4)
theorem kX7_partOf : MOK MX7_partOf 1 := ⟨w_2_224, w_1_1, ⟨show RX7 ≠ _ by decide +kernel, show RX7 ≠ _ by decide +kernel, show Option.map (fun d => d.parameters.length) (parseMethodDescriptor (yX7_partOf).desc) = some 1 by decide +kernel⟩, leb rfl⟩
theorem sX7_partOf : MOV MX7_partOf := ⟨w_2_223, wtm (tbp (List.mem_of_getElem? (i := 11) rfl)) rfl⟩
def MX8_downs : MI := (yX8_downs, cX8_downs, 7, (some .int), 4)
theorem kX8_downs : MOK MX8_downs 2 := ⟨w_6_4, w_1_9, ⟨show RX8 ≠ _ by decide +kernel, show RX8 ≠ _ by decide +kernel, show Option.map (fun d => d.parameters.length) (parseMethodDescriptor (yX8_downs).desc) = some 2 by decide +kernel⟩, leb rfl⟩
theorem sX8_downs : MOV MX8_downs := ⟨w_6_2, w_6_3⟩
def MX8_readLine : MI := (yX8_readLine, cX8_readLine, 2, none, 4)
theorem kX8_readLine : MOK MX8_readLine 0 := ⟨w_5_0, w_1_9, ⟨show RX8 ≠ _ by decide +kernel, show RX8 ≠ _ by decide +kernel, show Option.map (fun d => d.parameters.length) (parseMethodDescriptor (yX8_readLine).desc) = some 0 by decide +kernel⟩, leb rfl⟩
theorem sX8_readLine : MOV MX8_readLine := ⟨w_4_239, wtm (tbp (List.mem_of_getElem? (i := 31) rfl)) rfl⟩
def MX7_findHerds : MI := (yX7_findHerds, cX7_findHerds, 2, none, 5)
theorem kX7_findHerds : MOK MX7_findHerds 0 := ⟨w_4_2, w_1_1, ⟨show RX7 ≠ _ by decide +kernel, show RX7 ≠ _ by decide +kernel, show Option.map (fun d => d.parameters.length) (parseMethodDescriptor (yX7_findHerds).desc) = some 0 by decide +kernel⟩, leb rfl⟩
theorem sX7_findHerds : MOV MX7_findHerds := ⟨w_4_1, wtm (tbp (List.mem_of_getElem? (i := 24) rfl)) rfl⟩
def MX7_keeps : MI := (yX7_keeps, cX7_keeps, 5, (some .int), 5)
theorem kX7_keeps : MOK MX7_keeps 2 := ⟨w_3_169, w_1_1, ⟨show RX7 ≠ _ by decide +kernel, show RX7 ≠ _ by decide +kernel, show Option.map (fun d => d.parameters.length) (parseMethodDescriptor (yX7_keeps).desc) = some 2 by decide +kernel⟩, leb rfl⟩
theorem sX7_keeps : MOV MX7_keeps := ⟨w_3_167, w_3_168⟩
def MX7_leftAtWorst : MI := (yX7_leftAtWorst, cX7_leftAtWorst, 5, (some .int), 5)
theorem kX7_leftAtWorst : MOK MX7_leftAtWorst 1 := ⟨w_4_26, w_1_1, ⟨show RX7 ≠ _ by decide +kernel, show RX7 ≠ _ by decide +kernel, show Option.map (fun d => d.parameters.length) (parseMethodDescriptor (yX7_leftAtWorst).desc) = some 1 by decide +kernel⟩, leb rfl⟩
theorem sX7_leftAtWorst : MOV MX7_leftAtWorst := ⟨w_4_25, wtm (tbp (List.mem_of_getElem? (i := 25) rfl)) rfl⟩
def MX7_loses : MI := (yX7_loses, cX7_loses, 5, (some .int), 5)
theorem kX7_loses : MOK MX7_loses 2 := ⟨w_3_156, w_1_1, ⟨show RX7 ≠ _ by decide +kernel, show RX7 ≠ _ by decide +kernel, show Option.map (fun d => d.parameters.length) (parseMethodDescriptor (yX7_loses).desc) = some 2 by decide +kernel⟩, leb rfl⟩
theorem sX7_loses : MOV MX7_loses := ⟨w_3_154, w_3_155⟩
def MX7_luck : MI := (yX7_luck, cX7_luck, 8, (some .long), 5)
theorem kX7_luck : MOK MX7_luck 4 := ⟨w_3_214, w_1_1, ⟨show RX7 ≠ _ by decide +kernel, show RX7 ≠ _ by decide +kernel, show Option.map (fun d => d.parameters.length) (parseMethodDescriptor (yX7_luck).desc) = some 4 by decide +kernel⟩, leb rfl⟩
theorem sX7_luck : MOV MX7_luck := ⟨w_3_212, w_3_213⟩
def MX7_mean : MI := (yX7_mean, cX7_mean, 7, (some .long), 5)
theorem kX7_mean : MOK MX7_mean 3 := ⟨w_3_203, w_1_1, ⟨show RX7 ≠ _ by decide +kernel, show RX7 ≠ _ by decide +kernel, show Option.map (fun d => d.parameters.length) (parseMethodDescriptor (yX7_mean).desc) = some 3 by decide +kernel⟩, leb rfl⟩
theorem sX7_mean : MOV MX7_mean := ⟨w_3_201, w_3_202⟩
def MX7_of : MI := (yX7_of, cX7_of, 3, (some .int), 5)
theorem kX7_of : MOK MX7_of 2 := ⟨w_3_152, w_1_1, ⟨show RX7 ≠ _ by decide +kernel, show RX7 ≠ _ by decide +kernel, show Option.map (fun d => d.parameters.length) (parseMethodDescriptor (yX7_of).desc) = some 2 by decide +kernel⟩, leb rfl⟩
theorem sX7_of : MOV MX7_of := ⟨w_3_150, w_3_151⟩
def MX7_partNow : MI := (yX7_partNow, cX7_partNow, 1, (some (.object "CamelParts$Parting")), 5)
theorem kX7_partNow : MOK MX7_partNow 0 := ⟨w_2_220, w_1_1, ⟨show RX7 ≠ _ by decide +kernel, show RX7 ≠ _ by decide +kernel, show Option.map (fun d => d.parameters.length) (parseMethodDescriptor (yX7_partNow).desc) = some 0 by decide +kernel⟩, leb rfl⟩
theorem sX7_partNow : MOV MX7_partNow := ⟨w_2_219, wtm (tbp (List.mem_of_getElem? (i := 10) rfl)) rfl⟩
def MX7_unlike : MI := (yX7_unlike, cX7_unlike, 4, (some .int), 5)
theorem kX7_unlike : MOK MX7_unlike 2 := ⟨w_3_178, w_1_1, ⟨show RX7 ≠ _ by decide +kernel, show RX7 ≠ _ by decide +kernel, show Option.map (fun d => d.parameters.length) (parseMethodDescriptor (yX7_unlike).desc) = some 2 by decide +kernel⟩, leb rfl⟩
theorem sX7_unlike : MOV MX7_unlike := ⟨w_3_176, w_3_177⟩
def MX7_wants : MI := (yX7_wants, cX7_wants, 4, (some .int), 5)
theorem kX7_wants : MOK MX7_wants 2 := ⟨w_3_199, w_1_1, ⟨show RX7 ≠ _ by decide +kernel, show RX7 ≠ _ by decide +kernel, show Option.map (fun d => d.parameters.length) (parseMethodDescriptor (yX7_wants).desc) = some 2 by decide +kernel⟩, leb rfl⟩
theorem sX7_wants : MOV MX7_wants := ⟨w_3_197, w_3_198⟩
def MX8_text : MI := (yX8_text, cX8_text, 2, (some .int), 5)
theorem kX8_text : MOK MX8_text 0 := ⟨w_4_220, w_1_9, ⟨show RX8 ≠ _ by decide +kernel, show RX8 ≠ _ by decide +kernel, show Option.map (fun d => d.parameters.length) (parseMethodDescriptor (yX8_text).desc) = some 0 by decide +kernel⟩, leb rfl⟩
theorem sX8_text : MOV MX8_text := ⟨w_4_218, w_4_219⟩
def MX6_choose (kr : Nat) : MI := (yX6_choose, cX6_choose, 6, none, kr)
theorem kX6_choose {kr : Nat} : MOK (MX6_choose kr) 4 := ⟨w_3_135, w_1_6, ⟨show RX6 ≠ _ by decide +kernel, show RX6 ≠ _ by decide +kernel, show Option.map (fun d => d.parameters.length) (parseMethodDescriptor (yX6_choose).desc) = some 4 by decide +kernel⟩, leb rfl⟩
theorem sX6_choose {kr : Nat} : Cond.static (mY (MX6_choose kr)) ∈ WT := w_3_134
def MX7_ask : MI := (yX7_ask, cX7_ask, 6, (some .int), 6)
theorem kX7_ask : MOK MX7_ask 1 := ⟨w_4_22, w_1_1, ⟨show RX7 ≠ _ by decide +kernel, show RX7 ≠ _ by decide +kernel, show Option.map (fun d => d.parameters.length) (parseMethodDescriptor (yX7_ask).desc) = some 1 by decide +kernel⟩, leb rfl⟩
theorem sX7_ask : MOV MX7_ask := ⟨w_4_20, w_4_21⟩
def MX7_count : MI := (yX7_count, cX7_count, 2, (some .int), 6)
theorem kX7_count : MOK MX7_count 1 := ⟨w_4_90, w_1_1, ⟨show RX7 ≠ _ by decide +kernel, show RX7 ≠ _ by decide +kernel, show Option.map (fun d => d.parameters.length) (parseMethodDescriptor (yX7_count).desc) = some 1 by decide +kernel⟩, leb rfl⟩
theorem sX7_count : MOV MX7_count := ⟨w_4_88, w_4_89⟩
def MX7_gains : MI := (yX7_gains, cX7_gains, 8, (some .int), 6)
theorem kX7_gains : MOK MX7_gains 2 := ⟨w_3_191, w_1_1, ⟨show RX7 ≠ _ by decide +kernel, show RX7 ≠ _ by decide +kernel, show Option.map (fun d => d.parameters.length) (parseMethodDescriptor (yX7_gains).desc) = some 2 by decide +kernel⟩, leb rfl⟩
theorem sX7_gains : MOV MX7_gains := ⟨w_3_189, w_3_190⟩
def MX7_heir : MI := (yX7_heir, cX7_heir, 3, (some .int), 6)
theorem kX7_heir : MOK MX7_heir 2 := ⟨w_3_35, w_1_1, ⟨show RX7 ≠ _ by decide +kernel, show RX7 ≠ _ by decide +kernel, show Option.map (fun d => d.parameters.length) (parseMethodDescriptor (yX7_heir).desc) = some 2 by decide +kernel⟩, leb rfl⟩
theorem sX7_heir : MOV MX7_heir := ⟨w_3_33, w_3_34⟩
def MX7_herds : MI := (yX7_herds, cX7_herds, 2, (some .int), 6)
theorem kX7_herds : MOK MX7_herds 1 := ⟨w_3_238, w_1_1, ⟨show RX7 ≠ _ by decide +kernel, show RX7 ≠ _ by decide +kernel, show Option.map (fun d => d.parameters.length) (parseMethodDescriptor (yX7_herds).desc) = some 1 by decide +kernel⟩, leb rfl⟩
theorem sX7_herds : MOV MX7_herds := ⟨w_3_236, w_3_237⟩
def MX7_over : MI := (yX7_over, cX7_over, 5, (some .long), 6)
theorem kX7_over : MOK MX7_over 2 := ⟨w_3_72, w_1_1, ⟨show RX7 ≠ _ by decide +kernel, show RX7 ≠ _ by decide +kernel, show Option.map (fun d => d.parameters.length) (parseMethodDescriptor (yX7_over).desc) = some 2 by decide +kernel⟩, leb rfl⟩
theorem sX7_over : MOV MX7_over := ⟨w_3_70, w_3_71⟩
def MX7_rule : MI := (yX7_rule, cX7_rule, 2, (some .int), 6)
theorem kX7_rule : MOK MX7_rule 1 := ⟨w_2_206, w_1_1, ⟨show RX7 ≠ _ by decide +kernel, show RX7 ≠ _ by decide +kernel, show Option.map (fun d => d.parameters.length) (parseMethodDescriptor (yX7_rule).desc) = some 1 by decide +kernel⟩, leb rfl⟩
theorem sX7_rule : MOV MX7_rule := ⟨w_2_204, w_2_205⟩
def MX6_run : MI := (yX6_run, cX6_run, 5, none, 7)
theorem kX6_run : MOK MX6_run 4 := ⟨w_3_124, w_1_6, ⟨show RX6 ≠ _ by decide +kernel, show RX6 ≠ _ by decide +kernel, show Option.map (fun d => d.parameters.length) (parseMethodDescriptor (yX6_run).desc) = some 4 by decide +kernel⟩, leb rfl⟩
theorem sX6_run : MOV MX6_run := ⟨w_3_122, w_3_123⟩
def MX5_isName : MI := (yX5_isName, cX5_isName, 3, (some .boolean), 8)
theorem kX5_isName : MOK MX5_isName 1 := ⟨w_2_134, w_1_5, ⟨show RX5 ≠ _ by decide +kernel, show RX5 ≠ _ by decide +kernel, show Option.map (fun d => d.parameters.length) (parseMethodDescriptor (yX5_isName).desc) = some 1 by decide +kernel⟩, leb rfl⟩
theorem sX5_isName : MOV MX5_isName := ⟨w_2_132, w_2_133⟩
def MX7_will : MI := (yX7_will, cX7_will, 5, (some .int), 8)
theorem kX7_will : MOK MX7_will 4 := ⟨w_3_144, w_1_1, ⟨show RX7 ≠ _ by decide +kernel, show RX7 ≠ _ by decide +kernel, show Option.map (fun d => d.parameters.length) (parseMethodDescriptor (yX7_will).desc) = some 4 by decide +kernel⟩, leb rfl⟩
theorem sX7_will : MOV MX7_will := ⟨w_3_142, w_3_143⟩
def MX7_wills : MI := (yX7_wills, cX7_wills, 3, (some .int), 8)
theorem kX7_wills : MOK MX7_wills 2 := ⟨w_3_120, w_1_1, ⟨show RX7 ≠ _ by decide +kernel, show RX7 ≠ _ by decide +kernel, show Option.map (fun d => d.parameters.length) (parseMethodDescriptor (yX7_wills).desc) = some 2 by decide +kernel⟩, leb rfl⟩
theorem sX7_wills : MOV MX7_wills := ⟨w_3_118, w_3_119⟩
def MX3_wordOfLine : MI := (yX3_wordOfLine, cX3_wordOfLine, 1, (some .int), 9)
theorem kX3_wordOfLine : MOK MX3_wordOfLine 0 := ⟨w_2_129, w_1_4, ⟨show RX3 ≠ _ by decide +kernel, show RX3 ≠ _ by decide +kernel, show Option.map (fun d => d.parameters.length) (parseMethodDescriptor (yX3_wordOfLine).desc) = some 0 by decide +kernel⟩, leb rfl⟩
theorem sX3_wordOfLine : MOV MX3_wordOfLine := ⟨w_2_128, wtm (tbp (List.mem_of_getElem? (i := 8) rfl)) rfl⟩
def MX3_takeWord : MI := (yX3_takeWord, cX3_takeWord, 2, none, 10)
theorem kX3_takeWord : MOK MX3_takeWord 0 := ⟨w_2_125, w_1_4, ⟨show RX3 ≠ _ by decide +kernel, show RX3 ≠ _ by decide +kernel, show Option.map (fun d => d.parameters.length) (parseMethodDescriptor (yX3_takeWord).desc) = some 0 by decide +kernel⟩, leb rfl⟩
theorem sX3_takeWord : MOV MX3_takeWord := ⟨w_2_124, wtm (tbp (List.mem_of_getElem? (i := 7) rfl)) rfl⟩
def MX3_takeToken : MI := (yX3_takeToken, cX3_takeToken, 1, none, 11)
theorem kX3_takeToken : MOK MX3_takeToken 0 := ⟨w_2_96, w_1_4, ⟨show RX3 ≠ _ by decide +kernel, show RX3 ≠ _ by decide +kernel, show Option.map (fun d => d.parameters.length) (parseMethodDescriptor (yX3_takeToken).desc) = some 0 by decide +kernel⟩, leb rfl⟩
theorem sX3_takeToken : MOV MX3_takeToken := ⟨w_2_95, wtm (tbp (List.mem_of_getElem? (i := 2) rfl)) rfl⟩
def MX3_parse : MI := (yX3_parse, cX3_parse, 2, none, 12)
theorem kX3_parse : MOK MX3_parse 0 := ⟨w_2_65, w_1_4, ⟨show RX3 ≠ _ by decide +kernel, show RX3 ≠ _ by decide +kernel, show Option.map (fun d => d.parameters.length) (parseMethodDescriptor (yX3_parse).desc) = some 0 by decide +kernel⟩, leb rfl⟩
theorem sX3_parse : MOV MX3_parse := ⟨w_2_63, w_2_64⟩
def MX7_text : MI := (yX7_text, cX7_text, 2, (some .int), 13)
theorem kX7_text : MOK MX7_text 0 := ⟨w_2_61, w_1_1, ⟨show RX7 ≠ _ by decide +kernel, show RX7 ≠ _ by decide +kernel, show Option.map (fun d => d.parameters.length) (parseMethodDescriptor (yX7_text).desc) = some 0 by decide +kernel⟩, leb rfl⟩
theorem sX7_text : MOV MX7_text := ⟨w_2_59, w_2_60⟩
