def MX0_init : MI := (yX0_init, cX0_init, 1, none, 1)
def MX1_init : MI := (yX1_init, cX1_init, 1, none, 1)
def MX2_init : MI := (yX2_init, cX2_init, 1, none, 1)
def MX4_init : MI := (yX4_init, cX4_init, 1, none, 1)
def MX5_init : MI := (yX5_init, cX5_init, 1, none, 1)
def MX6_init : MI := (yX6_init, cX6_init, 1, none, 1)
def MX3_init : MI := (yX3_init, cX3_init, 1, none, 2)
theorem wn_1_29 : Cond.methodLink RX0 3 Lib.objectInit ∈ WT := wtm (tb1 (List.mem_of_getElem? (i := 29) rfl)) rfl
theorem wn_1_30 : Cond.fieldLink RX0 9 "CamelParts$Estate" "camels" "I" ∈ WT := wtm (tb1 (List.mem_of_getElem? (i := 30) rfl)) rfl
theorem fqX0_9 : FP RX0 9 0 0 (tyX0 0) := ⟨_, _, _, tyX0, rfl, by decide, inX0, wn_1_30, tyX0_ok, nmX0, rfl, rfl⟩
theorem wn_1_33 : Cond.fieldLink RX0 15 "CamelParts$Estate" "kind" "I" ∈ WT := wtm (tb1 (List.mem_of_getElem? (i := 33) rfl)) rfl
theorem fqX0_15 : FP RX0 15 0 1 (tyX0 1) := ⟨_, _, _, tyX0, rfl, by decide, inX0, wn_1_33, tyX0_ok, nmX0, rfl, rfl⟩
theorem wn_1_36 : Cond.fieldLink RX0 18 "CamelParts$Estate" "heirs" "I" ∈ WT := wtm (tb1 (List.mem_of_getElem? (i := 36) rfl)) rfl
theorem fqX0_18 : FP RX0 18 0 2 (tyX0 2) := ⟨_, _, _, tyX0, rfl, by decide, inX0, wn_1_36, tyX0_ok, nmX0, rfl, rfl⟩
theorem wn_1_40 : Cond.fieldLink RX0 21 "CamelParts$Estate" "seen" "I" ∈ WT := wtm (tb1 (List.mem_of_getElem? (i := 40) rfl)) rfl
theorem fqX0_21 : FP RX0 21 0 3 (tyX0 3) := ⟨_, _, _, tyX0, rfl, by decide, inX0, wn_1_40, tyX0_ok, nmX0, rfl, rfl⟩
theorem wn_1_70 : Cond.arrayClass (tyN 0) ∈ WT := wtm (tb1 (List.mem_of_getElem? (i := 70) rfl)) rfl
theorem wn_1_43 : Cond.fieldLink RX0 24 "CamelParts$Estate" "ups" "[I" ∈ WT := wtm (tb1 (List.mem_of_getElem? (i := 43) rfl)) rfl
theorem ffX0_24 : FF RX0 24 0 4 (tyX0 4) := ⟨_, _, _, tyX0, rfl, by decide, inX0, wn_1_43, tyX0_ok, nmX0, rfl, rfl, rfl⟩
theorem wn_1_46 : Cond.fieldLink RX0 28 "CamelParts$Estate" "downs" "[I" ∈ WT := wtm (tb1 (List.mem_of_getElem? (i := 46) rfl)) rfl
theorem ffX0_28 : FF RX0 28 0 5 (tyX0 5) := ⟨_, _, _, tyX0, rfl, by decide, inX0, wn_1_46, tyX0_ok, nmX0, rfl, rfl, rfl⟩
theorem wn_1_49 : Cond.fieldLink RX0 31 "CamelParts$Estate" "seenHeirs" "[I" ∈ WT := wtm (tb1 (List.mem_of_getElem? (i := 49) rfl)) rfl
theorem ffX0_31 : FF RX0 31 0 6 (tyX0 6) := ⟨_, _, _, tyX0, rfl, by decide, inX0, wn_1_49, tyX0_ok, nmX0, rfl, rfl, rfl⟩
theorem wn_1_51 : Cond.fieldLink RX0 34 "CamelParts$Estate" "seenCamels" "[I" ∈ WT := wtm (tb1 (List.mem_of_getElem? (i := 51) rfl)) rfl
theorem ffX0_34 : FF RX0 34 0 7 (tyX0 7) := ⟨_, _, _, tyX0, rfl, by decide, inX0, wn_1_51, tyX0_ok, nmX0, rfl, rfl, rfl⟩
theorem wn_1_216 : Cond.methodLink RX1 3 Lib.objectInit ∈ WT := wtm (tb1 (List.mem_of_getElem? (i := 216) rfl)) rfl
theorem wn_1_217 : Cond.fieldLink RX1 9 "CamelParts$Finds" "number" "I" ∈ WT := wtm (tb1 (List.mem_of_getElem? (i := 217) rfl)) rfl
theorem fqX1_9 : FP RX1 9 1 0 (tyX1 0) := ⟨_, _, _, tyX1, rfl, by decide, inX1, wn_1_217, tyX1_ok, nmX1, rfl, rfl⟩
theorem wn_1_219 : Cond.fieldLink RX1 15 "CamelParts$Finds" "least" "I" ∈ WT := wtm (tb1 (List.mem_of_getElem? (i := 219) rfl)) rfl
theorem fqX1_15 : FP RX1 15 1 1 (tyX1 1) := ⟨_, _, _, tyX1, rfl, by decide, inX1, wn_1_219, tyX1_ok, nmX1, rfl, rfl⟩
theorem wn_1_220 : Cond.fieldLink RX1 18 "CamelParts$Finds" "greatest" "I" ∈ WT := wtm (tb1 (List.mem_of_getElem? (i := 220) rfl)) rfl
theorem fqX1_18 : FP RX1 18 1 2 (tyX1 2) := ⟨_, _, _, tyX1, rfl, by decide, inX1, wn_1_220, tyX1_ok, nmX1, rfl, rfl⟩
theorem wn_1_77 : Cond.methodLink RX2 3 Lib.objectInit ∈ WT := wtm (tb1 (List.mem_of_getElem? (i := 77) rfl)) rfl
theorem wn_1_78 : Cond.fieldLink RX2 9 "CamelParts$Parting" "common" "J" ∈ WT := wtm (tb1 (List.mem_of_getElem? (i := 78) rfl)) rfl
theorem fqX2_9 : FP RX2 9 2 0 (tyX2 0) := ⟨_, _, _, tyX2, rfl, by decide, inX2, wn_1_78, tyX2_ok, nmX2, rfl, rfl⟩
theorem wn_1_80 : Cond.fieldLink RX2 15 "CamelParts$Parting" "all" "J" ∈ WT := wtm (tb1 (List.mem_of_getElem? (i := 80) rfl)) rfl
theorem fqX2_15 : FP RX2 15 2 1 (tyX2 1) := ⟨_, _, _, tyX2, rfl, by decide, inX2, wn_1_80, tyX2_ok, nmX2, rfl, rfl⟩
theorem wn_1_109 : Cond.arrayClass (tyN 1) ∈ WT := wtm (tb1 (List.mem_of_getElem? (i := 109) rfl)) rfl
theorem wn_1_82 : Cond.fieldLink RX2 18 "CamelParts$Parting" "weights" "[J" ∈ WT := wtm (tb1 (List.mem_of_getElem? (i := 82) rfl)) rfl
theorem ffX2_18 : FF RX2 18 2 2 (tyX2 2) := ⟨_, _, _, tyX2, rfl, by decide, inX2, wn_1_82, tyX2_ok, nmX2, rfl, rfl, rfl⟩
theorem wn_1_83 : Cond.fieldLink RX2 22 "CamelParts$Parting" "rests" "[J" ∈ WT := wtm (tb1 (List.mem_of_getElem? (i := 83) rfl)) rfl
theorem ffX2_22 : FF RX2 22 2 3 (tyX2 3) := ⟨_, _, _, tyX2, rfl, by decide, inX2, wn_1_83, tyX2_ok, nmX2, rfl, rfl, rfl⟩
theorem wn_1_84 : Cond.fieldLink RX2 25 "CamelParts$Parting" "gets" "[I" ∈ WT := wtm (tb1 (List.mem_of_getElem? (i := 84) rfl)) rfl
theorem ffX2_25 : FF RX2 25 2 4 (tyX2 4) := ⟨_, _, _, tyX2, rfl, by decide, inX2, wn_1_84, tyX2_ok, nmX2, rfl, rfl, rfl⟩
theorem wn_1_85 : Cond.fieldLink RX2 29 "CamelParts$Parting" "gotBefore" "[I" ∈ WT := wtm (tb1 (List.mem_of_getElem? (i := 85) rfl)) rfl
theorem ffX2_29 : FF RX2 29 2 5 (tyX2 5) := ⟨_, _, _, tyX2, rfl, by decide, inX2, wn_1_85, tyX2_ok, nmX2, rfl, rfl, rfl⟩
theorem wn_1_86 : Cond.fieldLink RX2 32 "CamelParts$Parting" "heirs" "I" ∈ WT := wtm (tb1 (List.mem_of_getElem? (i := 86) rfl)) rfl
theorem fqX2_32 : FP RX2 32 2 6 (tyX2 6) := ⟨_, _, _, tyX2, rfl, by decide, inX2, wn_1_86, tyX2_ok, nmX2, rfl, rfl⟩
theorem wn_1_87 : Cond.fieldLink RX2 36 "CamelParts$Parting" "kind" "I" ∈ WT := wtm (tb1 (List.mem_of_getElem? (i := 87) rfl)) rfl
theorem fqX2_36 : FP RX2 36 2 7 (tyX2 7) := ⟨_, _, _, tyX2, rfl, by decide, inX2, wn_1_87, tyX2_ok, nmX2, rfl, rfl⟩
theorem wn_1_88 : Cond.fieldLink RX2 39 "CamelParts$Parting" "camels" "I" ∈ WT := wtm (tb1 (List.mem_of_getElem? (i := 88) rfl)) rfl
theorem fqX2_39 : FP RX2 39 2 8 (tyX2 8) := ⟨_, _, _, tyX2, rfl, by decide, inX2, wn_1_88, tyX2_ok, nmX2, rfl, rfl⟩
theorem wn_1_234 : Cond.methodLink RX4 3 Lib.objectInit ∈ WT := wtm (tb1 (List.mem_of_getElem? (i := 234) rfl)) rfl
theorem wn_1_235 : Cond.fieldLink RX4 9 "CamelParts$Sheet" "size" "I" ∈ WT := wtm (tb1 (List.mem_of_getElem? (i := 235) rfl)) rfl
theorem fqX4_9 : FP RX4 9 4 0 (tyX4 0) := ⟨_, _, _, tyX4, rfl, by decide, inX4, wn_1_235, tyX4_ok, nmX4, rfl, rfl⟩
theorem wn_1_237 : Cond.fieldLink RX4 15 "CamelParts$Sheet" "lane" "I" ∈ WT := wtm (tb1 (List.mem_of_getElem? (i := 237) rfl)) rfl
theorem fqX4_15 : FP RX4 15 4 1 (tyX4 1) := ⟨_, _, _, tyX4, rfl, by decide, inX4, wn_1_237, tyX4_ok, nmX4, rfl, rfl⟩
theorem wn_1_238 : Cond.fieldLink RX4 18 "CamelParts$Sheet" "cells" "[I" ∈ WT := wtm (tb1 (List.mem_of_getElem? (i := 238) rfl)) rfl
theorem ffX4_18 : FF RX4 18 4 2 (tyX4 2) := ⟨_, _, _, tyX4, rfl, by decide, inX4, wn_1_238, tyX4_ok, nmX4, rfl, rfl, rfl⟩
theorem wn_1_121 : Cond.methodLink RX5 3 Lib.objectInit ∈ WT := wtm (tb1 (List.mem_of_getElem? (i := 121) rfl)) rfl
theorem wn_1_122 : Cond.fieldLink RX5 9 "CamelParts$Tape" "length" "I" ∈ WT := wtm (tb1 (List.mem_of_getElem? (i := 122) rfl)) rfl
theorem fqX5_9 : FP RX5 9 5 0 (tyX5 0) := ⟨_, _, _, tyX5, rfl, by decide, inX5, wn_1_122, tyX5_ok, nmX5, rfl, rfl⟩
theorem wn_1_124 : Cond.fieldLink RX5 15 "CamelParts$Tape" "sort" "I" ∈ WT := wtm (tb1 (List.mem_of_getElem? (i := 124) rfl)) rfl
theorem fqX5_15 : FP RX5 15 5 1 (tyX5 1) := ⟨_, _, _, tyX5, rfl, by decide, inX5, wn_1_124, tyX5_ok, nmX5, rfl, rfl⟩
theorem wn_1_126 : Cond.fieldLink RX5 18 "CamelParts$Tape" "start" "I" ∈ WT := wtm (tb1 (List.mem_of_getElem? (i := 126) rfl)) rfl
theorem fqX5_18 : FP RX5 18 5 2 (tyX5 2) := ⟨_, _, _, tyX5, rfl, by decide, inX5, wn_1_126, tyX5_ok, nmX5, rfl, rfl⟩
theorem wn_1_128 : Cond.fieldLink RX5 21 "CamelParts$Tape" "value" "I" ∈ WT := wtm (tb1 (List.mem_of_getElem? (i := 128) rfl)) rfl
theorem fqX5_21 : FP RX5 21 5 3 (tyX5 3) := ⟨_, _, _, tyX5, rfl, by decide, inX5, wn_1_128, tyX5_ok, nmX5, rfl, rfl⟩
theorem wn_1_130 : Cond.fieldLink RX5 24 "CamelParts$Tape" "next" "I" ∈ WT := wtm (tb1 (List.mem_of_getElem? (i := 130) rfl)) rfl
theorem fqX5_24 : FP RX5 24 5 4 (tyX5 4) := ⟨_, _, _, tyX5, rfl, by decide, inX5, wn_1_130, tyX5_ok, nmX5, rfl, rfl⟩
theorem wn_1_145 : Cond.arrayClass (tyN 3) ∈ WT := wtm (tb1 (List.mem_of_getElem? (i := 145) rfl)) rfl
theorem wn_1_131 : Cond.fieldLink RX5 27 "CamelParts$Tape" "bytes" "[B" ∈ WT := wtm (tb1 (List.mem_of_getElem? (i := 131) rfl)) rfl
theorem ffX5_27 : FF RX5 27 5 5 (tyX5 5) := ⟨_, _, _, tyX5, rfl, by decide, inX5, wn_1_131, tyX5_ok, nmX5, rfl, rfl, rfl⟩
theorem wn_1_186 : Cond.methodLink RX6 3 Lib.objectInit ∈ WT := wtm (tb1 (List.mem_of_getElem? (i := 186) rfl)) rfl
theorem wn_1_187 : Cond.fieldLink RX6 9 "CamelParts$WillSearch" "found" "I" ∈ WT := wtm (tb1 (List.mem_of_getElem? (i := 187) rfl)) rfl
theorem fqX6_9 : FP RX6 9 6 0 (tyX6 0) := ⟨_, _, _, tyX6, rfl, by decide, inX6, wn_1_187, tyX6_ok, nmX6, rfl, rfl⟩
theorem wn_1_189 : Cond.fieldLink RX6 15 "CamelParts$WillSearch" "row" "[I" ∈ WT := wtm (tb1 (List.mem_of_getElem? (i := 189) rfl)) rfl
theorem ffX6_15 : FF RX6 15 6 1 (tyX6 1) := ⟨_, _, _, tyX6, rfl, by decide, inX6, wn_1_189, tyX6_ok, nmX6, rfl, rfl, rfl⟩
theorem wn_1_191 : Cond.fieldLink RX6 19 "CamelParts$WillSearch" "downs" "[I" ∈ WT := wtm (tb1 (List.mem_of_getElem? (i := 191) rfl)) rfl
theorem ffX6_19 : FF RX6 19 6 2 (tyX6 2) := ⟨_, _, _, tyX6, rfl, by decide, inX6, wn_1_191, tyX6_ok, nmX6, rfl, rfl, rfl⟩
theorem wn_1_192 : Cond.fieldLink RX6 22 "CamelParts$WillSearch" "downsFound" "I" ∈ WT := wtm (tb1 (List.mem_of_getElem? (i := 192) rfl)) rfl
theorem fqX6_22 : FP RX6 22 6 3 (tyX6 3) := ⟨_, _, _, tyX6, rfl, by decide, inX6, wn_1_192, tyX6_ok, nmX6, rfl, rfl⟩
theorem wn_1_193 : Cond.fieldLink RX6 25 "CamelParts$WillSearch" "camels" "I" ∈ WT := wtm (tb1 (List.mem_of_getElem? (i := 193) rfl)) rfl
theorem fqX6_25 : FP RX6 25 6 4 (tyX6 4) := ⟨_, _, _, tyX6, rfl, by decide, inX6, wn_1_193, tyX6_ok, nmX6, rfl, rfl⟩
theorem wn_1_194 : Cond.fieldLink RX6 28 "CamelParts$WillSearch" "heirs" "I" ∈ WT := wtm (tb1 (List.mem_of_getElem? (i := 194) rfl)) rfl
theorem fqX6_28 : FP RX6 28 6 5 (tyX6 5) := ⟨_, _, _, tyX6, rfl, by decide, inX6, wn_1_194, tyX6_ok, nmX6, rfl, rfl⟩
theorem wn_1_195 : Cond.fieldLink RX6 31 "CamelParts$WillSearch" "sought" "I" ∈ WT := wtm (tb1 (List.mem_of_getElem? (i := 195) rfl)) rfl
theorem fqX6_31 : FP RX6 31 6 6 (tyX6 6) := ⟨_, _, _, tyX6, rfl, by decide, inX6, wn_1_195, tyX6_ok, nmX6, rfl, rfl⟩
theorem wn_1_115 : Cond.methodLink RX3 3 Lib.objectInit ∈ WT := wtm (tb1 (List.mem_of_getElem? (i := 115) rfl)) rfl
theorem wn_1_116 : Cond.classLink RX3 9 RX5 ∈ WT := wtm (tb1 (List.mem_of_getElem? (i := 116) rfl)) rfl
theorem wn_1_117 : Cond.instantiable RX5 6 ∈ WT := wtm (tb1 (List.mem_of_getElem? (i := 117) rfl)) rfl
theorem wn_1_5 : Cond.initialized RX5 ∈ WT := wtm (tb1 (List.mem_of_getElem? (i := 5) rfl)) rfl
theorem cnX3_9 : CN RX3 9 5 [.int 0, .int 0, .int 0, .int 0, .int 0, .null] 6 := ⟨_, _, tyX5, rfl, inX5, tyX5_ok, wn_1_116, wn_1_117, wn_1_5, fun j hj => by match j, hj with | 0, _ => rfl | 1, _ => rfl | 2, _ => rfl | 3, _ => rfl | 4, _ => rfl | 5, _ => rfl⟩
theorem wn_1_120 : Cond.code (mY MX5_init) (mC MX5_init) (mL MX5_init) none ∈ WT := wtm (tb1 (List.mem_of_getElem? (i := 120) rfl)) rfl
theorem wn_1_119 : Cond.instanceMethod (mY MX5_init) ∈ WT := wtm (tb1 (List.mem_of_getElem? (i := 119) rfl)) rfl
theorem wn_1_148 : Cond.fieldLink RX3 12 "CamelParts$Script" "tape" "LCamelParts$Tape;" ∈ WT := wtm (tb1 (List.mem_of_getElem? (i := 148) rfl)) rfl
theorem ffX3_12 : FF RX3 12 3 0 (tyX3 0) := ⟨_, _, _, tyX3, rfl, by decide, inX3, wn_1_148, tyX3_ok, nmX3, rfl, rfl, rfl⟩
theorem wn_1_146 : Cond.classLink RX3 18 RX0 ∈ WT := wtm (tb1 (List.mem_of_getElem? (i := 146) rfl)) rfl
theorem wn_1_25 : Cond.instantiable RX0 8 ∈ WT := wtm (tb1 (List.mem_of_getElem? (i := 25) rfl)) rfl
theorem wn_1_2 : Cond.initialized RX0 ∈ WT := wtm (tb1 (List.mem_of_getElem? (i := 2) rfl)) rfl
theorem cnX3_18 : CN RX3 18 0 [.int 0, .int 0, .int 0, .int 0, .null, .null, .null, .null] 8 := ⟨_, _, tyX0, rfl, inX0, tyX0_ok, wn_1_146, wn_1_25, wn_1_2, fun j hj => by match j, hj with | 0, _ => rfl | 1, _ => rfl | 2, _ => rfl | 3, _ => rfl | 4, _ => rfl | 5, _ => rfl | 6, _ => rfl | 7, _ => rfl⟩
theorem wn_1_28 : Cond.code (mY MX0_init) (mC MX0_init) (mL MX0_init) none ∈ WT := wtm (tb1 (List.mem_of_getElem? (i := 28) rfl)) rfl
theorem wn_1_27 : Cond.instanceMethod (mY MX0_init) ∈ WT := wtm (tb1 (List.mem_of_getElem? (i := 27) rfl)) rfl
theorem wn_1_150 : Cond.fieldLink RX3 21 "CamelParts$Script" "draft" "LCamelParts$Estate;" ∈ WT := wtm (tb1 (List.mem_of_getElem? (i := 150) rfl)) rfl
theorem ffX3_21 : FF RX3 21 3 1 (tyX3 1) := ⟨_, _, _, tyX3, rfl, by decide, inX3, wn_1_150, tyX3_ok, nmX3, rfl, rfl, rfl⟩
theorem wn_1_152 : Cond.fieldLink RX3 25 "CamelParts$Script" "lines" "I" ∈ WT := wtm (tb1 (List.mem_of_getElem? (i := 152) rfl)) rfl
theorem fqX3_25 : FP RX3 25 3 2 (tyX3 2) := ⟨_, _, _, tyX3, rfl, by decide, inX3, wn_1_152, tyX3_ok, nmX3, rfl, rfl⟩
theorem wn_1_154 : Cond.fieldLink RX3 29 "CamelParts$Script" "flaw" "I" ∈ WT := wtm (tb1 (List.mem_of_getElem? (i := 154) rfl)) rfl
theorem fqX3_29 : FP RX3 29 3 3 (tyX3 3) := ⟨_, _, _, tyX3, rfl, by decide, inX3, wn_1_154, tyX3_ok, nmX3, rfl, rfl⟩
theorem wn_1_156 : Cond.fieldLink RX3 32 "CamelParts$Script" "place" "I" ∈ WT := wtm (tb1 (List.mem_of_getElem? (i := 156) rfl)) rfl
theorem fqX3_32 : FP RX3 32 3 4 (tyX3 4) := ⟨_, _, _, tyX3, rfl, by decide, inX3, wn_1_156, tyX3_ok, nmX3, rfl, rfl⟩
theorem wn_1_158 : Cond.fieldLink RX3 35 "CamelParts$Script" "awaited" "I" ∈ WT := wtm (tb1 (List.mem_of_getElem? (i := 158) rfl)) rfl
theorem fqX3_35 : FP RX3 35 3 5 (tyX3 5) := ⟨_, _, _, tyX3, rfl, by decide, inX3, wn_1_158, tyX3_ok, nmX3, rfl, rfl⟩
theorem wn_1_159 : Cond.fieldLink RX3 38 "CamelParts$Script" "up" "I" ∈ WT := wtm (tb1 (List.mem_of_getElem? (i := 159) rfl)) rfl
theorem fqX3_38 : FP RX3 38 3 6 (tyX3 6) := ⟨_, _, _, tyX3, rfl, by decide, inX3, wn_1_159, tyX3_ok, nmX3, rfl, rfl⟩
theorem wn_1_160 : Cond.fieldLink RX3 41 "CamelParts$Script" "hasHerd" "Z" ∈ WT := wtm (tb1 (List.mem_of_getElem? (i := 160) rfl)) rfl
theorem fqX3_41 : FP RX3 41 3 7 (tyX3 7) := ⟨_, _, _, tyX3, rfl, by decide, inX3, wn_1_160, tyX3_ok, nmX3, rfl, rfl⟩
theorem wn_1_161 : Cond.fieldLink RX3 45 "CamelParts$Script" "hasJudge" "Z" ∈ WT := wtm (tb1 (List.mem_of_getElem? (i := 161) rfl)) rfl
theorem fqX3_45 : FP RX3 45 3 8 (tyX3 8) := ⟨_, _, _, tyX3, rfl, by decide, inX3, wn_1_161, tyX3_ok, nmX3, rfl, rfl⟩
def wX0 (cA : Nat → ClassId) (h0 : Nat) (f : Nat → Nat) : va_W := [(h0, .inr (0, [.int 17, .int 0, .int 0, .int 0, .ref (f 0), .ref (f 1), .ref (f 2), .ref (f 3)])), ((f 0), .inl (cA 0, 5, zA 0)), ((f 1), .inl (cA 0, 5, zA 0)), ((f 2), .inl (cA 0, 6, zA 0)), ((f 3), .inl (cA 0, 6, zA 0))]
set_option maxRecDepth 20000 in
theorem mkX0 : Mk MX0_init 0 [.int 0, .int 0, .int 0, .int 0, .null, .null, .null, .null] 4 22 wX0 (fun _ _ _ => True) := by
  refine Mk.of (by decide +kernel) rfl rfl (by decide) ?_
  intro p l e Rm s m args below meth c g D cA A h0 lr C hin hr hlk hW hl
  have hx := C.1
  have hb := C.2.1
  refine lv_aload_n hx hb dX0_init_0 rfl (lv_at hl 0 rfl) ?_
  refine N_obj C wn_1_29 hl.1 rfl dX0_init_1 ?_
  refine lv_aload_n hx hb dX0_init_4 rfl (lv_at hl 0 rfl) ?_
  refine lv_bipush (v := 17) hx hb dX0_init_5 (by decide) ?_
  refine N_put 0 C hW fqX0_9 rfl rfl rfl (ltb rfl) dX0_init_7 (fun H locs hW => ?_)
  have hW : Wd D A s.heap [(h0, .inr (0, [.int 17, .int 0, .int 0, .int 0, .null, .null, .null, .null]))] _ _ := hW
  refine lv_aload_n hx hb dX0_init_10 rfl (lv_at hl 0 rfl) ?_
  refine lv_iconst (v := 0) hx hb dX0_init_11 (by decide) ?_
  refine N_put 0 C hW fqX0_15 rfl rfl rfl (ltb rfl) dX0_init_12 (fun H locs hW => ?_)
  have hW : Wd D A s.heap [(h0, .inr (0, [.int 17, .int 0, .int 0, .int 0, .null, .null, .null, .null]))] _ _ := hW
  refine lv_aload_n hx hb dX0_init_15 rfl (lv_at hl 0 rfl) ?_
  refine lv_iconst (v := 0) hx hb dX0_init_16 (by decide) ?_
  refine N_put 0 C hW fqX0_18 rfl rfl rfl (ltb rfl) dX0_init_17 (fun H locs hW => ?_)
  have hW : Wd D A s.heap [(h0, .inr (0, [.int 17, .int 0, .int 0, .int 0, .null, .null, .null, .null]))] _ _ := hW
  refine lv_aload_n hx hb dX0_init_20 rfl (lv_at hl 0 rfl) ?_
  refine lv_iconst (v := 0) hx hb dX0_init_21 (by decide) ?_
  refine N_put 0 C hW fqX0_21 rfl rfl rfl (ltb rfl) dX0_init_22 (fun H locs hW => ?_)
  have hW : Wd D A s.heap [(h0, .inr (0, [.int 17, .int 0, .int 0, .int 0, .null, .null, .null, .null]))] _ _ := hW
  refine lv_aload_n hx hb dX0_init_25 rfl (lv_at hl 0 rfl) ?_
  refine lv_iconst (v := 5) hx hb dX0_init_26 (by decide) ?_
  refine N_newa (t := 0) (n := 5) (ns := 0) (nc := 0) C hW (by decide) wn_1_70 (by decide) rfl rfl rfl rfl dX0_init_27 (fun q1 H hW => ?_)
  refine N_putF 0 C hW hin ffX0_24 rfl rfl rfl (ltb rfl) dX0_init_29 (fun H locs hW => ?_)
  have hW : Wd D A s.heap [(h0, .inr (0, [.int 17, .int 0, .int 0, .int 0, .ref q1, .null, .null, .null])), (q1, .inl (cA 0, 5, zA 0))] _ _ := hW
  refine lv_aload_n hx hb dX0_init_32 rfl (lv_at hl 0 rfl) ?_
  refine lv_iconst (v := 5) hx hb dX0_init_33 (by decide) ?_
  refine N_newa (t := 0) (n := 5) (ns := 5) (nc := 1) C hW (by decide) wn_1_70 (by decide) rfl rfl rfl rfl dX0_init_34 (fun q2 H hW => ?_)
  refine N_putF 0 C hW hin ffX0_28 rfl rfl rfl (ltb rfl) dX0_init_36 (fun H locs hW => ?_)
  have hW : Wd D A s.heap [(h0, .inr (0, [.int 17, .int 0, .int 0, .int 0, .ref q1, .ref q2, .null, .null])), (q1, .inl (cA 0, 5, zA 0)), (q2, .inl (cA 0, 5, zA 0))] _ _ := hW
  refine lv_aload_n hx hb dX0_init_39 rfl (lv_at hl 0 rfl) ?_
  refine lv_bipush (v := 6) hx hb dX0_init_40 (by decide) ?_
  refine N_newa (t := 0) (n := 6) (ns := 10) (nc := 2) C hW (by decide) wn_1_70 (by decide) rfl rfl rfl rfl dX0_init_42 (fun q3 H hW => ?_)
  refine N_putF 0 C hW hin ffX0_31 rfl rfl rfl (ltb rfl) dX0_init_44 (fun H locs hW => ?_)
  have hW : Wd D A s.heap [(h0, .inr (0, [.int 17, .int 0, .int 0, .int 0, .ref q1, .ref q2, .ref q3, .null])), (q1, .inl (cA 0, 5, zA 0)), (q2, .inl (cA 0, 5, zA 0)), (q3, .inl (cA 0, 6, zA 0))] _ _ := hW
  refine lv_aload_n hx hb dX0_init_47 rfl (lv_at hl 0 rfl) ?_
  refine lv_bipush (v := 6) hx hb dX0_init_48 (by decide) ?_
  refine N_newa (t := 0) (n := 6) (ns := 16) (nc := 3) C hW (by decide) wn_1_70 (by decide) rfl rfl rfl rfl dX0_init_50 (fun q4 H hW => ?_)
  refine N_putF 0 C hW hin ffX0_34 rfl rfl rfl (ltb rfl) dX0_init_52 (fun H locs hW => ?_)
  have hW : Wd D A s.heap [(h0, .inr (0, [.int 17, .int 0, .int 0, .int 0, .ref q1, .ref q2, .ref q3, .ref q4])), (q1, .inl (cA 0, 5, zA 0)), (q2, .inl (cA 0, 5, zA 0)), (q3, .inl (cA 0, 6, zA 0)), (q4, .inl (cA 0, 6, zA 0))] _ _ := hW
  exact N_vret (fun i => ([q1, q2, q3, q4] : List Nat).getD i 0) C hr hlk hW trivial rfl rfl dX0_init_55
def wX1 (cA : Nat → ClassId) (h0 : Nat) (f : Nat → Nat) : va_W := [(h0, .inr (1, [.int 0, .int (-4), .int (-4)]))]
set_option maxRecDepth 20000 in
theorem mkX1 : Mk MX1_init 1 [.int 0, .int 0, .int 0] 0 0 wX1 (fun _ _ _ => True) := by
  refine Mk.of (by decide +kernel) rfl rfl (by decide) ?_
  intro p l e Rm s m args below meth c g D cA A h0 lr C hin hr hlk hW hl
  have hx := C.1
  have hb := C.2.1
  refine lv_aload_n hx hb dX1_init_0 rfl (lv_at hl 0 rfl) ?_
  refine N_obj C wn_1_216 hl.1 rfl dX1_init_1 ?_
  refine lv_aload_n hx hb dX1_init_4 rfl (lv_at hl 0 rfl) ?_
  refine lv_iconst (v := 0) hx hb dX1_init_5 (by decide) ?_
  refine N_put 0 C hW fqX1_9 rfl rfl rfl (ltb rfl) dX1_init_6 (fun H locs hW => ?_)
  have hW : Wd D A s.heap [(h0, .inr (1, [.int 0, .int 0, .int 0]))] _ _ := hW
  refine lv_aload_n hx hb dX1_init_9 rfl (lv_at hl 0 rfl) ?_
  refine lv_bipush (v := (-4)) hx hb dX1_init_10 (by decide) ?_
  refine N_put 0 C hW fqX1_15 rfl rfl rfl (ltb rfl) dX1_init_12 (fun H locs hW => ?_)
  have hW : Wd D A s.heap [(h0, .inr (1, [.int 0, .int (-4), .int 0]))] _ _ := hW
  refine lv_aload_n hx hb dX1_init_15 rfl (lv_at hl 0 rfl) ?_
  refine lv_bipush (v := (-4)) hx hb dX1_init_16 (by decide) ?_
  refine N_put 0 C hW fqX1_18 rfl rfl rfl (ltb rfl) dX1_init_18 (fun H locs hW => ?_)
  have hW : Wd D A s.heap [(h0, .inr (1, [.int 0, .int (-4), .int (-4)]))] _ _ := hW
  exact N_vret (fun i => ([] : List Nat).getD i 0) C hr hlk hW trivial rfl rfl dX1_init_21
def wX2 (cA : Nat → ClassId) (h0 : Nat) (f : Nat → Nat) : va_W := [(h0, .inr (2, [.long 1, .long 0, .ref (f 0), .ref (f 1), .ref (f 2), .ref (f 3), .int 0, .int 0, .int 0])), ((f 0), .inl (cA 1, 5, zA 1)), ((f 1), .inl (cA 1, 5, zA 1)), ((f 2), .inl (cA 0, 5, zA 0)), ((f 3), .inl (cA 0, 5, zA 0))]
set_option maxRecDepth 20000 in
theorem mkX2 : Mk MX2_init 2 [.long 0, .long 0, .null, .null, .null, .null, .int 0, .int 0, .int 0] 4 20 wX2 (fun _ _ _ => True) := by
  refine Mk.of (by decide +kernel) rfl rfl (by decide) ?_
  intro p l e Rm s m args below meth c g D cA A h0 lr C hin hr hlk hW hl
  have hx := C.1
  have hb := C.2.1
  refine lv_aload_n hx hb dX2_init_0 rfl (lv_at hl 0 rfl) ?_
  refine N_obj C wn_1_77 hl.1 rfl dX2_init_1 ?_
  refine lv_aload_n hx hb dX2_init_4 rfl (lv_at hl 0 rfl) ?_
  refine lv_lconst (v := 1) hx hb dX2_init_5 (by decide) ?_
  refine N_put 0 C hW fqX2_9 rfl rfl rfl (ltb rfl) dX2_init_6 (fun H locs hW => ?_)
  have hW : Wd D A s.heap [(h0, .inr (2, [.long 1, .long 0, .null, .null, .null, .null, .int 0, .int 0, .int 0]))] _ _ := hW
  refine lv_aload_n hx hb dX2_init_9 rfl (lv_at hl 0 rfl) ?_
  refine lv_lconst (v := 0) hx hb dX2_init_10 (by decide) ?_
  refine N_put 0 C hW fqX2_15 rfl rfl rfl (ltb rfl) dX2_init_11 (fun H locs hW => ?_)
  have hW : Wd D A s.heap [(h0, .inr (2, [.long 1, .long 0, .null, .null, .null, .null, .int 0, .int 0, .int 0]))] _ _ := hW
  refine lv_aload_n hx hb dX2_init_14 rfl (lv_at hl 0 rfl) ?_
  refine lv_iconst (v := 5) hx hb dX2_init_15 (by decide) ?_
  refine N_newa (t := 1) (n := 5) (ns := 0) (nc := 0) C hW (by decide) wn_1_109 (by decide) rfl rfl rfl rfl dX2_init_16 (fun q1 H hW => ?_)
  refine N_putF 0 C hW hin ffX2_18 rfl rfl rfl (ltb rfl) dX2_init_18 (fun H locs hW => ?_)
  have hW : Wd D A s.heap [(h0, .inr (2, [.long 1, .long 0, .ref q1, .null, .null, .null, .int 0, .int 0, .int 0])), (q1, .inl (cA 1, 5, zA 1))] _ _ := hW
  refine lv_aload_n hx hb dX2_init_21 rfl (lv_at hl 0 rfl) ?_
  refine lv_iconst (v := 5) hx hb dX2_init_22 (by decide) ?_
  refine N_newa (t := 1) (n := 5) (ns := 5) (nc := 1) C hW (by decide) wn_1_109 (by decide) rfl rfl rfl rfl dX2_init_23 (fun q2 H hW => ?_)
  refine N_putF 0 C hW hin ffX2_22 rfl rfl rfl (ltb rfl) dX2_init_25 (fun H locs hW => ?_)
  have hW : Wd D A s.heap [(h0, .inr (2, [.long 1, .long 0, .ref q1, .ref q2, .null, .null, .int 0, .int 0, .int 0])), (q1, .inl (cA 1, 5, zA 1)), (q2, .inl (cA 1, 5, zA 1))] _ _ := hW
  refine lv_aload_n hx hb dX2_init_28 rfl (lv_at hl 0 rfl) ?_
  refine lv_iconst (v := 5) hx hb dX2_init_29 (by decide) ?_
  refine N_newa (t := 0) (n := 5) (ns := 10) (nc := 2) C hW (by decide) wn_1_70 (by decide) rfl rfl rfl rfl dX2_init_30 (fun q3 H hW => ?_)
  refine N_putF 0 C hW hin ffX2_25 rfl rfl rfl (ltb rfl) dX2_init_32 (fun H locs hW => ?_)
  have hW : Wd D A s.heap [(h0, .inr (2, [.long 1, .long 0, .ref q1, .ref q2, .ref q3, .null, .int 0, .int 0, .int 0])), (q1, .inl (cA 1, 5, zA 1)), (q2, .inl (cA 1, 5, zA 1)), (q3, .inl (cA 0, 5, zA 0))] _ _ := hW
  refine lv_aload_n hx hb dX2_init_35 rfl (lv_at hl 0 rfl) ?_
  refine lv_iconst (v := 5) hx hb dX2_init_36 (by decide) ?_
  refine N_newa (t := 0) (n := 5) (ns := 15) (nc := 3) C hW (by decide) wn_1_70 (by decide) rfl rfl rfl rfl dX2_init_37 (fun q4 H hW => ?_)
  refine N_putF 0 C hW hin ffX2_29 rfl rfl rfl (ltb rfl) dX2_init_39 (fun H locs hW => ?_)
  have hW : Wd D A s.heap [(h0, .inr (2, [.long 1, .long 0, .ref q1, .ref q2, .ref q3, .ref q4, .int 0, .int 0, .int 0])), (q1, .inl (cA 1, 5, zA 1)), (q2, .inl (cA 1, 5, zA 1)), (q3, .inl (cA 0, 5, zA 0)), (q4, .inl (cA 0, 5, zA 0))] _ _ := hW
  refine lv_aload_n hx hb dX2_init_42 rfl (lv_at hl 0 rfl) ?_
  refine lv_iconst (v := 0) hx hb dX2_init_43 (by decide) ?_
  refine N_put 0 C hW fqX2_32 rfl rfl rfl (ltb rfl) dX2_init_44 (fun H locs hW => ?_)
  have hW : Wd D A s.heap [(h0, .inr (2, [.long 1, .long 0, .ref q1, .ref q2, .ref q3, .ref q4, .int 0, .int 0, .int 0])), (q1, .inl (cA 1, 5, zA 1)), (q2, .inl (cA 1, 5, zA 1)), (q3, .inl (cA 0, 5, zA 0)), (q4, .inl (cA 0, 5, zA 0))] _ _ := hW
  refine lv_aload_n hx hb dX2_init_47 rfl (lv_at hl 0 rfl) ?_
  refine lv_iconst (v := 0) hx hb dX2_init_48 (by decide) ?_
  refine N_put 0 C hW fqX2_36 rfl rfl rfl (ltb rfl) dX2_init_49 (fun H locs hW => ?_)
  have hW : Wd D A s.heap [(h0, .inr (2, [.long 1, .long 0, .ref q1, .ref q2, .ref q3, .ref q4, .int 0, .int 0, .int 0])), (q1, .inl (cA 1, 5, zA 1)), (q2, .inl (cA 1, 5, zA 1)), (q3, .inl (cA 0, 5, zA 0)), (q4, .inl (cA 0, 5, zA 0))] _ _ := hW
  refine lv_aload_n hx hb dX2_init_52 rfl (lv_at hl 0 rfl) ?_
  refine lv_iconst (v := 0) hx hb dX2_init_53 (by decide) ?_
  refine N_put 0 C hW fqX2_39 rfl rfl rfl (ltb rfl) dX2_init_54 (fun H locs hW => ?_)
  have hW : Wd D A s.heap [(h0, .inr (2, [.long 1, .long 0, .ref q1, .ref q2, .ref q3, .ref q4, .int 0, .int 0, .int 0])), (q1, .inl (cA 1, 5, zA 1)), (q2, .inl (cA 1, 5, zA 1)), (q3, .inl (cA 0, 5, zA 0)), (q4, .inl (cA 0, 5, zA 0))] _ _ := hW
  exact N_vret (fun i => ([q1, q2, q3, q4] : List Nat).getD i 0) C hr hlk hW trivial rfl rfl dX2_init_57
def wX4 (cA : Nat → ClassId) (h0 : Nat) (f : Nat → Nat) : va_W := [(h0, .inr (4, [.int (-1), .int 0, .ref (f 0)])), ((f 0), .inl (cA 0, 40, zA 0))]
set_option maxRecDepth 20000 in
theorem mkX4 : Mk MX4_init 4 [.int 0, .int 0, .null] 1 40 wX4 (fun _ _ _ => True) := by
  refine Mk.of (by decide +kernel) rfl rfl (by decide) ?_
  intro p l e Rm s m args below meth c g D cA A h0 lr C hin hr hlk hW hl
  have hx := C.1
  have hb := C.2.1
  refine lv_aload_n hx hb dX4_init_0 rfl (lv_at hl 0 rfl) ?_
  refine N_obj C wn_1_234 hl.1 rfl dX4_init_1 ?_
  refine lv_aload_n hx hb dX4_init_4 rfl (lv_at hl 0 rfl) ?_
  refine lv_iconst (v := (-1)) hx hb dX4_init_5 (by decide) ?_
  refine N_put 0 C hW fqX4_9 rfl rfl rfl (ltb rfl) dX4_init_6 (fun H locs hW => ?_)
  have hW : Wd D A s.heap [(h0, .inr (4, [.int (-1), .int 0, .null]))] _ _ := hW
  refine lv_aload_n hx hb dX4_init_9 rfl (lv_at hl 0 rfl) ?_
  refine lv_iconst (v := 0) hx hb dX4_init_10 (by decide) ?_
  refine N_put 0 C hW fqX4_15 rfl rfl rfl (ltb rfl) dX4_init_11 (fun H locs hW => ?_)
  have hW : Wd D A s.heap [(h0, .inr (4, [.int (-1), .int 0, .null]))] _ _ := hW
  refine lv_aload_n hx hb dX4_init_14 rfl (lv_at hl 0 rfl) ?_
  refine lv_bipush (v := 40) hx hb dX4_init_15 (by decide) ?_
  refine N_newa (t := 0) (n := 40) (ns := 0) (nc := 0) C hW (by decide) wn_1_70 (by decide) rfl rfl rfl rfl dX4_init_17 (fun q1 H hW => ?_)
  refine N_putF 0 C hW hin ffX4_18 rfl rfl rfl (ltb rfl) dX4_init_19 (fun H locs hW => ?_)
  have hW : Wd D A s.heap [(h0, .inr (4, [.int (-1), .int 0, .ref q1])), (q1, .inl (cA 0, 40, zA 0))] _ _ := hW
  exact N_vret (fun i => ([q1] : List Nat).getD i 0) C hr hlk hW trivial rfl rfl dX4_init_22
def wX5 (cA : Nat → ClassId) (h0 : Nat) (f : Nat → Nat) : va_W := [(h0, .inr (5, [.int 0, .int 3, .int 0, .int 0, .int 0, .ref (f 0)])), ((f 0), .inl (cA 3, 160, zA 3))]
set_option maxRecDepth 20000 in
theorem mkX5 : Mk MX5_init 5 [.int 0, .int 0, .int 0, .int 0, .int 0, .null] 1 160 wX5 (fun _ _ _ => True) := by
  refine Mk.of (by decide +kernel) rfl rfl (by decide) ?_
  intro p l e Rm s m args below meth c g D cA A h0 lr C hin hr hlk hW hl
  have hx := C.1
  have hb := C.2.1
  refine lv_aload_n hx hb dX5_init_0 rfl (lv_at hl 0 rfl) ?_
  refine N_obj C wn_1_121 hl.1 rfl dX5_init_1 ?_
  refine lv_aload_n hx hb dX5_init_4 rfl (lv_at hl 0 rfl) ?_
  refine lv_iconst (v := 0) hx hb dX5_init_5 (by decide) ?_
  refine N_put 0 C hW fqX5_9 rfl rfl rfl (ltb rfl) dX5_init_6 (fun H locs hW => ?_)
  have hW : Wd D A s.heap [(h0, .inr (5, [.int 0, .int 0, .int 0, .int 0, .int 0, .null]))] _ _ := hW
  refine lv_aload_n hx hb dX5_init_9 rfl (lv_at hl 0 rfl) ?_
  refine lv_iconst (v := 3) hx hb dX5_init_10 (by decide) ?_
  refine N_put 0 C hW fqX5_15 rfl rfl rfl (ltb rfl) dX5_init_11 (fun H locs hW => ?_)
  have hW : Wd D A s.heap [(h0, .inr (5, [.int 0, .int 3, .int 0, .int 0, .int 0, .null]))] _ _ := hW
  refine lv_aload_n hx hb dX5_init_14 rfl (lv_at hl 0 rfl) ?_
  refine lv_iconst (v := 0) hx hb dX5_init_15 (by decide) ?_
  refine N_put 0 C hW fqX5_18 rfl rfl rfl (ltb rfl) dX5_init_16 (fun H locs hW => ?_)
  have hW : Wd D A s.heap [(h0, .inr (5, [.int 0, .int 3, .int 0, .int 0, .int 0, .null]))] _ _ := hW
  refine lv_aload_n hx hb dX5_init_19 rfl (lv_at hl 0 rfl) ?_
  refine lv_iconst (v := 0) hx hb dX5_init_20 (by decide) ?_
  refine N_put 0 C hW fqX5_21 rfl rfl rfl (ltb rfl) dX5_init_21 (fun H locs hW => ?_)
  have hW : Wd D A s.heap [(h0, .inr (5, [.int 0, .int 3, .int 0, .int 0, .int 0, .null]))] _ _ := hW
  refine lv_aload_n hx hb dX5_init_24 rfl (lv_at hl 0 rfl) ?_
  refine lv_iconst (v := 0) hx hb dX5_init_25 (by decide) ?_
  refine N_put 0 C hW fqX5_24 rfl rfl rfl (ltb rfl) dX5_init_26 (fun H locs hW => ?_)
  have hW : Wd D A s.heap [(h0, .inr (5, [.int 0, .int 3, .int 0, .int 0, .int 0, .null]))] _ _ := hW
  refine lv_aload_n hx hb dX5_init_29 rfl (lv_at hl 0 rfl) ?_
  refine lv_sipush (v := 160) hx hb dX5_init_30 (by decide) ?_
  refine N_newa (t := 3) (n := 160) (ns := 0) (nc := 0) C hW (by decide) wn_1_145 (by decide) rfl rfl rfl rfl dX5_init_33 (fun q1 H hW => ?_)
  refine N_putF 0 C hW hin ffX5_27 rfl rfl rfl (ltb rfl) dX5_init_35 (fun H locs hW => ?_)
  have hW : Wd D A s.heap [(h0, .inr (5, [.int 0, .int 3, .int 0, .int 0, .int 0, .ref q1])), (q1, .inl (cA 3, 160, zA 3))] _ _ := hW
  exact N_vret (fun i => ([q1] : List Nat).getD i 0) C hr hlk hW trivial rfl rfl dX5_init_38
def wX6 (cA : Nat → ClassId) (h0 : Nat) (f : Nat → Nat) : va_W := [(h0, .inr (6, [.int 0, .ref (f 0), .ref (f 1), .int 0, .int 0, .int 0, .int 0])), ((f 0), .inl (cA 0, 4, zA 0)), ((f 1), .inl (cA 0, 32, zA 0))]
set_option maxRecDepth 20000 in
theorem mkX6 : Mk MX6_init 6 [.int 0, .null, .null, .int 0, .int 0, .int 0, .int 0] 2 36 wX6 (fun _ _ _ => True) := by
  refine Mk.of (by decide +kernel) rfl rfl (by decide) ?_
  intro p l e Rm s m args below meth c g D cA A h0 lr C hin hr hlk hW hl
  have hx := C.1
  have hb := C.2.1
  refine lv_aload_n hx hb dX6_init_0 rfl (lv_at hl 0 rfl) ?_
  refine N_obj C wn_1_186 hl.1 rfl dX6_init_1 ?_
  refine lv_aload_n hx hb dX6_init_4 rfl (lv_at hl 0 rfl) ?_
  refine lv_iconst (v := 0) hx hb dX6_init_5 (by decide) ?_
  refine N_put 0 C hW fqX6_9 rfl rfl rfl (ltb rfl) dX6_init_6 (fun H locs hW => ?_)
  have hW : Wd D A s.heap [(h0, .inr (6, [.int 0, .null, .null, .int 0, .int 0, .int 0, .int 0]))] _ _ := hW
  refine lv_aload_n hx hb dX6_init_9 rfl (lv_at hl 0 rfl) ?_
  refine lv_iconst (v := 4) hx hb dX6_init_10 (by decide) ?_
  refine N_newa (t := 0) (n := 4) (ns := 0) (nc := 0) C hW (by decide) wn_1_70 (by decide) rfl rfl rfl rfl dX6_init_11 (fun q1 H hW => ?_)
  refine N_putF 0 C hW hin ffX6_15 rfl rfl rfl (ltb rfl) dX6_init_13 (fun H locs hW => ?_)
  have hW : Wd D A s.heap [(h0, .inr (6, [.int 0, .ref q1, .null, .int 0, .int 0, .int 0, .int 0])), (q1, .inl (cA 0, 4, zA 0))] _ _ := hW
  refine lv_aload_n hx hb dX6_init_16 rfl (lv_at hl 0 rfl) ?_
  refine lv_bipush (v := 32) hx hb dX6_init_17 (by decide) ?_
  refine N_newa (t := 0) (n := 32) (ns := 4) (nc := 1) C hW (by decide) wn_1_70 (by decide) rfl rfl rfl rfl dX6_init_19 (fun q2 H hW => ?_)
  refine N_putF 0 C hW hin ffX6_19 rfl rfl rfl (ltb rfl) dX6_init_21 (fun H locs hW => ?_)
  have hW : Wd D A s.heap [(h0, .inr (6, [.int 0, .ref q1, .ref q2, .int 0, .int 0, .int 0, .int 0])), (q1, .inl (cA 0, 4, zA 0)), (q2, .inl (cA 0, 32, zA 0))] _ _ := hW
  refine lv_aload_n hx hb dX6_init_24 rfl (lv_at hl 0 rfl) ?_
  refine lv_iconst (v := 0) hx hb dX6_init_25 (by decide) ?_
  refine N_put 0 C hW fqX6_22 rfl rfl rfl (ltb rfl) dX6_init_26 (fun H locs hW => ?_)
  have hW : Wd D A s.heap [(h0, .inr (6, [.int 0, .ref q1, .ref q2, .int 0, .int 0, .int 0, .int 0])), (q1, .inl (cA 0, 4, zA 0)), (q2, .inl (cA 0, 32, zA 0))] _ _ := hW
  refine lv_aload_n hx hb dX6_init_29 rfl (lv_at hl 0 rfl) ?_
  refine lv_iconst (v := 0) hx hb dX6_init_30 (by decide) ?_
  refine N_put 0 C hW fqX6_25 rfl rfl rfl (ltb rfl) dX6_init_31 (fun H locs hW => ?_)
  have hW : Wd D A s.heap [(h0, .inr (6, [.int 0, .ref q1, .ref q2, .int 0, .int 0, .int 0, .int 0])), (q1, .inl (cA 0, 4, zA 0)), (q2, .inl (cA 0, 32, zA 0))] _ _ := hW
  refine lv_aload_n hx hb dX6_init_34 rfl (lv_at hl 0 rfl) ?_
  refine lv_iconst (v := 0) hx hb dX6_init_35 (by decide) ?_
  refine N_put 0 C hW fqX6_28 rfl rfl rfl (ltb rfl) dX6_init_36 (fun H locs hW => ?_)
  have hW : Wd D A s.heap [(h0, .inr (6, [.int 0, .ref q1, .ref q2, .int 0, .int 0, .int 0, .int 0])), (q1, .inl (cA 0, 4, zA 0)), (q2, .inl (cA 0, 32, zA 0))] _ _ := hW
  refine lv_aload_n hx hb dX6_init_39 rfl (lv_at hl 0 rfl) ?_
  refine lv_iconst (v := 0) hx hb dX6_init_40 (by decide) ?_
  refine N_put 0 C hW fqX6_31 rfl rfl rfl (ltb rfl) dX6_init_41 (fun H locs hW => ?_)
  have hW : Wd D A s.heap [(h0, .inr (6, [.int 0, .ref q1, .ref q2, .int 0, .int 0, .int 0, .int 0])), (q1, .inl (cA 0, 4, zA 0)), (q2, .inl (cA 0, 32, zA 0))] _ _ := hW
  exact N_vret (fun i => ([q1, q2] : List Nat).getD i 0) C hr hlk hW trivial rfl rfl dX6_init_44
def wX3 (cA : Nat → ClassId) (h0 : Nat) (f : Nat → Nat) : va_W := [(h0, .inr (3, [.ref (f 0), .ref (f 2), .int 0, .int 0, .int 0, .int 5, .int 0, .int 0, .int 0])), ((f 0), .inr (5, [.int 0, .int 3, .int 0, .int 0, .int 0, .ref (f 1)])), ((f 1), .inl (cA 3, 160, zA 3)), ((f 2), .inr (0, [.int 17, .int 0, .int 0, .int 0, .ref (f 3), .ref (f 4), .ref (f 5), .ref (f 6)])), ((f 3), .inl (cA 0, 5, zA 0)), ((f 4), .inl (cA 0, 5, zA 0)), ((f 5), .inl (cA 0, 6, zA 0)), ((f 6), .inl (cA 0, 6, zA 0))]
set_option maxRecDepth 20000 in
theorem mkX3 : Mk MX3_init 3 [.null, .null, .int 0, .int 0, .int 0, .int 0, .int 0, .int 0, .int 0] 7 196 wX3 (fun _ _ _ => True) := by
  refine Mk.of (by decide +kernel) rfl rfl (by decide) ?_
  intro p l e Rm s m args below meth c g D cA A h0 lr C hin hr hlk hW hl
  have hx := C.1
  have hb := C.2.1
  refine lv_aload_n hx hb dX3_init_0 rfl (lv_at hl 0 rfl) ?_
  refine N_obj C wn_1_115 hl.1 rfl dX3_init_1 ?_
  refine lv_aload_n hx hb dX3_init_4 rfl (lv_at hl 0 rfl) ?_
  refine N_new (ns := 0) (nc := 0) C hW cnX3_9 rfl rfl dX3_init_5 (fun q1 H hW => ?_)
  refine lv_dup hx hb dX3_init_8 rfl ?_
  refine N_init (ns := 6) (nc := 1) mkX5 C hW wn_1_120 rfl wn_1_5 (by decide +kernel) (by decide) wn_1_119 rfl (Or.inr ⟨_, List.mem_of_getElem? (i := 3) rfl⟩) rfl rfl rfl hl.1 (leb rfl) dX3_init_9 (fun f1 H locs _ hW => ?_)
  refine N_putF 0 C hW hin ffX3_12 rfl rfl rfl (ltb rfl) dX3_init_12 (fun H locs hW => ?_)
  have hW : Wd D A s.heap [(h0, .inr (3, [.ref q1, .null, .int 0, .int 0, .int 0, .int 0, .int 0, .int 0, .int 0])), (q1, .inr (5, [.int 0, .int 3, .int 0, .int 0, .int 0, .ref (f1 0)])), ((f1 0), .inl (cA 3, 160, zA 3))] _ _ := hW
  refine lv_aload_n hx hb dX3_init_15 rfl (lv_at hl 0 rfl) ?_
  refine N_new (ns := 166) (nc := 2) C hW cnX3_18 rfl rfl dX3_init_16 (fun q2 H hW => ?_)
  refine lv_dup hx hb dX3_init_19 rfl ?_
  refine N_init (ns := 174) (nc := 3) mkX0 C hW wn_1_28 rfl wn_1_2 (by decide +kernel) (by decide) wn_1_27 rfl (Or.inr ⟨_, List.mem_of_getElem? (i := 4) rfl⟩) rfl rfl rfl hl.1 (leb rfl) dX3_init_20 (fun f2 H locs _ hW => ?_)
  refine N_putF 0 C hW hin ffX3_21 rfl rfl rfl (ltb rfl) dX3_init_23 (fun H locs hW => ?_)
  have hW : Wd D A s.heap [(h0, .inr (3, [.ref q1, .ref q2, .int 0, .int 0, .int 0, .int 0, .int 0, .int 0, .int 0])), (q1, .inr (5, [.int 0, .int 3, .int 0, .int 0, .int 0, .ref (f1 0)])), ((f1 0), .inl (cA 3, 160, zA 3)), (q2, .inr (0, [.int 17, .int 0, .int 0, .int 0, .ref (f2 0), .ref (f2 1), .ref (f2 2), .ref (f2 3)])), ((f2 0), .inl (cA 0, 5, zA 0)), ((f2 1), .inl (cA 0, 5, zA 0)), ((f2 2), .inl (cA 0, 6, zA 0)), ((f2 3), .inl (cA 0, 6, zA 0))] _ _ := hW
  refine lv_aload_n hx hb dX3_init_26 rfl (lv_at hl 0 rfl) ?_
  refine lv_iconst (v := 0) hx hb dX3_init_27 (by decide) ?_
  refine N_put 0 C hW fqX3_25 rfl rfl rfl (ltb rfl) dX3_init_28 (fun H locs hW => ?_)
  have hW : Wd D A s.heap [(h0, .inr (3, [.ref q1, .ref q2, .int 0, .int 0, .int 0, .int 0, .int 0, .int 0, .int 0])), (q1, .inr (5, [.int 0, .int 3, .int 0, .int 0, .int 0, .ref (f1 0)])), ((f1 0), .inl (cA 3, 160, zA 3)), (q2, .inr (0, [.int 17, .int 0, .int 0, .int 0, .ref (f2 0), .ref (f2 1), .ref (f2 2), .ref (f2 3)])), ((f2 0), .inl (cA 0, 5, zA 0)), ((f2 1), .inl (cA 0, 5, zA 0)), ((f2 2), .inl (cA 0, 6, zA 0)), ((f2 3), .inl (cA 0, 6, zA 0))] _ _ := hW
  refine lv_aload_n hx hb dX3_init_31 rfl (lv_at hl 0 rfl) ?_
  refine lv_iconst (v := 0) hx hb dX3_init_32 (by decide) ?_
  refine N_put 0 C hW fqX3_29 rfl rfl rfl (ltb rfl) dX3_init_33 (fun H locs hW => ?_)
  have hW : Wd D A s.heap [(h0, .inr (3, [.ref q1, .ref q2, .int 0, .int 0, .int 0, .int 0, .int 0, .int 0, .int 0])), (q1, .inr (5, [.int 0, .int 3, .int 0, .int 0, .int 0, .ref (f1 0)])), ((f1 0), .inl (cA 3, 160, zA 3)), (q2, .inr (0, [.int 17, .int 0, .int 0, .int 0, .ref (f2 0), .ref (f2 1), .ref (f2 2), .ref (f2 3)])), ((f2 0), .inl (cA 0, 5, zA 0)), ((f2 1), .inl (cA 0, 5, zA 0)), ((f2 2), .inl (cA 0, 6, zA 0)), ((f2 3), .inl (cA 0, 6, zA 0))] _ _ := hW
  refine lv_aload_n hx hb dX3_init_36 rfl (lv_at hl 0 rfl) ?_
  refine lv_iconst (v := 0) hx hb dX3_init_37 (by decide) ?_
  refine N_put 0 C hW fqX3_32 rfl rfl rfl (ltb rfl) dX3_init_38 (fun H locs hW => ?_)
  have hW : Wd D A s.heap [(h0, .inr (3, [.ref q1, .ref q2, .int 0, .int 0, .int 0, .int 0, .int 0, .int 0, .int 0])), (q1, .inr (5, [.int 0, .int 3, .int 0, .int 0, .int 0, .ref (f1 0)])), ((f1 0), .inl (cA 3, 160, zA 3)), (q2, .inr (0, [.int 17, .int 0, .int 0, .int 0, .ref (f2 0), .ref (f2 1), .ref (f2 2), .ref (f2 3)])), ((f2 0), .inl (cA 0, 5, zA 0)), ((f2 1), .inl (cA 0, 5, zA 0)), ((f2 2), .inl (cA 0, 6, zA 0)), ((f2 3), .inl (cA 0, 6, zA 0))] _ _ := hW
  refine lv_aload_n hx hb dX3_init_41 rfl (lv_at hl 0 rfl) ?_
  refine lv_iconst (v := 5) hx hb dX3_init_42 (by decide) ?_
  refine N_put 0 C hW fqX3_35 rfl rfl rfl (ltb rfl) dX3_init_43 (fun H locs hW => ?_)
  have hW : Wd D A s.heap [(h0, .inr (3, [.ref q1, .ref q2, .int 0, .int 0, .int 0, .int 5, .int 0, .int 0, .int 0])), (q1, .inr (5, [.int 0, .int 3, .int 0, .int 0, .int 0, .ref (f1 0)])), ((f1 0), .inl (cA 3, 160, zA 3)), (q2, .inr (0, [.int 17, .int 0, .int 0, .int 0, .ref (f2 0), .ref (f2 1), .ref (f2 2), .ref (f2 3)])), ((f2 0), .inl (cA 0, 5, zA 0)), ((f2 1), .inl (cA 0, 5, zA 0)), ((f2 2), .inl (cA 0, 6, zA 0)), ((f2 3), .inl (cA 0, 6, zA 0))] _ _ := hW
  refine lv_aload_n hx hb dX3_init_46 rfl (lv_at hl 0 rfl) ?_
  refine lv_iconst (v := 0) hx hb dX3_init_47 (by decide) ?_
  refine N_put 0 C hW fqX3_38 rfl rfl rfl (ltb rfl) dX3_init_48 (fun H locs hW => ?_)
  have hW : Wd D A s.heap [(h0, .inr (3, [.ref q1, .ref q2, .int 0, .int 0, .int 0, .int 5, .int 0, .int 0, .int 0])), (q1, .inr (5, [.int 0, .int 3, .int 0, .int 0, .int 0, .ref (f1 0)])), ((f1 0), .inl (cA 3, 160, zA 3)), (q2, .inr (0, [.int 17, .int 0, .int 0, .int 0, .ref (f2 0), .ref (f2 1), .ref (f2 2), .ref (f2 3)])), ((f2 0), .inl (cA 0, 5, zA 0)), ((f2 1), .inl (cA 0, 5, zA 0)), ((f2 2), .inl (cA 0, 6, zA 0)), ((f2 3), .inl (cA 0, 6, zA 0))] _ _ := hW
  refine lv_aload_n hx hb dX3_init_51 rfl (lv_at hl 0 rfl) ?_
  refine lv_iconst (v := 0) hx hb dX3_init_52 (by decide) ?_
  refine N_put 0 C hW fqX3_41 rfl rfl rfl (ltb rfl) dX3_init_53 (fun H locs hW => ?_)
  have hW : Wd D A s.heap [(h0, .inr (3, [.ref q1, .ref q2, .int 0, .int 0, .int 0, .int 5, .int 0, .int 0, .int 0])), (q1, .inr (5, [.int 0, .int 3, .int 0, .int 0, .int 0, .ref (f1 0)])), ((f1 0), .inl (cA 3, 160, zA 3)), (q2, .inr (0, [.int 17, .int 0, .int 0, .int 0, .ref (f2 0), .ref (f2 1), .ref (f2 2), .ref (f2 3)])), ((f2 0), .inl (cA 0, 5, zA 0)), ((f2 1), .inl (cA 0, 5, zA 0)), ((f2 2), .inl (cA 0, 6, zA 0)), ((f2 3), .inl (cA 0, 6, zA 0))] _ _ := hW
  refine lv_aload_n hx hb dX3_init_56 rfl (lv_at hl 0 rfl) ?_
  refine lv_iconst (v := 0) hx hb dX3_init_57 (by decide) ?_
  refine N_put 0 C hW fqX3_45 rfl rfl rfl (ltb rfl) dX3_init_58 (fun H locs hW => ?_)
  have hW : Wd D A s.heap [(h0, .inr (3, [.ref q1, .ref q2, .int 0, .int 0, .int 0, .int 5, .int 0, .int 0, .int 0])), (q1, .inr (5, [.int 0, .int 3, .int 0, .int 0, .int 0, .ref (f1 0)])), ((f1 0), .inl (cA 3, 160, zA 3)), (q2, .inr (0, [.int 17, .int 0, .int 0, .int 0, .ref (f2 0), .ref (f2 1), .ref (f2 2), .ref (f2 3)])), ((f2 0), .inl (cA 0, 5, zA 0)), ((f2 1), .inl (cA 0, 5, zA 0)), ((f2 2), .inl (cA 0, 6, zA 0)), ((f2 3), .inl (cA 0, 6, zA 0))] _ _ := hW
  exact N_vret (fun i => ([q1, (f1 0), q2, (f2 0), (f2 1), (f2 2), (f2 3)] : List Nat).getD i 0) C hr hlk hW trivial rfl rfl dX3_init_61
