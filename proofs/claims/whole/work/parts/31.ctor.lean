theorem loRX8_3 : LkO RX8 3 := ⟨(List.mem_filter.mpr ⟨List.mem_of_getElem? (i := 81) (by decide +kernel), by decide +kernel⟩), (List.mem_filter.mpr ⟨List.mem_of_getElem? (i := 82) (by decide +kernel), by decide +kernel⟩), (List.mem_filter.mpr ⟨List.mem_of_getElem? (i := 83) (by decide +kernel), by decide +kernel⟩)⟩
theorem cq1 : kd 1 = (6, 0) := by decide +kernel
theorem clRX8_9 : Cond.classLink RX8 9 RX6 ∈ gtb := (List.mem_filter.mpr ⟨List.mem_of_getElem? (i := 84) (by decide +kernel), by decide +kernel⟩)
theorem ci6 : Cond.instantiable (cC 6) (nf 6) ∈ gtb := (List.mem_filter.mpr ⟨List.mem_of_getElem? (i := 85) (by decide +kernel), by decide +kernel⟩)
theorem cn6 : Cond.initialized (cC 6) ∈ gtb := (List.mem_filter.mpr ⟨List.mem_of_getElem? (i := 63) (by decide +kernel), by decide +kernel⟩)
abbrev mX6_init : MI := (yX6_init, cX6_init, 1, none, 1)
theorem lb_X6_init : LkB mX6_init 0 := ⟨(List.mem_filter.mpr ⟨List.mem_of_getElem? (i := 63) (by decide +kernel), by decide +kernel⟩), (List.mem_filter.mpr ⟨List.mem_of_getElem? (i := 88) (by decide +kernel), by decide +kernel⟩), by decide, by decide, by decide +kernel⟩
theorem liRX8_11 : LkI RX8 11 mX6_init := ⟨lb_X6_init, Or.inr ⟨"UnsaidScales", (List.mem_of_getElem? (i := 86) (by decide +kernel))⟩, (List.mem_filter.mpr ⟨List.mem_of_getElem? (i := 87) (by decide +kernel), by decide +kernel⟩), rfl⟩
theorem loRX6_3 : LkO RX6 3 := ⟨(List.mem_filter.mpr ⟨List.mem_of_getElem? (i := 89) (by decide +kernel), by decide +kernel⟩), (List.mem_filter.mpr ⟨List.mem_of_getElem? (i := 82) (by decide +kernel), by decide +kernel⟩), (List.mem_filter.mpr ⟨List.mem_of_getElem? (i := 83) (by decide +kernel), by decide +kernel⟩)⟩
theorem ac1 : Cond.arrayClass .char ∈ gtb := (List.mem_filter.mpr ⟨List.mem_of_getElem? (i := 105) (by decide +kernel), by decide +kernel⟩)
theorem cq2 : kd 2 = (11, 150) := by decide +kernel
theorem lhRX6_9 : Cond.fieldLink RX6 9 (cC 6) (cT 6 0).2.1 (cT 6 0).2.2.1 ∈ gtb := (List.mem_filter.mpr ⟨List.mem_of_getElem? (i := 90) (by decide +kernel), by decide +kernel⟩)
theorem lhRX6_15 : Cond.fieldLink RX6 15 (cC 6) (cT 6 3).2.1 (cT 6 3).2.2.1 ∈ gtb := (List.mem_filter.mpr ⟨List.mem_of_getElem? (i := 94) (by decide +kernel), by decide +kernel⟩)
theorem lhRX8_12 : Cond.fieldLink RX8 12 (cC 8) (cT 8 0).2.1 (cT 8 0).2.2.1 ∈ gtb := (List.mem_filter.mpr ⟨List.mem_of_getElem? (i := 340) (by decide +kernel), by decide +kernel⟩)
theorem cq0 : kd 0 = (8, 0) := by decide +kernel
theorem cq3 : kd 3 = (7, 0) := by decide +kernel
theorem clRX8_16 : Cond.classLink RX8 16 RX7 ∈ gtb := (List.mem_filter.mpr ⟨List.mem_of_getElem? (i := 106) (by decide +kernel), by decide +kernel⟩)
theorem ci7 : Cond.instantiable (cC 7) (nf 7) ∈ gtb := (List.mem_filter.mpr ⟨List.mem_of_getElem? (i := 107) (by decide +kernel), by decide +kernel⟩)
theorem cn7 : Cond.initialized (cC 7) ∈ gtb := (List.mem_filter.mpr ⟨List.mem_of_getElem? (i := 64) (by decide +kernel), by decide +kernel⟩)
abbrev mX7_init : MI := (yX7_init, cX7_init, 1, none, 1)
theorem lb_X7_init : LkB mX7_init 0 := ⟨(List.mem_filter.mpr ⟨List.mem_of_getElem? (i := 64) (by decide +kernel), by decide +kernel⟩), (List.mem_filter.mpr ⟨List.mem_of_getElem? (i := 110) (by decide +kernel), by decide +kernel⟩), by decide, by decide, by decide +kernel⟩
theorem liRX8_18 : LkI RX8 18 mX7_init := ⟨lb_X7_init, Or.inr ⟨"UnsaidScales", (List.mem_of_getElem? (i := 108) (by decide +kernel))⟩, (List.mem_filter.mpr ⟨List.mem_of_getElem? (i := 109) (by decide +kernel), by decide +kernel⟩), rfl⟩
theorem loRX7_3 : LkO RX7 3 := ⟨(List.mem_filter.mpr ⟨List.mem_of_getElem? (i := 111) (by decide +kernel), by decide +kernel⟩), (List.mem_filter.mpr ⟨List.mem_of_getElem? (i := 82) (by decide +kernel), by decide +kernel⟩), (List.mem_filter.mpr ⟨List.mem_of_getElem? (i := 83) (by decide +kernel), by decide +kernel⟩)⟩
theorem ac0 : Cond.arrayClass .int ∈ gtb := (List.mem_filter.mpr ⟨List.mem_of_getElem? (i := 145) (by decide +kernel), by decide +kernel⟩)
theorem cq4 : kd 4 = (10, 4) := by decide +kernel
theorem lhRX7_9 : Cond.fieldLink RX7 9 (cC 7) (cT 7 0).2.1 (cT 7 0).2.2.1 ∈ gtb := (List.mem_filter.mpr ⟨List.mem_of_getElem? (i := 112) (by decide +kernel), by decide +kernel⟩)
theorem cq5 : kd 5 = (10, 16) := by decide +kernel
theorem lhRX7_15 : Cond.fieldLink RX7 15 (cC 7) (cT 7 1).2.1 (cT 7 1).2.2.1 ∈ gtb := (List.mem_filter.mpr ⟨List.mem_of_getElem? (i := 115) (by decide +kernel), by decide +kernel⟩)
theorem cq6 : kd 6 = (10, 16) := by decide +kernel
theorem lhRX7_18 : Cond.fieldLink RX7 18 (cC 7) (cT 7 2).2.1 (cT 7 2).2.2.1 ∈ gtb := (List.mem_filter.mpr ⟨List.mem_of_getElem? (i := 118) (by decide +kernel), by decide +kernel⟩)
theorem cq7 : kd 7 = (10, 5) := by decide +kernel
theorem lhRX7_21 : Cond.fieldLink RX7 21 (cC 7) (cT 7 3).2.1 (cT 7 3).2.2.1 ∈ gtb := (List.mem_filter.mpr ⟨List.mem_of_getElem? (i := 121) (by decide +kernel), by decide +kernel⟩)
theorem lhRX8_19 : Cond.fieldLink RX8 19 (cC 8) (cT 8 1).2.1 (cT 8 1).2.2.1 ∈ gtb := (List.mem_filter.mpr ⟨List.mem_of_getElem? (i := 341) (by decide +kernel), by decide +kernel⟩)
theorem cq8 : kd 8 = (7, 0) := by decide +kernel
theorem cq9 : kd 9 = (10, 4) := by decide +kernel
theorem cq10 : kd 10 = (10, 16) := by decide +kernel
theorem cq11 : kd 11 = (10, 16) := by decide +kernel
theorem cq12 : kd 12 = (10, 5) := by decide +kernel
theorem lhRX8_23 : Cond.fieldLink RX8 23 (cC 8) (cT 8 2).2.1 (cT 8 2).2.2.1 ∈ gtb := (List.mem_filter.mpr ⟨List.mem_of_getElem? (i := 342) (by decide +kernel), by decide +kernel⟩)
theorem cq13 : kd 13 = (4, 0) := by decide +kernel
theorem clRX8_26 : Cond.classLink RX8 26 RX4 ∈ gtb := (List.mem_filter.mpr ⟨List.mem_of_getElem? (i := 146) (by decide +kernel), by decide +kernel⟩)
theorem ci4 : Cond.instantiable (cC 4) (nf 4) ∈ gtb := (List.mem_filter.mpr ⟨List.mem_of_getElem? (i := 147) (by decide +kernel), by decide +kernel⟩)
theorem cn4 : Cond.initialized (cC 4) ∈ gtb := (List.mem_filter.mpr ⟨List.mem_of_getElem? (i := 65) (by decide +kernel), by decide +kernel⟩)
abbrev mX4_init : MI := (yX4_init, cX4_init, 1, none, 1)
theorem lb_X4_init : LkB mX4_init 0 := ⟨(List.mem_filter.mpr ⟨List.mem_of_getElem? (i := 65) (by decide +kernel), by decide +kernel⟩), (List.mem_filter.mpr ⟨List.mem_of_getElem? (i := 150) (by decide +kernel), by decide +kernel⟩), by decide, by decide, by decide +kernel⟩
theorem liRX8_28 : LkI RX8 28 mX4_init := ⟨lb_X4_init, Or.inr ⟨"UnsaidScales", (List.mem_of_getElem? (i := 148) (by decide +kernel))⟩, (List.mem_filter.mpr ⟨List.mem_of_getElem? (i := 149) (by decide +kernel), by decide +kernel⟩), rfl⟩
theorem loRX4_3 : LkO RX4 3 := ⟨(List.mem_filter.mpr ⟨List.mem_of_getElem? (i := 151) (by decide +kernel), by decide +kernel⟩), (List.mem_filter.mpr ⟨List.mem_of_getElem? (i := 82) (by decide +kernel), by decide +kernel⟩), (List.mem_filter.mpr ⟨List.mem_of_getElem? (i := 83) (by decide +kernel), by decide +kernel⟩)⟩
theorem cq14 : kd 14 = (10, 16) := by decide +kernel
theorem lhRX4_9 : Cond.fieldLink RX4 9 (cC 4) (cT 4 0).2.1 (cT 4 0).2.2.1 ∈ gtb := (List.mem_filter.mpr ⟨List.mem_of_getElem? (i := 152) (by decide +kernel), by decide +kernel⟩)
theorem lhRX8_29 : Cond.fieldLink RX8 29 (cC 8) (cT 8 3).2.1 (cT 8 3).2.2.1 ∈ gtb := (List.mem_filter.mpr ⟨List.mem_of_getElem? (i := 343) (by decide +kernel), by decide +kernel⟩)
theorem cq15 : kd 15 = (2, 0) := by decide +kernel
theorem clRX8_33 : Cond.classLink RX8 33 RX2 ∈ gtb := (List.mem_filter.mpr ⟨List.mem_of_getElem? (i := 165) (by decide +kernel), by decide +kernel⟩)
theorem ci2 : Cond.instantiable (cC 2) (nf 2) ∈ gtb := (List.mem_filter.mpr ⟨List.mem_of_getElem? (i := 166) (by decide +kernel), by decide +kernel⟩)
theorem cn2 : Cond.initialized (cC 2) ∈ gtb := (List.mem_filter.mpr ⟨List.mem_of_getElem? (i := 66) (by decide +kernel), by decide +kernel⟩)
abbrev mX2_init : MI := (yX2_init, cX2_init, 2, none, 2)
theorem lb_X2_init : LkB mX2_init 0 := ⟨(List.mem_filter.mpr ⟨List.mem_of_getElem? (i := 66) (by decide +kernel), by decide +kernel⟩), (List.mem_filter.mpr ⟨List.mem_of_getElem? (i := 169) (by decide +kernel), by decide +kernel⟩), by decide, by decide, by decide +kernel⟩
theorem liRX8_35 : LkI RX8 35 mX2_init := ⟨lb_X2_init, Or.inl (List.mem_filter.mpr ⟨List.mem_of_getElem? (i := 167) (by decide +kernel), by decide +kernel⟩), (List.mem_filter.mpr ⟨List.mem_of_getElem? (i := 168) (by decide +kernel), by decide +kernel⟩), rfl⟩
theorem loRX2_3 : LkO RX2 3 := ⟨(List.mem_filter.mpr ⟨List.mem_of_getElem? (i := 170) (by decide +kernel), by decide +kernel⟩), (List.mem_filter.mpr ⟨List.mem_of_getElem? (i := 82) (by decide +kernel), by decide +kernel⟩), (List.mem_filter.mpr ⟨List.mem_of_getElem? (i := 83) (by decide +kernel), by decide +kernel⟩)⟩
theorem clRX2_9 : Cond.classLink RX2 9 RX4 ∈ gtb := (List.mem_filter.mpr ⟨List.mem_of_getElem? (i := 171) (by decide +kernel), by decide +kernel⟩)
theorem cq16 : kd 16 = (14, 10) := by decide +kernel
theorem lhRX2_11 : Cond.fieldLink RX2 11 (cC 2) (cT 2 0).2.1 (cT 2 0).2.2.1 ∈ gtb := (List.mem_filter.mpr ⟨List.mem_of_getElem? (i := 174) (by decide +kernel), by decide +kernel⟩)
theorem cq17 : kd 17 = (4, 0) := by decide +kernel
theorem liRX2_17 : LkI RX2 17 mX4_init := ⟨lb_X4_init, Or.inr ⟨"UnsaidScales", (List.mem_of_getElem? (i := 173) (by decide +kernel))⟩, (List.mem_filter.mpr ⟨List.mem_of_getElem? (i := 149) (by decide +kernel), by decide +kernel⟩), rfl⟩
theorem cq18 : kd 18 = (10, 16) := by decide +kernel
theorem cq19 : kd 19 = (4, 0) := by decide +kernel
theorem cq20 : kd 20 = (10, 16) := by decide +kernel
theorem cq21 : kd 21 = (4, 0) := by decide +kernel
theorem cq22 : kd 22 = (10, 16) := by decide +kernel
theorem cq23 : kd 23 = (4, 0) := by decide +kernel
theorem cq24 : kd 24 = (10, 16) := by decide +kernel
theorem cq25 : kd 25 = (4, 0) := by decide +kernel
theorem cq26 : kd 26 = (10, 16) := by decide +kernel
theorem cq27 : kd 27 = (4, 0) := by decide +kernel
theorem cq28 : kd 28 = (10, 16) := by decide +kernel
theorem cq29 : kd 29 = (4, 0) := by decide +kernel
theorem cq30 : kd 30 = (10, 16) := by decide +kernel
theorem cq31 : kd 31 = (4, 0) := by decide +kernel
theorem cq32 : kd 32 = (10, 16) := by decide +kernel
theorem cq33 : kd 33 = (4, 0) := by decide +kernel
theorem cq34 : kd 34 = (10, 16) := by decide +kernel
theorem cq35 : kd 35 = (4, 0) := by decide +kernel
theorem cq36 : kd 36 = (10, 16) := by decide +kernel
theorem lhRX8_36 : Cond.fieldLink RX8 36 (cC 8) (cT 8 4).2.1 (cT 8 4).2.2.1 ∈ gtb := (List.mem_filter.mpr ⟨List.mem_of_getElem? (i := 344) (by decide +kernel), by decide +kernel⟩)
theorem cq37 : kd 37 = (14, 2) := by decide +kernel
theorem cq38 : kd 38 = (4, 0) := by decide +kernel
theorem cq39 : kd 39 = (10, 16) := by decide +kernel
theorem cq40 : kd 40 = (4, 0) := by decide +kernel
theorem cq41 : kd 41 = (10, 16) := by decide +kernel
theorem lhRX8_40 : Cond.fieldLink RX8 40 (cC 8) (cT 8 5).2.1 (cT 8 5).2.2.1 ∈ gtb := (List.mem_filter.mpr ⟨List.mem_of_getElem? (i := 345) (by decide +kernel), by decide +kernel⟩)
theorem ac3 : Cond.arrayClass .boolean ∈ gtb := (List.mem_filter.mpr ⟨List.mem_of_getElem? (i := 204) (by decide +kernel), by decide +kernel⟩)
theorem cq42 : kd 42 = (13, 2) := by decide +kernel
theorem lhRX8_44 : Cond.fieldLink RX8 44 (cC 8) (cT 8 6).2.1 (cT 8 6).2.2.1 ∈ gtb := (List.mem_filter.mpr ⟨List.mem_of_getElem? (i := 346) (by decide +kernel), by decide +kernel⟩)
theorem cq43 : kd 43 = (5, 0) := by decide +kernel
theorem clRX8_48 : Cond.classLink RX8 48 RX5 ∈ gtb := (List.mem_filter.mpr ⟨List.mem_of_getElem? (i := 185) (by decide +kernel), by decide +kernel⟩)
theorem ci5 : Cond.instantiable (cC 5) (nf 5) ∈ gtb := (List.mem_filter.mpr ⟨List.mem_of_getElem? (i := 186) (by decide +kernel), by decide +kernel⟩)
theorem cn5 : Cond.initialized (cC 5) ∈ gtb := (List.mem_filter.mpr ⟨List.mem_of_getElem? (i := 67) (by decide +kernel), by decide +kernel⟩)
abbrev mX5_init : MI := (yX5_init, cX5_init, 1, none, 1)
theorem lb_X5_init : LkB mX5_init 0 := ⟨(List.mem_filter.mpr ⟨List.mem_of_getElem? (i := 67) (by decide +kernel), by decide +kernel⟩), (List.mem_filter.mpr ⟨List.mem_of_getElem? (i := 189) (by decide +kernel), by decide +kernel⟩), by decide, by decide, by decide +kernel⟩
theorem liRX8_50 : LkI RX8 50 mX5_init := ⟨lb_X5_init, Or.inr ⟨"UnsaidScales", (List.mem_of_getElem? (i := 187) (by decide +kernel))⟩, (List.mem_filter.mpr ⟨List.mem_of_getElem? (i := 188) (by decide +kernel), by decide +kernel⟩), rfl⟩
theorem loRX5_3 : LkO RX5 3 := ⟨(List.mem_filter.mpr ⟨List.mem_of_getElem? (i := 190) (by decide +kernel), by decide +kernel⟩), (List.mem_filter.mpr ⟨List.mem_of_getElem? (i := 82) (by decide +kernel), by decide +kernel⟩), (List.mem_filter.mpr ⟨List.mem_of_getElem? (i := 83) (by decide +kernel), by decide +kernel⟩)⟩
theorem ac2 : Cond.arrayClass .short ∈ gtb := (List.mem_filter.mpr ⟨List.mem_of_getElem? (i := 205) (by decide +kernel), by decide +kernel⟩)
theorem cq44 : kd 44 = (12, 4096) := by decide +kernel
theorem lhRX5_9 : Cond.fieldLink RX5 9 (cC 5) (cT 5 0).2.1 (cT 5 0).2.2.1 ∈ gtb := (List.mem_filter.mpr ⟨List.mem_of_getElem? (i := 191) (by decide +kernel), by decide +kernel⟩)
theorem cq45 : kd 45 = (10, 4) := by decide +kernel
theorem lhRX5_15 : Cond.fieldLink RX5 15 (cC 5) (cT 5 1).2.1 (cT 5 1).2.2.1 ∈ gtb := (List.mem_filter.mpr ⟨List.mem_of_getElem? (i := 192) (by decide +kernel), by decide +kernel⟩)
theorem lhRX5_19 : Cond.fieldLink RX5 19 (cC 5) (cT 5 2).2.1 (cT 5 2).2.2.1 ∈ gtb := (List.mem_filter.mpr ⟨List.mem_of_getElem? (i := 193) (by decide +kernel), by decide +kernel⟩)
theorem lhRX8_51 : Cond.fieldLink RX8 51 (cC 8) (cT 8 7).2.1 (cT 8 7).2.2.1 ∈ gtb := (List.mem_filter.mpr ⟨List.mem_of_getElem? (i := 347) (by decide +kernel), by decide +kernel⟩)
theorem cq46 : kd 46 = (0, 0) := by decide +kernel
theorem clRX8_55 : Cond.classLink RX8 55 RX0 ∈ gtb := (List.mem_filter.mpr ⟨List.mem_of_getElem? (i := 206) (by decide +kernel), by decide +kernel⟩)
theorem ci0 : Cond.instantiable (cC 0) (nf 0) ∈ gtb := (List.mem_filter.mpr ⟨List.mem_of_getElem? (i := 207) (by decide +kernel), by decide +kernel⟩)
theorem cn0 : Cond.initialized (cC 0) ∈ gtb := (List.mem_filter.mpr ⟨List.mem_of_getElem? (i := 68) (by decide +kernel), by decide +kernel⟩)
abbrev mX0_init : MI := (yX0_init, cX0_init, 1, none, 1)
theorem lb_X0_init : LkB mX0_init 0 := ⟨(List.mem_filter.mpr ⟨List.mem_of_getElem? (i := 68) (by decide +kernel), by decide +kernel⟩), (List.mem_filter.mpr ⟨List.mem_of_getElem? (i := 210) (by decide +kernel), by decide +kernel⟩), by decide, by decide, by decide +kernel⟩
theorem liRX8_57 : LkI RX8 57 mX0_init := ⟨lb_X0_init, Or.inr ⟨"UnsaidScales", (List.mem_of_getElem? (i := 208) (by decide +kernel))⟩, (List.mem_filter.mpr ⟨List.mem_of_getElem? (i := 209) (by decide +kernel), by decide +kernel⟩), rfl⟩
theorem loRX0_3 : LkO RX0 3 := ⟨(List.mem_filter.mpr ⟨List.mem_of_getElem? (i := 211) (by decide +kernel), by decide +kernel⟩), (List.mem_filter.mpr ⟨List.mem_of_getElem? (i := 82) (by decide +kernel), by decide +kernel⟩), (List.mem_filter.mpr ⟨List.mem_of_getElem? (i := 83) (by decide +kernel), by decide +kernel⟩)⟩
theorem cq47 : kd 47 = (10, 32) := by decide +kernel
theorem lhRX0_11 : Cond.fieldLink RX0 11 (cC 0) (cT 0 0).2.1 (cT 0 0).2.2.1 ∈ gtb := (List.mem_filter.mpr ⟨List.mem_of_getElem? (i := 212) (by decide +kernel), by decide +kernel⟩)
theorem cq48 : kd 48 = (10, 301) := by decide +kernel
theorem lhRX0_15 : Cond.fieldLink RX0 15 (cC 0) (cT 0 1).2.1 (cT 0 1).2.2.1 ∈ gtb := (List.mem_filter.mpr ⟨List.mem_of_getElem? (i := 213) (by decide +kernel), by decide +kernel⟩)
theorem lhRX8_58 : Cond.fieldLink RX8 58 (cC 8) (cT 8 8).2.1 (cT 8 8).2.2.1 ∈ gtb := (List.mem_filter.mpr ⟨List.mem_of_getElem? (i := 348) (by decide +kernel), by decide +kernel⟩)
theorem cq49 : kd 49 = (3, 0) := by decide +kernel
theorem clRX8_62 : Cond.classLink RX8 62 RX3 ∈ gtb := (List.mem_filter.mpr ⟨List.mem_of_getElem? (i := 219) (by decide +kernel), by decide +kernel⟩)
theorem ci3 : Cond.instantiable (cC 3) (nf 3) ∈ gtb := (List.mem_filter.mpr ⟨List.mem_of_getElem? (i := 220) (by decide +kernel), by decide +kernel⟩)
theorem cn3 : Cond.initialized (cC 3) ∈ gtb := (List.mem_filter.mpr ⟨List.mem_of_getElem? (i := 69) (by decide +kernel), by decide +kernel⟩)
abbrev mX3_init : MI := (yX3_init, cX3_init, 1, none, 1)
theorem lb_X3_init : LkB mX3_init 0 := ⟨(List.mem_filter.mpr ⟨List.mem_of_getElem? (i := 69) (by decide +kernel), by decide +kernel⟩), (List.mem_filter.mpr ⟨List.mem_of_getElem? (i := 223) (by decide +kernel), by decide +kernel⟩), by decide, by decide, by decide +kernel⟩
theorem liRX8_64 : LkI RX8 64 mX3_init := ⟨lb_X3_init, Or.inr ⟨"UnsaidScales", (List.mem_of_getElem? (i := 221) (by decide +kernel))⟩, (List.mem_filter.mpr ⟨List.mem_of_getElem? (i := 222) (by decide +kernel), by decide +kernel⟩), rfl⟩
theorem loRX3_3 : LkO RX3 3 := ⟨(List.mem_filter.mpr ⟨List.mem_of_getElem? (i := 224) (by decide +kernel), by decide +kernel⟩), (List.mem_filter.mpr ⟨List.mem_of_getElem? (i := 82) (by decide +kernel), by decide +kernel⟩), (List.mem_filter.mpr ⟨List.mem_of_getElem? (i := 83) (by decide +kernel), by decide +kernel⟩)⟩
theorem cq50 : kd 50 = (10, 721) := by decide +kernel
theorem lhRX3_9 : Cond.fieldLink RX3 9 (cC 3) (cT 3 0).2.1 (cT 3 0).2.2.1 ∈ gtb := (List.mem_filter.mpr ⟨List.mem_of_getElem? (i := 225) (by decide +kernel), by decide +kernel⟩)
theorem cq51 : kd 51 = (10, 721) := by decide +kernel
theorem lhRX3_15 : Cond.fieldLink RX3 15 (cC 3) (cT 3 1).2.1 (cT 3 1).2.2.1 ∈ gtb := (List.mem_filter.mpr ⟨List.mem_of_getElem? (i := 226) (by decide +kernel), by decide +kernel⟩)
theorem lhRX8_65 : Cond.fieldLink RX8 65 (cC 8) (cT 8 9).2.1 (cT 8 9).2.2.1 ∈ gtb := (List.mem_filter.mpr ⟨List.mem_of_getElem? (i := 349) (by decide +kernel), by decide +kernel⟩)
theorem cq52 : kd 52 = (1, 0) := by decide +kernel
theorem clRX8_69 : Cond.classLink RX8 69 RX1 ∈ gtb := (List.mem_filter.mpr ⟨List.mem_of_getElem? (i := 246) (by decide +kernel), by decide +kernel⟩)
theorem ci1 : Cond.instantiable (cC 1) (nf 1) ∈ gtb := (List.mem_filter.mpr ⟨List.mem_of_getElem? (i := 247) (by decide +kernel), by decide +kernel⟩)
theorem cn1 : Cond.initialized (cC 1) ∈ gtb := (List.mem_filter.mpr ⟨List.mem_of_getElem? (i := 70) (by decide +kernel), by decide +kernel⟩)
abbrev mX1_init : MI := (yX1_init, cX1_init, 1, none, 1)
theorem lb_X1_init : LkB mX1_init 0 := ⟨(List.mem_filter.mpr ⟨List.mem_of_getElem? (i := 70) (by decide +kernel), by decide +kernel⟩), (List.mem_filter.mpr ⟨List.mem_of_getElem? (i := 250) (by decide +kernel), by decide +kernel⟩), by decide, by decide, by decide +kernel⟩
theorem liRX8_71 : LkI RX8 71 mX1_init := ⟨lb_X1_init, Or.inr ⟨"UnsaidScales", (List.mem_of_getElem? (i := 248) (by decide +kernel))⟩, (List.mem_filter.mpr ⟨List.mem_of_getElem? (i := 249) (by decide +kernel), by decide +kernel⟩), rfl⟩
theorem loRX1_5 : LkO RX1 5 := ⟨(List.mem_filter.mpr ⟨List.mem_of_getElem? (i := 251) (by decide +kernel), by decide +kernel⟩), (List.mem_filter.mpr ⟨List.mem_of_getElem? (i := 82) (by decide +kernel), by decide +kernel⟩), (List.mem_filter.mpr ⟨List.mem_of_getElem? (i := 83) (by decide +kernel), by decide +kernel⟩)⟩
theorem cq53 : kd 53 = (10, 6) := by decide +kernel
theorem lhRX1_11 : Cond.fieldLink RX1 11 (cC 1) (cT 1 0).2.1 (cT 1 0).2.2.1 ∈ gtb := (List.mem_filter.mpr ⟨List.mem_of_getElem? (i := 252) (by decide +kernel), by decide +kernel⟩)
theorem cq54 : kd 54 = (10, 6) := by decide +kernel
theorem lhRX1_15 : Cond.fieldLink RX1 15 (cC 1) (cT 1 1).2.1 (cT 1 1).2.2.1 ∈ gtb := (List.mem_filter.mpr ⟨List.mem_of_getElem? (i := 253) (by decide +kernel), by decide +kernel⟩)
theorem cq55 : kd 55 = (10, 6) := by decide +kernel
theorem lhRX1_18 : Cond.fieldLink RX1 18 (cC 1) (cT 1 2).2.1 (cT 1 2).2.2.1 ∈ gtb := (List.mem_filter.mpr ⟨List.mem_of_getElem? (i := 254) (by decide +kernel), by decide +kernel⟩)
theorem cq56 : kd 56 = (10, 6) := by decide +kernel
theorem lhRX1_21 : Cond.fieldLink RX1 21 (cC 1) (cT 1 3).2.1 (cT 1 3).2.2.1 ∈ gtb := (List.mem_filter.mpr ⟨List.mem_of_getElem? (i := 255) (by decide +kernel), by decide +kernel⟩)
theorem cq57 : kd 57 = (10, 6) := by decide +kernel
theorem lhRX1_24 : Cond.fieldLink RX1 24 (cC 1) (cT 1 4).2.1 (cT 1 4).2.2.1 ∈ gtb := (List.mem_filter.mpr ⟨List.mem_of_getElem? (i := 256) (by decide +kernel), by decide +kernel⟩)
theorem cq58 : kd 58 = (10, 721) := by decide +kernel
theorem lhRX1_27 : Cond.fieldLink RX1 27 (cC 1) (cT 1 5).2.1 (cT 1 5).2.2.1 ∈ gtb := (List.mem_filter.mpr ⟨List.mem_of_getElem? (i := 257) (by decide +kernel), by decide +kernel⟩)
theorem lhRX8_72 : Cond.fieldLink RX8 72 (cC 8) (cT 8 10).2.1 (cT 8 10).2.2.1 ∈ gtb := (List.mem_filter.mpr ⟨List.mem_of_getElem? (i := 350) (by decide +kernel), by decide +kernel⟩)
theorem lkRX8_76 : LkV RX8 76 mX7_makeEmpty 0 := ⟨lb_X7_makeEmpty, Or.inl (List.mem_filter.mpr ⟨List.mem_of_getElem? (i := 282) (by decide +kernel), by decide +kernel⟩), (List.mem_filter.mpr ⟨List.mem_of_getElem? (i := 283) (by decide +kernel), by decide +kernel⟩), (List.mem_filter.mpr ⟨List.mem_of_getElem? (i := 284) (by decide +kernel), by decide +kernel⟩)⟩
abbrev mX8_init : MI := (yX8_init, cX8_init, 1, none, 5)
theorem loRX9_1 : LkO RX9 1 := ⟨(List.mem_filter.mpr ⟨List.mem_of_getElem? (i := 812) (by decide +kernel), by decide +kernel⟩), (List.mem_filter.mpr ⟨List.mem_of_getElem? (i := 82) (by decide +kernel), by decide +kernel⟩), (List.mem_filter.mpr ⟨List.mem_of_getElem? (i := 83) (by decide +kernel), by decide +kernel⟩)⟩
theorem cq60 : kd 60 = (10, 150) := by decide +kernel
theorem lhRX9_7 : Cond.fieldLink RX9 7 (cC 9) (cT 9 2).2.1 (cT 9 2).2.2.1 ∈ gtb := (List.mem_filter.mpr ⟨List.mem_of_getElem? (i := 846) (by decide +kernel), by decide +kernel⟩)
theorem cq59 : kd 59 = (9, 0) := by decide +kernel
theorem cq61 : kd 61 = (10, 4) := by decide +kernel
theorem lhRX9_13 : Cond.fieldLink RX9 13 (cC 9) (cT 9 9).2.1 (cT 9 9).2.2.1 ∈ gtb := (List.mem_filter.mpr ⟨List.mem_of_getElem? (i := 853) (by decide +kernel), by decide +kernel⟩)
theorem cq62 : kd 62 = (10, 8) := by decide +kernel
theorem lhRX9_16 : Cond.fieldLink RX9 16 (cC 9) (cT 9 10).2.1 (cT 9 10).2.2.1 ∈ gtb := (List.mem_filter.mpr ⟨List.mem_of_getElem? (i := 854) (by decide +kernel), by decide +kernel⟩)
theorem cq63 : kd 63 = (10, 16) := by decide +kernel
theorem lhRX9_19 : Cond.fieldLink RX9 19 (cC 9) (cT 9 11).2.1 (cT 9 11).2.2.1 ∈ gtb := (List.mem_filter.mpr ⟨List.mem_of_getElem? (i := 855) (by decide +kernel), by decide +kernel⟩)
theorem cq64 : kd 64 = (10, 32) := by decide +kernel
theorem lhRX9_22 : Cond.fieldLink RX9 22 (cC 9) (cT 9 12).2.1 (cT 9 12).2.2.1 ∈ gtb := (List.mem_filter.mpr ⟨List.mem_of_getElem? (i := 856) (by decide +kernel), by decide +kernel⟩)
theorem cq65 : kd 65 = (10, 10) := by decide +kernel
theorem lhRX9_25 : Cond.fieldLink RX9 25 (cC 9) (cT 9 13).2.1 (cT 9 13).2.2.1 ∈ gtb := (List.mem_filter.mpr ⟨List.mem_of_getElem? (i := 857) (by decide +kernel), by decide +kernel⟩)
theorem cq66 : kd 66 = (10, 23) := by decide +kernel
theorem lhRX9_28 : Cond.fieldLink RX9 28 (cC 9) (cT 9 14).2.1 (cT 9 14).2.2.1 ∈ gtb := (List.mem_filter.mpr ⟨List.mem_of_getElem? (i := 858) (by decide +kernel), by decide +kernel⟩)
theorem cq67 : kd 67 = (10, 46) := by decide +kernel
theorem lhRX9_31 : Cond.fieldLink RX9 31 (cC 9) (cT 9 15).2.1 (cT 9 15).2.2.1 ∈ gtb := (List.mem_filter.mpr ⟨List.mem_of_getElem? (i := 859) (by decide +kernel), by decide +kernel⟩)
theorem cq68 : kd 68 = (13, 2) := by decide +kernel
theorem lhRX9_34 : Cond.fieldLink RX9 34 (cC 9) (cT 9 16).2.1 (cT 9 16).2.2.1 ∈ gtb := (List.mem_filter.mpr ⟨List.mem_of_getElem? (i := 860) (by decide +kernel), by decide +kernel⟩)
theorem cq69 : kd 69 = (10, 230) := by decide +kernel
theorem lhRX9_38 : Cond.fieldLink RX9 38 (cC 9) (cT 9 17).2.1 (cT 9 17).2.2.1 ∈ gtb := (List.mem_filter.mpr ⟨List.mem_of_getElem? (i := 861) (by decide +kernel), by decide +kernel⟩)
theorem cq70 : kd 70 = (10, 6) := by decide +kernel
theorem lhRX9_41 : Cond.fieldLink RX9 41 (cC 9) (cT 9 19).2.1 (cT 9 19).2.2.1 ∈ gtb := (List.mem_filter.mpr ⟨List.mem_of_getElem? (i := 863) (by decide +kernel), by decide +kernel⟩)
theorem cq71 : kd 71 = (10, 6) := by decide +kernel
theorem lhRX9_44 : Cond.fieldLink RX9 44 (cC 9) (cT 9 20).2.1 (cT 9 20).2.2.1 ∈ gtb := (List.mem_filter.mpr ⟨List.mem_of_getElem? (i := 864) (by decide +kernel), by decide +kernel⟩)
theorem cq72 : kd 72 = (10, 6) := by decide +kernel
theorem lhRX9_47 : Cond.fieldLink RX9 47 (cC 9) (cT 9 21).2.1 (cT 9 21).2.2.1 ∈ gtb := (List.mem_filter.mpr ⟨List.mem_of_getElem? (i := 865) (by decide +kernel), by decide +kernel⟩)
theorem cq73 : kd 73 = (10, 6) := by decide +kernel
theorem lhRX9_50 : Cond.fieldLink RX9 50 (cC 9) (cT 9 23).2.1 (cT 9 23).2.2.1 ∈ gtb := (List.mem_filter.mpr ⟨List.mem_of_getElem? (i := 867) (by decide +kernel), by decide +kernel⟩)
theorem cq74 : kd 74 = (10, 6) := by decide +kernel
theorem lhRX9_53 : Cond.fieldLink RX9 53 (cC 9) (cT 9 24).2.1 (cT 9 24).2.2.1 ∈ gtb := (List.mem_filter.mpr ⟨List.mem_of_getElem? (i := 868) (by decide +kernel), by decide +kernel⟩)
theorem cq75 : kd 75 = (10, 75) := by decide +kernel
theorem lhRX9_56 : Cond.fieldLink RX9 56 (cC 9) (cT 9 26).2.1 (cT 9 26).2.2.1 ∈ gtb := (List.mem_filter.mpr ⟨List.mem_of_getElem? (i := 870) (by decide +kernel), by decide +kernel⟩)
theorem cq76 : kd 76 = (10, 4096) := by decide +kernel
theorem lhRX9_59 : Cond.fieldLink RX9 59 (cC 9) (cT 9 28).2.1 (cT 9 28).2.2.1 ∈ gtb := (List.mem_filter.mpr ⟨List.mem_of_getElem? (i := 872) (by decide +kernel), by decide +kernel⟩)
theorem cq77 : kd 77 = (10, 4096) := by decide +kernel
theorem lhRX9_62 : Cond.fieldLink RX9 62 (cC 9) (cT 9 29).2.1 (cT 9 29).2.2.1 ∈ gtb := (List.mem_filter.mpr ⟨List.mem_of_getElem? (i := 873) (by decide +kernel), by decide +kernel⟩)
theorem cq78 : kd 78 = (10, 1442) := by decide +kernel
theorem lhRX9_65 : Cond.fieldLink RX9 65 (cC 9) (cT 9 30).2.1 (cT 9 30).2.2.1 ∈ gtb := (List.mem_filter.mpr ⟨List.mem_of_getElem? (i := 874) (by decide +kernel), by decide +kernel⟩)
theorem cq79 : kd 79 = (13, 301) := by decide +kernel
theorem lhRX9_68 : Cond.fieldLink RX9 68 (cC 9) (cT 9 31).2.1 (cT 9 31).2.2.1 ∈ gtb := (List.mem_filter.mpr ⟨List.mem_of_getElem? (i := 875) (by decide +kernel), by decide +kernel⟩)
abbrev mX9_init : MI := (yX9_init, cX9_init, 1, none, 5)
theorem TC_of_all {g : aG} (h : cellref.all (fun q => !(decide (q.1 < 59)) || decide (g q.1 (q.2.1 : Int) = some q.2.2)) = true) : TC g := by
  intro q hq hl
  have := List.all_eq_true.mp h q hq
  simpa [hl] using this
theorem TM_of_all {g : aG} (h : cellref.all (fun q => !(decide (59 ≤ q.1)) || decide (g q.1 (q.2.1 : Int) = some q.2.2)) = true) : TM g := by
  intro q hq hl
  have := List.all_eq_true.mp h q hq
  simpa [hl] using this
def Gb (g : aG) (n : Nat) : Prop := ∀ m, n ≤ m → ∀ i, g m i = none
theorem Gb.up {g : aG} {n n' k : Nat} {i : Int} {x : Option Nat} (h : Gb g n) (hk : k < n') (hn : n ≤ n') : Gb (upg g k i x) n' := by
  intro m hm j
  show (if m = k ∧ j = i then x else g m j) = none
  rw [if_neg (by omega)]
  exact h m (by omega) j
def G0 : aG := fun _ _ => none
theorem gb0 : Gb G0 0 := fun _ _ _ => rfl
def Z0 : aH := fun _ _ => 0
def G1 : aG := upg G0 1 0 (some 2)
theorem gb1 : Gb G1 3 := gb0.up (by decide) (by decide)
def Z1 : aH := up Z0 1 3 (-1)
def G2 : aG := upg G1 0 0 (some 1)
theorem gb2 : Gb G2 3 := gb1.up (by decide) (by decide)
def G3 : aG := upg G2 3 0 (some 4)
theorem gb3 : Gb G3 5 := gb2.up (by decide) (by decide)
def G4 : aG := upg G3 3 1 (some 5)
theorem gb4 : Gb G4 6 := gb3.up (by decide) (by decide)
def G5 : aG := upg G4 3 2 (some 6)
theorem gb5 : Gb G5 7 := gb4.up (by decide) (by decide)
def G6 : aG := upg G5 3 3 (some 7)
theorem gb6 : Gb G6 8 := gb5.up (by decide) (by decide)
def G7 : aG := upg G6 0 1 (some 3)
theorem gb7 : Gb G7 8 := gb6.up (by decide) (by decide)
def G8 : aG := upg G7 8 0 (some 9)
theorem gb8 : Gb G8 10 := gb7.up (by decide) (by decide)
def G9 : aG := upg G8 8 1 (some 10)
theorem gb9 : Gb G9 11 := gb8.up (by decide) (by decide)
def G10 : aG := upg G9 8 2 (some 11)
theorem gb10 : Gb G10 12 := gb9.up (by decide) (by decide)
def G11 : aG := upg G10 8 3 (some 12)
theorem gb11 : Gb G11 13 := gb10.up (by decide) (by decide)
def G12 : aG := upg G11 0 2 (some 8)
theorem gb12 : Gb G12 13 := gb11.up (by decide) (by decide)
def G13 : aG := upg G12 13 0 (some 14)
theorem gb13 : Gb G13 15 := gb12.up (by decide) (by decide)
def G14 : aG := upg G13 0 3 (some 13)
theorem gb14 : Gb G14 15 := gb13.up (by decide) (by decide)
def G15 : aG := upg G14 15 0 (some 16)
theorem gb15 : Gb G15 17 := gb14.up (by decide) (by decide)
def G16 : aG := upg G15 17 0 (some 18)
theorem gb16 : Gb G16 19 := gb15.up (by decide) (by decide)
def G17 : aG := upg G16 16 0 (some 17)
theorem gb17 : Gb G17 19 := gb16.up (by decide) (by decide)
def G18 : aG := upg G17 19 0 (some 20)
theorem gb18 : Gb G18 21 := gb17.up (by decide) (by decide)
def G19 : aG := upg G18 16 1 (some 19)
theorem gb19 : Gb G19 21 := gb18.up (by decide) (by decide)
def G20 : aG := upg G19 21 0 (some 22)
theorem gb20 : Gb G20 23 := gb19.up (by decide) (by decide)
def G21 : aG := upg G20 16 2 (some 21)
theorem gb21 : Gb G21 23 := gb20.up (by decide) (by decide)
def G22 : aG := upg G21 23 0 (some 24)
theorem gb22 : Gb G22 25 := gb21.up (by decide) (by decide)
def G23 : aG := upg G22 16 3 (some 23)
theorem gb23 : Gb G23 25 := gb22.up (by decide) (by decide)
def G24 : aG := upg G23 25 0 (some 26)
theorem gb24 : Gb G24 27 := gb23.up (by decide) (by decide)
def G25 : aG := upg G24 16 4 (some 25)
theorem gb25 : Gb G25 27 := gb24.up (by decide) (by decide)
def G26 : aG := upg G25 27 0 (some 28)
theorem gb26 : Gb G26 29 := gb25.up (by decide) (by decide)
def G27 : aG := upg G26 16 5 (some 27)
theorem gb27 : Gb G27 29 := gb26.up (by decide) (by decide)
def G28 : aG := upg G27 29 0 (some 30)
theorem gb28 : Gb G28 31 := gb27.up (by decide) (by decide)
def G29 : aG := upg G28 16 6 (some 29)
theorem gb29 : Gb G29 31 := gb28.up (by decide) (by decide)
def G30 : aG := upg G29 31 0 (some 32)
theorem gb30 : Gb G30 33 := gb29.up (by decide) (by decide)
def G31 : aG := upg G30 16 7 (some 31)
theorem gb31 : Gb G31 33 := gb30.up (by decide) (by decide)
def G32 : aG := upg G31 33 0 (some 34)
theorem gb32 : Gb G32 35 := gb31.up (by decide) (by decide)
def G33 : aG := upg G32 16 8 (some 33)
theorem gb33 : Gb G33 35 := gb32.up (by decide) (by decide)
def G34 : aG := upg G33 35 0 (some 36)
theorem gb34 : Gb G34 37 := gb33.up (by decide) (by decide)
def G35 : aG := upg G34 16 9 (some 35)
theorem gb35 : Gb G35 37 := gb34.up (by decide) (by decide)
def G36 : aG := upg G35 0 4 (some 15)
theorem gb36 : Gb G36 37 := gb35.up (by decide) (by decide)
def G37 : aG := upg G36 38 0 (some 39)
theorem gb37 : Gb G37 40 := gb36.up (by decide) (by decide)
def G38 : aG := upg G37 37 0 (some 38)
theorem gb38 : Gb G38 40 := gb37.up (by decide) (by decide)
def G39 : aG := upg G38 40 0 (some 41)
theorem gb39 : Gb G39 42 := gb38.up (by decide) (by decide)
def G40 : aG := upg G39 37 1 (some 40)
theorem gb40 : Gb G40 42 := gb39.up (by decide) (by decide)
def G41 : aG := upg G40 0 5 (some 37)
theorem gb41 : Gb G41 42 := gb40.up (by decide) (by decide)
def G42 : aG := upg G41 0 6 (some 42)
theorem gb42 : Gb G42 43 := gb41.up (by decide) (by decide)
def G43 : aG := upg G42 43 0 (some 44)
theorem gb43 : Gb G43 45 := gb42.up (by decide) (by decide)
def G44 : aG := upg G43 43 1 (some 45)
theorem gb44 : Gb G44 46 := gb43.up (by decide) (by decide)
def Z2 : aH := up Z1 43 2 (-1)
def G45 : aG := upg G44 0 7 (some 43)
theorem gb45 : Gb G45 46 := gb44.up (by decide) (by decide)
def G46 : aG := upg G45 46 0 (some 47)
theorem gb46 : Gb G46 48 := gb45.up (by decide) (by decide)
def G47 : aG := upg G46 46 1 (some 48)
theorem gb47 : Gb G47 49 := gb46.up (by decide) (by decide)
def G48 : aG := upg G47 0 8 (some 46)
theorem gb48 : Gb G48 49 := gb47.up (by decide) (by decide)
def G49 : aG := upg G48 49 0 (some 50)
theorem gb49 : Gb G49 51 := gb48.up (by decide) (by decide)
def G50 : aG := upg G49 49 1 (some 51)
theorem gb50 : Gb G50 52 := gb49.up (by decide) (by decide)
def G51 : aG := upg G50 0 9 (some 49)
theorem gb51 : Gb G51 52 := gb50.up (by decide) (by decide)
def G52 : aG := upg G51 52 0 (some 53)
theorem gb52 : Gb G52 54 := gb51.up (by decide) (by decide)
def G53 : aG := upg G52 52 1 (some 54)
theorem gb53 : Gb G53 55 := gb52.up (by decide) (by decide)
def G54 : aG := upg G53 52 2 (some 55)
theorem gb54 : Gb G54 56 := gb53.up (by decide) (by decide)
def G55 : aG := upg G54 52 3 (some 56)
theorem gb55 : Gb G55 57 := gb54.up (by decide) (by decide)
def G56 : aG := upg G55 52 4 (some 57)
theorem gb56 : Gb G56 58 := gb55.up (by decide) (by decide)
def G57 : aG := upg G56 52 5 (some 58)
theorem gb57 : Gb G57 59 := gb56.up (by decide) (by decide)
def G58 : aG := upg G57 0 10 (some 52)
theorem gb58 : Gb G58 59 := gb57.up (by decide) (by decide)
theorem tc_X8_init : TC G58 := TC_of_all (by decide +kernel)
def G59 : aG := upg G58 59 2 (some 60)
theorem gb59 : Gb G59 61 := gb58.up (by decide) (by decide)
def G60 : aG := upg G59 59 9 (some 61)
theorem gb60 : Gb G60 62 := gb59.up (by decide) (by decide)
def G61 : aG := upg G60 59 10 (some 62)
theorem gb61 : Gb G61 63 := gb60.up (by decide) (by decide)
def G62 : aG := upg G61 59 11 (some 63)
theorem gb62 : Gb G62 64 := gb61.up (by decide) (by decide)
def G63 : aG := upg G62 59 12 (some 64)
theorem gb63 : Gb G63 65 := gb62.up (by decide) (by decide)
def G64 : aG := upg G63 59 13 (some 65)
theorem gb64 : Gb G64 66 := gb63.up (by decide) (by decide)
def G65 : aG := upg G64 59 14 (some 66)
theorem gb65 : Gb G65 67 := gb64.up (by decide) (by decide)
def G66 : aG := upg G65 59 15 (some 67)
theorem gb66 : Gb G66 68 := gb65.up (by decide) (by decide)
def G67 : aG := upg G66 59 16 (some 68)
theorem gb67 : Gb G67 69 := gb66.up (by decide) (by decide)
def G68 : aG := upg G67 59 17 (some 69)
theorem gb68 : Gb G68 70 := gb67.up (by decide) (by decide)
def G69 : aG := upg G68 59 19 (some 70)
theorem gb69 : Gb G69 71 := gb68.up (by decide) (by decide)
def G70 : aG := upg G69 59 20 (some 71)
theorem gb70 : Gb G70 72 := gb69.up (by decide) (by decide)
def G71 : aG := upg G70 59 21 (some 72)
theorem gb71 : Gb G71 73 := gb70.up (by decide) (by decide)
def G72 : aG := upg G71 59 23 (some 73)
theorem gb72 : Gb G72 74 := gb71.up (by decide) (by decide)
def G73 : aG := upg G72 59 24 (some 74)
theorem gb73 : Gb G73 75 := gb72.up (by decide) (by decide)
def G74 : aG := upg G73 59 26 (some 75)
theorem gb74 : Gb G74 76 := gb73.up (by decide) (by decide)
def G75 : aG := upg G74 59 28 (some 76)
theorem gb75 : Gb G75 77 := gb74.up (by decide) (by decide)
def G76 : aG := upg G75 59 29 (some 77)
theorem gb76 : Gb G76 78 := gb75.up (by decide) (by decide)
def G77 : aG := upg G76 59 30 (some 78)
theorem gb77 : Gb G77 79 := gb76.up (by decide) (by decide)
def G78 : aG := upg G77 59 31 (some 79)
theorem gb78 : Gb G78 80 := gb77.up (by decide) (by decide)
theorem tc_X9_init : TM G78 := TM_of_all (by decide +kernel)
set_option maxRecDepth 100000 in
set_option maxHeartbeats 4000000 in
theorem C_X6_init_1 {Γ : Gm} {l : Launch} : ClA Γ l mX6_init [vR 1] 2 3 G0 Z0 (fun v g' h' => v = none ∧ g' = G1 ∧ h' = Z1) := by
  refine ClA.of (by decide) [some (vR 1)] rfl (Nat.le_of_ble_eq_true rfl) ?_
  intro p e s m args below meth c a hao hsz hin
  refine ok_aload_n (pc := 0) a dX6_init_0 rfl rfl ?_
  refine ok_objInit (pc := 1) (st := []) a dX6_init_1 loRX6_3 (Nat.le_of_ble_eq_true rfl) (Nat.le_of_ble_eq_true rfl) ?_
  refine ok_aload_n (pc := 4) a dX6_init_4 rfl rfl ?_
  refine ok_sipush (pc := 5) a dX6_init_5 (by decide) ?_
  refine ok_newarr (pc := 8) (n := 2) (t := 1) (len := 150) a dX6_init_8 rfl (fun C h => by cases h) rfl (by decide) cq2 (by decide) ac1 (by decide) hsz (by decide) (by decide) (by intro i; simp [Z0, up]) ⟨by decide +kernel, by decide +kernel⟩ ?_
  refine ok_putR (pc := 10) (n := 3) a 0 rfl hin dX6_init_10 lfRX6_9 lhRX6_9 rfl rfl (by decide) (by decide) (by rw [cq1]) rfl (fun _ => ⟨rfl, rfl⟩) ?_
  have eG : upg G0 1 0 (some 2) = G1 := rfl
  rw [eG]
  clear eG
  refine ok_aload_n (pc := 13) a dX6_init_13 rfl rfl ?_
  refine ok_iconst (pc := 14) a dX6_init_14 ?_
  refine ok_pI (pc := 15) (n := 3) 3 a dX6_init_15 lfRX6_15 fi_6_3 (by decide) (by rw [cq1]) ty_6_3 rfl (fun h1 e1 => ?_)
  have eZ : h1 = Z1 := e1
  subst eZ
  clear e1
  exact ok_vret (pc := 18) a dX6_init_18 ⟨rfl, rfl, rfl⟩
set_option maxRecDepth 100000 in
set_option maxHeartbeats 4000000 in
theorem C_X7_init_3 {Γ : Gm} {l : Launch} : ClA Γ l mX7_init [vR 3] 4 8 G2 Z1 (fun v g' h' => v = none ∧ g' = G6 ∧ h' = Z1) := by
  refine ClA.of (by decide) [some (vR 3)] rfl (Nat.le_of_ble_eq_true rfl) ?_
  intro p e s m args below meth c a hao hsz hin
  refine ok_aload_n (pc := 0) a dX7_init_0 rfl rfl ?_
  refine ok_objInit (pc := 1) (st := []) a dX7_init_1 loRX7_3 (Nat.le_of_ble_eq_true rfl) (Nat.le_of_ble_eq_true rfl) ?_
  refine ok_aload_n (pc := 4) a dX7_init_4 rfl rfl ?_
  refine ok_iconst (pc := 5) a dX7_init_5 ?_
  refine ok_newarr (pc := 6) (n := 4) (t := 0) (len := 4) a dX7_init_6 rfl (fun C h => by cases h) rfl (by decide) cq4 (by decide) ac0 (by decide) hsz (by decide) (by decide) (by intro i; simp [Z1, Z0, up]) ⟨by decide +kernel, by decide +kernel⟩ ?_
  refine ok_putR (pc := 8) (n := 5) a 0 rfl hin dX7_init_8 lfRX7_9 lhRX7_9 rfl rfl (by decide) (by decide) (by rw [cq3]) rfl (fun _ => ⟨rfl, rfl⟩) ?_
  have eG : upg G2 3 0 (some 4) = G3 := rfl
  rw [eG]
  clear eG
  refine ok_aload_n (pc := 11) a dX7_init_11 rfl rfl ?_
  refine ok_bipush (pc := 12) a dX7_init_12 (by decide) ?_
  refine ok_newarr (pc := 14) (n := 5) (t := 0) (len := 16) a dX7_init_14 rfl (fun C h => by cases h) rfl (by decide) cq5 (by decide) ac0 (by decide) hsz (by decide) (by decide) (by intro i; simp [Z1, Z0, up]) ⟨by decide +kernel, by decide +kernel⟩ ?_
  refine ok_putR (pc := 16) (n := 6) a 1 rfl hin dX7_init_16 lfRX7_15 lhRX7_15 rfl rfl (by decide) (by decide) (by rw [cq3]) rfl (fun _ => ⟨rfl, rfl⟩) ?_
  have eG : upg G3 3 1 (some 5) = G4 := rfl
  rw [eG]
  clear eG
  refine ok_aload_n (pc := 19) a dX7_init_19 rfl rfl ?_
  refine ok_bipush (pc := 20) a dX7_init_20 (by decide) ?_
  refine ok_newarr (pc := 22) (n := 6) (t := 0) (len := 16) a dX7_init_22 rfl (fun C h => by cases h) rfl (by decide) cq6 (by decide) ac0 (by decide) hsz (by decide) (by decide) (by intro i; simp [Z1, Z0, up]) ⟨by decide +kernel, by decide +kernel⟩ ?_
  refine ok_putR (pc := 24) (n := 7) a 2 rfl hin dX7_init_24 lfRX7_18 lhRX7_18 rfl rfl (by decide) (by decide) (by rw [cq3]) rfl (fun _ => ⟨rfl, rfl⟩) ?_
  have eG : upg G4 3 2 (some 6) = G5 := rfl
  rw [eG]
  clear eG
  refine ok_aload_n (pc := 27) a dX7_init_27 rfl rfl ?_
  refine ok_iconst (pc := 28) a dX7_init_28 ?_
  refine ok_newarr (pc := 29) (n := 7) (t := 0) (len := 5) a dX7_init_29 rfl (fun C h => by cases h) rfl (by decide) cq7 (by decide) ac0 (by decide) hsz (by decide) (by decide) (by intro i; simp [Z1, Z0, up]) ⟨by decide +kernel, by decide +kernel⟩ ?_
  refine ok_putR (pc := 31) (n := 8) a 3 rfl hin dX7_init_31 lfRX7_21 lhRX7_21 rfl rfl (by decide) (by decide) (by rw [cq3]) rfl (fun _ => ⟨rfl, rfl⟩) ?_
  have eG : upg G5 3 3 (some 7) = G6 := rfl
  rw [eG]
  clear eG
  exact ok_vret (pc := 34) a dX7_init_34 ⟨rfl, rfl, rfl⟩
set_option maxRecDepth 100000 in
set_option maxHeartbeats 4000000 in
theorem C_X7_init_8 {Γ : Gm} {l : Launch} : ClA Γ l mX7_init [vR 8] 9 13 G7 Z1 (fun v g' h' => v = none ∧ g' = G11 ∧ h' = Z1) := by
  refine ClA.of (by decide) [some (vR 8)] rfl (Nat.le_of_ble_eq_true rfl) ?_
  intro p e s m args below meth c a hao hsz hin
  refine ok_aload_n (pc := 0) a dX7_init_0 rfl rfl ?_
  refine ok_objInit (pc := 1) (st := []) a dX7_init_1 loRX7_3 (Nat.le_of_ble_eq_true rfl) (Nat.le_of_ble_eq_true rfl) ?_
  refine ok_aload_n (pc := 4) a dX7_init_4 rfl rfl ?_
  refine ok_iconst (pc := 5) a dX7_init_5 ?_
  refine ok_newarr (pc := 6) (n := 9) (t := 0) (len := 4) a dX7_init_6 rfl (fun C h => by cases h) rfl (by decide) cq9 (by decide) ac0 (by decide) hsz (by decide) (by decide) (by intro i; simp [Z1, Z0, up]) ⟨by decide +kernel, by decide +kernel⟩ ?_
  refine ok_putR (pc := 8) (n := 10) a 0 rfl hin dX7_init_8 lfRX7_9 lhRX7_9 rfl rfl (by decide) (by decide) (by rw [cq8]) rfl (fun _ => ⟨rfl, rfl⟩) ?_
  have eG : upg G7 8 0 (some 9) = G8 := rfl
  rw [eG]
  clear eG
  refine ok_aload_n (pc := 11) a dX7_init_11 rfl rfl ?_
  refine ok_bipush (pc := 12) a dX7_init_12 (by decide) ?_
  refine ok_newarr (pc := 14) (n := 10) (t := 0) (len := 16) a dX7_init_14 rfl (fun C h => by cases h) rfl (by decide) cq10 (by decide) ac0 (by decide) hsz (by decide) (by decide) (by intro i; simp [Z1, Z0, up]) ⟨by decide +kernel, by decide +kernel⟩ ?_
  refine ok_putR (pc := 16) (n := 11) a 1 rfl hin dX7_init_16 lfRX7_15 lhRX7_15 rfl rfl (by decide) (by decide) (by rw [cq8]) rfl (fun _ => ⟨rfl, rfl⟩) ?_
  have eG : upg G8 8 1 (some 10) = G9 := rfl
  rw [eG]
  clear eG
  refine ok_aload_n (pc := 19) a dX7_init_19 rfl rfl ?_
  refine ok_bipush (pc := 20) a dX7_init_20 (by decide) ?_
  refine ok_newarr (pc := 22) (n := 11) (t := 0) (len := 16) a dX7_init_22 rfl (fun C h => by cases h) rfl (by decide) cq11 (by decide) ac0 (by decide) hsz (by decide) (by decide) (by intro i; simp [Z1, Z0, up]) ⟨by decide +kernel, by decide +kernel⟩ ?_
  refine ok_putR (pc := 24) (n := 12) a 2 rfl hin dX7_init_24 lfRX7_18 lhRX7_18 rfl rfl (by decide) (by decide) (by rw [cq8]) rfl (fun _ => ⟨rfl, rfl⟩) ?_
  have eG : upg G9 8 2 (some 11) = G10 := rfl
  rw [eG]
  clear eG
  refine ok_aload_n (pc := 27) a dX7_init_27 rfl rfl ?_
  refine ok_iconst (pc := 28) a dX7_init_28 ?_
  refine ok_newarr (pc := 29) (n := 12) (t := 0) (len := 5) a dX7_init_29 rfl (fun C h => by cases h) rfl (by decide) cq12 (by decide) ac0 (by decide) hsz (by decide) (by decide) (by intro i; simp [Z1, Z0, up]) ⟨by decide +kernel, by decide +kernel⟩ ?_
  refine ok_putR (pc := 31) (n := 13) a 3 rfl hin dX7_init_31 lfRX7_21 lhRX7_21 rfl rfl (by decide) (by decide) (by rw [cq8]) rfl (fun _ => ⟨rfl, rfl⟩) ?_
  have eG : upg G10 8 3 (some 12) = G11 := rfl
  rw [eG]
  clear eG
  exact ok_vret (pc := 34) a dX7_init_34 ⟨rfl, rfl, rfl⟩
set_option maxRecDepth 100000 in
set_option maxHeartbeats 4000000 in
theorem C_X4_init_13 {Γ : Gm} {l : Launch} : ClA Γ l mX4_init [vR 13] 14 15 G12 Z1 (fun v g' h' => v = none ∧ g' = G13 ∧ h' = Z1) := by
  refine ClA.of (by decide) [some (vR 13)] rfl (Nat.le_of_ble_eq_true rfl) ?_
  intro p e s m args below meth c a hao hsz hin
  refine ok_aload_n (pc := 0) a dX4_init_0 rfl rfl ?_
  refine ok_objInit (pc := 1) (st := []) a dX4_init_1 loRX4_3 (Nat.le_of_ble_eq_true rfl) (Nat.le_of_ble_eq_true rfl) ?_
  refine ok_aload_n (pc := 4) a dX4_init_4 rfl rfl ?_
  refine ok_bipush (pc := 5) a dX4_init_5 (by decide) ?_
  refine ok_newarr (pc := 7) (n := 14) (t := 0) (len := 16) a dX4_init_7 rfl (fun C h => by cases h) rfl (by decide) cq14 (by decide) ac0 (by decide) hsz (by decide) (by decide) (by intro i; simp [Z1, Z0, up]) ⟨by decide +kernel, by decide +kernel⟩ ?_
  refine ok_putR (pc := 9) (n := 15) a 0 rfl hin dX4_init_9 lfRX4_9 lhRX4_9 rfl rfl (by decide) (by decide) (by rw [cq13]) rfl (fun _ => ⟨rfl, rfl⟩) ?_
  have eG : upg G12 13 0 (some 14) = G13 := rfl
  rw [eG]
  clear eG
  exact ok_vret (pc := 12) a dX4_init_12 ⟨rfl, rfl, rfl⟩
set_option maxRecDepth 100000 in
set_option maxHeartbeats 4000000 in
theorem C_X4_init_17 {Γ : Gm} {l : Launch} : ClA Γ l mX4_init [vR 17] 18 19 G15 Z1 (fun v g' h' => v = none ∧ g' = G16 ∧ h' = Z1) := by
  refine ClA.of (by decide) [some (vR 17)] rfl (Nat.le_of_ble_eq_true rfl) ?_
  intro p e s m args below meth c a hao hsz hin
  refine ok_aload_n (pc := 0) a dX4_init_0 rfl rfl ?_
  refine ok_objInit (pc := 1) (st := []) a dX4_init_1 loRX4_3 (Nat.le_of_ble_eq_true rfl) (Nat.le_of_ble_eq_true rfl) ?_
  refine ok_aload_n (pc := 4) a dX4_init_4 rfl rfl ?_
  refine ok_bipush (pc := 5) a dX4_init_5 (by decide) ?_
  refine ok_newarr (pc := 7) (n := 18) (t := 0) (len := 16) a dX4_init_7 rfl (fun C h => by cases h) rfl (by decide) cq18 (by decide) ac0 (by decide) hsz (by decide) (by decide) (by intro i; simp [Z1, Z0, up]) ⟨by decide +kernel, by decide +kernel⟩ ?_
  refine ok_putR (pc := 9) (n := 19) a 0 rfl hin dX4_init_9 lfRX4_9 lhRX4_9 rfl rfl (by decide) (by decide) (by rw [cq17]) rfl (fun _ => ⟨rfl, rfl⟩) ?_
  have eG : upg G15 17 0 (some 18) = G16 := rfl
  rw [eG]
  clear eG
  exact ok_vret (pc := 12) a dX4_init_12 ⟨rfl, rfl, rfl⟩
set_option maxRecDepth 100000 in
set_option maxHeartbeats 4000000 in
theorem C_X4_init_19 {Γ : Gm} {l : Launch} : ClA Γ l mX4_init [vR 19] 20 21 G17 Z1 (fun v g' h' => v = none ∧ g' = G18 ∧ h' = Z1) := by
  refine ClA.of (by decide) [some (vR 19)] rfl (Nat.le_of_ble_eq_true rfl) ?_
  intro p e s m args below meth c a hao hsz hin
  refine ok_aload_n (pc := 0) a dX4_init_0 rfl rfl ?_
  refine ok_objInit (pc := 1) (st := []) a dX4_init_1 loRX4_3 (Nat.le_of_ble_eq_true rfl) (Nat.le_of_ble_eq_true rfl) ?_
  refine ok_aload_n (pc := 4) a dX4_init_4 rfl rfl ?_
  refine ok_bipush (pc := 5) a dX4_init_5 (by decide) ?_
  refine ok_newarr (pc := 7) (n := 20) (t := 0) (len := 16) a dX4_init_7 rfl (fun C h => by cases h) rfl (by decide) cq20 (by decide) ac0 (by decide) hsz (by decide) (by decide) (by intro i; simp [Z1, Z0, up]) ⟨by decide +kernel, by decide +kernel⟩ ?_
  refine ok_putR (pc := 9) (n := 21) a 0 rfl hin dX4_init_9 lfRX4_9 lhRX4_9 rfl rfl (by decide) (by decide) (by rw [cq19]) rfl (fun _ => ⟨rfl, rfl⟩) ?_
  have eG : upg G17 19 0 (some 20) = G18 := rfl
  rw [eG]
  clear eG
  exact ok_vret (pc := 12) a dX4_init_12 ⟨rfl, rfl, rfl⟩
set_option maxRecDepth 100000 in
set_option maxHeartbeats 4000000 in
theorem C_X4_init_21 {Γ : Gm} {l : Launch} : ClA Γ l mX4_init [vR 21] 22 23 G19 Z1 (fun v g' h' => v = none ∧ g' = G20 ∧ h' = Z1) := by
  refine ClA.of (by decide) [some (vR 21)] rfl (Nat.le_of_ble_eq_true rfl) ?_
  intro p e s m args below meth c a hao hsz hin
  refine ok_aload_n (pc := 0) a dX4_init_0 rfl rfl ?_
  refine ok_objInit (pc := 1) (st := []) a dX4_init_1 loRX4_3 (Nat.le_of_ble_eq_true rfl) (Nat.le_of_ble_eq_true rfl) ?_
  refine ok_aload_n (pc := 4) a dX4_init_4 rfl rfl ?_
  refine ok_bipush (pc := 5) a dX4_init_5 (by decide) ?_
  refine ok_newarr (pc := 7) (n := 22) (t := 0) (len := 16) a dX4_init_7 rfl (fun C h => by cases h) rfl (by decide) cq22 (by decide) ac0 (by decide) hsz (by decide) (by decide) (by intro i; simp [Z1, Z0, up]) ⟨by decide +kernel, by decide +kernel⟩ ?_
  refine ok_putR (pc := 9) (n := 23) a 0 rfl hin dX4_init_9 lfRX4_9 lhRX4_9 rfl rfl (by decide) (by decide) (by rw [cq21]) rfl (fun _ => ⟨rfl, rfl⟩) ?_
  have eG : upg G19 21 0 (some 22) = G20 := rfl
  rw [eG]
  clear eG
  exact ok_vret (pc := 12) a dX4_init_12 ⟨rfl, rfl, rfl⟩
set_option maxRecDepth 100000 in
set_option maxHeartbeats 4000000 in
theorem C_X4_init_23 {Γ : Gm} {l : Launch} : ClA Γ l mX4_init [vR 23] 24 25 G21 Z1 (fun v g' h' => v = none ∧ g' = G22 ∧ h' = Z1) := by
  refine ClA.of (by decide) [some (vR 23)] rfl (Nat.le_of_ble_eq_true rfl) ?_
  intro p e s m args below meth c a hao hsz hin
  refine ok_aload_n (pc := 0) a dX4_init_0 rfl rfl ?_
  refine ok_objInit (pc := 1) (st := []) a dX4_init_1 loRX4_3 (Nat.le_of_ble_eq_true rfl) (Nat.le_of_ble_eq_true rfl) ?_
  refine ok_aload_n (pc := 4) a dX4_init_4 rfl rfl ?_
  refine ok_bipush (pc := 5) a dX4_init_5 (by decide) ?_
  refine ok_newarr (pc := 7) (n := 24) (t := 0) (len := 16) a dX4_init_7 rfl (fun C h => by cases h) rfl (by decide) cq24 (by decide) ac0 (by decide) hsz (by decide) (by decide) (by intro i; simp [Z1, Z0, up]) ⟨by decide +kernel, by decide +kernel⟩ ?_
  refine ok_putR (pc := 9) (n := 25) a 0 rfl hin dX4_init_9 lfRX4_9 lhRX4_9 rfl rfl (by decide) (by decide) (by rw [cq23]) rfl (fun _ => ⟨rfl, rfl⟩) ?_
  have eG : upg G21 23 0 (some 24) = G22 := rfl
  rw [eG]
  clear eG
  exact ok_vret (pc := 12) a dX4_init_12 ⟨rfl, rfl, rfl⟩
set_option maxRecDepth 100000 in
set_option maxHeartbeats 4000000 in
theorem C_X4_init_25 {Γ : Gm} {l : Launch} : ClA Γ l mX4_init [vR 25] 26 27 G23 Z1 (fun v g' h' => v = none ∧ g' = G24 ∧ h' = Z1) := by
  refine ClA.of (by decide) [some (vR 25)] rfl (Nat.le_of_ble_eq_true rfl) ?_
  intro p e s m args below meth c a hao hsz hin
  refine ok_aload_n (pc := 0) a dX4_init_0 rfl rfl ?_
  refine ok_objInit (pc := 1) (st := []) a dX4_init_1 loRX4_3 (Nat.le_of_ble_eq_true rfl) (Nat.le_of_ble_eq_true rfl) ?_
  refine ok_aload_n (pc := 4) a dX4_init_4 rfl rfl ?_
  refine ok_bipush (pc := 5) a dX4_init_5 (by decide) ?_
  refine ok_newarr (pc := 7) (n := 26) (t := 0) (len := 16) a dX4_init_7 rfl (fun C h => by cases h) rfl (by decide) cq26 (by decide) ac0 (by decide) hsz (by decide) (by decide) (by intro i; simp [Z1, Z0, up]) ⟨by decide +kernel, by decide +kernel⟩ ?_
  refine ok_putR (pc := 9) (n := 27) a 0 rfl hin dX4_init_9 lfRX4_9 lhRX4_9 rfl rfl (by decide) (by decide) (by rw [cq25]) rfl (fun _ => ⟨rfl, rfl⟩) ?_
  have eG : upg G23 25 0 (some 26) = G24 := rfl
  rw [eG]
  clear eG
  exact ok_vret (pc := 12) a dX4_init_12 ⟨rfl, rfl, rfl⟩
set_option maxRecDepth 100000 in
set_option maxHeartbeats 4000000 in
theorem C_X4_init_27 {Γ : Gm} {l : Launch} : ClA Γ l mX4_init [vR 27] 28 29 G25 Z1 (fun v g' h' => v = none ∧ g' = G26 ∧ h' = Z1) := by
  refine ClA.of (by decide) [some (vR 27)] rfl (Nat.le_of_ble_eq_true rfl) ?_
  intro p e s m args below meth c a hao hsz hin
  refine ok_aload_n (pc := 0) a dX4_init_0 rfl rfl ?_
  refine ok_objInit (pc := 1) (st := []) a dX4_init_1 loRX4_3 (Nat.le_of_ble_eq_true rfl) (Nat.le_of_ble_eq_true rfl) ?_
  refine ok_aload_n (pc := 4) a dX4_init_4 rfl rfl ?_
  refine ok_bipush (pc := 5) a dX4_init_5 (by decide) ?_
  refine ok_newarr (pc := 7) (n := 28) (t := 0) (len := 16) a dX4_init_7 rfl (fun C h => by cases h) rfl (by decide) cq28 (by decide) ac0 (by decide) hsz (by decide) (by decide) (by intro i; simp [Z1, Z0, up]) ⟨by decide +kernel, by decide +kernel⟩ ?_
  refine ok_putR (pc := 9) (n := 29) a 0 rfl hin dX4_init_9 lfRX4_9 lhRX4_9 rfl rfl (by decide) (by decide) (by rw [cq27]) rfl (fun _ => ⟨rfl, rfl⟩) ?_
  have eG : upg G25 27 0 (some 28) = G26 := rfl
  rw [eG]
  clear eG
  exact ok_vret (pc := 12) a dX4_init_12 ⟨rfl, rfl, rfl⟩
set_option maxRecDepth 100000 in
set_option maxHeartbeats 4000000 in
theorem C_X4_init_29 {Γ : Gm} {l : Launch} : ClA Γ l mX4_init [vR 29] 30 31 G27 Z1 (fun v g' h' => v = none ∧ g' = G28 ∧ h' = Z1) := by
  refine ClA.of (by decide) [some (vR 29)] rfl (Nat.le_of_ble_eq_true rfl) ?_
  intro p e s m args below meth c a hao hsz hin
  refine ok_aload_n (pc := 0) a dX4_init_0 rfl rfl ?_
  refine ok_objInit (pc := 1) (st := []) a dX4_init_1 loRX4_3 (Nat.le_of_ble_eq_true rfl) (Nat.le_of_ble_eq_true rfl) ?_
  refine ok_aload_n (pc := 4) a dX4_init_4 rfl rfl ?_
  refine ok_bipush (pc := 5) a dX4_init_5 (by decide) ?_
  refine ok_newarr (pc := 7) (n := 30) (t := 0) (len := 16) a dX4_init_7 rfl (fun C h => by cases h) rfl (by decide) cq30 (by decide) ac0 (by decide) hsz (by decide) (by decide) (by intro i; simp [Z1, Z0, up]) ⟨by decide +kernel, by decide +kernel⟩ ?_
  refine ok_putR (pc := 9) (n := 31) a 0 rfl hin dX4_init_9 lfRX4_9 lhRX4_9 rfl rfl (by decide) (by decide) (by rw [cq29]) rfl (fun _ => ⟨rfl, rfl⟩) ?_
  have eG : upg G27 29 0 (some 30) = G28 := rfl
  rw [eG]
  clear eG
  exact ok_vret (pc := 12) a dX4_init_12 ⟨rfl, rfl, rfl⟩
set_option maxRecDepth 100000 in
set_option maxHeartbeats 4000000 in
theorem C_X4_init_31 {Γ : Gm} {l : Launch} : ClA Γ l mX4_init [vR 31] 32 33 G29 Z1 (fun v g' h' => v = none ∧ g' = G30 ∧ h' = Z1) := by
  refine ClA.of (by decide) [some (vR 31)] rfl (Nat.le_of_ble_eq_true rfl) ?_
  intro p e s m args below meth c a hao hsz hin
  refine ok_aload_n (pc := 0) a dX4_init_0 rfl rfl ?_
  refine ok_objInit (pc := 1) (st := []) a dX4_init_1 loRX4_3 (Nat.le_of_ble_eq_true rfl) (Nat.le_of_ble_eq_true rfl) ?_
  refine ok_aload_n (pc := 4) a dX4_init_4 rfl rfl ?_
  refine ok_bipush (pc := 5) a dX4_init_5 (by decide) ?_
  refine ok_newarr (pc := 7) (n := 32) (t := 0) (len := 16) a dX4_init_7 rfl (fun C h => by cases h) rfl (by decide) cq32 (by decide) ac0 (by decide) hsz (by decide) (by decide) (by intro i; simp [Z1, Z0, up]) ⟨by decide +kernel, by decide +kernel⟩ ?_
  refine ok_putR (pc := 9) (n := 33) a 0 rfl hin dX4_init_9 lfRX4_9 lhRX4_9 rfl rfl (by decide) (by decide) (by rw [cq31]) rfl (fun _ => ⟨rfl, rfl⟩) ?_
  have eG : upg G29 31 0 (some 32) = G30 := rfl
  rw [eG]
  clear eG
  exact ok_vret (pc := 12) a dX4_init_12 ⟨rfl, rfl, rfl⟩
set_option maxRecDepth 100000 in
set_option maxHeartbeats 4000000 in
theorem C_X4_init_33 {Γ : Gm} {l : Launch} : ClA Γ l mX4_init [vR 33] 34 35 G31 Z1 (fun v g' h' => v = none ∧ g' = G32 ∧ h' = Z1) := by
  refine ClA.of (by decide) [some (vR 33)] rfl (Nat.le_of_ble_eq_true rfl) ?_
  intro p e s m args below meth c a hao hsz hin
  refine ok_aload_n (pc := 0) a dX4_init_0 rfl rfl ?_
  refine ok_objInit (pc := 1) (st := []) a dX4_init_1 loRX4_3 (Nat.le_of_ble_eq_true rfl) (Nat.le_of_ble_eq_true rfl) ?_
  refine ok_aload_n (pc := 4) a dX4_init_4 rfl rfl ?_
  refine ok_bipush (pc := 5) a dX4_init_5 (by decide) ?_
  refine ok_newarr (pc := 7) (n := 34) (t := 0) (len := 16) a dX4_init_7 rfl (fun C h => by cases h) rfl (by decide) cq34 (by decide) ac0 (by decide) hsz (by decide) (by decide) (by intro i; simp [Z1, Z0, up]) ⟨by decide +kernel, by decide +kernel⟩ ?_
  refine ok_putR (pc := 9) (n := 35) a 0 rfl hin dX4_init_9 lfRX4_9 lhRX4_9 rfl rfl (by decide) (by decide) (by rw [cq33]) rfl (fun _ => ⟨rfl, rfl⟩) ?_
  have eG : upg G31 33 0 (some 34) = G32 := rfl
  rw [eG]
  clear eG
  exact ok_vret (pc := 12) a dX4_init_12 ⟨rfl, rfl, rfl⟩
set_option maxRecDepth 100000 in
set_option maxHeartbeats 4000000 in
theorem C_X4_init_35 {Γ : Gm} {l : Launch} : ClA Γ l mX4_init [vR 35] 36 37 G33 Z1 (fun v g' h' => v = none ∧ g' = G34 ∧ h' = Z1) := by
  refine ClA.of (by decide) [some (vR 35)] rfl (Nat.le_of_ble_eq_true rfl) ?_
  intro p e s m args below meth c a hao hsz hin
  refine ok_aload_n (pc := 0) a dX4_init_0 rfl rfl ?_
  refine ok_objInit (pc := 1) (st := []) a dX4_init_1 loRX4_3 (Nat.le_of_ble_eq_true rfl) (Nat.le_of_ble_eq_true rfl) ?_
  refine ok_aload_n (pc := 4) a dX4_init_4 rfl rfl ?_
  refine ok_bipush (pc := 5) a dX4_init_5 (by decide) ?_
  refine ok_newarr (pc := 7) (n := 36) (t := 0) (len := 16) a dX4_init_7 rfl (fun C h => by cases h) rfl (by decide) cq36 (by decide) ac0 (by decide) hsz (by decide) (by decide) (by intro i; simp [Z1, Z0, up]) ⟨by decide +kernel, by decide +kernel⟩ ?_
  refine ok_putR (pc := 9) (n := 37) a 0 rfl hin dX4_init_9 lfRX4_9 lhRX4_9 rfl rfl (by decide) (by decide) (by rw [cq35]) rfl (fun _ => ⟨rfl, rfl⟩) ?_
  have eG : upg G33 35 0 (some 36) = G34 := rfl
  rw [eG]
  clear eG
  exact ok_vret (pc := 12) a dX4_init_12 ⟨rfl, rfl, rfl⟩
set_option maxRecDepth 100000 in
set_option maxHeartbeats 4000000 in
theorem C_X2_init_15 {Γ : Gm} {l : Launch} : ClA Γ l mX2_init [vR 15] 16 37 G14 Z1 (fun v g' h' => v = none ∧ g' = G35 ∧ h' = Z1) := by
  refine ClA.of (by decide) [some (vR 15), none] rfl (Nat.le_of_ble_eq_true rfl) ?_
  intro p e s m args below meth c a hao hsz hin
  refine ok_aload_n (pc := 0) a dX2_init_0 rfl rfl ?_
  refine ok_objInit (pc := 1) (st := []) a dX2_init_1 loRX2_3 (Nat.le_of_ble_eq_true rfl) (Nat.le_of_ble_eq_true rfl) ?_
  refine ok_aload_n (pc := 4) a dX2_init_4 rfl rfl ?_
  refine ok_bipush (pc := 5) a dX2_init_5 (by decide) ?_
  refine ok_anew (pc := 7) (n := 16) (len := 10) a hao dX2_init_7 clRX2_9 cq16 (by decide) hsz (by decide) (by decide) (gb14 16 (by decide)) ⟨by decide +kernel, by decide +kernel⟩ ?_
  refine ok_putR (pc := 10) (n := 17) a 0 rfl hin dX2_init_10 lfRX2_11 lhRX2_11 rfl rfl (by decide) (by decide) (by rw [cq15]) rfl (fun _ => ⟨rfl, rfl⟩) ?_
  have eG : upg G14 15 0 (some 16) = G15 := rfl
  rw [eG]
  clear eG
  refine ok_iconst (pc := 13) a dX2_init_13 ?_
  refine ok_sI_n (pc := 14) a [some (vR 15), some (vI 0)] dX2_init_14 rfl (by decide) rfl rfl ?_
  refine ok_iload_n (pc := 15) a dX2_init_15 rfl rfl ?_
  refine ok_bipush (pc := 16) a dX2_init_16 (by decide) ?_
  refine ok_icmp_ge (pc := 18) a 40 dX2_init_18 (by decide) ⟨by decide, by decide⟩ ⟨by decide, by decide⟩ (fun q => absurd q (by decide)) (fun _ => ?_)
  refine ok_aload_n (pc := 21) a dX2_init_21 rfl rfl ?_
  refine ok_getR (pc := 22) (r := 16) a dX2_init_22 lfRX2_11 (by decide) (by rw [cq15]) rfl (by decide +kernel) ?_
  refine ok_iload_n (pc := 25) a dX2_init_25 rfl rfl ?_
  refine ok_new (pc := 26) (n := 17) a dX2_init_26 cq17 (by decide) clRX2_9 ci4 cn4 hsz (by decide) (by decide) (by intro i; simp [Z1, Z0, up]) (gb15 17 (by decide)) ⟨by decide +kernel, by decide +kernel⟩ ?_
  refine ok_dup (pc := 29) a dX2_init_29 (by rfl) ?_
  refine ok_callI (pc := 30) (n := 18) (nE := 19) (st := [(vR 17), (vI 0), (vR 16)]) a C_X4_init_17 hao rfl dX2_init_30 liRX2_17 ⟨by decide, by decide⟩ hsz (by decide) (by decide) ⟨by decide +kernel, by decide +kernel⟩ (Nat.le_of_ble_eq_true rfl) (fun v g1 h1 q => ?_)
  obtain ⟨rfl, rfl, rfl⟩ := q
  refine ok_aast (pc := 33) (n := 19) a dX2_init_33 (by decide) cq16 (by decide) ⟨by decide, by decide⟩ (by decide) (by rw [cq17]) ?_
  have eG : upg G16 16 0 (some 17) = G17 := rfl
  rw [eG]
  clear eG
  refine ok_inc (pc := 34) a [some (vR 15), some (vI 1)] dX2_init_34 rfl (by decide) rfl rfl ?_
  refine ok_goto (pc := 37) a 15 dX2_init_37 (by decide) ?_
  refine ok_iload_n (pc := 15) a dX2_init_15 rfl rfl ?_
  refine ok_bipush (pc := 16) a dX2_init_16 (by decide) ?_
  refine ok_icmp_ge (pc := 18) a 40 dX2_init_18 (by decide) ⟨by decide, by decide⟩ ⟨by decide, by decide⟩ (fun q => absurd q (by decide)) (fun _ => ?_)
  refine ok_aload_n (pc := 21) a dX2_init_21 rfl rfl ?_
  refine ok_getR (pc := 22) (r := 16) a dX2_init_22 lfRX2_11 (by decide) (by rw [cq15]) rfl (by decide +kernel) ?_
  refine ok_iload_n (pc := 25) a dX2_init_25 rfl rfl ?_
  refine ok_new (pc := 26) (n := 19) a dX2_init_26 cq19 (by decide) clRX2_9 ci4 cn4 hsz (by decide) (by decide) (by intro i; simp [Z1, Z0, up]) (gb17 19 (by decide)) ⟨by decide +kernel, by decide +kernel⟩ ?_
  refine ok_dup (pc := 29) a dX2_init_29 (by rfl) ?_
  refine ok_callI (pc := 30) (n := 20) (nE := 21) (st := [(vR 19), (vI 1), (vR 16)]) a C_X4_init_19 hao rfl dX2_init_30 liRX2_17 ⟨by decide, by decide⟩ hsz (by decide) (by decide) ⟨by decide +kernel, by decide +kernel⟩ (Nat.le_of_ble_eq_true rfl) (fun v g1 h1 q => ?_)
  obtain ⟨rfl, rfl, rfl⟩ := q
  refine ok_aast (pc := 33) (n := 21) a dX2_init_33 (by decide) cq16 (by decide) ⟨by decide, by decide⟩ (by decide) (by rw [cq19]) ?_
  have eG : upg G18 16 1 (some 19) = G19 := rfl
  rw [eG]
  clear eG
  refine ok_inc (pc := 34) a [some (vR 15), some (vI 2)] dX2_init_34 rfl (by decide) rfl rfl ?_
  refine ok_goto (pc := 37) a 15 dX2_init_37 (by decide) ?_
  refine ok_iload_n (pc := 15) a dX2_init_15 rfl rfl ?_
  refine ok_bipush (pc := 16) a dX2_init_16 (by decide) ?_
  refine ok_icmp_ge (pc := 18) a 40 dX2_init_18 (by decide) ⟨by decide, by decide⟩ ⟨by decide, by decide⟩ (fun q => absurd q (by decide)) (fun _ => ?_)
  refine ok_aload_n (pc := 21) a dX2_init_21 rfl rfl ?_
  refine ok_getR (pc := 22) (r := 16) a dX2_init_22 lfRX2_11 (by decide) (by rw [cq15]) rfl (by decide +kernel) ?_
  refine ok_iload_n (pc := 25) a dX2_init_25 rfl rfl ?_
  refine ok_new (pc := 26) (n := 21) a dX2_init_26 cq21 (by decide) clRX2_9 ci4 cn4 hsz (by decide) (by decide) (by intro i; simp [Z1, Z0, up]) (gb19 21 (by decide)) ⟨by decide +kernel, by decide +kernel⟩ ?_
  refine ok_dup (pc := 29) a dX2_init_29 (by rfl) ?_
  refine ok_callI (pc := 30) (n := 22) (nE := 23) (st := [(vR 21), (vI 2), (vR 16)]) a C_X4_init_21 hao rfl dX2_init_30 liRX2_17 ⟨by decide, by decide⟩ hsz (by decide) (by decide) ⟨by decide +kernel, by decide +kernel⟩ (Nat.le_of_ble_eq_true rfl) (fun v g1 h1 q => ?_)
  obtain ⟨rfl, rfl, rfl⟩ := q
  refine ok_aast (pc := 33) (n := 23) a dX2_init_33 (by decide) cq16 (by decide) ⟨by decide, by decide⟩ (by decide) (by rw [cq21]) ?_
  have eG : upg G20 16 2 (some 21) = G21 := rfl
  rw [eG]
  clear eG
  refine ok_inc (pc := 34) a [some (vR 15), some (vI 3)] dX2_init_34 rfl (by decide) rfl rfl ?_
  refine ok_goto (pc := 37) a 15 dX2_init_37 (by decide) ?_
  refine ok_iload_n (pc := 15) a dX2_init_15 rfl rfl ?_
  refine ok_bipush (pc := 16) a dX2_init_16 (by decide) ?_
  refine ok_icmp_ge (pc := 18) a 40 dX2_init_18 (by decide) ⟨by decide, by decide⟩ ⟨by decide, by decide⟩ (fun q => absurd q (by decide)) (fun _ => ?_)
  refine ok_aload_n (pc := 21) a dX2_init_21 rfl rfl ?_
  refine ok_getR (pc := 22) (r := 16) a dX2_init_22 lfRX2_11 (by decide) (by rw [cq15]) rfl (by decide +kernel) ?_
  refine ok_iload_n (pc := 25) a dX2_init_25 rfl rfl ?_
  refine ok_new (pc := 26) (n := 23) a dX2_init_26 cq23 (by decide) clRX2_9 ci4 cn4 hsz (by decide) (by decide) (by intro i; simp [Z1, Z0, up]) (gb21 23 (by decide)) ⟨by decide +kernel, by decide +kernel⟩ ?_
  refine ok_dup (pc := 29) a dX2_init_29 (by rfl) ?_
  refine ok_callI (pc := 30) (n := 24) (nE := 25) (st := [(vR 23), (vI 3), (vR 16)]) a C_X4_init_23 hao rfl dX2_init_30 liRX2_17 ⟨by decide, by decide⟩ hsz (by decide) (by decide) ⟨by decide +kernel, by decide +kernel⟩ (Nat.le_of_ble_eq_true rfl) (fun v g1 h1 q => ?_)
  obtain ⟨rfl, rfl, rfl⟩ := q
  refine ok_aast (pc := 33) (n := 25) a dX2_init_33 (by decide) cq16 (by decide) ⟨by decide, by decide⟩ (by decide) (by rw [cq23]) ?_
  have eG : upg G22 16 3 (some 23) = G23 := rfl
  rw [eG]
  clear eG
  refine ok_inc (pc := 34) a [some (vR 15), some (vI 4)] dX2_init_34 rfl (by decide) rfl rfl ?_
  refine ok_goto (pc := 37) a 15 dX2_init_37 (by decide) ?_
  refine ok_iload_n (pc := 15) a dX2_init_15 rfl rfl ?_
  refine ok_bipush (pc := 16) a dX2_init_16 (by decide) ?_
  refine ok_icmp_ge (pc := 18) a 40 dX2_init_18 (by decide) ⟨by decide, by decide⟩ ⟨by decide, by decide⟩ (fun q => absurd q (by decide)) (fun _ => ?_)
  refine ok_aload_n (pc := 21) a dX2_init_21 rfl rfl ?_
  refine ok_getR (pc := 22) (r := 16) a dX2_init_22 lfRX2_11 (by decide) (by rw [cq15]) rfl (by decide +kernel) ?_
  refine ok_iload_n (pc := 25) a dX2_init_25 rfl rfl ?_
  refine ok_new (pc := 26) (n := 25) a dX2_init_26 cq25 (by decide) clRX2_9 ci4 cn4 hsz (by decide) (by decide) (by intro i; simp [Z1, Z0, up]) (gb23 25 (by decide)) ⟨by decide +kernel, by decide +kernel⟩ ?_
  refine ok_dup (pc := 29) a dX2_init_29 (by rfl) ?_
  refine ok_callI (pc := 30) (n := 26) (nE := 27) (st := [(vR 25), (vI 4), (vR 16)]) a C_X4_init_25 hao rfl dX2_init_30 liRX2_17 ⟨by decide, by decide⟩ hsz (by decide) (by decide) ⟨by decide +kernel, by decide +kernel⟩ (Nat.le_of_ble_eq_true rfl) (fun v g1 h1 q => ?_)
  obtain ⟨rfl, rfl, rfl⟩ := q
  refine ok_aast (pc := 33) (n := 27) a dX2_init_33 (by decide) cq16 (by decide) ⟨by decide, by decide⟩ (by decide) (by rw [cq25]) ?_
  have eG : upg G24 16 4 (some 25) = G25 := rfl
  rw [eG]
  clear eG
  refine ok_inc (pc := 34) a [some (vR 15), some (vI 5)] dX2_init_34 rfl (by decide) rfl rfl ?_
  refine ok_goto (pc := 37) a 15 dX2_init_37 (by decide) ?_
  refine ok_iload_n (pc := 15) a dX2_init_15 rfl rfl ?_
  refine ok_bipush (pc := 16) a dX2_init_16 (by decide) ?_
  refine ok_icmp_ge (pc := 18) a 40 dX2_init_18 (by decide) ⟨by decide, by decide⟩ ⟨by decide, by decide⟩ (fun q => absurd q (by decide)) (fun _ => ?_)
  refine ok_aload_n (pc := 21) a dX2_init_21 rfl rfl ?_
  refine ok_getR (pc := 22) (r := 16) a dX2_init_22 lfRX2_11 (by decide) (by rw [cq15]) rfl (by decide +kernel) ?_
  refine ok_iload_n (pc := 25) a dX2_init_25 rfl rfl ?_
  refine ok_new (pc := 26) (n := 27) a dX2_init_26 cq27 (by decide) clRX2_9 ci4 cn4 hsz (by decide) (by decide) (by intro i; simp [Z1, Z0, up]) (gb25 27 (by decide)) ⟨by decide +kernel, by decide +kernel⟩ ?_
  refine ok_dup (pc := 29) a dX2_init_29 (by rfl) ?_
  refine ok_callI (pc := 30) (n := 28) (nE := 29) (st := [(vR 27), (vI 5), (vR 16)]) a C_X4_init_27 hao rfl dX2_init_30 liRX2_17 ⟨by decide, by decide⟩ hsz (by decide) (by decide) ⟨by decide +kernel, by decide +kernel⟩ (Nat.le_of_ble_eq_true rfl) (fun v g1 h1 q => ?_)
  obtain ⟨rfl, rfl, rfl⟩ := q
  refine ok_aast (pc := 33) (n := 29) a dX2_init_33 (by decide) cq16 (by decide) ⟨by decide, by decide⟩ (by decide) (by rw [cq27]) ?_
  have eG : upg G26 16 5 (some 27) = G27 := rfl
  rw [eG]
  clear eG
  refine ok_inc (pc := 34) a [some (vR 15), some (vI 6)] dX2_init_34 rfl (by decide) rfl rfl ?_
  refine ok_goto (pc := 37) a 15 dX2_init_37 (by decide) ?_
  refine ok_iload_n (pc := 15) a dX2_init_15 rfl rfl ?_
  refine ok_bipush (pc := 16) a dX2_init_16 (by decide) ?_
  refine ok_icmp_ge (pc := 18) a 40 dX2_init_18 (by decide) ⟨by decide, by decide⟩ ⟨by decide, by decide⟩ (fun q => absurd q (by decide)) (fun _ => ?_)
  refine ok_aload_n (pc := 21) a dX2_init_21 rfl rfl ?_
  refine ok_getR (pc := 22) (r := 16) a dX2_init_22 lfRX2_11 (by decide) (by rw [cq15]) rfl (by decide +kernel) ?_
  refine ok_iload_n (pc := 25) a dX2_init_25 rfl rfl ?_
  refine ok_new (pc := 26) (n := 29) a dX2_init_26 cq29 (by decide) clRX2_9 ci4 cn4 hsz (by decide) (by decide) (by intro i; simp [Z1, Z0, up]) (gb27 29 (by decide)) ⟨by decide +kernel, by decide +kernel⟩ ?_
  refine ok_dup (pc := 29) a dX2_init_29 (by rfl) ?_
  refine ok_callI (pc := 30) (n := 30) (nE := 31) (st := [(vR 29), (vI 6), (vR 16)]) a C_X4_init_29 hao rfl dX2_init_30 liRX2_17 ⟨by decide, by decide⟩ hsz (by decide) (by decide) ⟨by decide +kernel, by decide +kernel⟩ (Nat.le_of_ble_eq_true rfl) (fun v g1 h1 q => ?_)
  obtain ⟨rfl, rfl, rfl⟩ := q
  refine ok_aast (pc := 33) (n := 31) a dX2_init_33 (by decide) cq16 (by decide) ⟨by decide, by decide⟩ (by decide) (by rw [cq29]) ?_
  have eG : upg G28 16 6 (some 29) = G29 := rfl
  rw [eG]
  clear eG
  refine ok_inc (pc := 34) a [some (vR 15), some (vI 7)] dX2_init_34 rfl (by decide) rfl rfl ?_
  refine ok_goto (pc := 37) a 15 dX2_init_37 (by decide) ?_
  refine ok_iload_n (pc := 15) a dX2_init_15 rfl rfl ?_
  refine ok_bipush (pc := 16) a dX2_init_16 (by decide) ?_
  refine ok_icmp_ge (pc := 18) a 40 dX2_init_18 (by decide) ⟨by decide, by decide⟩ ⟨by decide, by decide⟩ (fun q => absurd q (by decide)) (fun _ => ?_)
  refine ok_aload_n (pc := 21) a dX2_init_21 rfl rfl ?_
  refine ok_getR (pc := 22) (r := 16) a dX2_init_22 lfRX2_11 (by decide) (by rw [cq15]) rfl (by decide +kernel) ?_
  refine ok_iload_n (pc := 25) a dX2_init_25 rfl rfl ?_
  refine ok_new (pc := 26) (n := 31) a dX2_init_26 cq31 (by decide) clRX2_9 ci4 cn4 hsz (by decide) (by decide) (by intro i; simp [Z1, Z0, up]) (gb29 31 (by decide)) ⟨by decide +kernel, by decide +kernel⟩ ?_
  refine ok_dup (pc := 29) a dX2_init_29 (by rfl) ?_
  refine ok_callI (pc := 30) (n := 32) (nE := 33) (st := [(vR 31), (vI 7), (vR 16)]) a C_X4_init_31 hao rfl dX2_init_30 liRX2_17 ⟨by decide, by decide⟩ hsz (by decide) (by decide) ⟨by decide +kernel, by decide +kernel⟩ (Nat.le_of_ble_eq_true rfl) (fun v g1 h1 q => ?_)
  obtain ⟨rfl, rfl, rfl⟩ := q
  refine ok_aast (pc := 33) (n := 33) a dX2_init_33 (by decide) cq16 (by decide) ⟨by decide, by decide⟩ (by decide) (by rw [cq31]) ?_
  have eG : upg G30 16 7 (some 31) = G31 := rfl
  rw [eG]
  clear eG
  refine ok_inc (pc := 34) a [some (vR 15), some (vI 8)] dX2_init_34 rfl (by decide) rfl rfl ?_
  refine ok_goto (pc := 37) a 15 dX2_init_37 (by decide) ?_
  refine ok_iload_n (pc := 15) a dX2_init_15 rfl rfl ?_
  refine ok_bipush (pc := 16) a dX2_init_16 (by decide) ?_
  refine ok_icmp_ge (pc := 18) a 40 dX2_init_18 (by decide) ⟨by decide, by decide⟩ ⟨by decide, by decide⟩ (fun q => absurd q (by decide)) (fun _ => ?_)
  refine ok_aload_n (pc := 21) a dX2_init_21 rfl rfl ?_
  refine ok_getR (pc := 22) (r := 16) a dX2_init_22 lfRX2_11 (by decide) (by rw [cq15]) rfl (by decide +kernel) ?_
  refine ok_iload_n (pc := 25) a dX2_init_25 rfl rfl ?_
  refine ok_new (pc := 26) (n := 33) a dX2_init_26 cq33 (by decide) clRX2_9 ci4 cn4 hsz (by decide) (by decide) (by intro i; simp [Z1, Z0, up]) (gb31 33 (by decide)) ⟨by decide +kernel, by decide +kernel⟩ ?_
  refine ok_dup (pc := 29) a dX2_init_29 (by rfl) ?_
  refine ok_callI (pc := 30) (n := 34) (nE := 35) (st := [(vR 33), (vI 8), (vR 16)]) a C_X4_init_33 hao rfl dX2_init_30 liRX2_17 ⟨by decide, by decide⟩ hsz (by decide) (by decide) ⟨by decide +kernel, by decide +kernel⟩ (Nat.le_of_ble_eq_true rfl) (fun v g1 h1 q => ?_)
  obtain ⟨rfl, rfl, rfl⟩ := q
  refine ok_aast (pc := 33) (n := 35) a dX2_init_33 (by decide) cq16 (by decide) ⟨by decide, by decide⟩ (by decide) (by rw [cq33]) ?_
  have eG : upg G32 16 8 (some 33) = G33 := rfl
  rw [eG]
  clear eG
  refine ok_inc (pc := 34) a [some (vR 15), some (vI 9)] dX2_init_34 rfl (by decide) rfl rfl ?_
  refine ok_goto (pc := 37) a 15 dX2_init_37 (by decide) ?_
  refine ok_iload_n (pc := 15) a dX2_init_15 rfl rfl ?_
  refine ok_bipush (pc := 16) a dX2_init_16 (by decide) ?_
  refine ok_icmp_ge (pc := 18) a 40 dX2_init_18 (by decide) ⟨by decide, by decide⟩ ⟨by decide, by decide⟩ (fun q => absurd q (by decide)) (fun _ => ?_)
  refine ok_aload_n (pc := 21) a dX2_init_21 rfl rfl ?_
  refine ok_getR (pc := 22) (r := 16) a dX2_init_22 lfRX2_11 (by decide) (by rw [cq15]) rfl (by decide +kernel) ?_
  refine ok_iload_n (pc := 25) a dX2_init_25 rfl rfl ?_
  refine ok_new (pc := 26) (n := 35) a dX2_init_26 cq35 (by decide) clRX2_9 ci4 cn4 hsz (by decide) (by decide) (by intro i; simp [Z1, Z0, up]) (gb33 35 (by decide)) ⟨by decide +kernel, by decide +kernel⟩ ?_
  refine ok_dup (pc := 29) a dX2_init_29 (by rfl) ?_
  refine ok_callI (pc := 30) (n := 36) (nE := 37) (st := [(vR 35), (vI 9), (vR 16)]) a C_X4_init_35 hao rfl dX2_init_30 liRX2_17 ⟨by decide, by decide⟩ hsz (by decide) (by decide) ⟨by decide +kernel, by decide +kernel⟩ (Nat.le_of_ble_eq_true rfl) (fun v g1 h1 q => ?_)
  obtain ⟨rfl, rfl, rfl⟩ := q
  refine ok_aast (pc := 33) (n := 37) a dX2_init_33 (by decide) cq16 (by decide) ⟨by decide, by decide⟩ (by decide) (by rw [cq35]) ?_
  have eG : upg G34 16 9 (some 35) = G35 := rfl
  rw [eG]
  clear eG
  refine ok_inc (pc := 34) a [some (vR 15), some (vI 10)] dX2_init_34 rfl (by decide) rfl rfl ?_
  refine ok_goto (pc := 37) a 15 dX2_init_37 (by decide) ?_
  refine ok_iload_n (pc := 15) a dX2_init_15 rfl rfl ?_
  refine ok_bipush (pc := 16) a dX2_init_16 (by decide) ?_
  refine ok_icmp_ge (pc := 18) a 40 dX2_init_18 (by decide) ⟨by decide, by decide⟩ ⟨by decide, by decide⟩ (fun _ => ?_) (fun q => absurd (by decide) q)
  exact ok_vret (pc := 40) a dX2_init_40 ⟨rfl, rfl, rfl⟩
set_option maxRecDepth 100000 in
set_option maxHeartbeats 4000000 in
theorem C_X4_init_38 {Γ : Gm} {l : Launch} : ClA Γ l mX4_init [vR 38] 39 40 G36 Z1 (fun v g' h' => v = none ∧ g' = G37 ∧ h' = Z1) := by
  refine ClA.of (by decide) [some (vR 38)] rfl (Nat.le_of_ble_eq_true rfl) ?_
  intro p e s m args below meth c a hao hsz hin
  refine ok_aload_n (pc := 0) a dX4_init_0 rfl rfl ?_
  refine ok_objInit (pc := 1) (st := []) a dX4_init_1 loRX4_3 (Nat.le_of_ble_eq_true rfl) (Nat.le_of_ble_eq_true rfl) ?_
  refine ok_aload_n (pc := 4) a dX4_init_4 rfl rfl ?_
  refine ok_bipush (pc := 5) a dX4_init_5 (by decide) ?_
  refine ok_newarr (pc := 7) (n := 39) (t := 0) (len := 16) a dX4_init_7 rfl (fun C h => by cases h) rfl (by decide) cq39 (by decide) ac0 (by decide) hsz (by decide) (by decide) (by intro i; simp [Z1, Z0, up]) ⟨by decide +kernel, by decide +kernel⟩ ?_
  refine ok_putR (pc := 9) (n := 40) a 0 rfl hin dX4_init_9 lfRX4_9 lhRX4_9 rfl rfl (by decide) (by decide) (by rw [cq38]) rfl (fun _ => ⟨rfl, rfl⟩) ?_
  have eG : upg G36 38 0 (some 39) = G37 := rfl
  rw [eG]
  clear eG
  exact ok_vret (pc := 12) a dX4_init_12 ⟨rfl, rfl, rfl⟩
set_option maxRecDepth 100000 in
set_option maxHeartbeats 4000000 in
theorem C_X4_init_40 {Γ : Gm} {l : Launch} : ClA Γ l mX4_init [vR 40] 41 42 G38 Z1 (fun v g' h' => v = none ∧ g' = G39 ∧ h' = Z1) := by
  refine ClA.of (by decide) [some (vR 40)] rfl (Nat.le_of_ble_eq_true rfl) ?_
  intro p e s m args below meth c a hao hsz hin
  refine ok_aload_n (pc := 0) a dX4_init_0 rfl rfl ?_
  refine ok_objInit (pc := 1) (st := []) a dX4_init_1 loRX4_3 (Nat.le_of_ble_eq_true rfl) (Nat.le_of_ble_eq_true rfl) ?_
  refine ok_aload_n (pc := 4) a dX4_init_4 rfl rfl ?_
  refine ok_bipush (pc := 5) a dX4_init_5 (by decide) ?_
  refine ok_newarr (pc := 7) (n := 41) (t := 0) (len := 16) a dX4_init_7 rfl (fun C h => by cases h) rfl (by decide) cq41 (by decide) ac0 (by decide) hsz (by decide) (by decide) (by intro i; simp [Z1, Z0, up]) ⟨by decide +kernel, by decide +kernel⟩ ?_
  refine ok_putR (pc := 9) (n := 42) a 0 rfl hin dX4_init_9 lfRX4_9 lhRX4_9 rfl rfl (by decide) (by decide) (by rw [cq40]) rfl (fun _ => ⟨rfl, rfl⟩) ?_
  have eG : upg G38 40 0 (some 41) = G39 := rfl
  rw [eG]
  clear eG
  exact ok_vret (pc := 12) a dX4_init_12 ⟨rfl, rfl, rfl⟩
set_option maxRecDepth 100000 in
set_option maxHeartbeats 4000000 in
theorem C_X5_init_43 {Γ : Gm} {l : Launch} : ClA Γ l mX5_init [vR 43] 44 46 G42 Z1 (fun v g' h' => v = none ∧ g' = G44 ∧ h' = Z2) := by
  refine ClA.of (by decide) [some (vR 43)] rfl (Nat.le_of_ble_eq_true rfl) ?_
  intro p e s m args below meth c a hao hsz hin
  refine ok_aload_n (pc := 0) a dX5_init_0 rfl rfl ?_
  refine ok_objInit (pc := 1) (st := []) a dX5_init_1 loRX5_3 (Nat.le_of_ble_eq_true rfl) (Nat.le_of_ble_eq_true rfl) ?_
  refine ok_aload_n (pc := 4) a dX5_init_4 rfl rfl ?_
  refine ok_sipush (pc := 5) a dX5_init_5 (by decide) ?_
  refine ok_newarr (pc := 8) (n := 44) (t := 2) (len := 4096) a dX5_init_8 rfl (fun C h => by cases h) rfl (by decide) cq44 (by decide) ac2 (by decide) hsz (by decide) (by decide) (by intro i; simp [Z1, Z0, up]) ⟨by decide +kernel, by decide +kernel⟩ ?_
  refine ok_putR (pc := 10) (n := 45) a 0 rfl hin dX5_init_10 lfRX5_9 lhRX5_9 rfl rfl (by decide) (by decide) (by rw [cq43]) rfl (fun _ => ⟨rfl, rfl⟩) ?_
  have eG : upg G42 43 0 (some 44) = G43 := rfl
  rw [eG]
  clear eG
  refine ok_aload_n (pc := 13) a dX5_init_13 rfl rfl ?_
  refine ok_iconst (pc := 14) a dX5_init_14 ?_
  refine ok_newarr (pc := 15) (n := 45) (t := 0) (len := 4) a dX5_init_15 rfl (fun C h => by cases h) rfl (by decide) cq45 (by decide) ac0 (by decide) hsz (by decide) (by decide) (by intro i; simp [Z1, Z0, up]) ⟨by decide +kernel, by decide +kernel⟩ ?_
  refine ok_putR (pc := 17) (n := 46) a 1 rfl hin dX5_init_17 lfRX5_15 lhRX5_15 rfl rfl (by decide) (by decide) (by rw [cq43]) rfl (fun _ => ⟨rfl, rfl⟩) ?_
  have eG : upg G43 43 1 (some 45) = G44 := rfl
  rw [eG]
  clear eG
  refine ok_aload_n (pc := 20) a dX5_init_20 rfl rfl ?_
  refine ok_iconst (pc := 21) a dX5_init_21 ?_
  refine ok_pI (pc := 22) (n := 46) 2 a dX5_init_22 lfRX5_19 fi_5_2 (by decide) (by rw [cq43]) ty_5_2 rfl (fun h1 e1 => ?_)
  have eZ : h1 = Z2 := e1
  subst eZ
  clear e1
  exact ok_vret (pc := 25) a dX5_init_25 ⟨rfl, rfl, rfl⟩
set_option maxRecDepth 100000 in
set_option maxHeartbeats 4000000 in
theorem C_X0_init_46 {Γ : Gm} {l : Launch} : ClA Γ l mX0_init [vR 46] 47 49 G45 Z2 (fun v g' h' => v = none ∧ g' = G47 ∧ h' = Z2) := by
  refine ClA.of (by decide) [some (vR 46)] rfl (Nat.le_of_ble_eq_true rfl) ?_
  intro p e s m args below meth c a hao hsz hin
  refine ok_aload_n (pc := 0) a dX0_init_0 rfl rfl ?_
  refine ok_objInit (pc := 1) (st := []) a dX0_init_1 loRX0_3 (Nat.le_of_ble_eq_true rfl) (Nat.le_of_ble_eq_true rfl) ?_
  refine ok_aload_n (pc := 4) a dX0_init_4 rfl rfl ?_
  refine ok_bipush (pc := 5) a dX0_init_5 (by decide) ?_
  refine ok_newarr (pc := 7) (n := 47) (t := 0) (len := 32) a dX0_init_7 rfl (fun C h => by cases h) rfl (by decide) cq47 (by decide) ac0 (by decide) hsz (by decide) (by decide) (by intro i; simp [Z2, Z1, Z0, up]) ⟨by decide +kernel, by decide +kernel⟩ ?_
  refine ok_putR (pc := 9) (n := 48) a 0 rfl hin dX0_init_9 lfRX0_11 lhRX0_11 rfl rfl (by decide) (by decide) (by rw [cq46]) rfl (fun _ => ⟨rfl, rfl⟩) ?_
  have eG : upg G45 46 0 (some 47) = G46 := rfl
  rw [eG]
  clear eG
  refine ok_aload_n (pc := 12) a dX0_init_12 rfl rfl ?_
  refine ok_sipush (pc := 13) a dX0_init_13 (by decide) ?_
  refine ok_newarr (pc := 16) (n := 48) (t := 0) (len := 301) a dX0_init_16 rfl (fun C h => by cases h) rfl (by decide) cq48 (by decide) ac0 (by decide) hsz (by decide) (by decide) (by intro i; simp [Z2, Z1, Z0, up]) ⟨by decide +kernel, by decide +kernel⟩ ?_
  refine ok_putR (pc := 18) (n := 49) a 1 rfl hin dX0_init_18 lfRX0_15 lhRX0_15 rfl rfl (by decide) (by decide) (by rw [cq46]) rfl (fun _ => ⟨rfl, rfl⟩) ?_
  have eG : upg G46 46 1 (some 48) = G47 := rfl
  rw [eG]
  clear eG
  exact ok_vret (pc := 21) a dX0_init_21 ⟨rfl, rfl, rfl⟩
set_option maxRecDepth 100000 in
set_option maxHeartbeats 4000000 in
theorem C_X3_init_49 {Γ : Gm} {l : Launch} : ClA Γ l mX3_init [vR 49] 50 52 G48 Z2 (fun v g' h' => v = none ∧ g' = G50 ∧ h' = Z2) := by
  refine ClA.of (by decide) [some (vR 49)] rfl (Nat.le_of_ble_eq_true rfl) ?_
  intro p e s m args below meth c a hao hsz hin
  refine ok_aload_n (pc := 0) a dX3_init_0 rfl rfl ?_
  refine ok_objInit (pc := 1) (st := []) a dX3_init_1 loRX3_3 (Nat.le_of_ble_eq_true rfl) (Nat.le_of_ble_eq_true rfl) ?_
  refine ok_aload_n (pc := 4) a dX3_init_4 rfl rfl ?_
  refine ok_sipush (pc := 5) a dX3_init_5 (by decide) ?_
  refine ok_newarr (pc := 8) (n := 50) (t := 0) (len := 721) a dX3_init_8 rfl (fun C h => by cases h) rfl (by decide) cq50 (by decide) ac0 (by decide) hsz (by decide) (by decide) (by intro i; simp [Z2, Z1, Z0, up]) ⟨by decide +kernel, by decide +kernel⟩ ?_
  refine ok_putR (pc := 10) (n := 51) a 0 rfl hin dX3_init_10 lfRX3_9 lhRX3_9 rfl rfl (by decide) (by decide) (by rw [cq49]) rfl (fun _ => ⟨rfl, rfl⟩) ?_
  have eG : upg G48 49 0 (some 50) = G49 := rfl
  rw [eG]
  clear eG
  refine ok_aload_n (pc := 13) a dX3_init_13 rfl rfl ?_
  refine ok_sipush (pc := 14) a dX3_init_14 (by decide) ?_
  refine ok_newarr (pc := 17) (n := 51) (t := 0) (len := 721) a dX3_init_17 rfl (fun C h => by cases h) rfl (by decide) cq51 (by decide) ac0 (by decide) hsz (by decide) (by decide) (by intro i; simp [Z2, Z1, Z0, up]) ⟨by decide +kernel, by decide +kernel⟩ ?_
  refine ok_putR (pc := 19) (n := 52) a 1 rfl hin dX3_init_19 lfRX3_15 lhRX3_15 rfl rfl (by decide) (by decide) (by rw [cq49]) rfl (fun _ => ⟨rfl, rfl⟩) ?_
  have eG : upg G49 49 1 (some 51) = G50 := rfl
  rw [eG]
  clear eG
  exact ok_vret (pc := 22) a dX3_init_22 ⟨rfl, rfl, rfl⟩
set_option maxRecDepth 100000 in
set_option maxHeartbeats 4000000 in
theorem C_X1_init_52 {Γ : Gm} {l : Launch} : ClA Γ l mX1_init [vR 52] 53 59 G51 Z2 (fun v g' h' => v = none ∧ g' = G57 ∧ h' = Z2) := by
  refine ClA.of (by decide) [some (vR 52)] rfl (Nat.le_of_ble_eq_true rfl) ?_
  intro p e s m args below meth c a hao hsz hin
  refine ok_aload_n (pc := 0) a dX1_init_0 rfl rfl ?_
  refine ok_objInit (pc := 1) (st := []) a dX1_init_1 loRX1_5 (Nat.le_of_ble_eq_true rfl) (Nat.le_of_ble_eq_true rfl) ?_
  refine ok_aload_n (pc := 4) a dX1_init_4 rfl rfl ?_
  refine ok_bipush (pc := 5) a dX1_init_5 (by decide) ?_
  refine ok_newarr (pc := 7) (n := 53) (t := 0) (len := 6) a dX1_init_7 rfl (fun C h => by cases h) rfl (by decide) cq53 (by decide) ac0 (by decide) hsz (by decide) (by decide) (by intro i; simp [Z2, Z1, Z0, up]) ⟨by decide +kernel, by decide +kernel⟩ ?_
  refine ok_putR (pc := 9) (n := 54) a 0 rfl hin dX1_init_9 lfRX1_11 lhRX1_11 rfl rfl (by decide) (by decide) (by rw [cq52]) rfl (fun _ => ⟨rfl, rfl⟩) ?_
  have eG : upg G51 52 0 (some 53) = G52 := rfl
  rw [eG]
  clear eG
  refine ok_aload_n (pc := 12) a dX1_init_12 rfl rfl ?_
  refine ok_bipush (pc := 13) a dX1_init_13 (by decide) ?_
  refine ok_newarr (pc := 15) (n := 54) (t := 0) (len := 6) a dX1_init_15 rfl (fun C h => by cases h) rfl (by decide) cq54 (by decide) ac0 (by decide) hsz (by decide) (by decide) (by intro i; simp [Z2, Z1, Z0, up]) ⟨by decide +kernel, by decide +kernel⟩ ?_
  refine ok_putR (pc := 17) (n := 55) a 1 rfl hin dX1_init_17 lfRX1_15 lhRX1_15 rfl rfl (by decide) (by decide) (by rw [cq52]) rfl (fun _ => ⟨rfl, rfl⟩) ?_
  have eG : upg G52 52 1 (some 54) = G53 := rfl
  rw [eG]
  clear eG
  refine ok_aload_n (pc := 20) a dX1_init_20 rfl rfl ?_
  refine ok_bipush (pc := 21) a dX1_init_21 (by decide) ?_
  refine ok_newarr (pc := 23) (n := 55) (t := 0) (len := 6) a dX1_init_23 rfl (fun C h => by cases h) rfl (by decide) cq55 (by decide) ac0 (by decide) hsz (by decide) (by decide) (by intro i; simp [Z2, Z1, Z0, up]) ⟨by decide +kernel, by decide +kernel⟩ ?_
  refine ok_putR (pc := 25) (n := 56) a 2 rfl hin dX1_init_25 lfRX1_18 lhRX1_18 rfl rfl (by decide) (by decide) (by rw [cq52]) rfl (fun _ => ⟨rfl, rfl⟩) ?_
  have eG : upg G53 52 2 (some 55) = G54 := rfl
  rw [eG]
  clear eG
  refine ok_aload_n (pc := 28) a dX1_init_28 rfl rfl ?_
  refine ok_bipush (pc := 29) a dX1_init_29 (by decide) ?_
  refine ok_newarr (pc := 31) (n := 56) (t := 0) (len := 6) a dX1_init_31 rfl (fun C h => by cases h) rfl (by decide) cq56 (by decide) ac0 (by decide) hsz (by decide) (by decide) (by intro i; simp [Z2, Z1, Z0, up]) ⟨by decide +kernel, by decide +kernel⟩ ?_
  refine ok_putR (pc := 33) (n := 57) a 3 rfl hin dX1_init_33 lfRX1_21 lhRX1_21 rfl rfl (by decide) (by decide) (by rw [cq52]) rfl (fun _ => ⟨rfl, rfl⟩) ?_
  have eG : upg G54 52 3 (some 56) = G55 := rfl
  rw [eG]
  clear eG
  refine ok_aload_n (pc := 36) a dX1_init_36 rfl rfl ?_
  refine ok_bipush (pc := 37) a dX1_init_37 (by decide) ?_
  refine ok_newarr (pc := 39) (n := 57) (t := 0) (len := 6) a dX1_init_39 rfl (fun C h => by cases h) rfl (by decide) cq57 (by decide) ac0 (by decide) hsz (by decide) (by decide) (by intro i; simp [Z2, Z1, Z0, up]) ⟨by decide +kernel, by decide +kernel⟩ ?_
  refine ok_putR (pc := 41) (n := 58) a 4 rfl hin dX1_init_41 lfRX1_24 lhRX1_24 rfl rfl (by decide) (by decide) (by rw [cq52]) rfl (fun _ => ⟨rfl, rfl⟩) ?_
  have eG : upg G55 52 4 (some 57) = G56 := rfl
  rw [eG]
  clear eG
  refine ok_aload_n (pc := 44) a dX1_init_44 rfl rfl ?_
  refine ok_sipush (pc := 45) a dX1_init_45 (by decide) ?_
  refine ok_newarr (pc := 48) (n := 58) (t := 0) (len := 721) a dX1_init_48 rfl (fun C h => by cases h) rfl (by decide) cq58 (by decide) ac0 (by decide) hsz (by decide) (by decide) (by intro i; simp [Z2, Z1, Z0, up]) ⟨by decide +kernel, by decide +kernel⟩ ?_
  refine ok_putR (pc := 50) (n := 59) a 5 rfl hin dX1_init_50 lfRX1_27 lhRX1_27 rfl rfl (by decide) (by decide) (by rw [cq52]) rfl (fun _ => ⟨rfl, rfl⟩) ?_
  have eG : upg G56 52 5 (some 58) = G57 := rfl
  rw [eG]
  clear eG
  exact ok_vret (pc := 53) a dX1_init_53 ⟨rfl, rfl, rfl⟩
set_option maxRecDepth 100000 in
set_option maxHeartbeats 4000000 in
theorem C_X8_init_0 {Γ : Gm} {l : Launch} {Q : aH → Prop} (hw : wp_X7_makeEmpty 3 Z2 (fun h1 => wp_X8_beginAnew h1 Q)) : ClA Γ l mX8_init [vR 0] 1 59 G0 Z0 (RV G58 Q) := by
  have tcX := tc_X8_init
  refine ClA.of (by decide) [some (vR 0)] rfl (Nat.le_of_ble_eq_true rfl) ?_
  intro p e s m args below meth c a hao hsz hin
  refine ok_aload_n (pc := 0) a dX8_init_0 rfl rfl ?_
  refine ok_objInit (pc := 1) (st := []) a dX8_init_1 loRX8_3 (Nat.le_of_ble_eq_true rfl) (Nat.le_of_ble_eq_true rfl) ?_
  refine ok_aload_n (pc := 4) a dX8_init_4 rfl rfl ?_
  refine ok_new (pc := 5) (n := 1) a dX8_init_5 cq1 (by decide) clRX8_9 ci6 cn6 hsz (by decide) (by decide) (by intro i; simp [Z0, up]) (gb0 1 (by decide)) ⟨by decide +kernel, by decide +kernel⟩ ?_
  refine ok_dup (pc := 8) a dX8_init_8 (by rfl) ?_
  refine ok_callI (pc := 9) (n := 2) (nE := 3) (st := [(vR 1), (vR 0)]) a C_X6_init_1 hao rfl dX8_init_9 liRX8_11 ⟨by decide, by decide⟩ hsz (by decide) (by decide) ⟨by decide +kernel, by decide +kernel⟩ (Nat.le_of_ble_eq_true rfl) (fun v g1 h1 q => ?_)
  obtain ⟨rfl, rfl, rfl⟩ := q
  refine ok_putR (pc := 12) (n := 3) a 0 rfl hin dX8_init_12 lfRX8_12 lhRX8_12 rfl rfl (by decide) (by decide) (by rw [cq0]) rfl (fun _ => ⟨rfl, rfl⟩) ?_
  have eG : upg G1 0 0 (some 1) = G2 := rfl
  rw [eG]
  clear eG
  refine ok_aload_n (pc := 15) a dX8_init_15 rfl rfl ?_
  refine ok_new (pc := 16) (n := 3) a dX8_init_16 cq3 (by decide) clRX8_16 ci7 cn7 hsz (by decide) (by decide) (by intro i; simp [Z1, Z0, up]) (gb2 3 (by decide)) ⟨by decide +kernel, by decide +kernel⟩ ?_
  refine ok_dup (pc := 19) a dX8_init_19 (by rfl) ?_
  refine ok_callI (pc := 20) (n := 4) (nE := 8) (st := [(vR 3), (vR 0)]) a C_X7_init_3 hao rfl dX8_init_20 liRX8_18 ⟨by decide, by decide⟩ hsz (by decide) (by decide) ⟨by decide +kernel, by decide +kernel⟩ (Nat.le_of_ble_eq_true rfl) (fun v g1 h1 q => ?_)
  obtain ⟨rfl, rfl, rfl⟩ := q
  refine ok_putR (pc := 23) (n := 8) a 1 rfl hin dX8_init_23 lfRX8_19 lhRX8_19 rfl rfl (by decide) (by decide) (by rw [cq0]) rfl (fun _ => ⟨rfl, rfl⟩) ?_
  have eG : upg G6 0 1 (some 3) = G7 := rfl
  rw [eG]
  clear eG
  refine ok_aload_n (pc := 26) a dX8_init_26 rfl rfl ?_
  refine ok_new (pc := 27) (n := 8) a dX8_init_27 cq8 (by decide) clRX8_16 ci7 cn7 hsz (by decide) (by decide) (by intro i; simp [Z1, Z0, up]) (gb7 8 (by decide)) ⟨by decide +kernel, by decide +kernel⟩ ?_
  refine ok_dup (pc := 30) a dX8_init_30 (by rfl) ?_
  refine ok_callI (pc := 31) (n := 9) (nE := 13) (st := [(vR 8), (vR 0)]) a C_X7_init_8 hao rfl dX8_init_31 liRX8_18 ⟨by decide, by decide⟩ hsz (by decide) (by decide) ⟨by decide +kernel, by decide +kernel⟩ (Nat.le_of_ble_eq_true rfl) (fun v g1 h1 q => ?_)
  obtain ⟨rfl, rfl, rfl⟩ := q
  refine ok_putR (pc := 34) (n := 13) a 2 rfl hin dX8_init_34 lfRX8_23 lhRX8_23 rfl rfl (by decide) (by decide) (by rw [cq0]) rfl (fun _ => ⟨rfl, rfl⟩) ?_
  have eG : upg G11 0 2 (some 8) = G12 := rfl
  rw [eG]
  clear eG
  refine ok_aload_n (pc := 37) a dX8_init_37 rfl rfl ?_
  refine ok_new (pc := 38) (n := 13) a dX8_init_38 cq13 (by decide) clRX8_26 ci4 cn4 hsz (by decide) (by decide) (by intro i; simp [Z1, Z0, up]) (gb12 13 (by decide)) ⟨by decide +kernel, by decide +kernel⟩ ?_
  refine ok_dup (pc := 41) a dX8_init_41 (by rfl) ?_
  refine ok_callI (pc := 42) (n := 14) (nE := 15) (st := [(vR 13), (vR 0)]) a C_X4_init_13 hao rfl dX8_init_42 liRX8_28 ⟨by decide, by decide⟩ hsz (by decide) (by decide) ⟨by decide +kernel, by decide +kernel⟩ (Nat.le_of_ble_eq_true rfl) (fun v g1 h1 q => ?_)
  obtain ⟨rfl, rfl, rfl⟩ := q
  refine ok_putR (pc := 45) (n := 15) a 3 rfl hin dX8_init_45 lfRX8_29 lhRX8_29 rfl rfl (by decide) (by decide) (by rw [cq0]) rfl (fun _ => ⟨rfl, rfl⟩) ?_
  have eG : upg G13 0 3 (some 13) = G14 := rfl
  rw [eG]
  clear eG
  refine ok_aload_n (pc := 48) a dX8_init_48 rfl rfl ?_
  refine ok_new (pc := 49) (n := 15) a dX8_init_49 cq15 (by decide) clRX8_33 ci2 cn2 hsz (by decide) (by decide) (by intro i; simp [Z1, Z0, up]) (gb14 15 (by decide)) ⟨by decide +kernel, by decide +kernel⟩ ?_
  refine ok_dup (pc := 52) a dX8_init_52 (by rfl) ?_
  refine ok_callI (pc := 53) (n := 16) (nE := 37) (st := [(vR 15), (vR 0)]) a C_X2_init_15 hao rfl dX8_init_53 liRX8_35 ⟨by decide, by decide⟩ hsz (by decide) (by decide) ⟨by decide +kernel, by decide +kernel⟩ (Nat.le_of_ble_eq_true rfl) (fun v g1 h1 q => ?_)
  obtain ⟨rfl, rfl, rfl⟩ := q
  refine ok_putR (pc := 56) (n := 37) a 4 rfl hin dX8_init_56 lfRX8_36 lhRX8_36 rfl rfl (by decide) (by decide) (by rw [cq0]) rfl (fun _ => ⟨rfl, rfl⟩) ?_
  have eG : upg G35 0 4 (some 15) = G36 := rfl
  rw [eG]
  clear eG
  refine ok_aload_n (pc := 59) a dX8_init_59 rfl rfl ?_
  refine ok_iconst (pc := 60) a dX8_init_60 ?_
  refine ok_anew (pc := 61) (n := 37) (len := 2) a hao dX8_init_61 clRX8_26 cq37 (by decide) hsz (by decide) (by decide) (gb36 37 (by decide)) ⟨by decide +kernel, by decide +kernel⟩ ?_
  refine ok_dup (pc := 64) a dX8_init_64 (by rfl) ?_
  refine ok_iconst (pc := 65) a dX8_init_65 ?_
  refine ok_new (pc := 66) (n := 38) a dX8_init_66 cq38 (by decide) clRX8_26 ci4 cn4 hsz (by decide) (by decide) (by intro i; simp [Z1, Z0, up]) (gb36 38 (by decide)) ⟨by decide +kernel, by decide +kernel⟩ ?_
  refine ok_dup (pc := 69) a dX8_init_69 (by rfl) ?_
  refine ok_callI (pc := 70) (n := 39) (nE := 40) (st := [(vR 38), (vI 0), (vR 37), (vR 37), (vR 0)]) a C_X4_init_38 hao rfl dX8_init_70 liRX8_28 ⟨by decide, by decide⟩ hsz (by decide) (by decide) ⟨by decide +kernel, by decide +kernel⟩ (Nat.le_of_ble_eq_true rfl) (fun v g1 h1 q => ?_)
  obtain ⟨rfl, rfl, rfl⟩ := q
  refine ok_aast (pc := 73) (n := 40) a dX8_init_73 (by decide) cq37 (by decide) ⟨by decide, by decide⟩ (by decide) (by rw [cq38]) ?_
  have eG : upg G37 37 0 (some 38) = G38 := rfl
  rw [eG]
  clear eG
  refine ok_dup (pc := 74) a dX8_init_74 (by rfl) ?_
  refine ok_iconst (pc := 75) a dX8_init_75 ?_
  refine ok_new (pc := 76) (n := 40) a dX8_init_76 cq40 (by decide) clRX8_26 ci4 cn4 hsz (by decide) (by decide) (by intro i; simp [Z1, Z0, up]) (gb38 40 (by decide)) ⟨by decide +kernel, by decide +kernel⟩ ?_
  refine ok_dup (pc := 79) a dX8_init_79 (by rfl) ?_
  refine ok_callI (pc := 80) (n := 41) (nE := 42) (st := [(vR 40), (vI 1), (vR 37), (vR 37), (vR 0)]) a C_X4_init_40 hao rfl dX8_init_80 liRX8_28 ⟨by decide, by decide⟩ hsz (by decide) (by decide) ⟨by decide +kernel, by decide +kernel⟩ (Nat.le_of_ble_eq_true rfl) (fun v g1 h1 q => ?_)
  obtain ⟨rfl, rfl, rfl⟩ := q
  refine ok_aast (pc := 83) (n := 42) a dX8_init_83 (by decide) cq37 (by decide) ⟨by decide, by decide⟩ (by decide) (by rw [cq40]) ?_
  have eG : upg G39 37 1 (some 40) = G40 := rfl
  rw [eG]
  clear eG
  refine ok_putR (pc := 84) (n := 42) a 5 rfl hin dX8_init_84 lfRX8_40 lhRX8_40 rfl rfl (by decide) (by decide) (by rw [cq0]) rfl (fun _ => ⟨rfl, rfl⟩) ?_
  have eG : upg G40 0 5 (some 37) = G41 := rfl
  rw [eG]
  clear eG
  refine ok_aload_n (pc := 87) a dX8_init_87 rfl rfl ?_
  refine ok_iconst (pc := 88) a dX8_init_88 ?_
  refine ok_newarr (pc := 89) (n := 42) (t := 3) (len := 2) a dX8_init_89 rfl (fun C h => by cases h) rfl (by decide) cq42 (by decide) ac3 (by decide) hsz (by decide) (by decide) (by intro i; simp [Z1, Z0, up]) ⟨by decide +kernel, by decide +kernel⟩ ?_
  refine ok_putR (pc := 91) (n := 43) a 6 rfl hin dX8_init_91 lfRX8_44 lhRX8_44 rfl rfl (by decide) (by decide) (by rw [cq0]) rfl (fun _ => ⟨rfl, rfl⟩) ?_
  have eG : upg G41 0 6 (some 42) = G42 := rfl
  rw [eG]
  clear eG
  refine ok_aload_n (pc := 94) a dX8_init_94 rfl rfl ?_
  refine ok_new (pc := 95) (n := 43) a dX8_init_95 cq43 (by decide) clRX8_48 ci5 cn5 hsz (by decide) (by decide) (by intro i; simp [Z1, Z0, up]) (gb42 43 (by decide)) ⟨by decide +kernel, by decide +kernel⟩ ?_
  refine ok_dup (pc := 98) a dX8_init_98 (by rfl) ?_
  refine ok_callI (pc := 99) (n := 44) (nE := 46) (st := [(vR 43), (vR 0)]) a C_X5_init_43 hao rfl dX8_init_99 liRX8_50 ⟨by decide, by decide⟩ hsz (by decide) (by decide) ⟨by decide +kernel, by decide +kernel⟩ (Nat.le_of_ble_eq_true rfl) (fun v g1 h1 q => ?_)
  obtain ⟨rfl, rfl, rfl⟩ := q
  refine ok_putR (pc := 102) (n := 46) a 7 rfl hin dX8_init_102 lfRX8_51 lhRX8_51 rfl rfl (by decide) (by decide) (by rw [cq0]) rfl (fun _ => ⟨rfl, rfl⟩) ?_
  have eG : upg G44 0 7 (some 43) = G45 := rfl
  rw [eG]
  clear eG
  refine ok_aload_n (pc := 105) a dX8_init_105 rfl rfl ?_
  refine ok_new (pc := 106) (n := 46) a dX8_init_106 cq46 (by decide) clRX8_55 ci0 cn0 hsz (by decide) (by decide) (by intro i; simp [Z2, Z1, Z0, up]) (gb45 46 (by decide)) ⟨by decide +kernel, by decide +kernel⟩ ?_
  refine ok_dup (pc := 109) a dX8_init_109 (by rfl) ?_
  refine ok_callI (pc := 110) (n := 47) (nE := 49) (st := [(vR 46), (vR 0)]) a C_X0_init_46 hao rfl dX8_init_110 liRX8_57 ⟨by decide, by decide⟩ hsz (by decide) (by decide) ⟨by decide +kernel, by decide +kernel⟩ (Nat.le_of_ble_eq_true rfl) (fun v g1 h1 q => ?_)
  obtain ⟨rfl, rfl, rfl⟩ := q
  refine ok_putR (pc := 113) (n := 49) a 8 rfl hin dX8_init_113 lfRX8_58 lhRX8_58 rfl rfl (by decide) (by decide) (by rw [cq0]) rfl (fun _ => ⟨rfl, rfl⟩) ?_
  have eG : upg G47 0 8 (some 46) = G48 := rfl
  rw [eG]
  clear eG
  refine ok_aload_n (pc := 116) a dX8_init_116 rfl rfl ?_
  refine ok_new (pc := 117) (n := 49) a dX8_init_117 cq49 (by decide) clRX8_62 ci3 cn3 hsz (by decide) (by decide) (by intro i; simp [Z2, Z1, Z0, up]) (gb48 49 (by decide)) ⟨by decide +kernel, by decide +kernel⟩ ?_
  refine ok_dup (pc := 120) a dX8_init_120 (by rfl) ?_
  refine ok_callI (pc := 121) (n := 50) (nE := 52) (st := [(vR 49), (vR 0)]) a C_X3_init_49 hao rfl dX8_init_121 liRX8_64 ⟨by decide, by decide⟩ hsz (by decide) (by decide) ⟨by decide +kernel, by decide +kernel⟩ (Nat.le_of_ble_eq_true rfl) (fun v g1 h1 q => ?_)
  obtain ⟨rfl, rfl, rfl⟩ := q
  refine ok_putR (pc := 124) (n := 52) a 9 rfl hin dX8_init_124 lfRX8_65 lhRX8_65 rfl rfl (by decide) (by decide) (by rw [cq0]) rfl (fun _ => ⟨rfl, rfl⟩) ?_
  have eG : upg G50 0 9 (some 49) = G51 := rfl
  rw [eG]
  clear eG
  refine ok_aload_n (pc := 127) a dX8_init_127 rfl rfl ?_
  refine ok_new (pc := 128) (n := 52) a dX8_init_128 cq52 (by decide) clRX8_69 ci1 cn1 hsz (by decide) (by decide) (by intro i; simp [Z2, Z1, Z0, up]) (gb51 52 (by decide)) ⟨by decide +kernel, by decide +kernel⟩ ?_
  refine ok_dup (pc := 131) a dX8_init_131 (by rfl) ?_
  refine ok_callI (pc := 132) (n := 53) (nE := 59) (st := [(vR 52), (vR 0)]) a C_X1_init_52 hao rfl dX8_init_132 liRX8_71 ⟨by decide, by decide⟩ hsz (by decide) (by decide) ⟨by decide +kernel, by decide +kernel⟩ (Nat.le_of_ble_eq_true rfl) (fun v g1 h1 q => ?_)
  obtain ⟨rfl, rfl, rfl⟩ := q
  refine ok_putR (pc := 135) (n := 59) a 10 rfl hin dX8_init_135 lfRX8_72 lhRX8_72 rfl rfl (by decide) (by decide) (by rw [cq0]) rfl (fun _ => ⟨rfl, rfl⟩) ?_
  have eG : upg G57 0 10 (some 52) = G58 := rfl
  rw [eG]
  clear eG
  refine ok_aload_n (pc := 138) a dX8_init_138 rfl rfl ?_
  refine ok_getR (pc := 139) (r := 3) a dX8_init_139 lfRX8_19 (by decide) (by rw [cq0]) rfl (by decide +kernel) ?_
  refine ok_gV (pc := 142) (n := 59) (as := []) (st := []) a (M_X7_makeEmpty (by decide) tcX 3 (by rw [cq3]) (by decide) hw) dX8_init_142 lkRX8_76 rfl (by decide) (by rw [cq3]) (by decide) rfl ⟨by decide, by decide⟩ ⟨by decide +kernel, by decide +kernel⟩ (by decide) (fun v g1 h1 q => ?_)
  obtain ⟨rfl, rfl, hw⟩ := q
  refine ok_aload_n (pc := 145) a dX8_init_145 rfl rfl ?_
  refine ok_gV (pc := 146) (n := 59) (as := []) (st := []) a (M_X8_beginAnew (by decide) tcX hw) dX8_init_146 lkRX8_79 rfl (by decide) (by rw [cq0]) (by decide) rfl ⟨by decide, by decide⟩ ⟨by decide +kernel, by decide +kernel⟩ (by decide) (fun v g1 h1 q => ?_)
  obtain ⟨rfl, rfl, hw⟩ := q
  exact ok_vret (pc := 149) a dX8_init_149 ⟨rfl, rfl, hw⟩
set_option maxRecDepth 100000 in
set_option maxHeartbeats 4000000 in
theorem C_X9_init_59 {Γ : Gm} {l : Launch} {h : aH} (hz : ∀ m, 59 ≤ m → ∀ i, h m i = 0) {Q : aH → Prop} (hw : wp_X9_begins h (fun h1 => wp_X9_settles h1 Q)) : ClA Γ l mX9_init [vR 59] 60 80 G58 h (RV G78 Q) := by
  have tcX := tc_X9_init
  refine ClA.of (by decide) [some (vR 59)] rfl (Nat.le_of_ble_eq_true rfl) ?_
  intro p e s m args below meth c a hao hsz hin
  refine ok_aload_n (pc := 0) a dX9_init_0 rfl rfl ?_
  refine ok_objInit (pc := 1) (st := []) a dX9_init_1 loRX9_1 (Nat.le_of_ble_eq_true rfl) (Nat.le_of_ble_eq_true rfl) ?_
  refine ok_aload_n (pc := 4) a dX9_init_4 rfl rfl ?_
  refine ok_sipush (pc := 5) a dX9_init_5 (by decide) ?_
  refine ok_newarr (pc := 8) (n := 60) (t := 0) (len := 150) a dX9_init_8 rfl (fun C h => by cases h) rfl (by decide) cq60 (by decide) ac0 (by decide) hsz (by decide) (by decide) (fun i => hz 60 (by decide) i) ⟨by decide +kernel, by decide +kernel⟩ ?_
  refine ok_putR (pc := 10) (n := 61) a 2 rfl hin dX9_init_10 lfRX9_7 lhRX9_7 rfl rfl (by decide) (by decide) (by rw [cq59]) rfl (fun _ => ⟨rfl, rfl⟩) ?_
  have eG : upg G58 59 2 (some 60) = G59 := rfl
  rw [eG]
  clear eG
  refine ok_aload_n (pc := 13) a dX9_init_13 rfl rfl ?_
  refine ok_iconst (pc := 14) a dX9_init_14 ?_
  refine ok_newarr (pc := 15) (n := 61) (t := 0) (len := 4) a dX9_init_15 rfl (fun C h => by cases h) rfl (by decide) cq61 (by decide) ac0 (by decide) hsz (by decide) (by decide) (fun i => hz 61 (by decide) i) ⟨by decide +kernel, by decide +kernel⟩ ?_
  refine ok_putR (pc := 17) (n := 62) a 9 rfl hin dX9_init_17 lfRX9_13 lhRX9_13 rfl rfl (by decide) (by decide) (by rw [cq59]) rfl (fun _ => ⟨rfl, rfl⟩) ?_
  have eG : upg G59 59 9 (some 61) = G60 := rfl
  rw [eG]
  clear eG
  refine ok_aload_n (pc := 20) a dX9_init_20 rfl rfl ?_
  refine ok_bipush (pc := 21) a dX9_init_21 (by decide) ?_
  refine ok_newarr (pc := 23) (n := 62) (t := 0) (len := 8) a dX9_init_23 rfl (fun C h => by cases h) rfl (by decide) cq62 (by decide) ac0 (by decide) hsz (by decide) (by decide) (fun i => hz 62 (by decide) i) ⟨by decide +kernel, by decide +kernel⟩ ?_
  refine ok_putR (pc := 25) (n := 63) a 10 rfl hin dX9_init_25 lfRX9_16 lhRX9_16 rfl rfl (by decide) (by decide) (by rw [cq59]) rfl (fun _ => ⟨rfl, rfl⟩) ?_
  have eG : upg G60 59 10 (some 62) = G61 := rfl
  rw [eG]
  clear eG
  refine ok_aload_n (pc := 28) a dX9_init_28 rfl rfl ?_
  refine ok_bipush (pc := 29) a dX9_init_29 (by decide) ?_
  refine ok_newarr (pc := 31) (n := 63) (t := 0) (len := 16) a dX9_init_31 rfl (fun C h => by cases h) rfl (by decide) cq63 (by decide) ac0 (by decide) hsz (by decide) (by decide) (fun i => hz 63 (by decide) i) ⟨by decide +kernel, by decide +kernel⟩ ?_
  refine ok_putR (pc := 33) (n := 64) a 11 rfl hin dX9_init_33 lfRX9_19 lhRX9_19 rfl rfl (by decide) (by decide) (by rw [cq59]) rfl (fun _ => ⟨rfl, rfl⟩) ?_
  have eG : upg G61 59 11 (some 63) = G62 := rfl
  rw [eG]
  clear eG
  refine ok_aload_n (pc := 36) a dX9_init_36 rfl rfl ?_
  refine ok_bipush (pc := 37) a dX9_init_37 (by decide) ?_
  refine ok_newarr (pc := 39) (n := 64) (t := 0) (len := 32) a dX9_init_39 rfl (fun C h => by cases h) rfl (by decide) cq64 (by decide) ac0 (by decide) hsz (by decide) (by decide) (fun i => hz 64 (by decide) i) ⟨by decide +kernel, by decide +kernel⟩ ?_
  refine ok_putR (pc := 41) (n := 65) a 12 rfl hin dX9_init_41 lfRX9_22 lhRX9_22 rfl rfl (by decide) (by decide) (by rw [cq59]) rfl (fun _ => ⟨rfl, rfl⟩) ?_
  have eG : upg G62 59 12 (some 64) = G63 := rfl
  rw [eG]
  clear eG
  refine ok_aload_n (pc := 44) a dX9_init_44 rfl rfl ?_
  refine ok_bipush (pc := 45) a dX9_init_45 (by decide) ?_
  refine ok_newarr (pc := 47) (n := 65) (t := 0) (len := 10) a dX9_init_47 rfl (fun C h => by cases h) rfl (by decide) cq65 (by decide) ac0 (by decide) hsz (by decide) (by decide) (fun i => hz 65 (by decide) i) ⟨by decide +kernel, by decide +kernel⟩ ?_
  refine ok_putR (pc := 49) (n := 66) a 13 rfl hin dX9_init_49 lfRX9_25 lhRX9_25 rfl rfl (by decide) (by decide) (by rw [cq59]) rfl (fun _ => ⟨rfl, rfl⟩) ?_
  have eG : upg G63 59 13 (some 65) = G64 := rfl
  rw [eG]
  clear eG
  refine ok_aload_n (pc := 52) a dX9_init_52 rfl rfl ?_
  refine ok_bipush (pc := 53) a dX9_init_53 (by decide) ?_
  refine ok_newarr (pc := 55) (n := 66) (t := 0) (len := 23) a dX9_init_55 rfl (fun C h => by cases h) rfl (by decide) cq66 (by decide) ac0 (by decide) hsz (by decide) (by decide) (fun i => hz 66 (by decide) i) ⟨by decide +kernel, by decide +kernel⟩ ?_
  refine ok_putR (pc := 57) (n := 67) a 14 rfl hin dX9_init_57 lfRX9_28 lhRX9_28 rfl rfl (by decide) (by decide) (by rw [cq59]) rfl (fun _ => ⟨rfl, rfl⟩) ?_
  have eG : upg G64 59 14 (some 66) = G65 := rfl
  rw [eG]
  clear eG
  refine ok_aload_n (pc := 60) a dX9_init_60 rfl rfl ?_
  refine ok_bipush (pc := 61) a dX9_init_61 (by decide) ?_
  refine ok_newarr (pc := 63) (n := 67) (t := 0) (len := 46) a dX9_init_63 rfl (fun C h => by cases h) rfl (by decide) cq67 (by decide) ac0 (by decide) hsz (by decide) (by decide) (fun i => hz 67 (by decide) i) ⟨by decide +kernel, by decide +kernel⟩ ?_
  refine ok_putR (pc := 65) (n := 68) a 15 rfl hin dX9_init_65 lfRX9_31 lhRX9_31 rfl rfl (by decide) (by decide) (by rw [cq59]) rfl (fun _ => ⟨rfl, rfl⟩) ?_
  have eG : upg G65 59 15 (some 67) = G66 := rfl
  rw [eG]
  clear eG
  refine ok_aload_n (pc := 68) a dX9_init_68 rfl rfl ?_
  refine ok_iconst (pc := 69) a dX9_init_69 ?_
  refine ok_newarr (pc := 70) (n := 68) (t := 3) (len := 2) a dX9_init_70 rfl (fun C h => by cases h) rfl (by decide) cq68 (by decide) ac3 (by decide) hsz (by decide) (by decide) (fun i => hz 68 (by decide) i) ⟨by decide +kernel, by decide +kernel⟩ ?_
  refine ok_putR (pc := 72) (n := 69) a 16 rfl hin dX9_init_72 lfRX9_34 lhRX9_34 rfl rfl (by decide) (by decide) (by rw [cq59]) rfl (fun _ => ⟨rfl, rfl⟩) ?_
  have eG : upg G66 59 16 (some 68) = G67 := rfl
  rw [eG]
  clear eG
  refine ok_aload_n (pc := 75) a dX9_init_75 rfl rfl ?_
  refine ok_sipush (pc := 76) a dX9_init_76 (by decide) ?_
  refine ok_newarr (pc := 79) (n := 69) (t := 0) (len := 230) a dX9_init_79 rfl (fun C h => by cases h) rfl (by decide) cq69 (by decide) ac0 (by decide) hsz (by decide) (by decide) (fun i => hz 69 (by decide) i) ⟨by decide +kernel, by decide +kernel⟩ ?_
  refine ok_putR (pc := 81) (n := 70) a 17 rfl hin dX9_init_81 lfRX9_38 lhRX9_38 rfl rfl (by decide) (by decide) (by rw [cq59]) rfl (fun _ => ⟨rfl, rfl⟩) ?_
  have eG : upg G67 59 17 (some 69) = G68 := rfl
  rw [eG]
  clear eG
  refine ok_aload_n (pc := 84) a dX9_init_84 rfl rfl ?_
  refine ok_bipush (pc := 85) a dX9_init_85 (by decide) ?_
  refine ok_newarr (pc := 87) (n := 70) (t := 0) (len := 6) a dX9_init_87 rfl (fun C h => by cases h) rfl (by decide) cq70 (by decide) ac0 (by decide) hsz (by decide) (by decide) (fun i => hz 70 (by decide) i) ⟨by decide +kernel, by decide +kernel⟩ ?_
  refine ok_putR (pc := 89) (n := 71) a 19 rfl hin dX9_init_89 lfRX9_41 lhRX9_41 rfl rfl (by decide) (by decide) (by rw [cq59]) rfl (fun _ => ⟨rfl, rfl⟩) ?_
  have eG : upg G68 59 19 (some 70) = G69 := rfl
  rw [eG]
  clear eG
  refine ok_aload_n (pc := 92) a dX9_init_92 rfl rfl ?_
  refine ok_bipush (pc := 93) a dX9_init_93 (by decide) ?_
  refine ok_newarr (pc := 95) (n := 71) (t := 0) (len := 6) a dX9_init_95 rfl (fun C h => by cases h) rfl (by decide) cq71 (by decide) ac0 (by decide) hsz (by decide) (by decide) (fun i => hz 71 (by decide) i) ⟨by decide +kernel, by decide +kernel⟩ ?_
  refine ok_putR (pc := 97) (n := 72) a 20 rfl hin dX9_init_97 lfRX9_44 lhRX9_44 rfl rfl (by decide) (by decide) (by rw [cq59]) rfl (fun _ => ⟨rfl, rfl⟩) ?_
  have eG : upg G69 59 20 (some 71) = G70 := rfl
  rw [eG]
  clear eG
  refine ok_aload_n (pc := 100) a dX9_init_100 rfl rfl ?_
  refine ok_bipush (pc := 101) a dX9_init_101 (by decide) ?_
  refine ok_newarr (pc := 103) (n := 72) (t := 0) (len := 6) a dX9_init_103 rfl (fun C h => by cases h) rfl (by decide) cq72 (by decide) ac0 (by decide) hsz (by decide) (by decide) (fun i => hz 72 (by decide) i) ⟨by decide +kernel, by decide +kernel⟩ ?_
  refine ok_putR (pc := 105) (n := 73) a 21 rfl hin dX9_init_105 lfRX9_47 lhRX9_47 rfl rfl (by decide) (by decide) (by rw [cq59]) rfl (fun _ => ⟨rfl, rfl⟩) ?_
  have eG : upg G70 59 21 (some 72) = G71 := rfl
  rw [eG]
  clear eG
  refine ok_aload_n (pc := 108) a dX9_init_108 rfl rfl ?_
  refine ok_bipush (pc := 109) a dX9_init_109 (by decide) ?_
  refine ok_newarr (pc := 111) (n := 73) (t := 0) (len := 6) a dX9_init_111 rfl (fun C h => by cases h) rfl (by decide) cq73 (by decide) ac0 (by decide) hsz (by decide) (by decide) (fun i => hz 73 (by decide) i) ⟨by decide +kernel, by decide +kernel⟩ ?_
  refine ok_putR (pc := 113) (n := 74) a 23 rfl hin dX9_init_113 lfRX9_50 lhRX9_50 rfl rfl (by decide) (by decide) (by rw [cq59]) rfl (fun _ => ⟨rfl, rfl⟩) ?_
  have eG : upg G71 59 23 (some 73) = G72 := rfl
  rw [eG]
  clear eG
  refine ok_aload_n (pc := 116) a dX9_init_116 rfl rfl ?_
  refine ok_bipush (pc := 117) a dX9_init_117 (by decide) ?_
  refine ok_newarr (pc := 119) (n := 74) (t := 0) (len := 6) a dX9_init_119 rfl (fun C h => by cases h) rfl (by decide) cq74 (by decide) ac0 (by decide) hsz (by decide) (by decide) (fun i => hz 74 (by decide) i) ⟨by decide +kernel, by decide +kernel⟩ ?_
  refine ok_putR (pc := 121) (n := 75) a 24 rfl hin dX9_init_121 lfRX9_53 lhRX9_53 rfl rfl (by decide) (by decide) (by rw [cq59]) rfl (fun _ => ⟨rfl, rfl⟩) ?_
  have eG : upg G72 59 24 (some 74) = G73 := rfl
  rw [eG]
  clear eG
  refine ok_aload_n (pc := 124) a dX9_init_124 rfl rfl ?_
  refine ok_bipush (pc := 125) a dX9_init_125 (by decide) ?_
  refine ok_newarr (pc := 127) (n := 75) (t := 0) (len := 75) a dX9_init_127 rfl (fun C h => by cases h) rfl (by decide) cq75 (by decide) ac0 (by decide) hsz (by decide) (by decide) (fun i => hz 75 (by decide) i) ⟨by decide +kernel, by decide +kernel⟩ ?_
  refine ok_putR (pc := 129) (n := 76) a 26 rfl hin dX9_init_129 lfRX9_56 lhRX9_56 rfl rfl (by decide) (by decide) (by rw [cq59]) rfl (fun _ => ⟨rfl, rfl⟩) ?_
  have eG : upg G73 59 26 (some 75) = G74 := rfl
  rw [eG]
  clear eG
  refine ok_aload_n (pc := 132) a dX9_init_132 rfl rfl ?_
  refine ok_sipush (pc := 133) a dX9_init_133 (by decide) ?_
  refine ok_newarr (pc := 136) (n := 76) (t := 0) (len := 4096) a dX9_init_136 rfl (fun C h => by cases h) rfl (by decide) cq76 (by decide) ac0 (by decide) hsz (by decide) (by decide) (fun i => hz 76 (by decide) i) ⟨by decide +kernel, by decide +kernel⟩ ?_
  refine ok_putR (pc := 138) (n := 77) a 28 rfl hin dX9_init_138 lfRX9_59 lhRX9_59 rfl rfl (by decide) (by decide) (by rw [cq59]) rfl (fun _ => ⟨rfl, rfl⟩) ?_
  have eG : upg G74 59 28 (some 76) = G75 := rfl
  rw [eG]
  clear eG
  refine ok_aload_n (pc := 141) a dX9_init_141 rfl rfl ?_
  refine ok_sipush (pc := 142) a dX9_init_142 (by decide) ?_
  refine ok_newarr (pc := 145) (n := 77) (t := 0) (len := 4096) a dX9_init_145 rfl (fun C h => by cases h) rfl (by decide) cq77 (by decide) ac0 (by decide) hsz (by decide) (by decide) (fun i => hz 77 (by decide) i) ⟨by decide +kernel, by decide +kernel⟩ ?_
  refine ok_putR (pc := 147) (n := 78) a 29 rfl hin dX9_init_147 lfRX9_62 lhRX9_62 rfl rfl (by decide) (by decide) (by rw [cq59]) rfl (fun _ => ⟨rfl, rfl⟩) ?_
  have eG : upg G75 59 29 (some 77) = G76 := rfl
  rw [eG]
  clear eG
  refine ok_aload_n (pc := 150) a dX9_init_150 rfl rfl ?_
  refine ok_sipush (pc := 151) a dX9_init_151 (by decide) ?_
  refine ok_newarr (pc := 154) (n := 78) (t := 0) (len := 1442) a dX9_init_154 rfl (fun C h => by cases h) rfl (by decide) cq78 (by decide) ac0 (by decide) hsz (by decide) (by decide) (fun i => hz 78 (by decide) i) ⟨by decide +kernel, by decide +kernel⟩ ?_
  refine ok_putR (pc := 156) (n := 79) a 30 rfl hin dX9_init_156 lfRX9_65 lhRX9_65 rfl rfl (by decide) (by decide) (by rw [cq59]) rfl (fun _ => ⟨rfl, rfl⟩) ?_
  have eG : upg G76 59 30 (some 78) = G77 := rfl
  rw [eG]
  clear eG
  refine ok_aload_n (pc := 159) a dX9_init_159 rfl rfl ?_
  refine ok_sipush (pc := 160) a dX9_init_160 (by decide) ?_
  refine ok_newarr (pc := 163) (n := 79) (t := 3) (len := 301) a dX9_init_163 rfl (fun C h => by cases h) rfl (by decide) cq79 (by decide) ac3 (by decide) hsz (by decide) (by decide) (fun i => hz 79 (by decide) i) ⟨by decide +kernel, by decide +kernel⟩ ?_
  refine ok_putR (pc := 165) (n := 80) a 31 rfl hin dX9_init_165 lfRX9_68 lhRX9_68 rfl rfl (by decide) (by decide) (by rw [cq59]) rfl (fun _ => ⟨rfl, rfl⟩) ?_
  have eG : upg G77 59 31 (some 79) = G78 := rfl
  rw [eG]
  clear eG
  refine ok_aload_n (pc := 168) a dX9_init_168 rfl rfl ?_
  refine ok_gV (pc := 169) (n := 80) (as := []) (st := []) a (M_X9_begins (by decide) tcX hw) dX9_init_169 lkRX9_71 rfl (by decide) (by rw [cq59]) (by decide) rfl ⟨by decide, by decide⟩ ⟨by decide +kernel, by decide +kernel⟩ (by decide) (fun v g1 h1 q => ?_)
  obtain ⟨rfl, rfl, hw⟩ := q
  refine ok_aload_n (pc := 172) a dX9_init_172 rfl rfl ?_
  refine ok_gV (pc := 173) (n := 80) (as := []) (st := []) a (M_X9_settles (by decide) tcX hw) dX9_init_173 lkRX9_74 rfl (by decide) (by rw [cq59]) (by decide) rfl ⟨by decide, by decide⟩ ⟨by decide +kernel, by decide +kernel⟩ (by decide) (fun v g1 h1 q => ?_)
  obtain ⟨rfl, rfl, hw⟩ := q
  exact ok_vret (pc := 176) a dX9_init_176 ⟨rfl, rfl, hw⟩
-- after the class's constructor: G58, Z2; after the reference's: G78
