set_option maxRecDepth 100000 in
theorem w_125 : Cond.classLink "RingChamberLaw" 7 "RingChamber" ∈ TB := tb_t1 (List.mem_of_getElem? (i := 21) rfl) rfl
set_option maxRecDepth 100000 in
theorem w_126 : Cond.instantiable "RingChamber" 17 ∈ TB := tb_t1 (List.mem_of_getElem? (i := 22) rfl) rfl
set_option maxRecDepth 100000 in
theorem w_127 : Cond.methodLink "RingChamberLaw" 9 ⟨"RingChamber", "<init>", "()V"⟩ ∈ TB := tb_t1 (List.mem_of_getElem? (i := 23) rfl) rfl
set_option maxRecDepth 100000 in
theorem w_128 : Cond.instanceMethod ⟨"RingChamber", "<init>", "()V"⟩ ∈ TB := tb_t1 (List.mem_of_getElem? (i := 24) rfl) rfl
set_option maxRecDepth 100000 in
theorem w_1297 : Cond.classLink "RingChamberLaw" 10 "RingChamberModel" ∈ TB := tb_t5 (List.mem_of_getElem? (i := 233) rfl) rfl
set_option maxRecDepth 100000 in
theorem w_1298 : Cond.instantiable "RingChamberModel" 51 ∈ TB := tb_t5 (List.mem_of_getElem? (i := 234) rfl) rfl
set_option maxRecDepth 100000 in
theorem w_1299 : Cond.methodLink "RingChamberLaw" 12 ⟨"RingChamberModel", "<init>", "()V"⟩ ∈ TB := tb_t5 (List.mem_of_getElem? (i := 235) rfl) rfl
set_option maxRecDepth 100000 in
theorem w_1300 : Cond.instanceMethod ⟨"RingChamberModel", "<init>", "()V"⟩ ∈ TB := tb_t5 (List.mem_of_getElem? (i := 236) rfl) rfl
set_option maxRecDepth 100000 in
theorem w_508 : Cond.methodLink "RingChamberLaw" 13 ⟨"RingChamber", "status", "()I"⟩ ∈ TB := tb_t2 (List.mem_of_getElem? (i := 164) rfl) rfl
set_option maxRecDepth 100000 in
theorem w_509 : Cond.instanceMethod ⟨"RingChamber", "status", "()I"⟩ ∈ TB := tb_t2 (List.mem_of_getElem? (i := 165) rfl) rfl
set_option maxRecDepth 100000 in
theorem w_510 : Cond.selects "RingChamber" ⟨"RingChamber", "status", "()I"⟩ ⟨"RingChamber", "status", "()I"⟩ ∈ TB := tb_t2 (List.mem_of_getElem? (i := 166) rfl) rfl
set_option maxRecDepth 100000 in
theorem w_1458 : Cond.methodLink "RingChamberLaw" 17 ⟨"RingChamberModel", "status", "()I"⟩ ∈ TB := tb_t6 (List.mem_of_getElem? (i := 154) rfl) rfl
set_option maxRecDepth 100000 in
theorem w_1459 : Cond.instanceMethod ⟨"RingChamberModel", "status", "()I"⟩ ∈ TB := tb_t6 (List.mem_of_getElem? (i := 155) rfl) rfl
set_option maxRecDepth 100000 in
theorem w_1460 : Cond.selects "RingChamberModel" ⟨"RingChamberModel", "status", "()I"⟩ ⟨"RingChamberModel", "status", "()I"⟩ ∈ TB := tb_t6 (List.mem_of_getElem? (i := 156) rfl) rfl
set_option maxRecDepth 100000 in
theorem w_512 : Cond.methodLink "RingChamberLaw" 18 ⟨"RingChamber", "top", "()J"⟩ ∈ TB := tb_t2 (List.mem_of_getElem? (i := 168) rfl) rfl
set_option maxRecDepth 100000 in
theorem w_513 : Cond.instanceMethod ⟨"RingChamber", "top", "()J"⟩ ∈ TB := tb_t2 (List.mem_of_getElem? (i := 169) rfl) rfl
set_option maxRecDepth 100000 in
theorem w_514 : Cond.selects "RingChamber" ⟨"RingChamber", "top", "()J"⟩ ⟨"RingChamber", "top", "()J"⟩ ∈ TB := tb_t2 (List.mem_of_getElem? (i := 170) rfl) rfl
set_option maxRecDepth 100000 in
theorem w_1462 : Cond.methodLink "RingChamberLaw" 22 ⟨"RingChamberModel", "top", "()J"⟩ ∈ TB := tb_t6 (List.mem_of_getElem? (i := 158) rfl) rfl
set_option maxRecDepth 100000 in
theorem w_1463 : Cond.instanceMethod ⟨"RingChamberModel", "top", "()J"⟩ ∈ TB := tb_t6 (List.mem_of_getElem? (i := 159) rfl) rfl
set_option maxRecDepth 100000 in
theorem w_1464 : Cond.selects "RingChamberModel" ⟨"RingChamberModel", "top", "()J"⟩ ⟨"RingChamberModel", "top", "()J"⟩ ∈ TB := tb_t6 (List.mem_of_getElem? (i := 160) rfl) rfl
set_option maxRecDepth 100000 in
theorem w_516 : Cond.methodLink "RingChamberLaw" 23 ⟨"RingChamber", "bottom", "()J"⟩ ∈ TB := tb_t2 (List.mem_of_getElem? (i := 172) rfl) rfl
set_option maxRecDepth 100000 in
theorem w_517 : Cond.instanceMethod ⟨"RingChamber", "bottom", "()J"⟩ ∈ TB := tb_t2 (List.mem_of_getElem? (i := 173) rfl) rfl
set_option maxRecDepth 100000 in
theorem w_518 : Cond.selects "RingChamber" ⟨"RingChamber", "bottom", "()J"⟩ ⟨"RingChamber", "bottom", "()J"⟩ ∈ TB := tb_t2 (List.mem_of_getElem? (i := 174) rfl) rfl
set_option maxRecDepth 100000 in
theorem w_1466 : Cond.methodLink "RingChamberLaw" 26 ⟨"RingChamberModel", "bottom", "()J"⟩ ∈ TB := tb_t6 (List.mem_of_getElem? (i := 162) rfl) rfl
set_option maxRecDepth 100000 in
theorem w_1467 : Cond.instanceMethod ⟨"RingChamberModel", "bottom", "()J"⟩ ∈ TB := tb_t6 (List.mem_of_getElem? (i := 163) rfl) rfl
set_option maxRecDepth 100000 in
theorem w_1468 : Cond.selects "RingChamberModel" ⟨"RingChamberModel", "bottom", "()J"⟩ ⟨"RingChamberModel", "bottom", "()J"⟩ ∈ TB := tb_t6 (List.mem_of_getElem? (i := 164) rfl) rfl
set_option maxRecDepth 100000 in
theorem w_520 : Cond.methodLink "RingChamberLaw" 27 ⟨"RingChamber", "tray", "(III)Z"⟩ ∈ TB := tb_t2 (List.mem_of_getElem? (i := 176) rfl) rfl
set_option maxRecDepth 100000 in
theorem w_521 : Cond.instanceMethod ⟨"RingChamber", "tray", "(III)Z"⟩ ∈ TB := tb_t2 (List.mem_of_getElem? (i := 177) rfl) rfl
set_option maxRecDepth 100000 in
theorem w_522 : Cond.selects "RingChamber" ⟨"RingChamber", "tray", "(III)Z"⟩ ⟨"RingChamber", "tray", "(III)Z"⟩ ∈ TB := tb_t2 (List.mem_of_getElem? (i := 178) rfl) rfl
set_option maxRecDepth 100000 in
theorem w_1470 : Cond.methodLink "RingChamberLaw" 31 ⟨"RingChamberModel", "tray", "(III)Z"⟩ ∈ TB := tb_t6 (List.mem_of_getElem? (i := 166) rfl) rfl
set_option maxRecDepth 100000 in
theorem w_1471 : Cond.instanceMethod ⟨"RingChamberModel", "tray", "(III)Z"⟩ ∈ TB := tb_t6 (List.mem_of_getElem? (i := 167) rfl) rfl
set_option maxRecDepth 100000 in
theorem w_1472 : Cond.selects "RingChamberModel" ⟨"RingChamberModel", "tray", "(III)Z"⟩ ⟨"RingChamberModel", "tray", "(III)Z"⟩ ∈ TB := tb_t6 (List.mem_of_getElem? (i := 168) rfl) rfl
set_option maxRecDepth 100000 in
theorem w_1964 : Cond.constantLong "RingChamberLaw" 32 4294967295 ∈ TB := tb_t8 (List.mem_of_getElem? (i := 180) rfl) rfl
set_option maxRecDepth 100000 in
theorem w_549 : Cond.methodLink "RingChamberLaw" 34 ⟨"RingChamber", "write", "(IIJ)Z"⟩ ∈ TB := tb_t2 (List.mem_of_getElem? (i := 205) rfl) rfl
set_option maxRecDepth 100000 in
theorem w_550 : Cond.instanceMethod ⟨"RingChamber", "write", "(IIJ)Z"⟩ ∈ TB := tb_t2 (List.mem_of_getElem? (i := 206) rfl) rfl
set_option maxRecDepth 100000 in
theorem w_551 : Cond.selects "RingChamber" ⟨"RingChamber", "write", "(IIJ)Z"⟩ ⟨"RingChamber", "write", "(IIJ)Z"⟩ ∈ TB := tb_t2 (List.mem_of_getElem? (i := 207) rfl) rfl
set_option maxRecDepth 100000 in
theorem w_1481 : Cond.methodLink "RingChamberLaw" 38 ⟨"RingChamberModel", "write", "(IIJ)Z"⟩ ∈ TB := tb_t6 (List.mem_of_getElem? (i := 177) rfl) rfl
set_option maxRecDepth 100000 in
theorem w_1482 : Cond.instanceMethod ⟨"RingChamberModel", "write", "(IIJ)Z"⟩ ∈ TB := tb_t6 (List.mem_of_getElem? (i := 178) rfl) rfl
set_option maxRecDepth 100000 in
theorem w_1483 : Cond.selects "RingChamberModel" ⟨"RingChamberModel", "write", "(IIJ)Z"⟩ ⟨"RingChamberModel", "write", "(IIJ)Z"⟩ ∈ TB := tb_t6 (List.mem_of_getElem? (i := 179) rfl) rfl
set_option maxRecDepth 100000 in
theorem w_564 : Cond.methodLink "RingChamberLaw" 39 ⟨"RingChamber", "read", "(II)J"⟩ ∈ TB := tb_t2 (List.mem_of_getElem? (i := 220) rfl) rfl
set_option maxRecDepth 100000 in
theorem w_565 : Cond.instanceMethod ⟨"RingChamber", "read", "(II)J"⟩ ∈ TB := tb_t2 (List.mem_of_getElem? (i := 221) rfl) rfl
set_option maxRecDepth 100000 in
theorem w_566 : Cond.selects "RingChamber" ⟨"RingChamber", "read", "(II)J"⟩ ⟨"RingChamber", "read", "(II)J"⟩ ∈ TB := tb_t2 (List.mem_of_getElem? (i := 222) rfl) rfl
set_option maxRecDepth 100000 in
theorem w_1492 : Cond.methodLink "RingChamberLaw" 43 ⟨"RingChamberModel", "read", "(II)J"⟩ ∈ TB := tb_t6 (List.mem_of_getElem? (i := 188) rfl) rfl
set_option maxRecDepth 100000 in
theorem w_1493 : Cond.instanceMethod ⟨"RingChamberModel", "read", "(II)J"⟩ ∈ TB := tb_t6 (List.mem_of_getElem? (i := 189) rfl) rfl
set_option maxRecDepth 100000 in
theorem w_1494 : Cond.selects "RingChamberModel" ⟨"RingChamberModel", "read", "(II)J"⟩ ⟨"RingChamberModel", "read", "(II)J"⟩ ∈ TB := tb_t6 (List.mem_of_getElem? (i := 190) rfl) rfl
set_option maxRecDepth 100000 in
theorem w_572 : Cond.methodLink "RingChamberLaw" 44 ⟨"RingChamber", "pour", "(IIIII)Z"⟩ ∈ TB := tb_t2 (List.mem_of_getElem? (i := 228) rfl) rfl
set_option maxRecDepth 100000 in
theorem w_573 : Cond.instanceMethod ⟨"RingChamber", "pour", "(IIIII)Z"⟩ ∈ TB := tb_t2 (List.mem_of_getElem? (i := 229) rfl) rfl
set_option maxRecDepth 100000 in
theorem w_574 : Cond.selects "RingChamber" ⟨"RingChamber", "pour", "(IIIII)Z"⟩ ⟨"RingChamber", "pour", "(IIIII)Z"⟩ ∈ TB := tb_t2 (List.mem_of_getElem? (i := 230) rfl) rfl
set_option maxRecDepth 100000 in
theorem w_1497 : Cond.methodLink "RingChamberLaw" 48 ⟨"RingChamberModel", "pour", "(IIIII)Z"⟩ ∈ TB := tb_t6 (List.mem_of_getElem? (i := 193) rfl) rfl
set_option maxRecDepth 100000 in
theorem w_1498 : Cond.instanceMethod ⟨"RingChamberModel", "pour", "(IIIII)Z"⟩ ∈ TB := tb_t6 (List.mem_of_getElem? (i := 194) rfl) rfl
set_option maxRecDepth 100000 in
theorem w_1499 : Cond.selects "RingChamberModel" ⟨"RingChamberModel", "pour", "(IIIII)Z"⟩ ⟨"RingChamberModel", "pour", "(IIIII)Z"⟩ ∈ TB := tb_t6 (List.mem_of_getElem? (i := 195) rfl) rfl
set_option maxRecDepth 100000 in
theorem w_579 : Cond.methodLink "RingChamberLaw" 49 ⟨"RingChamber", "feed", "(IIIII)I"⟩ ∈ TB := tb_t2 (List.mem_of_getElem? (i := 235) rfl) rfl
set_option maxRecDepth 100000 in
theorem w_580 : Cond.instanceMethod ⟨"RingChamber", "feed", "(IIIII)I"⟩ ∈ TB := tb_t2 (List.mem_of_getElem? (i := 236) rfl) rfl
set_option maxRecDepth 100000 in
theorem w_581 : Cond.selects "RingChamber" ⟨"RingChamber", "feed", "(IIIII)I"⟩ ⟨"RingChamber", "feed", "(IIIII)I"⟩ ∈ TB := tb_t2 (List.mem_of_getElem? (i := 237) rfl) rfl
set_option maxRecDepth 100000 in
theorem w_1501 : Cond.methodLink "RingChamberLaw" 53 ⟨"RingChamberModel", "feed", "(IIIII)I"⟩ ∈ TB := tb_t6 (List.mem_of_getElem? (i := 197) rfl) rfl
set_option maxRecDepth 100000 in
theorem w_1502 : Cond.instanceMethod ⟨"RingChamberModel", "feed", "(IIIII)I"⟩ ∈ TB := tb_t6 (List.mem_of_getElem? (i := 198) rfl) rfl
set_option maxRecDepth 100000 in
theorem w_1503 : Cond.selects "RingChamberModel" ⟨"RingChamberModel", "feed", "(IIIII)I"⟩ ⟨"RingChamberModel", "feed", "(IIIII)I"⟩ ∈ TB := tb_t6 (List.mem_of_getElem? (i := 199) rfl) rfl
set_option maxRecDepth 100000 in
theorem w_587 : Cond.methodLink "RingChamberLaw" 54 ⟨"RingChamber", "book", "(I)I"⟩ ∈ TB := tb_t3 (List.mem_of_getElem? (i := 3) rfl) rfl
set_option maxRecDepth 100000 in
theorem w_588 : Cond.instanceMethod ⟨"RingChamber", "book", "(I)I"⟩ ∈ TB := tb_t3 (List.mem_of_getElem? (i := 4) rfl) rfl
set_option maxRecDepth 100000 in
theorem w_589 : Cond.selects "RingChamber" ⟨"RingChamber", "book", "(I)I"⟩ ⟨"RingChamber", "book", "(I)I"⟩ ∈ TB := tb_t3 (List.mem_of_getElem? (i := 5) rfl) rfl
set_option maxRecDepth 100000 in
theorem w_1513 : Cond.methodLink "RingChamberLaw" 58 ⟨"RingChamberModel", "book", "(I)I"⟩ ∈ TB := tb_t6 (List.mem_of_getElem? (i := 209) rfl) rfl
set_option maxRecDepth 100000 in
theorem w_1514 : Cond.instanceMethod ⟨"RingChamberModel", "book", "(I)I"⟩ ∈ TB := tb_t6 (List.mem_of_getElem? (i := 210) rfl) rfl
set_option maxRecDepth 100000 in
theorem w_1515 : Cond.selects "RingChamberModel" ⟨"RingChamberModel", "book", "(I)I"⟩ ⟨"RingChamberModel", "book", "(I)I"⟩ ∈ TB := tb_t6 (List.mem_of_getElem? (i := 211) rfl) rfl
set_option maxRecDepth 100000 in
theorem w_742 : Cond.methodLink "RingChamberLaw" 59 ⟨"RingChamber", "touch", "(I)I"⟩ ∈ TB := tb_t3 (List.mem_of_getElem? (i := 158) rfl) rfl
set_option maxRecDepth 100000 in
theorem w_743 : Cond.instanceMethod ⟨"RingChamber", "touch", "(I)I"⟩ ∈ TB := tb_t3 (List.mem_of_getElem? (i := 159) rfl) rfl
set_option maxRecDepth 100000 in
theorem w_744 : Cond.selects "RingChamber" ⟨"RingChamber", "touch", "(I)I"⟩ ⟨"RingChamber", "touch", "(I)I"⟩ ∈ TB := tb_t3 (List.mem_of_getElem? (i := 160) rfl) rfl
set_option maxRecDepth 100000 in
theorem w_1619 : Cond.methodLink "RingChamberLaw" 62 ⟨"RingChamberModel", "touch", "(I)I"⟩ ∈ TB := tb_t7 (List.mem_of_getElem? (i := 75) rfl) rfl
set_option maxRecDepth 100000 in
theorem w_1620 : Cond.instanceMethod ⟨"RingChamberModel", "touch", "(I)I"⟩ ∈ TB := tb_t7 (List.mem_of_getElem? (i := 76) rfl) rfl
set_option maxRecDepth 100000 in
theorem w_1621 : Cond.selects "RingChamberModel" ⟨"RingChamberModel", "touch", "(I)I"⟩ ⟨"RingChamberModel", "touch", "(I)I"⟩ ∈ TB := tb_t7 (List.mem_of_getElem? (i := 77) rfl) rfl
set_option maxRecDepth 100000 in
theorem w_837 : Cond.methodLink "RingChamberLaw" 63 ⟨"RingChamber", "fault", "(I)I"⟩ ∈ TB := tb_t4 (List.mem_of_getElem? (i := 13) rfl) rfl
set_option maxRecDepth 100000 in
theorem w_838 : Cond.instanceMethod ⟨"RingChamber", "fault", "(I)I"⟩ ∈ TB := tb_t4 (List.mem_of_getElem? (i := 14) rfl) rfl
set_option maxRecDepth 100000 in
theorem w_839 : Cond.selects "RingChamber" ⟨"RingChamber", "fault", "(I)I"⟩ ⟨"RingChamber", "fault", "(I)I"⟩ ∈ TB := tb_t4 (List.mem_of_getElem? (i := 15) rfl) rfl
set_option maxRecDepth 100000 in
theorem w_1509 : Cond.methodLink "RingChamberLaw" 66 ⟨"RingChamberModel", "fault", "(I)I"⟩ ∈ TB := tb_t6 (List.mem_of_getElem? (i := 205) rfl) rfl
set_option maxRecDepth 100000 in
theorem w_1510 : Cond.instanceMethod ⟨"RingChamberModel", "fault", "(I)I"⟩ ∈ TB := tb_t6 (List.mem_of_getElem? (i := 206) rfl) rfl
set_option maxRecDepth 100000 in
theorem w_1511 : Cond.selects "RingChamberModel" ⟨"RingChamberModel", "fault", "(I)I"⟩ ⟨"RingChamberModel", "fault", "(I)I"⟩ ∈ TB := tb_t6 (List.mem_of_getElem? (i := 207) rfl) rfl
set_option maxRecDepth 100000 in
theorem w_841 : Cond.methodLink "RingChamberLaw" 67 ⟨"RingChamber", "told", "(I)I"⟩ ∈ TB := tb_t4 (List.mem_of_getElem? (i := 17) rfl) rfl
set_option maxRecDepth 100000 in
theorem w_842 : Cond.instanceMethod ⟨"RingChamber", "told", "(I)I"⟩ ∈ TB := tb_t4 (List.mem_of_getElem? (i := 18) rfl) rfl
set_option maxRecDepth 100000 in
theorem w_843 : Cond.selects "RingChamber" ⟨"RingChamber", "told", "(I)I"⟩ ⟨"RingChamber", "told", "(I)I"⟩ ∈ TB := tb_t4 (List.mem_of_getElem? (i := 19) rfl) rfl
set_option maxRecDepth 100000 in
theorem w_1631 : Cond.methodLink "RingChamberLaw" 70 ⟨"RingChamberModel", "told", "(I)I"⟩ ∈ TB := tb_t7 (List.mem_of_getElem? (i := 87) rfl) rfl
set_option maxRecDepth 100000 in
theorem w_1632 : Cond.instanceMethod ⟨"RingChamberModel", "told", "(I)I"⟩ ∈ TB := tb_t7 (List.mem_of_getElem? (i := 88) rfl) rfl
set_option maxRecDepth 100000 in
theorem w_1633 : Cond.selects "RingChamberModel" ⟨"RingChamberModel", "told", "(I)I"⟩ ⟨"RingChamberModel", "told", "(I)I"⟩ ∈ TB := tb_t7 (List.mem_of_getElem? (i := 89) rfl) rfl
set_option maxRecDepth 100000 in
theorem w_849 : Cond.methodLink "RingChamberLaw" 71 ⟨"RingChamber", "bell", "(II)I"⟩ ∈ TB := tb_t4 (List.mem_of_getElem? (i := 25) rfl) rfl
set_option maxRecDepth 100000 in
theorem w_850 : Cond.instanceMethod ⟨"RingChamber", "bell", "(II)I"⟩ ∈ TB := tb_t4 (List.mem_of_getElem? (i := 26) rfl) rfl
set_option maxRecDepth 100000 in
theorem w_851 : Cond.selects "RingChamber" ⟨"RingChamber", "bell", "(II)I"⟩ ⟨"RingChamber", "bell", "(II)I"⟩ ∈ TB := tb_t4 (List.mem_of_getElem? (i := 27) rfl) rfl
set_option maxRecDepth 100000 in
theorem w_1643 : Cond.methodLink "RingChamberLaw" 75 ⟨"RingChamberModel", "bell", "(II)I"⟩ ∈ TB := tb_t7 (List.mem_of_getElem? (i := 99) rfl) rfl
set_option maxRecDepth 100000 in
theorem w_1644 : Cond.instanceMethod ⟨"RingChamberModel", "bell", "(II)I"⟩ ∈ TB := tb_t7 (List.mem_of_getElem? (i := 100) rfl) rfl
set_option maxRecDepth 100000 in
theorem w_1645 : Cond.selects "RingChamberModel" ⟨"RingChamberModel", "bell", "(II)I"⟩ ⟨"RingChamberModel", "bell", "(II)I"⟩ ∈ TB := tb_t7 (List.mem_of_getElem? (i := 101) rfl) rfl
set_option maxRecDepth 100000 in
theorem w_875 : Cond.methodLink "RingChamberLaw" 76 ⟨"RingChamber", "number", "(I)I"⟩ ∈ TB := tb_t4 (List.mem_of_getElem? (i := 51) rfl) rfl
set_option maxRecDepth 100000 in
theorem w_876 : Cond.instanceMethod ⟨"RingChamber", "number", "(I)I"⟩ ∈ TB := tb_t4 (List.mem_of_getElem? (i := 52) rfl) rfl
set_option maxRecDepth 100000 in
theorem w_877 : Cond.selects "RingChamber" ⟨"RingChamber", "number", "(I)I"⟩ ⟨"RingChamber", "number", "(I)I"⟩ ∈ TB := tb_t4 (List.mem_of_getElem? (i := 53) rfl) rfl
set_option maxRecDepth 100000 in
theorem w_1659 : Cond.methodLink "RingChamberLaw" 79 ⟨"RingChamberModel", "number", "(I)I"⟩ ∈ TB := tb_t7 (List.mem_of_getElem? (i := 115) rfl) rfl
set_option maxRecDepth 100000 in
theorem w_1660 : Cond.instanceMethod ⟨"RingChamberModel", "number", "(I)I"⟩ ∈ TB := tb_t7 (List.mem_of_getElem? (i := 116) rfl) rfl
set_option maxRecDepth 100000 in
theorem w_1661 : Cond.selects "RingChamberModel" ⟨"RingChamberModel", "number", "(I)I"⟩ ⟨"RingChamberModel", "number", "(I)I"⟩ ∈ TB := tb_t7 (List.mem_of_getElem? (i := 117) rfl) rfl
set_option maxRecDepth 100000 in
theorem w_891 : Cond.methodLink "RingChamberLaw" 80 ⟨"RingChamber", "product", "(II)I"⟩ ∈ TB := tb_t4 (List.mem_of_getElem? (i := 67) rfl) rfl
set_option maxRecDepth 100000 in
theorem w_892 : Cond.instanceMethod ⟨"RingChamber", "product", "(II)I"⟩ ∈ TB := tb_t4 (List.mem_of_getElem? (i := 68) rfl) rfl
set_option maxRecDepth 100000 in
theorem w_893 : Cond.selects "RingChamber" ⟨"RingChamber", "product", "(II)I"⟩ ⟨"RingChamber", "product", "(II)I"⟩ ∈ TB := tb_t4 (List.mem_of_getElem? (i := 69) rfl) rfl
set_option maxRecDepth 100000 in
theorem w_1670 : Cond.methodLink "RingChamberLaw" 83 ⟨"RingChamberModel", "product", "(II)I"⟩ ∈ TB := tb_t7 (List.mem_of_getElem? (i := 126) rfl) rfl
set_option maxRecDepth 100000 in
theorem w_1671 : Cond.instanceMethod ⟨"RingChamberModel", "product", "(II)I"⟩ ∈ TB := tb_t7 (List.mem_of_getElem? (i := 127) rfl) rfl
set_option maxRecDepth 100000 in
theorem w_1672 : Cond.selects "RingChamberModel" ⟨"RingChamberModel", "product", "(II)I"⟩ ⟨"RingChamberModel", "product", "(II)I"⟩ ∈ TB := tb_t7 (List.mem_of_getElem? (i := 128) rfl) rfl
set_option maxRecDepth 100000 in
theorem w_898 : Cond.methodLink "RingChamberLaw" 84 ⟨"RingChamber", "inverse", "(I)I"⟩ ∈ TB := tb_t4 (List.mem_of_getElem? (i := 74) rfl) rfl
set_option maxRecDepth 100000 in
theorem w_899 : Cond.instanceMethod ⟨"RingChamber", "inverse", "(I)I"⟩ ∈ TB := tb_t4 (List.mem_of_getElem? (i := 75) rfl) rfl
set_option maxRecDepth 100000 in
theorem w_900 : Cond.selects "RingChamber" ⟨"RingChamber", "inverse", "(I)I"⟩ ⟨"RingChamber", "inverse", "(I)I"⟩ ∈ TB := tb_t4 (List.mem_of_getElem? (i := 76) rfl) rfl
set_option maxRecDepth 100000 in
theorem w_1678 : Cond.methodLink "RingChamberLaw" 87 ⟨"RingChamberModel", "inverse", "(I)I"⟩ ∈ TB := tb_t7 (List.mem_of_getElem? (i := 134) rfl) rfl
set_option maxRecDepth 100000 in
theorem w_1679 : Cond.instanceMethod ⟨"RingChamberModel", "inverse", "(I)I"⟩ ∈ TB := tb_t7 (List.mem_of_getElem? (i := 135) rfl) rfl
set_option maxRecDepth 100000 in
theorem w_1680 : Cond.selects "RingChamberModel" ⟨"RingChamberModel", "inverse", "(I)I"⟩ ⟨"RingChamberModel", "inverse", "(I)I"⟩ ∈ TB := tb_t7 (List.mem_of_getElem? (i := 136) rfl) rfl
set_option maxRecDepth 100000 in
theorem w_905 : Cond.methodLink "RingChamberLaw" 88 ⟨"RingChamber", "order", "(I)I"⟩ ∈ TB := tb_t4 (List.mem_of_getElem? (i := 81) rfl) rfl
set_option maxRecDepth 100000 in
theorem w_906 : Cond.instanceMethod ⟨"RingChamber", "order", "(I)I"⟩ ∈ TB := tb_t4 (List.mem_of_getElem? (i := 82) rfl) rfl
set_option maxRecDepth 100000 in
theorem w_907 : Cond.selects "RingChamber" ⟨"RingChamber", "order", "(I)I"⟩ ⟨"RingChamber", "order", "(I)I"⟩ ∈ TB := tb_t4 (List.mem_of_getElem? (i := 83) rfl) rfl
set_option maxRecDepth 100000 in
theorem w_1686 : Cond.methodLink "RingChamberLaw" 91 ⟨"RingChamberModel", "order", "(I)I"⟩ ∈ TB := tb_t7 (List.mem_of_getElem? (i := 142) rfl) rfl
set_option maxRecDepth 100000 in
theorem w_1687 : Cond.instanceMethod ⟨"RingChamberModel", "order", "(I)I"⟩ ∈ TB := tb_t7 (List.mem_of_getElem? (i := 143) rfl) rfl
set_option maxRecDepth 100000 in
theorem w_1688 : Cond.selects "RingChamberModel" ⟨"RingChamberModel", "order", "(I)I"⟩ ⟨"RingChamberModel", "order", "(I)I"⟩ ∈ TB := tb_t7 (List.mem_of_getElem? (i := 144) rfl) rfl
set_option maxRecDepth 100000 in
theorem w_916 : Cond.methodLink "RingChamberLaw" 92 ⟨"RingChamber", "even", "(I)I"⟩ ∈ TB := tb_t4 (List.mem_of_getElem? (i := 92) rfl) rfl
set_option maxRecDepth 100000 in
theorem w_917 : Cond.instanceMethod ⟨"RingChamber", "even", "(I)I"⟩ ∈ TB := tb_t4 (List.mem_of_getElem? (i := 93) rfl) rfl
set_option maxRecDepth 100000 in
theorem w_918 : Cond.selects "RingChamber" ⟨"RingChamber", "even", "(I)I"⟩ ⟨"RingChamber", "even", "(I)I"⟩ ∈ TB := tb_t4 (List.mem_of_getElem? (i := 94) rfl) rfl
set_option maxRecDepth 100000 in
theorem w_1694 : Cond.methodLink "RingChamberLaw" 95 ⟨"RingChamberModel", "even", "(I)I"⟩ ∈ TB := tb_t7 (List.mem_of_getElem? (i := 150) rfl) rfl
set_option maxRecDepth 100000 in
theorem w_1695 : Cond.instanceMethod ⟨"RingChamberModel", "even", "(I)I"⟩ ∈ TB := tb_t7 (List.mem_of_getElem? (i := 151) rfl) rfl
set_option maxRecDepth 100000 in
theorem w_1696 : Cond.selects "RingChamberModel" ⟨"RingChamberModel", "even", "(I)I"⟩ ⟨"RingChamberModel", "even", "(I)I"⟩ ∈ TB := tb_t7 (List.mem_of_getElem? (i := 152) rfl) rfl
set_option maxRecDepth 100000 in
theorem w_926 : Cond.methodLink "RingChamberLaw" 96 ⟨"RingChamber", "done", "(II)I"⟩ ∈ TB := tb_t4 (List.mem_of_getElem? (i := 102) rfl) rfl
set_option maxRecDepth 100000 in
theorem w_927 : Cond.instanceMethod ⟨"RingChamber", "done", "(II)I"⟩ ∈ TB := tb_t4 (List.mem_of_getElem? (i := 103) rfl) rfl
set_option maxRecDepth 100000 in
theorem w_928 : Cond.selects "RingChamber" ⟨"RingChamber", "done", "(II)I"⟩ ⟨"RingChamber", "done", "(II)I"⟩ ∈ TB := tb_t4 (List.mem_of_getElem? (i := 104) rfl) rfl
set_option maxRecDepth 100000 in
theorem w_1702 : Cond.methodLink "RingChamberLaw" 99 ⟨"RingChamberModel", "done", "(II)I"⟩ ∈ TB := tb_t7 (List.mem_of_getElem? (i := 158) rfl) rfl
set_option maxRecDepth 100000 in
theorem w_1703 : Cond.instanceMethod ⟨"RingChamberModel", "done", "(II)I"⟩ ∈ TB := tb_t7 (List.mem_of_getElem? (i := 159) rfl) rfl
set_option maxRecDepth 100000 in
theorem w_1704 : Cond.selects "RingChamberModel" ⟨"RingChamberModel", "done", "(II)I"⟩ ⟨"RingChamberModel", "done", "(II)I"⟩ ∈ TB := tb_t7 (List.mem_of_getElem? (i := 160) rfl) rfl
set_option maxRecDepth 100000 in
theorem w_932 : Cond.methodLink "RingChamberLaw" 100 ⟨"RingChamber", "power", "(II)I"⟩ ∈ TB := tb_t4 (List.mem_of_getElem? (i := 108) rfl) rfl
set_option maxRecDepth 100000 in
theorem w_933 : Cond.instanceMethod ⟨"RingChamber", "power", "(II)I"⟩ ∈ TB := tb_t4 (List.mem_of_getElem? (i := 109) rfl) rfl
set_option maxRecDepth 100000 in
theorem w_934 : Cond.selects "RingChamber" ⟨"RingChamber", "power", "(II)I"⟩ ⟨"RingChamber", "power", "(II)I"⟩ ∈ TB := tb_t4 (List.mem_of_getElem? (i := 110) rfl) rfl
set_option maxRecDepth 100000 in
theorem w_1714 : Cond.methodLink "RingChamberLaw" 103 ⟨"RingChamberModel", "power", "(II)I"⟩ ∈ TB := tb_t7 (List.mem_of_getElem? (i := 170) rfl) rfl
set_option maxRecDepth 100000 in
theorem w_1715 : Cond.instanceMethod ⟨"RingChamberModel", "power", "(II)I"⟩ ∈ TB := tb_t7 (List.mem_of_getElem? (i := 171) rfl) rfl
set_option maxRecDepth 100000 in
theorem w_1716 : Cond.selects "RingChamberModel" ⟨"RingChamberModel", "power", "(II)I"⟩ ⟨"RingChamberModel", "power", "(II)I"⟩ ∈ TB := tb_t7 (List.mem_of_getElem? (i := 172) rfl) rfl
set_option maxRecDepth 100000 in
theorem w_938 : Cond.methodLink "RingChamberLaw" 104 ⟨"RingChamber", "cycles", "(II)I"⟩ ∈ TB := tb_t4 (List.mem_of_getElem? (i := 114) rfl) rfl
set_option maxRecDepth 100000 in
theorem w_939 : Cond.instanceMethod ⟨"RingChamber", "cycles", "(II)I"⟩ ∈ TB := tb_t4 (List.mem_of_getElem? (i := 115) rfl) rfl
set_option maxRecDepth 100000 in
theorem w_940 : Cond.selects "RingChamber" ⟨"RingChamber", "cycles", "(II)I"⟩ ⟨"RingChamber", "cycles", "(II)I"⟩ ∈ TB := tb_t4 (List.mem_of_getElem? (i := 116) rfl) rfl
set_option maxRecDepth 100000 in
theorem w_1719 : Cond.methodLink "RingChamberLaw" 107 ⟨"RingChamberModel", "cycles", "(II)I"⟩ ∈ TB := tb_t7 (List.mem_of_getElem? (i := 175) rfl) rfl
set_option maxRecDepth 100000 in
theorem w_1720 : Cond.instanceMethod ⟨"RingChamberModel", "cycles", "(II)I"⟩ ∈ TB := tb_t7 (List.mem_of_getElem? (i := 176) rfl) rfl
set_option maxRecDepth 100000 in
theorem w_1721 : Cond.selects "RingChamberModel" ⟨"RingChamberModel", "cycles", "(II)I"⟩ ⟨"RingChamberModel", "cycles", "(II)I"⟩ ∈ TB := tb_t7 (List.mem_of_getElem? (i := 177) rfl) rfl
set_option maxRecDepth 100000 in
theorem w_946 : Cond.methodLink "RingChamberLaw" 108 ⟨"RingChamber", "distance", "(II)I"⟩ ∈ TB := tb_t4 (List.mem_of_getElem? (i := 122) rfl) rfl
set_option maxRecDepth 100000 in
theorem w_947 : Cond.instanceMethod ⟨"RingChamber", "distance", "(II)I"⟩ ∈ TB := tb_t4 (List.mem_of_getElem? (i := 123) rfl) rfl
set_option maxRecDepth 100000 in
theorem w_948 : Cond.selects "RingChamber" ⟨"RingChamber", "distance", "(II)I"⟩ ⟨"RingChamber", "distance", "(II)I"⟩ ∈ TB := tb_t4 (List.mem_of_getElem? (i := 124) rfl) rfl
set_option maxRecDepth 100000 in
theorem w_1723 : Cond.methodLink "RingChamberLaw" 111 ⟨"RingChamberModel", "distance", "(II)I"⟩ ∈ TB := tb_t7 (List.mem_of_getElem? (i := 179) rfl) rfl
set_option maxRecDepth 100000 in
theorem w_1724 : Cond.instanceMethod ⟨"RingChamberModel", "distance", "(II)I"⟩ ∈ TB := tb_t7 (List.mem_of_getElem? (i := 180) rfl) rfl
set_option maxRecDepth 100000 in
theorem w_1725 : Cond.selects "RingChamberModel" ⟨"RingChamberModel", "distance", "(II)I"⟩ ⟨"RingChamberModel", "distance", "(II)I"⟩ ∈ TB := tb_t7 (List.mem_of_getElem? (i := 181) rfl) rfl
set_option maxRecDepth 100000 in
theorem w_951 : Cond.methodLink "RingChamberLaw" 112 ⟨"RingChamber", "between", "(II)I"⟩ ∈ TB := tb_t4 (List.mem_of_getElem? (i := 127) rfl) rfl
set_option maxRecDepth 100000 in
theorem w_952 : Cond.instanceMethod ⟨"RingChamber", "between", "(II)I"⟩ ∈ TB := tb_t4 (List.mem_of_getElem? (i := 128) rfl) rfl
set_option maxRecDepth 100000 in
theorem w_953 : Cond.selects "RingChamber" ⟨"RingChamber", "between", "(II)I"⟩ ⟨"RingChamber", "between", "(II)I"⟩ ∈ TB := tb_t4 (List.mem_of_getElem? (i := 129) rfl) rfl
set_option maxRecDepth 100000 in
theorem w_1727 : Cond.methodLink "RingChamberLaw" 115 ⟨"RingChamberModel", "between", "(II)I"⟩ ∈ TB := tb_t7 (List.mem_of_getElem? (i := 183) rfl) rfl
set_option maxRecDepth 100000 in
theorem w_1728 : Cond.instanceMethod ⟨"RingChamberModel", "between", "(II)I"⟩ ∈ TB := tb_t7 (List.mem_of_getElem? (i := 184) rfl) rfl
set_option maxRecDepth 100000 in
theorem w_1729 : Cond.selects "RingChamberModel" ⟨"RingChamberModel", "between", "(II)I"⟩ ⟨"RingChamberModel", "between", "(II)I"⟩ ∈ TB := tb_t7 (List.mem_of_getElem? (i := 185) rfl) rfl
set_option maxRecDepth 100000 in
theorem w_962 : Cond.methodLink "RingChamberLaw" 116 ⟨"RingChamber", "changes", "(I)I"⟩ ∈ TB := tb_t4 (List.mem_of_getElem? (i := 138) rfl) rfl
set_option maxRecDepth 100000 in
theorem w_963 : Cond.instanceMethod ⟨"RingChamber", "changes", "(I)I"⟩ ∈ TB := tb_t4 (List.mem_of_getElem? (i := 139) rfl) rfl
set_option maxRecDepth 100000 in
theorem w_964 : Cond.selects "RingChamber" ⟨"RingChamber", "changes", "(I)I"⟩ ⟨"RingChamber", "changes", "(I)I"⟩ ∈ TB := tb_t4 (List.mem_of_getElem? (i := 140) rfl) rfl
set_option maxRecDepth 100000 in
theorem w_1739 : Cond.methodLink "RingChamberLaw" 119 ⟨"RingChamberModel", "changes", "(I)I"⟩ ∈ TB := tb_t7 (List.mem_of_getElem? (i := 195) rfl) rfl
set_option maxRecDepth 100000 in
theorem w_1740 : Cond.instanceMethod ⟨"RingChamberModel", "changes", "(I)I"⟩ ∈ TB := tb_t7 (List.mem_of_getElem? (i := 196) rfl) rfl
set_option maxRecDepth 100000 in
theorem w_1741 : Cond.selects "RingChamberModel" ⟨"RingChamberModel", "changes", "(I)I"⟩ ⟨"RingChamberModel", "changes", "(I)I"⟩ ∈ TB := tb_t7 (List.mem_of_getElem? (i := 197) rfl) rfl
set_option maxRecDepth 100000 in
theorem w_971 : Cond.methodLink "RingChamberLaw" 120 ⟨"RingChamber", "change", "(III)I"⟩ ∈ TB := tb_t4 (List.mem_of_getElem? (i := 147) rfl) rfl
set_option maxRecDepth 100000 in
theorem w_972 : Cond.instanceMethod ⟨"RingChamber", "change", "(III)I"⟩ ∈ TB := tb_t4 (List.mem_of_getElem? (i := 148) rfl) rfl
set_option maxRecDepth 100000 in
theorem w_973 : Cond.selects "RingChamber" ⟨"RingChamber", "change", "(III)I"⟩ ⟨"RingChamber", "change", "(III)I"⟩ ∈ TB := tb_t4 (List.mem_of_getElem? (i := 149) rfl) rfl
set_option maxRecDepth 100000 in
theorem w_1751 : Cond.methodLink "RingChamberLaw" 124 ⟨"RingChamberModel", "change", "(III)I"⟩ ∈ TB := tb_t7 (List.mem_of_getElem? (i := 207) rfl) rfl
set_option maxRecDepth 100000 in
theorem w_1752 : Cond.instanceMethod ⟨"RingChamberModel", "change", "(III)I"⟩ ∈ TB := tb_t7 (List.mem_of_getElem? (i := 208) rfl) rfl
set_option maxRecDepth 100000 in
theorem w_1753 : Cond.selects "RingChamberModel" ⟨"RingChamberModel", "change", "(III)I"⟩ ⟨"RingChamberModel", "change", "(III)I"⟩ ∈ TB := tb_t7 (List.mem_of_getElem? (i := 209) rfl) rfl
set_option maxRecDepth 100000 in
theorem w_979 : Cond.methodLink "RingChamberLaw" 125 ⟨"RingChamber", "head", "(II)I"⟩ ∈ TB := tb_t4 (List.mem_of_getElem? (i := 155) rfl) rfl
set_option maxRecDepth 100000 in
theorem w_980 : Cond.instanceMethod ⟨"RingChamber", "head", "(II)I"⟩ ∈ TB := tb_t4 (List.mem_of_getElem? (i := 156) rfl) rfl
set_option maxRecDepth 100000 in
theorem w_981 : Cond.selects "RingChamber" ⟨"RingChamber", "head", "(II)I"⟩ ⟨"RingChamber", "head", "(II)I"⟩ ∈ TB := tb_t4 (List.mem_of_getElem? (i := 157) rfl) rfl
set_option maxRecDepth 100000 in
theorem w_1762 : Cond.methodLink "RingChamberLaw" 128 ⟨"RingChamberModel", "head", "(II)I"⟩ ∈ TB := tb_t7 (List.mem_of_getElem? (i := 218) rfl) rfl
set_option maxRecDepth 100000 in
theorem w_1763 : Cond.instanceMethod ⟨"RingChamberModel", "head", "(II)I"⟩ ∈ TB := tb_t7 (List.mem_of_getElem? (i := 219) rfl) rfl
set_option maxRecDepth 100000 in
theorem w_1764 : Cond.selects "RingChamberModel" ⟨"RingChamberModel", "head", "(II)I"⟩ ⟨"RingChamberModel", "head", "(II)I"⟩ ∈ TB := tb_t7 (List.mem_of_getElem? (i := 220) rfl) rfl
set_option maxRecDepth 100000 in
theorem w_983 : Cond.methodLink "RingChamberLaw" 129 ⟨"RingChamber", "course", "(II)I"⟩ ∈ TB := tb_t4 (List.mem_of_getElem? (i := 159) rfl) rfl
set_option maxRecDepth 100000 in
theorem w_984 : Cond.instanceMethod ⟨"RingChamber", "course", "(II)I"⟩ ∈ TB := tb_t4 (List.mem_of_getElem? (i := 160) rfl) rfl
set_option maxRecDepth 100000 in
theorem w_985 : Cond.selects "RingChamber" ⟨"RingChamber", "course", "(II)I"⟩ ⟨"RingChamber", "course", "(II)I"⟩ ∈ TB := tb_t4 (List.mem_of_getElem? (i := 161) rfl) rfl
set_option maxRecDepth 100000 in
theorem w_1770 : Cond.methodLink "RingChamberLaw" 132 ⟨"RingChamberModel", "course", "(II)I"⟩ ∈ TB := tb_t7 (List.mem_of_getElem? (i := 226) rfl) rfl
set_option maxRecDepth 100000 in
theorem w_1771 : Cond.instanceMethod ⟨"RingChamberModel", "course", "(II)I"⟩ ∈ TB := tb_t7 (List.mem_of_getElem? (i := 227) rfl) rfl
set_option maxRecDepth 100000 in
theorem w_1772 : Cond.selects "RingChamberModel" ⟨"RingChamberModel", "course", "(II)I"⟩ ⟨"RingChamberModel", "course", "(II)I"⟩ ∈ TB := tb_t7 (List.mem_of_getElem? (i := 228) rfl) rfl
set_option maxRecDepth 100000 in
theorem w_987 : Cond.methodLink "RingChamberLaw" 133 ⟨"RingChamber", "fixed", "(II)I"⟩ ∈ TB := tb_t4 (List.mem_of_getElem? (i := 163) rfl) rfl
set_option maxRecDepth 100000 in
theorem w_988 : Cond.instanceMethod ⟨"RingChamber", "fixed", "(II)I"⟩ ∈ TB := tb_t4 (List.mem_of_getElem? (i := 164) rfl) rfl
set_option maxRecDepth 100000 in
theorem w_989 : Cond.selects "RingChamber" ⟨"RingChamber", "fixed", "(II)I"⟩ ⟨"RingChamber", "fixed", "(II)I"⟩ ∈ TB := tb_t4 (List.mem_of_getElem? (i := 165) rfl) rfl
set_option maxRecDepth 100000 in
theorem w_1774 : Cond.methodLink "RingChamberLaw" 136 ⟨"RingChamberModel", "fixed", "(II)I"⟩ ∈ TB := tb_t7 (List.mem_of_getElem? (i := 230) rfl) rfl
set_option maxRecDepth 100000 in
theorem w_1775 : Cond.instanceMethod ⟨"RingChamberModel", "fixed", "(II)I"⟩ ∈ TB := tb_t7 (List.mem_of_getElem? (i := 231) rfl) rfl
set_option maxRecDepth 100000 in
theorem w_1776 : Cond.selects "RingChamberModel" ⟨"RingChamberModel", "fixed", "(II)I"⟩ ⟨"RingChamberModel", "fixed", "(II)I"⟩ ∈ TB := tb_t7 (List.mem_of_getElem? (i := 232) rfl) rfl
set_option maxRecDepth 100000 in
theorem w_994 : Cond.methodLink "RingChamberLaw" 137 ⟨"RingChamber", "symmetric", "(I)I"⟩ ∈ TB := tb_t4 (List.mem_of_getElem? (i := 170) rfl) rfl
set_option maxRecDepth 100000 in
theorem w_995 : Cond.instanceMethod ⟨"RingChamber", "symmetric", "(I)I"⟩ ∈ TB := tb_t4 (List.mem_of_getElem? (i := 171) rfl) rfl
set_option maxRecDepth 100000 in
theorem w_996 : Cond.selects "RingChamber" ⟨"RingChamber", "symmetric", "(I)I"⟩ ⟨"RingChamber", "symmetric", "(I)I"⟩ ∈ TB := tb_t4 (List.mem_of_getElem? (i := 172) rfl) rfl
set_option maxRecDepth 100000 in
theorem w_1778 : Cond.methodLink "RingChamberLaw" 140 ⟨"RingChamberModel", "symmetric", "(I)I"⟩ ∈ TB := tb_t7 (List.mem_of_getElem? (i := 234) rfl) rfl
set_option maxRecDepth 100000 in
theorem w_1779 : Cond.instanceMethod ⟨"RingChamberModel", "symmetric", "(I)I"⟩ ∈ TB := tb_t7 (List.mem_of_getElem? (i := 235) rfl) rfl
set_option maxRecDepth 100000 in
theorem w_1780 : Cond.selects "RingChamberModel" ⟨"RingChamberModel", "symmetric", "(I)I"⟩ ⟨"RingChamberModel", "symmetric", "(I)I"⟩ ∈ TB := tb_t7 (List.mem_of_getElem? (i := 236) rfl) rfl
set_option maxRecDepth 100000 in
theorem w_1001 : Cond.methodLink "RingChamberLaw" 141 ⟨"RingChamber", "leadTrue", "(I)I"⟩ ∈ TB := tb_t4 (List.mem_of_getElem? (i := 177) rfl) rfl
set_option maxRecDepth 100000 in
theorem w_1002 : Cond.instanceMethod ⟨"RingChamber", "leadTrue", "(I)I"⟩ ∈ TB := tb_t4 (List.mem_of_getElem? (i := 178) rfl) rfl
set_option maxRecDepth 100000 in
theorem w_1003 : Cond.selects "RingChamber" ⟨"RingChamber", "leadTrue", "(I)I"⟩ ⟨"RingChamber", "leadTrue", "(I)I"⟩ ∈ TB := tb_t4 (List.mem_of_getElem? (i := 179) rfl) rfl
set_option maxRecDepth 100000 in
theorem w_1794 : Cond.methodLink "RingChamberLaw" 144 ⟨"RingChamberModel", "leadTrue", "(I)I"⟩ ∈ TB := tb_t8 (List.mem_of_getElem? (i := 10) rfl) rfl
set_option maxRecDepth 100000 in
theorem w_1795 : Cond.instanceMethod ⟨"RingChamberModel", "leadTrue", "(I)I"⟩ ∈ TB := tb_t8 (List.mem_of_getElem? (i := 11) rfl) rfl
set_option maxRecDepth 100000 in
theorem w_1796 : Cond.selects "RingChamberModel" ⟨"RingChamberModel", "leadTrue", "(I)I"⟩ ⟨"RingChamberModel", "leadTrue", "(I)I"⟩ ∈ TB := tb_t8 (List.mem_of_getElem? (i := 12) rfl) rfl
set_option maxRecDepth 100000 in
theorem w_1010 : Cond.methodLink "RingChamberLaw" 145 ⟨"RingChamber", "falseAgainst", "(II)I"⟩ ∈ TB := tb_t4 (List.mem_of_getElem? (i := 186) rfl) rfl
set_option maxRecDepth 100000 in
theorem w_1011 : Cond.instanceMethod ⟨"RingChamber", "falseAgainst", "(II)I"⟩ ∈ TB := tb_t4 (List.mem_of_getElem? (i := 187) rfl) rfl
set_option maxRecDepth 100000 in
theorem w_1012 : Cond.selects "RingChamber" ⟨"RingChamber", "falseAgainst", "(II)I"⟩ ⟨"RingChamber", "falseAgainst", "(II)I"⟩ ∈ TB := tb_t4 (List.mem_of_getElem? (i := 188) rfl) rfl
set_option maxRecDepth 100000 in
theorem w_1798 : Cond.methodLink "RingChamberLaw" 148 ⟨"RingChamberModel", "falseAgainst", "(II)I"⟩ ∈ TB := tb_t8 (List.mem_of_getElem? (i := 14) rfl) rfl
set_option maxRecDepth 100000 in
theorem w_1799 : Cond.instanceMethod ⟨"RingChamberModel", "falseAgainst", "(II)I"⟩ ∈ TB := tb_t8 (List.mem_of_getElem? (i := 15) rfl) rfl
set_option maxRecDepth 100000 in
theorem w_1800 : Cond.selects "RingChamberModel" ⟨"RingChamberModel", "falseAgainst", "(II)I"⟩ ⟨"RingChamberModel", "falseAgainst", "(II)I"⟩ ∈ TB := tb_t8 (List.mem_of_getElem? (i := 16) rfl) rfl
set_option maxRecDepth 100000 in
theorem w_1018 : Cond.methodLink "RingChamberLaw" 149 ⟨"RingChamber", "falses", "(I)I"⟩ ∈ TB := tb_t4 (List.mem_of_getElem? (i := 194) rfl) rfl
set_option maxRecDepth 100000 in
theorem w_1019 : Cond.instanceMethod ⟨"RingChamber", "falses", "(I)I"⟩ ∈ TB := tb_t4 (List.mem_of_getElem? (i := 195) rfl) rfl
set_option maxRecDepth 100000 in
theorem w_1020 : Cond.selects "RingChamber" ⟨"RingChamber", "falses", "(I)I"⟩ ⟨"RingChamber", "falses", "(I)I"⟩ ∈ TB := tb_t4 (List.mem_of_getElem? (i := 196) rfl) rfl
set_option maxRecDepth 100000 in
theorem w_1806 : Cond.methodLink "RingChamberLaw" 152 ⟨"RingChamberModel", "falses", "(I)I"⟩ ∈ TB := tb_t8 (List.mem_of_getElem? (i := 22) rfl) rfl
set_option maxRecDepth 100000 in
theorem w_1807 : Cond.instanceMethod ⟨"RingChamberModel", "falses", "(I)I"⟩ ∈ TB := tb_t8 (List.mem_of_getElem? (i := 23) rfl) rfl
set_option maxRecDepth 100000 in
theorem w_1808 : Cond.selects "RingChamberModel" ⟨"RingChamberModel", "falses", "(I)I"⟩ ⟨"RingChamberModel", "falses", "(I)I"⟩ ∈ TB := tb_t8 (List.mem_of_getElem? (i := 24) rfl) rfl
set_option maxRecDepth 100000 in
theorem w_1038 : Cond.methodLink "RingChamberLaw" 153 ⟨"RingChamber", "leadsTo", "(II)I"⟩ ∈ TB := tb_t4 (List.mem_of_getElem? (i := 214) rfl) rfl
set_option maxRecDepth 100000 in
theorem w_1039 : Cond.instanceMethod ⟨"RingChamber", "leadsTo", "(II)I"⟩ ∈ TB := tb_t4 (List.mem_of_getElem? (i := 215) rfl) rfl
set_option maxRecDepth 100000 in
theorem w_1040 : Cond.selects "RingChamber" ⟨"RingChamber", "leadsTo", "(II)I"⟩ ⟨"RingChamber", "leadsTo", "(II)I"⟩ ∈ TB := tb_t4 (List.mem_of_getElem? (i := 216) rfl) rfl
set_option maxRecDepth 100000 in
theorem w_1782 : Cond.methodLink "RingChamberLaw" 156 ⟨"RingChamberModel", "leadsTo", "(II)I"⟩ ∈ TB := tb_t7 (List.mem_of_getElem? (i := 238) rfl) rfl
set_option maxRecDepth 100000 in
theorem w_1783 : Cond.instanceMethod ⟨"RingChamberModel", "leadsTo", "(II)I"⟩ ∈ TB := tb_t7 (List.mem_of_getElem? (i := 239) rfl) rfl
set_option maxRecDepth 100000 in
theorem w_1784 : Cond.selects "RingChamberModel" ⟨"RingChamberModel", "leadsTo", "(II)I"⟩ ⟨"RingChamberModel", "leadsTo", "(II)I"⟩ ∈ TB := tb_t8 (List.mem_of_getElem? (i := 0) rfl) rfl
set_option maxRecDepth 100000 in
theorem w_1042 : Cond.methodLink "RingChamberLaw" 157 ⟨"RingChamber", "inLead", "(II)I"⟩ ∈ TB := tb_t4 (List.mem_of_getElem? (i := 218) rfl) rfl
set_option maxRecDepth 100000 in
theorem w_1043 : Cond.instanceMethod ⟨"RingChamber", "inLead", "(II)I"⟩ ∈ TB := tb_t4 (List.mem_of_getElem? (i := 219) rfl) rfl
set_option maxRecDepth 100000 in
theorem w_1044 : Cond.selects "RingChamber" ⟨"RingChamber", "inLead", "(II)I"⟩ ⟨"RingChamber", "inLead", "(II)I"⟩ ∈ TB := tb_t4 (List.mem_of_getElem? (i := 220) rfl) rfl
set_option maxRecDepth 100000 in
theorem w_1786 : Cond.methodLink "RingChamberLaw" 160 ⟨"RingChamberModel", "inLead", "(II)I"⟩ ∈ TB := tb_t8 (List.mem_of_getElem? (i := 2) rfl) rfl
set_option maxRecDepth 100000 in
theorem w_1787 : Cond.instanceMethod ⟨"RingChamberModel", "inLead", "(II)I"⟩ ∈ TB := tb_t8 (List.mem_of_getElem? (i := 3) rfl) rfl
set_option maxRecDepth 100000 in
theorem w_1788 : Cond.selects "RingChamberModel" ⟨"RingChamberModel", "inLead", "(II)I"⟩ ⟨"RingChamberModel", "inLead", "(II)I"⟩ ∈ TB := tb_t8 (List.mem_of_getElem? (i := 4) rfl) rfl
set_option maxRecDepth 100000 in
theorem w_1046 : Cond.methodLink "RingChamberLaw" 161 ⟨"RingChamber", "ring", "()I"⟩ ∈ TB := tb_t4 (List.mem_of_getElem? (i := 222) rfl) rfl
set_option maxRecDepth 100000 in
theorem w_1047 : Cond.instanceMethod ⟨"RingChamber", "ring", "()I"⟩ ∈ TB := tb_t4 (List.mem_of_getElem? (i := 223) rfl) rfl
set_option maxRecDepth 100000 in
theorem w_1048 : Cond.selects "RingChamber" ⟨"RingChamber", "ring", "()I"⟩ ⟨"RingChamber", "ring", "()I"⟩ ∈ TB := tb_t4 (List.mem_of_getElem? (i := 224) rfl) rfl
set_option maxRecDepth 100000 in
theorem w_1810 : Cond.methodLink "RingChamberLaw" 164 ⟨"RingChamberModel", "ring", "()I"⟩ ∈ TB := tb_t8 (List.mem_of_getElem? (i := 26) rfl) rfl
set_option maxRecDepth 100000 in
theorem w_1811 : Cond.instanceMethod ⟨"RingChamberModel", "ring", "()I"⟩ ∈ TB := tb_t8 (List.mem_of_getElem? (i := 27) rfl) rfl
set_option maxRecDepth 100000 in
theorem w_1812 : Cond.selects "RingChamberModel" ⟨"RingChamberModel", "ring", "()I"⟩ ⟨"RingChamberModel", "ring", "()I"⟩ ∈ TB := tb_t8 (List.mem_of_getElem? (i := 28) rfl) rfl
set_option maxRecDepth 100000 in
theorem w_1050 : Cond.methodLink "RingChamberLaw" 165 ⟨"RingChamber", "rowAt", "(I)I"⟩ ∈ TB := tb_t4 (List.mem_of_getElem? (i := 226) rfl) rfl
set_option maxRecDepth 100000 in
theorem w_1051 : Cond.instanceMethod ⟨"RingChamber", "rowAt", "(I)I"⟩ ∈ TB := tb_t4 (List.mem_of_getElem? (i := 227) rfl) rfl
set_option maxRecDepth 100000 in
theorem w_1052 : Cond.selects "RingChamber" ⟨"RingChamber", "rowAt", "(I)I"⟩ ⟨"RingChamber", "rowAt", "(I)I"⟩ ∈ TB := tb_t4 (List.mem_of_getElem? (i := 228) rfl) rfl
set_option maxRecDepth 100000 in
theorem w_1831 : Cond.methodLink "RingChamberLaw" 168 ⟨"RingChamberModel", "rowAt", "(I)I"⟩ ∈ TB := tb_t8 (List.mem_of_getElem? (i := 47) rfl) rfl
set_option maxRecDepth 100000 in
theorem w_1832 : Cond.instanceMethod ⟨"RingChamberModel", "rowAt", "(I)I"⟩ ∈ TB := tb_t8 (List.mem_of_getElem? (i := 48) rfl) rfl
set_option maxRecDepth 100000 in
theorem w_1833 : Cond.selects "RingChamberModel" ⟨"RingChamberModel", "rowAt", "(I)I"⟩ ⟨"RingChamberModel", "rowAt", "(I)I"⟩ ∈ TB := tb_t8 (List.mem_of_getElem? (i := 49) rfl) rfl
set_option maxRecDepth 100000 in
theorem w_1058 : Cond.methodLink "RingChamberLaw" 169 ⟨"RingChamber", "round", "()I"⟩ ∈ TB := tb_t4 (List.mem_of_getElem? (i := 234) rfl) rfl
set_option maxRecDepth 100000 in
theorem w_1059 : Cond.instanceMethod ⟨"RingChamber", "round", "()I"⟩ ∈ TB := tb_t4 (List.mem_of_getElem? (i := 235) rfl) rfl
set_option maxRecDepth 100000 in
theorem w_1060 : Cond.selects "RingChamber" ⟨"RingChamber", "round", "()I"⟩ ⟨"RingChamber", "round", "()I"⟩ ∈ TB := tb_t4 (List.mem_of_getElem? (i := 236) rfl) rfl
set_option maxRecDepth 100000 in
theorem w_1835 : Cond.methodLink "RingChamberLaw" 172 ⟨"RingChamberModel", "round", "()I"⟩ ∈ TB := tb_t8 (List.mem_of_getElem? (i := 51) rfl) rfl
set_option maxRecDepth 100000 in
theorem w_1836 : Cond.instanceMethod ⟨"RingChamberModel", "round", "()I"⟩ ∈ TB := tb_t8 (List.mem_of_getElem? (i := 52) rfl) rfl
set_option maxRecDepth 100000 in
theorem w_1837 : Cond.selects "RingChamberModel" ⟨"RingChamberModel", "round", "()I"⟩ ⟨"RingChamberModel", "round", "()I"⟩ ∈ TB := tb_t8 (List.mem_of_getElem? (i := 53) rfl) rfl
set_option maxRecDepth 100000 in
theorem w_1070 : Cond.methodLink "RingChamberLaw" 173 ⟨"RingChamber", "isTrue", "()I"⟩ ∈ TB := tb_t5 (List.mem_of_getElem? (i := 6) rfl) rfl
set_option maxRecDepth 100000 in
theorem w_1071 : Cond.instanceMethod ⟨"RingChamber", "isTrue", "()I"⟩ ∈ TB := tb_t5 (List.mem_of_getElem? (i := 7) rfl) rfl
set_option maxRecDepth 100000 in
theorem w_1072 : Cond.selects "RingChamber" ⟨"RingChamber", "isTrue", "()I"⟩ ⟨"RingChamber", "isTrue", "()I"⟩ ∈ TB := tb_t5 (List.mem_of_getElem? (i := 8) rfl) rfl
set_option maxRecDepth 100000 in
theorem w_1839 : Cond.methodLink "RingChamberLaw" 176 ⟨"RingChamberModel", "isTrue", "()I"⟩ ∈ TB := tb_t8 (List.mem_of_getElem? (i := 55) rfl) rfl
set_option maxRecDepth 100000 in
theorem w_1840 : Cond.instanceMethod ⟨"RingChamberModel", "isTrue", "()I"⟩ ∈ TB := tb_t8 (List.mem_of_getElem? (i := 56) rfl) rfl
set_option maxRecDepth 100000 in
theorem w_1841 : Cond.selects "RingChamberModel" ⟨"RingChamberModel", "isTrue", "()I"⟩ ⟨"RingChamberModel", "isTrue", "()I"⟩ ∈ TB := tb_t8 (List.mem_of_getElem? (i := 57) rfl) rfl
set_option maxRecDepth 100000 in
theorem w_1082 : Cond.methodLink "RingChamberLaw" 177 ⟨"RingChamber", "falseAt", "(I)I"⟩ ∈ TB := tb_t5 (List.mem_of_getElem? (i := 18) rfl) rfl
set_option maxRecDepth 100000 in
theorem w_1083 : Cond.instanceMethod ⟨"RingChamber", "falseAt", "(I)I"⟩ ∈ TB := tb_t5 (List.mem_of_getElem? (i := 19) rfl) rfl
set_option maxRecDepth 100000 in
theorem w_1084 : Cond.selects "RingChamber" ⟨"RingChamber", "falseAt", "(I)I"⟩ ⟨"RingChamber", "falseAt", "(I)I"⟩ ∈ TB := tb_t5 (List.mem_of_getElem? (i := 20) rfl) rfl
set_option maxRecDepth 100000 in
theorem w_1847 : Cond.methodLink "RingChamberLaw" 180 ⟨"RingChamberModel", "falseAt", "(I)I"⟩ ∈ TB := tb_t8 (List.mem_of_getElem? (i := 63) rfl) rfl
set_option maxRecDepth 100000 in
theorem w_1848 : Cond.instanceMethod ⟨"RingChamberModel", "falseAt", "(I)I"⟩ ∈ TB := tb_t8 (List.mem_of_getElem? (i := 64) rfl) rfl
set_option maxRecDepth 100000 in
theorem w_1849 : Cond.selects "RingChamberModel" ⟨"RingChamberModel", "falseAt", "(I)I"⟩ ⟨"RingChamberModel", "falseAt", "(I)I"⟩ ∈ TB := tb_t8 (List.mem_of_getElem? (i := 65) rfl) rfl
set_option maxRecDepth 100000 in
theorem w_1090 : Cond.methodLink "RingChamberLaw" 181 ⟨"RingChamber", "repeats", "()I"⟩ ∈ TB := tb_t5 (List.mem_of_getElem? (i := 26) rfl) rfl
set_option maxRecDepth 100000 in
theorem w_1091 : Cond.instanceMethod ⟨"RingChamber", "repeats", "()I"⟩ ∈ TB := tb_t5 (List.mem_of_getElem? (i := 27) rfl) rfl
set_option maxRecDepth 100000 in
theorem w_1092 : Cond.selects "RingChamber" ⟨"RingChamber", "repeats", "()I"⟩ ⟨"RingChamber", "repeats", "()I"⟩ ∈ TB := tb_t5 (List.mem_of_getElem? (i := 28) rfl) rfl
set_option maxRecDepth 100000 in
theorem w_1851 : Cond.methodLink "RingChamberLaw" 184 ⟨"RingChamberModel", "repeats", "()I"⟩ ∈ TB := tb_t8 (List.mem_of_getElem? (i := 67) rfl) rfl
set_option maxRecDepth 100000 in
theorem w_1852 : Cond.instanceMethod ⟨"RingChamberModel", "repeats", "()I"⟩ ∈ TB := tb_t8 (List.mem_of_getElem? (i := 68) rfl) rfl
set_option maxRecDepth 100000 in
theorem w_1853 : Cond.selects "RingChamberModel" ⟨"RingChamberModel", "repeats", "()I"⟩ ⟨"RingChamberModel", "repeats", "()I"⟩ ∈ TB := tb_t8 (List.mem_of_getElem? (i := 69) rfl) rfl
set_option maxRecDepth 100000 in
theorem w_1103 : Cond.methodLink "RingChamberLaw" 185 ⟨"RingChamber", "place", "(II)I"⟩ ∈ TB := tb_t5 (List.mem_of_getElem? (i := 39) rfl) rfl
set_option maxRecDepth 100000 in
theorem w_1104 : Cond.instanceMethod ⟨"RingChamber", "place", "(II)I"⟩ ∈ TB := tb_t5 (List.mem_of_getElem? (i := 40) rfl) rfl
set_option maxRecDepth 100000 in
theorem w_1105 : Cond.selects "RingChamber" ⟨"RingChamber", "place", "(II)I"⟩ ⟨"RingChamber", "place", "(II)I"⟩ ∈ TB := tb_t5 (List.mem_of_getElem? (i := 41) rfl) rfl
set_option maxRecDepth 100000 in
theorem w_1855 : Cond.methodLink "RingChamberLaw" 188 ⟨"RingChamberModel", "place", "(II)I"⟩ ∈ TB := tb_t8 (List.mem_of_getElem? (i := 71) rfl) rfl
set_option maxRecDepth 100000 in
theorem w_1856 : Cond.instanceMethod ⟨"RingChamberModel", "place", "(II)I"⟩ ∈ TB := tb_t8 (List.mem_of_getElem? (i := 72) rfl) rfl
set_option maxRecDepth 100000 in
theorem w_1857 : Cond.selects "RingChamberModel" ⟨"RingChamberModel", "place", "(II)I"⟩ ⟨"RingChamberModel", "place", "(II)I"⟩ ∈ TB := tb_t8 (List.mem_of_getElem? (i := 73) rfl) rfl
set_option maxRecDepth 100000 in
theorem w_1111 : Cond.methodLink "RingChamberLaw" 189 ⟨"RingChamber", "blows", "(II)I"⟩ ∈ TB := tb_t5 (List.mem_of_getElem? (i := 47) rfl) rfl
set_option maxRecDepth 100000 in
theorem w_1112 : Cond.instanceMethod ⟨"RingChamber", "blows", "(II)I"⟩ ∈ TB := tb_t5 (List.mem_of_getElem? (i := 48) rfl) rfl
set_option maxRecDepth 100000 in
theorem w_1113 : Cond.selects "RingChamber" ⟨"RingChamber", "blows", "(II)I"⟩ ⟨"RingChamber", "blows", "(II)I"⟩ ∈ TB := tb_t5 (List.mem_of_getElem? (i := 49) rfl) rfl
set_option maxRecDepth 100000 in
theorem w_1863 : Cond.methodLink "RingChamberLaw" 192 ⟨"RingChamberModel", "blows", "(II)I"⟩ ∈ TB := tb_t8 (List.mem_of_getElem? (i := 79) rfl) rfl
set_option maxRecDepth 100000 in
theorem w_1864 : Cond.instanceMethod ⟨"RingChamberModel", "blows", "(II)I"⟩ ∈ TB := tb_t8 (List.mem_of_getElem? (i := 80) rfl) rfl
set_option maxRecDepth 100000 in
theorem w_1865 : Cond.selects "RingChamberModel" ⟨"RingChamberModel", "blows", "(II)I"⟩ ⟨"RingChamberModel", "blows", "(II)I"⟩ ∈ TB := tb_t8 (List.mem_of_getElem? (i := 81) rfl) rfl
set_option maxRecDepth 100000 in
theorem w_1119 : Cond.methodLink "RingChamberLaw" 193 ⟨"RingChamber", "music", "(I)I"⟩ ∈ TB := tb_t5 (List.mem_of_getElem? (i := 55) rfl) rfl
set_option maxRecDepth 100000 in
theorem w_1120 : Cond.instanceMethod ⟨"RingChamber", "music", "(I)I"⟩ ∈ TB := tb_t5 (List.mem_of_getElem? (i := 56) rfl) rfl
set_option maxRecDepth 100000 in
theorem w_1121 : Cond.selects "RingChamber" ⟨"RingChamber", "music", "(I)I"⟩ ⟨"RingChamber", "music", "(I)I"⟩ ∈ TB := tb_t5 (List.mem_of_getElem? (i := 57) rfl) rfl
set_option maxRecDepth 100000 in
theorem w_1879 : Cond.methodLink "RingChamberLaw" 196 ⟨"RingChamberModel", "music", "(I)I"⟩ ∈ TB := tb_t8 (List.mem_of_getElem? (i := 95) rfl) rfl
set_option maxRecDepth 100000 in
theorem w_1880 : Cond.instanceMethod ⟨"RingChamberModel", "music", "(I)I"⟩ ∈ TB := tb_t8 (List.mem_of_getElem? (i := 96) rfl) rfl
set_option maxRecDepth 100000 in
theorem w_1881 : Cond.selects "RingChamberModel" ⟨"RingChamberModel", "music", "(I)I"⟩ ⟨"RingChamberModel", "music", "(I)I"⟩ ∈ TB := tb_t8 (List.mem_of_getElem? (i := 97) rfl) rfl
set_option maxRecDepth 100000 in
theorem w_1123 : Cond.methodLink "RingChamberLaw" 197 ⟨"RingChamber", "runs", "(I)I"⟩ ∈ TB := tb_t5 (List.mem_of_getElem? (i := 59) rfl) rfl
set_option maxRecDepth 100000 in
theorem w_1124 : Cond.instanceMethod ⟨"RingChamber", "runs", "(I)I"⟩ ∈ TB := tb_t5 (List.mem_of_getElem? (i := 60) rfl) rfl
set_option maxRecDepth 100000 in
theorem w_1125 : Cond.selects "RingChamber" ⟨"RingChamber", "runs", "(I)I"⟩ ⟨"RingChamber", "runs", "(I)I"⟩ ∈ TB := tb_t5 (List.mem_of_getElem? (i := 61) rfl) rfl
set_option maxRecDepth 100000 in
theorem w_1883 : Cond.methodLink "RingChamberLaw" 200 ⟨"RingChamberModel", "runs", "(I)I"⟩ ∈ TB := tb_t8 (List.mem_of_getElem? (i := 99) rfl) rfl
set_option maxRecDepth 100000 in
theorem w_1884 : Cond.instanceMethod ⟨"RingChamberModel", "runs", "(I)I"⟩ ∈ TB := tb_t8 (List.mem_of_getElem? (i := 100) rfl) rfl
set_option maxRecDepth 100000 in
theorem w_1885 : Cond.selects "RingChamberModel" ⟨"RingChamberModel", "runs", "(I)I"⟩ ⟨"RingChamberModel", "runs", "(I)I"⟩ ∈ TB := tb_t8 (List.mem_of_getElem? (i := 101) rfl) rfl
set_option maxRecDepth 100000 in
theorem w_1131 : Cond.methodLink "RingChamberLaw" 201 ⟨"RingChamber", "dodges", "(I)I"⟩ ∈ TB := tb_t5 (List.mem_of_getElem? (i := 67) rfl) rfl
set_option maxRecDepth 100000 in
theorem w_1132 : Cond.instanceMethod ⟨"RingChamber", "dodges", "(I)I"⟩ ∈ TB := tb_t5 (List.mem_of_getElem? (i := 68) rfl) rfl
set_option maxRecDepth 100000 in
theorem w_1133 : Cond.selects "RingChamber" ⟨"RingChamber", "dodges", "(I)I"⟩ ⟨"RingChamber", "dodges", "(I)I"⟩ ∈ TB := tb_t5 (List.mem_of_getElem? (i := 69) rfl) rfl
set_option maxRecDepth 100000 in
theorem w_1867 : Cond.methodLink "RingChamberLaw" 204 ⟨"RingChamberModel", "dodges", "(I)I"⟩ ∈ TB := tb_t8 (List.mem_of_getElem? (i := 83) rfl) rfl
set_option maxRecDepth 100000 in
theorem w_1868 : Cond.instanceMethod ⟨"RingChamberModel", "dodges", "(I)I"⟩ ∈ TB := tb_t8 (List.mem_of_getElem? (i := 84) rfl) rfl
set_option maxRecDepth 100000 in
theorem w_1869 : Cond.selects "RingChamberModel" ⟨"RingChamberModel", "dodges", "(I)I"⟩ ⟨"RingChamberModel", "dodges", "(I)I"⟩ ∈ TB := tb_t8 (List.mem_of_getElem? (i := 85) rfl) rfl
set_option maxRecDepth 100000 in
theorem w_1140 : Cond.methodLink "RingChamberLaw" 205 ⟨"RingChamber", "lies", "(I)I"⟩ ∈ TB := tb_t5 (List.mem_of_getElem? (i := 76) rfl) rfl
set_option maxRecDepth 100000 in
theorem w_1141 : Cond.instanceMethod ⟨"RingChamber", "lies", "(I)I"⟩ ∈ TB := tb_t5 (List.mem_of_getElem? (i := 77) rfl) rfl
set_option maxRecDepth 100000 in
theorem w_1142 : Cond.selects "RingChamber" ⟨"RingChamber", "lies", "(I)I"⟩ ⟨"RingChamber", "lies", "(I)I"⟩ ∈ TB := tb_t5 (List.mem_of_getElem? (i := 78) rfl) rfl
set_option maxRecDepth 100000 in
theorem w_1871 : Cond.methodLink "RingChamberLaw" 208 ⟨"RingChamberModel", "lies", "(I)I"⟩ ∈ TB := tb_t8 (List.mem_of_getElem? (i := 87) rfl) rfl
set_option maxRecDepth 100000 in
theorem w_1872 : Cond.instanceMethod ⟨"RingChamberModel", "lies", "(I)I"⟩ ∈ TB := tb_t8 (List.mem_of_getElem? (i := 88) rfl) rfl
set_option maxRecDepth 100000 in
theorem w_1873 : Cond.selects "RingChamberModel" ⟨"RingChamberModel", "lies", "(I)I"⟩ ⟨"RingChamberModel", "lies", "(I)I"⟩ ∈ TB := tb_t8 (List.mem_of_getElem? (i := 89) rfl) rfl
set_option maxRecDepth 100000 in
theorem w_1148 : Cond.methodLink "RingChamberLaw" 209 ⟨"RingChamber", "backward", "()I"⟩ ∈ TB := tb_t5 (List.mem_of_getElem? (i := 84) rfl) rfl
set_option maxRecDepth 100000 in
theorem w_1149 : Cond.instanceMethod ⟨"RingChamber", "backward", "()I"⟩ ∈ TB := tb_t5 (List.mem_of_getElem? (i := 85) rfl) rfl
set_option maxRecDepth 100000 in
theorem w_1150 : Cond.selects "RingChamber" ⟨"RingChamber", "backward", "()I"⟩ ⟨"RingChamber", "backward", "()I"⟩ ∈ TB := tb_t5 (List.mem_of_getElem? (i := 86) rfl) rfl
set_option maxRecDepth 100000 in
theorem w_1875 : Cond.methodLink "RingChamberLaw" 212 ⟨"RingChamberModel", "backward", "()I"⟩ ∈ TB := tb_t8 (List.mem_of_getElem? (i := 91) rfl) rfl
set_option maxRecDepth 100000 in
theorem w_1876 : Cond.instanceMethod ⟨"RingChamberModel", "backward", "()I"⟩ ∈ TB := tb_t8 (List.mem_of_getElem? (i := 92) rfl) rfl
set_option maxRecDepth 100000 in
theorem w_1877 : Cond.selects "RingChamberModel" ⟨"RingChamberModel", "backward", "()I"⟩ ⟨"RingChamberModel", "backward", "()I"⟩ ∈ TB := tb_t8 (List.mem_of_getElem? (i := 93) rfl) rfl
set_option maxRecDepth 100000 in
theorem w_1152 : Cond.methodLink "RingChamberLaw" 213 ⟨"RingChamber", "heard", "(II)I"⟩ ∈ TB := tb_t5 (List.mem_of_getElem? (i := 88) rfl) rfl
set_option maxRecDepth 100000 in
theorem w_1153 : Cond.instanceMethod ⟨"RingChamber", "heard", "(II)I"⟩ ∈ TB := tb_t5 (List.mem_of_getElem? (i := 89) rfl) rfl
set_option maxRecDepth 100000 in
theorem w_1154 : Cond.selects "RingChamber" ⟨"RingChamber", "heard", "(II)I"⟩ ⟨"RingChamber", "heard", "(II)I"⟩ ∈ TB := tb_t5 (List.mem_of_getElem? (i := 90) rfl) rfl
set_option maxRecDepth 100000 in
theorem w_1891 : Cond.methodLink "RingChamberLaw" 216 ⟨"RingChamberModel", "heard", "(II)I"⟩ ∈ TB := tb_t8 (List.mem_of_getElem? (i := 107) rfl) rfl
set_option maxRecDepth 100000 in
theorem w_1892 : Cond.instanceMethod ⟨"RingChamberModel", "heard", "(II)I"⟩ ∈ TB := tb_t8 (List.mem_of_getElem? (i := 108) rfl) rfl
set_option maxRecDepth 100000 in
theorem w_1893 : Cond.selects "RingChamberModel" ⟨"RingChamberModel", "heard", "(II)I"⟩ ⟨"RingChamberModel", "heard", "(II)I"⟩ ∈ TB := tb_t8 (List.mem_of_getElem? (i := 109) rfl) rfl
set_option maxRecDepth 100000 in
theorem w_1160 : Cond.methodLink "RingChamberLaw" 217 ⟨"RingChamber", "heardAlike", "()I"⟩ ∈ TB := tb_t5 (List.mem_of_getElem? (i := 96) rfl) rfl
set_option maxRecDepth 100000 in
theorem w_1161 : Cond.instanceMethod ⟨"RingChamber", "heardAlike", "()I"⟩ ∈ TB := tb_t5 (List.mem_of_getElem? (i := 97) rfl) rfl
set_option maxRecDepth 100000 in
theorem w_1162 : Cond.selects "RingChamber" ⟨"RingChamber", "heardAlike", "()I"⟩ ⟨"RingChamber", "heardAlike", "()I"⟩ ∈ TB := tb_t5 (List.mem_of_getElem? (i := 98) rfl) rfl
set_option maxRecDepth 100000 in
theorem w_1895 : Cond.methodLink "RingChamberLaw" 220 ⟨"RingChamberModel", "heardAlike", "()I"⟩ ∈ TB := tb_t8 (List.mem_of_getElem? (i := 111) rfl) rfl
set_option maxRecDepth 100000 in
theorem w_1896 : Cond.instanceMethod ⟨"RingChamberModel", "heardAlike", "()I"⟩ ∈ TB := tb_t8 (List.mem_of_getElem? (i := 112) rfl) rfl
set_option maxRecDepth 100000 in
theorem w_1897 : Cond.selects "RingChamberModel" ⟨"RingChamberModel", "heardAlike", "()I"⟩ ⟨"RingChamberModel", "heardAlike", "()I"⟩ ∈ TB := tb_t8 (List.mem_of_getElem? (i := 113) rfl) rfl
set_option maxRecDepth 100000 in
theorem w_1164 : Cond.methodLink "RingChamberLaw" 221 ⟨"RingChamber", "evens", "()Z"⟩ ∈ TB := tb_t5 (List.mem_of_getElem? (i := 100) rfl) rfl
set_option maxRecDepth 100000 in
theorem w_1165 : Cond.instanceMethod ⟨"RingChamber", "evens", "()Z"⟩ ∈ TB := tb_t5 (List.mem_of_getElem? (i := 101) rfl) rfl
set_option maxRecDepth 100000 in
theorem w_1166 : Cond.selects "RingChamber" ⟨"RingChamber", "evens", "()Z"⟩ ⟨"RingChamber", "evens", "()Z"⟩ ∈ TB := tb_t5 (List.mem_of_getElem? (i := 102) rfl) rfl
set_option maxRecDepth 100000 in
theorem w_1903 : Cond.methodLink "RingChamberLaw" 225 ⟨"RingChamberModel", "evens", "()Z"⟩ ∈ TB := tb_t8 (List.mem_of_getElem? (i := 119) rfl) rfl
set_option maxRecDepth 100000 in
theorem w_1904 : Cond.instanceMethod ⟨"RingChamberModel", "evens", "()Z"⟩ ∈ TB := tb_t8 (List.mem_of_getElem? (i := 120) rfl) rfl
set_option maxRecDepth 100000 in
theorem w_1905 : Cond.selects "RingChamberModel" ⟨"RingChamberModel", "evens", "()Z"⟩ ⟨"RingChamberModel", "evens", "()Z"⟩ ∈ TB := tb_t8 (List.mem_of_getElem? (i := 121) rfl) rfl
set_option maxRecDepth 100000 in
theorem w_1180 : Cond.methodLink "RingChamberLaw" 226 ⟨"RingChamber", "strayed", "(II)I"⟩ ∈ TB := tb_t5 (List.mem_of_getElem? (i := 116) rfl) rfl
set_option maxRecDepth 100000 in
theorem w_1181 : Cond.instanceMethod ⟨"RingChamber", "strayed", "(II)I"⟩ ∈ TB := tb_t5 (List.mem_of_getElem? (i := 117) rfl) rfl
set_option maxRecDepth 100000 in
theorem w_1182 : Cond.selects "RingChamber" ⟨"RingChamber", "strayed", "(II)I"⟩ ⟨"RingChamber", "strayed", "(II)I"⟩ ∈ TB := tb_t5 (List.mem_of_getElem? (i := 118) rfl) rfl
set_option maxRecDepth 100000 in
theorem w_1911 : Cond.methodLink "RingChamberLaw" 229 ⟨"RingChamberModel", "strayed", "(II)I"⟩ ∈ TB := tb_t8 (List.mem_of_getElem? (i := 127) rfl) rfl
set_option maxRecDepth 100000 in
theorem w_1912 : Cond.instanceMethod ⟨"RingChamberModel", "strayed", "(II)I"⟩ ∈ TB := tb_t8 (List.mem_of_getElem? (i := 128) rfl) rfl
set_option maxRecDepth 100000 in
theorem w_1913 : Cond.selects "RingChamberModel" ⟨"RingChamberModel", "strayed", "(II)I"⟩ ⟨"RingChamberModel", "strayed", "(II)I"⟩ ∈ TB := tb_t8 (List.mem_of_getElem? (i := 129) rfl) rfl
set_option maxRecDepth 100000 in
theorem w_1192 : Cond.methodLink "RingChamberLaw" 230 ⟨"RingChamber", "odds", "(III)Z"⟩ ∈ TB := tb_t5 (List.mem_of_getElem? (i := 128) rfl) rfl
set_option maxRecDepth 100000 in
theorem w_1193 : Cond.instanceMethod ⟨"RingChamber", "odds", "(III)Z"⟩ ∈ TB := tb_t5 (List.mem_of_getElem? (i := 129) rfl) rfl
set_option maxRecDepth 100000 in
theorem w_1194 : Cond.selects "RingChamber" ⟨"RingChamber", "odds", "(III)Z"⟩ ⟨"RingChamber", "odds", "(III)Z"⟩ ∈ TB := tb_t5 (List.mem_of_getElem? (i := 130) rfl) rfl
set_option maxRecDepth 100000 in
theorem w_1917 : Cond.methodLink "RingChamberLaw" 233 ⟨"RingChamberModel", "odds", "(III)Z"⟩ ∈ TB := tb_t8 (List.mem_of_getElem? (i := 133) rfl) rfl
set_option maxRecDepth 100000 in
theorem w_1918 : Cond.instanceMethod ⟨"RingChamberModel", "odds", "(III)Z"⟩ ∈ TB := tb_t8 (List.mem_of_getElem? (i := 134) rfl) rfl
set_option maxRecDepth 100000 in
theorem w_1919 : Cond.selects "RingChamberModel" ⟨"RingChamberModel", "odds", "(III)Z"⟩ ⟨"RingChamberModel", "odds", "(III)Z"⟩ ∈ TB := tb_t8 (List.mem_of_getElem? (i := 135) rfl) rfl
set_option maxRecDepth 100000 in
theorem w_1196 : Cond.methodLink "RingChamberLaw" 234 ⟨"RingChamber", "way", "(I)I"⟩ ∈ TB := tb_t5 (List.mem_of_getElem? (i := 132) rfl) rfl
set_option maxRecDepth 100000 in
theorem w_1197 : Cond.instanceMethod ⟨"RingChamber", "way", "(I)I"⟩ ∈ TB := tb_t5 (List.mem_of_getElem? (i := 133) rfl) rfl
set_option maxRecDepth 100000 in
theorem w_1198 : Cond.selects "RingChamber" ⟨"RingChamber", "way", "(I)I"⟩ ⟨"RingChamber", "way", "(I)I"⟩ ∈ TB := tb_t5 (List.mem_of_getElem? (i := 134) rfl) rfl
set_option maxRecDepth 100000 in
theorem w_1922 : Cond.methodLink "RingChamberLaw" 237 ⟨"RingChamberModel", "way", "(I)I"⟩ ∈ TB := tb_t8 (List.mem_of_getElem? (i := 138) rfl) rfl
set_option maxRecDepth 100000 in
theorem w_1923 : Cond.instanceMethod ⟨"RingChamberModel", "way", "(I)I"⟩ ∈ TB := tb_t8 (List.mem_of_getElem? (i := 139) rfl) rfl
set_option maxRecDepth 100000 in
theorem w_1924 : Cond.selects "RingChamberModel" ⟨"RingChamberModel", "way", "(I)I"⟩ ⟨"RingChamberModel", "way", "(I)I"⟩ ∈ TB := tb_t8 (List.mem_of_getElem? (i := 140) rfl) rfl
set_option maxRecDepth 100000 in
theorem w_1240 : Cond.methodLink "RingChamberLaw" 238 ⟨"RingChamber", "wayAt", "(II)I"⟩ ∈ TB := tb_t5 (List.mem_of_getElem? (i := 176) rfl) rfl
set_option maxRecDepth 100000 in
theorem w_1241 : Cond.instanceMethod ⟨"RingChamber", "wayAt", "(II)I"⟩ ∈ TB := tb_t5 (List.mem_of_getElem? (i := 177) rfl) rfl
set_option maxRecDepth 100000 in
theorem w_1242 : Cond.selects "RingChamber" ⟨"RingChamber", "wayAt", "(II)I"⟩ ⟨"RingChamber", "wayAt", "(II)I"⟩ ∈ TB := tb_t5 (List.mem_of_getElem? (i := 178) rfl) rfl
set_option maxRecDepth 100000 in
theorem w_1930 : Cond.methodLink "RingChamberLaw" 241 ⟨"RingChamberModel", "wayAt", "(II)I"⟩ ∈ TB := tb_t8 (List.mem_of_getElem? (i := 146) rfl) rfl
set_option maxRecDepth 100000 in
theorem w_1931 : Cond.instanceMethod ⟨"RingChamberModel", "wayAt", "(II)I"⟩ ∈ TB := tb_t8 (List.mem_of_getElem? (i := 147) rfl) rfl
set_option maxRecDepth 100000 in
theorem w_1932 : Cond.selects "RingChamberModel" ⟨"RingChamberModel", "wayAt", "(II)I"⟩ ⟨"RingChamberModel", "wayAt", "(II)I"⟩ ∈ TB := tb_t8 (List.mem_of_getElem? (i := 148) rfl) rfl
set_option maxRecDepth 100000 in
theorem w_1244 : Cond.methodLink "RingChamberLaw" 242 ⟨"RingChamber", "extent", "()I"⟩ ∈ TB := tb_t5 (List.mem_of_getElem? (i := 180) rfl) rfl
set_option maxRecDepth 100000 in
theorem w_1245 : Cond.instanceMethod ⟨"RingChamber", "extent", "()I"⟩ ∈ TB := tb_t5 (List.mem_of_getElem? (i := 181) rfl) rfl
set_option maxRecDepth 100000 in
theorem w_1246 : Cond.selects "RingChamber" ⟨"RingChamber", "extent", "()I"⟩ ⟨"RingChamber", "extent", "()I"⟩ ∈ TB := tb_t5 (List.mem_of_getElem? (i := 182) rfl) rfl
set_option maxRecDepth 100000 in
theorem w_1934 : Cond.methodLink "RingChamberLaw" 245 ⟨"RingChamberModel", "extent", "()I"⟩ ∈ TB := tb_t8 (List.mem_of_getElem? (i := 150) rfl) rfl
set_option maxRecDepth 100000 in
theorem w_1935 : Cond.instanceMethod ⟨"RingChamberModel", "extent", "()I"⟩ ∈ TB := tb_t8 (List.mem_of_getElem? (i := 151) rfl) rfl
set_option maxRecDepth 100000 in
theorem w_1936 : Cond.selects "RingChamberModel" ⟨"RingChamberModel", "extent", "()I"⟩ ⟨"RingChamberModel", "extent", "()I"⟩ ∈ TB := tb_t8 (List.mem_of_getElem? (i := 152) rfl) rfl
set_option maxRecDepth 100000 in
theorem w_1248 : Cond.methodLink "RingChamberLaw" 246 ⟨"RingChamber", "compositions", "(III)I"⟩ ∈ TB := tb_t5 (List.mem_of_getElem? (i := 184) rfl) rfl
set_option maxRecDepth 100000 in
theorem w_1249 : Cond.instanceMethod ⟨"RingChamber", "compositions", "(III)I"⟩ ∈ TB := tb_t5 (List.mem_of_getElem? (i := 185) rfl) rfl
set_option maxRecDepth 100000 in
theorem w_1250 : Cond.selects "RingChamber" ⟨"RingChamber", "compositions", "(III)I"⟩ ⟨"RingChamber", "compositions", "(III)I"⟩ ∈ TB := tb_t5 (List.mem_of_getElem? (i := 186) rfl) rfl
set_option maxRecDepth 100000 in
theorem w_1938 : Cond.methodLink "RingChamberLaw" 249 ⟨"RingChamberModel", "compositions", "(III)I"⟩ ∈ TB := tb_t8 (List.mem_of_getElem? (i := 154) rfl) rfl
set_option maxRecDepth 100000 in
theorem w_1939 : Cond.instanceMethod ⟨"RingChamberModel", "compositions", "(III)I"⟩ ∈ TB := tb_t8 (List.mem_of_getElem? (i := 155) rfl) rfl
set_option maxRecDepth 100000 in
theorem w_1940 : Cond.selects "RingChamberModel" ⟨"RingChamberModel", "compositions", "(III)I"⟩ ⟨"RingChamberModel", "compositions", "(III)I"⟩ ∈ TB := tb_t8 (List.mem_of_getElem? (i := 156) rfl) rfl
set_option maxRecDepth 100000 in
theorem w_1285 : Cond.methodLink "RingChamberLaw" 250 ⟨"RingChamber", "callAt", "(I)I"⟩ ∈ TB := tb_t5 (List.mem_of_getElem? (i := 221) rfl) rfl
set_option maxRecDepth 100000 in
theorem w_1286 : Cond.instanceMethod ⟨"RingChamber", "callAt", "(I)I"⟩ ∈ TB := tb_t5 (List.mem_of_getElem? (i := 222) rfl) rfl
set_option maxRecDepth 100000 in
theorem w_1287 : Cond.selects "RingChamber" ⟨"RingChamber", "callAt", "(I)I"⟩ ⟨"RingChamber", "callAt", "(I)I"⟩ ∈ TB := tb_t5 (List.mem_of_getElem? (i := 223) rfl) rfl
set_option maxRecDepth 100000 in
theorem w_1948 : Cond.methodLink "RingChamberLaw" 253 ⟨"RingChamberModel", "callAt", "(I)I"⟩ ∈ TB := tb_t8 (List.mem_of_getElem? (i := 164) rfl) rfl
set_option maxRecDepth 100000 in
theorem w_1949 : Cond.instanceMethod ⟨"RingChamberModel", "callAt", "(I)I"⟩ ∈ TB := tb_t8 (List.mem_of_getElem? (i := 165) rfl) rfl
set_option maxRecDepth 100000 in
theorem w_1950 : Cond.selects "RingChamberModel" ⟨"RingChamberModel", "callAt", "(I)I"⟩ ⟨"RingChamberModel", "callAt", "(I)I"⟩ ∈ TB := tb_t8 (List.mem_of_getElem? (i := 166) rfl) rfl
set_option maxRecDepth 100000 in
theorem w_1289 : Cond.methodLink "RingChamberLaw" 254 ⟨"RingChamber", "mark", "()I"⟩ ∈ TB := tb_t5 (List.mem_of_getElem? (i := 225) rfl) rfl
set_option maxRecDepth 100000 in
theorem w_1290 : Cond.instanceMethod ⟨"RingChamber", "mark", "()I"⟩ ∈ TB := tb_t5 (List.mem_of_getElem? (i := 226) rfl) rfl
set_option maxRecDepth 100000 in
theorem w_1291 : Cond.selects "RingChamber" ⟨"RingChamber", "mark", "()I"⟩ ⟨"RingChamber", "mark", "()I"⟩ ∈ TB := tb_t5 (List.mem_of_getElem? (i := 227) rfl) rfl
set_option maxRecDepth 100000 in
theorem w_1952 : Cond.methodLink "RingChamberLaw" 257 ⟨"RingChamberModel", "mark", "()I"⟩ ∈ TB := tb_t8 (List.mem_of_getElem? (i := 168) rfl) rfl
set_option maxRecDepth 100000 in
theorem w_1953 : Cond.instanceMethod ⟨"RingChamberModel", "mark", "()I"⟩ ∈ TB := tb_t8 (List.mem_of_getElem? (i := 169) rfl) rfl
set_option maxRecDepth 100000 in
theorem w_1954 : Cond.selects "RingChamberModel" ⟨"RingChamberModel", "mark", "()I"⟩ ⟨"RingChamberModel", "mark", "()I"⟩ ∈ TB := tb_t8 (List.mem_of_getElem? (i := 170) rfl) rfl
set_option maxRecDepth 100000 in
theorem w_1293 : Cond.methodLink "RingChamberLaw" 258 ⟨"RingChamber", "back", "()I"⟩ ∈ TB := tb_t5 (List.mem_of_getElem? (i := 229) rfl) rfl
set_option maxRecDepth 100000 in
theorem w_1294 : Cond.instanceMethod ⟨"RingChamber", "back", "()I"⟩ ∈ TB := tb_t5 (List.mem_of_getElem? (i := 230) rfl) rfl
set_option maxRecDepth 100000 in
theorem w_1295 : Cond.selects "RingChamber" ⟨"RingChamber", "back", "()I"⟩ ⟨"RingChamber", "back", "()I"⟩ ∈ TB := tb_t5 (List.mem_of_getElem? (i := 231) rfl) rfl
set_option maxRecDepth 100000 in
theorem w_1960 : Cond.methodLink "RingChamberLaw" 261 ⟨"RingChamberModel", "back", "()I"⟩ ∈ TB := tb_t8 (List.mem_of_getElem? (i := 176) rfl) rfl
set_option maxRecDepth 100000 in
theorem w_1961 : Cond.instanceMethod ⟨"RingChamberModel", "back", "()I"⟩ ∈ TB := tb_t8 (List.mem_of_getElem? (i := 177) rfl) rfl
set_option maxRecDepth 100000 in
theorem w_1962 : Cond.selects "RingChamberModel" ⟨"RingChamberModel", "back", "()I"⟩ ⟨"RingChamberModel", "back", "()I"⟩ ∈ TB := tb_t8 (List.mem_of_getElem? (i := 178) rfl) rfl
theorem sw_0_58 {x : Int32} (h0 : ¬ x = 0) (h1 : ¬ x = 1) (h2 : ¬ x = 2) (h3 : ¬ x = 3) (h4 : ¬ x = 4) (h5 : ¬ x = 5) (h6 : ¬ x = 6) (h7 : ¬ x = 7) (h8 : ¬ x = 8) (h9 : ¬ x = 9) (h10 : ¬ x = 10) (h11 : ¬ x = 11) (h12 : ¬ x = 12) (h13 : ¬ x = 13) (h14 : ¬ x = 14) (h15 : ¬ x = 15) (h16 : ¬ x = 16) (h17 : ¬ x = 17) (h18 : ¬ x = 18) (h19 : ¬ x = 19) (h20 : ¬ x = 20) (h21 : ¬ x = 21) (h22 : ¬ x = 22) (h23 : ¬ x = 23) (h24 : ¬ x = 24) (h25 : ¬ x = 25) (h26 : ¬ x = 26) (h27 : ¬ x = 27) (h28 : ¬ x = 28) (h29 : ¬ x = 29) (h30 : ¬ x = 30) (h31 : ¬ x = 31) (h32 : ¬ x = 32) (h33 : ¬ x = 33) (h34 : ¬ x = 34) (h35 : ¬ x = 35) (h36 : ¬ x = 36) (h37 : ¬ x = 37) (h38 : ¬ x = 38) (h39 : ¬ x = 39) (h40 : ¬ x = 40) (h41 : ¬ x = 41) (h42 : ¬ x = 42) (h43 : ¬ x = 43) (h44 : ¬ x = 44) (h45 : ¬ x = 45) (h46 : ¬ x = 46) (h47 : ¬ x = 47) (h48 : ¬ x = 48) (h49 : ¬ x = 49) (h50 : ¬ x = 50) (h51 : ¬ x = 51) (h52 : ¬ x = 52) (h53 : ¬ x = 53) (h54 : ¬ x = 54) (h55 : ¬ x = 55) (h56 : ¬ x = 56) (h57 : ¬ x = 57) (h58 : ¬ x = 58) : x.toInt < 0 ∨ 58 < x.toInt := by
  have z0 : x.toInt ≠ 0 := i_ne h0
  have z1 : x.toInt ≠ 1 := i_ne h1
  have z2 : x.toInt ≠ 2 := i_ne h2
  have z3 : x.toInt ≠ 3 := i_ne h3
  have z4 : x.toInt ≠ 4 := i_ne h4
  have z5 : x.toInt ≠ 5 := i_ne h5
  have z6 : x.toInt ≠ 6 := i_ne h6
  have z7 : x.toInt ≠ 7 := i_ne h7
  have z8 : x.toInt ≠ 8 := i_ne h8
  have z9 : x.toInt ≠ 9 := i_ne h9
  have z10 : x.toInt ≠ 10 := i_ne h10
  have z11 : x.toInt ≠ 11 := i_ne h11
  have z12 : x.toInt ≠ 12 := i_ne h12
  have z13 : x.toInt ≠ 13 := i_ne h13
  have z14 : x.toInt ≠ 14 := i_ne h14
  have z15 : x.toInt ≠ 15 := i_ne h15
  have z16 : x.toInt ≠ 16 := i_ne h16
  have z17 : x.toInt ≠ 17 := i_ne h17
  have z18 : x.toInt ≠ 18 := i_ne h18
  have z19 : x.toInt ≠ 19 := i_ne h19
  have z20 : x.toInt ≠ 20 := i_ne h20
  have z21 : x.toInt ≠ 21 := i_ne h21
  have z22 : x.toInt ≠ 22 := i_ne h22
  have z23 : x.toInt ≠ 23 := i_ne h23
  have z24 : x.toInt ≠ 24 := i_ne h24
  have z25 : x.toInt ≠ 25 := i_ne h25
  have z26 : x.toInt ≠ 26 := i_ne h26
  have z27 : x.toInt ≠ 27 := i_ne h27
  have z28 : x.toInt ≠ 28 := i_ne h28
  have z29 : x.toInt ≠ 29 := i_ne h29
  have z30 : x.toInt ≠ 30 := i_ne h30
  have z31 : x.toInt ≠ 31 := i_ne h31
  have z32 : x.toInt ≠ 32 := i_ne h32
  have z33 : x.toInt ≠ 33 := i_ne h33
  have z34 : x.toInt ≠ 34 := i_ne h34
  have z35 : x.toInt ≠ 35 := i_ne h35
  have z36 : x.toInt ≠ 36 := i_ne h36
  have z37 : x.toInt ≠ 37 := i_ne h37
  have z38 : x.toInt ≠ 38 := i_ne h38
  have z39 : x.toInt ≠ 39 := i_ne h39
  have z40 : x.toInt ≠ 40 := i_ne h40
  have z41 : x.toInt ≠ 41 := i_ne h41
  have z42 : x.toInt ≠ 42 := i_ne h42
  have z43 : x.toInt ≠ 43 := i_ne h43
  have z44 : x.toInt ≠ 44 := i_ne h44
  have z45 : x.toInt ≠ 45 := i_ne h45
  have z46 : x.toInt ≠ 46 := i_ne h46
  have z47 : x.toInt ≠ 47 := i_ne h47
  have z48 : x.toInt ≠ 48 := i_ne h48
  have z49 : x.toInt ≠ 49 := i_ne h49
  have z50 : x.toInt ≠ 50 := i_ne h50
  have z51 : x.toInt ≠ 51 := i_ne h51
  have z52 : x.toInt ≠ 52 := i_ne h52
  have z53 : x.toInt ≠ 53 := i_ne h53
  have z54 : x.toInt ≠ 54 := i_ne h54
  have z55 : x.toInt ≠ 55 := i_ne h55
  have z56 : x.toInt ≠ 56 := i_ne h56
  have z57 : x.toInt ≠ 57 := i_ne h57
  have z58 : x.toInt ≠ 58 := i_ne h58
  omega
abbrev cL_law : ByteArray := code
theorem dL_law_0 : decode cL_law 0 = .ok (.new 7, 3) := by decide +kernel
theorem dL_law_3 : decode cL_law 3 = .ok (.dup, 1) := by decide +kernel
theorem dL_law_4 : decode cL_law 4 = .ok (.invokespecial 9, 3) := by decide +kernel
theorem dL_law_7 : decode cL_law 7 = .ok (.astore_n 1, 1) := by decide +kernel
theorem dL_law_8 : decode cL_law 8 = .ok (.new 10, 3) := by decide +kernel
theorem dL_law_11 : decode cL_law 11 = .ok (.dup, 1) := by decide +kernel
theorem dL_law_12 : decode cL_law 12 = .ok (.invokespecial 12, 3) := by decide +kernel
theorem dL_law_15 : decode cL_law 15 = .ok (.astore_n 2, 1) := by decide +kernel
theorem dL_law_16 : decode cL_law 16 = .ok (.iconst 0, 1) := by decide +kernel
theorem dL_law_17 : decode cL_law 17 = .ok (.istore_n 3, 1) := by decide +kernel
theorem dL_law_18 : decode cL_law 18 = .ok (.iload_n 3, 1) := by decide +kernel
theorem dL_law_19 : decode cL_law 19 = .ok (.aload_n 0, 1) := by decide +kernel
theorem dL_law_20 : decode cL_law 20 = .ok (.arraylength, 1) := by decide +kernel
theorem dL_law_21 : decode cL_law 21 = .ok (.bipush 6, 2) := by decide +kernel
theorem dL_law_23 : decode cL_law 23 = .ok (.isub, 1) := by decide +kernel
theorem dL_law_24 : decode cL_law 24 = .ok (.if_icmp .gt 1896, 3) := by decide +kernel
theorem dL_law_27 : decode cL_law 27 = .ok (.aload_n 0, 1) := by decide +kernel
theorem dL_law_28 : decode cL_law 28 = .ok (.iload_n 3, 1) := by decide +kernel
theorem dL_law_29 : decode cL_law 29 = .ok (.iaload, 1) := by decide +kernel
theorem dL_law_30 : decode cL_law 30 = .ok (.bipush 63, 2) := by decide +kernel
theorem dL_law_32 : decode cL_law 32 = .ok (.iand, 1) := by decide +kernel
theorem dL_law_33 : decode cL_law 33 = .ok (.tableswitch 1881 0 58 #[251, 264, 278, 292, 335, 408, 442, 505, 568, 591, 614, 637, 660, 693, 716, 749, 772, 795, 818, 851, 884, 917, 950, 983, 1006, 1049, 1082, 1115, 1148, 1171, 1194, 1227, 1250, 1283, 1316, 1329, 1352, 1365, 1378, 1401, 1414, 1447, 1480, 1503, 1526, 1549, 1572, 1585, 1618, 1631, 1644, 1677, 1720, 1743, 1776, 1789, 1832, 1855, 1868], 251) := by decide +kernel
theorem dL_law_284 : decode cL_law 284 = .ok (.aload_n 1, 1) := by decide +kernel
theorem dL_law_285 : decode cL_law 285 = .ok (.invokevirtual 13, 3) := by decide +kernel
theorem dL_law_288 : decode cL_law 288 = .ok (.aload_n 2, 1) := by decide +kernel
theorem dL_law_289 : decode cL_law 289 = .ok (.invokevirtual 17, 3) := by decide +kernel
theorem dL_law_292 : decode cL_law 292 = .ok (.if_icmp .eq 1622, 3) := by decide +kernel
theorem dL_law_295 : decode cL_law 295 = .ok (.iconst 0, 1) := by decide +kernel
theorem dL_law_296 : decode cL_law 296 = .ok (.ireturn, 1) := by decide +kernel
theorem dL_law_297 : decode cL_law 297 = .ok (.aload_n 1, 1) := by decide +kernel
theorem dL_law_298 : decode cL_law 298 = .ok (.invokevirtual 18, 3) := by decide +kernel
theorem dL_law_301 : decode cL_law 301 = .ok (.aload_n 2, 1) := by decide +kernel
theorem dL_law_302 : decode cL_law 302 = .ok (.invokevirtual 22, 3) := by decide +kernel
theorem dL_law_305 : decode cL_law 305 = .ok (.lcmp, 1) := by decide +kernel
theorem dL_law_306 : decode cL_law 306 = .ok (.ifCond .eq 1608, 3) := by decide +kernel
theorem dL_law_309 : decode cL_law 309 = .ok (.iconst 0, 1) := by decide +kernel
theorem dL_law_310 : decode cL_law 310 = .ok (.ireturn, 1) := by decide +kernel
theorem dL_law_311 : decode cL_law 311 = .ok (.aload_n 1, 1) := by decide +kernel
theorem dL_law_312 : decode cL_law 312 = .ok (.invokevirtual 23, 3) := by decide +kernel
theorem dL_law_315 : decode cL_law 315 = .ok (.aload_n 2, 1) := by decide +kernel
theorem dL_law_316 : decode cL_law 316 = .ok (.invokevirtual 26, 3) := by decide +kernel
theorem dL_law_319 : decode cL_law 319 = .ok (.lcmp, 1) := by decide +kernel
theorem dL_law_320 : decode cL_law 320 = .ok (.ifCond .eq 1594, 3) := by decide +kernel
theorem dL_law_323 : decode cL_law 323 = .ok (.iconst 0, 1) := by decide +kernel
theorem dL_law_324 : decode cL_law 324 = .ok (.ireturn, 1) := by decide +kernel
theorem dL_law_325 : decode cL_law 325 = .ok (.aload_n 1, 1) := by decide +kernel
theorem dL_law_326 : decode cL_law 326 = .ok (.aload_n 0, 1) := by decide +kernel
theorem dL_law_327 : decode cL_law 327 = .ok (.iload_n 3, 1) := by decide +kernel
theorem dL_law_328 : decode cL_law 328 = .ok (.iconst 1, 1) := by decide +kernel
theorem dL_law_329 : decode cL_law 329 = .ok (.iadd, 1) := by decide +kernel
theorem dL_law_330 : decode cL_law 330 = .ok (.iaload, 1) := by decide +kernel
theorem dL_law_331 : decode cL_law 331 = .ok (.aload_n 0, 1) := by decide +kernel
theorem dL_law_332 : decode cL_law 332 = .ok (.iload_n 3, 1) := by decide +kernel
theorem dL_law_333 : decode cL_law 333 = .ok (.iconst 2, 1) := by decide +kernel
theorem dL_law_334 : decode cL_law 334 = .ok (.iadd, 1) := by decide +kernel
theorem dL_law_335 : decode cL_law 335 = .ok (.iaload, 1) := by decide +kernel
theorem dL_law_336 : decode cL_law 336 = .ok (.aload_n 0, 1) := by decide +kernel
theorem dL_law_337 : decode cL_law 337 = .ok (.iload_n 3, 1) := by decide +kernel
theorem dL_law_338 : decode cL_law 338 = .ok (.iconst 3, 1) := by decide +kernel
theorem dL_law_339 : decode cL_law 339 = .ok (.iadd, 1) := by decide +kernel
theorem dL_law_340 : decode cL_law 340 = .ok (.iaload, 1) := by decide +kernel
theorem dL_law_341 : decode cL_law 341 = .ok (.invokevirtual 27, 3) := by decide +kernel
theorem dL_law_344 : decode cL_law 344 = .ok (.aload_n 2, 1) := by decide +kernel
theorem dL_law_345 : decode cL_law 345 = .ok (.aload_n 0, 1) := by decide +kernel
theorem dL_law_346 : decode cL_law 346 = .ok (.iload_n 3, 1) := by decide +kernel
theorem dL_law_347 : decode cL_law 347 = .ok (.iconst 1, 1) := by decide +kernel
theorem dL_law_348 : decode cL_law 348 = .ok (.iadd, 1) := by decide +kernel
theorem dL_law_349 : decode cL_law 349 = .ok (.iaload, 1) := by decide +kernel
theorem dL_law_350 : decode cL_law 350 = .ok (.aload_n 0, 1) := by decide +kernel
theorem dL_law_351 : decode cL_law 351 = .ok (.iload_n 3, 1) := by decide +kernel
theorem dL_law_352 : decode cL_law 352 = .ok (.iconst 2, 1) := by decide +kernel
theorem dL_law_353 : decode cL_law 353 = .ok (.iadd, 1) := by decide +kernel
theorem dL_law_354 : decode cL_law 354 = .ok (.iaload, 1) := by decide +kernel
theorem dL_law_355 : decode cL_law 355 = .ok (.aload_n 0, 1) := by decide +kernel
theorem dL_law_356 : decode cL_law 356 = .ok (.iload_n 3, 1) := by decide +kernel
theorem dL_law_357 : decode cL_law 357 = .ok (.iconst 3, 1) := by decide +kernel
theorem dL_law_358 : decode cL_law 358 = .ok (.iadd, 1) := by decide +kernel
theorem dL_law_359 : decode cL_law 359 = .ok (.iaload, 1) := by decide +kernel
theorem dL_law_360 : decode cL_law 360 = .ok (.invokevirtual 31, 3) := by decide +kernel
theorem dL_law_363 : decode cL_law 363 = .ok (.if_icmp .eq 1551, 3) := by decide +kernel
theorem dL_law_366 : decode cL_law 366 = .ok (.iconst 0, 1) := by decide +kernel
theorem dL_law_367 : decode cL_law 367 = .ok (.ireturn, 1) := by decide +kernel
theorem dL_law_368 : decode cL_law 368 = .ok (.aload_n 1, 1) := by decide +kernel
theorem dL_law_369 : decode cL_law 369 = .ok (.aload_n 0, 1) := by decide +kernel
theorem dL_law_370 : decode cL_law 370 = .ok (.iload_n 3, 1) := by decide +kernel
theorem dL_law_371 : decode cL_law 371 = .ok (.iconst 1, 1) := by decide +kernel
theorem dL_law_372 : decode cL_law 372 = .ok (.iadd, 1) := by decide +kernel
theorem dL_law_373 : decode cL_law 373 = .ok (.iaload, 1) := by decide +kernel
theorem dL_law_374 : decode cL_law 374 = .ok (.aload_n 0, 1) := by decide +kernel
theorem dL_law_375 : decode cL_law 375 = .ok (.iload_n 3, 1) := by decide +kernel
theorem dL_law_376 : decode cL_law 376 = .ok (.iconst 2, 1) := by decide +kernel
theorem dL_law_377 : decode cL_law 377 = .ok (.iadd, 1) := by decide +kernel
theorem dL_law_378 : decode cL_law 378 = .ok (.iaload, 1) := by decide +kernel
theorem dL_law_379 : decode cL_law 379 = .ok (.aload_n 0, 1) := by decide +kernel
theorem dL_law_380 : decode cL_law 380 = .ok (.iload_n 3, 1) := by decide +kernel
theorem dL_law_381 : decode cL_law 381 = .ok (.iconst 3, 1) := by decide +kernel
theorem dL_law_382 : decode cL_law 382 = .ok (.iadd, 1) := by decide +kernel
theorem dL_law_383 : decode cL_law 383 = .ok (.iaload, 1) := by decide +kernel
theorem dL_law_384 : decode cL_law 384 = .ok (.i2l, 1) := by decide +kernel
theorem dL_law_385 : decode cL_law 385 = .ok (.bipush 32, 2) := by decide +kernel
theorem dL_law_387 : decode cL_law 387 = .ok (.lshl, 1) := by decide +kernel
theorem dL_law_388 : decode cL_law 388 = .ok (.aload_n 0, 1) := by decide +kernel
theorem dL_law_389 : decode cL_law 389 = .ok (.iload_n 3, 1) := by decide +kernel
theorem dL_law_390 : decode cL_law 390 = .ok (.iconst 4, 1) := by decide +kernel
theorem dL_law_391 : decode cL_law 391 = .ok (.iadd, 1) := by decide +kernel
theorem dL_law_392 : decode cL_law 392 = .ok (.iaload, 1) := by decide +kernel
theorem dL_law_393 : decode cL_law 393 = .ok (.i2l, 1) := by decide +kernel
theorem dL_law_394 : decode cL_law 394 = .ok (.ldc2_w 32, 3) := by decide +kernel
theorem dL_law_397 : decode cL_law 397 = .ok (.land, 1) := by decide +kernel
theorem dL_law_398 : decode cL_law 398 = .ok (.lor, 1) := by decide +kernel
theorem dL_law_399 : decode cL_law 399 = .ok (.invokevirtual 34, 3) := by decide +kernel
theorem dL_law_402 : decode cL_law 402 = .ok (.aload_n 2, 1) := by decide +kernel
theorem dL_law_403 : decode cL_law 403 = .ok (.aload_n 0, 1) := by decide +kernel
theorem dL_law_404 : decode cL_law 404 = .ok (.iload_n 3, 1) := by decide +kernel
theorem dL_law_405 : decode cL_law 405 = .ok (.iconst 1, 1) := by decide +kernel
theorem dL_law_406 : decode cL_law 406 = .ok (.iadd, 1) := by decide +kernel
theorem dL_law_407 : decode cL_law 407 = .ok (.iaload, 1) := by decide +kernel
theorem dL_law_408 : decode cL_law 408 = .ok (.aload_n 0, 1) := by decide +kernel
theorem dL_law_409 : decode cL_law 409 = .ok (.iload_n 3, 1) := by decide +kernel
theorem dL_law_410 : decode cL_law 410 = .ok (.iconst 2, 1) := by decide +kernel
theorem dL_law_411 : decode cL_law 411 = .ok (.iadd, 1) := by decide +kernel
theorem dL_law_412 : decode cL_law 412 = .ok (.iaload, 1) := by decide +kernel
theorem dL_law_413 : decode cL_law 413 = .ok (.aload_n 0, 1) := by decide +kernel
theorem dL_law_414 : decode cL_law 414 = .ok (.iload_n 3, 1) := by decide +kernel
theorem dL_law_415 : decode cL_law 415 = .ok (.iconst 3, 1) := by decide +kernel
theorem dL_law_416 : decode cL_law 416 = .ok (.iadd, 1) := by decide +kernel
theorem dL_law_417 : decode cL_law 417 = .ok (.iaload, 1) := by decide +kernel
theorem dL_law_418 : decode cL_law 418 = .ok (.i2l, 1) := by decide +kernel
theorem dL_law_419 : decode cL_law 419 = .ok (.bipush 32, 2) := by decide +kernel
theorem dL_law_421 : decode cL_law 421 = .ok (.lshl, 1) := by decide +kernel
theorem dL_law_422 : decode cL_law 422 = .ok (.aload_n 0, 1) := by decide +kernel
theorem dL_law_423 : decode cL_law 423 = .ok (.iload_n 3, 1) := by decide +kernel
theorem dL_law_424 : decode cL_law 424 = .ok (.iconst 4, 1) := by decide +kernel
theorem dL_law_425 : decode cL_law 425 = .ok (.iadd, 1) := by decide +kernel
theorem dL_law_426 : decode cL_law 426 = .ok (.iaload, 1) := by decide +kernel
theorem dL_law_427 : decode cL_law 427 = .ok (.i2l, 1) := by decide +kernel
theorem dL_law_428 : decode cL_law 428 = .ok (.ldc2_w 32, 3) := by decide +kernel
theorem dL_law_431 : decode cL_law 431 = .ok (.land, 1) := by decide +kernel
theorem dL_law_432 : decode cL_law 432 = .ok (.lor, 1) := by decide +kernel
theorem dL_law_433 : decode cL_law 433 = .ok (.invokevirtual 38, 3) := by decide +kernel
theorem dL_law_436 : decode cL_law 436 = .ok (.if_icmp .eq 1478, 3) := by decide +kernel
theorem dL_law_439 : decode cL_law 439 = .ok (.iconst 0, 1) := by decide +kernel
theorem dL_law_440 : decode cL_law 440 = .ok (.ireturn, 1) := by decide +kernel
theorem dL_law_441 : decode cL_law 441 = .ok (.aload_n 1, 1) := by decide +kernel
theorem dL_law_442 : decode cL_law 442 = .ok (.aload_n 0, 1) := by decide +kernel
theorem dL_law_443 : decode cL_law 443 = .ok (.iload_n 3, 1) := by decide +kernel
theorem dL_law_444 : decode cL_law 444 = .ok (.iconst 1, 1) := by decide +kernel
theorem dL_law_445 : decode cL_law 445 = .ok (.iadd, 1) := by decide +kernel
theorem dL_law_446 : decode cL_law 446 = .ok (.iaload, 1) := by decide +kernel
theorem dL_law_447 : decode cL_law 447 = .ok (.aload_n 0, 1) := by decide +kernel
theorem dL_law_448 : decode cL_law 448 = .ok (.iload_n 3, 1) := by decide +kernel
theorem dL_law_449 : decode cL_law 449 = .ok (.iconst 2, 1) := by decide +kernel
theorem dL_law_450 : decode cL_law 450 = .ok (.iadd, 1) := by decide +kernel
theorem dL_law_451 : decode cL_law 451 = .ok (.iaload, 1) := by decide +kernel
theorem dL_law_452 : decode cL_law 452 = .ok (.invokevirtual 39, 3) := by decide +kernel
theorem dL_law_455 : decode cL_law 455 = .ok (.aload_n 2, 1) := by decide +kernel
theorem dL_law_456 : decode cL_law 456 = .ok (.aload_n 0, 1) := by decide +kernel
theorem dL_law_457 : decode cL_law 457 = .ok (.iload_n 3, 1) := by decide +kernel
theorem dL_law_458 : decode cL_law 458 = .ok (.iconst 1, 1) := by decide +kernel
theorem dL_law_459 : decode cL_law 459 = .ok (.iadd, 1) := by decide +kernel
theorem dL_law_460 : decode cL_law 460 = .ok (.iaload, 1) := by decide +kernel
theorem dL_law_461 : decode cL_law 461 = .ok (.aload_n 0, 1) := by decide +kernel
theorem dL_law_462 : decode cL_law 462 = .ok (.iload_n 3, 1) := by decide +kernel
theorem dL_law_463 : decode cL_law 463 = .ok (.iconst 2, 1) := by decide +kernel
theorem dL_law_464 : decode cL_law 464 = .ok (.iadd, 1) := by decide +kernel
theorem dL_law_465 : decode cL_law 465 = .ok (.iaload, 1) := by decide +kernel
theorem dL_law_466 : decode cL_law 466 = .ok (.invokevirtual 43, 3) := by decide +kernel
theorem dL_law_469 : decode cL_law 469 = .ok (.lcmp, 1) := by decide +kernel
theorem dL_law_470 : decode cL_law 470 = .ok (.ifCond .eq 1444, 3) := by decide +kernel
theorem dL_law_473 : decode cL_law 473 = .ok (.iconst 0, 1) := by decide +kernel
theorem dL_law_474 : decode cL_law 474 = .ok (.ireturn, 1) := by decide +kernel
theorem dL_law_475 : decode cL_law 475 = .ok (.aload_n 1, 1) := by decide +kernel
theorem dL_law_476 : decode cL_law 476 = .ok (.aload_n 0, 1) := by decide +kernel
theorem dL_law_477 : decode cL_law 477 = .ok (.iload_n 3, 1) := by decide +kernel
theorem dL_law_478 : decode cL_law 478 = .ok (.iconst 1, 1) := by decide +kernel
theorem dL_law_479 : decode cL_law 479 = .ok (.iadd, 1) := by decide +kernel
theorem dL_law_480 : decode cL_law 480 = .ok (.iaload, 1) := by decide +kernel
theorem dL_law_481 : decode cL_law 481 = .ok (.aload_n 0, 1) := by decide +kernel
theorem dL_law_482 : decode cL_law 482 = .ok (.iload_n 3, 1) := by decide +kernel
theorem dL_law_483 : decode cL_law 483 = .ok (.iconst 2, 1) := by decide +kernel
theorem dL_law_484 : decode cL_law 484 = .ok (.iadd, 1) := by decide +kernel
theorem dL_law_485 : decode cL_law 485 = .ok (.iaload, 1) := by decide +kernel
theorem dL_law_486 : decode cL_law 486 = .ok (.aload_n 0, 1) := by decide +kernel
theorem dL_law_487 : decode cL_law 487 = .ok (.iload_n 3, 1) := by decide +kernel
theorem dL_law_488 : decode cL_law 488 = .ok (.iconst 3, 1) := by decide +kernel
theorem dL_law_489 : decode cL_law 489 = .ok (.iadd, 1) := by decide +kernel
theorem dL_law_490 : decode cL_law 490 = .ok (.iaload, 1) := by decide +kernel
theorem dL_law_491 : decode cL_law 491 = .ok (.aload_n 0, 1) := by decide +kernel
theorem dL_law_492 : decode cL_law 492 = .ok (.iload_n 3, 1) := by decide +kernel
theorem dL_law_493 : decode cL_law 493 = .ok (.iconst 4, 1) := by decide +kernel
theorem dL_law_494 : decode cL_law 494 = .ok (.iadd, 1) := by decide +kernel
theorem dL_law_495 : decode cL_law 495 = .ok (.iaload, 1) := by decide +kernel
theorem dL_law_496 : decode cL_law 496 = .ok (.aload_n 0, 1) := by decide +kernel
theorem dL_law_497 : decode cL_law 497 = .ok (.iload_n 3, 1) := by decide +kernel
theorem dL_law_498 : decode cL_law 498 = .ok (.iconst 5, 1) := by decide +kernel
theorem dL_law_499 : decode cL_law 499 = .ok (.iadd, 1) := by decide +kernel
theorem dL_law_500 : decode cL_law 500 = .ok (.iaload, 1) := by decide +kernel
theorem dL_law_501 : decode cL_law 501 = .ok (.invokevirtual 44, 3) := by decide +kernel
theorem dL_law_504 : decode cL_law 504 = .ok (.aload_n 2, 1) := by decide +kernel
theorem dL_law_505 : decode cL_law 505 = .ok (.aload_n 0, 1) := by decide +kernel
theorem dL_law_506 : decode cL_law 506 = .ok (.iload_n 3, 1) := by decide +kernel
theorem dL_law_507 : decode cL_law 507 = .ok (.iconst 1, 1) := by decide +kernel
theorem dL_law_508 : decode cL_law 508 = .ok (.iadd, 1) := by decide +kernel
theorem dL_law_509 : decode cL_law 509 = .ok (.iaload, 1) := by decide +kernel
theorem dL_law_510 : decode cL_law 510 = .ok (.aload_n 0, 1) := by decide +kernel
theorem dL_law_511 : decode cL_law 511 = .ok (.iload_n 3, 1) := by decide +kernel
theorem dL_law_512 : decode cL_law 512 = .ok (.iconst 2, 1) := by decide +kernel
theorem dL_law_513 : decode cL_law 513 = .ok (.iadd, 1) := by decide +kernel
theorem dL_law_514 : decode cL_law 514 = .ok (.iaload, 1) := by decide +kernel
theorem dL_law_515 : decode cL_law 515 = .ok (.aload_n 0, 1) := by decide +kernel
theorem dL_law_516 : decode cL_law 516 = .ok (.iload_n 3, 1) := by decide +kernel
theorem dL_law_517 : decode cL_law 517 = .ok (.iconst 3, 1) := by decide +kernel
theorem dL_law_518 : decode cL_law 518 = .ok (.iadd, 1) := by decide +kernel
theorem dL_law_519 : decode cL_law 519 = .ok (.iaload, 1) := by decide +kernel
theorem dL_law_520 : decode cL_law 520 = .ok (.aload_n 0, 1) := by decide +kernel
theorem dL_law_521 : decode cL_law 521 = .ok (.iload_n 3, 1) := by decide +kernel
theorem dL_law_522 : decode cL_law 522 = .ok (.iconst 4, 1) := by decide +kernel
theorem dL_law_523 : decode cL_law 523 = .ok (.iadd, 1) := by decide +kernel
theorem dL_law_524 : decode cL_law 524 = .ok (.iaload, 1) := by decide +kernel
theorem dL_law_525 : decode cL_law 525 = .ok (.aload_n 0, 1) := by decide +kernel
theorem dL_law_526 : decode cL_law 526 = .ok (.iload_n 3, 1) := by decide +kernel
theorem dL_law_527 : decode cL_law 527 = .ok (.iconst 5, 1) := by decide +kernel
theorem dL_law_528 : decode cL_law 528 = .ok (.iadd, 1) := by decide +kernel
theorem dL_law_529 : decode cL_law 529 = .ok (.iaload, 1) := by decide +kernel
theorem dL_law_530 : decode cL_law 530 = .ok (.invokevirtual 48, 3) := by decide +kernel
theorem dL_law_533 : decode cL_law 533 = .ok (.if_icmp .eq 1381, 3) := by decide +kernel
theorem dL_law_536 : decode cL_law 536 = .ok (.iconst 0, 1) := by decide +kernel
theorem dL_law_537 : decode cL_law 537 = .ok (.ireturn, 1) := by decide +kernel
theorem dL_law_538 : decode cL_law 538 = .ok (.aload_n 1, 1) := by decide +kernel
theorem dL_law_539 : decode cL_law 539 = .ok (.aload_n 0, 1) := by decide +kernel
theorem dL_law_540 : decode cL_law 540 = .ok (.iload_n 3, 1) := by decide +kernel
theorem dL_law_541 : decode cL_law 541 = .ok (.iconst 1, 1) := by decide +kernel
theorem dL_law_542 : decode cL_law 542 = .ok (.iadd, 1) := by decide +kernel
theorem dL_law_543 : decode cL_law 543 = .ok (.iaload, 1) := by decide +kernel
theorem dL_law_544 : decode cL_law 544 = .ok (.aload_n 0, 1) := by decide +kernel
theorem dL_law_545 : decode cL_law 545 = .ok (.iload_n 3, 1) := by decide +kernel
theorem dL_law_546 : decode cL_law 546 = .ok (.iconst 2, 1) := by decide +kernel
theorem dL_law_547 : decode cL_law 547 = .ok (.iadd, 1) := by decide +kernel
theorem dL_law_548 : decode cL_law 548 = .ok (.iaload, 1) := by decide +kernel
theorem dL_law_549 : decode cL_law 549 = .ok (.aload_n 0, 1) := by decide +kernel
theorem dL_law_550 : decode cL_law 550 = .ok (.iload_n 3, 1) := by decide +kernel
theorem dL_law_551 : decode cL_law 551 = .ok (.iconst 3, 1) := by decide +kernel
theorem dL_law_552 : decode cL_law 552 = .ok (.iadd, 1) := by decide +kernel
theorem dL_law_553 : decode cL_law 553 = .ok (.iaload, 1) := by decide +kernel
theorem dL_law_554 : decode cL_law 554 = .ok (.aload_n 0, 1) := by decide +kernel
theorem dL_law_555 : decode cL_law 555 = .ok (.iload_n 3, 1) := by decide +kernel
theorem dL_law_556 : decode cL_law 556 = .ok (.iconst 4, 1) := by decide +kernel
theorem dL_law_557 : decode cL_law 557 = .ok (.iadd, 1) := by decide +kernel
theorem dL_law_558 : decode cL_law 558 = .ok (.iaload, 1) := by decide +kernel
theorem dL_law_559 : decode cL_law 559 = .ok (.aload_n 0, 1) := by decide +kernel
theorem dL_law_560 : decode cL_law 560 = .ok (.iload_n 3, 1) := by decide +kernel
theorem dL_law_561 : decode cL_law 561 = .ok (.iconst 5, 1) := by decide +kernel
theorem dL_law_562 : decode cL_law 562 = .ok (.iadd, 1) := by decide +kernel
theorem dL_law_563 : decode cL_law 563 = .ok (.iaload, 1) := by decide +kernel
theorem dL_law_564 : decode cL_law 564 = .ok (.invokevirtual 49, 3) := by decide +kernel
theorem dL_law_567 : decode cL_law 567 = .ok (.aload_n 2, 1) := by decide +kernel
theorem dL_law_568 : decode cL_law 568 = .ok (.aload_n 0, 1) := by decide +kernel
theorem dL_law_569 : decode cL_law 569 = .ok (.iload_n 3, 1) := by decide +kernel
theorem dL_law_570 : decode cL_law 570 = .ok (.iconst 1, 1) := by decide +kernel
theorem dL_law_571 : decode cL_law 571 = .ok (.iadd, 1) := by decide +kernel
theorem dL_law_572 : decode cL_law 572 = .ok (.iaload, 1) := by decide +kernel
theorem dL_law_573 : decode cL_law 573 = .ok (.aload_n 0, 1) := by decide +kernel
theorem dL_law_574 : decode cL_law 574 = .ok (.iload_n 3, 1) := by decide +kernel
theorem dL_law_575 : decode cL_law 575 = .ok (.iconst 2, 1) := by decide +kernel
theorem dL_law_576 : decode cL_law 576 = .ok (.iadd, 1) := by decide +kernel
theorem dL_law_577 : decode cL_law 577 = .ok (.iaload, 1) := by decide +kernel
theorem dL_law_578 : decode cL_law 578 = .ok (.aload_n 0, 1) := by decide +kernel
theorem dL_law_579 : decode cL_law 579 = .ok (.iload_n 3, 1) := by decide +kernel
theorem dL_law_580 : decode cL_law 580 = .ok (.iconst 3, 1) := by decide +kernel
theorem dL_law_581 : decode cL_law 581 = .ok (.iadd, 1) := by decide +kernel
theorem dL_law_582 : decode cL_law 582 = .ok (.iaload, 1) := by decide +kernel
theorem dL_law_583 : decode cL_law 583 = .ok (.aload_n 0, 1) := by decide +kernel
theorem dL_law_584 : decode cL_law 584 = .ok (.iload_n 3, 1) := by decide +kernel
theorem dL_law_585 : decode cL_law 585 = .ok (.iconst 4, 1) := by decide +kernel
theorem dL_law_586 : decode cL_law 586 = .ok (.iadd, 1) := by decide +kernel
theorem dL_law_587 : decode cL_law 587 = .ok (.iaload, 1) := by decide +kernel
theorem dL_law_588 : decode cL_law 588 = .ok (.aload_n 0, 1) := by decide +kernel
theorem dL_law_589 : decode cL_law 589 = .ok (.iload_n 3, 1) := by decide +kernel
theorem dL_law_590 : decode cL_law 590 = .ok (.iconst 5, 1) := by decide +kernel
theorem dL_law_591 : decode cL_law 591 = .ok (.iadd, 1) := by decide +kernel
theorem dL_law_592 : decode cL_law 592 = .ok (.iaload, 1) := by decide +kernel
theorem dL_law_593 : decode cL_law 593 = .ok (.invokevirtual 53, 3) := by decide +kernel
theorem dL_law_596 : decode cL_law 596 = .ok (.if_icmp .eq 1318, 3) := by decide +kernel
theorem dL_law_599 : decode cL_law 599 = .ok (.iconst 0, 1) := by decide +kernel
theorem dL_law_600 : decode cL_law 600 = .ok (.ireturn, 1) := by decide +kernel
theorem dL_law_601 : decode cL_law 601 = .ok (.aload_n 1, 1) := by decide +kernel
theorem dL_law_602 : decode cL_law 602 = .ok (.aload_n 0, 1) := by decide +kernel
theorem dL_law_603 : decode cL_law 603 = .ok (.iload_n 3, 1) := by decide +kernel
theorem dL_law_604 : decode cL_law 604 = .ok (.iconst 1, 1) := by decide +kernel
theorem dL_law_605 : decode cL_law 605 = .ok (.iadd, 1) := by decide +kernel
theorem dL_law_606 : decode cL_law 606 = .ok (.iaload, 1) := by decide +kernel
theorem dL_law_607 : decode cL_law 607 = .ok (.invokevirtual 54, 3) := by decide +kernel
theorem dL_law_610 : decode cL_law 610 = .ok (.aload_n 2, 1) := by decide +kernel
theorem dL_law_611 : decode cL_law 611 = .ok (.aload_n 0, 1) := by decide +kernel
theorem dL_law_612 : decode cL_law 612 = .ok (.iload_n 3, 1) := by decide +kernel
theorem dL_law_613 : decode cL_law 613 = .ok (.iconst 1, 1) := by decide +kernel
theorem dL_law_614 : decode cL_law 614 = .ok (.iadd, 1) := by decide +kernel
theorem dL_law_615 : decode cL_law 615 = .ok (.iaload, 1) := by decide +kernel
theorem dL_law_616 : decode cL_law 616 = .ok (.invokevirtual 58, 3) := by decide +kernel
theorem dL_law_619 : decode cL_law 619 = .ok (.if_icmp .eq 1295, 3) := by decide +kernel
theorem dL_law_622 : decode cL_law 622 = .ok (.iconst 0, 1) := by decide +kernel
theorem dL_law_623 : decode cL_law 623 = .ok (.ireturn, 1) := by decide +kernel
theorem dL_law_624 : decode cL_law 624 = .ok (.aload_n 1, 1) := by decide +kernel
theorem dL_law_625 : decode cL_law 625 = .ok (.aload_n 0, 1) := by decide +kernel
theorem dL_law_626 : decode cL_law 626 = .ok (.iload_n 3, 1) := by decide +kernel
theorem dL_law_627 : decode cL_law 627 = .ok (.iconst 1, 1) := by decide +kernel
theorem dL_law_628 : decode cL_law 628 = .ok (.iadd, 1) := by decide +kernel
theorem dL_law_629 : decode cL_law 629 = .ok (.iaload, 1) := by decide +kernel
theorem dL_law_630 : decode cL_law 630 = .ok (.invokevirtual 59, 3) := by decide +kernel
theorem dL_law_633 : decode cL_law 633 = .ok (.aload_n 2, 1) := by decide +kernel
theorem dL_law_634 : decode cL_law 634 = .ok (.aload_n 0, 1) := by decide +kernel
theorem dL_law_635 : decode cL_law 635 = .ok (.iload_n 3, 1) := by decide +kernel
theorem dL_law_636 : decode cL_law 636 = .ok (.iconst 1, 1) := by decide +kernel
theorem dL_law_637 : decode cL_law 637 = .ok (.iadd, 1) := by decide +kernel
theorem dL_law_638 : decode cL_law 638 = .ok (.iaload, 1) := by decide +kernel
theorem dL_law_639 : decode cL_law 639 = .ok (.invokevirtual 62, 3) := by decide +kernel
theorem dL_law_642 : decode cL_law 642 = .ok (.if_icmp .eq 1272, 3) := by decide +kernel
theorem dL_law_645 : decode cL_law 645 = .ok (.iconst 0, 1) := by decide +kernel
theorem dL_law_646 : decode cL_law 646 = .ok (.ireturn, 1) := by decide +kernel
theorem dL_law_647 : decode cL_law 647 = .ok (.aload_n 1, 1) := by decide +kernel
theorem dL_law_648 : decode cL_law 648 = .ok (.aload_n 0, 1) := by decide +kernel
theorem dL_law_649 : decode cL_law 649 = .ok (.iload_n 3, 1) := by decide +kernel
theorem dL_law_650 : decode cL_law 650 = .ok (.iconst 1, 1) := by decide +kernel
theorem dL_law_651 : decode cL_law 651 = .ok (.iadd, 1) := by decide +kernel
theorem dL_law_652 : decode cL_law 652 = .ok (.iaload, 1) := by decide +kernel
theorem dL_law_653 : decode cL_law 653 = .ok (.invokevirtual 63, 3) := by decide +kernel
theorem dL_law_656 : decode cL_law 656 = .ok (.aload_n 2, 1) := by decide +kernel
theorem dL_law_657 : decode cL_law 657 = .ok (.aload_n 0, 1) := by decide +kernel
theorem dL_law_658 : decode cL_law 658 = .ok (.iload_n 3, 1) := by decide +kernel
theorem dL_law_659 : decode cL_law 659 = .ok (.iconst 1, 1) := by decide +kernel
theorem dL_law_660 : decode cL_law 660 = .ok (.iadd, 1) := by decide +kernel
theorem dL_law_661 : decode cL_law 661 = .ok (.iaload, 1) := by decide +kernel
theorem dL_law_662 : decode cL_law 662 = .ok (.invokevirtual 66, 3) := by decide +kernel
theorem dL_law_665 : decode cL_law 665 = .ok (.if_icmp .eq 1249, 3) := by decide +kernel
theorem dL_law_668 : decode cL_law 668 = .ok (.iconst 0, 1) := by decide +kernel
theorem dL_law_669 : decode cL_law 669 = .ok (.ireturn, 1) := by decide +kernel
theorem dL_law_670 : decode cL_law 670 = .ok (.aload_n 1, 1) := by decide +kernel
theorem dL_law_671 : decode cL_law 671 = .ok (.aload_n 0, 1) := by decide +kernel
theorem dL_law_672 : decode cL_law 672 = .ok (.iload_n 3, 1) := by decide +kernel
theorem dL_law_673 : decode cL_law 673 = .ok (.iconst 1, 1) := by decide +kernel
theorem dL_law_674 : decode cL_law 674 = .ok (.iadd, 1) := by decide +kernel
theorem dL_law_675 : decode cL_law 675 = .ok (.iaload, 1) := by decide +kernel
theorem dL_law_676 : decode cL_law 676 = .ok (.invokevirtual 67, 3) := by decide +kernel
theorem dL_law_679 : decode cL_law 679 = .ok (.aload_n 2, 1) := by decide +kernel
theorem dL_law_680 : decode cL_law 680 = .ok (.aload_n 0, 1) := by decide +kernel
theorem dL_law_681 : decode cL_law 681 = .ok (.iload_n 3, 1) := by decide +kernel
theorem dL_law_682 : decode cL_law 682 = .ok (.iconst 1, 1) := by decide +kernel
theorem dL_law_683 : decode cL_law 683 = .ok (.iadd, 1) := by decide +kernel
theorem dL_law_684 : decode cL_law 684 = .ok (.iaload, 1) := by decide +kernel
theorem dL_law_685 : decode cL_law 685 = .ok (.invokevirtual 70, 3) := by decide +kernel
theorem dL_law_688 : decode cL_law 688 = .ok (.if_icmp .eq 1226, 3) := by decide +kernel
theorem dL_law_691 : decode cL_law 691 = .ok (.iconst 0, 1) := by decide +kernel
theorem dL_law_692 : decode cL_law 692 = .ok (.ireturn, 1) := by decide +kernel
theorem dL_law_693 : decode cL_law 693 = .ok (.aload_n 1, 1) := by decide +kernel
theorem dL_law_694 : decode cL_law 694 = .ok (.aload_n 0, 1) := by decide +kernel
theorem dL_law_695 : decode cL_law 695 = .ok (.iload_n 3, 1) := by decide +kernel
theorem dL_law_696 : decode cL_law 696 = .ok (.iconst 1, 1) := by decide +kernel
theorem dL_law_697 : decode cL_law 697 = .ok (.iadd, 1) := by decide +kernel
theorem dL_law_698 : decode cL_law 698 = .ok (.iaload, 1) := by decide +kernel
theorem dL_law_699 : decode cL_law 699 = .ok (.aload_n 0, 1) := by decide +kernel
theorem dL_law_700 : decode cL_law 700 = .ok (.iload_n 3, 1) := by decide +kernel
theorem dL_law_701 : decode cL_law 701 = .ok (.iconst 2, 1) := by decide +kernel
theorem dL_law_702 : decode cL_law 702 = .ok (.iadd, 1) := by decide +kernel
theorem dL_law_703 : decode cL_law 703 = .ok (.iaload, 1) := by decide +kernel
theorem dL_law_704 : decode cL_law 704 = .ok (.invokevirtual 71, 3) := by decide +kernel
theorem dL_law_707 : decode cL_law 707 = .ok (.aload_n 2, 1) := by decide +kernel
theorem dL_law_708 : decode cL_law 708 = .ok (.aload_n 0, 1) := by decide +kernel
theorem dL_law_709 : decode cL_law 709 = .ok (.iload_n 3, 1) := by decide +kernel
theorem dL_law_710 : decode cL_law 710 = .ok (.iconst 1, 1) := by decide +kernel
theorem dL_law_711 : decode cL_law 711 = .ok (.iadd, 1) := by decide +kernel
theorem dL_law_712 : decode cL_law 712 = .ok (.iaload, 1) := by decide +kernel
theorem dL_law_713 : decode cL_law 713 = .ok (.aload_n 0, 1) := by decide +kernel
theorem dL_law_714 : decode cL_law 714 = .ok (.iload_n 3, 1) := by decide +kernel
theorem dL_law_715 : decode cL_law 715 = .ok (.iconst 2, 1) := by decide +kernel
theorem dL_law_716 : decode cL_law 716 = .ok (.iadd, 1) := by decide +kernel
theorem dL_law_717 : decode cL_law 717 = .ok (.iaload, 1) := by decide +kernel
theorem dL_law_718 : decode cL_law 718 = .ok (.invokevirtual 75, 3) := by decide +kernel
theorem dL_law_721 : decode cL_law 721 = .ok (.if_icmp .eq 1193, 3) := by decide +kernel
theorem dL_law_724 : decode cL_law 724 = .ok (.iconst 0, 1) := by decide +kernel
theorem dL_law_725 : decode cL_law 725 = .ok (.ireturn, 1) := by decide +kernel
theorem dL_law_726 : decode cL_law 726 = .ok (.aload_n 1, 1) := by decide +kernel
theorem dL_law_727 : decode cL_law 727 = .ok (.aload_n 0, 1) := by decide +kernel
theorem dL_law_728 : decode cL_law 728 = .ok (.iload_n 3, 1) := by decide +kernel
theorem dL_law_729 : decode cL_law 729 = .ok (.iconst 1, 1) := by decide +kernel
theorem dL_law_730 : decode cL_law 730 = .ok (.iadd, 1) := by decide +kernel
theorem dL_law_731 : decode cL_law 731 = .ok (.iaload, 1) := by decide +kernel
theorem dL_law_732 : decode cL_law 732 = .ok (.invokevirtual 76, 3) := by decide +kernel
theorem dL_law_735 : decode cL_law 735 = .ok (.aload_n 2, 1) := by decide +kernel
theorem dL_law_736 : decode cL_law 736 = .ok (.aload_n 0, 1) := by decide +kernel
theorem dL_law_737 : decode cL_law 737 = .ok (.iload_n 3, 1) := by decide +kernel
theorem dL_law_738 : decode cL_law 738 = .ok (.iconst 1, 1) := by decide +kernel
theorem dL_law_739 : decode cL_law 739 = .ok (.iadd, 1) := by decide +kernel
theorem dL_law_740 : decode cL_law 740 = .ok (.iaload, 1) := by decide +kernel
theorem dL_law_741 : decode cL_law 741 = .ok (.invokevirtual 79, 3) := by decide +kernel
theorem dL_law_744 : decode cL_law 744 = .ok (.if_icmp .eq 1170, 3) := by decide +kernel
theorem dL_law_747 : decode cL_law 747 = .ok (.iconst 0, 1) := by decide +kernel
theorem dL_law_748 : decode cL_law 748 = .ok (.ireturn, 1) := by decide +kernel
theorem dL_law_749 : decode cL_law 749 = .ok (.aload_n 1, 1) := by decide +kernel
theorem dL_law_750 : decode cL_law 750 = .ok (.aload_n 0, 1) := by decide +kernel
theorem dL_law_751 : decode cL_law 751 = .ok (.iload_n 3, 1) := by decide +kernel
theorem dL_law_752 : decode cL_law 752 = .ok (.iconst 1, 1) := by decide +kernel
theorem dL_law_753 : decode cL_law 753 = .ok (.iadd, 1) := by decide +kernel
theorem dL_law_754 : decode cL_law 754 = .ok (.iaload, 1) := by decide +kernel
theorem dL_law_755 : decode cL_law 755 = .ok (.aload_n 0, 1) := by decide +kernel
theorem dL_law_756 : decode cL_law 756 = .ok (.iload_n 3, 1) := by decide +kernel
theorem dL_law_757 : decode cL_law 757 = .ok (.iconst 2, 1) := by decide +kernel
theorem dL_law_758 : decode cL_law 758 = .ok (.iadd, 1) := by decide +kernel
theorem dL_law_759 : decode cL_law 759 = .ok (.iaload, 1) := by decide +kernel
theorem dL_law_760 : decode cL_law 760 = .ok (.invokevirtual 80, 3) := by decide +kernel
theorem dL_law_763 : decode cL_law 763 = .ok (.aload_n 2, 1) := by decide +kernel
theorem dL_law_764 : decode cL_law 764 = .ok (.aload_n 0, 1) := by decide +kernel
theorem dL_law_765 : decode cL_law 765 = .ok (.iload_n 3, 1) := by decide +kernel
theorem dL_law_766 : decode cL_law 766 = .ok (.iconst 1, 1) := by decide +kernel
theorem dL_law_767 : decode cL_law 767 = .ok (.iadd, 1) := by decide +kernel
theorem dL_law_768 : decode cL_law 768 = .ok (.iaload, 1) := by decide +kernel
theorem dL_law_769 : decode cL_law 769 = .ok (.aload_n 0, 1) := by decide +kernel
theorem dL_law_770 : decode cL_law 770 = .ok (.iload_n 3, 1) := by decide +kernel
theorem dL_law_771 : decode cL_law 771 = .ok (.iconst 2, 1) := by decide +kernel
theorem dL_law_772 : decode cL_law 772 = .ok (.iadd, 1) := by decide +kernel
theorem dL_law_773 : decode cL_law 773 = .ok (.iaload, 1) := by decide +kernel
theorem dL_law_774 : decode cL_law 774 = .ok (.invokevirtual 83, 3) := by decide +kernel
theorem dL_law_777 : decode cL_law 777 = .ok (.if_icmp .eq 1137, 3) := by decide +kernel
theorem dL_law_780 : decode cL_law 780 = .ok (.iconst 0, 1) := by decide +kernel
theorem dL_law_781 : decode cL_law 781 = .ok (.ireturn, 1) := by decide +kernel
theorem dL_law_782 : decode cL_law 782 = .ok (.aload_n 1, 1) := by decide +kernel
theorem dL_law_783 : decode cL_law 783 = .ok (.aload_n 0, 1) := by decide +kernel
theorem dL_law_784 : decode cL_law 784 = .ok (.iload_n 3, 1) := by decide +kernel
theorem dL_law_785 : decode cL_law 785 = .ok (.iconst 1, 1) := by decide +kernel
theorem dL_law_786 : decode cL_law 786 = .ok (.iadd, 1) := by decide +kernel
theorem dL_law_787 : decode cL_law 787 = .ok (.iaload, 1) := by decide +kernel
theorem dL_law_788 : decode cL_law 788 = .ok (.invokevirtual 84, 3) := by decide +kernel
theorem dL_law_791 : decode cL_law 791 = .ok (.aload_n 2, 1) := by decide +kernel
theorem dL_law_792 : decode cL_law 792 = .ok (.aload_n 0, 1) := by decide +kernel
theorem dL_law_793 : decode cL_law 793 = .ok (.iload_n 3, 1) := by decide +kernel
theorem dL_law_794 : decode cL_law 794 = .ok (.iconst 1, 1) := by decide +kernel
theorem dL_law_795 : decode cL_law 795 = .ok (.iadd, 1) := by decide +kernel
theorem dL_law_796 : decode cL_law 796 = .ok (.iaload, 1) := by decide +kernel
theorem dL_law_797 : decode cL_law 797 = .ok (.invokevirtual 87, 3) := by decide +kernel
theorem dL_law_800 : decode cL_law 800 = .ok (.if_icmp .eq 1114, 3) := by decide +kernel
theorem dL_law_803 : decode cL_law 803 = .ok (.iconst 0, 1) := by decide +kernel
theorem dL_law_804 : decode cL_law 804 = .ok (.ireturn, 1) := by decide +kernel
theorem dL_law_805 : decode cL_law 805 = .ok (.aload_n 1, 1) := by decide +kernel
theorem dL_law_806 : decode cL_law 806 = .ok (.aload_n 0, 1) := by decide +kernel
theorem dL_law_807 : decode cL_law 807 = .ok (.iload_n 3, 1) := by decide +kernel
theorem dL_law_808 : decode cL_law 808 = .ok (.iconst 1, 1) := by decide +kernel
theorem dL_law_809 : decode cL_law 809 = .ok (.iadd, 1) := by decide +kernel
theorem dL_law_810 : decode cL_law 810 = .ok (.iaload, 1) := by decide +kernel
theorem dL_law_811 : decode cL_law 811 = .ok (.invokevirtual 88, 3) := by decide +kernel
theorem dL_law_814 : decode cL_law 814 = .ok (.aload_n 2, 1) := by decide +kernel
theorem dL_law_815 : decode cL_law 815 = .ok (.aload_n 0, 1) := by decide +kernel
theorem dL_law_816 : decode cL_law 816 = .ok (.iload_n 3, 1) := by decide +kernel
theorem dL_law_817 : decode cL_law 817 = .ok (.iconst 1, 1) := by decide +kernel
theorem dL_law_818 : decode cL_law 818 = .ok (.iadd, 1) := by decide +kernel
theorem dL_law_819 : decode cL_law 819 = .ok (.iaload, 1) := by decide +kernel
theorem dL_law_820 : decode cL_law 820 = .ok (.invokevirtual 91, 3) := by decide +kernel
theorem dL_law_823 : decode cL_law 823 = .ok (.if_icmp .eq 1091, 3) := by decide +kernel
theorem dL_law_826 : decode cL_law 826 = .ok (.iconst 0, 1) := by decide +kernel
theorem dL_law_827 : decode cL_law 827 = .ok (.ireturn, 1) := by decide +kernel
theorem dL_law_828 : decode cL_law 828 = .ok (.aload_n 1, 1) := by decide +kernel
theorem dL_law_829 : decode cL_law 829 = .ok (.aload_n 0, 1) := by decide +kernel
theorem dL_law_830 : decode cL_law 830 = .ok (.iload_n 3, 1) := by decide +kernel
theorem dL_law_831 : decode cL_law 831 = .ok (.iconst 1, 1) := by decide +kernel
theorem dL_law_832 : decode cL_law 832 = .ok (.iadd, 1) := by decide +kernel
theorem dL_law_833 : decode cL_law 833 = .ok (.iaload, 1) := by decide +kernel
theorem dL_law_834 : decode cL_law 834 = .ok (.invokevirtual 92, 3) := by decide +kernel
theorem dL_law_837 : decode cL_law 837 = .ok (.aload_n 2, 1) := by decide +kernel
theorem dL_law_838 : decode cL_law 838 = .ok (.aload_n 0, 1) := by decide +kernel
theorem dL_law_839 : decode cL_law 839 = .ok (.iload_n 3, 1) := by decide +kernel
theorem dL_law_840 : decode cL_law 840 = .ok (.iconst 1, 1) := by decide +kernel
theorem dL_law_841 : decode cL_law 841 = .ok (.iadd, 1) := by decide +kernel
theorem dL_law_842 : decode cL_law 842 = .ok (.iaload, 1) := by decide +kernel
theorem dL_law_843 : decode cL_law 843 = .ok (.invokevirtual 95, 3) := by decide +kernel
theorem dL_law_846 : decode cL_law 846 = .ok (.if_icmp .eq 1068, 3) := by decide +kernel
theorem dL_law_849 : decode cL_law 849 = .ok (.iconst 0, 1) := by decide +kernel
theorem dL_law_850 : decode cL_law 850 = .ok (.ireturn, 1) := by decide +kernel
theorem dL_law_851 : decode cL_law 851 = .ok (.aload_n 1, 1) := by decide +kernel
theorem dL_law_852 : decode cL_law 852 = .ok (.aload_n 0, 1) := by decide +kernel
theorem dL_law_853 : decode cL_law 853 = .ok (.iload_n 3, 1) := by decide +kernel
theorem dL_law_854 : decode cL_law 854 = .ok (.iconst 1, 1) := by decide +kernel
theorem dL_law_855 : decode cL_law 855 = .ok (.iadd, 1) := by decide +kernel
theorem dL_law_856 : decode cL_law 856 = .ok (.iaload, 1) := by decide +kernel
theorem dL_law_857 : decode cL_law 857 = .ok (.aload_n 0, 1) := by decide +kernel
theorem dL_law_858 : decode cL_law 858 = .ok (.iload_n 3, 1) := by decide +kernel
theorem dL_law_859 : decode cL_law 859 = .ok (.iconst 2, 1) := by decide +kernel
theorem dL_law_860 : decode cL_law 860 = .ok (.iadd, 1) := by decide +kernel
theorem dL_law_861 : decode cL_law 861 = .ok (.iaload, 1) := by decide +kernel
theorem dL_law_862 : decode cL_law 862 = .ok (.invokevirtual 96, 3) := by decide +kernel
theorem dL_law_865 : decode cL_law 865 = .ok (.aload_n 2, 1) := by decide +kernel
theorem dL_law_866 : decode cL_law 866 = .ok (.aload_n 0, 1) := by decide +kernel
theorem dL_law_867 : decode cL_law 867 = .ok (.iload_n 3, 1) := by decide +kernel
theorem dL_law_868 : decode cL_law 868 = .ok (.iconst 1, 1) := by decide +kernel
theorem dL_law_869 : decode cL_law 869 = .ok (.iadd, 1) := by decide +kernel
theorem dL_law_870 : decode cL_law 870 = .ok (.iaload, 1) := by decide +kernel
theorem dL_law_871 : decode cL_law 871 = .ok (.aload_n 0, 1) := by decide +kernel
theorem dL_law_872 : decode cL_law 872 = .ok (.iload_n 3, 1) := by decide +kernel
theorem dL_law_873 : decode cL_law 873 = .ok (.iconst 2, 1) := by decide +kernel
theorem dL_law_874 : decode cL_law 874 = .ok (.iadd, 1) := by decide +kernel
theorem dL_law_875 : decode cL_law 875 = .ok (.iaload, 1) := by decide +kernel
theorem dL_law_876 : decode cL_law 876 = .ok (.invokevirtual 99, 3) := by decide +kernel
theorem dL_law_879 : decode cL_law 879 = .ok (.if_icmp .eq 1035, 3) := by decide +kernel
theorem dL_law_882 : decode cL_law 882 = .ok (.iconst 0, 1) := by decide +kernel
theorem dL_law_883 : decode cL_law 883 = .ok (.ireturn, 1) := by decide +kernel
theorem dL_law_884 : decode cL_law 884 = .ok (.aload_n 1, 1) := by decide +kernel
theorem dL_law_885 : decode cL_law 885 = .ok (.aload_n 0, 1) := by decide +kernel
theorem dL_law_886 : decode cL_law 886 = .ok (.iload_n 3, 1) := by decide +kernel
theorem dL_law_887 : decode cL_law 887 = .ok (.iconst 1, 1) := by decide +kernel
theorem dL_law_888 : decode cL_law 888 = .ok (.iadd, 1) := by decide +kernel
theorem dL_law_889 : decode cL_law 889 = .ok (.iaload, 1) := by decide +kernel
theorem dL_law_890 : decode cL_law 890 = .ok (.aload_n 0, 1) := by decide +kernel
theorem dL_law_891 : decode cL_law 891 = .ok (.iload_n 3, 1) := by decide +kernel
theorem dL_law_892 : decode cL_law 892 = .ok (.iconst 2, 1) := by decide +kernel
theorem dL_law_893 : decode cL_law 893 = .ok (.iadd, 1) := by decide +kernel
theorem dL_law_894 : decode cL_law 894 = .ok (.iaload, 1) := by decide +kernel
theorem dL_law_895 : decode cL_law 895 = .ok (.invokevirtual 100, 3) := by decide +kernel
theorem dL_law_898 : decode cL_law 898 = .ok (.aload_n 2, 1) := by decide +kernel
theorem dL_law_899 : decode cL_law 899 = .ok (.aload_n 0, 1) := by decide +kernel
theorem dL_law_900 : decode cL_law 900 = .ok (.iload_n 3, 1) := by decide +kernel
theorem dL_law_901 : decode cL_law 901 = .ok (.iconst 1, 1) := by decide +kernel
theorem dL_law_902 : decode cL_law 902 = .ok (.iadd, 1) := by decide +kernel
theorem dL_law_903 : decode cL_law 903 = .ok (.iaload, 1) := by decide +kernel
theorem dL_law_904 : decode cL_law 904 = .ok (.aload_n 0, 1) := by decide +kernel
theorem dL_law_905 : decode cL_law 905 = .ok (.iload_n 3, 1) := by decide +kernel
theorem dL_law_906 : decode cL_law 906 = .ok (.iconst 2, 1) := by decide +kernel
theorem dL_law_907 : decode cL_law 907 = .ok (.iadd, 1) := by decide +kernel
theorem dL_law_908 : decode cL_law 908 = .ok (.iaload, 1) := by decide +kernel
theorem dL_law_909 : decode cL_law 909 = .ok (.invokevirtual 103, 3) := by decide +kernel
theorem dL_law_912 : decode cL_law 912 = .ok (.if_icmp .eq 1002, 3) := by decide +kernel
theorem dL_law_915 : decode cL_law 915 = .ok (.iconst 0, 1) := by decide +kernel
theorem dL_law_916 : decode cL_law 916 = .ok (.ireturn, 1) := by decide +kernel
theorem dL_law_917 : decode cL_law 917 = .ok (.aload_n 1, 1) := by decide +kernel
theorem dL_law_918 : decode cL_law 918 = .ok (.aload_n 0, 1) := by decide +kernel
theorem dL_law_919 : decode cL_law 919 = .ok (.iload_n 3, 1) := by decide +kernel
theorem dL_law_920 : decode cL_law 920 = .ok (.iconst 1, 1) := by decide +kernel
theorem dL_law_921 : decode cL_law 921 = .ok (.iadd, 1) := by decide +kernel
theorem dL_law_922 : decode cL_law 922 = .ok (.iaload, 1) := by decide +kernel
theorem dL_law_923 : decode cL_law 923 = .ok (.aload_n 0, 1) := by decide +kernel
theorem dL_law_924 : decode cL_law 924 = .ok (.iload_n 3, 1) := by decide +kernel
theorem dL_law_925 : decode cL_law 925 = .ok (.iconst 2, 1) := by decide +kernel
theorem dL_law_926 : decode cL_law 926 = .ok (.iadd, 1) := by decide +kernel
theorem dL_law_927 : decode cL_law 927 = .ok (.iaload, 1) := by decide +kernel
theorem dL_law_928 : decode cL_law 928 = .ok (.invokevirtual 104, 3) := by decide +kernel
theorem dL_law_931 : decode cL_law 931 = .ok (.aload_n 2, 1) := by decide +kernel
theorem dL_law_932 : decode cL_law 932 = .ok (.aload_n 0, 1) := by decide +kernel
theorem dL_law_933 : decode cL_law 933 = .ok (.iload_n 3, 1) := by decide +kernel
theorem dL_law_934 : decode cL_law 934 = .ok (.iconst 1, 1) := by decide +kernel
theorem dL_law_935 : decode cL_law 935 = .ok (.iadd, 1) := by decide +kernel
theorem dL_law_936 : decode cL_law 936 = .ok (.iaload, 1) := by decide +kernel
theorem dL_law_937 : decode cL_law 937 = .ok (.aload_n 0, 1) := by decide +kernel
theorem dL_law_938 : decode cL_law 938 = .ok (.iload_n 3, 1) := by decide +kernel
theorem dL_law_939 : decode cL_law 939 = .ok (.iconst 2, 1) := by decide +kernel
theorem dL_law_940 : decode cL_law 940 = .ok (.iadd, 1) := by decide +kernel
theorem dL_law_941 : decode cL_law 941 = .ok (.iaload, 1) := by decide +kernel
theorem dL_law_942 : decode cL_law 942 = .ok (.invokevirtual 107, 3) := by decide +kernel
theorem dL_law_945 : decode cL_law 945 = .ok (.if_icmp .eq 969, 3) := by decide +kernel
theorem dL_law_948 : decode cL_law 948 = .ok (.iconst 0, 1) := by decide +kernel
theorem dL_law_949 : decode cL_law 949 = .ok (.ireturn, 1) := by decide +kernel
theorem dL_law_950 : decode cL_law 950 = .ok (.aload_n 1, 1) := by decide +kernel
theorem dL_law_951 : decode cL_law 951 = .ok (.aload_n 0, 1) := by decide +kernel
theorem dL_law_952 : decode cL_law 952 = .ok (.iload_n 3, 1) := by decide +kernel
theorem dL_law_953 : decode cL_law 953 = .ok (.iconst 1, 1) := by decide +kernel
theorem dL_law_954 : decode cL_law 954 = .ok (.iadd, 1) := by decide +kernel
theorem dL_law_955 : decode cL_law 955 = .ok (.iaload, 1) := by decide +kernel
theorem dL_law_956 : decode cL_law 956 = .ok (.aload_n 0, 1) := by decide +kernel
theorem dL_law_957 : decode cL_law 957 = .ok (.iload_n 3, 1) := by decide +kernel
theorem dL_law_958 : decode cL_law 958 = .ok (.iconst 2, 1) := by decide +kernel
theorem dL_law_959 : decode cL_law 959 = .ok (.iadd, 1) := by decide +kernel
theorem dL_law_960 : decode cL_law 960 = .ok (.iaload, 1) := by decide +kernel
theorem dL_law_961 : decode cL_law 961 = .ok (.invokevirtual 108, 3) := by decide +kernel
theorem dL_law_964 : decode cL_law 964 = .ok (.aload_n 2, 1) := by decide +kernel
theorem dL_law_965 : decode cL_law 965 = .ok (.aload_n 0, 1) := by decide +kernel
theorem dL_law_966 : decode cL_law 966 = .ok (.iload_n 3, 1) := by decide +kernel
theorem dL_law_967 : decode cL_law 967 = .ok (.iconst 1, 1) := by decide +kernel
theorem dL_law_968 : decode cL_law 968 = .ok (.iadd, 1) := by decide +kernel
theorem dL_law_969 : decode cL_law 969 = .ok (.iaload, 1) := by decide +kernel
theorem dL_law_970 : decode cL_law 970 = .ok (.aload_n 0, 1) := by decide +kernel
theorem dL_law_971 : decode cL_law 971 = .ok (.iload_n 3, 1) := by decide +kernel
theorem dL_law_972 : decode cL_law 972 = .ok (.iconst 2, 1) := by decide +kernel
theorem dL_law_973 : decode cL_law 973 = .ok (.iadd, 1) := by decide +kernel
theorem dL_law_974 : decode cL_law 974 = .ok (.iaload, 1) := by decide +kernel
theorem dL_law_975 : decode cL_law 975 = .ok (.invokevirtual 111, 3) := by decide +kernel
theorem dL_law_978 : decode cL_law 978 = .ok (.if_icmp .eq 936, 3) := by decide +kernel
theorem dL_law_981 : decode cL_law 981 = .ok (.iconst 0, 1) := by decide +kernel
theorem dL_law_982 : decode cL_law 982 = .ok (.ireturn, 1) := by decide +kernel
theorem dL_law_983 : decode cL_law 983 = .ok (.aload_n 1, 1) := by decide +kernel
theorem dL_law_984 : decode cL_law 984 = .ok (.aload_n 0, 1) := by decide +kernel
theorem dL_law_985 : decode cL_law 985 = .ok (.iload_n 3, 1) := by decide +kernel
theorem dL_law_986 : decode cL_law 986 = .ok (.iconst 1, 1) := by decide +kernel
theorem dL_law_987 : decode cL_law 987 = .ok (.iadd, 1) := by decide +kernel
theorem dL_law_988 : decode cL_law 988 = .ok (.iaload, 1) := by decide +kernel
theorem dL_law_989 : decode cL_law 989 = .ok (.aload_n 0, 1) := by decide +kernel
theorem dL_law_990 : decode cL_law 990 = .ok (.iload_n 3, 1) := by decide +kernel
theorem dL_law_991 : decode cL_law 991 = .ok (.iconst 2, 1) := by decide +kernel
theorem dL_law_992 : decode cL_law 992 = .ok (.iadd, 1) := by decide +kernel
theorem dL_law_993 : decode cL_law 993 = .ok (.iaload, 1) := by decide +kernel
theorem dL_law_994 : decode cL_law 994 = .ok (.invokevirtual 112, 3) := by decide +kernel
theorem dL_law_997 : decode cL_law 997 = .ok (.aload_n 2, 1) := by decide +kernel
theorem dL_law_998 : decode cL_law 998 = .ok (.aload_n 0, 1) := by decide +kernel
theorem dL_law_999 : decode cL_law 999 = .ok (.iload_n 3, 1) := by decide +kernel
theorem dL_law_1000 : decode cL_law 1000 = .ok (.iconst 1, 1) := by decide +kernel
theorem dL_law_1001 : decode cL_law 1001 = .ok (.iadd, 1) := by decide +kernel
theorem dL_law_1002 : decode cL_law 1002 = .ok (.iaload, 1) := by decide +kernel
theorem dL_law_1003 : decode cL_law 1003 = .ok (.aload_n 0, 1) := by decide +kernel
theorem dL_law_1004 : decode cL_law 1004 = .ok (.iload_n 3, 1) := by decide +kernel
theorem dL_law_1005 : decode cL_law 1005 = .ok (.iconst 2, 1) := by decide +kernel
theorem dL_law_1006 : decode cL_law 1006 = .ok (.iadd, 1) := by decide +kernel
theorem dL_law_1007 : decode cL_law 1007 = .ok (.iaload, 1) := by decide +kernel
theorem dL_law_1008 : decode cL_law 1008 = .ok (.invokevirtual 115, 3) := by decide +kernel
theorem dL_law_1011 : decode cL_law 1011 = .ok (.if_icmp .eq 903, 3) := by decide +kernel
theorem dL_law_1014 : decode cL_law 1014 = .ok (.iconst 0, 1) := by decide +kernel
theorem dL_law_1015 : decode cL_law 1015 = .ok (.ireturn, 1) := by decide +kernel
theorem dL_law_1016 : decode cL_law 1016 = .ok (.aload_n 1, 1) := by decide +kernel
theorem dL_law_1017 : decode cL_law 1017 = .ok (.aload_n 0, 1) := by decide +kernel
theorem dL_law_1018 : decode cL_law 1018 = .ok (.iload_n 3, 1) := by decide +kernel
theorem dL_law_1019 : decode cL_law 1019 = .ok (.iconst 1, 1) := by decide +kernel
theorem dL_law_1020 : decode cL_law 1020 = .ok (.iadd, 1) := by decide +kernel
theorem dL_law_1021 : decode cL_law 1021 = .ok (.iaload, 1) := by decide +kernel
theorem dL_law_1022 : decode cL_law 1022 = .ok (.invokevirtual 116, 3) := by decide +kernel
theorem dL_law_1025 : decode cL_law 1025 = .ok (.aload_n 2, 1) := by decide +kernel
theorem dL_law_1026 : decode cL_law 1026 = .ok (.aload_n 0, 1) := by decide +kernel
theorem dL_law_1027 : decode cL_law 1027 = .ok (.iload_n 3, 1) := by decide +kernel
theorem dL_law_1028 : decode cL_law 1028 = .ok (.iconst 1, 1) := by decide +kernel
theorem dL_law_1029 : decode cL_law 1029 = .ok (.iadd, 1) := by decide +kernel
theorem dL_law_1030 : decode cL_law 1030 = .ok (.iaload, 1) := by decide +kernel
theorem dL_law_1031 : decode cL_law 1031 = .ok (.invokevirtual 119, 3) := by decide +kernel
theorem dL_law_1034 : decode cL_law 1034 = .ok (.if_icmp .eq 880, 3) := by decide +kernel
theorem dL_law_1037 : decode cL_law 1037 = .ok (.iconst 0, 1) := by decide +kernel
theorem dL_law_1038 : decode cL_law 1038 = .ok (.ireturn, 1) := by decide +kernel
theorem dL_law_1039 : decode cL_law 1039 = .ok (.aload_n 1, 1) := by decide +kernel
theorem dL_law_1040 : decode cL_law 1040 = .ok (.aload_n 0, 1) := by decide +kernel
theorem dL_law_1041 : decode cL_law 1041 = .ok (.iload_n 3, 1) := by decide +kernel
theorem dL_law_1042 : decode cL_law 1042 = .ok (.iconst 1, 1) := by decide +kernel
theorem dL_law_1043 : decode cL_law 1043 = .ok (.iadd, 1) := by decide +kernel
theorem dL_law_1044 : decode cL_law 1044 = .ok (.iaload, 1) := by decide +kernel
theorem dL_law_1045 : decode cL_law 1045 = .ok (.aload_n 0, 1) := by decide +kernel
theorem dL_law_1046 : decode cL_law 1046 = .ok (.iload_n 3, 1) := by decide +kernel
theorem dL_law_1047 : decode cL_law 1047 = .ok (.iconst 2, 1) := by decide +kernel
theorem dL_law_1048 : decode cL_law 1048 = .ok (.iadd, 1) := by decide +kernel
theorem dL_law_1049 : decode cL_law 1049 = .ok (.iaload, 1) := by decide +kernel
theorem dL_law_1050 : decode cL_law 1050 = .ok (.aload_n 0, 1) := by decide +kernel
theorem dL_law_1051 : decode cL_law 1051 = .ok (.iload_n 3, 1) := by decide +kernel
theorem dL_law_1052 : decode cL_law 1052 = .ok (.iconst 3, 1) := by decide +kernel
theorem dL_law_1053 : decode cL_law 1053 = .ok (.iadd, 1) := by decide +kernel
theorem dL_law_1054 : decode cL_law 1054 = .ok (.iaload, 1) := by decide +kernel
theorem dL_law_1055 : decode cL_law 1055 = .ok (.invokevirtual 120, 3) := by decide +kernel
theorem dL_law_1058 : decode cL_law 1058 = .ok (.aload_n 2, 1) := by decide +kernel
theorem dL_law_1059 : decode cL_law 1059 = .ok (.aload_n 0, 1) := by decide +kernel
theorem dL_law_1060 : decode cL_law 1060 = .ok (.iload_n 3, 1) := by decide +kernel
theorem dL_law_1061 : decode cL_law 1061 = .ok (.iconst 1, 1) := by decide +kernel
theorem dL_law_1062 : decode cL_law 1062 = .ok (.iadd, 1) := by decide +kernel
theorem dL_law_1063 : decode cL_law 1063 = .ok (.iaload, 1) := by decide +kernel
theorem dL_law_1064 : decode cL_law 1064 = .ok (.aload_n 0, 1) := by decide +kernel
theorem dL_law_1065 : decode cL_law 1065 = .ok (.iload_n 3, 1) := by decide +kernel
theorem dL_law_1066 : decode cL_law 1066 = .ok (.iconst 2, 1) := by decide +kernel
theorem dL_law_1067 : decode cL_law 1067 = .ok (.iadd, 1) := by decide +kernel
theorem dL_law_1068 : decode cL_law 1068 = .ok (.iaload, 1) := by decide +kernel
theorem dL_law_1069 : decode cL_law 1069 = .ok (.aload_n 0, 1) := by decide +kernel
theorem dL_law_1070 : decode cL_law 1070 = .ok (.iload_n 3, 1) := by decide +kernel
theorem dL_law_1071 : decode cL_law 1071 = .ok (.iconst 3, 1) := by decide +kernel
theorem dL_law_1072 : decode cL_law 1072 = .ok (.iadd, 1) := by decide +kernel
theorem dL_law_1073 : decode cL_law 1073 = .ok (.iaload, 1) := by decide +kernel
theorem dL_law_1074 : decode cL_law 1074 = .ok (.invokevirtual 124, 3) := by decide +kernel
theorem dL_law_1077 : decode cL_law 1077 = .ok (.if_icmp .eq 837, 3) := by decide +kernel
theorem dL_law_1080 : decode cL_law 1080 = .ok (.iconst 0, 1) := by decide +kernel
theorem dL_law_1081 : decode cL_law 1081 = .ok (.ireturn, 1) := by decide +kernel
theorem dL_law_1082 : decode cL_law 1082 = .ok (.aload_n 1, 1) := by decide +kernel
theorem dL_law_1083 : decode cL_law 1083 = .ok (.aload_n 0, 1) := by decide +kernel
theorem dL_law_1084 : decode cL_law 1084 = .ok (.iload_n 3, 1) := by decide +kernel
theorem dL_law_1085 : decode cL_law 1085 = .ok (.iconst 1, 1) := by decide +kernel
theorem dL_law_1086 : decode cL_law 1086 = .ok (.iadd, 1) := by decide +kernel
theorem dL_law_1087 : decode cL_law 1087 = .ok (.iaload, 1) := by decide +kernel
theorem dL_law_1088 : decode cL_law 1088 = .ok (.aload_n 0, 1) := by decide +kernel
theorem dL_law_1089 : decode cL_law 1089 = .ok (.iload_n 3, 1) := by decide +kernel
theorem dL_law_1090 : decode cL_law 1090 = .ok (.iconst 2, 1) := by decide +kernel
theorem dL_law_1091 : decode cL_law 1091 = .ok (.iadd, 1) := by decide +kernel
theorem dL_law_1092 : decode cL_law 1092 = .ok (.iaload, 1) := by decide +kernel
theorem dL_law_1093 : decode cL_law 1093 = .ok (.invokevirtual 125, 3) := by decide +kernel
theorem dL_law_1096 : decode cL_law 1096 = .ok (.aload_n 2, 1) := by decide +kernel
theorem dL_law_1097 : decode cL_law 1097 = .ok (.aload_n 0, 1) := by decide +kernel
theorem dL_law_1098 : decode cL_law 1098 = .ok (.iload_n 3, 1) := by decide +kernel
theorem dL_law_1099 : decode cL_law 1099 = .ok (.iconst 1, 1) := by decide +kernel
theorem dL_law_1100 : decode cL_law 1100 = .ok (.iadd, 1) := by decide +kernel
theorem dL_law_1101 : decode cL_law 1101 = .ok (.iaload, 1) := by decide +kernel
theorem dL_law_1102 : decode cL_law 1102 = .ok (.aload_n 0, 1) := by decide +kernel
theorem dL_law_1103 : decode cL_law 1103 = .ok (.iload_n 3, 1) := by decide +kernel
theorem dL_law_1104 : decode cL_law 1104 = .ok (.iconst 2, 1) := by decide +kernel
theorem dL_law_1105 : decode cL_law 1105 = .ok (.iadd, 1) := by decide +kernel
theorem dL_law_1106 : decode cL_law 1106 = .ok (.iaload, 1) := by decide +kernel
theorem dL_law_1107 : decode cL_law 1107 = .ok (.invokevirtual 128, 3) := by decide +kernel
theorem dL_law_1110 : decode cL_law 1110 = .ok (.if_icmp .eq 804, 3) := by decide +kernel
theorem dL_law_1113 : decode cL_law 1113 = .ok (.iconst 0, 1) := by decide +kernel
theorem dL_law_1114 : decode cL_law 1114 = .ok (.ireturn, 1) := by decide +kernel
theorem dL_law_1115 : decode cL_law 1115 = .ok (.aload_n 1, 1) := by decide +kernel
theorem dL_law_1116 : decode cL_law 1116 = .ok (.aload_n 0, 1) := by decide +kernel
theorem dL_law_1117 : decode cL_law 1117 = .ok (.iload_n 3, 1) := by decide +kernel
theorem dL_law_1118 : decode cL_law 1118 = .ok (.iconst 1, 1) := by decide +kernel
theorem dL_law_1119 : decode cL_law 1119 = .ok (.iadd, 1) := by decide +kernel
theorem dL_law_1120 : decode cL_law 1120 = .ok (.iaload, 1) := by decide +kernel
theorem dL_law_1121 : decode cL_law 1121 = .ok (.aload_n 0, 1) := by decide +kernel
theorem dL_law_1122 : decode cL_law 1122 = .ok (.iload_n 3, 1) := by decide +kernel
theorem dL_law_1123 : decode cL_law 1123 = .ok (.iconst 2, 1) := by decide +kernel
theorem dL_law_1124 : decode cL_law 1124 = .ok (.iadd, 1) := by decide +kernel
theorem dL_law_1125 : decode cL_law 1125 = .ok (.iaload, 1) := by decide +kernel
theorem dL_law_1126 : decode cL_law 1126 = .ok (.invokevirtual 129, 3) := by decide +kernel
theorem dL_law_1129 : decode cL_law 1129 = .ok (.aload_n 2, 1) := by decide +kernel
theorem dL_law_1130 : decode cL_law 1130 = .ok (.aload_n 0, 1) := by decide +kernel
theorem dL_law_1131 : decode cL_law 1131 = .ok (.iload_n 3, 1) := by decide +kernel
theorem dL_law_1132 : decode cL_law 1132 = .ok (.iconst 1, 1) := by decide +kernel
theorem dL_law_1133 : decode cL_law 1133 = .ok (.iadd, 1) := by decide +kernel
theorem dL_law_1134 : decode cL_law 1134 = .ok (.iaload, 1) := by decide +kernel
theorem dL_law_1135 : decode cL_law 1135 = .ok (.aload_n 0, 1) := by decide +kernel
theorem dL_law_1136 : decode cL_law 1136 = .ok (.iload_n 3, 1) := by decide +kernel
theorem dL_law_1137 : decode cL_law 1137 = .ok (.iconst 2, 1) := by decide +kernel
theorem dL_law_1138 : decode cL_law 1138 = .ok (.iadd, 1) := by decide +kernel
theorem dL_law_1139 : decode cL_law 1139 = .ok (.iaload, 1) := by decide +kernel
theorem dL_law_1140 : decode cL_law 1140 = .ok (.invokevirtual 132, 3) := by decide +kernel
theorem dL_law_1143 : decode cL_law 1143 = .ok (.if_icmp .eq 771, 3) := by decide +kernel
theorem dL_law_1146 : decode cL_law 1146 = .ok (.iconst 0, 1) := by decide +kernel
theorem dL_law_1147 : decode cL_law 1147 = .ok (.ireturn, 1) := by decide +kernel
theorem dL_law_1148 : decode cL_law 1148 = .ok (.aload_n 1, 1) := by decide +kernel
theorem dL_law_1149 : decode cL_law 1149 = .ok (.aload_n 0, 1) := by decide +kernel
theorem dL_law_1150 : decode cL_law 1150 = .ok (.iload_n 3, 1) := by decide +kernel
theorem dL_law_1151 : decode cL_law 1151 = .ok (.iconst 1, 1) := by decide +kernel
theorem dL_law_1152 : decode cL_law 1152 = .ok (.iadd, 1) := by decide +kernel
theorem dL_law_1153 : decode cL_law 1153 = .ok (.iaload, 1) := by decide +kernel
theorem dL_law_1154 : decode cL_law 1154 = .ok (.aload_n 0, 1) := by decide +kernel
theorem dL_law_1155 : decode cL_law 1155 = .ok (.iload_n 3, 1) := by decide +kernel
theorem dL_law_1156 : decode cL_law 1156 = .ok (.iconst 2, 1) := by decide +kernel
theorem dL_law_1157 : decode cL_law 1157 = .ok (.iadd, 1) := by decide +kernel
theorem dL_law_1158 : decode cL_law 1158 = .ok (.iaload, 1) := by decide +kernel
theorem dL_law_1159 : decode cL_law 1159 = .ok (.invokevirtual 133, 3) := by decide +kernel
theorem dL_law_1162 : decode cL_law 1162 = .ok (.aload_n 2, 1) := by decide +kernel
theorem dL_law_1163 : decode cL_law 1163 = .ok (.aload_n 0, 1) := by decide +kernel
theorem dL_law_1164 : decode cL_law 1164 = .ok (.iload_n 3, 1) := by decide +kernel
theorem dL_law_1165 : decode cL_law 1165 = .ok (.iconst 1, 1) := by decide +kernel
theorem dL_law_1166 : decode cL_law 1166 = .ok (.iadd, 1) := by decide +kernel
theorem dL_law_1167 : decode cL_law 1167 = .ok (.iaload, 1) := by decide +kernel
theorem dL_law_1168 : decode cL_law 1168 = .ok (.aload_n 0, 1) := by decide +kernel
theorem dL_law_1169 : decode cL_law 1169 = .ok (.iload_n 3, 1) := by decide +kernel
theorem dL_law_1170 : decode cL_law 1170 = .ok (.iconst 2, 1) := by decide +kernel
theorem dL_law_1171 : decode cL_law 1171 = .ok (.iadd, 1) := by decide +kernel
theorem dL_law_1172 : decode cL_law 1172 = .ok (.iaload, 1) := by decide +kernel
theorem dL_law_1173 : decode cL_law 1173 = .ok (.invokevirtual 136, 3) := by decide +kernel
theorem dL_law_1176 : decode cL_law 1176 = .ok (.if_icmp .eq 738, 3) := by decide +kernel
theorem dL_law_1179 : decode cL_law 1179 = .ok (.iconst 0, 1) := by decide +kernel
theorem dL_law_1180 : decode cL_law 1180 = .ok (.ireturn, 1) := by decide +kernel
theorem dL_law_1181 : decode cL_law 1181 = .ok (.aload_n 1, 1) := by decide +kernel
theorem dL_law_1182 : decode cL_law 1182 = .ok (.aload_n 0, 1) := by decide +kernel
theorem dL_law_1183 : decode cL_law 1183 = .ok (.iload_n 3, 1) := by decide +kernel
theorem dL_law_1184 : decode cL_law 1184 = .ok (.iconst 1, 1) := by decide +kernel
theorem dL_law_1185 : decode cL_law 1185 = .ok (.iadd, 1) := by decide +kernel
theorem dL_law_1186 : decode cL_law 1186 = .ok (.iaload, 1) := by decide +kernel
theorem dL_law_1187 : decode cL_law 1187 = .ok (.invokevirtual 137, 3) := by decide +kernel
theorem dL_law_1190 : decode cL_law 1190 = .ok (.aload_n 2, 1) := by decide +kernel
theorem dL_law_1191 : decode cL_law 1191 = .ok (.aload_n 0, 1) := by decide +kernel
theorem dL_law_1192 : decode cL_law 1192 = .ok (.iload_n 3, 1) := by decide +kernel
theorem dL_law_1193 : decode cL_law 1193 = .ok (.iconst 1, 1) := by decide +kernel
theorem dL_law_1194 : decode cL_law 1194 = .ok (.iadd, 1) := by decide +kernel
theorem dL_law_1195 : decode cL_law 1195 = .ok (.iaload, 1) := by decide +kernel
theorem dL_law_1196 : decode cL_law 1196 = .ok (.invokevirtual 140, 3) := by decide +kernel
theorem dL_law_1199 : decode cL_law 1199 = .ok (.if_icmp .eq 715, 3) := by decide +kernel
theorem dL_law_1202 : decode cL_law 1202 = .ok (.iconst 0, 1) := by decide +kernel
theorem dL_law_1203 : decode cL_law 1203 = .ok (.ireturn, 1) := by decide +kernel
theorem dL_law_1204 : decode cL_law 1204 = .ok (.aload_n 1, 1) := by decide +kernel
theorem dL_law_1205 : decode cL_law 1205 = .ok (.aload_n 0, 1) := by decide +kernel
theorem dL_law_1206 : decode cL_law 1206 = .ok (.iload_n 3, 1) := by decide +kernel
theorem dL_law_1207 : decode cL_law 1207 = .ok (.iconst 1, 1) := by decide +kernel
theorem dL_law_1208 : decode cL_law 1208 = .ok (.iadd, 1) := by decide +kernel
theorem dL_law_1209 : decode cL_law 1209 = .ok (.iaload, 1) := by decide +kernel
theorem dL_law_1210 : decode cL_law 1210 = .ok (.invokevirtual 141, 3) := by decide +kernel
theorem dL_law_1213 : decode cL_law 1213 = .ok (.aload_n 2, 1) := by decide +kernel
theorem dL_law_1214 : decode cL_law 1214 = .ok (.aload_n 0, 1) := by decide +kernel
theorem dL_law_1215 : decode cL_law 1215 = .ok (.iload_n 3, 1) := by decide +kernel
theorem dL_law_1216 : decode cL_law 1216 = .ok (.iconst 1, 1) := by decide +kernel
theorem dL_law_1217 : decode cL_law 1217 = .ok (.iadd, 1) := by decide +kernel
theorem dL_law_1218 : decode cL_law 1218 = .ok (.iaload, 1) := by decide +kernel
theorem dL_law_1219 : decode cL_law 1219 = .ok (.invokevirtual 144, 3) := by decide +kernel
theorem dL_law_1222 : decode cL_law 1222 = .ok (.if_icmp .eq 692, 3) := by decide +kernel
theorem dL_law_1225 : decode cL_law 1225 = .ok (.iconst 0, 1) := by decide +kernel
theorem dL_law_1226 : decode cL_law 1226 = .ok (.ireturn, 1) := by decide +kernel
theorem dL_law_1227 : decode cL_law 1227 = .ok (.aload_n 1, 1) := by decide +kernel
theorem dL_law_1228 : decode cL_law 1228 = .ok (.aload_n 0, 1) := by decide +kernel
theorem dL_law_1229 : decode cL_law 1229 = .ok (.iload_n 3, 1) := by decide +kernel
theorem dL_law_1230 : decode cL_law 1230 = .ok (.iconst 1, 1) := by decide +kernel
theorem dL_law_1231 : decode cL_law 1231 = .ok (.iadd, 1) := by decide +kernel
theorem dL_law_1232 : decode cL_law 1232 = .ok (.iaload, 1) := by decide +kernel
theorem dL_law_1233 : decode cL_law 1233 = .ok (.aload_n 0, 1) := by decide +kernel
theorem dL_law_1234 : decode cL_law 1234 = .ok (.iload_n 3, 1) := by decide +kernel
theorem dL_law_1235 : decode cL_law 1235 = .ok (.iconst 2, 1) := by decide +kernel
theorem dL_law_1236 : decode cL_law 1236 = .ok (.iadd, 1) := by decide +kernel
theorem dL_law_1237 : decode cL_law 1237 = .ok (.iaload, 1) := by decide +kernel
theorem dL_law_1238 : decode cL_law 1238 = .ok (.invokevirtual 145, 3) := by decide +kernel
theorem dL_law_1241 : decode cL_law 1241 = .ok (.aload_n 2, 1) := by decide +kernel
theorem dL_law_1242 : decode cL_law 1242 = .ok (.aload_n 0, 1) := by decide +kernel
theorem dL_law_1243 : decode cL_law 1243 = .ok (.iload_n 3, 1) := by decide +kernel
theorem dL_law_1244 : decode cL_law 1244 = .ok (.iconst 1, 1) := by decide +kernel
theorem dL_law_1245 : decode cL_law 1245 = .ok (.iadd, 1) := by decide +kernel
theorem dL_law_1246 : decode cL_law 1246 = .ok (.iaload, 1) := by decide +kernel
theorem dL_law_1247 : decode cL_law 1247 = .ok (.aload_n 0, 1) := by decide +kernel
theorem dL_law_1248 : decode cL_law 1248 = .ok (.iload_n 3, 1) := by decide +kernel
theorem dL_law_1249 : decode cL_law 1249 = .ok (.iconst 2, 1) := by decide +kernel
theorem dL_law_1250 : decode cL_law 1250 = .ok (.iadd, 1) := by decide +kernel
theorem dL_law_1251 : decode cL_law 1251 = .ok (.iaload, 1) := by decide +kernel
theorem dL_law_1252 : decode cL_law 1252 = .ok (.invokevirtual 148, 3) := by decide +kernel
theorem dL_law_1255 : decode cL_law 1255 = .ok (.if_icmp .eq 659, 3) := by decide +kernel
theorem dL_law_1258 : decode cL_law 1258 = .ok (.iconst 0, 1) := by decide +kernel
theorem dL_law_1259 : decode cL_law 1259 = .ok (.ireturn, 1) := by decide +kernel
theorem dL_law_1260 : decode cL_law 1260 = .ok (.aload_n 1, 1) := by decide +kernel
theorem dL_law_1261 : decode cL_law 1261 = .ok (.aload_n 0, 1) := by decide +kernel
theorem dL_law_1262 : decode cL_law 1262 = .ok (.iload_n 3, 1) := by decide +kernel
theorem dL_law_1263 : decode cL_law 1263 = .ok (.iconst 1, 1) := by decide +kernel
theorem dL_law_1264 : decode cL_law 1264 = .ok (.iadd, 1) := by decide +kernel
theorem dL_law_1265 : decode cL_law 1265 = .ok (.iaload, 1) := by decide +kernel
theorem dL_law_1266 : decode cL_law 1266 = .ok (.invokevirtual 149, 3) := by decide +kernel
theorem dL_law_1269 : decode cL_law 1269 = .ok (.aload_n 2, 1) := by decide +kernel
theorem dL_law_1270 : decode cL_law 1270 = .ok (.aload_n 0, 1) := by decide +kernel
theorem dL_law_1271 : decode cL_law 1271 = .ok (.iload_n 3, 1) := by decide +kernel
theorem dL_law_1272 : decode cL_law 1272 = .ok (.iconst 1, 1) := by decide +kernel
theorem dL_law_1273 : decode cL_law 1273 = .ok (.iadd, 1) := by decide +kernel
theorem dL_law_1274 : decode cL_law 1274 = .ok (.iaload, 1) := by decide +kernel
theorem dL_law_1275 : decode cL_law 1275 = .ok (.invokevirtual 152, 3) := by decide +kernel
theorem dL_law_1278 : decode cL_law 1278 = .ok (.if_icmp .eq 636, 3) := by decide +kernel
theorem dL_law_1281 : decode cL_law 1281 = .ok (.iconst 0, 1) := by decide +kernel
theorem dL_law_1282 : decode cL_law 1282 = .ok (.ireturn, 1) := by decide +kernel
theorem dL_law_1283 : decode cL_law 1283 = .ok (.aload_n 1, 1) := by decide +kernel
theorem dL_law_1284 : decode cL_law 1284 = .ok (.aload_n 0, 1) := by decide +kernel
theorem dL_law_1285 : decode cL_law 1285 = .ok (.iload_n 3, 1) := by decide +kernel
theorem dL_law_1286 : decode cL_law 1286 = .ok (.iconst 1, 1) := by decide +kernel
theorem dL_law_1287 : decode cL_law 1287 = .ok (.iadd, 1) := by decide +kernel
theorem dL_law_1288 : decode cL_law 1288 = .ok (.iaload, 1) := by decide +kernel
theorem dL_law_1289 : decode cL_law 1289 = .ok (.aload_n 0, 1) := by decide +kernel
theorem dL_law_1290 : decode cL_law 1290 = .ok (.iload_n 3, 1) := by decide +kernel
theorem dL_law_1291 : decode cL_law 1291 = .ok (.iconst 2, 1) := by decide +kernel
theorem dL_law_1292 : decode cL_law 1292 = .ok (.iadd, 1) := by decide +kernel
theorem dL_law_1293 : decode cL_law 1293 = .ok (.iaload, 1) := by decide +kernel
theorem dL_law_1294 : decode cL_law 1294 = .ok (.invokevirtual 153, 3) := by decide +kernel
theorem dL_law_1297 : decode cL_law 1297 = .ok (.aload_n 2, 1) := by decide +kernel
theorem dL_law_1298 : decode cL_law 1298 = .ok (.aload_n 0, 1) := by decide +kernel
theorem dL_law_1299 : decode cL_law 1299 = .ok (.iload_n 3, 1) := by decide +kernel
theorem dL_law_1300 : decode cL_law 1300 = .ok (.iconst 1, 1) := by decide +kernel
theorem dL_law_1301 : decode cL_law 1301 = .ok (.iadd, 1) := by decide +kernel
theorem dL_law_1302 : decode cL_law 1302 = .ok (.iaload, 1) := by decide +kernel
theorem dL_law_1303 : decode cL_law 1303 = .ok (.aload_n 0, 1) := by decide +kernel
theorem dL_law_1304 : decode cL_law 1304 = .ok (.iload_n 3, 1) := by decide +kernel
theorem dL_law_1305 : decode cL_law 1305 = .ok (.iconst 2, 1) := by decide +kernel
theorem dL_law_1306 : decode cL_law 1306 = .ok (.iadd, 1) := by decide +kernel
theorem dL_law_1307 : decode cL_law 1307 = .ok (.iaload, 1) := by decide +kernel
theorem dL_law_1308 : decode cL_law 1308 = .ok (.invokevirtual 156, 3) := by decide +kernel
theorem dL_law_1311 : decode cL_law 1311 = .ok (.if_icmp .eq 603, 3) := by decide +kernel
theorem dL_law_1314 : decode cL_law 1314 = .ok (.iconst 0, 1) := by decide +kernel
theorem dL_law_1315 : decode cL_law 1315 = .ok (.ireturn, 1) := by decide +kernel
theorem dL_law_1316 : decode cL_law 1316 = .ok (.aload_n 1, 1) := by decide +kernel
theorem dL_law_1317 : decode cL_law 1317 = .ok (.aload_n 0, 1) := by decide +kernel
theorem dL_law_1318 : decode cL_law 1318 = .ok (.iload_n 3, 1) := by decide +kernel
theorem dL_law_1319 : decode cL_law 1319 = .ok (.iconst 1, 1) := by decide +kernel
theorem dL_law_1320 : decode cL_law 1320 = .ok (.iadd, 1) := by decide +kernel
theorem dL_law_1321 : decode cL_law 1321 = .ok (.iaload, 1) := by decide +kernel
theorem dL_law_1322 : decode cL_law 1322 = .ok (.aload_n 0, 1) := by decide +kernel
theorem dL_law_1323 : decode cL_law 1323 = .ok (.iload_n 3, 1) := by decide +kernel
theorem dL_law_1324 : decode cL_law 1324 = .ok (.iconst 2, 1) := by decide +kernel
theorem dL_law_1325 : decode cL_law 1325 = .ok (.iadd, 1) := by decide +kernel
theorem dL_law_1326 : decode cL_law 1326 = .ok (.iaload, 1) := by decide +kernel
theorem dL_law_1327 : decode cL_law 1327 = .ok (.invokevirtual 157, 3) := by decide +kernel
theorem dL_law_1330 : decode cL_law 1330 = .ok (.aload_n 2, 1) := by decide +kernel
theorem dL_law_1331 : decode cL_law 1331 = .ok (.aload_n 0, 1) := by decide +kernel
theorem dL_law_1332 : decode cL_law 1332 = .ok (.iload_n 3, 1) := by decide +kernel
theorem dL_law_1333 : decode cL_law 1333 = .ok (.iconst 1, 1) := by decide +kernel
theorem dL_law_1334 : decode cL_law 1334 = .ok (.iadd, 1) := by decide +kernel
theorem dL_law_1335 : decode cL_law 1335 = .ok (.iaload, 1) := by decide +kernel
theorem dL_law_1336 : decode cL_law 1336 = .ok (.aload_n 0, 1) := by decide +kernel
theorem dL_law_1337 : decode cL_law 1337 = .ok (.iload_n 3, 1) := by decide +kernel
theorem dL_law_1338 : decode cL_law 1338 = .ok (.iconst 2, 1) := by decide +kernel
theorem dL_law_1339 : decode cL_law 1339 = .ok (.iadd, 1) := by decide +kernel
theorem dL_law_1340 : decode cL_law 1340 = .ok (.iaload, 1) := by decide +kernel
theorem dL_law_1341 : decode cL_law 1341 = .ok (.invokevirtual 160, 3) := by decide +kernel
theorem dL_law_1344 : decode cL_law 1344 = .ok (.if_icmp .eq 570, 3) := by decide +kernel
theorem dL_law_1347 : decode cL_law 1347 = .ok (.iconst 0, 1) := by decide +kernel
theorem dL_law_1348 : decode cL_law 1348 = .ok (.ireturn, 1) := by decide +kernel
theorem dL_law_1349 : decode cL_law 1349 = .ok (.aload_n 1, 1) := by decide +kernel
theorem dL_law_1350 : decode cL_law 1350 = .ok (.invokevirtual 161, 3) := by decide +kernel
theorem dL_law_1353 : decode cL_law 1353 = .ok (.aload_n 2, 1) := by decide +kernel
theorem dL_law_1354 : decode cL_law 1354 = .ok (.invokevirtual 164, 3) := by decide +kernel
theorem dL_law_1357 : decode cL_law 1357 = .ok (.if_icmp .eq 557, 3) := by decide +kernel
theorem dL_law_1360 : decode cL_law 1360 = .ok (.iconst 0, 1) := by decide +kernel
theorem dL_law_1361 : decode cL_law 1361 = .ok (.ireturn, 1) := by decide +kernel
theorem dL_law_1362 : decode cL_law 1362 = .ok (.aload_n 1, 1) := by decide +kernel
theorem dL_law_1363 : decode cL_law 1363 = .ok (.aload_n 0, 1) := by decide +kernel
theorem dL_law_1364 : decode cL_law 1364 = .ok (.iload_n 3, 1) := by decide +kernel
theorem dL_law_1365 : decode cL_law 1365 = .ok (.iconst 1, 1) := by decide +kernel
theorem dL_law_1366 : decode cL_law 1366 = .ok (.iadd, 1) := by decide +kernel
theorem dL_law_1367 : decode cL_law 1367 = .ok (.iaload, 1) := by decide +kernel
theorem dL_law_1368 : decode cL_law 1368 = .ok (.invokevirtual 165, 3) := by decide +kernel
theorem dL_law_1371 : decode cL_law 1371 = .ok (.aload_n 2, 1) := by decide +kernel
theorem dL_law_1372 : decode cL_law 1372 = .ok (.aload_n 0, 1) := by decide +kernel
theorem dL_law_1373 : decode cL_law 1373 = .ok (.iload_n 3, 1) := by decide +kernel
theorem dL_law_1374 : decode cL_law 1374 = .ok (.iconst 1, 1) := by decide +kernel
theorem dL_law_1375 : decode cL_law 1375 = .ok (.iadd, 1) := by decide +kernel
theorem dL_law_1376 : decode cL_law 1376 = .ok (.iaload, 1) := by decide +kernel
theorem dL_law_1377 : decode cL_law 1377 = .ok (.invokevirtual 168, 3) := by decide +kernel
theorem dL_law_1380 : decode cL_law 1380 = .ok (.if_icmp .eq 534, 3) := by decide +kernel
theorem dL_law_1383 : decode cL_law 1383 = .ok (.iconst 0, 1) := by decide +kernel
theorem dL_law_1384 : decode cL_law 1384 = .ok (.ireturn, 1) := by decide +kernel
theorem dL_law_1385 : decode cL_law 1385 = .ok (.aload_n 1, 1) := by decide +kernel
theorem dL_law_1386 : decode cL_law 1386 = .ok (.invokevirtual 169, 3) := by decide +kernel
theorem dL_law_1389 : decode cL_law 1389 = .ok (.aload_n 2, 1) := by decide +kernel
theorem dL_law_1390 : decode cL_law 1390 = .ok (.invokevirtual 172, 3) := by decide +kernel
theorem dL_law_1393 : decode cL_law 1393 = .ok (.if_icmp .eq 521, 3) := by decide +kernel
theorem dL_law_1396 : decode cL_law 1396 = .ok (.iconst 0, 1) := by decide +kernel
theorem dL_law_1397 : decode cL_law 1397 = .ok (.ireturn, 1) := by decide +kernel
theorem dL_law_1398 : decode cL_law 1398 = .ok (.aload_n 1, 1) := by decide +kernel
theorem dL_law_1399 : decode cL_law 1399 = .ok (.invokevirtual 173, 3) := by decide +kernel
theorem dL_law_1402 : decode cL_law 1402 = .ok (.aload_n 2, 1) := by decide +kernel
theorem dL_law_1403 : decode cL_law 1403 = .ok (.invokevirtual 176, 3) := by decide +kernel
theorem dL_law_1406 : decode cL_law 1406 = .ok (.if_icmp .eq 508, 3) := by decide +kernel
theorem dL_law_1409 : decode cL_law 1409 = .ok (.iconst 0, 1) := by decide +kernel
theorem dL_law_1410 : decode cL_law 1410 = .ok (.ireturn, 1) := by decide +kernel
theorem dL_law_1411 : decode cL_law 1411 = .ok (.aload_n 1, 1) := by decide +kernel
theorem dL_law_1412 : decode cL_law 1412 = .ok (.aload_n 0, 1) := by decide +kernel
theorem dL_law_1413 : decode cL_law 1413 = .ok (.iload_n 3, 1) := by decide +kernel
theorem dL_law_1414 : decode cL_law 1414 = .ok (.iconst 1, 1) := by decide +kernel
theorem dL_law_1415 : decode cL_law 1415 = .ok (.iadd, 1) := by decide +kernel
theorem dL_law_1416 : decode cL_law 1416 = .ok (.iaload, 1) := by decide +kernel
theorem dL_law_1417 : decode cL_law 1417 = .ok (.invokevirtual 177, 3) := by decide +kernel
theorem dL_law_1420 : decode cL_law 1420 = .ok (.aload_n 2, 1) := by decide +kernel
theorem dL_law_1421 : decode cL_law 1421 = .ok (.aload_n 0, 1) := by decide +kernel
theorem dL_law_1422 : decode cL_law 1422 = .ok (.iload_n 3, 1) := by decide +kernel
theorem dL_law_1423 : decode cL_law 1423 = .ok (.iconst 1, 1) := by decide +kernel
theorem dL_law_1424 : decode cL_law 1424 = .ok (.iadd, 1) := by decide +kernel
theorem dL_law_1425 : decode cL_law 1425 = .ok (.iaload, 1) := by decide +kernel
theorem dL_law_1426 : decode cL_law 1426 = .ok (.invokevirtual 180, 3) := by decide +kernel
theorem dL_law_1429 : decode cL_law 1429 = .ok (.if_icmp .eq 485, 3) := by decide +kernel
theorem dL_law_1432 : decode cL_law 1432 = .ok (.iconst 0, 1) := by decide +kernel
theorem dL_law_1433 : decode cL_law 1433 = .ok (.ireturn, 1) := by decide +kernel
theorem dL_law_1434 : decode cL_law 1434 = .ok (.aload_n 1, 1) := by decide +kernel
theorem dL_law_1435 : decode cL_law 1435 = .ok (.invokevirtual 181, 3) := by decide +kernel
theorem dL_law_1438 : decode cL_law 1438 = .ok (.aload_n 2, 1) := by decide +kernel
theorem dL_law_1439 : decode cL_law 1439 = .ok (.invokevirtual 184, 3) := by decide +kernel
theorem dL_law_1442 : decode cL_law 1442 = .ok (.if_icmp .eq 472, 3) := by decide +kernel
theorem dL_law_1445 : decode cL_law 1445 = .ok (.iconst 0, 1) := by decide +kernel
theorem dL_law_1446 : decode cL_law 1446 = .ok (.ireturn, 1) := by decide +kernel
theorem dL_law_1447 : decode cL_law 1447 = .ok (.aload_n 1, 1) := by decide +kernel
theorem dL_law_1448 : decode cL_law 1448 = .ok (.aload_n 0, 1) := by decide +kernel
theorem dL_law_1449 : decode cL_law 1449 = .ok (.iload_n 3, 1) := by decide +kernel
theorem dL_law_1450 : decode cL_law 1450 = .ok (.iconst 1, 1) := by decide +kernel
theorem dL_law_1451 : decode cL_law 1451 = .ok (.iadd, 1) := by decide +kernel
theorem dL_law_1452 : decode cL_law 1452 = .ok (.iaload, 1) := by decide +kernel
theorem dL_law_1453 : decode cL_law 1453 = .ok (.aload_n 0, 1) := by decide +kernel
theorem dL_law_1454 : decode cL_law 1454 = .ok (.iload_n 3, 1) := by decide +kernel
theorem dL_law_1455 : decode cL_law 1455 = .ok (.iconst 2, 1) := by decide +kernel
theorem dL_law_1456 : decode cL_law 1456 = .ok (.iadd, 1) := by decide +kernel
theorem dL_law_1457 : decode cL_law 1457 = .ok (.iaload, 1) := by decide +kernel
theorem dL_law_1458 : decode cL_law 1458 = .ok (.invokevirtual 185, 3) := by decide +kernel
theorem dL_law_1461 : decode cL_law 1461 = .ok (.aload_n 2, 1) := by decide +kernel
theorem dL_law_1462 : decode cL_law 1462 = .ok (.aload_n 0, 1) := by decide +kernel
theorem dL_law_1463 : decode cL_law 1463 = .ok (.iload_n 3, 1) := by decide +kernel
theorem dL_law_1464 : decode cL_law 1464 = .ok (.iconst 1, 1) := by decide +kernel
theorem dL_law_1465 : decode cL_law 1465 = .ok (.iadd, 1) := by decide +kernel
theorem dL_law_1466 : decode cL_law 1466 = .ok (.iaload, 1) := by decide +kernel
theorem dL_law_1467 : decode cL_law 1467 = .ok (.aload_n 0, 1) := by decide +kernel
theorem dL_law_1468 : decode cL_law 1468 = .ok (.iload_n 3, 1) := by decide +kernel
theorem dL_law_1469 : decode cL_law 1469 = .ok (.iconst 2, 1) := by decide +kernel
theorem dL_law_1470 : decode cL_law 1470 = .ok (.iadd, 1) := by decide +kernel
theorem dL_law_1471 : decode cL_law 1471 = .ok (.iaload, 1) := by decide +kernel
theorem dL_law_1472 : decode cL_law 1472 = .ok (.invokevirtual 188, 3) := by decide +kernel
theorem dL_law_1475 : decode cL_law 1475 = .ok (.if_icmp .eq 439, 3) := by decide +kernel
theorem dL_law_1478 : decode cL_law 1478 = .ok (.iconst 0, 1) := by decide +kernel
theorem dL_law_1479 : decode cL_law 1479 = .ok (.ireturn, 1) := by decide +kernel
theorem dL_law_1480 : decode cL_law 1480 = .ok (.aload_n 1, 1) := by decide +kernel
theorem dL_law_1481 : decode cL_law 1481 = .ok (.aload_n 0, 1) := by decide +kernel
theorem dL_law_1482 : decode cL_law 1482 = .ok (.iload_n 3, 1) := by decide +kernel
theorem dL_law_1483 : decode cL_law 1483 = .ok (.iconst 1, 1) := by decide +kernel
theorem dL_law_1484 : decode cL_law 1484 = .ok (.iadd, 1) := by decide +kernel
theorem dL_law_1485 : decode cL_law 1485 = .ok (.iaload, 1) := by decide +kernel
theorem dL_law_1486 : decode cL_law 1486 = .ok (.aload_n 0, 1) := by decide +kernel
theorem dL_law_1487 : decode cL_law 1487 = .ok (.iload_n 3, 1) := by decide +kernel
theorem dL_law_1488 : decode cL_law 1488 = .ok (.iconst 2, 1) := by decide +kernel
theorem dL_law_1489 : decode cL_law 1489 = .ok (.iadd, 1) := by decide +kernel
theorem dL_law_1490 : decode cL_law 1490 = .ok (.iaload, 1) := by decide +kernel
theorem dL_law_1491 : decode cL_law 1491 = .ok (.invokevirtual 189, 3) := by decide +kernel
theorem dL_law_1494 : decode cL_law 1494 = .ok (.aload_n 2, 1) := by decide +kernel
theorem dL_law_1495 : decode cL_law 1495 = .ok (.aload_n 0, 1) := by decide +kernel
theorem dL_law_1496 : decode cL_law 1496 = .ok (.iload_n 3, 1) := by decide +kernel
theorem dL_law_1497 : decode cL_law 1497 = .ok (.iconst 1, 1) := by decide +kernel
theorem dL_law_1498 : decode cL_law 1498 = .ok (.iadd, 1) := by decide +kernel
theorem dL_law_1499 : decode cL_law 1499 = .ok (.iaload, 1) := by decide +kernel
theorem dL_law_1500 : decode cL_law 1500 = .ok (.aload_n 0, 1) := by decide +kernel
theorem dL_law_1501 : decode cL_law 1501 = .ok (.iload_n 3, 1) := by decide +kernel
theorem dL_law_1502 : decode cL_law 1502 = .ok (.iconst 2, 1) := by decide +kernel
theorem dL_law_1503 : decode cL_law 1503 = .ok (.iadd, 1) := by decide +kernel
theorem dL_law_1504 : decode cL_law 1504 = .ok (.iaload, 1) := by decide +kernel
theorem dL_law_1505 : decode cL_law 1505 = .ok (.invokevirtual 192, 3) := by decide +kernel
theorem dL_law_1508 : decode cL_law 1508 = .ok (.if_icmp .eq 406, 3) := by decide +kernel
theorem dL_law_1511 : decode cL_law 1511 = .ok (.iconst 0, 1) := by decide +kernel
theorem dL_law_1512 : decode cL_law 1512 = .ok (.ireturn, 1) := by decide +kernel
theorem dL_law_1513 : decode cL_law 1513 = .ok (.aload_n 1, 1) := by decide +kernel
theorem dL_law_1514 : decode cL_law 1514 = .ok (.aload_n 0, 1) := by decide +kernel
theorem dL_law_1515 : decode cL_law 1515 = .ok (.iload_n 3, 1) := by decide +kernel
theorem dL_law_1516 : decode cL_law 1516 = .ok (.iconst 1, 1) := by decide +kernel
theorem dL_law_1517 : decode cL_law 1517 = .ok (.iadd, 1) := by decide +kernel
theorem dL_law_1518 : decode cL_law 1518 = .ok (.iaload, 1) := by decide +kernel
theorem dL_law_1519 : decode cL_law 1519 = .ok (.invokevirtual 193, 3) := by decide +kernel
theorem dL_law_1522 : decode cL_law 1522 = .ok (.aload_n 2, 1) := by decide +kernel
theorem dL_law_1523 : decode cL_law 1523 = .ok (.aload_n 0, 1) := by decide +kernel
theorem dL_law_1524 : decode cL_law 1524 = .ok (.iload_n 3, 1) := by decide +kernel
theorem dL_law_1525 : decode cL_law 1525 = .ok (.iconst 1, 1) := by decide +kernel
theorem dL_law_1526 : decode cL_law 1526 = .ok (.iadd, 1) := by decide +kernel
theorem dL_law_1527 : decode cL_law 1527 = .ok (.iaload, 1) := by decide +kernel
theorem dL_law_1528 : decode cL_law 1528 = .ok (.invokevirtual 196, 3) := by decide +kernel
theorem dL_law_1531 : decode cL_law 1531 = .ok (.if_icmp .eq 383, 3) := by decide +kernel
theorem dL_law_1534 : decode cL_law 1534 = .ok (.iconst 0, 1) := by decide +kernel
theorem dL_law_1535 : decode cL_law 1535 = .ok (.ireturn, 1) := by decide +kernel
theorem dL_law_1536 : decode cL_law 1536 = .ok (.aload_n 1, 1) := by decide +kernel
theorem dL_law_1537 : decode cL_law 1537 = .ok (.aload_n 0, 1) := by decide +kernel
theorem dL_law_1538 : decode cL_law 1538 = .ok (.iload_n 3, 1) := by decide +kernel
theorem dL_law_1539 : decode cL_law 1539 = .ok (.iconst 1, 1) := by decide +kernel
theorem dL_law_1540 : decode cL_law 1540 = .ok (.iadd, 1) := by decide +kernel
theorem dL_law_1541 : decode cL_law 1541 = .ok (.iaload, 1) := by decide +kernel
theorem dL_law_1542 : decode cL_law 1542 = .ok (.invokevirtual 197, 3) := by decide +kernel
theorem dL_law_1545 : decode cL_law 1545 = .ok (.aload_n 2, 1) := by decide +kernel
theorem dL_law_1546 : decode cL_law 1546 = .ok (.aload_n 0, 1) := by decide +kernel
theorem dL_law_1547 : decode cL_law 1547 = .ok (.iload_n 3, 1) := by decide +kernel
theorem dL_law_1548 : decode cL_law 1548 = .ok (.iconst 1, 1) := by decide +kernel
theorem dL_law_1549 : decode cL_law 1549 = .ok (.iadd, 1) := by decide +kernel
theorem dL_law_1550 : decode cL_law 1550 = .ok (.iaload, 1) := by decide +kernel
theorem dL_law_1551 : decode cL_law 1551 = .ok (.invokevirtual 200, 3) := by decide +kernel
theorem dL_law_1554 : decode cL_law 1554 = .ok (.if_icmp .eq 360, 3) := by decide +kernel
theorem dL_law_1557 : decode cL_law 1557 = .ok (.iconst 0, 1) := by decide +kernel
theorem dL_law_1558 : decode cL_law 1558 = .ok (.ireturn, 1) := by decide +kernel
theorem dL_law_1559 : decode cL_law 1559 = .ok (.aload_n 1, 1) := by decide +kernel
theorem dL_law_1560 : decode cL_law 1560 = .ok (.aload_n 0, 1) := by decide +kernel
theorem dL_law_1561 : decode cL_law 1561 = .ok (.iload_n 3, 1) := by decide +kernel
theorem dL_law_1562 : decode cL_law 1562 = .ok (.iconst 1, 1) := by decide +kernel
theorem dL_law_1563 : decode cL_law 1563 = .ok (.iadd, 1) := by decide +kernel
theorem dL_law_1564 : decode cL_law 1564 = .ok (.iaload, 1) := by decide +kernel
theorem dL_law_1565 : decode cL_law 1565 = .ok (.invokevirtual 201, 3) := by decide +kernel
theorem dL_law_1568 : decode cL_law 1568 = .ok (.aload_n 2, 1) := by decide +kernel
theorem dL_law_1569 : decode cL_law 1569 = .ok (.aload_n 0, 1) := by decide +kernel
theorem dL_law_1570 : decode cL_law 1570 = .ok (.iload_n 3, 1) := by decide +kernel
theorem dL_law_1571 : decode cL_law 1571 = .ok (.iconst 1, 1) := by decide +kernel
theorem dL_law_1572 : decode cL_law 1572 = .ok (.iadd, 1) := by decide +kernel
theorem dL_law_1573 : decode cL_law 1573 = .ok (.iaload, 1) := by decide +kernel
theorem dL_law_1574 : decode cL_law 1574 = .ok (.invokevirtual 204, 3) := by decide +kernel
theorem dL_law_1577 : decode cL_law 1577 = .ok (.if_icmp .eq 337, 3) := by decide +kernel
theorem dL_law_1580 : decode cL_law 1580 = .ok (.iconst 0, 1) := by decide +kernel
theorem dL_law_1581 : decode cL_law 1581 = .ok (.ireturn, 1) := by decide +kernel
theorem dL_law_1582 : decode cL_law 1582 = .ok (.aload_n 1, 1) := by decide +kernel
theorem dL_law_1583 : decode cL_law 1583 = .ok (.aload_n 0, 1) := by decide +kernel
theorem dL_law_1584 : decode cL_law 1584 = .ok (.iload_n 3, 1) := by decide +kernel
theorem dL_law_1585 : decode cL_law 1585 = .ok (.iconst 1, 1) := by decide +kernel
theorem dL_law_1586 : decode cL_law 1586 = .ok (.iadd, 1) := by decide +kernel
theorem dL_law_1587 : decode cL_law 1587 = .ok (.iaload, 1) := by decide +kernel
theorem dL_law_1588 : decode cL_law 1588 = .ok (.invokevirtual 205, 3) := by decide +kernel
theorem dL_law_1591 : decode cL_law 1591 = .ok (.aload_n 2, 1) := by decide +kernel
theorem dL_law_1592 : decode cL_law 1592 = .ok (.aload_n 0, 1) := by decide +kernel
theorem dL_law_1593 : decode cL_law 1593 = .ok (.iload_n 3, 1) := by decide +kernel
theorem dL_law_1594 : decode cL_law 1594 = .ok (.iconst 1, 1) := by decide +kernel
theorem dL_law_1595 : decode cL_law 1595 = .ok (.iadd, 1) := by decide +kernel
theorem dL_law_1596 : decode cL_law 1596 = .ok (.iaload, 1) := by decide +kernel
theorem dL_law_1597 : decode cL_law 1597 = .ok (.invokevirtual 208, 3) := by decide +kernel
theorem dL_law_1600 : decode cL_law 1600 = .ok (.if_icmp .eq 314, 3) := by decide +kernel
theorem dL_law_1603 : decode cL_law 1603 = .ok (.iconst 0, 1) := by decide +kernel
theorem dL_law_1604 : decode cL_law 1604 = .ok (.ireturn, 1) := by decide +kernel
theorem dL_law_1605 : decode cL_law 1605 = .ok (.aload_n 1, 1) := by decide +kernel
theorem dL_law_1606 : decode cL_law 1606 = .ok (.invokevirtual 209, 3) := by decide +kernel
theorem dL_law_1609 : decode cL_law 1609 = .ok (.aload_n 2, 1) := by decide +kernel
theorem dL_law_1610 : decode cL_law 1610 = .ok (.invokevirtual 212, 3) := by decide +kernel
theorem dL_law_1613 : decode cL_law 1613 = .ok (.if_icmp .eq 301, 3) := by decide +kernel
theorem dL_law_1616 : decode cL_law 1616 = .ok (.iconst 0, 1) := by decide +kernel
theorem dL_law_1617 : decode cL_law 1617 = .ok (.ireturn, 1) := by decide +kernel
theorem dL_law_1618 : decode cL_law 1618 = .ok (.aload_n 1, 1) := by decide +kernel
theorem dL_law_1619 : decode cL_law 1619 = .ok (.aload_n 0, 1) := by decide +kernel
theorem dL_law_1620 : decode cL_law 1620 = .ok (.iload_n 3, 1) := by decide +kernel
theorem dL_law_1621 : decode cL_law 1621 = .ok (.iconst 1, 1) := by decide +kernel
theorem dL_law_1622 : decode cL_law 1622 = .ok (.iadd, 1) := by decide +kernel
theorem dL_law_1623 : decode cL_law 1623 = .ok (.iaload, 1) := by decide +kernel
theorem dL_law_1624 : decode cL_law 1624 = .ok (.aload_n 0, 1) := by decide +kernel
theorem dL_law_1625 : decode cL_law 1625 = .ok (.iload_n 3, 1) := by decide +kernel
theorem dL_law_1626 : decode cL_law 1626 = .ok (.iconst 2, 1) := by decide +kernel
theorem dL_law_1627 : decode cL_law 1627 = .ok (.iadd, 1) := by decide +kernel
theorem dL_law_1628 : decode cL_law 1628 = .ok (.iaload, 1) := by decide +kernel
theorem dL_law_1629 : decode cL_law 1629 = .ok (.invokevirtual 213, 3) := by decide +kernel
theorem dL_law_1632 : decode cL_law 1632 = .ok (.aload_n 2, 1) := by decide +kernel
theorem dL_law_1633 : decode cL_law 1633 = .ok (.aload_n 0, 1) := by decide +kernel
theorem dL_law_1634 : decode cL_law 1634 = .ok (.iload_n 3, 1) := by decide +kernel
theorem dL_law_1635 : decode cL_law 1635 = .ok (.iconst 1, 1) := by decide +kernel
theorem dL_law_1636 : decode cL_law 1636 = .ok (.iadd, 1) := by decide +kernel
theorem dL_law_1637 : decode cL_law 1637 = .ok (.iaload, 1) := by decide +kernel
theorem dL_law_1638 : decode cL_law 1638 = .ok (.aload_n 0, 1) := by decide +kernel
theorem dL_law_1639 : decode cL_law 1639 = .ok (.iload_n 3, 1) := by decide +kernel
theorem dL_law_1640 : decode cL_law 1640 = .ok (.iconst 2, 1) := by decide +kernel
theorem dL_law_1641 : decode cL_law 1641 = .ok (.iadd, 1) := by decide +kernel
theorem dL_law_1642 : decode cL_law 1642 = .ok (.iaload, 1) := by decide +kernel
theorem dL_law_1643 : decode cL_law 1643 = .ok (.invokevirtual 216, 3) := by decide +kernel
theorem dL_law_1646 : decode cL_law 1646 = .ok (.if_icmp .eq 268, 3) := by decide +kernel
theorem dL_law_1649 : decode cL_law 1649 = .ok (.iconst 0, 1) := by decide +kernel
theorem dL_law_1650 : decode cL_law 1650 = .ok (.ireturn, 1) := by decide +kernel
theorem dL_law_1651 : decode cL_law 1651 = .ok (.aload_n 1, 1) := by decide +kernel
theorem dL_law_1652 : decode cL_law 1652 = .ok (.invokevirtual 217, 3) := by decide +kernel
theorem dL_law_1655 : decode cL_law 1655 = .ok (.aload_n 2, 1) := by decide +kernel
theorem dL_law_1656 : decode cL_law 1656 = .ok (.invokevirtual 220, 3) := by decide +kernel
theorem dL_law_1659 : decode cL_law 1659 = .ok (.if_icmp .eq 255, 3) := by decide +kernel
theorem dL_law_1662 : decode cL_law 1662 = .ok (.iconst 0, 1) := by decide +kernel
theorem dL_law_1663 : decode cL_law 1663 = .ok (.ireturn, 1) := by decide +kernel
theorem dL_law_1664 : decode cL_law 1664 = .ok (.aload_n 1, 1) := by decide +kernel
theorem dL_law_1665 : decode cL_law 1665 = .ok (.invokevirtual 221, 3) := by decide +kernel
theorem dL_law_1668 : decode cL_law 1668 = .ok (.aload_n 2, 1) := by decide +kernel
theorem dL_law_1669 : decode cL_law 1669 = .ok (.invokevirtual 225, 3) := by decide +kernel
theorem dL_law_1672 : decode cL_law 1672 = .ok (.if_icmp .eq 242, 3) := by decide +kernel
theorem dL_law_1675 : decode cL_law 1675 = .ok (.iconst 0, 1) := by decide +kernel
theorem dL_law_1676 : decode cL_law 1676 = .ok (.ireturn, 1) := by decide +kernel
theorem dL_law_1677 : decode cL_law 1677 = .ok (.aload_n 1, 1) := by decide +kernel
theorem dL_law_1678 : decode cL_law 1678 = .ok (.aload_n 0, 1) := by decide +kernel
theorem dL_law_1679 : decode cL_law 1679 = .ok (.iload_n 3, 1) := by decide +kernel
theorem dL_law_1680 : decode cL_law 1680 = .ok (.iconst 1, 1) := by decide +kernel
theorem dL_law_1681 : decode cL_law 1681 = .ok (.iadd, 1) := by decide +kernel
theorem dL_law_1682 : decode cL_law 1682 = .ok (.iaload, 1) := by decide +kernel
theorem dL_law_1683 : decode cL_law 1683 = .ok (.aload_n 0, 1) := by decide +kernel
theorem dL_law_1684 : decode cL_law 1684 = .ok (.iload_n 3, 1) := by decide +kernel
theorem dL_law_1685 : decode cL_law 1685 = .ok (.iconst 2, 1) := by decide +kernel
theorem dL_law_1686 : decode cL_law 1686 = .ok (.iadd, 1) := by decide +kernel
theorem dL_law_1687 : decode cL_law 1687 = .ok (.iaload, 1) := by decide +kernel
theorem dL_law_1688 : decode cL_law 1688 = .ok (.invokevirtual 226, 3) := by decide +kernel
theorem dL_law_1691 : decode cL_law 1691 = .ok (.aload_n 2, 1) := by decide +kernel
theorem dL_law_1692 : decode cL_law 1692 = .ok (.aload_n 0, 1) := by decide +kernel
theorem dL_law_1693 : decode cL_law 1693 = .ok (.iload_n 3, 1) := by decide +kernel
theorem dL_law_1694 : decode cL_law 1694 = .ok (.iconst 1, 1) := by decide +kernel
theorem dL_law_1695 : decode cL_law 1695 = .ok (.iadd, 1) := by decide +kernel
theorem dL_law_1696 : decode cL_law 1696 = .ok (.iaload, 1) := by decide +kernel
theorem dL_law_1697 : decode cL_law 1697 = .ok (.aload_n 0, 1) := by decide +kernel
theorem dL_law_1698 : decode cL_law 1698 = .ok (.iload_n 3, 1) := by decide +kernel
theorem dL_law_1699 : decode cL_law 1699 = .ok (.iconst 2, 1) := by decide +kernel
theorem dL_law_1700 : decode cL_law 1700 = .ok (.iadd, 1) := by decide +kernel
theorem dL_law_1701 : decode cL_law 1701 = .ok (.iaload, 1) := by decide +kernel
theorem dL_law_1702 : decode cL_law 1702 = .ok (.invokevirtual 229, 3) := by decide +kernel
theorem dL_law_1705 : decode cL_law 1705 = .ok (.if_icmp .eq 209, 3) := by decide +kernel
theorem dL_law_1708 : decode cL_law 1708 = .ok (.iconst 0, 1) := by decide +kernel
theorem dL_law_1709 : decode cL_law 1709 = .ok (.ireturn, 1) := by decide +kernel
theorem dL_law_1710 : decode cL_law 1710 = .ok (.aload_n 1, 1) := by decide +kernel
theorem dL_law_1711 : decode cL_law 1711 = .ok (.aload_n 0, 1) := by decide +kernel
theorem dL_law_1712 : decode cL_law 1712 = .ok (.iload_n 3, 1) := by decide +kernel
theorem dL_law_1713 : decode cL_law 1713 = .ok (.iconst 1, 1) := by decide +kernel
theorem dL_law_1714 : decode cL_law 1714 = .ok (.iadd, 1) := by decide +kernel
theorem dL_law_1715 : decode cL_law 1715 = .ok (.iaload, 1) := by decide +kernel
theorem dL_law_1716 : decode cL_law 1716 = .ok (.aload_n 0, 1) := by decide +kernel
theorem dL_law_1717 : decode cL_law 1717 = .ok (.iload_n 3, 1) := by decide +kernel
theorem dL_law_1718 : decode cL_law 1718 = .ok (.iconst 2, 1) := by decide +kernel
theorem dL_law_1719 : decode cL_law 1719 = .ok (.iadd, 1) := by decide +kernel
theorem dL_law_1720 : decode cL_law 1720 = .ok (.iaload, 1) := by decide +kernel
theorem dL_law_1721 : decode cL_law 1721 = .ok (.aload_n 0, 1) := by decide +kernel
theorem dL_law_1722 : decode cL_law 1722 = .ok (.iload_n 3, 1) := by decide +kernel
theorem dL_law_1723 : decode cL_law 1723 = .ok (.iconst 3, 1) := by decide +kernel
theorem dL_law_1724 : decode cL_law 1724 = .ok (.iadd, 1) := by decide +kernel
theorem dL_law_1725 : decode cL_law 1725 = .ok (.iaload, 1) := by decide +kernel
theorem dL_law_1726 : decode cL_law 1726 = .ok (.invokevirtual 230, 3) := by decide +kernel
theorem dL_law_1729 : decode cL_law 1729 = .ok (.aload_n 2, 1) := by decide +kernel
theorem dL_law_1730 : decode cL_law 1730 = .ok (.aload_n 0, 1) := by decide +kernel
theorem dL_law_1731 : decode cL_law 1731 = .ok (.iload_n 3, 1) := by decide +kernel
theorem dL_law_1732 : decode cL_law 1732 = .ok (.iconst 1, 1) := by decide +kernel
theorem dL_law_1733 : decode cL_law 1733 = .ok (.iadd, 1) := by decide +kernel
theorem dL_law_1734 : decode cL_law 1734 = .ok (.iaload, 1) := by decide +kernel
theorem dL_law_1735 : decode cL_law 1735 = .ok (.aload_n 0, 1) := by decide +kernel
theorem dL_law_1736 : decode cL_law 1736 = .ok (.iload_n 3, 1) := by decide +kernel
theorem dL_law_1737 : decode cL_law 1737 = .ok (.iconst 2, 1) := by decide +kernel
theorem dL_law_1738 : decode cL_law 1738 = .ok (.iadd, 1) := by decide +kernel
theorem dL_law_1739 : decode cL_law 1739 = .ok (.iaload, 1) := by decide +kernel
theorem dL_law_1740 : decode cL_law 1740 = .ok (.aload_n 0, 1) := by decide +kernel
theorem dL_law_1741 : decode cL_law 1741 = .ok (.iload_n 3, 1) := by decide +kernel
theorem dL_law_1742 : decode cL_law 1742 = .ok (.iconst 3, 1) := by decide +kernel
theorem dL_law_1743 : decode cL_law 1743 = .ok (.iadd, 1) := by decide +kernel
theorem dL_law_1744 : decode cL_law 1744 = .ok (.iaload, 1) := by decide +kernel
theorem dL_law_1745 : decode cL_law 1745 = .ok (.invokevirtual 233, 3) := by decide +kernel
theorem dL_law_1748 : decode cL_law 1748 = .ok (.if_icmp .eq 166, 3) := by decide +kernel
theorem dL_law_1751 : decode cL_law 1751 = .ok (.iconst 0, 1) := by decide +kernel
theorem dL_law_1752 : decode cL_law 1752 = .ok (.ireturn, 1) := by decide +kernel
theorem dL_law_1753 : decode cL_law 1753 = .ok (.aload_n 1, 1) := by decide +kernel
theorem dL_law_1754 : decode cL_law 1754 = .ok (.aload_n 0, 1) := by decide +kernel
theorem dL_law_1755 : decode cL_law 1755 = .ok (.iload_n 3, 1) := by decide +kernel
theorem dL_law_1756 : decode cL_law 1756 = .ok (.iconst 1, 1) := by decide +kernel
theorem dL_law_1757 : decode cL_law 1757 = .ok (.iadd, 1) := by decide +kernel
theorem dL_law_1758 : decode cL_law 1758 = .ok (.iaload, 1) := by decide +kernel
theorem dL_law_1759 : decode cL_law 1759 = .ok (.invokevirtual 234, 3) := by decide +kernel
theorem dL_law_1762 : decode cL_law 1762 = .ok (.aload_n 2, 1) := by decide +kernel
theorem dL_law_1763 : decode cL_law 1763 = .ok (.aload_n 0, 1) := by decide +kernel
theorem dL_law_1764 : decode cL_law 1764 = .ok (.iload_n 3, 1) := by decide +kernel
theorem dL_law_1765 : decode cL_law 1765 = .ok (.iconst 1, 1) := by decide +kernel
theorem dL_law_1766 : decode cL_law 1766 = .ok (.iadd, 1) := by decide +kernel
theorem dL_law_1767 : decode cL_law 1767 = .ok (.iaload, 1) := by decide +kernel
theorem dL_law_1768 : decode cL_law 1768 = .ok (.invokevirtual 237, 3) := by decide +kernel
theorem dL_law_1771 : decode cL_law 1771 = .ok (.if_icmp .eq 143, 3) := by decide +kernel
theorem dL_law_1774 : decode cL_law 1774 = .ok (.iconst 0, 1) := by decide +kernel
theorem dL_law_1775 : decode cL_law 1775 = .ok (.ireturn, 1) := by decide +kernel
theorem dL_law_1776 : decode cL_law 1776 = .ok (.aload_n 1, 1) := by decide +kernel
theorem dL_law_1777 : decode cL_law 1777 = .ok (.aload_n 0, 1) := by decide +kernel
theorem dL_law_1778 : decode cL_law 1778 = .ok (.iload_n 3, 1) := by decide +kernel
theorem dL_law_1779 : decode cL_law 1779 = .ok (.iconst 1, 1) := by decide +kernel
theorem dL_law_1780 : decode cL_law 1780 = .ok (.iadd, 1) := by decide +kernel
theorem dL_law_1781 : decode cL_law 1781 = .ok (.iaload, 1) := by decide +kernel
theorem dL_law_1782 : decode cL_law 1782 = .ok (.aload_n 0, 1) := by decide +kernel
theorem dL_law_1783 : decode cL_law 1783 = .ok (.iload_n 3, 1) := by decide +kernel
theorem dL_law_1784 : decode cL_law 1784 = .ok (.iconst 2, 1) := by decide +kernel
theorem dL_law_1785 : decode cL_law 1785 = .ok (.iadd, 1) := by decide +kernel
theorem dL_law_1786 : decode cL_law 1786 = .ok (.iaload, 1) := by decide +kernel
theorem dL_law_1787 : decode cL_law 1787 = .ok (.invokevirtual 238, 3) := by decide +kernel
theorem dL_law_1790 : decode cL_law 1790 = .ok (.aload_n 2, 1) := by decide +kernel
theorem dL_law_1791 : decode cL_law 1791 = .ok (.aload_n 0, 1) := by decide +kernel
theorem dL_law_1792 : decode cL_law 1792 = .ok (.iload_n 3, 1) := by decide +kernel
theorem dL_law_1793 : decode cL_law 1793 = .ok (.iconst 1, 1) := by decide +kernel
theorem dL_law_1794 : decode cL_law 1794 = .ok (.iadd, 1) := by decide +kernel
theorem dL_law_1795 : decode cL_law 1795 = .ok (.iaload, 1) := by decide +kernel
theorem dL_law_1796 : decode cL_law 1796 = .ok (.aload_n 0, 1) := by decide +kernel
theorem dL_law_1797 : decode cL_law 1797 = .ok (.iload_n 3, 1) := by decide +kernel
theorem dL_law_1798 : decode cL_law 1798 = .ok (.iconst 2, 1) := by decide +kernel
theorem dL_law_1799 : decode cL_law 1799 = .ok (.iadd, 1) := by decide +kernel
theorem dL_law_1800 : decode cL_law 1800 = .ok (.iaload, 1) := by decide +kernel
theorem dL_law_1801 : decode cL_law 1801 = .ok (.invokevirtual 241, 3) := by decide +kernel
theorem dL_law_1804 : decode cL_law 1804 = .ok (.if_icmp .eq 110, 3) := by decide +kernel
theorem dL_law_1807 : decode cL_law 1807 = .ok (.iconst 0, 1) := by decide +kernel
theorem dL_law_1808 : decode cL_law 1808 = .ok (.ireturn, 1) := by decide +kernel
theorem dL_law_1809 : decode cL_law 1809 = .ok (.aload_n 1, 1) := by decide +kernel
theorem dL_law_1810 : decode cL_law 1810 = .ok (.invokevirtual 242, 3) := by decide +kernel
theorem dL_law_1813 : decode cL_law 1813 = .ok (.aload_n 2, 1) := by decide +kernel
theorem dL_law_1814 : decode cL_law 1814 = .ok (.invokevirtual 245, 3) := by decide +kernel
theorem dL_law_1817 : decode cL_law 1817 = .ok (.if_icmp .eq 97, 3) := by decide +kernel
theorem dL_law_1820 : decode cL_law 1820 = .ok (.iconst 0, 1) := by decide +kernel
theorem dL_law_1821 : decode cL_law 1821 = .ok (.ireturn, 1) := by decide +kernel
theorem dL_law_1822 : decode cL_law 1822 = .ok (.aload_n 1, 1) := by decide +kernel
theorem dL_law_1823 : decode cL_law 1823 = .ok (.aload_n 0, 1) := by decide +kernel
theorem dL_law_1824 : decode cL_law 1824 = .ok (.iload_n 3, 1) := by decide +kernel
theorem dL_law_1825 : decode cL_law 1825 = .ok (.iconst 1, 1) := by decide +kernel
theorem dL_law_1826 : decode cL_law 1826 = .ok (.iadd, 1) := by decide +kernel
theorem dL_law_1827 : decode cL_law 1827 = .ok (.iaload, 1) := by decide +kernel
theorem dL_law_1828 : decode cL_law 1828 = .ok (.aload_n 0, 1) := by decide +kernel
theorem dL_law_1829 : decode cL_law 1829 = .ok (.iload_n 3, 1) := by decide +kernel
theorem dL_law_1830 : decode cL_law 1830 = .ok (.iconst 2, 1) := by decide +kernel
theorem dL_law_1831 : decode cL_law 1831 = .ok (.iadd, 1) := by decide +kernel
theorem dL_law_1832 : decode cL_law 1832 = .ok (.iaload, 1) := by decide +kernel
theorem dL_law_1833 : decode cL_law 1833 = .ok (.aload_n 0, 1) := by decide +kernel
theorem dL_law_1834 : decode cL_law 1834 = .ok (.iload_n 3, 1) := by decide +kernel
theorem dL_law_1835 : decode cL_law 1835 = .ok (.iconst 3, 1) := by decide +kernel
theorem dL_law_1836 : decode cL_law 1836 = .ok (.iadd, 1) := by decide +kernel
theorem dL_law_1837 : decode cL_law 1837 = .ok (.iaload, 1) := by decide +kernel
theorem dL_law_1838 : decode cL_law 1838 = .ok (.invokevirtual 246, 3) := by decide +kernel
theorem dL_law_1841 : decode cL_law 1841 = .ok (.aload_n 2, 1) := by decide +kernel
theorem dL_law_1842 : decode cL_law 1842 = .ok (.aload_n 0, 1) := by decide +kernel
theorem dL_law_1843 : decode cL_law 1843 = .ok (.iload_n 3, 1) := by decide +kernel
theorem dL_law_1844 : decode cL_law 1844 = .ok (.iconst 1, 1) := by decide +kernel
theorem dL_law_1845 : decode cL_law 1845 = .ok (.iadd, 1) := by decide +kernel
theorem dL_law_1846 : decode cL_law 1846 = .ok (.iaload, 1) := by decide +kernel
theorem dL_law_1847 : decode cL_law 1847 = .ok (.aload_n 0, 1) := by decide +kernel
theorem dL_law_1848 : decode cL_law 1848 = .ok (.iload_n 3, 1) := by decide +kernel
theorem dL_law_1849 : decode cL_law 1849 = .ok (.iconst 2, 1) := by decide +kernel
theorem dL_law_1850 : decode cL_law 1850 = .ok (.iadd, 1) := by decide +kernel
theorem dL_law_1851 : decode cL_law 1851 = .ok (.iaload, 1) := by decide +kernel
theorem dL_law_1852 : decode cL_law 1852 = .ok (.aload_n 0, 1) := by decide +kernel
theorem dL_law_1853 : decode cL_law 1853 = .ok (.iload_n 3, 1) := by decide +kernel
theorem dL_law_1854 : decode cL_law 1854 = .ok (.iconst 3, 1) := by decide +kernel
theorem dL_law_1855 : decode cL_law 1855 = .ok (.iadd, 1) := by decide +kernel
theorem dL_law_1856 : decode cL_law 1856 = .ok (.iaload, 1) := by decide +kernel
theorem dL_law_1857 : decode cL_law 1857 = .ok (.invokevirtual 249, 3) := by decide +kernel
theorem dL_law_1860 : decode cL_law 1860 = .ok (.if_icmp .eq 54, 3) := by decide +kernel
theorem dL_law_1863 : decode cL_law 1863 = .ok (.iconst 0, 1) := by decide +kernel
theorem dL_law_1864 : decode cL_law 1864 = .ok (.ireturn, 1) := by decide +kernel
theorem dL_law_1865 : decode cL_law 1865 = .ok (.aload_n 1, 1) := by decide +kernel
theorem dL_law_1866 : decode cL_law 1866 = .ok (.aload_n 0, 1) := by decide +kernel
theorem dL_law_1867 : decode cL_law 1867 = .ok (.iload_n 3, 1) := by decide +kernel
theorem dL_law_1868 : decode cL_law 1868 = .ok (.iconst 1, 1) := by decide +kernel
theorem dL_law_1869 : decode cL_law 1869 = .ok (.iadd, 1) := by decide +kernel
theorem dL_law_1870 : decode cL_law 1870 = .ok (.iaload, 1) := by decide +kernel
theorem dL_law_1871 : decode cL_law 1871 = .ok (.invokevirtual 250, 3) := by decide +kernel
theorem dL_law_1874 : decode cL_law 1874 = .ok (.aload_n 2, 1) := by decide +kernel
theorem dL_law_1875 : decode cL_law 1875 = .ok (.aload_n 0, 1) := by decide +kernel
theorem dL_law_1876 : decode cL_law 1876 = .ok (.iload_n 3, 1) := by decide +kernel
theorem dL_law_1877 : decode cL_law 1877 = .ok (.iconst 1, 1) := by decide +kernel
theorem dL_law_1878 : decode cL_law 1878 = .ok (.iadd, 1) := by decide +kernel
theorem dL_law_1879 : decode cL_law 1879 = .ok (.iaload, 1) := by decide +kernel
theorem dL_law_1880 : decode cL_law 1880 = .ok (.invokevirtual 253, 3) := by decide +kernel
theorem dL_law_1883 : decode cL_law 1883 = .ok (.if_icmp .eq 31, 3) := by decide +kernel
theorem dL_law_1886 : decode cL_law 1886 = .ok (.iconst 0, 1) := by decide +kernel
theorem dL_law_1887 : decode cL_law 1887 = .ok (.ireturn, 1) := by decide +kernel
theorem dL_law_1888 : decode cL_law 1888 = .ok (.aload_n 1, 1) := by decide +kernel
theorem dL_law_1889 : decode cL_law 1889 = .ok (.invokevirtual 254, 3) := by decide +kernel
theorem dL_law_1892 : decode cL_law 1892 = .ok (.aload_n 2, 1) := by decide +kernel
theorem dL_law_1893 : decode cL_law 1893 = .ok (.invokevirtual 257, 3) := by decide +kernel
theorem dL_law_1896 : decode cL_law 1896 = .ok (.if_icmp .eq 18, 3) := by decide +kernel
theorem dL_law_1899 : decode cL_law 1899 = .ok (.iconst 0, 1) := by decide +kernel
theorem dL_law_1900 : decode cL_law 1900 = .ok (.ireturn, 1) := by decide +kernel
theorem dL_law_1901 : decode cL_law 1901 = .ok (.aload_n 1, 1) := by decide +kernel
theorem dL_law_1902 : decode cL_law 1902 = .ok (.invokevirtual 258, 3) := by decide +kernel
theorem dL_law_1905 : decode cL_law 1905 = .ok (.aload_n 2, 1) := by decide +kernel
theorem dL_law_1906 : decode cL_law 1906 = .ok (.invokevirtual 261, 3) := by decide +kernel
theorem dL_law_1909 : decode cL_law 1909 = .ok (.if_icmp .eq 5, 3) := by decide +kernel
theorem dL_law_1912 : decode cL_law 1912 = .ok (.iconst 0, 1) := by decide +kernel
theorem dL_law_1913 : decode cL_law 1913 = .ok (.ireturn, 1) := by decide +kernel
theorem dL_law_1914 : decode cL_law 1914 = .ok (.iinc 3 6, 3) := by decide +kernel
theorem dL_law_1917 : decode cL_law 1917 = .ok (.goto (-1899), 3) := by decide +kernel
theorem dL_law_1920 : decode cL_law 1920 = .ok (.iconst 1, 1) := by decide +kernel
theorem dL_law_1921 : decode cL_law 1921 = .ok (.ireturn, 1) := by decide +kernel
set_option maxRecDepth 100000 in
set_option maxHeartbeats 40000000 in
theorem law_body {p : Program} {e : Env} {s : State} {m : MethodId} {below : List Frame} {meth : Method} {c : Code} (l : Launch) {b L : Nat} {xs : Nat → Int32} (C0 : lw_At p s m meth c b L xs) (hp : P_law L xs) : W p l e room_1 s m #[Value.ref b] below meth c s.heap [] 0 0 (lw_Z below #[Value.ref b] s) (entryFrame m ([Value.ref b] : List Value).toArray 4) := by
  obtain ⟨G, hKK, hFx⟩ := start_facts C0
  obtain ⟨hx, hb, hr, hml, hown, hts, hX, hbl, hlk, hgv⟩ := id C0
  have B : Bd G p s m #[Value.ref b] c cL_law 4 "RingChamberLaw" (FA es s.heap.size) := ⟨hx, hb, hml, hown, fun w h => hts w (tb_tbl h), hKK, hFx, fun q hq => Or.inr hq⟩
  have hH : Hp G (FA es s.heap.size) s.heap es s.heap [] := ⟨es_Rp _ _ _, fun a ha => absurd rfl ha, va_S.rf⟩
  have hbA : ¬ FA es s.heap.size b := fun h => Nat.not_le.mpr hbl (es_FA h)
  have hl := lv_entry ([.ref b]) (n := 4) (Nat.le_of_ble_eq_true rfl)
  rw [lg_entry_eq]
  generalize (lg_sl ([.ref b]) ++ List.replicate (4 - (lg_sl ([.ref b])).length) Slot.unset).toArray = ls at hl ⊢
  have hl : lv_has ls 4 [(0, .ref b)] := hl
  generalize hlocs0 : ([] : List Loc) = locs at hH ⊢
  have hb : c.code = cL_law := hb
  unfold P_law at hp
  obtain ⟨hc_2, hp⟩ := hp
  obtain ⟨hc_3, hp⟩ := hp
  refine sx_new (pc := 0) (S := es) B hH coX11 dvX11 w_125 w_126 w_105 (show _ + 1 ≤ 600000 by omega) (show _ + 17 ≤ 7302250 by omega) dL_law_0 (fun q_1 H hq_1 hH => ?_)
  obtain ⟨S_1, eS_1⟩ : ∃ z : St, z = alo es q_1 11 0 := ⟨_, rfl⟩
  have hp := hp q_1 hq_1 S_1 eS_1
  have hH : Hp G (FA es s.heap.size) s.heap S_1 H locs := by rw [eS_1]; exact hH
  have hk_1 : kd S_1 q_1 = 11 := by rw [eS_1]; exact kd_alo
  refine W.eq (g2 := F0 m 3 ls [.ref q_1]) rfl ?_
  refine lv_dup (pc := 3) hx hb dL_law_3 rfl ?_
  obtain ⟨c_4, s_4, hb_4, hs_4, hp⟩ := hp
  refine sx_I (pc := 4) (As := []) (rest := [.ref q_1]) B hH hl.1 (C_X11_init G l q_1 _ c_4 s_4 _ hp) mi_X11_init rfl w_128 w_127 rfl rfl ⟨Nat.le_of_ble_eq_true rfl, Nat.le_of_ble_eq_true rfl⟩ (Nat.le_of_ble_eq_true rfl) ⟨(show _ + c_4 ≤ 600000 by omega), (show _ + s_4 ≤ 7302250 by omega)⟩ dL_law_4 (fun v S1 H locs hq hH => ?_)
  obtain ⟨rfl, hp⟩ := hq
  obtain ⟨S_5, eS_5⟩ : ∃ z : St, z = S1 := ⟨_, rfl⟩
  rw [← eS_5] at hp hH
  refine W.eq (g2 := F0 m 7 ls [.ref q_1]) rfl ?_
  refine lv_astore_n (pc := 7) (lv' := [(1, .ref q_1), (0, .ref b)]) hx hb dL_law_7 rfl hl (by decide) rfl (fun ls hl => ?_)
  obtain ⟨hc_7, hp⟩ := hp
  obtain ⟨hc_8, hp⟩ := hp
  refine sx_new (pc := 8) (S := S_5) B hH coX12 dvX12 w_1297 w_1298 w_118 (show _ + 1 ≤ 600000 by omega) (show _ + 51 ≤ 7302250 by omega) dL_law_8 (fun q_6 H hq_6 hH => ?_)
  obtain ⟨S_6, eS_6⟩ : ∃ z : St, z = alo S_5 q_6 12 0 := ⟨_, rfl⟩
  have hp := hp q_6 hq_6 S_6 eS_6
  have hH : Hp G (FA es s.heap.size) s.heap S_6 H locs := by rw [eS_6]; exact hH
  have hk_6 : kd S_6 q_6 = 12 := by rw [eS_6]; exact kd_alo
  refine W.eq (g2 := F0 m 11 ls [.ref q_6]) rfl ?_
  refine lv_dup (pc := 11) hx hb dL_law_11 rfl ?_
  obtain ⟨c_9, s_9, hb_9, hs_9, hp⟩ := hp
  refine sx_I (pc := 12) (As := []) (rest := [.ref q_6]) B hH hl.1 (C_X12_init G l q_6 _ c_9 s_9 _ hp) mi_X12_init rfl w_1300 w_1299 rfl rfl ⟨Nat.le_of_ble_eq_true rfl, Nat.le_of_ble_eq_true rfl⟩ (Nat.le_of_ble_eq_true rfl) ⟨(show _ + c_9 ≤ 600000 by omega), (show _ + s_9 ≤ 7302250 by omega)⟩ dL_law_12 (fun v S1 H locs hq hH => ?_)
  obtain ⟨rfl, hp⟩ := hq
  obtain ⟨S_10, eS_10⟩ : ∃ z : St, z = S1 := ⟨_, rfl⟩
  rw [← eS_10] at hp hH
  refine W.eq (g2 := F0 m 15 ls [.ref q_6]) rfl ?_
  refine lv_astore_n (pc := 15) (lv' := [(2, .ref q_6), (1, .ref q_1), (0, .ref b)]) hx hb dL_law_15 rfl hl (by decide) rfl (fun ls hl => ?_)
  refine lv_iconst (pc := 16) (v := 0) hx hb dL_law_16 (by decide) ?_
  refine lv_istore_n (pc := 17) (lv' := [(3, .int 0), (2, .ref q_6), (1, .ref q_1), (0, .ref b)]) hx hb dL_law_17 rfl hl (by decide) rfl (fun ls hl => ?_)
  obtain ⟨I_11, ⟨k0_11, h0_11⟩, hst_11⟩ := hp
  have kl_11 : ∀ (n_11 : Nat) (x3_12 : Int32) (S_13 : St) (b_14 : Nat) (d_14 : Nat) (H : Heap) (locs : List Loc) (ls : Array Slot) (cells slots : Nat), I_11 n_11 x3_12 S_13 b_14 d_14 → cells + b_14 ≤ 600000 → slots + d_14 ≤ 7302250 → Hp G (FA es s.heap.size) s.heap S_13 H locs → lv_has ls 4 [(0, .ref b), (1, .ref q_1), (2, .ref q_6), (3, .int x3_12)] → W p l e room_1 s m #[Value.ref b] below meth c H locs cells slots (lw_Z below #[Value.ref b] s) (F0 m 18 ls []) := by
    intro n_11
    induction n_11 using Nat.strongRecOn with
    | ind n_11 ih_11 =>
      intro x3_12 S_13 b_14 d_14 H locs ls cells slots hq9 hcc_11 hss_11 hH hl
      have hp := hst_11 n_11 x3_12 S_13 b_14 d_14 hq9
      refine lv_iload_n (pc := 18) hx hb dL_law_18 rfl (lv_at hl 3 rfl) ?_
      refine lv_aload_n (pc := 19) hx hb dL_law_19 rfl (lv_at hl 0 rfl) ?_
      refine va_slen (pc := 20) hx hb hX hbl hbA hH.2.2 dL_law_20 ?_
      refine W.eq (g2 := F0 m 21 ls [.int (nI L), .int x3_12]) rfl ?_
      refine lv_bipush (pc := 21) (v := 6) hx hb dL_law_21 (by decide) ?_
      refine lv_isub (pc := 23) hx hb dL_law_23 ?_
      refine lv_icmp_gt (pc := 24) (tgt := 1920) hx hb dL_law_24 (by decide) (fun cc_15 => ?_) (fun cc_15 => ?_)
      · have hp := hp.1 cc_15
        refine lv_iconst (pc := 1920) (v := 1) hx hb dL_law_1920 (by decide) ?_
        refine va_forget (fun q hq => es_FA (hH.2.2.2.2 q hq)) ?_
        refine W.widen (k := 600000) (n := 7302250) (show _ ≤ 600000 by omega) (show _ ≤ 7302250 by omega) ?_
        exact lw_ret hx hb hr hlk dL_law_1921
      · have hp := hp.2 cc_15
        refine lv_aload_n (pc := 27) hx hb dL_law_27 rfl (lv_at hl 0 rfl) ?_
        refine lv_iload_n (pc := 28) hx hb dL_law_28 rfl (lv_at hl 3 rfl) ?_
        obtain ⟨hc_16, hp⟩ := hp
        refine va_sld (pc := 29) hx hb hX hbl hbA hH.2.2 hc_16 dL_law_29 ?_
        refine lv_bipush (pc := 30) (v := 63) hx hb dL_law_30 (by decide) ?_
        refine lv_iand (pc := 32) hx hb dL_law_32 ?_
        refine lv_topi (fun v_17 ev_17 => ?_)
        have hp := hp v_17 ev_17
        by_cases cs_18_0 : v_17 = 0
        · have hp := hp.1 cs_18_0
          refine lv_tableIn (pc := 33) (tgt := 284) hx hb dL_law_33 (by rw [cs_18_0]; decide) (by rw [cs_18_0]; decide) (by rw [cs_18_0]; rfl) (by decide) ?_
          refine lv_aload_n (pc := 284) hx hb dL_law_284 rfl (lv_at hl 1 rfl) ?_
          obtain ⟨hk_19, hp⟩ := hp
          refine sx_V (pc := 285) (As := []) (rest := []) B hH hl.1 (C_X11_status G l q_1 _ _ hp) mi_X11_status coX11 hk_19 w_509 w_510 w_508 rfl rfl ⟨Nat.le_of_ble_eq_true rfl, Nat.le_of_ble_eq_true rfl⟩ (Nat.le_of_ble_eq_true rfl) ⟨(show _ + 0 ≤ 600000 by omega), (show _ + 0 ≤ 7302250 by omega)⟩ dL_law_285 (fun v S1 H locs hq hH => ?_)
          obtain ⟨r_20, rfl, e9, hp⟩ := hq
          rw [e9] at hH
          refine W.eq (g2 := F0 m 288 ls [.int r_20]) rfl ?_
          refine lv_aload_n (pc := 288) hx hb dL_law_288 rfl (lv_at hl 2 rfl) ?_
          obtain ⟨hk_21, hp⟩ := hp
          refine sx_V (pc := 289) (As := []) (rest := [.int r_20]) B hH hl.1 (C_X12_status G l q_6 _ _ hp) mi_X12_status coX12 hk_21 w_1459 w_1460 w_1458 rfl rfl ⟨Nat.le_of_ble_eq_true rfl, Nat.le_of_ble_eq_true rfl⟩ (Nat.le_of_ble_eq_true rfl) ⟨(show _ + 0 ≤ 600000 by omega), (show _ + 0 ≤ 7302250 by omega)⟩ dL_law_289 (fun v S1 H locs hq hH => ?_)
          obtain ⟨r_22, rfl, e9, hp⟩ := hq
          rw [e9] at hH
          refine W.eq (g2 := F0 m 292 ls [.int r_22, .int r_20]) rfl ?_
          refine lv_icmp_eq (pc := 292) (tgt := 1914) hx hb dL_law_292 (by decide) (fun cc_23 => ?_) (fun cc_23 => ?_)
          · have hp := hp.1 cc_23
            obtain ⟨v_24, ev_24⟩ : ∃ y : Int32, y = x3_12 + 6 := ⟨_, rfl⟩
            have hp := hp v_24 ev_24
            refine lv_iinc (pc := 1914) (v := v_24) (lv' := [(3, .int v_24), (0, .ref b), (1, .ref q_1), (2, .ref q_6)]) hx hb dL_law_1914 hl (k := 3) rfl (by rw [ev_24]; rfl) (by decide) rfl (fun ls hl => ?_)
            refine lv_goto (pc := 1917) (tgt := 18) hx hb dL_law_1917 (by decide) ?_
            obtain ⟨k9, hlt9, hp⟩ := hp
            exact ih_11 k9 hlt9 _ _ _ _ _ _ _ _ _ hp (show _ + b_14 ≤ 600000 by omega) (show _ + d_14 ≤ 7302250 by omega) hH (lv_sub hl [1, 2, 3, 0] rfl)
          · have hp := hp.2 cc_23
            refine lv_iconst (pc := 295) (v := 0) hx hb dL_law_295 (by decide) ?_
            exact hp.elim
        · have hp := hp.2 cs_18_0
          by_cases cs_18_1 : v_17 = 1
          · have hp := hp.1 cs_18_1
            refine lv_tableIn (pc := 33) (tgt := 297) hx hb dL_law_33 (by rw [cs_18_1]; decide) (by rw [cs_18_1]; decide) (by rw [cs_18_1]; rfl) (by decide) ?_
            refine lv_aload_n (pc := 297) hx hb dL_law_297 rfl (lv_at hl 1 rfl) ?_
            obtain ⟨hk_25, hp⟩ := hp
            refine sx_V (pc := 298) (As := []) (rest := []) B hH hl.1 (C_X11_top G l q_1 _ _ hp) mi_X11_top coX11 hk_25 w_513 w_514 w_512 rfl rfl ⟨Nat.le_of_ble_eq_true rfl, Nat.le_of_ble_eq_true rfl⟩ (Nat.le_of_ble_eq_true rfl) ⟨(show _ + 0 ≤ 600000 by omega), (show _ + 0 ≤ 7302250 by omega)⟩ dL_law_298 (fun v S1 H locs hq hH => ?_)
            obtain ⟨r_26, rfl, e9, hp⟩ := hq
            rw [e9] at hH
            refine W.eq (g2 := F0 m 301 ls [.long r_26]) rfl ?_
            refine lv_aload_n (pc := 301) hx hb dL_law_301 rfl (lv_at hl 2 rfl) ?_
            obtain ⟨hk_27, hp⟩ := hp
            refine sx_V (pc := 302) (As := []) (rest := [.long r_26]) B hH hl.1 (C_X12_top G l q_6 _ _ hp) mi_X12_top coX12 hk_27 w_1463 w_1464 w_1462 rfl rfl ⟨Nat.le_of_ble_eq_true rfl, Nat.le_of_ble_eq_true rfl⟩ (Nat.le_of_ble_eq_true rfl) ⟨(show _ + 0 ≤ 600000 by omega), (show _ + 0 ≤ 7302250 by omega)⟩ dL_law_302 (fun v S1 H locs hq hH => ?_)
            obtain ⟨r_28, rfl, e9, hp⟩ := hq
            rw [e9] at hH
            refine W.eq (g2 := F0 m 305 ls [.long r_28, .long r_26]) rfl ?_
            refine W.lcmp (pc := 305) hx hb dL_law_305 ?_
            refine lv_if_eq (pc := 306) (tgt := 1914) hx hb dL_law_306 (by decide) (fun cc_29 => ?_) (fun cc_29 => ?_)
            · have hp := hp.1 cc_29
              obtain ⟨v_30, ev_30⟩ : ∃ y : Int32, y = x3_12 + 6 := ⟨_, rfl⟩
              have hp := hp v_30 ev_30
              refine lv_iinc (pc := 1914) (v := v_30) (lv' := [(3, .int v_30), (0, .ref b), (1, .ref q_1), (2, .ref q_6)]) hx hb dL_law_1914 hl (k := 3) rfl (by rw [ev_30]; rfl) (by decide) rfl (fun ls hl => ?_)
              refine lv_goto (pc := 1917) (tgt := 18) hx hb dL_law_1917 (by decide) ?_
              obtain ⟨k9, hlt9, hp⟩ := hp
              exact ih_11 k9 hlt9 _ _ _ _ _ _ _ _ _ hp (show _ + b_14 ≤ 600000 by omega) (show _ + d_14 ≤ 7302250 by omega) hH (lv_sub hl [1, 2, 3, 0] rfl)
            · have hp := hp.2 cc_29
              refine lv_iconst (pc := 309) (v := 0) hx hb dL_law_309 (by decide) ?_
              exact hp.elim
          · have hp := hp.2 cs_18_1
            by_cases cs_18_2 : v_17 = 2
            · have hp := hp.1 cs_18_2
              refine lv_tableIn (pc := 33) (tgt := 311) hx hb dL_law_33 (by rw [cs_18_2]; decide) (by rw [cs_18_2]; decide) (by rw [cs_18_2]; rfl) (by decide) ?_
              refine lv_aload_n (pc := 311) hx hb dL_law_311 rfl (lv_at hl 1 rfl) ?_
              obtain ⟨hk_31, hp⟩ := hp
              refine sx_V (pc := 312) (As := []) (rest := []) B hH hl.1 (C_X11_bottom G l q_1 _ _ hp) mi_X11_bottom coX11 hk_31 w_517 w_518 w_516 rfl rfl ⟨Nat.le_of_ble_eq_true rfl, Nat.le_of_ble_eq_true rfl⟩ (Nat.le_of_ble_eq_true rfl) ⟨(show _ + 0 ≤ 600000 by omega), (show _ + 0 ≤ 7302250 by omega)⟩ dL_law_312 (fun v S1 H locs hq hH => ?_)
              obtain ⟨r_32, rfl, e9, hp⟩ := hq
              rw [e9] at hH
              refine W.eq (g2 := F0 m 315 ls [.long r_32]) rfl ?_
              refine lv_aload_n (pc := 315) hx hb dL_law_315 rfl (lv_at hl 2 rfl) ?_
              obtain ⟨hk_33, hp⟩ := hp
              refine sx_V (pc := 316) (As := []) (rest := [.long r_32]) B hH hl.1 (C_X12_bottom G l q_6 _ _ hp) mi_X12_bottom coX12 hk_33 w_1467 w_1468 w_1466 rfl rfl ⟨Nat.le_of_ble_eq_true rfl, Nat.le_of_ble_eq_true rfl⟩ (Nat.le_of_ble_eq_true rfl) ⟨(show _ + 0 ≤ 600000 by omega), (show _ + 0 ≤ 7302250 by omega)⟩ dL_law_316 (fun v S1 H locs hq hH => ?_)
              obtain ⟨r_34, rfl, e9, hp⟩ := hq
              rw [e9] at hH
              refine W.eq (g2 := F0 m 319 ls [.long r_34, .long r_32]) rfl ?_
              refine W.lcmp (pc := 319) hx hb dL_law_319 ?_
              refine lv_if_eq (pc := 320) (tgt := 1914) hx hb dL_law_320 (by decide) (fun cc_35 => ?_) (fun cc_35 => ?_)
              · have hp := hp.1 cc_35
                obtain ⟨v_36, ev_36⟩ : ∃ y : Int32, y = x3_12 + 6 := ⟨_, rfl⟩
                have hp := hp v_36 ev_36
                refine lv_iinc (pc := 1914) (v := v_36) (lv' := [(3, .int v_36), (0, .ref b), (1, .ref q_1), (2, .ref q_6)]) hx hb dL_law_1914 hl (k := 3) rfl (by rw [ev_36]; rfl) (by decide) rfl (fun ls hl => ?_)
                refine lv_goto (pc := 1917) (tgt := 18) hx hb dL_law_1917 (by decide) ?_
                obtain ⟨k9, hlt9, hp⟩ := hp
                exact ih_11 k9 hlt9 _ _ _ _ _ _ _ _ _ hp (show _ + b_14 ≤ 600000 by omega) (show _ + d_14 ≤ 7302250 by omega) hH (lv_sub hl [1, 2, 3, 0] rfl)
              · have hp := hp.2 cc_35
                refine lv_iconst (pc := 323) (v := 0) hx hb dL_law_323 (by decide) ?_
                exact hp.elim
            · have hp := hp.2 cs_18_2
              by_cases cs_18_3 : v_17 = 3
              · have hp := hp.1 cs_18_3
                refine lv_tableIn (pc := 33) (tgt := 325) hx hb dL_law_33 (by rw [cs_18_3]; decide) (by rw [cs_18_3]; decide) (by rw [cs_18_3]; rfl) (by decide) ?_
                refine lv_aload_n (pc := 325) hx hb dL_law_325 rfl (lv_at hl 1 rfl) ?_
                refine lv_aload_n (pc := 326) hx hb dL_law_326 rfl (lv_at hl 0 rfl) ?_
                refine lv_iload_n (pc := 327) hx hb dL_law_327 rfl (lv_at hl 3 rfl) ?_
                refine lv_iconst (pc := 328) (v := 1) hx hb dL_law_328 (by decide) ?_
                refine lv_iadd (pc := 329) hx hb dL_law_329 ?_
                obtain ⟨hc_37, hp⟩ := hp
                refine va_sld (pc := 330) hx hb hX hbl hbA hH.2.2 hc_37 dL_law_330 ?_
                refine lv_aload_n (pc := 331) hx hb dL_law_331 rfl (lv_at hl 0 rfl) ?_
                refine lv_iload_n (pc := 332) hx hb dL_law_332 rfl (lv_at hl 3 rfl) ?_
                refine lv_iconst (pc := 333) (v := 2) hx hb dL_law_333 (by decide) ?_
                refine lv_iadd (pc := 334) hx hb dL_law_334 ?_
                obtain ⟨hc_38, hp⟩ := hp
                refine va_sld (pc := 335) hx hb hX hbl hbA hH.2.2 hc_38 dL_law_335 ?_
                refine lv_aload_n (pc := 336) hx hb dL_law_336 rfl (lv_at hl 0 rfl) ?_
                refine lv_iload_n (pc := 337) hx hb dL_law_337 rfl (lv_at hl 3 rfl) ?_
                refine lv_iconst (pc := 338) (v := 3) hx hb dL_law_338 (by decide) ?_
                refine lv_iadd (pc := 339) hx hb dL_law_339 ?_
                obtain ⟨hc_39, hp⟩ := hp
                refine va_sld (pc := 340) hx hb hX hbl hbA hH.2.2 hc_39 dL_law_340 ?_
                obtain ⟨hk_40, hp⟩ := hp
                obtain ⟨c_41, s_41, hb_41, hs_41, hp⟩ := hp
                refine sx_V (pc := 341) (As := [.int (xs (x3_12 + 1).toNatClampNeg), .int (xs (x3_12 + 2).toNatClampNeg), .int (xs (x3_12 + 3).toNatClampNeg)]) (rest := []) B hH hl.1 (C_X11_tray G l q_1 (xs (x3_12 + 1).toNatClampNeg) (xs (x3_12 + 2).toNatClampNeg) (xs (x3_12 + 3).toNatClampNeg) _ c_41 s_41 _ hp) mi_X11_tray coX11 hk_40 w_521 w_522 w_520 rfl rfl ⟨Nat.le_of_ble_eq_true rfl, Nat.le_of_ble_eq_true rfl⟩ (Nat.le_of_ble_eq_true rfl) ⟨(show _ + c_41 ≤ 600000 by omega), (show _ + s_41 ≤ 7302250 by omega)⟩ dL_law_341 (fun v S1 H locs hq hH => ?_)
                obtain ⟨r_42, rfl, hp⟩ := hq
                obtain ⟨S_42, eS_42⟩ : ∃ z : St, z = S1 := ⟨_, rfl⟩
                rw [← eS_42] at hp hH
                refine W.eq (g2 := F0 m 344 ls [.int r_42]) rfl ?_
                refine lv_aload_n (pc := 344) hx hb dL_law_344 rfl (lv_at hl 2 rfl) ?_
                refine lv_aload_n (pc := 345) hx hb dL_law_345 rfl (lv_at hl 0 rfl) ?_
                refine lv_iload_n (pc := 346) hx hb dL_law_346 rfl (lv_at hl 3 rfl) ?_
                refine lv_iconst (pc := 347) (v := 1) hx hb dL_law_347 (by decide) ?_
                refine lv_iadd (pc := 348) hx hb dL_law_348 ?_
                obtain ⟨hc_43, hp⟩ := hp
                refine va_sld (pc := 349) hx hb hX hbl hbA hH.2.2 hc_43 dL_law_349 ?_
                refine lv_aload_n (pc := 350) hx hb dL_law_350 rfl (lv_at hl 0 rfl) ?_
                refine lv_iload_n (pc := 351) hx hb dL_law_351 rfl (lv_at hl 3 rfl) ?_
                refine lv_iconst (pc := 352) (v := 2) hx hb dL_law_352 (by decide) ?_
                refine lv_iadd (pc := 353) hx hb dL_law_353 ?_
                obtain ⟨hc_44, hp⟩ := hp
                refine va_sld (pc := 354) hx hb hX hbl hbA hH.2.2 hc_44 dL_law_354 ?_
                refine lv_aload_n (pc := 355) hx hb dL_law_355 rfl (lv_at hl 0 rfl) ?_
                refine lv_iload_n (pc := 356) hx hb dL_law_356 rfl (lv_at hl 3 rfl) ?_
                refine lv_iconst (pc := 357) (v := 3) hx hb dL_law_357 (by decide) ?_
                refine lv_iadd (pc := 358) hx hb dL_law_358 ?_
                obtain ⟨hc_45, hp⟩ := hp
                refine va_sld (pc := 359) hx hb hX hbl hbA hH.2.2 hc_45 dL_law_359 ?_
                obtain ⟨hk_46, hp⟩ := hp
                refine sx_V (pc := 360) (As := [.int (xs (x3_12 + 1).toNatClampNeg), .int (xs (x3_12 + 2).toNatClampNeg), .int (xs (x3_12 + 3).toNatClampNeg)]) (rest := [.int r_42]) B hH hl.1 (C_X12_tray G l q_6 (xs (x3_12 + 1).toNatClampNeg) (xs (x3_12 + 2).toNatClampNeg) (xs (x3_12 + 3).toNatClampNeg) _ _ hp) mi_X12_tray coX12 hk_46 w_1471 w_1472 w_1470 rfl rfl ⟨Nat.le_of_ble_eq_true rfl, Nat.le_of_ble_eq_true rfl⟩ (Nat.le_of_ble_eq_true rfl) ⟨(show _ + 0 ≤ 600000 by omega), (show _ + 0 ≤ 7302250 by omega)⟩ dL_law_360 (fun v S1 H locs hq hH => ?_)
                obtain ⟨r_47, F_47, J_47, rfl, e9, hp⟩ := hq
                rw [e9] at hH
                have hH : Hp G (FA es s.heap.size) s.heap (wA S_42 F_47 J_47 (gR S_42)) H locs := hH
                refine W.eq (g2 := F0 m 363 ls [.int r_47, .int r_42]) rfl ?_
                refine lv_icmp_eq (pc := 363) (tgt := 1914) hx hb dL_law_363 (by decide) (fun cc_48 => ?_) (fun cc_48 => ?_)
                · have hp := hp.1 cc_48
                  obtain ⟨v_49, ev_49⟩ : ∃ y : Int32, y = x3_12 + 6 := ⟨_, rfl⟩
                  have hp := hp v_49 ev_49
                  refine lv_iinc (pc := 1914) (v := v_49) (lv' := [(3, .int v_49), (0, .ref b), (1, .ref q_1), (2, .ref q_6)]) hx hb dL_law_1914 hl (k := 3) rfl (by rw [ev_49]; rfl) (by decide) rfl (fun ls hl => ?_)
                  refine lv_goto (pc := 1917) (tgt := 18) hx hb dL_law_1917 (by decide) ?_
                  obtain ⟨k9, hlt9, hp⟩ := hp
                  exact ih_11 k9 hlt9 _ _ _ _ _ _ _ _ _ hp (show _ + (b_14 - c_41) ≤ 600000 by omega) (show _ + (d_14 - s_41) ≤ 7302250 by omega) hH (lv_sub hl [1, 2, 3, 0] rfl)
                · have hp := hp.2 cc_48
                  refine lv_iconst (pc := 366) (v := 0) hx hb dL_law_366 (by decide) ?_
                  exact hp.elim
              · have hp := hp.2 cs_18_3
                by_cases cs_18_4 : v_17 = 4
                · have hp := hp.1 cs_18_4
                  refine lv_tableIn (pc := 33) (tgt := 368) hx hb dL_law_33 (by rw [cs_18_4]; decide) (by rw [cs_18_4]; decide) (by rw [cs_18_4]; rfl) (by decide) ?_
                  refine lv_aload_n (pc := 368) hx hb dL_law_368 rfl (lv_at hl 1 rfl) ?_
                  refine lv_aload_n (pc := 369) hx hb dL_law_369 rfl (lv_at hl 0 rfl) ?_
                  refine lv_iload_n (pc := 370) hx hb dL_law_370 rfl (lv_at hl 3 rfl) ?_
                  refine lv_iconst (pc := 371) (v := 1) hx hb dL_law_371 (by decide) ?_
                  refine lv_iadd (pc := 372) hx hb dL_law_372 ?_
                  obtain ⟨hc_50, hp⟩ := hp
                  refine va_sld (pc := 373) hx hb hX hbl hbA hH.2.2 hc_50 dL_law_373 ?_
                  refine lv_aload_n (pc := 374) hx hb dL_law_374 rfl (lv_at hl 0 rfl) ?_
                  refine lv_iload_n (pc := 375) hx hb dL_law_375 rfl (lv_at hl 3 rfl) ?_
                  refine lv_iconst (pc := 376) (v := 2) hx hb dL_law_376 (by decide) ?_
                  refine lv_iadd (pc := 377) hx hb dL_law_377 ?_
                  obtain ⟨hc_51, hp⟩ := hp
                  refine va_sld (pc := 378) hx hb hX hbl hbA hH.2.2 hc_51 dL_law_378 ?_
                  refine lv_aload_n (pc := 379) hx hb dL_law_379 rfl (lv_at hl 0 rfl) ?_
                  refine lv_iload_n (pc := 380) hx hb dL_law_380 rfl (lv_at hl 3 rfl) ?_
                  refine lv_iconst (pc := 381) (v := 3) hx hb dL_law_381 (by decide) ?_
                  refine lv_iadd (pc := 382) hx hb dL_law_382 ?_
                  obtain ⟨hc_52, hp⟩ := hp
                  refine va_sld (pc := 383) hx hb hX hbl hbA hH.2.2 hc_52 dL_law_383 ?_
                  refine lv_i2l (pc := 384) (v := (xs (x3_12 + 3).toNatClampNeg).toInt64) hx hb dL_law_384 rfl ?_
                  refine lv_bipush (pc := 385) (v := 32) hx hb dL_law_385 (by decide) ?_
                  refine lv_lshl (pc := 387) (v := lshl ((xs (x3_12 + 3).toNatClampNeg).toInt64) 32) hx hb dL_law_387 rfl ?_
                  refine lv_aload_n (pc := 388) hx hb dL_law_388 rfl (lv_at hl 0 rfl) ?_
                  refine lv_iload_n (pc := 389) hx hb dL_law_389 rfl (lv_at hl 3 rfl) ?_
                  refine lv_iconst (pc := 390) (v := 4) hx hb dL_law_390 (by decide) ?_
                  refine lv_iadd (pc := 391) hx hb dL_law_391 ?_
                  obtain ⟨hc_53, hp⟩ := hp
                  refine va_sld (pc := 392) hx hb hX hbl hbA hH.2.2 hc_53 dL_law_392 ?_
                  refine lv_i2l (pc := 393) (v := (xs (x3_12 + 4).toNatClampNeg).toInt64) hx hb dL_law_393 rfl ?_
                  refine sx_ldc2 (pc := 394) (v := 4294967295) B w_1964 dL_law_394 ?_
                  refine lv_land (pc := 397) hx hb dL_law_397 ?_
                  refine lv_lor (pc := 398) hx hb dL_law_398 ?_
                  obtain ⟨hk_54, hp⟩ := hp
                  refine sx_V (pc := 399) (As := [.int (xs (x3_12 + 1).toNatClampNeg), .int (xs (x3_12 + 2).toNatClampNeg), .long ((lshl ((xs (x3_12 + 3).toNatClampNeg).toInt64) 32) ||| (((xs (x3_12 + 4).toNatClampNeg).toInt64) &&& 4294967295))]) (rest := []) B hH hl.1 (C_X11_write G l q_1 (xs (x3_12 + 1).toNatClampNeg) (xs (x3_12 + 2).toNatClampNeg) ((lshl ((xs (x3_12 + 3).toNatClampNeg).toInt64) 32) ||| (((xs (x3_12 + 4).toNatClampNeg).toInt64) &&& 4294967295)) _ _ hp) mi_X11_write coX11 hk_54 w_550 w_551 w_549 rfl rfl ⟨Nat.le_of_ble_eq_true rfl, Nat.le_of_ble_eq_true rfl⟩ (Nat.le_of_ble_eq_true rfl) ⟨(show _ + 0 ≤ 600000 by omega), (show _ + 0 ≤ 7302250 by omega)⟩ dL_law_399 (fun v S1 H locs hq hH => ?_)
                  obtain ⟨r_55, F_55, J_55, rfl, e9, hp⟩ := hq
                  rw [e9] at hH
                  have hH : Hp G (FA es s.heap.size) s.heap (wA S_13 F_55 J_55 (gR S_13)) H locs := hH
                  refine W.eq (g2 := F0 m 402 ls [.int r_55]) rfl ?_
                  refine lv_aload_n (pc := 402) hx hb dL_law_402 rfl (lv_at hl 2 rfl) ?_
                  refine lv_aload_n (pc := 403) hx hb dL_law_403 rfl (lv_at hl 0 rfl) ?_
                  refine lv_iload_n (pc := 404) hx hb dL_law_404 rfl (lv_at hl 3 rfl) ?_
                  refine lv_iconst (pc := 405) (v := 1) hx hb dL_law_405 (by decide) ?_
                  refine lv_iadd (pc := 406) hx hb dL_law_406 ?_
                  obtain ⟨hc_56, hp⟩ := hp
                  refine va_sld (pc := 407) hx hb hX hbl hbA hH.2.2 hc_56 dL_law_407 ?_
                  refine lv_aload_n (pc := 408) hx hb dL_law_408 rfl (lv_at hl 0 rfl) ?_
                  refine lv_iload_n (pc := 409) hx hb dL_law_409 rfl (lv_at hl 3 rfl) ?_
                  refine lv_iconst (pc := 410) (v := 2) hx hb dL_law_410 (by decide) ?_
                  refine lv_iadd (pc := 411) hx hb dL_law_411 ?_
                  obtain ⟨hc_57, hp⟩ := hp
                  refine va_sld (pc := 412) hx hb hX hbl hbA hH.2.2 hc_57 dL_law_412 ?_
                  refine lv_aload_n (pc := 413) hx hb dL_law_413 rfl (lv_at hl 0 rfl) ?_
                  refine lv_iload_n (pc := 414) hx hb dL_law_414 rfl (lv_at hl 3 rfl) ?_
                  refine lv_iconst (pc := 415) (v := 3) hx hb dL_law_415 (by decide) ?_
                  refine lv_iadd (pc := 416) hx hb dL_law_416 ?_
                  obtain ⟨hc_58, hp⟩ := hp
                  refine va_sld (pc := 417) hx hb hX hbl hbA hH.2.2 hc_58 dL_law_417 ?_
                  refine lv_i2l (pc := 418) (v := (xs (x3_12 + 3).toNatClampNeg).toInt64) hx hb dL_law_418 rfl ?_
                  refine lv_bipush (pc := 419) (v := 32) hx hb dL_law_419 (by decide) ?_
                  refine lv_lshl (pc := 421) (v := lshl ((xs (x3_12 + 3).toNatClampNeg).toInt64) 32) hx hb dL_law_421 rfl ?_
                  refine lv_aload_n (pc := 422) hx hb dL_law_422 rfl (lv_at hl 0 rfl) ?_
                  refine lv_iload_n (pc := 423) hx hb dL_law_423 rfl (lv_at hl 3 rfl) ?_
                  refine lv_iconst (pc := 424) (v := 4) hx hb dL_law_424 (by decide) ?_
                  refine lv_iadd (pc := 425) hx hb dL_law_425 ?_
                  obtain ⟨hc_59, hp⟩ := hp
                  refine va_sld (pc := 426) hx hb hX hbl hbA hH.2.2 hc_59 dL_law_426 ?_
                  refine lv_i2l (pc := 427) (v := (xs (x3_12 + 4).toNatClampNeg).toInt64) hx hb dL_law_427 rfl ?_
                  refine sx_ldc2 (pc := 428) (v := 4294967295) B w_1964 dL_law_428 ?_
                  refine lv_land (pc := 431) hx hb dL_law_431 ?_
                  refine lv_lor (pc := 432) hx hb dL_law_432 ?_
                  obtain ⟨hk_60, hp⟩ := hp
                  refine sx_V (pc := 433) (As := [.int (xs (x3_12 + 1).toNatClampNeg), .int (xs (x3_12 + 2).toNatClampNeg), .long ((lshl ((xs (x3_12 + 3).toNatClampNeg).toInt64) 32) ||| (((xs (x3_12 + 4).toNatClampNeg).toInt64) &&& 4294967295))]) (rest := [.int r_55]) B hH hl.1 (C_X12_write G l q_6 (xs (x3_12 + 1).toNatClampNeg) (xs (x3_12 + 2).toNatClampNeg) ((lshl ((xs (x3_12 + 3).toNatClampNeg).toInt64) 32) ||| (((xs (x3_12 + 4).toNatClampNeg).toInt64) &&& 4294967295)) _ _ hp) mi_X12_write coX12 hk_60 w_1482 w_1483 w_1481 rfl rfl ⟨Nat.le_of_ble_eq_true rfl, Nat.le_of_ble_eq_true rfl⟩ (Nat.le_of_ble_eq_true rfl) ⟨(show _ + 0 ≤ 600000 by omega), (show _ + 0 ≤ 7302250 by omega)⟩ dL_law_433 (fun v S1 H locs hq hH => ?_)
                  obtain ⟨r_61, F_61, J_61, rfl, e9, hp⟩ := hq
                  rw [e9] at hH
                  have hH : Hp G (FA es s.heap.size) s.heap (wA S_13 F_61 J_61 (gR S_13)) H locs := hH
                  refine W.eq (g2 := F0 m 436 ls [.int r_61, .int r_55]) rfl ?_
                  refine lv_icmp_eq (pc := 436) (tgt := 1914) hx hb dL_law_436 (by decide) (fun cc_62 => ?_) (fun cc_62 => ?_)
                  · have hp := hp.1 cc_62
                    obtain ⟨v_63, ev_63⟩ : ∃ y : Int32, y = x3_12 + 6 := ⟨_, rfl⟩
                    have hp := hp v_63 ev_63
                    refine lv_iinc (pc := 1914) (v := v_63) (lv' := [(3, .int v_63), (0, .ref b), (1, .ref q_1), (2, .ref q_6)]) hx hb dL_law_1914 hl (k := 3) rfl (by rw [ev_63]; rfl) (by decide) rfl (fun ls hl => ?_)
                    refine lv_goto (pc := 1917) (tgt := 18) hx hb dL_law_1917 (by decide) ?_
                    obtain ⟨k9, hlt9, hp⟩ := hp
                    exact ih_11 k9 hlt9 _ _ _ _ _ _ _ _ _ hp (show _ + b_14 ≤ 600000 by omega) (show _ + d_14 ≤ 7302250 by omega) hH (lv_sub hl [1, 2, 3, 0] rfl)
                  · have hp := hp.2 cc_62
                    refine lv_iconst (pc := 439) (v := 0) hx hb dL_law_439 (by decide) ?_
                    exact hp.elim
                · have hp := hp.2 cs_18_4
                  by_cases cs_18_5 : v_17 = 5
                  · have hp := hp.1 cs_18_5
                    refine lv_tableIn (pc := 33) (tgt := 441) hx hb dL_law_33 (by rw [cs_18_5]; decide) (by rw [cs_18_5]; decide) (by rw [cs_18_5]; rfl) (by decide) ?_
                    refine lv_aload_n (pc := 441) hx hb dL_law_441 rfl (lv_at hl 1 rfl) ?_
                    refine lv_aload_n (pc := 442) hx hb dL_law_442 rfl (lv_at hl 0 rfl) ?_
                    refine lv_iload_n (pc := 443) hx hb dL_law_443 rfl (lv_at hl 3 rfl) ?_
                    refine lv_iconst (pc := 444) (v := 1) hx hb dL_law_444 (by decide) ?_
                    refine lv_iadd (pc := 445) hx hb dL_law_445 ?_
                    obtain ⟨hc_64, hp⟩ := hp
                    refine va_sld (pc := 446) hx hb hX hbl hbA hH.2.2 hc_64 dL_law_446 ?_
                    refine lv_aload_n (pc := 447) hx hb dL_law_447 rfl (lv_at hl 0 rfl) ?_
                    refine lv_iload_n (pc := 448) hx hb dL_law_448 rfl (lv_at hl 3 rfl) ?_
                    refine lv_iconst (pc := 449) (v := 2) hx hb dL_law_449 (by decide) ?_
                    refine lv_iadd (pc := 450) hx hb dL_law_450 ?_
                    obtain ⟨hc_65, hp⟩ := hp
                    refine va_sld (pc := 451) hx hb hX hbl hbA hH.2.2 hc_65 dL_law_451 ?_
                    obtain ⟨hk_66, hp⟩ := hp
                    refine sx_V (pc := 452) (As := [.int (xs (x3_12 + 1).toNatClampNeg), .int (xs (x3_12 + 2).toNatClampNeg)]) (rest := []) B hH hl.1 (C_X11_read G l q_1 (xs (x3_12 + 1).toNatClampNeg) (xs (x3_12 + 2).toNatClampNeg) _ _ hp) mi_X11_read coX11 hk_66 w_565 w_566 w_564 rfl rfl ⟨Nat.le_of_ble_eq_true rfl, Nat.le_of_ble_eq_true rfl⟩ (Nat.le_of_ble_eq_true rfl) ⟨(show _ + 0 ≤ 600000 by omega), (show _ + 0 ≤ 7302250 by omega)⟩ dL_law_452 (fun v S1 H locs hq hH => ?_)
                    obtain ⟨r_67, F_67, rfl, e9, hp⟩ := hq
                    rw [e9] at hH
                    have hH : Hp G (FA es s.heap.size) s.heap (wI S_13 F_67) H locs := hH
                    refine W.eq (g2 := F0 m 455 ls [.long r_67]) rfl ?_
                    refine lv_aload_n (pc := 455) hx hb dL_law_455 rfl (lv_at hl 2 rfl) ?_
                    refine lv_aload_n (pc := 456) hx hb dL_law_456 rfl (lv_at hl 0 rfl) ?_
                    refine lv_iload_n (pc := 457) hx hb dL_law_457 rfl (lv_at hl 3 rfl) ?_
                    refine lv_iconst (pc := 458) (v := 1) hx hb dL_law_458 (by decide) ?_
                    refine lv_iadd (pc := 459) hx hb dL_law_459 ?_
                    obtain ⟨hc_68, hp⟩ := hp
                    refine va_sld (pc := 460) hx hb hX hbl hbA hH.2.2 hc_68 dL_law_460 ?_
                    refine lv_aload_n (pc := 461) hx hb dL_law_461 rfl (lv_at hl 0 rfl) ?_
                    refine lv_iload_n (pc := 462) hx hb dL_law_462 rfl (lv_at hl 3 rfl) ?_
                    refine lv_iconst (pc := 463) (v := 2) hx hb dL_law_463 (by decide) ?_
                    refine lv_iadd (pc := 464) hx hb dL_law_464 ?_
                    obtain ⟨hc_69, hp⟩ := hp
                    refine va_sld (pc := 465) hx hb hX hbl hbA hH.2.2 hc_69 dL_law_465 ?_
                    obtain ⟨hk_70, hp⟩ := hp
                    refine sx_V (pc := 466) (As := [.int (xs (x3_12 + 1).toNatClampNeg), .int (xs (x3_12 + 2).toNatClampNeg)]) (rest := [.long r_67]) B hH hl.1 (C_X12_read G l q_6 (xs (x3_12 + 1).toNatClampNeg) (xs (x3_12 + 2).toNatClampNeg) _ _ hp) mi_X12_read coX12 hk_70 w_1493 w_1494 w_1492 rfl rfl ⟨Nat.le_of_ble_eq_true rfl, Nat.le_of_ble_eq_true rfl⟩ (Nat.le_of_ble_eq_true rfl) ⟨(show _ + 0 ≤ 600000 by omega), (show _ + 0 ≤ 7302250 by omega)⟩ dL_law_466 (fun v S1 H locs hq hH => ?_)
                    obtain ⟨r_71, F_71, rfl, e9, hp⟩ := hq
                    rw [e9] at hH
                    have hH : Hp G (FA es s.heap.size) s.heap (wI S_13 F_71) H locs := hH
                    refine W.eq (g2 := F0 m 469 ls [.long r_71, .long r_67]) rfl ?_
                    refine W.lcmp (pc := 469) hx hb dL_law_469 ?_
                    refine lv_if_eq (pc := 470) (tgt := 1914) hx hb dL_law_470 (by decide) (fun cc_72 => ?_) (fun cc_72 => ?_)
                    · have hp := hp.1 cc_72
                      obtain ⟨v_73, ev_73⟩ : ∃ y : Int32, y = x3_12 + 6 := ⟨_, rfl⟩
                      have hp := hp v_73 ev_73
                      refine lv_iinc (pc := 1914) (v := v_73) (lv' := [(3, .int v_73), (0, .ref b), (1, .ref q_1), (2, .ref q_6)]) hx hb dL_law_1914 hl (k := 3) rfl (by rw [ev_73]; rfl) (by decide) rfl (fun ls hl => ?_)
                      refine lv_goto (pc := 1917) (tgt := 18) hx hb dL_law_1917 (by decide) ?_
                      obtain ⟨k9, hlt9, hp⟩ := hp
                      exact ih_11 k9 hlt9 _ _ _ _ _ _ _ _ _ hp (show _ + b_14 ≤ 600000 by omega) (show _ + d_14 ≤ 7302250 by omega) hH (lv_sub hl [1, 2, 3, 0] rfl)
                    · have hp := hp.2 cc_72
                      refine lv_iconst (pc := 473) (v := 0) hx hb dL_law_473 (by decide) ?_
                      exact hp.elim
                  · have hp := hp.2 cs_18_5
                    by_cases cs_18_6 : v_17 = 6
                    · have hp := hp.1 cs_18_6
                      refine lv_tableIn (pc := 33) (tgt := 475) hx hb dL_law_33 (by rw [cs_18_6]; decide) (by rw [cs_18_6]; decide) (by rw [cs_18_6]; rfl) (by decide) ?_
                      refine lv_aload_n (pc := 475) hx hb dL_law_475 rfl (lv_at hl 1 rfl) ?_
                      refine lv_aload_n (pc := 476) hx hb dL_law_476 rfl (lv_at hl 0 rfl) ?_
                      refine lv_iload_n (pc := 477) hx hb dL_law_477 rfl (lv_at hl 3 rfl) ?_
                      refine lv_iconst (pc := 478) (v := 1) hx hb dL_law_478 (by decide) ?_
                      refine lv_iadd (pc := 479) hx hb dL_law_479 ?_
                      obtain ⟨hc_74, hp⟩ := hp
                      refine va_sld (pc := 480) hx hb hX hbl hbA hH.2.2 hc_74 dL_law_480 ?_
                      refine lv_aload_n (pc := 481) hx hb dL_law_481 rfl (lv_at hl 0 rfl) ?_
                      refine lv_iload_n (pc := 482) hx hb dL_law_482 rfl (lv_at hl 3 rfl) ?_
                      refine lv_iconst (pc := 483) (v := 2) hx hb dL_law_483 (by decide) ?_
                      refine lv_iadd (pc := 484) hx hb dL_law_484 ?_
                      obtain ⟨hc_75, hp⟩ := hp
                      refine va_sld (pc := 485) hx hb hX hbl hbA hH.2.2 hc_75 dL_law_485 ?_
                      refine lv_aload_n (pc := 486) hx hb dL_law_486 rfl (lv_at hl 0 rfl) ?_
                      refine lv_iload_n (pc := 487) hx hb dL_law_487 rfl (lv_at hl 3 rfl) ?_
                      refine lv_iconst (pc := 488) (v := 3) hx hb dL_law_488 (by decide) ?_
                      refine lv_iadd (pc := 489) hx hb dL_law_489 ?_
                      obtain ⟨hc_76, hp⟩ := hp
                      refine va_sld (pc := 490) hx hb hX hbl hbA hH.2.2 hc_76 dL_law_490 ?_
                      refine lv_aload_n (pc := 491) hx hb dL_law_491 rfl (lv_at hl 0 rfl) ?_
                      refine lv_iload_n (pc := 492) hx hb dL_law_492 rfl (lv_at hl 3 rfl) ?_
                      refine lv_iconst (pc := 493) (v := 4) hx hb dL_law_493 (by decide) ?_
                      refine lv_iadd (pc := 494) hx hb dL_law_494 ?_
                      obtain ⟨hc_77, hp⟩ := hp
                      refine va_sld (pc := 495) hx hb hX hbl hbA hH.2.2 hc_77 dL_law_495 ?_
                      refine lv_aload_n (pc := 496) hx hb dL_law_496 rfl (lv_at hl 0 rfl) ?_
                      refine lv_iload_n (pc := 497) hx hb dL_law_497 rfl (lv_at hl 3 rfl) ?_
                      refine lv_iconst (pc := 498) (v := 5) hx hb dL_law_498 (by decide) ?_
                      refine lv_iadd (pc := 499) hx hb dL_law_499 ?_
                      obtain ⟨hc_78, hp⟩ := hp
                      refine va_sld (pc := 500) hx hb hX hbl hbA hH.2.2 hc_78 dL_law_500 ?_
                      obtain ⟨hk_79, hp⟩ := hp
                      refine sx_V (pc := 501) (As := [.int (xs (x3_12 + 1).toNatClampNeg), .int (xs (x3_12 + 2).toNatClampNeg), .int (xs (x3_12 + 3).toNatClampNeg), .int (xs (x3_12 + 4).toNatClampNeg), .int (xs (x3_12 + 5).toNatClampNeg)]) (rest := []) B hH hl.1 (C_X11_pour G l q_1 (xs (x3_12 + 1).toNatClampNeg) (xs (x3_12 + 2).toNatClampNeg) (xs (x3_12 + 3).toNatClampNeg) (xs (x3_12 + 4).toNatClampNeg) (xs (x3_12 + 5).toNatClampNeg) _ _ hp) mi_X11_pour coX11 hk_79 w_573 w_574 w_572 rfl rfl ⟨Nat.le_of_ble_eq_true rfl, Nat.le_of_ble_eq_true rfl⟩ (Nat.le_of_ble_eq_true rfl) ⟨(show _ + 0 ≤ 600000 by omega), (show _ + 0 ≤ 7302250 by omega)⟩ dL_law_501 (fun v S1 H locs hq hH => ?_)
                      obtain ⟨r_80, F_80, J_80, rfl, e9, hp⟩ := hq
                      rw [e9] at hH
                      have hH : Hp G (FA es s.heap.size) s.heap (wA S_13 F_80 J_80 (gR S_13)) H locs := hH
                      refine W.eq (g2 := F0 m 504 ls [.int r_80]) rfl ?_
                      refine lv_aload_n (pc := 504) hx hb dL_law_504 rfl (lv_at hl 2 rfl) ?_
                      refine lv_aload_n (pc := 505) hx hb dL_law_505 rfl (lv_at hl 0 rfl) ?_
                      refine lv_iload_n (pc := 506) hx hb dL_law_506 rfl (lv_at hl 3 rfl) ?_
                      refine lv_iconst (pc := 507) (v := 1) hx hb dL_law_507 (by decide) ?_
                      refine lv_iadd (pc := 508) hx hb dL_law_508 ?_
                      obtain ⟨hc_81, hp⟩ := hp
                      refine va_sld (pc := 509) hx hb hX hbl hbA hH.2.2 hc_81 dL_law_509 ?_
                      refine lv_aload_n (pc := 510) hx hb dL_law_510 rfl (lv_at hl 0 rfl) ?_
                      refine lv_iload_n (pc := 511) hx hb dL_law_511 rfl (lv_at hl 3 rfl) ?_
                      refine lv_iconst (pc := 512) (v := 2) hx hb dL_law_512 (by decide) ?_
                      refine lv_iadd (pc := 513) hx hb dL_law_513 ?_
                      obtain ⟨hc_82, hp⟩ := hp
                      refine va_sld (pc := 514) hx hb hX hbl hbA hH.2.2 hc_82 dL_law_514 ?_
                      refine lv_aload_n (pc := 515) hx hb dL_law_515 rfl (lv_at hl 0 rfl) ?_
                      refine lv_iload_n (pc := 516) hx hb dL_law_516 rfl (lv_at hl 3 rfl) ?_
                      refine lv_iconst (pc := 517) (v := 3) hx hb dL_law_517 (by decide) ?_
                      refine lv_iadd (pc := 518) hx hb dL_law_518 ?_
                      obtain ⟨hc_83, hp⟩ := hp
                      refine va_sld (pc := 519) hx hb hX hbl hbA hH.2.2 hc_83 dL_law_519 ?_
                      refine lv_aload_n (pc := 520) hx hb dL_law_520 rfl (lv_at hl 0 rfl) ?_
                      refine lv_iload_n (pc := 521) hx hb dL_law_521 rfl (lv_at hl 3 rfl) ?_
                      refine lv_iconst (pc := 522) (v := 4) hx hb dL_law_522 (by decide) ?_
                      refine lv_iadd (pc := 523) hx hb dL_law_523 ?_
                      obtain ⟨hc_84, hp⟩ := hp
                      refine va_sld (pc := 524) hx hb hX hbl hbA hH.2.2 hc_84 dL_law_524 ?_
                      refine lv_aload_n (pc := 525) hx hb dL_law_525 rfl (lv_at hl 0 rfl) ?_
                      refine lv_iload_n (pc := 526) hx hb dL_law_526 rfl (lv_at hl 3 rfl) ?_
                      refine lv_iconst (pc := 527) (v := 5) hx hb dL_law_527 (by decide) ?_
                      refine lv_iadd (pc := 528) hx hb dL_law_528 ?_
                      obtain ⟨hc_85, hp⟩ := hp
                      refine va_sld (pc := 529) hx hb hX hbl hbA hH.2.2 hc_85 dL_law_529 ?_
                      obtain ⟨hk_86, hp⟩ := hp
                      refine sx_V (pc := 530) (As := [.int (xs (x3_12 + 1).toNatClampNeg), .int (xs (x3_12 + 2).toNatClampNeg), .int (xs (x3_12 + 3).toNatClampNeg), .int (xs (x3_12 + 4).toNatClampNeg), .int (xs (x3_12 + 5).toNatClampNeg)]) (rest := [.int r_80]) B hH hl.1 (C_X12_pour G l q_6 (xs (x3_12 + 1).toNatClampNeg) (xs (x3_12 + 2).toNatClampNeg) (xs (x3_12 + 3).toNatClampNeg) (xs (x3_12 + 4).toNatClampNeg) (xs (x3_12 + 5).toNatClampNeg) _ _ hp) mi_X12_pour coX12 hk_86 w_1498 w_1499 w_1497 rfl rfl ⟨Nat.le_of_ble_eq_true rfl, Nat.le_of_ble_eq_true rfl⟩ (Nat.le_of_ble_eq_true rfl) ⟨(show _ + 0 ≤ 600000 by omega), (show _ + 0 ≤ 7302250 by omega)⟩ dL_law_530 (fun v S1 H locs hq hH => ?_)
                      obtain ⟨r_87, F_87, J_87, rfl, e9, hp⟩ := hq
                      rw [e9] at hH
                      have hH : Hp G (FA es s.heap.size) s.heap (wA S_13 F_87 J_87 (gR S_13)) H locs := hH
                      refine W.eq (g2 := F0 m 533 ls [.int r_87, .int r_80]) rfl ?_
                      refine lv_icmp_eq (pc := 533) (tgt := 1914) hx hb dL_law_533 (by decide) (fun cc_88 => ?_) (fun cc_88 => ?_)
                      · have hp := hp.1 cc_88
                        obtain ⟨v_89, ev_89⟩ : ∃ y : Int32, y = x3_12 + 6 := ⟨_, rfl⟩
                        have hp := hp v_89 ev_89
                        refine lv_iinc (pc := 1914) (v := v_89) (lv' := [(3, .int v_89), (0, .ref b), (1, .ref q_1), (2, .ref q_6)]) hx hb dL_law_1914 hl (k := 3) rfl (by rw [ev_89]; rfl) (by decide) rfl (fun ls hl => ?_)
                        refine lv_goto (pc := 1917) (tgt := 18) hx hb dL_law_1917 (by decide) ?_
                        obtain ⟨k9, hlt9, hp⟩ := hp
                        exact ih_11 k9 hlt9 _ _ _ _ _ _ _ _ _ hp (show _ + b_14 ≤ 600000 by omega) (show _ + d_14 ≤ 7302250 by omega) hH (lv_sub hl [1, 2, 3, 0] rfl)
                      · have hp := hp.2 cc_88
                        refine lv_iconst (pc := 536) (v := 0) hx hb dL_law_536 (by decide) ?_
                        exact hp.elim
                    · have hp := hp.2 cs_18_6
                      by_cases cs_18_7 : v_17 = 7
                      · have hp := hp.1 cs_18_7
                        refine lv_tableIn (pc := 33) (tgt := 538) hx hb dL_law_33 (by rw [cs_18_7]; decide) (by rw [cs_18_7]; decide) (by rw [cs_18_7]; rfl) (by decide) ?_
                        refine lv_aload_n (pc := 538) hx hb dL_law_538 rfl (lv_at hl 1 rfl) ?_
                        refine lv_aload_n (pc := 539) hx hb dL_law_539 rfl (lv_at hl 0 rfl) ?_
                        refine lv_iload_n (pc := 540) hx hb dL_law_540 rfl (lv_at hl 3 rfl) ?_
                        refine lv_iconst (pc := 541) (v := 1) hx hb dL_law_541 (by decide) ?_
                        refine lv_iadd (pc := 542) hx hb dL_law_542 ?_
                        obtain ⟨hc_90, hp⟩ := hp
                        refine va_sld (pc := 543) hx hb hX hbl hbA hH.2.2 hc_90 dL_law_543 ?_
                        refine lv_aload_n (pc := 544) hx hb dL_law_544 rfl (lv_at hl 0 rfl) ?_
                        refine lv_iload_n (pc := 545) hx hb dL_law_545 rfl (lv_at hl 3 rfl) ?_
                        refine lv_iconst (pc := 546) (v := 2) hx hb dL_law_546 (by decide) ?_
                        refine lv_iadd (pc := 547) hx hb dL_law_547 ?_
                        obtain ⟨hc_91, hp⟩ := hp
                        refine va_sld (pc := 548) hx hb hX hbl hbA hH.2.2 hc_91 dL_law_548 ?_
                        refine lv_aload_n (pc := 549) hx hb dL_law_549 rfl (lv_at hl 0 rfl) ?_
                        refine lv_iload_n (pc := 550) hx hb dL_law_550 rfl (lv_at hl 3 rfl) ?_
                        refine lv_iconst (pc := 551) (v := 3) hx hb dL_law_551 (by decide) ?_
                        refine lv_iadd (pc := 552) hx hb dL_law_552 ?_
                        obtain ⟨hc_92, hp⟩ := hp
                        refine va_sld (pc := 553) hx hb hX hbl hbA hH.2.2 hc_92 dL_law_553 ?_
                        refine lv_aload_n (pc := 554) hx hb dL_law_554 rfl (lv_at hl 0 rfl) ?_
                        refine lv_iload_n (pc := 555) hx hb dL_law_555 rfl (lv_at hl 3 rfl) ?_
                        refine lv_iconst (pc := 556) (v := 4) hx hb dL_law_556 (by decide) ?_
                        refine lv_iadd (pc := 557) hx hb dL_law_557 ?_
                        obtain ⟨hc_93, hp⟩ := hp
                        refine va_sld (pc := 558) hx hb hX hbl hbA hH.2.2 hc_93 dL_law_558 ?_
                        refine lv_aload_n (pc := 559) hx hb dL_law_559 rfl (lv_at hl 0 rfl) ?_
                        refine lv_iload_n (pc := 560) hx hb dL_law_560 rfl (lv_at hl 3 rfl) ?_
                        refine lv_iconst (pc := 561) (v := 5) hx hb dL_law_561 (by decide) ?_
                        refine lv_iadd (pc := 562) hx hb dL_law_562 ?_
                        obtain ⟨hc_94, hp⟩ := hp
                        refine va_sld (pc := 563) hx hb hX hbl hbA hH.2.2 hc_94 dL_law_563 ?_
                        obtain ⟨hk_95, hp⟩ := hp
                        refine sx_V (pc := 564) (As := [.int (xs (x3_12 + 1).toNatClampNeg), .int (xs (x3_12 + 2).toNatClampNeg), .int (xs (x3_12 + 3).toNatClampNeg), .int (xs (x3_12 + 4).toNatClampNeg), .int (xs (x3_12 + 5).toNatClampNeg)]) (rest := []) B hH hl.1 (C_X11_feed G l q_1 (xs (x3_12 + 1).toNatClampNeg) (xs (x3_12 + 2).toNatClampNeg) (xs (x3_12 + 3).toNatClampNeg) (xs (x3_12 + 4).toNatClampNeg) (xs (x3_12 + 5).toNatClampNeg) _ _ hp) mi_X11_feed coX11 hk_95 w_580 w_581 w_579 rfl rfl ⟨Nat.le_of_ble_eq_true rfl, Nat.le_of_ble_eq_true rfl⟩ (Nat.le_of_ble_eq_true rfl) ⟨(show _ + 0 ≤ 600000 by omega), (show _ + 0 ≤ 7302250 by omega)⟩ dL_law_564 (fun v S1 H locs hq hH => ?_)
                        obtain ⟨r_96, F_96, rfl, e9, hp⟩ := hq
                        rw [e9] at hH
                        have hH : Hp G (FA es s.heap.size) s.heap (wI S_13 F_96) H locs := hH
                        refine W.eq (g2 := F0 m 567 ls [.int r_96]) rfl ?_
                        refine lv_aload_n (pc := 567) hx hb dL_law_567 rfl (lv_at hl 2 rfl) ?_
                        refine lv_aload_n (pc := 568) hx hb dL_law_568 rfl (lv_at hl 0 rfl) ?_
                        refine lv_iload_n (pc := 569) hx hb dL_law_569 rfl (lv_at hl 3 rfl) ?_
                        refine lv_iconst (pc := 570) (v := 1) hx hb dL_law_570 (by decide) ?_
                        refine lv_iadd (pc := 571) hx hb dL_law_571 ?_
                        obtain ⟨hc_97, hp⟩ := hp
                        refine va_sld (pc := 572) hx hb hX hbl hbA hH.2.2 hc_97 dL_law_572 ?_
                        refine lv_aload_n (pc := 573) hx hb dL_law_573 rfl (lv_at hl 0 rfl) ?_
                        refine lv_iload_n (pc := 574) hx hb dL_law_574 rfl (lv_at hl 3 rfl) ?_
                        refine lv_iconst (pc := 575) (v := 2) hx hb dL_law_575 (by decide) ?_
                        refine lv_iadd (pc := 576) hx hb dL_law_576 ?_
                        obtain ⟨hc_98, hp⟩ := hp
                        refine va_sld (pc := 577) hx hb hX hbl hbA hH.2.2 hc_98 dL_law_577 ?_
                        refine lv_aload_n (pc := 578) hx hb dL_law_578 rfl (lv_at hl 0 rfl) ?_
                        refine lv_iload_n (pc := 579) hx hb dL_law_579 rfl (lv_at hl 3 rfl) ?_
                        refine lv_iconst (pc := 580) (v := 3) hx hb dL_law_580 (by decide) ?_
                        refine lv_iadd (pc := 581) hx hb dL_law_581 ?_
                        obtain ⟨hc_99, hp⟩ := hp
                        refine va_sld (pc := 582) hx hb hX hbl hbA hH.2.2 hc_99 dL_law_582 ?_
                        refine lv_aload_n (pc := 583) hx hb dL_law_583 rfl (lv_at hl 0 rfl) ?_
                        refine lv_iload_n (pc := 584) hx hb dL_law_584 rfl (lv_at hl 3 rfl) ?_
                        refine lv_iconst (pc := 585) (v := 4) hx hb dL_law_585 (by decide) ?_
                        refine lv_iadd (pc := 586) hx hb dL_law_586 ?_
                        obtain ⟨hc_100, hp⟩ := hp
                        refine va_sld (pc := 587) hx hb hX hbl hbA hH.2.2 hc_100 dL_law_587 ?_
                        refine lv_aload_n (pc := 588) hx hb dL_law_588 rfl (lv_at hl 0 rfl) ?_
                        refine lv_iload_n (pc := 589) hx hb dL_law_589 rfl (lv_at hl 3 rfl) ?_
                        refine lv_iconst (pc := 590) (v := 5) hx hb dL_law_590 (by decide) ?_
                        refine lv_iadd (pc := 591) hx hb dL_law_591 ?_
                        obtain ⟨hc_101, hp⟩ := hp
                        refine va_sld (pc := 592) hx hb hX hbl hbA hH.2.2 hc_101 dL_law_592 ?_
                        obtain ⟨hk_102, hp⟩ := hp
                        refine sx_V (pc := 593) (As := [.int (xs (x3_12 + 1).toNatClampNeg), .int (xs (x3_12 + 2).toNatClampNeg), .int (xs (x3_12 + 3).toNatClampNeg), .int (xs (x3_12 + 4).toNatClampNeg), .int (xs (x3_12 + 5).toNatClampNeg)]) (rest := [.int r_96]) B hH hl.1 (C_X12_feed G l q_6 (xs (x3_12 + 1).toNatClampNeg) (xs (x3_12 + 2).toNatClampNeg) (xs (x3_12 + 3).toNatClampNeg) (xs (x3_12 + 4).toNatClampNeg) (xs (x3_12 + 5).toNatClampNeg) _ _ hp) mi_X12_feed coX12 hk_102 w_1502 w_1503 w_1501 rfl rfl ⟨Nat.le_of_ble_eq_true rfl, Nat.le_of_ble_eq_true rfl⟩ (Nat.le_of_ble_eq_true rfl) ⟨(show _ + 0 ≤ 600000 by omega), (show _ + 0 ≤ 7302250 by omega)⟩ dL_law_593 (fun v S1 H locs hq hH => ?_)
                        obtain ⟨r_103, F_103, rfl, e9, hp⟩ := hq
                        rw [e9] at hH
                        have hH : Hp G (FA es s.heap.size) s.heap (wI S_13 F_103) H locs := hH
                        refine W.eq (g2 := F0 m 596 ls [.int r_103, .int r_96]) rfl ?_
                        refine lv_icmp_eq (pc := 596) (tgt := 1914) hx hb dL_law_596 (by decide) (fun cc_104 => ?_) (fun cc_104 => ?_)
                        · have hp := hp.1 cc_104
                          obtain ⟨v_105, ev_105⟩ : ∃ y : Int32, y = x3_12 + 6 := ⟨_, rfl⟩
                          have hp := hp v_105 ev_105
                          refine lv_iinc (pc := 1914) (v := v_105) (lv' := [(3, .int v_105), (0, .ref b), (1, .ref q_1), (2, .ref q_6)]) hx hb dL_law_1914 hl (k := 3) rfl (by rw [ev_105]; rfl) (by decide) rfl (fun ls hl => ?_)
                          refine lv_goto (pc := 1917) (tgt := 18) hx hb dL_law_1917 (by decide) ?_
                          obtain ⟨k9, hlt9, hp⟩ := hp
                          exact ih_11 k9 hlt9 _ _ _ _ _ _ _ _ _ hp (show _ + b_14 ≤ 600000 by omega) (show _ + d_14 ≤ 7302250 by omega) hH (lv_sub hl [1, 2, 3, 0] rfl)
                        · have hp := hp.2 cc_104
                          refine lv_iconst (pc := 599) (v := 0) hx hb dL_law_599 (by decide) ?_
                          exact hp.elim
                      · have hp := hp.2 cs_18_7
                        by_cases cs_18_8 : v_17 = 8
                        · have hp := hp.1 cs_18_8
                          refine lv_tableIn (pc := 33) (tgt := 601) hx hb dL_law_33 (by rw [cs_18_8]; decide) (by rw [cs_18_8]; decide) (by rw [cs_18_8]; rfl) (by decide) ?_
                          refine lv_aload_n (pc := 601) hx hb dL_law_601 rfl (lv_at hl 1 rfl) ?_
                          refine lv_aload_n (pc := 602) hx hb dL_law_602 rfl (lv_at hl 0 rfl) ?_
                          refine lv_iload_n (pc := 603) hx hb dL_law_603 rfl (lv_at hl 3 rfl) ?_
                          refine lv_iconst (pc := 604) (v := 1) hx hb dL_law_604 (by decide) ?_
                          refine lv_iadd (pc := 605) hx hb dL_law_605 ?_
                          obtain ⟨hc_106, hp⟩ := hp
                          refine va_sld (pc := 606) hx hb hX hbl hbA hH.2.2 hc_106 dL_law_606 ?_
                          obtain ⟨hk_107, hp⟩ := hp
                          obtain ⟨c_108, s_108, hb_108, hs_108, hp⟩ := hp
                          refine sx_V (pc := 607) (As := [.int (xs (x3_12 + 1).toNatClampNeg)]) (rest := []) B hH hl.1 (C_X11_book G l q_1 (xs (x3_12 + 1).toNatClampNeg) _ c_108 s_108 _ hp) mi_X11_book coX11 hk_107 w_588 w_589 w_587 rfl rfl ⟨Nat.le_of_ble_eq_true rfl, Nat.le_of_ble_eq_true rfl⟩ (Nat.le_of_ble_eq_true rfl) ⟨(show _ + c_108 ≤ 600000 by omega), (show _ + s_108 ≤ 7302250 by omega)⟩ dL_law_607 (fun v S1 H locs hq hH => ?_)
                          obtain ⟨r_109, rfl, hp⟩ := hq
                          obtain ⟨S_109, eS_109⟩ : ∃ z : St, z = S1 := ⟨_, rfl⟩
                          rw [← eS_109] at hp hH
                          refine W.eq (g2 := F0 m 610 ls [.int r_109]) rfl ?_
                          refine lv_aload_n (pc := 610) hx hb dL_law_610 rfl (lv_at hl 2 rfl) ?_
                          refine lv_aload_n (pc := 611) hx hb dL_law_611 rfl (lv_at hl 0 rfl) ?_
                          refine lv_iload_n (pc := 612) hx hb dL_law_612 rfl (lv_at hl 3 rfl) ?_
                          refine lv_iconst (pc := 613) (v := 1) hx hb dL_law_613 (by decide) ?_
                          refine lv_iadd (pc := 614) hx hb dL_law_614 ?_
                          obtain ⟨hc_110, hp⟩ := hp
                          refine va_sld (pc := 615) hx hb hX hbl hbA hH.2.2 hc_110 dL_law_615 ?_
                          obtain ⟨hk_111, hp⟩ := hp
                          refine sx_V (pc := 616) (As := [.int (xs (x3_12 + 1).toNatClampNeg)]) (rest := [.int r_109]) B hH hl.1 (C_X12_book G l q_6 (xs (x3_12 + 1).toNatClampNeg) _ _ hp) mi_X12_book coX12 hk_111 w_1514 w_1515 w_1513 rfl rfl ⟨Nat.le_of_ble_eq_true rfl, Nat.le_of_ble_eq_true rfl⟩ (Nat.le_of_ble_eq_true rfl) ⟨(show _ + 0 ≤ 600000 by omega), (show _ + 0 ≤ 7302250 by omega)⟩ dL_law_616 (fun v S1 H locs hq hH => ?_)
                          obtain ⟨r_112, F_112, J_112, rfl, e9, hp⟩ := hq
                          rw [e9] at hH
                          have hH : Hp G (FA es s.heap.size) s.heap (wA S_109 F_112 J_112 (gR S_109)) H locs := hH
                          refine W.eq (g2 := F0 m 619 ls [.int r_112, .int r_109]) rfl ?_
                          refine lv_icmp_eq (pc := 619) (tgt := 1914) hx hb dL_law_619 (by decide) (fun cc_113 => ?_) (fun cc_113 => ?_)
                          · have hp := hp.1 cc_113
                            obtain ⟨v_114, ev_114⟩ : ∃ y : Int32, y = x3_12 + 6 := ⟨_, rfl⟩
                            have hp := hp v_114 ev_114
                            refine lv_iinc (pc := 1914) (v := v_114) (lv' := [(3, .int v_114), (0, .ref b), (1, .ref q_1), (2, .ref q_6)]) hx hb dL_law_1914 hl (k := 3) rfl (by rw [ev_114]; rfl) (by decide) rfl (fun ls hl => ?_)
                            refine lv_goto (pc := 1917) (tgt := 18) hx hb dL_law_1917 (by decide) ?_
                            obtain ⟨k9, hlt9, hp⟩ := hp
                            exact ih_11 k9 hlt9 _ _ _ _ _ _ _ _ _ hp (show _ + (b_14 - c_108) ≤ 600000 by omega) (show _ + (d_14 - s_108) ≤ 7302250 by omega) hH (lv_sub hl [1, 2, 3, 0] rfl)
                          · have hp := hp.2 cc_113
                            refine lv_iconst (pc := 622) (v := 0) hx hb dL_law_622 (by decide) ?_
                            exact hp.elim
                        · have hp := hp.2 cs_18_8
                          by_cases cs_18_9 : v_17 = 9
                          · have hp := hp.1 cs_18_9
                            refine lv_tableIn (pc := 33) (tgt := 624) hx hb dL_law_33 (by rw [cs_18_9]; decide) (by rw [cs_18_9]; decide) (by rw [cs_18_9]; rfl) (by decide) ?_
                            refine lv_aload_n (pc := 624) hx hb dL_law_624 rfl (lv_at hl 1 rfl) ?_
                            refine lv_aload_n (pc := 625) hx hb dL_law_625 rfl (lv_at hl 0 rfl) ?_
                            refine lv_iload_n (pc := 626) hx hb dL_law_626 rfl (lv_at hl 3 rfl) ?_
                            refine lv_iconst (pc := 627) (v := 1) hx hb dL_law_627 (by decide) ?_
                            refine lv_iadd (pc := 628) hx hb dL_law_628 ?_
                            obtain ⟨hc_115, hp⟩ := hp
                            refine va_sld (pc := 629) hx hb hX hbl hbA hH.2.2 hc_115 dL_law_629 ?_
                            obtain ⟨hk_116, hp⟩ := hp
                            obtain ⟨c_117, s_117, hb_117, hs_117, hp⟩ := hp
                            refine sx_V (pc := 630) (As := [.int (xs (x3_12 + 1).toNatClampNeg)]) (rest := []) B hH hl.1 (C_X11_touch G l q_1 (xs (x3_12 + 1).toNatClampNeg) _ c_117 s_117 _ hp) mi_X11_touch coX11 hk_116 w_743 w_744 w_742 rfl rfl ⟨Nat.le_of_ble_eq_true rfl, Nat.le_of_ble_eq_true rfl⟩ (Nat.le_of_ble_eq_true rfl) ⟨(show _ + c_117 ≤ 600000 by omega), (show _ + s_117 ≤ 7302250 by omega)⟩ dL_law_630 (fun v S1 H locs hq hH => ?_)
                            obtain ⟨r_118, rfl, hp⟩ := hq
                            obtain ⟨S_118, eS_118⟩ : ∃ z : St, z = S1 := ⟨_, rfl⟩
                            rw [← eS_118] at hp hH
                            refine W.eq (g2 := F0 m 633 ls [.int r_118]) rfl ?_
                            refine lv_aload_n (pc := 633) hx hb dL_law_633 rfl (lv_at hl 2 rfl) ?_
                            refine lv_aload_n (pc := 634) hx hb dL_law_634 rfl (lv_at hl 0 rfl) ?_
                            refine lv_iload_n (pc := 635) hx hb dL_law_635 rfl (lv_at hl 3 rfl) ?_
                            refine lv_iconst (pc := 636) (v := 1) hx hb dL_law_636 (by decide) ?_
                            refine lv_iadd (pc := 637) hx hb dL_law_637 ?_
                            obtain ⟨hc_119, hp⟩ := hp
                            refine va_sld (pc := 638) hx hb hX hbl hbA hH.2.2 hc_119 dL_law_638 ?_
                            obtain ⟨hk_120, hp⟩ := hp
                            refine sx_V (pc := 639) (As := [.int (xs (x3_12 + 1).toNatClampNeg)]) (rest := [.int r_118]) B hH hl.1 (C_X12_touch G l q_6 (xs (x3_12 + 1).toNatClampNeg) _ _ hp) mi_X12_touch coX12 hk_120 w_1620 w_1621 w_1619 rfl rfl ⟨Nat.le_of_ble_eq_true rfl, Nat.le_of_ble_eq_true rfl⟩ (Nat.le_of_ble_eq_true rfl) ⟨(show _ + 0 ≤ 600000 by omega), (show _ + 0 ≤ 7302250 by omega)⟩ dL_law_639 (fun v S1 H locs hq hH => ?_)
                            obtain ⟨r_121, F_121, rfl, e9, hp⟩ := hq
                            rw [e9] at hH
                            have hH : Hp G (FA es s.heap.size) s.heap (wI S_118 F_121) H locs := hH
                            refine W.eq (g2 := F0 m 642 ls [.int r_121, .int r_118]) rfl ?_
                            refine lv_icmp_eq (pc := 642) (tgt := 1914) hx hb dL_law_642 (by decide) (fun cc_122 => ?_) (fun cc_122 => ?_)
                            · have hp := hp.1 cc_122
                              obtain ⟨v_123, ev_123⟩ : ∃ y : Int32, y = x3_12 + 6 := ⟨_, rfl⟩
                              have hp := hp v_123 ev_123
                              refine lv_iinc (pc := 1914) (v := v_123) (lv' := [(3, .int v_123), (0, .ref b), (1, .ref q_1), (2, .ref q_6)]) hx hb dL_law_1914 hl (k := 3) rfl (by rw [ev_123]; rfl) (by decide) rfl (fun ls hl => ?_)
                              refine lv_goto (pc := 1917) (tgt := 18) hx hb dL_law_1917 (by decide) ?_
                              obtain ⟨k9, hlt9, hp⟩ := hp
                              exact ih_11 k9 hlt9 _ _ _ _ _ _ _ _ _ hp (show _ + (b_14 - c_117) ≤ 600000 by omega) (show _ + (d_14 - s_117) ≤ 7302250 by omega) hH (lv_sub hl [1, 2, 3, 0] rfl)
                            · have hp := hp.2 cc_122
                              refine lv_iconst (pc := 645) (v := 0) hx hb dL_law_645 (by decide) ?_
                              exact hp.elim
                          · have hp := hp.2 cs_18_9
                            by_cases cs_18_10 : v_17 = 10
                            · have hp := hp.1 cs_18_10
                              refine lv_tableIn (pc := 33) (tgt := 647) hx hb dL_law_33 (by rw [cs_18_10]; decide) (by rw [cs_18_10]; decide) (by rw [cs_18_10]; rfl) (by decide) ?_
                              refine lv_aload_n (pc := 647) hx hb dL_law_647 rfl (lv_at hl 1 rfl) ?_
                              refine lv_aload_n (pc := 648) hx hb dL_law_648 rfl (lv_at hl 0 rfl) ?_
                              refine lv_iload_n (pc := 649) hx hb dL_law_649 rfl (lv_at hl 3 rfl) ?_
                              refine lv_iconst (pc := 650) (v := 1) hx hb dL_law_650 (by decide) ?_
                              refine lv_iadd (pc := 651) hx hb dL_law_651 ?_
                              obtain ⟨hc_124, hp⟩ := hp
                              refine va_sld (pc := 652) hx hb hX hbl hbA hH.2.2 hc_124 dL_law_652 ?_
                              obtain ⟨hk_125, hp⟩ := hp
                              refine sx_V (pc := 653) (As := [.int (xs (x3_12 + 1).toNatClampNeg)]) (rest := []) B hH hl.1 (C_X11_fault G l q_1 (xs (x3_12 + 1).toNatClampNeg) _ _ hp) mi_X11_fault coX11 hk_125 w_838 w_839 w_837 rfl rfl ⟨Nat.le_of_ble_eq_true rfl, Nat.le_of_ble_eq_true rfl⟩ (Nat.le_of_ble_eq_true rfl) ⟨(show _ + 0 ≤ 600000 by omega), (show _ + 0 ≤ 7302250 by omega)⟩ dL_law_653 (fun v S1 H locs hq hH => ?_)
                              obtain ⟨r_126, rfl, e9, hp⟩ := hq
                              rw [e9] at hH
                              refine W.eq (g2 := F0 m 656 ls [.int r_126]) rfl ?_
                              refine lv_aload_n (pc := 656) hx hb dL_law_656 rfl (lv_at hl 2 rfl) ?_
                              refine lv_aload_n (pc := 657) hx hb dL_law_657 rfl (lv_at hl 0 rfl) ?_
                              refine lv_iload_n (pc := 658) hx hb dL_law_658 rfl (lv_at hl 3 rfl) ?_
                              refine lv_iconst (pc := 659) (v := 1) hx hb dL_law_659 (by decide) ?_
                              refine lv_iadd (pc := 660) hx hb dL_law_660 ?_
                              obtain ⟨hc_127, hp⟩ := hp
                              refine va_sld (pc := 661) hx hb hX hbl hbA hH.2.2 hc_127 dL_law_661 ?_
                              obtain ⟨hk_128, hp⟩ := hp
                              refine sx_V (pc := 662) (As := [.int (xs (x3_12 + 1).toNatClampNeg)]) (rest := [.int r_126]) B hH hl.1 (C_X12_fault G l q_6 (xs (x3_12 + 1).toNatClampNeg) _ _ hp) mi_X12_fault coX12 hk_128 w_1510 w_1511 w_1509 rfl rfl ⟨Nat.le_of_ble_eq_true rfl, Nat.le_of_ble_eq_true rfl⟩ (Nat.le_of_ble_eq_true rfl) ⟨(show _ + 0 ≤ 600000 by omega), (show _ + 0 ≤ 7302250 by omega)⟩ dL_law_662 (fun v S1 H locs hq hH => ?_)
                              obtain ⟨r_129, rfl, e9, hp⟩ := hq
                              rw [e9] at hH
                              refine W.eq (g2 := F0 m 665 ls [.int r_129, .int r_126]) rfl ?_
                              refine lv_icmp_eq (pc := 665) (tgt := 1914) hx hb dL_law_665 (by decide) (fun cc_130 => ?_) (fun cc_130 => ?_)
                              · have hp := hp.1 cc_130
                                obtain ⟨v_131, ev_131⟩ : ∃ y : Int32, y = x3_12 + 6 := ⟨_, rfl⟩
                                have hp := hp v_131 ev_131
                                refine lv_iinc (pc := 1914) (v := v_131) (lv' := [(3, .int v_131), (0, .ref b), (1, .ref q_1), (2, .ref q_6)]) hx hb dL_law_1914 hl (k := 3) rfl (by rw [ev_131]; rfl) (by decide) rfl (fun ls hl => ?_)
                                refine lv_goto (pc := 1917) (tgt := 18) hx hb dL_law_1917 (by decide) ?_
                                obtain ⟨k9, hlt9, hp⟩ := hp
                                exact ih_11 k9 hlt9 _ _ _ _ _ _ _ _ _ hp (show _ + b_14 ≤ 600000 by omega) (show _ + d_14 ≤ 7302250 by omega) hH (lv_sub hl [1, 2, 3, 0] rfl)
                              · have hp := hp.2 cc_130
                                refine lv_iconst (pc := 668) (v := 0) hx hb dL_law_668 (by decide) ?_
                                exact hp.elim
                            · have hp := hp.2 cs_18_10
                              by_cases cs_18_11 : v_17 = 11
                              · have hp := hp.1 cs_18_11
                                refine lv_tableIn (pc := 33) (tgt := 670) hx hb dL_law_33 (by rw [cs_18_11]; decide) (by rw [cs_18_11]; decide) (by rw [cs_18_11]; rfl) (by decide) ?_
                                refine lv_aload_n (pc := 670) hx hb dL_law_670 rfl (lv_at hl 1 rfl) ?_
                                refine lv_aload_n (pc := 671) hx hb dL_law_671 rfl (lv_at hl 0 rfl) ?_
                                refine lv_iload_n (pc := 672) hx hb dL_law_672 rfl (lv_at hl 3 rfl) ?_
                                refine lv_iconst (pc := 673) (v := 1) hx hb dL_law_673 (by decide) ?_
                                refine lv_iadd (pc := 674) hx hb dL_law_674 ?_
                                obtain ⟨hc_132, hp⟩ := hp
                                refine va_sld (pc := 675) hx hb hX hbl hbA hH.2.2 hc_132 dL_law_675 ?_
                                obtain ⟨hk_133, hp⟩ := hp
                                refine sx_V (pc := 676) (As := [.int (xs (x3_12 + 1).toNatClampNeg)]) (rest := []) B hH hl.1 (C_X11_told G l q_1 (xs (x3_12 + 1).toNatClampNeg) _ _ hp) mi_X11_told coX11 hk_133 w_842 w_843 w_841 rfl rfl ⟨Nat.le_of_ble_eq_true rfl, Nat.le_of_ble_eq_true rfl⟩ (Nat.le_of_ble_eq_true rfl) ⟨(show _ + 0 ≤ 600000 by omega), (show _ + 0 ≤ 7302250 by omega)⟩ dL_law_676 (fun v S1 H locs hq hH => ?_)
                                obtain ⟨r_134, F_134, rfl, e9, hp⟩ := hq
                                rw [e9] at hH
                                have hH : Hp G (FA es s.heap.size) s.heap (wI S_13 F_134) H locs := hH
                                refine W.eq (g2 := F0 m 679 ls [.int r_134]) rfl ?_
                                refine lv_aload_n (pc := 679) hx hb dL_law_679 rfl (lv_at hl 2 rfl) ?_
                                refine lv_aload_n (pc := 680) hx hb dL_law_680 rfl (lv_at hl 0 rfl) ?_
                                refine lv_iload_n (pc := 681) hx hb dL_law_681 rfl (lv_at hl 3 rfl) ?_
                                refine lv_iconst (pc := 682) (v := 1) hx hb dL_law_682 (by decide) ?_
                                refine lv_iadd (pc := 683) hx hb dL_law_683 ?_
                                obtain ⟨hc_135, hp⟩ := hp
                                refine va_sld (pc := 684) hx hb hX hbl hbA hH.2.2 hc_135 dL_law_684 ?_
                                obtain ⟨hk_136, hp⟩ := hp
                                refine sx_V (pc := 685) (As := [.int (xs (x3_12 + 1).toNatClampNeg)]) (rest := [.int r_134]) B hH hl.1 (C_X12_told G l q_6 (xs (x3_12 + 1).toNatClampNeg) _ _ hp) mi_X12_told coX12 hk_136 w_1632 w_1633 w_1631 rfl rfl ⟨Nat.le_of_ble_eq_true rfl, Nat.le_of_ble_eq_true rfl⟩ (Nat.le_of_ble_eq_true rfl) ⟨(show _ + 0 ≤ 600000 by omega), (show _ + 0 ≤ 7302250 by omega)⟩ dL_law_685 (fun v S1 H locs hq hH => ?_)
                                obtain ⟨r_137, F_137, rfl, e9, hp⟩ := hq
                                rw [e9] at hH
                                have hH : Hp G (FA es s.heap.size) s.heap (wI S_13 F_137) H locs := hH
                                refine W.eq (g2 := F0 m 688 ls [.int r_137, .int r_134]) rfl ?_
                                refine lv_icmp_eq (pc := 688) (tgt := 1914) hx hb dL_law_688 (by decide) (fun cc_138 => ?_) (fun cc_138 => ?_)
                                · have hp := hp.1 cc_138
                                  obtain ⟨v_139, ev_139⟩ : ∃ y : Int32, y = x3_12 + 6 := ⟨_, rfl⟩
                                  have hp := hp v_139 ev_139
                                  refine lv_iinc (pc := 1914) (v := v_139) (lv' := [(3, .int v_139), (0, .ref b), (1, .ref q_1), (2, .ref q_6)]) hx hb dL_law_1914 hl (k := 3) rfl (by rw [ev_139]; rfl) (by decide) rfl (fun ls hl => ?_)
                                  refine lv_goto (pc := 1917) (tgt := 18) hx hb dL_law_1917 (by decide) ?_
                                  obtain ⟨k9, hlt9, hp⟩ := hp
                                  exact ih_11 k9 hlt9 _ _ _ _ _ _ _ _ _ hp (show _ + b_14 ≤ 600000 by omega) (show _ + d_14 ≤ 7302250 by omega) hH (lv_sub hl [1, 2, 3, 0] rfl)
                                · have hp := hp.2 cc_138
                                  refine lv_iconst (pc := 691) (v := 0) hx hb dL_law_691 (by decide) ?_
                                  exact hp.elim
                              · have hp := hp.2 cs_18_11
                                by_cases cs_18_12 : v_17 = 12
                                · have hp := hp.1 cs_18_12
                                  refine lv_tableIn (pc := 33) (tgt := 693) hx hb dL_law_33 (by rw [cs_18_12]; decide) (by rw [cs_18_12]; decide) (by rw [cs_18_12]; rfl) (by decide) ?_
                                  refine lv_aload_n (pc := 693) hx hb dL_law_693 rfl (lv_at hl 1 rfl) ?_
                                  refine lv_aload_n (pc := 694) hx hb dL_law_694 rfl (lv_at hl 0 rfl) ?_
                                  refine lv_iload_n (pc := 695) hx hb dL_law_695 rfl (lv_at hl 3 rfl) ?_
                                  refine lv_iconst (pc := 696) (v := 1) hx hb dL_law_696 (by decide) ?_
                                  refine lv_iadd (pc := 697) hx hb dL_law_697 ?_
                                  obtain ⟨hc_140, hp⟩ := hp
                                  refine va_sld (pc := 698) hx hb hX hbl hbA hH.2.2 hc_140 dL_law_698 ?_
                                  refine lv_aload_n (pc := 699) hx hb dL_law_699 rfl (lv_at hl 0 rfl) ?_
                                  refine lv_iload_n (pc := 700) hx hb dL_law_700 rfl (lv_at hl 3 rfl) ?_
                                  refine lv_iconst (pc := 701) (v := 2) hx hb dL_law_701 (by decide) ?_
                                  refine lv_iadd (pc := 702) hx hb dL_law_702 ?_
                                  obtain ⟨hc_141, hp⟩ := hp
                                  refine va_sld (pc := 703) hx hb hX hbl hbA hH.2.2 hc_141 dL_law_703 ?_
                                  obtain ⟨hk_142, hp⟩ := hp
                                  refine sx_V (pc := 704) (As := [.int (xs (x3_12 + 1).toNatClampNeg), .int (xs (x3_12 + 2).toNatClampNeg)]) (rest := []) B hH hl.1 (C_X11_bell G l q_1 (xs (x3_12 + 1).toNatClampNeg) (xs (x3_12 + 2).toNatClampNeg) _ _ hp) mi_X11_bell coX11 hk_142 w_850 w_851 w_849 rfl rfl ⟨Nat.le_of_ble_eq_true rfl, Nat.le_of_ble_eq_true rfl⟩ (Nat.le_of_ble_eq_true rfl) ⟨(show _ + 0 ≤ 600000 by omega), (show _ + 0 ≤ 7302250 by omega)⟩ dL_law_704 (fun v S1 H locs hq hH => ?_)
                                  obtain ⟨r_143, F_143, rfl, e9, hp⟩ := hq
                                  rw [e9] at hH
                                  have hH : Hp G (FA es s.heap.size) s.heap (wI S_13 F_143) H locs := hH
                                  refine W.eq (g2 := F0 m 707 ls [.int r_143]) rfl ?_
                                  refine lv_aload_n (pc := 707) hx hb dL_law_707 rfl (lv_at hl 2 rfl) ?_
                                  refine lv_aload_n (pc := 708) hx hb dL_law_708 rfl (lv_at hl 0 rfl) ?_
                                  refine lv_iload_n (pc := 709) hx hb dL_law_709 rfl (lv_at hl 3 rfl) ?_
                                  refine lv_iconst (pc := 710) (v := 1) hx hb dL_law_710 (by decide) ?_
                                  refine lv_iadd (pc := 711) hx hb dL_law_711 ?_
                                  obtain ⟨hc_144, hp⟩ := hp
                                  refine va_sld (pc := 712) hx hb hX hbl hbA hH.2.2 hc_144 dL_law_712 ?_
                                  refine lv_aload_n (pc := 713) hx hb dL_law_713 rfl (lv_at hl 0 rfl) ?_
                                  refine lv_iload_n (pc := 714) hx hb dL_law_714 rfl (lv_at hl 3 rfl) ?_
                                  refine lv_iconst (pc := 715) (v := 2) hx hb dL_law_715 (by decide) ?_
                                  refine lv_iadd (pc := 716) hx hb dL_law_716 ?_
                                  obtain ⟨hc_145, hp⟩ := hp
                                  refine va_sld (pc := 717) hx hb hX hbl hbA hH.2.2 hc_145 dL_law_717 ?_
                                  obtain ⟨hk_146, hp⟩ := hp
                                  refine sx_V (pc := 718) (As := [.int (xs (x3_12 + 1).toNatClampNeg), .int (xs (x3_12 + 2).toNatClampNeg)]) (rest := [.int r_143]) B hH hl.1 (C_X12_bell G l q_6 (xs (x3_12 + 1).toNatClampNeg) (xs (x3_12 + 2).toNatClampNeg) _ _ hp) mi_X12_bell coX12 hk_146 w_1644 w_1645 w_1643 rfl rfl ⟨Nat.le_of_ble_eq_true rfl, Nat.le_of_ble_eq_true rfl⟩ (Nat.le_of_ble_eq_true rfl) ⟨(show _ + 0 ≤ 600000 by omega), (show _ + 0 ≤ 7302250 by omega)⟩ dL_law_718 (fun v S1 H locs hq hH => ?_)
                                  obtain ⟨r_147, F_147, rfl, e9, hp⟩ := hq
                                  rw [e9] at hH
                                  have hH : Hp G (FA es s.heap.size) s.heap (wI S_13 F_147) H locs := hH
                                  refine W.eq (g2 := F0 m 721 ls [.int r_147, .int r_143]) rfl ?_
                                  refine lv_icmp_eq (pc := 721) (tgt := 1914) hx hb dL_law_721 (by decide) (fun cc_148 => ?_) (fun cc_148 => ?_)
                                  · have hp := hp.1 cc_148
                                    obtain ⟨v_149, ev_149⟩ : ∃ y : Int32, y = x3_12 + 6 := ⟨_, rfl⟩
                                    have hp := hp v_149 ev_149
                                    refine lv_iinc (pc := 1914) (v := v_149) (lv' := [(3, .int v_149), (0, .ref b), (1, .ref q_1), (2, .ref q_6)]) hx hb dL_law_1914 hl (k := 3) rfl (by rw [ev_149]; rfl) (by decide) rfl (fun ls hl => ?_)
                                    refine lv_goto (pc := 1917) (tgt := 18) hx hb dL_law_1917 (by decide) ?_
                                    obtain ⟨k9, hlt9, hp⟩ := hp
                                    exact ih_11 k9 hlt9 _ _ _ _ _ _ _ _ _ hp (show _ + b_14 ≤ 600000 by omega) (show _ + d_14 ≤ 7302250 by omega) hH (lv_sub hl [1, 2, 3, 0] rfl)
                                  · have hp := hp.2 cc_148
                                    refine lv_iconst (pc := 724) (v := 0) hx hb dL_law_724 (by decide) ?_
                                    exact hp.elim
                                · have hp := hp.2 cs_18_12
                                  by_cases cs_18_13 : v_17 = 13
                                  · have hp := hp.1 cs_18_13
                                    refine lv_tableIn (pc := 33) (tgt := 726) hx hb dL_law_33 (by rw [cs_18_13]; decide) (by rw [cs_18_13]; decide) (by rw [cs_18_13]; rfl) (by decide) ?_
                                    refine lv_aload_n (pc := 726) hx hb dL_law_726 rfl (lv_at hl 1 rfl) ?_
                                    refine lv_aload_n (pc := 727) hx hb dL_law_727 rfl (lv_at hl 0 rfl) ?_
                                    refine lv_iload_n (pc := 728) hx hb dL_law_728 rfl (lv_at hl 3 rfl) ?_
                                    refine lv_iconst (pc := 729) (v := 1) hx hb dL_law_729 (by decide) ?_
                                    refine lv_iadd (pc := 730) hx hb dL_law_730 ?_
                                    obtain ⟨hc_150, hp⟩ := hp
                                    refine va_sld (pc := 731) hx hb hX hbl hbA hH.2.2 hc_150 dL_law_731 ?_
                                    obtain ⟨hk_151, hp⟩ := hp
                                    refine sx_V (pc := 732) (As := [.int (xs (x3_12 + 1).toNatClampNeg)]) (rest := []) B hH hl.1 (C_X11_number G l q_1 (xs (x3_12 + 1).toNatClampNeg) _ _ hp) mi_X11_number coX11 hk_151 w_876 w_877 w_875 rfl rfl ⟨Nat.le_of_ble_eq_true rfl, Nat.le_of_ble_eq_true rfl⟩ (Nat.le_of_ble_eq_true rfl) ⟨(show _ + 0 ≤ 600000 by omega), (show _ + 0 ≤ 7302250 by omega)⟩ dL_law_732 (fun v S1 H locs hq hH => ?_)
                                    obtain ⟨r_152, F_152, rfl, e9, hp⟩ := hq
                                    rw [e9] at hH
                                    have hH : Hp G (FA es s.heap.size) s.heap (wI S_13 F_152) H locs := hH
                                    refine W.eq (g2 := F0 m 735 ls [.int r_152]) rfl ?_
                                    refine lv_aload_n (pc := 735) hx hb dL_law_735 rfl (lv_at hl 2 rfl) ?_
                                    refine lv_aload_n (pc := 736) hx hb dL_law_736 rfl (lv_at hl 0 rfl) ?_
                                    refine lv_iload_n (pc := 737) hx hb dL_law_737 rfl (lv_at hl 3 rfl) ?_
                                    refine lv_iconst (pc := 738) (v := 1) hx hb dL_law_738 (by decide) ?_
                                    refine lv_iadd (pc := 739) hx hb dL_law_739 ?_
                                    obtain ⟨hc_153, hp⟩ := hp
                                    refine va_sld (pc := 740) hx hb hX hbl hbA hH.2.2 hc_153 dL_law_740 ?_
                                    obtain ⟨hk_154, hp⟩ := hp
                                    refine sx_V (pc := 741) (As := [.int (xs (x3_12 + 1).toNatClampNeg)]) (rest := [.int r_152]) B hH hl.1 (C_X12_number G l q_6 (xs (x3_12 + 1).toNatClampNeg) _ _ hp) mi_X12_number coX12 hk_154 w_1660 w_1661 w_1659 rfl rfl ⟨Nat.le_of_ble_eq_true rfl, Nat.le_of_ble_eq_true rfl⟩ (Nat.le_of_ble_eq_true rfl) ⟨(show _ + 0 ≤ 600000 by omega), (show _ + 0 ≤ 7302250 by omega)⟩ dL_law_741 (fun v S1 H locs hq hH => ?_)
                                    obtain ⟨r_155, F_155, rfl, e9, hp⟩ := hq
                                    rw [e9] at hH
                                    have hH : Hp G (FA es s.heap.size) s.heap (wI S_13 F_155) H locs := hH
                                    refine W.eq (g2 := F0 m 744 ls [.int r_155, .int r_152]) rfl ?_
                                    refine lv_icmp_eq (pc := 744) (tgt := 1914) hx hb dL_law_744 (by decide) (fun cc_156 => ?_) (fun cc_156 => ?_)
                                    · have hp := hp.1 cc_156
                                      obtain ⟨v_157, ev_157⟩ : ∃ y : Int32, y = x3_12 + 6 := ⟨_, rfl⟩
                                      have hp := hp v_157 ev_157
                                      refine lv_iinc (pc := 1914) (v := v_157) (lv' := [(3, .int v_157), (0, .ref b), (1, .ref q_1), (2, .ref q_6)]) hx hb dL_law_1914 hl (k := 3) rfl (by rw [ev_157]; rfl) (by decide) rfl (fun ls hl => ?_)
                                      refine lv_goto (pc := 1917) (tgt := 18) hx hb dL_law_1917 (by decide) ?_
                                      obtain ⟨k9, hlt9, hp⟩ := hp
                                      exact ih_11 k9 hlt9 _ _ _ _ _ _ _ _ _ hp (show _ + b_14 ≤ 600000 by omega) (show _ + d_14 ≤ 7302250 by omega) hH (lv_sub hl [1, 2, 3, 0] rfl)
                                    · have hp := hp.2 cc_156
                                      refine lv_iconst (pc := 747) (v := 0) hx hb dL_law_747 (by decide) ?_
                                      exact hp.elim
                                  · have hp := hp.2 cs_18_13
                                    by_cases cs_18_14 : v_17 = 14
                                    · have hp := hp.1 cs_18_14
                                      refine lv_tableIn (pc := 33) (tgt := 749) hx hb dL_law_33 (by rw [cs_18_14]; decide) (by rw [cs_18_14]; decide) (by rw [cs_18_14]; rfl) (by decide) ?_
                                      refine lv_aload_n (pc := 749) hx hb dL_law_749 rfl (lv_at hl 1 rfl) ?_
                                      refine lv_aload_n (pc := 750) hx hb dL_law_750 rfl (lv_at hl 0 rfl) ?_
                                      refine lv_iload_n (pc := 751) hx hb dL_law_751 rfl (lv_at hl 3 rfl) ?_
                                      refine lv_iconst (pc := 752) (v := 1) hx hb dL_law_752 (by decide) ?_
                                      refine lv_iadd (pc := 753) hx hb dL_law_753 ?_
                                      obtain ⟨hc_158, hp⟩ := hp
                                      refine va_sld (pc := 754) hx hb hX hbl hbA hH.2.2 hc_158 dL_law_754 ?_
                                      refine lv_aload_n (pc := 755) hx hb dL_law_755 rfl (lv_at hl 0 rfl) ?_
                                      refine lv_iload_n (pc := 756) hx hb dL_law_756 rfl (lv_at hl 3 rfl) ?_
                                      refine lv_iconst (pc := 757) (v := 2) hx hb dL_law_757 (by decide) ?_
                                      refine lv_iadd (pc := 758) hx hb dL_law_758 ?_
                                      obtain ⟨hc_159, hp⟩ := hp
                                      refine va_sld (pc := 759) hx hb hX hbl hbA hH.2.2 hc_159 dL_law_759 ?_
                                      obtain ⟨hk_160, hp⟩ := hp
                                      refine sx_V (pc := 760) (As := [.int (xs (x3_12 + 1).toNatClampNeg), .int (xs (x3_12 + 2).toNatClampNeg)]) (rest := []) B hH hl.1 (C_X11_product G l q_1 (xs (x3_12 + 1).toNatClampNeg) (xs (x3_12 + 2).toNatClampNeg) _ _ hp) mi_X11_product coX11 hk_160 w_892 w_893 w_891 rfl rfl ⟨Nat.le_of_ble_eq_true rfl, Nat.le_of_ble_eq_true rfl⟩ (Nat.le_of_ble_eq_true rfl) ⟨(show _ + 0 ≤ 600000 by omega), (show _ + 0 ≤ 7302250 by omega)⟩ dL_law_760 (fun v S1 H locs hq hH => ?_)
                                      obtain ⟨r_161, F_161, rfl, e9, hp⟩ := hq
                                      rw [e9] at hH
                                      have hH : Hp G (FA es s.heap.size) s.heap (wI S_13 F_161) H locs := hH
                                      refine W.eq (g2 := F0 m 763 ls [.int r_161]) rfl ?_
                                      refine lv_aload_n (pc := 763) hx hb dL_law_763 rfl (lv_at hl 2 rfl) ?_
                                      refine lv_aload_n (pc := 764) hx hb dL_law_764 rfl (lv_at hl 0 rfl) ?_
                                      refine lv_iload_n (pc := 765) hx hb dL_law_765 rfl (lv_at hl 3 rfl) ?_
                                      refine lv_iconst (pc := 766) (v := 1) hx hb dL_law_766 (by decide) ?_
                                      refine lv_iadd (pc := 767) hx hb dL_law_767 ?_
                                      obtain ⟨hc_162, hp⟩ := hp
                                      refine va_sld (pc := 768) hx hb hX hbl hbA hH.2.2 hc_162 dL_law_768 ?_
                                      refine lv_aload_n (pc := 769) hx hb dL_law_769 rfl (lv_at hl 0 rfl) ?_
                                      refine lv_iload_n (pc := 770) hx hb dL_law_770 rfl (lv_at hl 3 rfl) ?_
                                      refine lv_iconst (pc := 771) (v := 2) hx hb dL_law_771 (by decide) ?_
                                      refine lv_iadd (pc := 772) hx hb dL_law_772 ?_
                                      obtain ⟨hc_163, hp⟩ := hp
                                      refine va_sld (pc := 773) hx hb hX hbl hbA hH.2.2 hc_163 dL_law_773 ?_
                                      obtain ⟨hk_164, hp⟩ := hp
                                      refine sx_V (pc := 774) (As := [.int (xs (x3_12 + 1).toNatClampNeg), .int (xs (x3_12 + 2).toNatClampNeg)]) (rest := [.int r_161]) B hH hl.1 (C_X12_product G l q_6 (xs (x3_12 + 1).toNatClampNeg) (xs (x3_12 + 2).toNatClampNeg) _ _ hp) mi_X12_product coX12 hk_164 w_1671 w_1672 w_1670 rfl rfl ⟨Nat.le_of_ble_eq_true rfl, Nat.le_of_ble_eq_true rfl⟩ (Nat.le_of_ble_eq_true rfl) ⟨(show _ + 0 ≤ 600000 by omega), (show _ + 0 ≤ 7302250 by omega)⟩ dL_law_774 (fun v S1 H locs hq hH => ?_)
                                      obtain ⟨r_165, F_165, rfl, e9, hp⟩ := hq
                                      rw [e9] at hH
                                      have hH : Hp G (FA es s.heap.size) s.heap (wI S_13 F_165) H locs := hH
                                      refine W.eq (g2 := F0 m 777 ls [.int r_165, .int r_161]) rfl ?_
                                      refine lv_icmp_eq (pc := 777) (tgt := 1914) hx hb dL_law_777 (by decide) (fun cc_166 => ?_) (fun cc_166 => ?_)
                                      · have hp := hp.1 cc_166
                                        obtain ⟨v_167, ev_167⟩ : ∃ y : Int32, y = x3_12 + 6 := ⟨_, rfl⟩
                                        have hp := hp v_167 ev_167
                                        refine lv_iinc (pc := 1914) (v := v_167) (lv' := [(3, .int v_167), (0, .ref b), (1, .ref q_1), (2, .ref q_6)]) hx hb dL_law_1914 hl (k := 3) rfl (by rw [ev_167]; rfl) (by decide) rfl (fun ls hl => ?_)
                                        refine lv_goto (pc := 1917) (tgt := 18) hx hb dL_law_1917 (by decide) ?_
                                        obtain ⟨k9, hlt9, hp⟩ := hp
                                        exact ih_11 k9 hlt9 _ _ _ _ _ _ _ _ _ hp (show _ + b_14 ≤ 600000 by omega) (show _ + d_14 ≤ 7302250 by omega) hH (lv_sub hl [1, 2, 3, 0] rfl)
                                      · have hp := hp.2 cc_166
                                        refine lv_iconst (pc := 780) (v := 0) hx hb dL_law_780 (by decide) ?_
                                        exact hp.elim
                                    · have hp := hp.2 cs_18_14
                                      by_cases cs_18_15 : v_17 = 15
                                      · have hp := hp.1 cs_18_15
                                        refine lv_tableIn (pc := 33) (tgt := 782) hx hb dL_law_33 (by rw [cs_18_15]; decide) (by rw [cs_18_15]; decide) (by rw [cs_18_15]; rfl) (by decide) ?_
                                        refine lv_aload_n (pc := 782) hx hb dL_law_782 rfl (lv_at hl 1 rfl) ?_
                                        refine lv_aload_n (pc := 783) hx hb dL_law_783 rfl (lv_at hl 0 rfl) ?_
                                        refine lv_iload_n (pc := 784) hx hb dL_law_784 rfl (lv_at hl 3 rfl) ?_
                                        refine lv_iconst (pc := 785) (v := 1) hx hb dL_law_785 (by decide) ?_
                                        refine lv_iadd (pc := 786) hx hb dL_law_786 ?_
                                        obtain ⟨hc_168, hp⟩ := hp
                                        refine va_sld (pc := 787) hx hb hX hbl hbA hH.2.2 hc_168 dL_law_787 ?_
                                        obtain ⟨hk_169, hp⟩ := hp
                                        refine sx_V (pc := 788) (As := [.int (xs (x3_12 + 1).toNatClampNeg)]) (rest := []) B hH hl.1 (C_X11_inverse G l q_1 (xs (x3_12 + 1).toNatClampNeg) _ _ hp) mi_X11_inverse coX11 hk_169 w_899 w_900 w_898 rfl rfl ⟨Nat.le_of_ble_eq_true rfl, Nat.le_of_ble_eq_true rfl⟩ (Nat.le_of_ble_eq_true rfl) ⟨(show _ + 0 ≤ 600000 by omega), (show _ + 0 ≤ 7302250 by omega)⟩ dL_law_788 (fun v S1 H locs hq hH => ?_)
                                        obtain ⟨r_170, F_170, rfl, e9, hp⟩ := hq
                                        rw [e9] at hH
                                        have hH : Hp G (FA es s.heap.size) s.heap (wI S_13 F_170) H locs := hH
                                        refine W.eq (g2 := F0 m 791 ls [.int r_170]) rfl ?_
                                        refine lv_aload_n (pc := 791) hx hb dL_law_791 rfl (lv_at hl 2 rfl) ?_
                                        refine lv_aload_n (pc := 792) hx hb dL_law_792 rfl (lv_at hl 0 rfl) ?_
                                        refine lv_iload_n (pc := 793) hx hb dL_law_793 rfl (lv_at hl 3 rfl) ?_
                                        refine lv_iconst (pc := 794) (v := 1) hx hb dL_law_794 (by decide) ?_
                                        refine lv_iadd (pc := 795) hx hb dL_law_795 ?_
                                        obtain ⟨hc_171, hp⟩ := hp
                                        refine va_sld (pc := 796) hx hb hX hbl hbA hH.2.2 hc_171 dL_law_796 ?_
                                        obtain ⟨hk_172, hp⟩ := hp
                                        refine sx_V (pc := 797) (As := [.int (xs (x3_12 + 1).toNatClampNeg)]) (rest := [.int r_170]) B hH hl.1 (C_X12_inverse G l q_6 (xs (x3_12 + 1).toNatClampNeg) _ _ hp) mi_X12_inverse coX12 hk_172 w_1679 w_1680 w_1678 rfl rfl ⟨Nat.le_of_ble_eq_true rfl, Nat.le_of_ble_eq_true rfl⟩ (Nat.le_of_ble_eq_true rfl) ⟨(show _ + 0 ≤ 600000 by omega), (show _ + 0 ≤ 7302250 by omega)⟩ dL_law_797 (fun v S1 H locs hq hH => ?_)
                                        obtain ⟨r_173, F_173, rfl, e9, hp⟩ := hq
                                        rw [e9] at hH
                                        have hH : Hp G (FA es s.heap.size) s.heap (wI S_13 F_173) H locs := hH
                                        refine W.eq (g2 := F0 m 800 ls [.int r_173, .int r_170]) rfl ?_
                                        refine lv_icmp_eq (pc := 800) (tgt := 1914) hx hb dL_law_800 (by decide) (fun cc_174 => ?_) (fun cc_174 => ?_)
                                        · have hp := hp.1 cc_174
                                          obtain ⟨v_175, ev_175⟩ : ∃ y : Int32, y = x3_12 + 6 := ⟨_, rfl⟩
                                          have hp := hp v_175 ev_175
                                          refine lv_iinc (pc := 1914) (v := v_175) (lv' := [(3, .int v_175), (0, .ref b), (1, .ref q_1), (2, .ref q_6)]) hx hb dL_law_1914 hl (k := 3) rfl (by rw [ev_175]; rfl) (by decide) rfl (fun ls hl => ?_)
                                          refine lv_goto (pc := 1917) (tgt := 18) hx hb dL_law_1917 (by decide) ?_
                                          obtain ⟨k9, hlt9, hp⟩ := hp
                                          exact ih_11 k9 hlt9 _ _ _ _ _ _ _ _ _ hp (show _ + b_14 ≤ 600000 by omega) (show _ + d_14 ≤ 7302250 by omega) hH (lv_sub hl [1, 2, 3, 0] rfl)
                                        · have hp := hp.2 cc_174
                                          refine lv_iconst (pc := 803) (v := 0) hx hb dL_law_803 (by decide) ?_
                                          exact hp.elim
                                      · have hp := hp.2 cs_18_15
                                        by_cases cs_18_16 : v_17 = 16
                                        · have hp := hp.1 cs_18_16
                                          refine lv_tableIn (pc := 33) (tgt := 805) hx hb dL_law_33 (by rw [cs_18_16]; decide) (by rw [cs_18_16]; decide) (by rw [cs_18_16]; rfl) (by decide) ?_
                                          refine lv_aload_n (pc := 805) hx hb dL_law_805 rfl (lv_at hl 1 rfl) ?_
                                          refine lv_aload_n (pc := 806) hx hb dL_law_806 rfl (lv_at hl 0 rfl) ?_
                                          refine lv_iload_n (pc := 807) hx hb dL_law_807 rfl (lv_at hl 3 rfl) ?_
                                          refine lv_iconst (pc := 808) (v := 1) hx hb dL_law_808 (by decide) ?_
                                          refine lv_iadd (pc := 809) hx hb dL_law_809 ?_
                                          obtain ⟨hc_176, hp⟩ := hp
                                          refine va_sld (pc := 810) hx hb hX hbl hbA hH.2.2 hc_176 dL_law_810 ?_
                                          obtain ⟨hk_177, hp⟩ := hp
                                          refine sx_V (pc := 811) (As := [.int (xs (x3_12 + 1).toNatClampNeg)]) (rest := []) B hH hl.1 (C_X11_order G l q_1 (xs (x3_12 + 1).toNatClampNeg) _ _ hp) mi_X11_order coX11 hk_177 w_906 w_907 w_905 rfl rfl ⟨Nat.le_of_ble_eq_true rfl, Nat.le_of_ble_eq_true rfl⟩ (Nat.le_of_ble_eq_true rfl) ⟨(show _ + 0 ≤ 600000 by omega), (show _ + 0 ≤ 7302250 by omega)⟩ dL_law_811 (fun v S1 H locs hq hH => ?_)
                                          obtain ⟨r_178, F_178, rfl, e9, hp⟩ := hq
                                          rw [e9] at hH
                                          have hH : Hp G (FA es s.heap.size) s.heap (wI S_13 F_178) H locs := hH
                                          refine W.eq (g2 := F0 m 814 ls [.int r_178]) rfl ?_
                                          refine lv_aload_n (pc := 814) hx hb dL_law_814 rfl (lv_at hl 2 rfl) ?_
                                          refine lv_aload_n (pc := 815) hx hb dL_law_815 rfl (lv_at hl 0 rfl) ?_
                                          refine lv_iload_n (pc := 816) hx hb dL_law_816 rfl (lv_at hl 3 rfl) ?_
                                          refine lv_iconst (pc := 817) (v := 1) hx hb dL_law_817 (by decide) ?_
                                          refine lv_iadd (pc := 818) hx hb dL_law_818 ?_
                                          obtain ⟨hc_179, hp⟩ := hp
                                          refine va_sld (pc := 819) hx hb hX hbl hbA hH.2.2 hc_179 dL_law_819 ?_
                                          obtain ⟨hk_180, hp⟩ := hp
                                          refine sx_V (pc := 820) (As := [.int (xs (x3_12 + 1).toNatClampNeg)]) (rest := [.int r_178]) B hH hl.1 (C_X12_order G l q_6 (xs (x3_12 + 1).toNatClampNeg) _ _ hp) mi_X12_order coX12 hk_180 w_1687 w_1688 w_1686 rfl rfl ⟨Nat.le_of_ble_eq_true rfl, Nat.le_of_ble_eq_true rfl⟩ (Nat.le_of_ble_eq_true rfl) ⟨(show _ + 0 ≤ 600000 by omega), (show _ + 0 ≤ 7302250 by omega)⟩ dL_law_820 (fun v S1 H locs hq hH => ?_)
                                          obtain ⟨r_181, F_181, rfl, e9, hp⟩ := hq
                                          rw [e9] at hH
                                          have hH : Hp G (FA es s.heap.size) s.heap (wI S_13 F_181) H locs := hH
                                          refine W.eq (g2 := F0 m 823 ls [.int r_181, .int r_178]) rfl ?_
                                          refine lv_icmp_eq (pc := 823) (tgt := 1914) hx hb dL_law_823 (by decide) (fun cc_182 => ?_) (fun cc_182 => ?_)
                                          · have hp := hp.1 cc_182
                                            obtain ⟨v_183, ev_183⟩ : ∃ y : Int32, y = x3_12 + 6 := ⟨_, rfl⟩
                                            have hp := hp v_183 ev_183
                                            refine lv_iinc (pc := 1914) (v := v_183) (lv' := [(3, .int v_183), (0, .ref b), (1, .ref q_1), (2, .ref q_6)]) hx hb dL_law_1914 hl (k := 3) rfl (by rw [ev_183]; rfl) (by decide) rfl (fun ls hl => ?_)
                                            refine lv_goto (pc := 1917) (tgt := 18) hx hb dL_law_1917 (by decide) ?_
                                            obtain ⟨k9, hlt9, hp⟩ := hp
                                            exact ih_11 k9 hlt9 _ _ _ _ _ _ _ _ _ hp (show _ + b_14 ≤ 600000 by omega) (show _ + d_14 ≤ 7302250 by omega) hH (lv_sub hl [1, 2, 3, 0] rfl)
                                          · have hp := hp.2 cc_182
                                            refine lv_iconst (pc := 826) (v := 0) hx hb dL_law_826 (by decide) ?_
                                            exact hp.elim
                                        · have hp := hp.2 cs_18_16
                                          by_cases cs_18_17 : v_17 = 17
                                          · have hp := hp.1 cs_18_17
                                            refine lv_tableIn (pc := 33) (tgt := 828) hx hb dL_law_33 (by rw [cs_18_17]; decide) (by rw [cs_18_17]; decide) (by rw [cs_18_17]; rfl) (by decide) ?_
                                            refine lv_aload_n (pc := 828) hx hb dL_law_828 rfl (lv_at hl 1 rfl) ?_
                                            refine lv_aload_n (pc := 829) hx hb dL_law_829 rfl (lv_at hl 0 rfl) ?_
                                            refine lv_iload_n (pc := 830) hx hb dL_law_830 rfl (lv_at hl 3 rfl) ?_
                                            refine lv_iconst (pc := 831) (v := 1) hx hb dL_law_831 (by decide) ?_
                                            refine lv_iadd (pc := 832) hx hb dL_law_832 ?_
                                            obtain ⟨hc_184, hp⟩ := hp
                                            refine va_sld (pc := 833) hx hb hX hbl hbA hH.2.2 hc_184 dL_law_833 ?_
                                            obtain ⟨hk_185, hp⟩ := hp
                                            refine sx_V (pc := 834) (As := [.int (xs (x3_12 + 1).toNatClampNeg)]) (rest := []) B hH hl.1 (C_X11_even G l q_1 (xs (x3_12 + 1).toNatClampNeg) _ _ hp) mi_X11_even coX11 hk_185 w_917 w_918 w_916 rfl rfl ⟨Nat.le_of_ble_eq_true rfl, Nat.le_of_ble_eq_true rfl⟩ (Nat.le_of_ble_eq_true rfl) ⟨(show _ + 0 ≤ 600000 by omega), (show _ + 0 ≤ 7302250 by omega)⟩ dL_law_834 (fun v S1 H locs hq hH => ?_)
                                            obtain ⟨r_186, F_186, rfl, e9, hp⟩ := hq
                                            rw [e9] at hH
                                            have hH : Hp G (FA es s.heap.size) s.heap (wI S_13 F_186) H locs := hH
                                            refine W.eq (g2 := F0 m 837 ls [.int r_186]) rfl ?_
                                            refine lv_aload_n (pc := 837) hx hb dL_law_837 rfl (lv_at hl 2 rfl) ?_
                                            refine lv_aload_n (pc := 838) hx hb dL_law_838 rfl (lv_at hl 0 rfl) ?_
                                            refine lv_iload_n (pc := 839) hx hb dL_law_839 rfl (lv_at hl 3 rfl) ?_
                                            refine lv_iconst (pc := 840) (v := 1) hx hb dL_law_840 (by decide) ?_
                                            refine lv_iadd (pc := 841) hx hb dL_law_841 ?_
                                            obtain ⟨hc_187, hp⟩ := hp
                                            refine va_sld (pc := 842) hx hb hX hbl hbA hH.2.2 hc_187 dL_law_842 ?_
                                            obtain ⟨hk_188, hp⟩ := hp
                                            refine sx_V (pc := 843) (As := [.int (xs (x3_12 + 1).toNatClampNeg)]) (rest := [.int r_186]) B hH hl.1 (C_X12_even G l q_6 (xs (x3_12 + 1).toNatClampNeg) _ _ hp) mi_X12_even coX12 hk_188 w_1695 w_1696 w_1694 rfl rfl ⟨Nat.le_of_ble_eq_true rfl, Nat.le_of_ble_eq_true rfl⟩ (Nat.le_of_ble_eq_true rfl) ⟨(show _ + 0 ≤ 600000 by omega), (show _ + 0 ≤ 7302250 by omega)⟩ dL_law_843 (fun v S1 H locs hq hH => ?_)
                                            obtain ⟨r_189, F_189, rfl, e9, hp⟩ := hq
                                            rw [e9] at hH
                                            have hH : Hp G (FA es s.heap.size) s.heap (wI S_13 F_189) H locs := hH
                                            refine W.eq (g2 := F0 m 846 ls [.int r_189, .int r_186]) rfl ?_
                                            refine lv_icmp_eq (pc := 846) (tgt := 1914) hx hb dL_law_846 (by decide) (fun cc_190 => ?_) (fun cc_190 => ?_)
                                            · have hp := hp.1 cc_190
                                              obtain ⟨v_191, ev_191⟩ : ∃ y : Int32, y = x3_12 + 6 := ⟨_, rfl⟩
                                              have hp := hp v_191 ev_191
                                              refine lv_iinc (pc := 1914) (v := v_191) (lv' := [(3, .int v_191), (0, .ref b), (1, .ref q_1), (2, .ref q_6)]) hx hb dL_law_1914 hl (k := 3) rfl (by rw [ev_191]; rfl) (by decide) rfl (fun ls hl => ?_)
                                              refine lv_goto (pc := 1917) (tgt := 18) hx hb dL_law_1917 (by decide) ?_
                                              obtain ⟨k9, hlt9, hp⟩ := hp
                                              exact ih_11 k9 hlt9 _ _ _ _ _ _ _ _ _ hp (show _ + b_14 ≤ 600000 by omega) (show _ + d_14 ≤ 7302250 by omega) hH (lv_sub hl [1, 2, 3, 0] rfl)
                                            · have hp := hp.2 cc_190
                                              refine lv_iconst (pc := 849) (v := 0) hx hb dL_law_849 (by decide) ?_
                                              exact hp.elim
                                          · have hp := hp.2 cs_18_17
                                            by_cases cs_18_18 : v_17 = 18
                                            · have hp := hp.1 cs_18_18
                                              refine lv_tableIn (pc := 33) (tgt := 851) hx hb dL_law_33 (by rw [cs_18_18]; decide) (by rw [cs_18_18]; decide) (by rw [cs_18_18]; rfl) (by decide) ?_
                                              refine lv_aload_n (pc := 851) hx hb dL_law_851 rfl (lv_at hl 1 rfl) ?_
                                              refine lv_aload_n (pc := 852) hx hb dL_law_852 rfl (lv_at hl 0 rfl) ?_
                                              refine lv_iload_n (pc := 853) hx hb dL_law_853 rfl (lv_at hl 3 rfl) ?_
                                              refine lv_iconst (pc := 854) (v := 1) hx hb dL_law_854 (by decide) ?_
                                              refine lv_iadd (pc := 855) hx hb dL_law_855 ?_
                                              obtain ⟨hc_192, hp⟩ := hp
                                              refine va_sld (pc := 856) hx hb hX hbl hbA hH.2.2 hc_192 dL_law_856 ?_
                                              refine lv_aload_n (pc := 857) hx hb dL_law_857 rfl (lv_at hl 0 rfl) ?_
                                              refine lv_iload_n (pc := 858) hx hb dL_law_858 rfl (lv_at hl 3 rfl) ?_
                                              refine lv_iconst (pc := 859) (v := 2) hx hb dL_law_859 (by decide) ?_
                                              refine lv_iadd (pc := 860) hx hb dL_law_860 ?_
                                              obtain ⟨hc_193, hp⟩ := hp
                                              refine va_sld (pc := 861) hx hb hX hbl hbA hH.2.2 hc_193 dL_law_861 ?_
                                              obtain ⟨hk_194, hp⟩ := hp
                                              refine sx_V (pc := 862) (As := [.int (xs (x3_12 + 1).toNatClampNeg), .int (xs (x3_12 + 2).toNatClampNeg)]) (rest := []) B hH hl.1 (C_X11_done G l q_1 (xs (x3_12 + 1).toNatClampNeg) (xs (x3_12 + 2).toNatClampNeg) _ _ hp) mi_X11_done coX11 hk_194 w_927 w_928 w_926 rfl rfl ⟨Nat.le_of_ble_eq_true rfl, Nat.le_of_ble_eq_true rfl⟩ (Nat.le_of_ble_eq_true rfl) ⟨(show _ + 0 ≤ 600000 by omega), (show _ + 0 ≤ 7302250 by omega)⟩ dL_law_862 (fun v S1 H locs hq hH => ?_)
                                              obtain ⟨r_195, F_195, rfl, e9, hp⟩ := hq
                                              rw [e9] at hH
                                              have hH : Hp G (FA es s.heap.size) s.heap (wI S_13 F_195) H locs := hH
                                              refine W.eq (g2 := F0 m 865 ls [.int r_195]) rfl ?_
                                              refine lv_aload_n (pc := 865) hx hb dL_law_865 rfl (lv_at hl 2 rfl) ?_
                                              refine lv_aload_n (pc := 866) hx hb dL_law_866 rfl (lv_at hl 0 rfl) ?_
                                              refine lv_iload_n (pc := 867) hx hb dL_law_867 rfl (lv_at hl 3 rfl) ?_
                                              refine lv_iconst (pc := 868) (v := 1) hx hb dL_law_868 (by decide) ?_
                                              refine lv_iadd (pc := 869) hx hb dL_law_869 ?_
                                              obtain ⟨hc_196, hp⟩ := hp
                                              refine va_sld (pc := 870) hx hb hX hbl hbA hH.2.2 hc_196 dL_law_870 ?_
                                              refine lv_aload_n (pc := 871) hx hb dL_law_871 rfl (lv_at hl 0 rfl) ?_
                                              refine lv_iload_n (pc := 872) hx hb dL_law_872 rfl (lv_at hl 3 rfl) ?_
                                              refine lv_iconst (pc := 873) (v := 2) hx hb dL_law_873 (by decide) ?_
                                              refine lv_iadd (pc := 874) hx hb dL_law_874 ?_
                                              obtain ⟨hc_197, hp⟩ := hp
                                              refine va_sld (pc := 875) hx hb hX hbl hbA hH.2.2 hc_197 dL_law_875 ?_
                                              obtain ⟨hk_198, hp⟩ := hp
                                              refine sx_V (pc := 876) (As := [.int (xs (x3_12 + 1).toNatClampNeg), .int (xs (x3_12 + 2).toNatClampNeg)]) (rest := [.int r_195]) B hH hl.1 (C_X12_done G l q_6 (xs (x3_12 + 1).toNatClampNeg) (xs (x3_12 + 2).toNatClampNeg) _ _ hp) mi_X12_done coX12 hk_198 w_1703 w_1704 w_1702 rfl rfl ⟨Nat.le_of_ble_eq_true rfl, Nat.le_of_ble_eq_true rfl⟩ (Nat.le_of_ble_eq_true rfl) ⟨(show _ + 0 ≤ 600000 by omega), (show _ + 0 ≤ 7302250 by omega)⟩ dL_law_876 (fun v S1 H locs hq hH => ?_)
                                              obtain ⟨r_199, F_199, rfl, e9, hp⟩ := hq
                                              rw [e9] at hH
                                              have hH : Hp G (FA es s.heap.size) s.heap (wI S_13 F_199) H locs := hH
                                              refine W.eq (g2 := F0 m 879 ls [.int r_199, .int r_195]) rfl ?_
                                              refine lv_icmp_eq (pc := 879) (tgt := 1914) hx hb dL_law_879 (by decide) (fun cc_200 => ?_) (fun cc_200 => ?_)
                                              · have hp := hp.1 cc_200
                                                obtain ⟨v_201, ev_201⟩ : ∃ y : Int32, y = x3_12 + 6 := ⟨_, rfl⟩
                                                have hp := hp v_201 ev_201
                                                refine lv_iinc (pc := 1914) (v := v_201) (lv' := [(3, .int v_201), (0, .ref b), (1, .ref q_1), (2, .ref q_6)]) hx hb dL_law_1914 hl (k := 3) rfl (by rw [ev_201]; rfl) (by decide) rfl (fun ls hl => ?_)
                                                refine lv_goto (pc := 1917) (tgt := 18) hx hb dL_law_1917 (by decide) ?_
                                                obtain ⟨k9, hlt9, hp⟩ := hp
                                                exact ih_11 k9 hlt9 _ _ _ _ _ _ _ _ _ hp (show _ + b_14 ≤ 600000 by omega) (show _ + d_14 ≤ 7302250 by omega) hH (lv_sub hl [1, 2, 3, 0] rfl)
                                              · have hp := hp.2 cc_200
                                                refine lv_iconst (pc := 882) (v := 0) hx hb dL_law_882 (by decide) ?_
                                                exact hp.elim
                                            · have hp := hp.2 cs_18_18
                                              by_cases cs_18_19 : v_17 = 19
                                              · have hp := hp.1 cs_18_19
                                                refine lv_tableIn (pc := 33) (tgt := 884) hx hb dL_law_33 (by rw [cs_18_19]; decide) (by rw [cs_18_19]; decide) (by rw [cs_18_19]; rfl) (by decide) ?_
                                                refine lv_aload_n (pc := 884) hx hb dL_law_884 rfl (lv_at hl 1 rfl) ?_
                                                refine lv_aload_n (pc := 885) hx hb dL_law_885 rfl (lv_at hl 0 rfl) ?_
                                                refine lv_iload_n (pc := 886) hx hb dL_law_886 rfl (lv_at hl 3 rfl) ?_
                                                refine lv_iconst (pc := 887) (v := 1) hx hb dL_law_887 (by decide) ?_
                                                refine lv_iadd (pc := 888) hx hb dL_law_888 ?_
                                                obtain ⟨hc_202, hp⟩ := hp
                                                refine va_sld (pc := 889) hx hb hX hbl hbA hH.2.2 hc_202 dL_law_889 ?_
                                                refine lv_aload_n (pc := 890) hx hb dL_law_890 rfl (lv_at hl 0 rfl) ?_
                                                refine lv_iload_n (pc := 891) hx hb dL_law_891 rfl (lv_at hl 3 rfl) ?_
                                                refine lv_iconst (pc := 892) (v := 2) hx hb dL_law_892 (by decide) ?_
                                                refine lv_iadd (pc := 893) hx hb dL_law_893 ?_
                                                obtain ⟨hc_203, hp⟩ := hp
                                                refine va_sld (pc := 894) hx hb hX hbl hbA hH.2.2 hc_203 dL_law_894 ?_
                                                obtain ⟨hk_204, hp⟩ := hp
                                                refine sx_V (pc := 895) (As := [.int (xs (x3_12 + 1).toNatClampNeg), .int (xs (x3_12 + 2).toNatClampNeg)]) (rest := []) B hH hl.1 (C_X11_power G l q_1 (xs (x3_12 + 1).toNatClampNeg) (xs (x3_12 + 2).toNatClampNeg) _ _ hp) mi_X11_power coX11 hk_204 w_933 w_934 w_932 rfl rfl ⟨Nat.le_of_ble_eq_true rfl, Nat.le_of_ble_eq_true rfl⟩ (Nat.le_of_ble_eq_true rfl) ⟨(show _ + 0 ≤ 600000 by omega), (show _ + 0 ≤ 7302250 by omega)⟩ dL_law_895 (fun v S1 H locs hq hH => ?_)
                                                obtain ⟨r_205, F_205, rfl, e9, hp⟩ := hq
                                                rw [e9] at hH
                                                have hH : Hp G (FA es s.heap.size) s.heap (wI S_13 F_205) H locs := hH
                                                refine W.eq (g2 := F0 m 898 ls [.int r_205]) rfl ?_
                                                refine lv_aload_n (pc := 898) hx hb dL_law_898 rfl (lv_at hl 2 rfl) ?_
                                                refine lv_aload_n (pc := 899) hx hb dL_law_899 rfl (lv_at hl 0 rfl) ?_
                                                refine lv_iload_n (pc := 900) hx hb dL_law_900 rfl (lv_at hl 3 rfl) ?_
                                                refine lv_iconst (pc := 901) (v := 1) hx hb dL_law_901 (by decide) ?_
                                                refine lv_iadd (pc := 902) hx hb dL_law_902 ?_
                                                obtain ⟨hc_206, hp⟩ := hp
                                                refine va_sld (pc := 903) hx hb hX hbl hbA hH.2.2 hc_206 dL_law_903 ?_
                                                refine lv_aload_n (pc := 904) hx hb dL_law_904 rfl (lv_at hl 0 rfl) ?_
                                                refine lv_iload_n (pc := 905) hx hb dL_law_905 rfl (lv_at hl 3 rfl) ?_
                                                refine lv_iconst (pc := 906) (v := 2) hx hb dL_law_906 (by decide) ?_
                                                refine lv_iadd (pc := 907) hx hb dL_law_907 ?_
                                                obtain ⟨hc_207, hp⟩ := hp
                                                refine va_sld (pc := 908) hx hb hX hbl hbA hH.2.2 hc_207 dL_law_908 ?_
                                                obtain ⟨hk_208, hp⟩ := hp
                                                refine sx_V (pc := 909) (As := [.int (xs (x3_12 + 1).toNatClampNeg), .int (xs (x3_12 + 2).toNatClampNeg)]) (rest := [.int r_205]) B hH hl.1 (C_X12_power G l q_6 (xs (x3_12 + 1).toNatClampNeg) (xs (x3_12 + 2).toNatClampNeg) _ _ hp) mi_X12_power coX12 hk_208 w_1715 w_1716 w_1714 rfl rfl ⟨Nat.le_of_ble_eq_true rfl, Nat.le_of_ble_eq_true rfl⟩ (Nat.le_of_ble_eq_true rfl) ⟨(show _ + 0 ≤ 600000 by omega), (show _ + 0 ≤ 7302250 by omega)⟩ dL_law_909 (fun v S1 H locs hq hH => ?_)
                                                obtain ⟨r_209, F_209, rfl, e9, hp⟩ := hq
                                                rw [e9] at hH
                                                have hH : Hp G (FA es s.heap.size) s.heap (wI S_13 F_209) H locs := hH
                                                refine W.eq (g2 := F0 m 912 ls [.int r_209, .int r_205]) rfl ?_
                                                refine lv_icmp_eq (pc := 912) (tgt := 1914) hx hb dL_law_912 (by decide) (fun cc_210 => ?_) (fun cc_210 => ?_)
                                                · have hp := hp.1 cc_210
                                                  obtain ⟨v_211, ev_211⟩ : ∃ y : Int32, y = x3_12 + 6 := ⟨_, rfl⟩
                                                  have hp := hp v_211 ev_211
                                                  refine lv_iinc (pc := 1914) (v := v_211) (lv' := [(3, .int v_211), (0, .ref b), (1, .ref q_1), (2, .ref q_6)]) hx hb dL_law_1914 hl (k := 3) rfl (by rw [ev_211]; rfl) (by decide) rfl (fun ls hl => ?_)
                                                  refine lv_goto (pc := 1917) (tgt := 18) hx hb dL_law_1917 (by decide) ?_
                                                  obtain ⟨k9, hlt9, hp⟩ := hp
                                                  exact ih_11 k9 hlt9 _ _ _ _ _ _ _ _ _ hp (show _ + b_14 ≤ 600000 by omega) (show _ + d_14 ≤ 7302250 by omega) hH (lv_sub hl [1, 2, 3, 0] rfl)
                                                · have hp := hp.2 cc_210
                                                  refine lv_iconst (pc := 915) (v := 0) hx hb dL_law_915 (by decide) ?_
                                                  exact hp.elim
                                              · have hp := hp.2 cs_18_19
                                                by_cases cs_18_20 : v_17 = 20
                                                · have hp := hp.1 cs_18_20
                                                  refine lv_tableIn (pc := 33) (tgt := 917) hx hb dL_law_33 (by rw [cs_18_20]; decide) (by rw [cs_18_20]; decide) (by rw [cs_18_20]; rfl) (by decide) ?_
                                                  refine lv_aload_n (pc := 917) hx hb dL_law_917 rfl (lv_at hl 1 rfl) ?_
                                                  refine lv_aload_n (pc := 918) hx hb dL_law_918 rfl (lv_at hl 0 rfl) ?_
                                                  refine lv_iload_n (pc := 919) hx hb dL_law_919 rfl (lv_at hl 3 rfl) ?_
                                                  refine lv_iconst (pc := 920) (v := 1) hx hb dL_law_920 (by decide) ?_
                                                  refine lv_iadd (pc := 921) hx hb dL_law_921 ?_
                                                  obtain ⟨hc_212, hp⟩ := hp
                                                  refine va_sld (pc := 922) hx hb hX hbl hbA hH.2.2 hc_212 dL_law_922 ?_
                                                  refine lv_aload_n (pc := 923) hx hb dL_law_923 rfl (lv_at hl 0 rfl) ?_
                                                  refine lv_iload_n (pc := 924) hx hb dL_law_924 rfl (lv_at hl 3 rfl) ?_
                                                  refine lv_iconst (pc := 925) (v := 2) hx hb dL_law_925 (by decide) ?_
                                                  refine lv_iadd (pc := 926) hx hb dL_law_926 ?_
                                                  obtain ⟨hc_213, hp⟩ := hp
                                                  refine va_sld (pc := 927) hx hb hX hbl hbA hH.2.2 hc_213 dL_law_927 ?_
                                                  obtain ⟨hk_214, hp⟩ := hp
                                                  refine sx_V (pc := 928) (As := [.int (xs (x3_12 + 1).toNatClampNeg), .int (xs (x3_12 + 2).toNatClampNeg)]) (rest := []) B hH hl.1 (C_X11_cycles G l q_1 (xs (x3_12 + 1).toNatClampNeg) (xs (x3_12 + 2).toNatClampNeg) _ _ hp) mi_X11_cycles coX11 hk_214 w_939 w_940 w_938 rfl rfl ⟨Nat.le_of_ble_eq_true rfl, Nat.le_of_ble_eq_true rfl⟩ (Nat.le_of_ble_eq_true rfl) ⟨(show _ + 0 ≤ 600000 by omega), (show _ + 0 ≤ 7302250 by omega)⟩ dL_law_928 (fun v S1 H locs hq hH => ?_)
                                                  obtain ⟨r_215, F_215, rfl, e9, hp⟩ := hq
                                                  rw [e9] at hH
                                                  have hH : Hp G (FA es s.heap.size) s.heap (wI S_13 F_215) H locs := hH
                                                  refine W.eq (g2 := F0 m 931 ls [.int r_215]) rfl ?_
                                                  refine lv_aload_n (pc := 931) hx hb dL_law_931 rfl (lv_at hl 2 rfl) ?_
                                                  refine lv_aload_n (pc := 932) hx hb dL_law_932 rfl (lv_at hl 0 rfl) ?_
                                                  refine lv_iload_n (pc := 933) hx hb dL_law_933 rfl (lv_at hl 3 rfl) ?_
                                                  refine lv_iconst (pc := 934) (v := 1) hx hb dL_law_934 (by decide) ?_
                                                  refine lv_iadd (pc := 935) hx hb dL_law_935 ?_
                                                  obtain ⟨hc_216, hp⟩ := hp
                                                  refine va_sld (pc := 936) hx hb hX hbl hbA hH.2.2 hc_216 dL_law_936 ?_
                                                  refine lv_aload_n (pc := 937) hx hb dL_law_937 rfl (lv_at hl 0 rfl) ?_
                                                  refine lv_iload_n (pc := 938) hx hb dL_law_938 rfl (lv_at hl 3 rfl) ?_
                                                  refine lv_iconst (pc := 939) (v := 2) hx hb dL_law_939 (by decide) ?_
                                                  refine lv_iadd (pc := 940) hx hb dL_law_940 ?_
                                                  obtain ⟨hc_217, hp⟩ := hp
                                                  refine va_sld (pc := 941) hx hb hX hbl hbA hH.2.2 hc_217 dL_law_941 ?_
                                                  obtain ⟨hk_218, hp⟩ := hp
                                                  refine sx_V (pc := 942) (As := [.int (xs (x3_12 + 1).toNatClampNeg), .int (xs (x3_12 + 2).toNatClampNeg)]) (rest := [.int r_215]) B hH hl.1 (C_X12_cycles G l q_6 (xs (x3_12 + 1).toNatClampNeg) (xs (x3_12 + 2).toNatClampNeg) _ _ hp) mi_X12_cycles coX12 hk_218 w_1720 w_1721 w_1719 rfl rfl ⟨Nat.le_of_ble_eq_true rfl, Nat.le_of_ble_eq_true rfl⟩ (Nat.le_of_ble_eq_true rfl) ⟨(show _ + 0 ≤ 600000 by omega), (show _ + 0 ≤ 7302250 by omega)⟩ dL_law_942 (fun v S1 H locs hq hH => ?_)
                                                  obtain ⟨r_219, F_219, rfl, e9, hp⟩ := hq
                                                  rw [e9] at hH
                                                  have hH : Hp G (FA es s.heap.size) s.heap (wI S_13 F_219) H locs := hH
                                                  refine W.eq (g2 := F0 m 945 ls [.int r_219, .int r_215]) rfl ?_
                                                  refine lv_icmp_eq (pc := 945) (tgt := 1914) hx hb dL_law_945 (by decide) (fun cc_220 => ?_) (fun cc_220 => ?_)
                                                  · have hp := hp.1 cc_220
                                                    obtain ⟨v_221, ev_221⟩ : ∃ y : Int32, y = x3_12 + 6 := ⟨_, rfl⟩
                                                    have hp := hp v_221 ev_221
                                                    refine lv_iinc (pc := 1914) (v := v_221) (lv' := [(3, .int v_221), (0, .ref b), (1, .ref q_1), (2, .ref q_6)]) hx hb dL_law_1914 hl (k := 3) rfl (by rw [ev_221]; rfl) (by decide) rfl (fun ls hl => ?_)
                                                    refine lv_goto (pc := 1917) (tgt := 18) hx hb dL_law_1917 (by decide) ?_
                                                    obtain ⟨k9, hlt9, hp⟩ := hp
                                                    exact ih_11 k9 hlt9 _ _ _ _ _ _ _ _ _ hp (show _ + b_14 ≤ 600000 by omega) (show _ + d_14 ≤ 7302250 by omega) hH (lv_sub hl [1, 2, 3, 0] rfl)
                                                  · have hp := hp.2 cc_220
                                                    refine lv_iconst (pc := 948) (v := 0) hx hb dL_law_948 (by decide) ?_
                                                    exact hp.elim
                                                · have hp := hp.2 cs_18_20
                                                  by_cases cs_18_21 : v_17 = 21
                                                  · have hp := hp.1 cs_18_21
                                                    refine lv_tableIn (pc := 33) (tgt := 950) hx hb dL_law_33 (by rw [cs_18_21]; decide) (by rw [cs_18_21]; decide) (by rw [cs_18_21]; rfl) (by decide) ?_
                                                    refine lv_aload_n (pc := 950) hx hb dL_law_950 rfl (lv_at hl 1 rfl) ?_
                                                    refine lv_aload_n (pc := 951) hx hb dL_law_951 rfl (lv_at hl 0 rfl) ?_
                                                    refine lv_iload_n (pc := 952) hx hb dL_law_952 rfl (lv_at hl 3 rfl) ?_
                                                    refine lv_iconst (pc := 953) (v := 1) hx hb dL_law_953 (by decide) ?_
                                                    refine lv_iadd (pc := 954) hx hb dL_law_954 ?_
                                                    obtain ⟨hc_222, hp⟩ := hp
                                                    refine va_sld (pc := 955) hx hb hX hbl hbA hH.2.2 hc_222 dL_law_955 ?_
                                                    refine lv_aload_n (pc := 956) hx hb dL_law_956 rfl (lv_at hl 0 rfl) ?_
                                                    refine lv_iload_n (pc := 957) hx hb dL_law_957 rfl (lv_at hl 3 rfl) ?_
                                                    refine lv_iconst (pc := 958) (v := 2) hx hb dL_law_958 (by decide) ?_
                                                    refine lv_iadd (pc := 959) hx hb dL_law_959 ?_
                                                    obtain ⟨hc_223, hp⟩ := hp
                                                    refine va_sld (pc := 960) hx hb hX hbl hbA hH.2.2 hc_223 dL_law_960 ?_
                                                    obtain ⟨hk_224, hp⟩ := hp
                                                    refine sx_V (pc := 961) (As := [.int (xs (x3_12 + 1).toNatClampNeg), .int (xs (x3_12 + 2).toNatClampNeg)]) (rest := []) B hH hl.1 (C_X11_distance G l q_1 (xs (x3_12 + 1).toNatClampNeg) (xs (x3_12 + 2).toNatClampNeg) _ _ hp) mi_X11_distance coX11 hk_224 w_947 w_948 w_946 rfl rfl ⟨Nat.le_of_ble_eq_true rfl, Nat.le_of_ble_eq_true rfl⟩ (Nat.le_of_ble_eq_true rfl) ⟨(show _ + 0 ≤ 600000 by omega), (show _ + 0 ≤ 7302250 by omega)⟩ dL_law_961 (fun v S1 H locs hq hH => ?_)
                                                    obtain ⟨r_225, F_225, rfl, e9, hp⟩ := hq
                                                    rw [e9] at hH
                                                    have hH : Hp G (FA es s.heap.size) s.heap (wI S_13 F_225) H locs := hH
                                                    refine W.eq (g2 := F0 m 964 ls [.int r_225]) rfl ?_
                                                    refine lv_aload_n (pc := 964) hx hb dL_law_964 rfl (lv_at hl 2 rfl) ?_
                                                    refine lv_aload_n (pc := 965) hx hb dL_law_965 rfl (lv_at hl 0 rfl) ?_
                                                    refine lv_iload_n (pc := 966) hx hb dL_law_966 rfl (lv_at hl 3 rfl) ?_
                                                    refine lv_iconst (pc := 967) (v := 1) hx hb dL_law_967 (by decide) ?_
                                                    refine lv_iadd (pc := 968) hx hb dL_law_968 ?_
                                                    obtain ⟨hc_226, hp⟩ := hp
                                                    refine va_sld (pc := 969) hx hb hX hbl hbA hH.2.2 hc_226 dL_law_969 ?_
                                                    refine lv_aload_n (pc := 970) hx hb dL_law_970 rfl (lv_at hl 0 rfl) ?_
                                                    refine lv_iload_n (pc := 971) hx hb dL_law_971 rfl (lv_at hl 3 rfl) ?_
                                                    refine lv_iconst (pc := 972) (v := 2) hx hb dL_law_972 (by decide) ?_
                                                    refine lv_iadd (pc := 973) hx hb dL_law_973 ?_
                                                    obtain ⟨hc_227, hp⟩ := hp
                                                    refine va_sld (pc := 974) hx hb hX hbl hbA hH.2.2 hc_227 dL_law_974 ?_
                                                    obtain ⟨hk_228, hp⟩ := hp
                                                    refine sx_V (pc := 975) (As := [.int (xs (x3_12 + 1).toNatClampNeg), .int (xs (x3_12 + 2).toNatClampNeg)]) (rest := [.int r_225]) B hH hl.1 (C_X12_distance G l q_6 (xs (x3_12 + 1).toNatClampNeg) (xs (x3_12 + 2).toNatClampNeg) _ _ hp) mi_X12_distance coX12 hk_228 w_1724 w_1725 w_1723 rfl rfl ⟨Nat.le_of_ble_eq_true rfl, Nat.le_of_ble_eq_true rfl⟩ (Nat.le_of_ble_eq_true rfl) ⟨(show _ + 0 ≤ 600000 by omega), (show _ + 0 ≤ 7302250 by omega)⟩ dL_law_975 (fun v S1 H locs hq hH => ?_)
                                                    obtain ⟨r_229, F_229, rfl, e9, hp⟩ := hq
                                                    rw [e9] at hH
                                                    have hH : Hp G (FA es s.heap.size) s.heap (wI S_13 F_229) H locs := hH
                                                    refine W.eq (g2 := F0 m 978 ls [.int r_229, .int r_225]) rfl ?_
                                                    refine lv_icmp_eq (pc := 978) (tgt := 1914) hx hb dL_law_978 (by decide) (fun cc_230 => ?_) (fun cc_230 => ?_)
                                                    · have hp := hp.1 cc_230
                                                      obtain ⟨v_231, ev_231⟩ : ∃ y : Int32, y = x3_12 + 6 := ⟨_, rfl⟩
                                                      have hp := hp v_231 ev_231
                                                      refine lv_iinc (pc := 1914) (v := v_231) (lv' := [(3, .int v_231), (0, .ref b), (1, .ref q_1), (2, .ref q_6)]) hx hb dL_law_1914 hl (k := 3) rfl (by rw [ev_231]; rfl) (by decide) rfl (fun ls hl => ?_)
                                                      refine lv_goto (pc := 1917) (tgt := 18) hx hb dL_law_1917 (by decide) ?_
                                                      obtain ⟨k9, hlt9, hp⟩ := hp
                                                      exact ih_11 k9 hlt9 _ _ _ _ _ _ _ _ _ hp (show _ + b_14 ≤ 600000 by omega) (show _ + d_14 ≤ 7302250 by omega) hH (lv_sub hl [1, 2, 3, 0] rfl)
                                                    · have hp := hp.2 cc_230
                                                      refine lv_iconst (pc := 981) (v := 0) hx hb dL_law_981 (by decide) ?_
                                                      exact hp.elim
                                                  · have hp := hp.2 cs_18_21
                                                    by_cases cs_18_22 : v_17 = 22
                                                    · have hp := hp.1 cs_18_22
                                                      refine lv_tableIn (pc := 33) (tgt := 983) hx hb dL_law_33 (by rw [cs_18_22]; decide) (by rw [cs_18_22]; decide) (by rw [cs_18_22]; rfl) (by decide) ?_
                                                      refine lv_aload_n (pc := 983) hx hb dL_law_983 rfl (lv_at hl 1 rfl) ?_
                                                      refine lv_aload_n (pc := 984) hx hb dL_law_984 rfl (lv_at hl 0 rfl) ?_
                                                      refine lv_iload_n (pc := 985) hx hb dL_law_985 rfl (lv_at hl 3 rfl) ?_
                                                      refine lv_iconst (pc := 986) (v := 1) hx hb dL_law_986 (by decide) ?_
                                                      refine lv_iadd (pc := 987) hx hb dL_law_987 ?_
                                                      obtain ⟨hc_232, hp⟩ := hp
                                                      refine va_sld (pc := 988) hx hb hX hbl hbA hH.2.2 hc_232 dL_law_988 ?_
                                                      refine lv_aload_n (pc := 989) hx hb dL_law_989 rfl (lv_at hl 0 rfl) ?_
                                                      refine lv_iload_n (pc := 990) hx hb dL_law_990 rfl (lv_at hl 3 rfl) ?_
                                                      refine lv_iconst (pc := 991) (v := 2) hx hb dL_law_991 (by decide) ?_
                                                      refine lv_iadd (pc := 992) hx hb dL_law_992 ?_
                                                      obtain ⟨hc_233, hp⟩ := hp
                                                      refine va_sld (pc := 993) hx hb hX hbl hbA hH.2.2 hc_233 dL_law_993 ?_
                                                      obtain ⟨hk_234, hp⟩ := hp
                                                      refine sx_V (pc := 994) (As := [.int (xs (x3_12 + 1).toNatClampNeg), .int (xs (x3_12 + 2).toNatClampNeg)]) (rest := []) B hH hl.1 (C_X11_between G l q_1 (xs (x3_12 + 1).toNatClampNeg) (xs (x3_12 + 2).toNatClampNeg) _ _ hp) mi_X11_between coX11 hk_234 w_952 w_953 w_951 rfl rfl ⟨Nat.le_of_ble_eq_true rfl, Nat.le_of_ble_eq_true rfl⟩ (Nat.le_of_ble_eq_true rfl) ⟨(show _ + 0 ≤ 600000 by omega), (show _ + 0 ≤ 7302250 by omega)⟩ dL_law_994 (fun v S1 H locs hq hH => ?_)
                                                      obtain ⟨r_235, F_235, rfl, e9, hp⟩ := hq
                                                      rw [e9] at hH
                                                      have hH : Hp G (FA es s.heap.size) s.heap (wI S_13 F_235) H locs := hH
                                                      refine W.eq (g2 := F0 m 997 ls [.int r_235]) rfl ?_
                                                      refine lv_aload_n (pc := 997) hx hb dL_law_997 rfl (lv_at hl 2 rfl) ?_
                                                      refine lv_aload_n (pc := 998) hx hb dL_law_998 rfl (lv_at hl 0 rfl) ?_
                                                      refine lv_iload_n (pc := 999) hx hb dL_law_999 rfl (lv_at hl 3 rfl) ?_
                                                      refine lv_iconst (pc := 1000) (v := 1) hx hb dL_law_1000 (by decide) ?_
                                                      refine lv_iadd (pc := 1001) hx hb dL_law_1001 ?_
                                                      obtain ⟨hc_236, hp⟩ := hp
                                                      refine va_sld (pc := 1002) hx hb hX hbl hbA hH.2.2 hc_236 dL_law_1002 ?_
                                                      refine lv_aload_n (pc := 1003) hx hb dL_law_1003 rfl (lv_at hl 0 rfl) ?_
                                                      refine lv_iload_n (pc := 1004) hx hb dL_law_1004 rfl (lv_at hl 3 rfl) ?_
                                                      refine lv_iconst (pc := 1005) (v := 2) hx hb dL_law_1005 (by decide) ?_
                                                      refine lv_iadd (pc := 1006) hx hb dL_law_1006 ?_
                                                      obtain ⟨hc_237, hp⟩ := hp
                                                      refine va_sld (pc := 1007) hx hb hX hbl hbA hH.2.2 hc_237 dL_law_1007 ?_
                                                      obtain ⟨hk_238, hp⟩ := hp
                                                      refine sx_V (pc := 1008) (As := [.int (xs (x3_12 + 1).toNatClampNeg), .int (xs (x3_12 + 2).toNatClampNeg)]) (rest := [.int r_235]) B hH hl.1 (C_X12_between G l q_6 (xs (x3_12 + 1).toNatClampNeg) (xs (x3_12 + 2).toNatClampNeg) _ _ hp) mi_X12_between coX12 hk_238 w_1728 w_1729 w_1727 rfl rfl ⟨Nat.le_of_ble_eq_true rfl, Nat.le_of_ble_eq_true rfl⟩ (Nat.le_of_ble_eq_true rfl) ⟨(show _ + 0 ≤ 600000 by omega), (show _ + 0 ≤ 7302250 by omega)⟩ dL_law_1008 (fun v S1 H locs hq hH => ?_)
                                                      obtain ⟨r_239, F_239, rfl, e9, hp⟩ := hq
                                                      rw [e9] at hH
                                                      have hH : Hp G (FA es s.heap.size) s.heap (wI S_13 F_239) H locs := hH
                                                      refine W.eq (g2 := F0 m 1011 ls [.int r_239, .int r_235]) rfl ?_
                                                      refine lv_icmp_eq (pc := 1011) (tgt := 1914) hx hb dL_law_1011 (by decide) (fun cc_240 => ?_) (fun cc_240 => ?_)
                                                      · have hp := hp.1 cc_240
                                                        obtain ⟨v_241, ev_241⟩ : ∃ y : Int32, y = x3_12 + 6 := ⟨_, rfl⟩
                                                        have hp := hp v_241 ev_241
                                                        refine lv_iinc (pc := 1914) (v := v_241) (lv' := [(3, .int v_241), (0, .ref b), (1, .ref q_1), (2, .ref q_6)]) hx hb dL_law_1914 hl (k := 3) rfl (by rw [ev_241]; rfl) (by decide) rfl (fun ls hl => ?_)
                                                        refine lv_goto (pc := 1917) (tgt := 18) hx hb dL_law_1917 (by decide) ?_
                                                        obtain ⟨k9, hlt9, hp⟩ := hp
                                                        exact ih_11 k9 hlt9 _ _ _ _ _ _ _ _ _ hp (show _ + b_14 ≤ 600000 by omega) (show _ + d_14 ≤ 7302250 by omega) hH (lv_sub hl [1, 2, 3, 0] rfl)
                                                      · have hp := hp.2 cc_240
                                                        refine lv_iconst (pc := 1014) (v := 0) hx hb dL_law_1014 (by decide) ?_
                                                        exact hp.elim
                                                    · have hp := hp.2 cs_18_22
                                                      by_cases cs_18_23 : v_17 = 23
                                                      · have hp := hp.1 cs_18_23
                                                        refine lv_tableIn (pc := 33) (tgt := 1016) hx hb dL_law_33 (by rw [cs_18_23]; decide) (by rw [cs_18_23]; decide) (by rw [cs_18_23]; rfl) (by decide) ?_
                                                        refine lv_aload_n (pc := 1016) hx hb dL_law_1016 rfl (lv_at hl 1 rfl) ?_
                                                        refine lv_aload_n (pc := 1017) hx hb dL_law_1017 rfl (lv_at hl 0 rfl) ?_
                                                        refine lv_iload_n (pc := 1018) hx hb dL_law_1018 rfl (lv_at hl 3 rfl) ?_
                                                        refine lv_iconst (pc := 1019) (v := 1) hx hb dL_law_1019 (by decide) ?_
                                                        refine lv_iadd (pc := 1020) hx hb dL_law_1020 ?_
                                                        obtain ⟨hc_242, hp⟩ := hp
                                                        refine va_sld (pc := 1021) hx hb hX hbl hbA hH.2.2 hc_242 dL_law_1021 ?_
                                                        obtain ⟨hk_243, hp⟩ := hp
                                                        refine sx_V (pc := 1022) (As := [.int (xs (x3_12 + 1).toNatClampNeg)]) (rest := []) B hH hl.1 (C_X11_changes G l q_1 (xs (x3_12 + 1).toNatClampNeg) _ _ hp) mi_X11_changes coX11 hk_243 w_963 w_964 w_962 rfl rfl ⟨Nat.le_of_ble_eq_true rfl, Nat.le_of_ble_eq_true rfl⟩ (Nat.le_of_ble_eq_true rfl) ⟨(show _ + 0 ≤ 600000 by omega), (show _ + 0 ≤ 7302250 by omega)⟩ dL_law_1022 (fun v S1 H locs hq hH => ?_)
                                                        obtain ⟨r_244, F_244, rfl, e9, hp⟩ := hq
                                                        rw [e9] at hH
                                                        have hH : Hp G (FA es s.heap.size) s.heap (wI S_13 F_244) H locs := hH
                                                        refine W.eq (g2 := F0 m 1025 ls [.int r_244]) rfl ?_
                                                        refine lv_aload_n (pc := 1025) hx hb dL_law_1025 rfl (lv_at hl 2 rfl) ?_
                                                        refine lv_aload_n (pc := 1026) hx hb dL_law_1026 rfl (lv_at hl 0 rfl) ?_
                                                        refine lv_iload_n (pc := 1027) hx hb dL_law_1027 rfl (lv_at hl 3 rfl) ?_
                                                        refine lv_iconst (pc := 1028) (v := 1) hx hb dL_law_1028 (by decide) ?_
                                                        refine lv_iadd (pc := 1029) hx hb dL_law_1029 ?_
                                                        obtain ⟨hc_245, hp⟩ := hp
                                                        refine va_sld (pc := 1030) hx hb hX hbl hbA hH.2.2 hc_245 dL_law_1030 ?_
                                                        obtain ⟨hk_246, hp⟩ := hp
                                                        refine sx_V (pc := 1031) (As := [.int (xs (x3_12 + 1).toNatClampNeg)]) (rest := [.int r_244]) B hH hl.1 (C_X12_changes G l q_6 (xs (x3_12 + 1).toNatClampNeg) _ _ hp) mi_X12_changes coX12 hk_246 w_1740 w_1741 w_1739 rfl rfl ⟨Nat.le_of_ble_eq_true rfl, Nat.le_of_ble_eq_true rfl⟩ (Nat.le_of_ble_eq_true rfl) ⟨(show _ + 0 ≤ 600000 by omega), (show _ + 0 ≤ 7302250 by omega)⟩ dL_law_1031 (fun v S1 H locs hq hH => ?_)
                                                        obtain ⟨r_247, F_247, rfl, e9, hp⟩ := hq
                                                        rw [e9] at hH
                                                        have hH : Hp G (FA es s.heap.size) s.heap (wI S_13 F_247) H locs := hH
                                                        refine W.eq (g2 := F0 m 1034 ls [.int r_247, .int r_244]) rfl ?_
                                                        refine lv_icmp_eq (pc := 1034) (tgt := 1914) hx hb dL_law_1034 (by decide) (fun cc_248 => ?_) (fun cc_248 => ?_)
                                                        · have hp := hp.1 cc_248
                                                          obtain ⟨v_249, ev_249⟩ : ∃ y : Int32, y = x3_12 + 6 := ⟨_, rfl⟩
                                                          have hp := hp v_249 ev_249
                                                          refine lv_iinc (pc := 1914) (v := v_249) (lv' := [(3, .int v_249), (0, .ref b), (1, .ref q_1), (2, .ref q_6)]) hx hb dL_law_1914 hl (k := 3) rfl (by rw [ev_249]; rfl) (by decide) rfl (fun ls hl => ?_)
                                                          refine lv_goto (pc := 1917) (tgt := 18) hx hb dL_law_1917 (by decide) ?_
                                                          obtain ⟨k9, hlt9, hp⟩ := hp
                                                          exact ih_11 k9 hlt9 _ _ _ _ _ _ _ _ _ hp (show _ + b_14 ≤ 600000 by omega) (show _ + d_14 ≤ 7302250 by omega) hH (lv_sub hl [1, 2, 3, 0] rfl)
                                                        · have hp := hp.2 cc_248
                                                          refine lv_iconst (pc := 1037) (v := 0) hx hb dL_law_1037 (by decide) ?_
                                                          exact hp.elim
                                                      · have hp := hp.2 cs_18_23
                                                        by_cases cs_18_24 : v_17 = 24
                                                        · have hp := hp.1 cs_18_24
                                                          refine lv_tableIn (pc := 33) (tgt := 1039) hx hb dL_law_33 (by rw [cs_18_24]; decide) (by rw [cs_18_24]; decide) (by rw [cs_18_24]; rfl) (by decide) ?_
                                                          refine lv_aload_n (pc := 1039) hx hb dL_law_1039 rfl (lv_at hl 1 rfl) ?_
                                                          refine lv_aload_n (pc := 1040) hx hb dL_law_1040 rfl (lv_at hl 0 rfl) ?_
                                                          refine lv_iload_n (pc := 1041) hx hb dL_law_1041 rfl (lv_at hl 3 rfl) ?_
                                                          refine lv_iconst (pc := 1042) (v := 1) hx hb dL_law_1042 (by decide) ?_
                                                          refine lv_iadd (pc := 1043) hx hb dL_law_1043 ?_
                                                          obtain ⟨hc_250, hp⟩ := hp
                                                          refine va_sld (pc := 1044) hx hb hX hbl hbA hH.2.2 hc_250 dL_law_1044 ?_
                                                          refine lv_aload_n (pc := 1045) hx hb dL_law_1045 rfl (lv_at hl 0 rfl) ?_
                                                          refine lv_iload_n (pc := 1046) hx hb dL_law_1046 rfl (lv_at hl 3 rfl) ?_
                                                          refine lv_iconst (pc := 1047) (v := 2) hx hb dL_law_1047 (by decide) ?_
                                                          refine lv_iadd (pc := 1048) hx hb dL_law_1048 ?_
                                                          obtain ⟨hc_251, hp⟩ := hp
                                                          refine va_sld (pc := 1049) hx hb hX hbl hbA hH.2.2 hc_251 dL_law_1049 ?_
                                                          refine lv_aload_n (pc := 1050) hx hb dL_law_1050 rfl (lv_at hl 0 rfl) ?_
                                                          refine lv_iload_n (pc := 1051) hx hb dL_law_1051 rfl (lv_at hl 3 rfl) ?_
                                                          refine lv_iconst (pc := 1052) (v := 3) hx hb dL_law_1052 (by decide) ?_
                                                          refine lv_iadd (pc := 1053) hx hb dL_law_1053 ?_
                                                          obtain ⟨hc_252, hp⟩ := hp
                                                          refine va_sld (pc := 1054) hx hb hX hbl hbA hH.2.2 hc_252 dL_law_1054 ?_
                                                          obtain ⟨hk_253, hp⟩ := hp
                                                          refine sx_V (pc := 1055) (As := [.int (xs (x3_12 + 1).toNatClampNeg), .int (xs (x3_12 + 2).toNatClampNeg), .int (xs (x3_12 + 3).toNatClampNeg)]) (rest := []) B hH hl.1 (C_X11_change G l q_1 (xs (x3_12 + 1).toNatClampNeg) (xs (x3_12 + 2).toNatClampNeg) (xs (x3_12 + 3).toNatClampNeg) _ _ hp) mi_X11_change coX11 hk_253 w_972 w_973 w_971 rfl rfl ⟨Nat.le_of_ble_eq_true rfl, Nat.le_of_ble_eq_true rfl⟩ (Nat.le_of_ble_eq_true rfl) ⟨(show _ + 0 ≤ 600000 by omega), (show _ + 0 ≤ 7302250 by omega)⟩ dL_law_1055 (fun v S1 H locs hq hH => ?_)
                                                          obtain ⟨r_254, F_254, rfl, e9, hp⟩ := hq
                                                          rw [e9] at hH
                                                          have hH : Hp G (FA es s.heap.size) s.heap (wI S_13 F_254) H locs := hH
                                                          refine W.eq (g2 := F0 m 1058 ls [.int r_254]) rfl ?_
                                                          refine lv_aload_n (pc := 1058) hx hb dL_law_1058 rfl (lv_at hl 2 rfl) ?_
                                                          refine lv_aload_n (pc := 1059) hx hb dL_law_1059 rfl (lv_at hl 0 rfl) ?_
                                                          refine lv_iload_n (pc := 1060) hx hb dL_law_1060 rfl (lv_at hl 3 rfl) ?_
                                                          refine lv_iconst (pc := 1061) (v := 1) hx hb dL_law_1061 (by decide) ?_
                                                          refine lv_iadd (pc := 1062) hx hb dL_law_1062 ?_
                                                          obtain ⟨hc_255, hp⟩ := hp
                                                          refine va_sld (pc := 1063) hx hb hX hbl hbA hH.2.2 hc_255 dL_law_1063 ?_
                                                          refine lv_aload_n (pc := 1064) hx hb dL_law_1064 rfl (lv_at hl 0 rfl) ?_
                                                          refine lv_iload_n (pc := 1065) hx hb dL_law_1065 rfl (lv_at hl 3 rfl) ?_
                                                          refine lv_iconst (pc := 1066) (v := 2) hx hb dL_law_1066 (by decide) ?_
                                                          refine lv_iadd (pc := 1067) hx hb dL_law_1067 ?_
                                                          obtain ⟨hc_256, hp⟩ := hp
                                                          refine va_sld (pc := 1068) hx hb hX hbl hbA hH.2.2 hc_256 dL_law_1068 ?_
                                                          refine lv_aload_n (pc := 1069) hx hb dL_law_1069 rfl (lv_at hl 0 rfl) ?_
                                                          refine lv_iload_n (pc := 1070) hx hb dL_law_1070 rfl (lv_at hl 3 rfl) ?_
                                                          refine lv_iconst (pc := 1071) (v := 3) hx hb dL_law_1071 (by decide) ?_
                                                          refine lv_iadd (pc := 1072) hx hb dL_law_1072 ?_
                                                          obtain ⟨hc_257, hp⟩ := hp
                                                          refine va_sld (pc := 1073) hx hb hX hbl hbA hH.2.2 hc_257 dL_law_1073 ?_
                                                          obtain ⟨hk_258, hp⟩ := hp
                                                          refine sx_V (pc := 1074) (As := [.int (xs (x3_12 + 1).toNatClampNeg), .int (xs (x3_12 + 2).toNatClampNeg), .int (xs (x3_12 + 3).toNatClampNeg)]) (rest := [.int r_254]) B hH hl.1 (C_X12_change G l q_6 (xs (x3_12 + 1).toNatClampNeg) (xs (x3_12 + 2).toNatClampNeg) (xs (x3_12 + 3).toNatClampNeg) _ _ hp) mi_X12_change coX12 hk_258 w_1752 w_1753 w_1751 rfl rfl ⟨Nat.le_of_ble_eq_true rfl, Nat.le_of_ble_eq_true rfl⟩ (Nat.le_of_ble_eq_true rfl) ⟨(show _ + 0 ≤ 600000 by omega), (show _ + 0 ≤ 7302250 by omega)⟩ dL_law_1074 (fun v S1 H locs hq hH => ?_)
                                                          obtain ⟨r_259, F_259, rfl, e9, hp⟩ := hq
                                                          rw [e9] at hH
                                                          have hH : Hp G (FA es s.heap.size) s.heap (wI S_13 F_259) H locs := hH
                                                          refine W.eq (g2 := F0 m 1077 ls [.int r_259, .int r_254]) rfl ?_
                                                          refine lv_icmp_eq (pc := 1077) (tgt := 1914) hx hb dL_law_1077 (by decide) (fun cc_260 => ?_) (fun cc_260 => ?_)
                                                          · have hp := hp.1 cc_260
                                                            obtain ⟨v_261, ev_261⟩ : ∃ y : Int32, y = x3_12 + 6 := ⟨_, rfl⟩
                                                            have hp := hp v_261 ev_261
                                                            refine lv_iinc (pc := 1914) (v := v_261) (lv' := [(3, .int v_261), (0, .ref b), (1, .ref q_1), (2, .ref q_6)]) hx hb dL_law_1914 hl (k := 3) rfl (by rw [ev_261]; rfl) (by decide) rfl (fun ls hl => ?_)
                                                            refine lv_goto (pc := 1917) (tgt := 18) hx hb dL_law_1917 (by decide) ?_
                                                            obtain ⟨k9, hlt9, hp⟩ := hp
                                                            exact ih_11 k9 hlt9 _ _ _ _ _ _ _ _ _ hp (show _ + b_14 ≤ 600000 by omega) (show _ + d_14 ≤ 7302250 by omega) hH (lv_sub hl [1, 2, 3, 0] rfl)
                                                          · have hp := hp.2 cc_260
                                                            refine lv_iconst (pc := 1080) (v := 0) hx hb dL_law_1080 (by decide) ?_
                                                            exact hp.elim
                                                        · have hp := hp.2 cs_18_24
                                                          by_cases cs_18_25 : v_17 = 25
                                                          · have hp := hp.1 cs_18_25
                                                            refine lv_tableIn (pc := 33) (tgt := 1082) hx hb dL_law_33 (by rw [cs_18_25]; decide) (by rw [cs_18_25]; decide) (by rw [cs_18_25]; rfl) (by decide) ?_
                                                            refine lv_aload_n (pc := 1082) hx hb dL_law_1082 rfl (lv_at hl 1 rfl) ?_
                                                            refine lv_aload_n (pc := 1083) hx hb dL_law_1083 rfl (lv_at hl 0 rfl) ?_
                                                            refine lv_iload_n (pc := 1084) hx hb dL_law_1084 rfl (lv_at hl 3 rfl) ?_
                                                            refine lv_iconst (pc := 1085) (v := 1) hx hb dL_law_1085 (by decide) ?_
                                                            refine lv_iadd (pc := 1086) hx hb dL_law_1086 ?_
                                                            obtain ⟨hc_262, hp⟩ := hp
                                                            refine va_sld (pc := 1087) hx hb hX hbl hbA hH.2.2 hc_262 dL_law_1087 ?_
                                                            refine lv_aload_n (pc := 1088) hx hb dL_law_1088 rfl (lv_at hl 0 rfl) ?_
                                                            refine lv_iload_n (pc := 1089) hx hb dL_law_1089 rfl (lv_at hl 3 rfl) ?_
                                                            refine lv_iconst (pc := 1090) (v := 2) hx hb dL_law_1090 (by decide) ?_
                                                            refine lv_iadd (pc := 1091) hx hb dL_law_1091 ?_
                                                            obtain ⟨hc_263, hp⟩ := hp
                                                            refine va_sld (pc := 1092) hx hb hX hbl hbA hH.2.2 hc_263 dL_law_1092 ?_
                                                            obtain ⟨hk_264, hp⟩ := hp
                                                            refine sx_V (pc := 1093) (As := [.int (xs (x3_12 + 1).toNatClampNeg), .int (xs (x3_12 + 2).toNatClampNeg)]) (rest := []) B hH hl.1 (C_X11_head G l q_1 (xs (x3_12 + 1).toNatClampNeg) (xs (x3_12 + 2).toNatClampNeg) _ _ hp) mi_X11_head coX11 hk_264 w_980 w_981 w_979 rfl rfl ⟨Nat.le_of_ble_eq_true rfl, Nat.le_of_ble_eq_true rfl⟩ (Nat.le_of_ble_eq_true rfl) ⟨(show _ + 0 ≤ 600000 by omega), (show _ + 0 ≤ 7302250 by omega)⟩ dL_law_1093 (fun v S1 H locs hq hH => ?_)
                                                            obtain ⟨r_265, F_265, rfl, e9, hp⟩ := hq
                                                            rw [e9] at hH
                                                            have hH : Hp G (FA es s.heap.size) s.heap (wI S_13 F_265) H locs := hH
                                                            refine W.eq (g2 := F0 m 1096 ls [.int r_265]) rfl ?_
                                                            refine lv_aload_n (pc := 1096) hx hb dL_law_1096 rfl (lv_at hl 2 rfl) ?_
                                                            refine lv_aload_n (pc := 1097) hx hb dL_law_1097 rfl (lv_at hl 0 rfl) ?_
                                                            refine lv_iload_n (pc := 1098) hx hb dL_law_1098 rfl (lv_at hl 3 rfl) ?_
                                                            refine lv_iconst (pc := 1099) (v := 1) hx hb dL_law_1099 (by decide) ?_
                                                            refine lv_iadd (pc := 1100) hx hb dL_law_1100 ?_
                                                            obtain ⟨hc_266, hp⟩ := hp
                                                            refine va_sld (pc := 1101) hx hb hX hbl hbA hH.2.2 hc_266 dL_law_1101 ?_
                                                            refine lv_aload_n (pc := 1102) hx hb dL_law_1102 rfl (lv_at hl 0 rfl) ?_
                                                            refine lv_iload_n (pc := 1103) hx hb dL_law_1103 rfl (lv_at hl 3 rfl) ?_
                                                            refine lv_iconst (pc := 1104) (v := 2) hx hb dL_law_1104 (by decide) ?_
                                                            refine lv_iadd (pc := 1105) hx hb dL_law_1105 ?_
                                                            obtain ⟨hc_267, hp⟩ := hp
                                                            refine va_sld (pc := 1106) hx hb hX hbl hbA hH.2.2 hc_267 dL_law_1106 ?_
                                                            obtain ⟨hk_268, hp⟩ := hp
                                                            refine sx_V (pc := 1107) (As := [.int (xs (x3_12 + 1).toNatClampNeg), .int (xs (x3_12 + 2).toNatClampNeg)]) (rest := [.int r_265]) B hH hl.1 (C_X12_head G l q_6 (xs (x3_12 + 1).toNatClampNeg) (xs (x3_12 + 2).toNatClampNeg) _ _ hp) mi_X12_head coX12 hk_268 w_1763 w_1764 w_1762 rfl rfl ⟨Nat.le_of_ble_eq_true rfl, Nat.le_of_ble_eq_true rfl⟩ (Nat.le_of_ble_eq_true rfl) ⟨(show _ + 0 ≤ 600000 by omega), (show _ + 0 ≤ 7302250 by omega)⟩ dL_law_1107 (fun v S1 H locs hq hH => ?_)
                                                            obtain ⟨r_269, F_269, rfl, e9, hp⟩ := hq
                                                            rw [e9] at hH
                                                            have hH : Hp G (FA es s.heap.size) s.heap (wI S_13 F_269) H locs := hH
                                                            refine W.eq (g2 := F0 m 1110 ls [.int r_269, .int r_265]) rfl ?_
                                                            refine lv_icmp_eq (pc := 1110) (tgt := 1914) hx hb dL_law_1110 (by decide) (fun cc_270 => ?_) (fun cc_270 => ?_)
                                                            · have hp := hp.1 cc_270
                                                              obtain ⟨v_271, ev_271⟩ : ∃ y : Int32, y = x3_12 + 6 := ⟨_, rfl⟩
                                                              have hp := hp v_271 ev_271
                                                              refine lv_iinc (pc := 1914) (v := v_271) (lv' := [(3, .int v_271), (0, .ref b), (1, .ref q_1), (2, .ref q_6)]) hx hb dL_law_1914 hl (k := 3) rfl (by rw [ev_271]; rfl) (by decide) rfl (fun ls hl => ?_)
                                                              refine lv_goto (pc := 1917) (tgt := 18) hx hb dL_law_1917 (by decide) ?_
                                                              obtain ⟨k9, hlt9, hp⟩ := hp
                                                              exact ih_11 k9 hlt9 _ _ _ _ _ _ _ _ _ hp (show _ + b_14 ≤ 600000 by omega) (show _ + d_14 ≤ 7302250 by omega) hH (lv_sub hl [1, 2, 3, 0] rfl)
                                                            · have hp := hp.2 cc_270
                                                              refine lv_iconst (pc := 1113) (v := 0) hx hb dL_law_1113 (by decide) ?_
                                                              exact hp.elim
                                                          · have hp := hp.2 cs_18_25
                                                            by_cases cs_18_26 : v_17 = 26
                                                            · have hp := hp.1 cs_18_26
                                                              refine lv_tableIn (pc := 33) (tgt := 1115) hx hb dL_law_33 (by rw [cs_18_26]; decide) (by rw [cs_18_26]; decide) (by rw [cs_18_26]; rfl) (by decide) ?_
                                                              refine lv_aload_n (pc := 1115) hx hb dL_law_1115 rfl (lv_at hl 1 rfl) ?_
                                                              refine lv_aload_n (pc := 1116) hx hb dL_law_1116 rfl (lv_at hl 0 rfl) ?_
                                                              refine lv_iload_n (pc := 1117) hx hb dL_law_1117 rfl (lv_at hl 3 rfl) ?_
                                                              refine lv_iconst (pc := 1118) (v := 1) hx hb dL_law_1118 (by decide) ?_
                                                              refine lv_iadd (pc := 1119) hx hb dL_law_1119 ?_
                                                              obtain ⟨hc_272, hp⟩ := hp
                                                              refine va_sld (pc := 1120) hx hb hX hbl hbA hH.2.2 hc_272 dL_law_1120 ?_
                                                              refine lv_aload_n (pc := 1121) hx hb dL_law_1121 rfl (lv_at hl 0 rfl) ?_
                                                              refine lv_iload_n (pc := 1122) hx hb dL_law_1122 rfl (lv_at hl 3 rfl) ?_
                                                              refine lv_iconst (pc := 1123) (v := 2) hx hb dL_law_1123 (by decide) ?_
                                                              refine lv_iadd (pc := 1124) hx hb dL_law_1124 ?_
                                                              obtain ⟨hc_273, hp⟩ := hp
                                                              refine va_sld (pc := 1125) hx hb hX hbl hbA hH.2.2 hc_273 dL_law_1125 ?_
                                                              obtain ⟨hk_274, hp⟩ := hp
                                                              refine sx_V (pc := 1126) (As := [.int (xs (x3_12 + 1).toNatClampNeg), .int (xs (x3_12 + 2).toNatClampNeg)]) (rest := []) B hH hl.1 (C_X11_course G l q_1 (xs (x3_12 + 1).toNatClampNeg) (xs (x3_12 + 2).toNatClampNeg) _ _ hp) mi_X11_course coX11 hk_274 w_984 w_985 w_983 rfl rfl ⟨Nat.le_of_ble_eq_true rfl, Nat.le_of_ble_eq_true rfl⟩ (Nat.le_of_ble_eq_true rfl) ⟨(show _ + 0 ≤ 600000 by omega), (show _ + 0 ≤ 7302250 by omega)⟩ dL_law_1126 (fun v S1 H locs hq hH => ?_)
                                                              obtain ⟨r_275, F_275, rfl, e9, hp⟩ := hq
                                                              rw [e9] at hH
                                                              have hH : Hp G (FA es s.heap.size) s.heap (wI S_13 F_275) H locs := hH
                                                              refine W.eq (g2 := F0 m 1129 ls [.int r_275]) rfl ?_
                                                              refine lv_aload_n (pc := 1129) hx hb dL_law_1129 rfl (lv_at hl 2 rfl) ?_
                                                              refine lv_aload_n (pc := 1130) hx hb dL_law_1130 rfl (lv_at hl 0 rfl) ?_
                                                              refine lv_iload_n (pc := 1131) hx hb dL_law_1131 rfl (lv_at hl 3 rfl) ?_
                                                              refine lv_iconst (pc := 1132) (v := 1) hx hb dL_law_1132 (by decide) ?_
                                                              refine lv_iadd (pc := 1133) hx hb dL_law_1133 ?_
                                                              obtain ⟨hc_276, hp⟩ := hp
                                                              refine va_sld (pc := 1134) hx hb hX hbl hbA hH.2.2 hc_276 dL_law_1134 ?_
                                                              refine lv_aload_n (pc := 1135) hx hb dL_law_1135 rfl (lv_at hl 0 rfl) ?_
                                                              refine lv_iload_n (pc := 1136) hx hb dL_law_1136 rfl (lv_at hl 3 rfl) ?_
                                                              refine lv_iconst (pc := 1137) (v := 2) hx hb dL_law_1137 (by decide) ?_
                                                              refine lv_iadd (pc := 1138) hx hb dL_law_1138 ?_
                                                              obtain ⟨hc_277, hp⟩ := hp
                                                              refine va_sld (pc := 1139) hx hb hX hbl hbA hH.2.2 hc_277 dL_law_1139 ?_
                                                              obtain ⟨hk_278, hp⟩ := hp
                                                              refine sx_V (pc := 1140) (As := [.int (xs (x3_12 + 1).toNatClampNeg), .int (xs (x3_12 + 2).toNatClampNeg)]) (rest := [.int r_275]) B hH hl.1 (C_X12_course G l q_6 (xs (x3_12 + 1).toNatClampNeg) (xs (x3_12 + 2).toNatClampNeg) _ _ hp) mi_X12_course coX12 hk_278 w_1771 w_1772 w_1770 rfl rfl ⟨Nat.le_of_ble_eq_true rfl, Nat.le_of_ble_eq_true rfl⟩ (Nat.le_of_ble_eq_true rfl) ⟨(show _ + 0 ≤ 600000 by omega), (show _ + 0 ≤ 7302250 by omega)⟩ dL_law_1140 (fun v S1 H locs hq hH => ?_)
                                                              obtain ⟨r_279, F_279, rfl, e9, hp⟩ := hq
                                                              rw [e9] at hH
                                                              have hH : Hp G (FA es s.heap.size) s.heap (wI S_13 F_279) H locs := hH
                                                              refine W.eq (g2 := F0 m 1143 ls [.int r_279, .int r_275]) rfl ?_
                                                              refine lv_icmp_eq (pc := 1143) (tgt := 1914) hx hb dL_law_1143 (by decide) (fun cc_280 => ?_) (fun cc_280 => ?_)
                                                              · have hp := hp.1 cc_280
                                                                obtain ⟨v_281, ev_281⟩ : ∃ y : Int32, y = x3_12 + 6 := ⟨_, rfl⟩
                                                                have hp := hp v_281 ev_281
                                                                refine lv_iinc (pc := 1914) (v := v_281) (lv' := [(3, .int v_281), (0, .ref b), (1, .ref q_1), (2, .ref q_6)]) hx hb dL_law_1914 hl (k := 3) rfl (by rw [ev_281]; rfl) (by decide) rfl (fun ls hl => ?_)
                                                                refine lv_goto (pc := 1917) (tgt := 18) hx hb dL_law_1917 (by decide) ?_
                                                                obtain ⟨k9, hlt9, hp⟩ := hp
                                                                exact ih_11 k9 hlt9 _ _ _ _ _ _ _ _ _ hp (show _ + b_14 ≤ 600000 by omega) (show _ + d_14 ≤ 7302250 by omega) hH (lv_sub hl [1, 2, 3, 0] rfl)
                                                              · have hp := hp.2 cc_280
                                                                refine lv_iconst (pc := 1146) (v := 0) hx hb dL_law_1146 (by decide) ?_
                                                                exact hp.elim
                                                            · have hp := hp.2 cs_18_26
                                                              by_cases cs_18_27 : v_17 = 27
                                                              · have hp := hp.1 cs_18_27
                                                                refine lv_tableIn (pc := 33) (tgt := 1148) hx hb dL_law_33 (by rw [cs_18_27]; decide) (by rw [cs_18_27]; decide) (by rw [cs_18_27]; rfl) (by decide) ?_
                                                                refine lv_aload_n (pc := 1148) hx hb dL_law_1148 rfl (lv_at hl 1 rfl) ?_
                                                                refine lv_aload_n (pc := 1149) hx hb dL_law_1149 rfl (lv_at hl 0 rfl) ?_
                                                                refine lv_iload_n (pc := 1150) hx hb dL_law_1150 rfl (lv_at hl 3 rfl) ?_
                                                                refine lv_iconst (pc := 1151) (v := 1) hx hb dL_law_1151 (by decide) ?_
                                                                refine lv_iadd (pc := 1152) hx hb dL_law_1152 ?_
                                                                obtain ⟨hc_282, hp⟩ := hp
                                                                refine va_sld (pc := 1153) hx hb hX hbl hbA hH.2.2 hc_282 dL_law_1153 ?_
                                                                refine lv_aload_n (pc := 1154) hx hb dL_law_1154 rfl (lv_at hl 0 rfl) ?_
                                                                refine lv_iload_n (pc := 1155) hx hb dL_law_1155 rfl (lv_at hl 3 rfl) ?_
                                                                refine lv_iconst (pc := 1156) (v := 2) hx hb dL_law_1156 (by decide) ?_
                                                                refine lv_iadd (pc := 1157) hx hb dL_law_1157 ?_
                                                                obtain ⟨hc_283, hp⟩ := hp
                                                                refine va_sld (pc := 1158) hx hb hX hbl hbA hH.2.2 hc_283 dL_law_1158 ?_
                                                                obtain ⟨hk_284, hp⟩ := hp
                                                                refine sx_V (pc := 1159) (As := [.int (xs (x3_12 + 1).toNatClampNeg), .int (xs (x3_12 + 2).toNatClampNeg)]) (rest := []) B hH hl.1 (C_X11_fixed G l q_1 (xs (x3_12 + 1).toNatClampNeg) (xs (x3_12 + 2).toNatClampNeg) _ _ hp) mi_X11_fixed coX11 hk_284 w_988 w_989 w_987 rfl rfl ⟨Nat.le_of_ble_eq_true rfl, Nat.le_of_ble_eq_true rfl⟩ (Nat.le_of_ble_eq_true rfl) ⟨(show _ + 0 ≤ 600000 by omega), (show _ + 0 ≤ 7302250 by omega)⟩ dL_law_1159 (fun v S1 H locs hq hH => ?_)
                                                                obtain ⟨r_285, F_285, rfl, e9, hp⟩ := hq
                                                                rw [e9] at hH
                                                                have hH : Hp G (FA es s.heap.size) s.heap (wI S_13 F_285) H locs := hH
                                                                refine W.eq (g2 := F0 m 1162 ls [.int r_285]) rfl ?_
                                                                refine lv_aload_n (pc := 1162) hx hb dL_law_1162 rfl (lv_at hl 2 rfl) ?_
                                                                refine lv_aload_n (pc := 1163) hx hb dL_law_1163 rfl (lv_at hl 0 rfl) ?_
                                                                refine lv_iload_n (pc := 1164) hx hb dL_law_1164 rfl (lv_at hl 3 rfl) ?_
                                                                refine lv_iconst (pc := 1165) (v := 1) hx hb dL_law_1165 (by decide) ?_
                                                                refine lv_iadd (pc := 1166) hx hb dL_law_1166 ?_
                                                                obtain ⟨hc_286, hp⟩ := hp
                                                                refine va_sld (pc := 1167) hx hb hX hbl hbA hH.2.2 hc_286 dL_law_1167 ?_
                                                                refine lv_aload_n (pc := 1168) hx hb dL_law_1168 rfl (lv_at hl 0 rfl) ?_
                                                                refine lv_iload_n (pc := 1169) hx hb dL_law_1169 rfl (lv_at hl 3 rfl) ?_
                                                                refine lv_iconst (pc := 1170) (v := 2) hx hb dL_law_1170 (by decide) ?_
                                                                refine lv_iadd (pc := 1171) hx hb dL_law_1171 ?_
                                                                obtain ⟨hc_287, hp⟩ := hp
                                                                refine va_sld (pc := 1172) hx hb hX hbl hbA hH.2.2 hc_287 dL_law_1172 ?_
                                                                obtain ⟨hk_288, hp⟩ := hp
                                                                refine sx_V (pc := 1173) (As := [.int (xs (x3_12 + 1).toNatClampNeg), .int (xs (x3_12 + 2).toNatClampNeg)]) (rest := [.int r_285]) B hH hl.1 (C_X12_fixed G l q_6 (xs (x3_12 + 1).toNatClampNeg) (xs (x3_12 + 2).toNatClampNeg) _ _ hp) mi_X12_fixed coX12 hk_288 w_1775 w_1776 w_1774 rfl rfl ⟨Nat.le_of_ble_eq_true rfl, Nat.le_of_ble_eq_true rfl⟩ (Nat.le_of_ble_eq_true rfl) ⟨(show _ + 0 ≤ 600000 by omega), (show _ + 0 ≤ 7302250 by omega)⟩ dL_law_1173 (fun v S1 H locs hq hH => ?_)
                                                                obtain ⟨r_289, F_289, rfl, e9, hp⟩ := hq
                                                                rw [e9] at hH
                                                                have hH : Hp G (FA es s.heap.size) s.heap (wI S_13 F_289) H locs := hH
                                                                refine W.eq (g2 := F0 m 1176 ls [.int r_289, .int r_285]) rfl ?_
                                                                refine lv_icmp_eq (pc := 1176) (tgt := 1914) hx hb dL_law_1176 (by decide) (fun cc_290 => ?_) (fun cc_290 => ?_)
                                                                · have hp := hp.1 cc_290
                                                                  obtain ⟨v_291, ev_291⟩ : ∃ y : Int32, y = x3_12 + 6 := ⟨_, rfl⟩
                                                                  have hp := hp v_291 ev_291
                                                                  refine lv_iinc (pc := 1914) (v := v_291) (lv' := [(3, .int v_291), (0, .ref b), (1, .ref q_1), (2, .ref q_6)]) hx hb dL_law_1914 hl (k := 3) rfl (by rw [ev_291]; rfl) (by decide) rfl (fun ls hl => ?_)
                                                                  refine lv_goto (pc := 1917) (tgt := 18) hx hb dL_law_1917 (by decide) ?_
                                                                  obtain ⟨k9, hlt9, hp⟩ := hp
                                                                  exact ih_11 k9 hlt9 _ _ _ _ _ _ _ _ _ hp (show _ + b_14 ≤ 600000 by omega) (show _ + d_14 ≤ 7302250 by omega) hH (lv_sub hl [1, 2, 3, 0] rfl)
                                                                · have hp := hp.2 cc_290
                                                                  refine lv_iconst (pc := 1179) (v := 0) hx hb dL_law_1179 (by decide) ?_
                                                                  exact hp.elim
                                                              · have hp := hp.2 cs_18_27
                                                                by_cases cs_18_28 : v_17 = 28
                                                                · have hp := hp.1 cs_18_28
                                                                  refine lv_tableIn (pc := 33) (tgt := 1181) hx hb dL_law_33 (by rw [cs_18_28]; decide) (by rw [cs_18_28]; decide) (by rw [cs_18_28]; rfl) (by decide) ?_
                                                                  refine lv_aload_n (pc := 1181) hx hb dL_law_1181 rfl (lv_at hl 1 rfl) ?_
                                                                  refine lv_aload_n (pc := 1182) hx hb dL_law_1182 rfl (lv_at hl 0 rfl) ?_
                                                                  refine lv_iload_n (pc := 1183) hx hb dL_law_1183 rfl (lv_at hl 3 rfl) ?_
                                                                  refine lv_iconst (pc := 1184) (v := 1) hx hb dL_law_1184 (by decide) ?_
                                                                  refine lv_iadd (pc := 1185) hx hb dL_law_1185 ?_
                                                                  obtain ⟨hc_292, hp⟩ := hp
                                                                  refine va_sld (pc := 1186) hx hb hX hbl hbA hH.2.2 hc_292 dL_law_1186 ?_
                                                                  obtain ⟨hk_293, hp⟩ := hp
                                                                  refine sx_V (pc := 1187) (As := [.int (xs (x3_12 + 1).toNatClampNeg)]) (rest := []) B hH hl.1 (C_X11_symmetric G l q_1 (xs (x3_12 + 1).toNatClampNeg) _ _ hp) mi_X11_symmetric coX11 hk_293 w_995 w_996 w_994 rfl rfl ⟨Nat.le_of_ble_eq_true rfl, Nat.le_of_ble_eq_true rfl⟩ (Nat.le_of_ble_eq_true rfl) ⟨(show _ + 0 ≤ 600000 by omega), (show _ + 0 ≤ 7302250 by omega)⟩ dL_law_1187 (fun v S1 H locs hq hH => ?_)
                                                                  obtain ⟨r_294, F_294, rfl, e9, hp⟩ := hq
                                                                  rw [e9] at hH
                                                                  have hH : Hp G (FA es s.heap.size) s.heap (wI S_13 F_294) H locs := hH
                                                                  refine W.eq (g2 := F0 m 1190 ls [.int r_294]) rfl ?_
                                                                  refine lv_aload_n (pc := 1190) hx hb dL_law_1190 rfl (lv_at hl 2 rfl) ?_
                                                                  refine lv_aload_n (pc := 1191) hx hb dL_law_1191 rfl (lv_at hl 0 rfl) ?_
                                                                  refine lv_iload_n (pc := 1192) hx hb dL_law_1192 rfl (lv_at hl 3 rfl) ?_
                                                                  refine lv_iconst (pc := 1193) (v := 1) hx hb dL_law_1193 (by decide) ?_
                                                                  refine lv_iadd (pc := 1194) hx hb dL_law_1194 ?_
                                                                  obtain ⟨hc_295, hp⟩ := hp
                                                                  refine va_sld (pc := 1195) hx hb hX hbl hbA hH.2.2 hc_295 dL_law_1195 ?_
                                                                  obtain ⟨hk_296, hp⟩ := hp
                                                                  refine sx_V (pc := 1196) (As := [.int (xs (x3_12 + 1).toNatClampNeg)]) (rest := [.int r_294]) B hH hl.1 (C_X12_symmetric G l q_6 (xs (x3_12 + 1).toNatClampNeg) _ _ hp) mi_X12_symmetric coX12 hk_296 w_1779 w_1780 w_1778 rfl rfl ⟨Nat.le_of_ble_eq_true rfl, Nat.le_of_ble_eq_true rfl⟩ (Nat.le_of_ble_eq_true rfl) ⟨(show _ + 0 ≤ 600000 by omega), (show _ + 0 ≤ 7302250 by omega)⟩ dL_law_1196 (fun v S1 H locs hq hH => ?_)
                                                                  obtain ⟨r_297, F_297, rfl, e9, hp⟩ := hq
                                                                  rw [e9] at hH
                                                                  have hH : Hp G (FA es s.heap.size) s.heap (wI S_13 F_297) H locs := hH
                                                                  refine W.eq (g2 := F0 m 1199 ls [.int r_297, .int r_294]) rfl ?_
                                                                  refine lv_icmp_eq (pc := 1199) (tgt := 1914) hx hb dL_law_1199 (by decide) (fun cc_298 => ?_) (fun cc_298 => ?_)
                                                                  · have hp := hp.1 cc_298
                                                                    obtain ⟨v_299, ev_299⟩ : ∃ y : Int32, y = x3_12 + 6 := ⟨_, rfl⟩
                                                                    have hp := hp v_299 ev_299
                                                                    refine lv_iinc (pc := 1914) (v := v_299) (lv' := [(3, .int v_299), (0, .ref b), (1, .ref q_1), (2, .ref q_6)]) hx hb dL_law_1914 hl (k := 3) rfl (by rw [ev_299]; rfl) (by decide) rfl (fun ls hl => ?_)
                                                                    refine lv_goto (pc := 1917) (tgt := 18) hx hb dL_law_1917 (by decide) ?_
                                                                    obtain ⟨k9, hlt9, hp⟩ := hp
                                                                    exact ih_11 k9 hlt9 _ _ _ _ _ _ _ _ _ hp (show _ + b_14 ≤ 600000 by omega) (show _ + d_14 ≤ 7302250 by omega) hH (lv_sub hl [1, 2, 3, 0] rfl)
                                                                  · have hp := hp.2 cc_298
                                                                    refine lv_iconst (pc := 1202) (v := 0) hx hb dL_law_1202 (by decide) ?_
                                                                    exact hp.elim
                                                                · have hp := hp.2 cs_18_28
                                                                  by_cases cs_18_29 : v_17 = 29
                                                                  · have hp := hp.1 cs_18_29
                                                                    refine lv_tableIn (pc := 33) (tgt := 1204) hx hb dL_law_33 (by rw [cs_18_29]; decide) (by rw [cs_18_29]; decide) (by rw [cs_18_29]; rfl) (by decide) ?_
                                                                    refine lv_aload_n (pc := 1204) hx hb dL_law_1204 rfl (lv_at hl 1 rfl) ?_
                                                                    refine lv_aload_n (pc := 1205) hx hb dL_law_1205 rfl (lv_at hl 0 rfl) ?_
                                                                    refine lv_iload_n (pc := 1206) hx hb dL_law_1206 rfl (lv_at hl 3 rfl) ?_
                                                                    refine lv_iconst (pc := 1207) (v := 1) hx hb dL_law_1207 (by decide) ?_
                                                                    refine lv_iadd (pc := 1208) hx hb dL_law_1208 ?_
                                                                    obtain ⟨hc_300, hp⟩ := hp
                                                                    refine va_sld (pc := 1209) hx hb hX hbl hbA hH.2.2 hc_300 dL_law_1209 ?_
                                                                    obtain ⟨hk_301, hp⟩ := hp
                                                                    refine sx_V (pc := 1210) (As := [.int (xs (x3_12 + 1).toNatClampNeg)]) (rest := []) B hH hl.1 (C_X11_leadTrue G l q_1 (xs (x3_12 + 1).toNatClampNeg) _ _ hp) mi_X11_leadTrue coX11 hk_301 w_1002 w_1003 w_1001 rfl rfl ⟨Nat.le_of_ble_eq_true rfl, Nat.le_of_ble_eq_true rfl⟩ (Nat.le_of_ble_eq_true rfl) ⟨(show _ + 0 ≤ 600000 by omega), (show _ + 0 ≤ 7302250 by omega)⟩ dL_law_1210 (fun v S1 H locs hq hH => ?_)
                                                                    obtain ⟨r_302, F_302, rfl, e9, hp⟩ := hq
                                                                    rw [e9] at hH
                                                                    have hH : Hp G (FA es s.heap.size) s.heap (wI S_13 F_302) H locs := hH
                                                                    refine W.eq (g2 := F0 m 1213 ls [.int r_302]) rfl ?_
                                                                    refine lv_aload_n (pc := 1213) hx hb dL_law_1213 rfl (lv_at hl 2 rfl) ?_
                                                                    refine lv_aload_n (pc := 1214) hx hb dL_law_1214 rfl (lv_at hl 0 rfl) ?_
                                                                    refine lv_iload_n (pc := 1215) hx hb dL_law_1215 rfl (lv_at hl 3 rfl) ?_
                                                                    refine lv_iconst (pc := 1216) (v := 1) hx hb dL_law_1216 (by decide) ?_
                                                                    refine lv_iadd (pc := 1217) hx hb dL_law_1217 ?_
                                                                    obtain ⟨hc_303, hp⟩ := hp
                                                                    refine va_sld (pc := 1218) hx hb hX hbl hbA hH.2.2 hc_303 dL_law_1218 ?_
                                                                    obtain ⟨hk_304, hp⟩ := hp
                                                                    refine sx_V (pc := 1219) (As := [.int (xs (x3_12 + 1).toNatClampNeg)]) (rest := [.int r_302]) B hH hl.1 (C_X12_leadTrue G l q_6 (xs (x3_12 + 1).toNatClampNeg) _ _ hp) mi_X12_leadTrue coX12 hk_304 w_1795 w_1796 w_1794 rfl rfl ⟨Nat.le_of_ble_eq_true rfl, Nat.le_of_ble_eq_true rfl⟩ (Nat.le_of_ble_eq_true rfl) ⟨(show _ + 0 ≤ 600000 by omega), (show _ + 0 ≤ 7302250 by omega)⟩ dL_law_1219 (fun v S1 H locs hq hH => ?_)
                                                                    obtain ⟨r_305, F_305, rfl, e9, hp⟩ := hq
                                                                    rw [e9] at hH
                                                                    have hH : Hp G (FA es s.heap.size) s.heap (wI S_13 F_305) H locs := hH
                                                                    refine W.eq (g2 := F0 m 1222 ls [.int r_305, .int r_302]) rfl ?_
                                                                    refine lv_icmp_eq (pc := 1222) (tgt := 1914) hx hb dL_law_1222 (by decide) (fun cc_306 => ?_) (fun cc_306 => ?_)
                                                                    · have hp := hp.1 cc_306
                                                                      obtain ⟨v_307, ev_307⟩ : ∃ y : Int32, y = x3_12 + 6 := ⟨_, rfl⟩
                                                                      have hp := hp v_307 ev_307
                                                                      refine lv_iinc (pc := 1914) (v := v_307) (lv' := [(3, .int v_307), (0, .ref b), (1, .ref q_1), (2, .ref q_6)]) hx hb dL_law_1914 hl (k := 3) rfl (by rw [ev_307]; rfl) (by decide) rfl (fun ls hl => ?_)
                                                                      refine lv_goto (pc := 1917) (tgt := 18) hx hb dL_law_1917 (by decide) ?_
                                                                      obtain ⟨k9, hlt9, hp⟩ := hp
                                                                      exact ih_11 k9 hlt9 _ _ _ _ _ _ _ _ _ hp (show _ + b_14 ≤ 600000 by omega) (show _ + d_14 ≤ 7302250 by omega) hH (lv_sub hl [1, 2, 3, 0] rfl)
                                                                    · have hp := hp.2 cc_306
                                                                      refine lv_iconst (pc := 1225) (v := 0) hx hb dL_law_1225 (by decide) ?_
                                                                      exact hp.elim
                                                                  · have hp := hp.2 cs_18_29
                                                                    by_cases cs_18_30 : v_17 = 30
                                                                    · have hp := hp.1 cs_18_30
                                                                      refine lv_tableIn (pc := 33) (tgt := 1227) hx hb dL_law_33 (by rw [cs_18_30]; decide) (by rw [cs_18_30]; decide) (by rw [cs_18_30]; rfl) (by decide) ?_
                                                                      refine lv_aload_n (pc := 1227) hx hb dL_law_1227 rfl (lv_at hl 1 rfl) ?_
                                                                      refine lv_aload_n (pc := 1228) hx hb dL_law_1228 rfl (lv_at hl 0 rfl) ?_
                                                                      refine lv_iload_n (pc := 1229) hx hb dL_law_1229 rfl (lv_at hl 3 rfl) ?_
                                                                      refine lv_iconst (pc := 1230) (v := 1) hx hb dL_law_1230 (by decide) ?_
                                                                      refine lv_iadd (pc := 1231) hx hb dL_law_1231 ?_
                                                                      obtain ⟨hc_308, hp⟩ := hp
                                                                      refine va_sld (pc := 1232) hx hb hX hbl hbA hH.2.2 hc_308 dL_law_1232 ?_
                                                                      refine lv_aload_n (pc := 1233) hx hb dL_law_1233 rfl (lv_at hl 0 rfl) ?_
                                                                      refine lv_iload_n (pc := 1234) hx hb dL_law_1234 rfl (lv_at hl 3 rfl) ?_
                                                                      refine lv_iconst (pc := 1235) (v := 2) hx hb dL_law_1235 (by decide) ?_
                                                                      refine lv_iadd (pc := 1236) hx hb dL_law_1236 ?_
                                                                      obtain ⟨hc_309, hp⟩ := hp
                                                                      refine va_sld (pc := 1237) hx hb hX hbl hbA hH.2.2 hc_309 dL_law_1237 ?_
                                                                      obtain ⟨hk_310, hp⟩ := hp
                                                                      refine sx_V (pc := 1238) (As := [.int (xs (x3_12 + 1).toNatClampNeg), .int (xs (x3_12 + 2).toNatClampNeg)]) (rest := []) B hH hl.1 (C_X11_falseAgainst G l q_1 (xs (x3_12 + 1).toNatClampNeg) (xs (x3_12 + 2).toNatClampNeg) _ _ hp) mi_X11_falseAgainst coX11 hk_310 w_1011 w_1012 w_1010 rfl rfl ⟨Nat.le_of_ble_eq_true rfl, Nat.le_of_ble_eq_true rfl⟩ (Nat.le_of_ble_eq_true rfl) ⟨(show _ + 0 ≤ 600000 by omega), (show _ + 0 ≤ 7302250 by omega)⟩ dL_law_1238 (fun v S1 H locs hq hH => ?_)
                                                                      obtain ⟨r_311, F_311, rfl, e9, hp⟩ := hq
                                                                      rw [e9] at hH
                                                                      have hH : Hp G (FA es s.heap.size) s.heap (wI S_13 F_311) H locs := hH
                                                                      refine W.eq (g2 := F0 m 1241 ls [.int r_311]) rfl ?_
                                                                      refine lv_aload_n (pc := 1241) hx hb dL_law_1241 rfl (lv_at hl 2 rfl) ?_
                                                                      refine lv_aload_n (pc := 1242) hx hb dL_law_1242 rfl (lv_at hl 0 rfl) ?_
                                                                      refine lv_iload_n (pc := 1243) hx hb dL_law_1243 rfl (lv_at hl 3 rfl) ?_
                                                                      refine lv_iconst (pc := 1244) (v := 1) hx hb dL_law_1244 (by decide) ?_
                                                                      refine lv_iadd (pc := 1245) hx hb dL_law_1245 ?_
                                                                      obtain ⟨hc_312, hp⟩ := hp
                                                                      refine va_sld (pc := 1246) hx hb hX hbl hbA hH.2.2 hc_312 dL_law_1246 ?_
                                                                      refine lv_aload_n (pc := 1247) hx hb dL_law_1247 rfl (lv_at hl 0 rfl) ?_
                                                                      refine lv_iload_n (pc := 1248) hx hb dL_law_1248 rfl (lv_at hl 3 rfl) ?_
                                                                      refine lv_iconst (pc := 1249) (v := 2) hx hb dL_law_1249 (by decide) ?_
                                                                      refine lv_iadd (pc := 1250) hx hb dL_law_1250 ?_
                                                                      obtain ⟨hc_313, hp⟩ := hp
                                                                      refine va_sld (pc := 1251) hx hb hX hbl hbA hH.2.2 hc_313 dL_law_1251 ?_
                                                                      obtain ⟨hk_314, hp⟩ := hp
                                                                      refine sx_V (pc := 1252) (As := [.int (xs (x3_12 + 1).toNatClampNeg), .int (xs (x3_12 + 2).toNatClampNeg)]) (rest := [.int r_311]) B hH hl.1 (C_X12_falseAgainst G l q_6 (xs (x3_12 + 1).toNatClampNeg) (xs (x3_12 + 2).toNatClampNeg) _ _ hp) mi_X12_falseAgainst coX12 hk_314 w_1799 w_1800 w_1798 rfl rfl ⟨Nat.le_of_ble_eq_true rfl, Nat.le_of_ble_eq_true rfl⟩ (Nat.le_of_ble_eq_true rfl) ⟨(show _ + 0 ≤ 600000 by omega), (show _ + 0 ≤ 7302250 by omega)⟩ dL_law_1252 (fun v S1 H locs hq hH => ?_)
                                                                      obtain ⟨r_315, F_315, rfl, e9, hp⟩ := hq
                                                                      rw [e9] at hH
                                                                      have hH : Hp G (FA es s.heap.size) s.heap (wI S_13 F_315) H locs := hH
                                                                      refine W.eq (g2 := F0 m 1255 ls [.int r_315, .int r_311]) rfl ?_
                                                                      refine lv_icmp_eq (pc := 1255) (tgt := 1914) hx hb dL_law_1255 (by decide) (fun cc_316 => ?_) (fun cc_316 => ?_)
                                                                      · have hp := hp.1 cc_316
                                                                        obtain ⟨v_317, ev_317⟩ : ∃ y : Int32, y = x3_12 + 6 := ⟨_, rfl⟩
                                                                        have hp := hp v_317 ev_317
                                                                        refine lv_iinc (pc := 1914) (v := v_317) (lv' := [(3, .int v_317), (0, .ref b), (1, .ref q_1), (2, .ref q_6)]) hx hb dL_law_1914 hl (k := 3) rfl (by rw [ev_317]; rfl) (by decide) rfl (fun ls hl => ?_)
                                                                        refine lv_goto (pc := 1917) (tgt := 18) hx hb dL_law_1917 (by decide) ?_
                                                                        obtain ⟨k9, hlt9, hp⟩ := hp
                                                                        exact ih_11 k9 hlt9 _ _ _ _ _ _ _ _ _ hp (show _ + b_14 ≤ 600000 by omega) (show _ + d_14 ≤ 7302250 by omega) hH (lv_sub hl [1, 2, 3, 0] rfl)
                                                                      · have hp := hp.2 cc_316
                                                                        refine lv_iconst (pc := 1258) (v := 0) hx hb dL_law_1258 (by decide) ?_
                                                                        exact hp.elim
                                                                    · have hp := hp.2 cs_18_30
                                                                      by_cases cs_18_31 : v_17 = 31
                                                                      · have hp := hp.1 cs_18_31
                                                                        refine lv_tableIn (pc := 33) (tgt := 1260) hx hb dL_law_33 (by rw [cs_18_31]; decide) (by rw [cs_18_31]; decide) (by rw [cs_18_31]; rfl) (by decide) ?_
                                                                        refine lv_aload_n (pc := 1260) hx hb dL_law_1260 rfl (lv_at hl 1 rfl) ?_
                                                                        refine lv_aload_n (pc := 1261) hx hb dL_law_1261 rfl (lv_at hl 0 rfl) ?_
                                                                        refine lv_iload_n (pc := 1262) hx hb dL_law_1262 rfl (lv_at hl 3 rfl) ?_
                                                                        refine lv_iconst (pc := 1263) (v := 1) hx hb dL_law_1263 (by decide) ?_
                                                                        refine lv_iadd (pc := 1264) hx hb dL_law_1264 ?_
                                                                        obtain ⟨hc_318, hp⟩ := hp
                                                                        refine va_sld (pc := 1265) hx hb hX hbl hbA hH.2.2 hc_318 dL_law_1265 ?_
                                                                        obtain ⟨hk_319, hp⟩ := hp
                                                                        obtain ⟨c_320, s_320, hb_320, hs_320, hp⟩ := hp
                                                                        refine sx_V (pc := 1266) (As := [.int (xs (x3_12 + 1).toNatClampNeg)]) (rest := []) B hH hl.1 (C_X11_falses G l q_1 (xs (x3_12 + 1).toNatClampNeg) _ c_320 s_320 _ hp) mi_X11_falses coX11 hk_319 w_1019 w_1020 w_1018 rfl rfl ⟨Nat.le_of_ble_eq_true rfl, Nat.le_of_ble_eq_true rfl⟩ (Nat.le_of_ble_eq_true rfl) ⟨(show _ + c_320 ≤ 600000 by omega), (show _ + s_320 ≤ 7302250 by omega)⟩ dL_law_1266 (fun v S1 H locs hq hH => ?_)
                                                                        obtain ⟨r_321, rfl, hp⟩ := hq
                                                                        obtain ⟨S_321, eS_321⟩ : ∃ z : St, z = S1 := ⟨_, rfl⟩
                                                                        rw [← eS_321] at hp hH
                                                                        refine W.eq (g2 := F0 m 1269 ls [.int r_321]) rfl ?_
                                                                        refine lv_aload_n (pc := 1269) hx hb dL_law_1269 rfl (lv_at hl 2 rfl) ?_
                                                                        refine lv_aload_n (pc := 1270) hx hb dL_law_1270 rfl (lv_at hl 0 rfl) ?_
                                                                        refine lv_iload_n (pc := 1271) hx hb dL_law_1271 rfl (lv_at hl 3 rfl) ?_
                                                                        refine lv_iconst (pc := 1272) (v := 1) hx hb dL_law_1272 (by decide) ?_
                                                                        refine lv_iadd (pc := 1273) hx hb dL_law_1273 ?_
                                                                        obtain ⟨hc_322, hp⟩ := hp
                                                                        refine va_sld (pc := 1274) hx hb hX hbl hbA hH.2.2 hc_322 dL_law_1274 ?_
                                                                        obtain ⟨hk_323, hp⟩ := hp
                                                                        refine sx_V (pc := 1275) (As := [.int (xs (x3_12 + 1).toNatClampNeg)]) (rest := [.int r_321]) B hH hl.1 (C_X12_falses G l q_6 (xs (x3_12 + 1).toNatClampNeg) _ _ hp) mi_X12_falses coX12 hk_323 w_1807 w_1808 w_1806 rfl rfl ⟨Nat.le_of_ble_eq_true rfl, Nat.le_of_ble_eq_true rfl⟩ (Nat.le_of_ble_eq_true rfl) ⟨(show _ + 0 ≤ 600000 by omega), (show _ + 0 ≤ 7302250 by omega)⟩ dL_law_1275 (fun v S1 H locs hq hH => ?_)
                                                                        obtain ⟨r_324, F_324, rfl, e9, hp⟩ := hq
                                                                        rw [e9] at hH
                                                                        have hH : Hp G (FA es s.heap.size) s.heap (wI S_321 F_324) H locs := hH
                                                                        refine W.eq (g2 := F0 m 1278 ls [.int r_324, .int r_321]) rfl ?_
                                                                        refine lv_icmp_eq (pc := 1278) (tgt := 1914) hx hb dL_law_1278 (by decide) (fun cc_325 => ?_) (fun cc_325 => ?_)
                                                                        · have hp := hp.1 cc_325
                                                                          obtain ⟨v_326, ev_326⟩ : ∃ y : Int32, y = x3_12 + 6 := ⟨_, rfl⟩
                                                                          have hp := hp v_326 ev_326
                                                                          refine lv_iinc (pc := 1914) (v := v_326) (lv' := [(3, .int v_326), (0, .ref b), (1, .ref q_1), (2, .ref q_6)]) hx hb dL_law_1914 hl (k := 3) rfl (by rw [ev_326]; rfl) (by decide) rfl (fun ls hl => ?_)
                                                                          refine lv_goto (pc := 1917) (tgt := 18) hx hb dL_law_1917 (by decide) ?_
                                                                          obtain ⟨k9, hlt9, hp⟩ := hp
                                                                          exact ih_11 k9 hlt9 _ _ _ _ _ _ _ _ _ hp (show _ + (b_14 - c_320) ≤ 600000 by omega) (show _ + (d_14 - s_320) ≤ 7302250 by omega) hH (lv_sub hl [1, 2, 3, 0] rfl)
                                                                        · have hp := hp.2 cc_325
                                                                          refine lv_iconst (pc := 1281) (v := 0) hx hb dL_law_1281 (by decide) ?_
                                                                          exact hp.elim
                                                                      · have hp := hp.2 cs_18_31
                                                                        by_cases cs_18_32 : v_17 = 32
                                                                        · have hp := hp.1 cs_18_32
                                                                          refine lv_tableIn (pc := 33) (tgt := 1283) hx hb dL_law_33 (by rw [cs_18_32]; decide) (by rw [cs_18_32]; decide) (by rw [cs_18_32]; rfl) (by decide) ?_
                                                                          refine lv_aload_n (pc := 1283) hx hb dL_law_1283 rfl (lv_at hl 1 rfl) ?_
                                                                          refine lv_aload_n (pc := 1284) hx hb dL_law_1284 rfl (lv_at hl 0 rfl) ?_
                                                                          refine lv_iload_n (pc := 1285) hx hb dL_law_1285 rfl (lv_at hl 3 rfl) ?_
                                                                          refine lv_iconst (pc := 1286) (v := 1) hx hb dL_law_1286 (by decide) ?_
                                                                          refine lv_iadd (pc := 1287) hx hb dL_law_1287 ?_
                                                                          obtain ⟨hc_327, hp⟩ := hp
                                                                          refine va_sld (pc := 1288) hx hb hX hbl hbA hH.2.2 hc_327 dL_law_1288 ?_
                                                                          refine lv_aload_n (pc := 1289) hx hb dL_law_1289 rfl (lv_at hl 0 rfl) ?_
                                                                          refine lv_iload_n (pc := 1290) hx hb dL_law_1290 rfl (lv_at hl 3 rfl) ?_
                                                                          refine lv_iconst (pc := 1291) (v := 2) hx hb dL_law_1291 (by decide) ?_
                                                                          refine lv_iadd (pc := 1292) hx hb dL_law_1292 ?_
                                                                          obtain ⟨hc_328, hp⟩ := hp
                                                                          refine va_sld (pc := 1293) hx hb hX hbl hbA hH.2.2 hc_328 dL_law_1293 ?_
                                                                          obtain ⟨hk_329, hp⟩ := hp
                                                                          refine sx_V (pc := 1294) (As := [.int (xs (x3_12 + 1).toNatClampNeg), .int (xs (x3_12 + 2).toNatClampNeg)]) (rest := []) B hH hl.1 (C_X11_leadsTo G l q_1 (xs (x3_12 + 1).toNatClampNeg) (xs (x3_12 + 2).toNatClampNeg) _ _ hp) mi_X11_leadsTo coX11 hk_329 w_1039 w_1040 w_1038 rfl rfl ⟨Nat.le_of_ble_eq_true rfl, Nat.le_of_ble_eq_true rfl⟩ (Nat.le_of_ble_eq_true rfl) ⟨(show _ + 0 ≤ 600000 by omega), (show _ + 0 ≤ 7302250 by omega)⟩ dL_law_1294 (fun v S1 H locs hq hH => ?_)
                                                                          obtain ⟨r_330, F_330, rfl, e9, hp⟩ := hq
                                                                          rw [e9] at hH
                                                                          have hH : Hp G (FA es s.heap.size) s.heap (wI S_13 F_330) H locs := hH
                                                                          refine W.eq (g2 := F0 m 1297 ls [.int r_330]) rfl ?_
                                                                          refine lv_aload_n (pc := 1297) hx hb dL_law_1297 rfl (lv_at hl 2 rfl) ?_
                                                                          refine lv_aload_n (pc := 1298) hx hb dL_law_1298 rfl (lv_at hl 0 rfl) ?_
                                                                          refine lv_iload_n (pc := 1299) hx hb dL_law_1299 rfl (lv_at hl 3 rfl) ?_
                                                                          refine lv_iconst (pc := 1300) (v := 1) hx hb dL_law_1300 (by decide) ?_
                                                                          refine lv_iadd (pc := 1301) hx hb dL_law_1301 ?_
                                                                          obtain ⟨hc_331, hp⟩ := hp
                                                                          refine va_sld (pc := 1302) hx hb hX hbl hbA hH.2.2 hc_331 dL_law_1302 ?_
                                                                          refine lv_aload_n (pc := 1303) hx hb dL_law_1303 rfl (lv_at hl 0 rfl) ?_
                                                                          refine lv_iload_n (pc := 1304) hx hb dL_law_1304 rfl (lv_at hl 3 rfl) ?_
                                                                          refine lv_iconst (pc := 1305) (v := 2) hx hb dL_law_1305 (by decide) ?_
                                                                          refine lv_iadd (pc := 1306) hx hb dL_law_1306 ?_
                                                                          obtain ⟨hc_332, hp⟩ := hp
                                                                          refine va_sld (pc := 1307) hx hb hX hbl hbA hH.2.2 hc_332 dL_law_1307 ?_
                                                                          obtain ⟨hk_333, hp⟩ := hp
                                                                          refine sx_V (pc := 1308) (As := [.int (xs (x3_12 + 1).toNatClampNeg), .int (xs (x3_12 + 2).toNatClampNeg)]) (rest := [.int r_330]) B hH hl.1 (C_X12_leadsTo G l q_6 (xs (x3_12 + 1).toNatClampNeg) (xs (x3_12 + 2).toNatClampNeg) _ _ hp) mi_X12_leadsTo coX12 hk_333 w_1783 w_1784 w_1782 rfl rfl ⟨Nat.le_of_ble_eq_true rfl, Nat.le_of_ble_eq_true rfl⟩ (Nat.le_of_ble_eq_true rfl) ⟨(show _ + 0 ≤ 600000 by omega), (show _ + 0 ≤ 7302250 by omega)⟩ dL_law_1308 (fun v S1 H locs hq hH => ?_)
                                                                          obtain ⟨r_334, F_334, rfl, e9, hp⟩ := hq
                                                                          rw [e9] at hH
                                                                          have hH : Hp G (FA es s.heap.size) s.heap (wI S_13 F_334) H locs := hH
                                                                          refine W.eq (g2 := F0 m 1311 ls [.int r_334, .int r_330]) rfl ?_
                                                                          refine lv_icmp_eq (pc := 1311) (tgt := 1914) hx hb dL_law_1311 (by decide) (fun cc_335 => ?_) (fun cc_335 => ?_)
                                                                          · have hp := hp.1 cc_335
                                                                            obtain ⟨v_336, ev_336⟩ : ∃ y : Int32, y = x3_12 + 6 := ⟨_, rfl⟩
                                                                            have hp := hp v_336 ev_336
                                                                            refine lv_iinc (pc := 1914) (v := v_336) (lv' := [(3, .int v_336), (0, .ref b), (1, .ref q_1), (2, .ref q_6)]) hx hb dL_law_1914 hl (k := 3) rfl (by rw [ev_336]; rfl) (by decide) rfl (fun ls hl => ?_)
                                                                            refine lv_goto (pc := 1917) (tgt := 18) hx hb dL_law_1917 (by decide) ?_
                                                                            obtain ⟨k9, hlt9, hp⟩ := hp
                                                                            exact ih_11 k9 hlt9 _ _ _ _ _ _ _ _ _ hp (show _ + b_14 ≤ 600000 by omega) (show _ + d_14 ≤ 7302250 by omega) hH (lv_sub hl [1, 2, 3, 0] rfl)
                                                                          · have hp := hp.2 cc_335
                                                                            refine lv_iconst (pc := 1314) (v := 0) hx hb dL_law_1314 (by decide) ?_
                                                                            exact hp.elim
                                                                        · have hp := hp.2 cs_18_32
                                                                          by_cases cs_18_33 : v_17 = 33
                                                                          · have hp := hp.1 cs_18_33
                                                                            refine lv_tableIn (pc := 33) (tgt := 1316) hx hb dL_law_33 (by rw [cs_18_33]; decide) (by rw [cs_18_33]; decide) (by rw [cs_18_33]; rfl) (by decide) ?_
                                                                            refine lv_aload_n (pc := 1316) hx hb dL_law_1316 rfl (lv_at hl 1 rfl) ?_
                                                                            refine lv_aload_n (pc := 1317) hx hb dL_law_1317 rfl (lv_at hl 0 rfl) ?_
                                                                            refine lv_iload_n (pc := 1318) hx hb dL_law_1318 rfl (lv_at hl 3 rfl) ?_
                                                                            refine lv_iconst (pc := 1319) (v := 1) hx hb dL_law_1319 (by decide) ?_
                                                                            refine lv_iadd (pc := 1320) hx hb dL_law_1320 ?_
                                                                            obtain ⟨hc_337, hp⟩ := hp
                                                                            refine va_sld (pc := 1321) hx hb hX hbl hbA hH.2.2 hc_337 dL_law_1321 ?_
                                                                            refine lv_aload_n (pc := 1322) hx hb dL_law_1322 rfl (lv_at hl 0 rfl) ?_
                                                                            refine lv_iload_n (pc := 1323) hx hb dL_law_1323 rfl (lv_at hl 3 rfl) ?_
                                                                            refine lv_iconst (pc := 1324) (v := 2) hx hb dL_law_1324 (by decide) ?_
                                                                            refine lv_iadd (pc := 1325) hx hb dL_law_1325 ?_
                                                                            obtain ⟨hc_338, hp⟩ := hp
                                                                            refine va_sld (pc := 1326) hx hb hX hbl hbA hH.2.2 hc_338 dL_law_1326 ?_
                                                                            obtain ⟨hk_339, hp⟩ := hp
                                                                            refine sx_V (pc := 1327) (As := [.int (xs (x3_12 + 1).toNatClampNeg), .int (xs (x3_12 + 2).toNatClampNeg)]) (rest := []) B hH hl.1 (C_X11_inLead G l q_1 (xs (x3_12 + 1).toNatClampNeg) (xs (x3_12 + 2).toNatClampNeg) _ _ hp) mi_X11_inLead coX11 hk_339 w_1043 w_1044 w_1042 rfl rfl ⟨Nat.le_of_ble_eq_true rfl, Nat.le_of_ble_eq_true rfl⟩ (Nat.le_of_ble_eq_true rfl) ⟨(show _ + 0 ≤ 600000 by omega), (show _ + 0 ≤ 7302250 by omega)⟩ dL_law_1327 (fun v S1 H locs hq hH => ?_)
                                                                            obtain ⟨r_340, F_340, rfl, e9, hp⟩ := hq
                                                                            rw [e9] at hH
                                                                            have hH : Hp G (FA es s.heap.size) s.heap (wI S_13 F_340) H locs := hH
                                                                            refine W.eq (g2 := F0 m 1330 ls [.int r_340]) rfl ?_
                                                                            refine lv_aload_n (pc := 1330) hx hb dL_law_1330 rfl (lv_at hl 2 rfl) ?_
                                                                            refine lv_aload_n (pc := 1331) hx hb dL_law_1331 rfl (lv_at hl 0 rfl) ?_
                                                                            refine lv_iload_n (pc := 1332) hx hb dL_law_1332 rfl (lv_at hl 3 rfl) ?_
                                                                            refine lv_iconst (pc := 1333) (v := 1) hx hb dL_law_1333 (by decide) ?_
                                                                            refine lv_iadd (pc := 1334) hx hb dL_law_1334 ?_
                                                                            obtain ⟨hc_341, hp⟩ := hp
                                                                            refine va_sld (pc := 1335) hx hb hX hbl hbA hH.2.2 hc_341 dL_law_1335 ?_
                                                                            refine lv_aload_n (pc := 1336) hx hb dL_law_1336 rfl (lv_at hl 0 rfl) ?_
                                                                            refine lv_iload_n (pc := 1337) hx hb dL_law_1337 rfl (lv_at hl 3 rfl) ?_
                                                                            refine lv_iconst (pc := 1338) (v := 2) hx hb dL_law_1338 (by decide) ?_
                                                                            refine lv_iadd (pc := 1339) hx hb dL_law_1339 ?_
                                                                            obtain ⟨hc_342, hp⟩ := hp
                                                                            refine va_sld (pc := 1340) hx hb hX hbl hbA hH.2.2 hc_342 dL_law_1340 ?_
                                                                            obtain ⟨hk_343, hp⟩ := hp
                                                                            refine sx_V (pc := 1341) (As := [.int (xs (x3_12 + 1).toNatClampNeg), .int (xs (x3_12 + 2).toNatClampNeg)]) (rest := [.int r_340]) B hH hl.1 (C_X12_inLead G l q_6 (xs (x3_12 + 1).toNatClampNeg) (xs (x3_12 + 2).toNatClampNeg) _ _ hp) mi_X12_inLead coX12 hk_343 w_1787 w_1788 w_1786 rfl rfl ⟨Nat.le_of_ble_eq_true rfl, Nat.le_of_ble_eq_true rfl⟩ (Nat.le_of_ble_eq_true rfl) ⟨(show _ + 0 ≤ 600000 by omega), (show _ + 0 ≤ 7302250 by omega)⟩ dL_law_1341 (fun v S1 H locs hq hH => ?_)
                                                                            obtain ⟨r_344, F_344, rfl, e9, hp⟩ := hq
                                                                            rw [e9] at hH
                                                                            have hH : Hp G (FA es s.heap.size) s.heap (wI S_13 F_344) H locs := hH
                                                                            refine W.eq (g2 := F0 m 1344 ls [.int r_344, .int r_340]) rfl ?_
                                                                            refine lv_icmp_eq (pc := 1344) (tgt := 1914) hx hb dL_law_1344 (by decide) (fun cc_345 => ?_) (fun cc_345 => ?_)
                                                                            · have hp := hp.1 cc_345
                                                                              obtain ⟨v_346, ev_346⟩ : ∃ y : Int32, y = x3_12 + 6 := ⟨_, rfl⟩
                                                                              have hp := hp v_346 ev_346
                                                                              refine lv_iinc (pc := 1914) (v := v_346) (lv' := [(3, .int v_346), (0, .ref b), (1, .ref q_1), (2, .ref q_6)]) hx hb dL_law_1914 hl (k := 3) rfl (by rw [ev_346]; rfl) (by decide) rfl (fun ls hl => ?_)
                                                                              refine lv_goto (pc := 1917) (tgt := 18) hx hb dL_law_1917 (by decide) ?_
                                                                              obtain ⟨k9, hlt9, hp⟩ := hp
                                                                              exact ih_11 k9 hlt9 _ _ _ _ _ _ _ _ _ hp (show _ + b_14 ≤ 600000 by omega) (show _ + d_14 ≤ 7302250 by omega) hH (lv_sub hl [1, 2, 3, 0] rfl)
                                                                            · have hp := hp.2 cc_345
                                                                              refine lv_iconst (pc := 1347) (v := 0) hx hb dL_law_1347 (by decide) ?_
                                                                              exact hp.elim
                                                                          · have hp := hp.2 cs_18_33
                                                                            by_cases cs_18_34 : v_17 = 34
                                                                            · have hp := hp.1 cs_18_34
                                                                              refine lv_tableIn (pc := 33) (tgt := 1349) hx hb dL_law_33 (by rw [cs_18_34]; decide) (by rw [cs_18_34]; decide) (by rw [cs_18_34]; rfl) (by decide) ?_
                                                                              refine lv_aload_n (pc := 1349) hx hb dL_law_1349 rfl (lv_at hl 1 rfl) ?_
                                                                              obtain ⟨hk_347, hp⟩ := hp
                                                                              refine sx_V (pc := 1350) (As := []) (rest := []) B hH hl.1 (C_X11_ring G l q_1 _ _ hp) mi_X11_ring coX11 hk_347 w_1047 w_1048 w_1046 rfl rfl ⟨Nat.le_of_ble_eq_true rfl, Nat.le_of_ble_eq_true rfl⟩ (Nat.le_of_ble_eq_true rfl) ⟨(show _ + 0 ≤ 600000 by omega), (show _ + 0 ≤ 7302250 by omega)⟩ dL_law_1350 (fun v S1 H locs hq hH => ?_)
                                                                              obtain ⟨r_348, F_348, R_348, rfl, e9, hp⟩ := hq
                                                                              rw [e9] at hH
                                                                              have hH : Hp G (FA es s.heap.size) s.heap (wA S_13 F_348 (gJ S_13) R_348) H locs := hH
                                                                              refine W.eq (g2 := F0 m 1353 ls [.int r_348]) rfl ?_
                                                                              refine lv_aload_n (pc := 1353) hx hb dL_law_1353 rfl (lv_at hl 2 rfl) ?_
                                                                              obtain ⟨hk_349, hp⟩ := hp
                                                                              refine sx_V (pc := 1354) (As := []) (rest := [.int r_348]) B hH hl.1 (C_X12_ring G l q_6 _ _ hp) mi_X12_ring coX12 hk_349 w_1811 w_1812 w_1810 rfl rfl ⟨Nat.le_of_ble_eq_true rfl, Nat.le_of_ble_eq_true rfl⟩ (Nat.le_of_ble_eq_true rfl) ⟨(show _ + 0 ≤ 600000 by omega), (show _ + 0 ≤ 7302250 by omega)⟩ dL_law_1354 (fun v S1 H locs hq hH => ?_)
                                                                              obtain ⟨r_350, F_350, rfl, e9, hp⟩ := hq
                                                                              rw [e9] at hH
                                                                              have hH : Hp G (FA es s.heap.size) s.heap (wA S_13 F_350 (gJ S_13) R_348) H locs := hH
                                                                              refine W.eq (g2 := F0 m 1357 ls [.int r_350, .int r_348]) rfl ?_
                                                                              refine lv_icmp_eq (pc := 1357) (tgt := 1914) hx hb dL_law_1357 (by decide) (fun cc_351 => ?_) (fun cc_351 => ?_)
                                                                              · have hp := hp.1 cc_351
                                                                                obtain ⟨v_352, ev_352⟩ : ∃ y : Int32, y = x3_12 + 6 := ⟨_, rfl⟩
                                                                                have hp := hp v_352 ev_352
                                                                                refine lv_iinc (pc := 1914) (v := v_352) (lv' := [(3, .int v_352), (0, .ref b), (1, .ref q_1), (2, .ref q_6)]) hx hb dL_law_1914 hl (k := 3) rfl (by rw [ev_352]; rfl) (by decide) rfl (fun ls hl => ?_)
                                                                                refine lv_goto (pc := 1917) (tgt := 18) hx hb dL_law_1917 (by decide) ?_
                                                                                obtain ⟨k9, hlt9, hp⟩ := hp
                                                                                exact ih_11 k9 hlt9 _ _ _ _ _ _ _ _ _ hp (show _ + b_14 ≤ 600000 by omega) (show _ + d_14 ≤ 7302250 by omega) hH (lv_sub hl [1, 2, 3, 0] rfl)
                                                                              · have hp := hp.2 cc_351
                                                                                refine lv_iconst (pc := 1360) (v := 0) hx hb dL_law_1360 (by decide) ?_
                                                                                exact hp.elim
                                                                            · have hp := hp.2 cs_18_34
                                                                              by_cases cs_18_35 : v_17 = 35
                                                                              · have hp := hp.1 cs_18_35
                                                                                refine lv_tableIn (pc := 33) (tgt := 1362) hx hb dL_law_33 (by rw [cs_18_35]; decide) (by rw [cs_18_35]; decide) (by rw [cs_18_35]; rfl) (by decide) ?_
                                                                                refine lv_aload_n (pc := 1362) hx hb dL_law_1362 rfl (lv_at hl 1 rfl) ?_
                                                                                refine lv_aload_n (pc := 1363) hx hb dL_law_1363 rfl (lv_at hl 0 rfl) ?_
                                                                                refine lv_iload_n (pc := 1364) hx hb dL_law_1364 rfl (lv_at hl 3 rfl) ?_
                                                                                refine lv_iconst (pc := 1365) (v := 1) hx hb dL_law_1365 (by decide) ?_
                                                                                refine lv_iadd (pc := 1366) hx hb dL_law_1366 ?_
                                                                                obtain ⟨hc_353, hp⟩ := hp
                                                                                refine va_sld (pc := 1367) hx hb hX hbl hbA hH.2.2 hc_353 dL_law_1367 ?_
                                                                                obtain ⟨hk_354, hp⟩ := hp
                                                                                refine sx_V (pc := 1368) (As := [.int (xs (x3_12 + 1).toNatClampNeg)]) (rest := []) B hH hl.1 (C_X11_rowAt G l q_1 (xs (x3_12 + 1).toNatClampNeg) _ _ hp) mi_X11_rowAt coX11 hk_354 w_1051 w_1052 w_1050 rfl rfl ⟨Nat.le_of_ble_eq_true rfl, Nat.le_of_ble_eq_true rfl⟩ (Nat.le_of_ble_eq_true rfl) ⟨(show _ + 0 ≤ 600000 by omega), (show _ + 0 ≤ 7302250 by omega)⟩ dL_law_1368 (fun v S1 H locs hq hH => ?_)
                                                                                obtain ⟨r_355, F_355, rfl, e9, hp⟩ := hq
                                                                                rw [e9] at hH
                                                                                have hH : Hp G (FA es s.heap.size) s.heap (wI S_13 F_355) H locs := hH
                                                                                refine W.eq (g2 := F0 m 1371 ls [.int r_355]) rfl ?_
                                                                                refine lv_aload_n (pc := 1371) hx hb dL_law_1371 rfl (lv_at hl 2 rfl) ?_
                                                                                refine lv_aload_n (pc := 1372) hx hb dL_law_1372 rfl (lv_at hl 0 rfl) ?_
                                                                                refine lv_iload_n (pc := 1373) hx hb dL_law_1373 rfl (lv_at hl 3 rfl) ?_
                                                                                refine lv_iconst (pc := 1374) (v := 1) hx hb dL_law_1374 (by decide) ?_
                                                                                refine lv_iadd (pc := 1375) hx hb dL_law_1375 ?_
                                                                                obtain ⟨hc_356, hp⟩ := hp
                                                                                refine va_sld (pc := 1376) hx hb hX hbl hbA hH.2.2 hc_356 dL_law_1376 ?_
                                                                                obtain ⟨hk_357, hp⟩ := hp
                                                                                refine sx_V (pc := 1377) (As := [.int (xs (x3_12 + 1).toNatClampNeg)]) (rest := [.int r_355]) B hH hl.1 (C_X12_rowAt G l q_6 (xs (x3_12 + 1).toNatClampNeg) _ _ hp) mi_X12_rowAt coX12 hk_357 w_1832 w_1833 w_1831 rfl rfl ⟨Nat.le_of_ble_eq_true rfl, Nat.le_of_ble_eq_true rfl⟩ (Nat.le_of_ble_eq_true rfl) ⟨(show _ + 0 ≤ 600000 by omega), (show _ + 0 ≤ 7302250 by omega)⟩ dL_law_1377 (fun v S1 H locs hq hH => ?_)
                                                                                obtain ⟨r_358, F_358, rfl, e9, hp⟩ := hq
                                                                                rw [e9] at hH
                                                                                have hH : Hp G (FA es s.heap.size) s.heap (wI S_13 F_358) H locs := hH
                                                                                refine W.eq (g2 := F0 m 1380 ls [.int r_358, .int r_355]) rfl ?_
                                                                                refine lv_icmp_eq (pc := 1380) (tgt := 1914) hx hb dL_law_1380 (by decide) (fun cc_359 => ?_) (fun cc_359 => ?_)
                                                                                · have hp := hp.1 cc_359
                                                                                  obtain ⟨v_360, ev_360⟩ : ∃ y : Int32, y = x3_12 + 6 := ⟨_, rfl⟩
                                                                                  have hp := hp v_360 ev_360
                                                                                  refine lv_iinc (pc := 1914) (v := v_360) (lv' := [(3, .int v_360), (0, .ref b), (1, .ref q_1), (2, .ref q_6)]) hx hb dL_law_1914 hl (k := 3) rfl (by rw [ev_360]; rfl) (by decide) rfl (fun ls hl => ?_)
                                                                                  refine lv_goto (pc := 1917) (tgt := 18) hx hb dL_law_1917 (by decide) ?_
                                                                                  obtain ⟨k9, hlt9, hp⟩ := hp
                                                                                  exact ih_11 k9 hlt9 _ _ _ _ _ _ _ _ _ hp (show _ + b_14 ≤ 600000 by omega) (show _ + d_14 ≤ 7302250 by omega) hH (lv_sub hl [1, 2, 3, 0] rfl)
                                                                                · have hp := hp.2 cc_359
                                                                                  refine lv_iconst (pc := 1383) (v := 0) hx hb dL_law_1383 (by decide) ?_
                                                                                  exact hp.elim
                                                                              · have hp := hp.2 cs_18_35
                                                                                by_cases cs_18_36 : v_17 = 36
                                                                                · have hp := hp.1 cs_18_36
                                                                                  refine lv_tableIn (pc := 33) (tgt := 1385) hx hb dL_law_33 (by rw [cs_18_36]; decide) (by rw [cs_18_36]; decide) (by rw [cs_18_36]; rfl) (by decide) ?_
                                                                                  refine lv_aload_n (pc := 1385) hx hb dL_law_1385 rfl (lv_at hl 1 rfl) ?_
                                                                                  obtain ⟨hk_361, hp⟩ := hp
                                                                                  refine sx_V (pc := 1386) (As := []) (rest := []) B hH hl.1 (C_X11_round G l q_1 _ _ hp) mi_X11_round coX11 hk_361 w_1059 w_1060 w_1058 rfl rfl ⟨Nat.le_of_ble_eq_true rfl, Nat.le_of_ble_eq_true rfl⟩ (Nat.le_of_ble_eq_true rfl) ⟨(show _ + 0 ≤ 600000 by omega), (show _ + 0 ≤ 7302250 by omega)⟩ dL_law_1386 (fun v S1 H locs hq hH => ?_)
                                                                                  obtain ⟨r_362, F_362, rfl, e9, hp⟩ := hq
                                                                                  rw [e9] at hH
                                                                                  have hH : Hp G (FA es s.heap.size) s.heap (wI S_13 F_362) H locs := hH
                                                                                  refine W.eq (g2 := F0 m 1389 ls [.int r_362]) rfl ?_
                                                                                  refine lv_aload_n (pc := 1389) hx hb dL_law_1389 rfl (lv_at hl 2 rfl) ?_
                                                                                  obtain ⟨hk_363, hp⟩ := hp
                                                                                  refine sx_V (pc := 1390) (As := []) (rest := [.int r_362]) B hH hl.1 (C_X12_round G l q_6 _ _ hp) mi_X12_round coX12 hk_363 w_1836 w_1837 w_1835 rfl rfl ⟨Nat.le_of_ble_eq_true rfl, Nat.le_of_ble_eq_true rfl⟩ (Nat.le_of_ble_eq_true rfl) ⟨(show _ + 0 ≤ 600000 by omega), (show _ + 0 ≤ 7302250 by omega)⟩ dL_law_1390 (fun v S1 H locs hq hH => ?_)
                                                                                  obtain ⟨r_364, F_364, rfl, e9, hp⟩ := hq
                                                                                  rw [e9] at hH
                                                                                  have hH : Hp G (FA es s.heap.size) s.heap (wI S_13 F_364) H locs := hH
                                                                                  refine W.eq (g2 := F0 m 1393 ls [.int r_364, .int r_362]) rfl ?_
                                                                                  refine lv_icmp_eq (pc := 1393) (tgt := 1914) hx hb dL_law_1393 (by decide) (fun cc_365 => ?_) (fun cc_365 => ?_)
                                                                                  · have hp := hp.1 cc_365
                                                                                    obtain ⟨v_366, ev_366⟩ : ∃ y : Int32, y = x3_12 + 6 := ⟨_, rfl⟩
                                                                                    have hp := hp v_366 ev_366
                                                                                    refine lv_iinc (pc := 1914) (v := v_366) (lv' := [(3, .int v_366), (0, .ref b), (1, .ref q_1), (2, .ref q_6)]) hx hb dL_law_1914 hl (k := 3) rfl (by rw [ev_366]; rfl) (by decide) rfl (fun ls hl => ?_)
                                                                                    refine lv_goto (pc := 1917) (tgt := 18) hx hb dL_law_1917 (by decide) ?_
                                                                                    obtain ⟨k9, hlt9, hp⟩ := hp
                                                                                    exact ih_11 k9 hlt9 _ _ _ _ _ _ _ _ _ hp (show _ + b_14 ≤ 600000 by omega) (show _ + d_14 ≤ 7302250 by omega) hH (lv_sub hl [1, 2, 3, 0] rfl)
                                                                                  · have hp := hp.2 cc_365
                                                                                    refine lv_iconst (pc := 1396) (v := 0) hx hb dL_law_1396 (by decide) ?_
                                                                                    exact hp.elim
                                                                                · have hp := hp.2 cs_18_36
                                                                                  by_cases cs_18_37 : v_17 = 37
                                                                                  · have hp := hp.1 cs_18_37
                                                                                    refine lv_tableIn (pc := 33) (tgt := 1398) hx hb dL_law_33 (by rw [cs_18_37]; decide) (by rw [cs_18_37]; decide) (by rw [cs_18_37]; rfl) (by decide) ?_
                                                                                    refine lv_aload_n (pc := 1398) hx hb dL_law_1398 rfl (lv_at hl 1 rfl) ?_
                                                                                    obtain ⟨hk_367, hp⟩ := hp
                                                                                    obtain ⟨c_368, s_368, hb_368, hs_368, hp⟩ := hp
                                                                                    refine sx_V (pc := 1399) (As := []) (rest := []) B hH hl.1 (C_X11_isTrue G l q_1 _ c_368 s_368 _ hp) mi_X11_isTrue coX11 hk_367 w_1071 w_1072 w_1070 rfl rfl ⟨Nat.le_of_ble_eq_true rfl, Nat.le_of_ble_eq_true rfl⟩ (Nat.le_of_ble_eq_true rfl) ⟨(show _ + c_368 ≤ 600000 by omega), (show _ + s_368 ≤ 7302250 by omega)⟩ dL_law_1399 (fun v S1 H locs hq hH => ?_)
                                                                                    obtain ⟨r_369, rfl, hp⟩ := hq
                                                                                    obtain ⟨S_369, eS_369⟩ : ∃ z : St, z = S1 := ⟨_, rfl⟩
                                                                                    rw [← eS_369] at hp hH
                                                                                    refine W.eq (g2 := F0 m 1402 ls [.int r_369]) rfl ?_
                                                                                    refine lv_aload_n (pc := 1402) hx hb dL_law_1402 rfl (lv_at hl 2 rfl) ?_
                                                                                    obtain ⟨hk_370, hp⟩ := hp
                                                                                    refine sx_V (pc := 1403) (As := []) (rest := [.int r_369]) B hH hl.1 (C_X12_isTrue G l q_6 _ _ hp) mi_X12_isTrue coX12 hk_370 w_1840 w_1841 w_1839 rfl rfl ⟨Nat.le_of_ble_eq_true rfl, Nat.le_of_ble_eq_true rfl⟩ (Nat.le_of_ble_eq_true rfl) ⟨(show _ + 0 ≤ 600000 by omega), (show _ + 0 ≤ 7302250 by omega)⟩ dL_law_1403 (fun v S1 H locs hq hH => ?_)
                                                                                    obtain ⟨r_371, F_371, rfl, e9, hp⟩ := hq
                                                                                    rw [e9] at hH
                                                                                    have hH : Hp G (FA es s.heap.size) s.heap (wI S_369 F_371) H locs := hH
                                                                                    refine W.eq (g2 := F0 m 1406 ls [.int r_371, .int r_369]) rfl ?_
                                                                                    refine lv_icmp_eq (pc := 1406) (tgt := 1914) hx hb dL_law_1406 (by decide) (fun cc_372 => ?_) (fun cc_372 => ?_)
                                                                                    · have hp := hp.1 cc_372
                                                                                      obtain ⟨v_373, ev_373⟩ : ∃ y : Int32, y = x3_12 + 6 := ⟨_, rfl⟩
                                                                                      have hp := hp v_373 ev_373
                                                                                      refine lv_iinc (pc := 1914) (v := v_373) (lv' := [(3, .int v_373), (0, .ref b), (1, .ref q_1), (2, .ref q_6)]) hx hb dL_law_1914 hl (k := 3) rfl (by rw [ev_373]; rfl) (by decide) rfl (fun ls hl => ?_)
                                                                                      refine lv_goto (pc := 1917) (tgt := 18) hx hb dL_law_1917 (by decide) ?_
                                                                                      obtain ⟨k9, hlt9, hp⟩ := hp
                                                                                      exact ih_11 k9 hlt9 _ _ _ _ _ _ _ _ _ hp (show _ + (b_14 - c_368) ≤ 600000 by omega) (show _ + (d_14 - s_368) ≤ 7302250 by omega) hH (lv_sub hl [1, 2, 3, 0] rfl)
                                                                                    · have hp := hp.2 cc_372
                                                                                      refine lv_iconst (pc := 1409) (v := 0) hx hb dL_law_1409 (by decide) ?_
                                                                                      exact hp.elim
                                                                                  · have hp := hp.2 cs_18_37
                                                                                    by_cases cs_18_38 : v_17 = 38
                                                                                    · have hp := hp.1 cs_18_38
                                                                                      refine lv_tableIn (pc := 33) (tgt := 1411) hx hb dL_law_33 (by rw [cs_18_38]; decide) (by rw [cs_18_38]; decide) (by rw [cs_18_38]; rfl) (by decide) ?_
                                                                                      refine lv_aload_n (pc := 1411) hx hb dL_law_1411 rfl (lv_at hl 1 rfl) ?_
                                                                                      refine lv_aload_n (pc := 1412) hx hb dL_law_1412 rfl (lv_at hl 0 rfl) ?_
                                                                                      refine lv_iload_n (pc := 1413) hx hb dL_law_1413 rfl (lv_at hl 3 rfl) ?_
                                                                                      refine lv_iconst (pc := 1414) (v := 1) hx hb dL_law_1414 (by decide) ?_
                                                                                      refine lv_iadd (pc := 1415) hx hb dL_law_1415 ?_
                                                                                      obtain ⟨hc_374, hp⟩ := hp
                                                                                      refine va_sld (pc := 1416) hx hb hX hbl hbA hH.2.2 hc_374 dL_law_1416 ?_
                                                                                      obtain ⟨hk_375, hp⟩ := hp
                                                                                      obtain ⟨c_376, s_376, hb_376, hs_376, hp⟩ := hp
                                                                                      refine sx_V (pc := 1417) (As := [.int (xs (x3_12 + 1).toNatClampNeg)]) (rest := []) B hH hl.1 (C_X11_falseAt G l q_1 (xs (x3_12 + 1).toNatClampNeg) _ c_376 s_376 _ hp) mi_X11_falseAt coX11 hk_375 w_1083 w_1084 w_1082 rfl rfl ⟨Nat.le_of_ble_eq_true rfl, Nat.le_of_ble_eq_true rfl⟩ (Nat.le_of_ble_eq_true rfl) ⟨(show _ + c_376 ≤ 600000 by omega), (show _ + s_376 ≤ 7302250 by omega)⟩ dL_law_1417 (fun v S1 H locs hq hH => ?_)
                                                                                      obtain ⟨r_377, rfl, hp⟩ := hq
                                                                                      obtain ⟨S_377, eS_377⟩ : ∃ z : St, z = S1 := ⟨_, rfl⟩
                                                                                      rw [← eS_377] at hp hH
                                                                                      refine W.eq (g2 := F0 m 1420 ls [.int r_377]) rfl ?_
                                                                                      refine lv_aload_n (pc := 1420) hx hb dL_law_1420 rfl (lv_at hl 2 rfl) ?_
                                                                                      refine lv_aload_n (pc := 1421) hx hb dL_law_1421 rfl (lv_at hl 0 rfl) ?_
                                                                                      refine lv_iload_n (pc := 1422) hx hb dL_law_1422 rfl (lv_at hl 3 rfl) ?_
                                                                                      refine lv_iconst (pc := 1423) (v := 1) hx hb dL_law_1423 (by decide) ?_
                                                                                      refine lv_iadd (pc := 1424) hx hb dL_law_1424 ?_
                                                                                      obtain ⟨hc_378, hp⟩ := hp
                                                                                      refine va_sld (pc := 1425) hx hb hX hbl hbA hH.2.2 hc_378 dL_law_1425 ?_
                                                                                      obtain ⟨hk_379, hp⟩ := hp
                                                                                      refine sx_V (pc := 1426) (As := [.int (xs (x3_12 + 1).toNatClampNeg)]) (rest := [.int r_377]) B hH hl.1 (C_X12_falseAt G l q_6 (xs (x3_12 + 1).toNatClampNeg) _ _ hp) mi_X12_falseAt coX12 hk_379 w_1848 w_1849 w_1847 rfl rfl ⟨Nat.le_of_ble_eq_true rfl, Nat.le_of_ble_eq_true rfl⟩ (Nat.le_of_ble_eq_true rfl) ⟨(show _ + 0 ≤ 600000 by omega), (show _ + 0 ≤ 7302250 by omega)⟩ dL_law_1426 (fun v S1 H locs hq hH => ?_)
                                                                                      obtain ⟨r_380, F_380, rfl, e9, hp⟩ := hq
                                                                                      rw [e9] at hH
                                                                                      have hH : Hp G (FA es s.heap.size) s.heap (wI S_377 F_380) H locs := hH
                                                                                      refine W.eq (g2 := F0 m 1429 ls [.int r_380, .int r_377]) rfl ?_
                                                                                      refine lv_icmp_eq (pc := 1429) (tgt := 1914) hx hb dL_law_1429 (by decide) (fun cc_381 => ?_) (fun cc_381 => ?_)
                                                                                      · have hp := hp.1 cc_381
                                                                                        obtain ⟨v_382, ev_382⟩ : ∃ y : Int32, y = x3_12 + 6 := ⟨_, rfl⟩
                                                                                        have hp := hp v_382 ev_382
                                                                                        refine lv_iinc (pc := 1914) (v := v_382) (lv' := [(3, .int v_382), (0, .ref b), (1, .ref q_1), (2, .ref q_6)]) hx hb dL_law_1914 hl (k := 3) rfl (by rw [ev_382]; rfl) (by decide) rfl (fun ls hl => ?_)
                                                                                        refine lv_goto (pc := 1917) (tgt := 18) hx hb dL_law_1917 (by decide) ?_
                                                                                        obtain ⟨k9, hlt9, hp⟩ := hp
                                                                                        exact ih_11 k9 hlt9 _ _ _ _ _ _ _ _ _ hp (show _ + (b_14 - c_376) ≤ 600000 by omega) (show _ + (d_14 - s_376) ≤ 7302250 by omega) hH (lv_sub hl [1, 2, 3, 0] rfl)
                                                                                      · have hp := hp.2 cc_381
                                                                                        refine lv_iconst (pc := 1432) (v := 0) hx hb dL_law_1432 (by decide) ?_
                                                                                        exact hp.elim
                                                                                    · have hp := hp.2 cs_18_38
                                                                                      by_cases cs_18_39 : v_17 = 39
                                                                                      · have hp := hp.1 cs_18_39
                                                                                        refine lv_tableIn (pc := 33) (tgt := 1434) hx hb dL_law_33 (by rw [cs_18_39]; decide) (by rw [cs_18_39]; decide) (by rw [cs_18_39]; rfl) (by decide) ?_
                                                                                        refine lv_aload_n (pc := 1434) hx hb dL_law_1434 rfl (lv_at hl 1 rfl) ?_
                                                                                        obtain ⟨hk_383, hp⟩ := hp
                                                                                        obtain ⟨c_384, s_384, hb_384, hs_384, hp⟩ := hp
                                                                                        refine sx_V (pc := 1435) (As := []) (rest := []) B hH hl.1 (C_X11_repeats G l q_1 _ c_384 s_384 _ hp) mi_X11_repeats coX11 hk_383 w_1091 w_1092 w_1090 rfl rfl ⟨Nat.le_of_ble_eq_true rfl, Nat.le_of_ble_eq_true rfl⟩ (Nat.le_of_ble_eq_true rfl) ⟨(show _ + c_384 ≤ 600000 by omega), (show _ + s_384 ≤ 7302250 by omega)⟩ dL_law_1435 (fun v S1 H locs hq hH => ?_)
                                                                                        obtain ⟨r_385, rfl, hp⟩ := hq
                                                                                        obtain ⟨S_385, eS_385⟩ : ∃ z : St, z = S1 := ⟨_, rfl⟩
                                                                                        rw [← eS_385] at hp hH
                                                                                        refine W.eq (g2 := F0 m 1438 ls [.int r_385]) rfl ?_
                                                                                        refine lv_aload_n (pc := 1438) hx hb dL_law_1438 rfl (lv_at hl 2 rfl) ?_
                                                                                        obtain ⟨hk_386, hp⟩ := hp
                                                                                        refine sx_V (pc := 1439) (As := []) (rest := [.int r_385]) B hH hl.1 (C_X12_repeats G l q_6 _ _ hp) mi_X12_repeats coX12 hk_386 w_1852 w_1853 w_1851 rfl rfl ⟨Nat.le_of_ble_eq_true rfl, Nat.le_of_ble_eq_true rfl⟩ (Nat.le_of_ble_eq_true rfl) ⟨(show _ + 0 ≤ 600000 by omega), (show _ + 0 ≤ 7302250 by omega)⟩ dL_law_1439 (fun v S1 H locs hq hH => ?_)
                                                                                        obtain ⟨r_387, F_387, rfl, e9, hp⟩ := hq
                                                                                        rw [e9] at hH
                                                                                        have hH : Hp G (FA es s.heap.size) s.heap (wI S_385 F_387) H locs := hH
                                                                                        refine W.eq (g2 := F0 m 1442 ls [.int r_387, .int r_385]) rfl ?_
                                                                                        refine lv_icmp_eq (pc := 1442) (tgt := 1914) hx hb dL_law_1442 (by decide) (fun cc_388 => ?_) (fun cc_388 => ?_)
                                                                                        · have hp := hp.1 cc_388
                                                                                          obtain ⟨v_389, ev_389⟩ : ∃ y : Int32, y = x3_12 + 6 := ⟨_, rfl⟩
                                                                                          have hp := hp v_389 ev_389
                                                                                          refine lv_iinc (pc := 1914) (v := v_389) (lv' := [(3, .int v_389), (0, .ref b), (1, .ref q_1), (2, .ref q_6)]) hx hb dL_law_1914 hl (k := 3) rfl (by rw [ev_389]; rfl) (by decide) rfl (fun ls hl => ?_)
                                                                                          refine lv_goto (pc := 1917) (tgt := 18) hx hb dL_law_1917 (by decide) ?_
                                                                                          obtain ⟨k9, hlt9, hp⟩ := hp
                                                                                          exact ih_11 k9 hlt9 _ _ _ _ _ _ _ _ _ hp (show _ + (b_14 - c_384) ≤ 600000 by omega) (show _ + (d_14 - s_384) ≤ 7302250 by omega) hH (lv_sub hl [1, 2, 3, 0] rfl)
                                                                                        · have hp := hp.2 cc_388
                                                                                          refine lv_iconst (pc := 1445) (v := 0) hx hb dL_law_1445 (by decide) ?_
                                                                                          exact hp.elim
                                                                                      · have hp := hp.2 cs_18_39
                                                                                        by_cases cs_18_40 : v_17 = 40
                                                                                        · have hp := hp.1 cs_18_40
                                                                                          refine lv_tableIn (pc := 33) (tgt := 1447) hx hb dL_law_33 (by rw [cs_18_40]; decide) (by rw [cs_18_40]; decide) (by rw [cs_18_40]; rfl) (by decide) ?_
                                                                                          refine lv_aload_n (pc := 1447) hx hb dL_law_1447 rfl (lv_at hl 1 rfl) ?_
                                                                                          refine lv_aload_n (pc := 1448) hx hb dL_law_1448 rfl (lv_at hl 0 rfl) ?_
                                                                                          refine lv_iload_n (pc := 1449) hx hb dL_law_1449 rfl (lv_at hl 3 rfl) ?_
                                                                                          refine lv_iconst (pc := 1450) (v := 1) hx hb dL_law_1450 (by decide) ?_
                                                                                          refine lv_iadd (pc := 1451) hx hb dL_law_1451 ?_
                                                                                          obtain ⟨hc_390, hp⟩ := hp
                                                                                          refine va_sld (pc := 1452) hx hb hX hbl hbA hH.2.2 hc_390 dL_law_1452 ?_
                                                                                          refine lv_aload_n (pc := 1453) hx hb dL_law_1453 rfl (lv_at hl 0 rfl) ?_
                                                                                          refine lv_iload_n (pc := 1454) hx hb dL_law_1454 rfl (lv_at hl 3 rfl) ?_
                                                                                          refine lv_iconst (pc := 1455) (v := 2) hx hb dL_law_1455 (by decide) ?_
                                                                                          refine lv_iadd (pc := 1456) hx hb dL_law_1456 ?_
                                                                                          obtain ⟨hc_391, hp⟩ := hp
                                                                                          refine va_sld (pc := 1457) hx hb hX hbl hbA hH.2.2 hc_391 dL_law_1457 ?_
                                                                                          obtain ⟨hk_392, hp⟩ := hp
                                                                                          refine sx_V (pc := 1458) (As := [.int (xs (x3_12 + 1).toNatClampNeg), .int (xs (x3_12 + 2).toNatClampNeg)]) (rest := []) B hH hl.1 (C_X11_place G l q_1 (xs (x3_12 + 1).toNatClampNeg) (xs (x3_12 + 2).toNatClampNeg) _ _ hp) mi_X11_place coX11 hk_392 w_1104 w_1105 w_1103 rfl rfl ⟨Nat.le_of_ble_eq_true rfl, Nat.le_of_ble_eq_true rfl⟩ (Nat.le_of_ble_eq_true rfl) ⟨(show _ + 0 ≤ 600000 by omega), (show _ + 0 ≤ 7302250 by omega)⟩ dL_law_1458 (fun v S1 H locs hq hH => ?_)
                                                                                          obtain ⟨r_393, F_393, rfl, e9, hp⟩ := hq
                                                                                          rw [e9] at hH
                                                                                          have hH : Hp G (FA es s.heap.size) s.heap (wI S_13 F_393) H locs := hH
                                                                                          refine W.eq (g2 := F0 m 1461 ls [.int r_393]) rfl ?_
                                                                                          refine lv_aload_n (pc := 1461) hx hb dL_law_1461 rfl (lv_at hl 2 rfl) ?_
                                                                                          refine lv_aload_n (pc := 1462) hx hb dL_law_1462 rfl (lv_at hl 0 rfl) ?_
                                                                                          refine lv_iload_n (pc := 1463) hx hb dL_law_1463 rfl (lv_at hl 3 rfl) ?_
                                                                                          refine lv_iconst (pc := 1464) (v := 1) hx hb dL_law_1464 (by decide) ?_
                                                                                          refine lv_iadd (pc := 1465) hx hb dL_law_1465 ?_
                                                                                          obtain ⟨hc_394, hp⟩ := hp
                                                                                          refine va_sld (pc := 1466) hx hb hX hbl hbA hH.2.2 hc_394 dL_law_1466 ?_
                                                                                          refine lv_aload_n (pc := 1467) hx hb dL_law_1467 rfl (lv_at hl 0 rfl) ?_
                                                                                          refine lv_iload_n (pc := 1468) hx hb dL_law_1468 rfl (lv_at hl 3 rfl) ?_
                                                                                          refine lv_iconst (pc := 1469) (v := 2) hx hb dL_law_1469 (by decide) ?_
                                                                                          refine lv_iadd (pc := 1470) hx hb dL_law_1470 ?_
                                                                                          obtain ⟨hc_395, hp⟩ := hp
                                                                                          refine va_sld (pc := 1471) hx hb hX hbl hbA hH.2.2 hc_395 dL_law_1471 ?_
                                                                                          obtain ⟨hk_396, hp⟩ := hp
                                                                                          refine sx_V (pc := 1472) (As := [.int (xs (x3_12 + 1).toNatClampNeg), .int (xs (x3_12 + 2).toNatClampNeg)]) (rest := [.int r_393]) B hH hl.1 (C_X12_place G l q_6 (xs (x3_12 + 1).toNatClampNeg) (xs (x3_12 + 2).toNatClampNeg) _ _ hp) mi_X12_place coX12 hk_396 w_1856 w_1857 w_1855 rfl rfl ⟨Nat.le_of_ble_eq_true rfl, Nat.le_of_ble_eq_true rfl⟩ (Nat.le_of_ble_eq_true rfl) ⟨(show _ + 0 ≤ 600000 by omega), (show _ + 0 ≤ 7302250 by omega)⟩ dL_law_1472 (fun v S1 H locs hq hH => ?_)
                                                                                          obtain ⟨r_397, F_397, rfl, e9, hp⟩ := hq
                                                                                          rw [e9] at hH
                                                                                          have hH : Hp G (FA es s.heap.size) s.heap (wI S_13 F_397) H locs := hH
                                                                                          refine W.eq (g2 := F0 m 1475 ls [.int r_397, .int r_393]) rfl ?_
                                                                                          refine lv_icmp_eq (pc := 1475) (tgt := 1914) hx hb dL_law_1475 (by decide) (fun cc_398 => ?_) (fun cc_398 => ?_)
                                                                                          · have hp := hp.1 cc_398
                                                                                            obtain ⟨v_399, ev_399⟩ : ∃ y : Int32, y = x3_12 + 6 := ⟨_, rfl⟩
                                                                                            have hp := hp v_399 ev_399
                                                                                            refine lv_iinc (pc := 1914) (v := v_399) (lv' := [(3, .int v_399), (0, .ref b), (1, .ref q_1), (2, .ref q_6)]) hx hb dL_law_1914 hl (k := 3) rfl (by rw [ev_399]; rfl) (by decide) rfl (fun ls hl => ?_)
                                                                                            refine lv_goto (pc := 1917) (tgt := 18) hx hb dL_law_1917 (by decide) ?_
                                                                                            obtain ⟨k9, hlt9, hp⟩ := hp
                                                                                            exact ih_11 k9 hlt9 _ _ _ _ _ _ _ _ _ hp (show _ + b_14 ≤ 600000 by omega) (show _ + d_14 ≤ 7302250 by omega) hH (lv_sub hl [1, 2, 3, 0] rfl)
                                                                                          · have hp := hp.2 cc_398
                                                                                            refine lv_iconst (pc := 1478) (v := 0) hx hb dL_law_1478 (by decide) ?_
                                                                                            exact hp.elim
                                                                                        · have hp := hp.2 cs_18_40
                                                                                          by_cases cs_18_41 : v_17 = 41
                                                                                          · have hp := hp.1 cs_18_41
                                                                                            refine lv_tableIn (pc := 33) (tgt := 1480) hx hb dL_law_33 (by rw [cs_18_41]; decide) (by rw [cs_18_41]; decide) (by rw [cs_18_41]; rfl) (by decide) ?_
                                                                                            refine lv_aload_n (pc := 1480) hx hb dL_law_1480 rfl (lv_at hl 1 rfl) ?_
                                                                                            refine lv_aload_n (pc := 1481) hx hb dL_law_1481 rfl (lv_at hl 0 rfl) ?_
                                                                                            refine lv_iload_n (pc := 1482) hx hb dL_law_1482 rfl (lv_at hl 3 rfl) ?_
                                                                                            refine lv_iconst (pc := 1483) (v := 1) hx hb dL_law_1483 (by decide) ?_
                                                                                            refine lv_iadd (pc := 1484) hx hb dL_law_1484 ?_
                                                                                            obtain ⟨hc_400, hp⟩ := hp
                                                                                            refine va_sld (pc := 1485) hx hb hX hbl hbA hH.2.2 hc_400 dL_law_1485 ?_
                                                                                            refine lv_aload_n (pc := 1486) hx hb dL_law_1486 rfl (lv_at hl 0 rfl) ?_
                                                                                            refine lv_iload_n (pc := 1487) hx hb dL_law_1487 rfl (lv_at hl 3 rfl) ?_
                                                                                            refine lv_iconst (pc := 1488) (v := 2) hx hb dL_law_1488 (by decide) ?_
                                                                                            refine lv_iadd (pc := 1489) hx hb dL_law_1489 ?_
                                                                                            obtain ⟨hc_401, hp⟩ := hp
                                                                                            refine va_sld (pc := 1490) hx hb hX hbl hbA hH.2.2 hc_401 dL_law_1490 ?_
                                                                                            obtain ⟨hk_402, hp⟩ := hp
                                                                                            refine sx_V (pc := 1491) (As := [.int (xs (x3_12 + 1).toNatClampNeg), .int (xs (x3_12 + 2).toNatClampNeg)]) (rest := []) B hH hl.1 (C_X11_blows G l q_1 (xs (x3_12 + 1).toNatClampNeg) (xs (x3_12 + 2).toNatClampNeg) _ _ hp) mi_X11_blows coX11 hk_402 w_1112 w_1113 w_1111 rfl rfl ⟨Nat.le_of_ble_eq_true rfl, Nat.le_of_ble_eq_true rfl⟩ (Nat.le_of_ble_eq_true rfl) ⟨(show _ + 0 ≤ 600000 by omega), (show _ + 0 ≤ 7302250 by omega)⟩ dL_law_1491 (fun v S1 H locs hq hH => ?_)
                                                                                            obtain ⟨r_403, F_403, rfl, e9, hp⟩ := hq
                                                                                            rw [e9] at hH
                                                                                            have hH : Hp G (FA es s.heap.size) s.heap (wI S_13 F_403) H locs := hH
                                                                                            refine W.eq (g2 := F0 m 1494 ls [.int r_403]) rfl ?_
                                                                                            refine lv_aload_n (pc := 1494) hx hb dL_law_1494 rfl (lv_at hl 2 rfl) ?_
                                                                                            refine lv_aload_n (pc := 1495) hx hb dL_law_1495 rfl (lv_at hl 0 rfl) ?_
                                                                                            refine lv_iload_n (pc := 1496) hx hb dL_law_1496 rfl (lv_at hl 3 rfl) ?_
                                                                                            refine lv_iconst (pc := 1497) (v := 1) hx hb dL_law_1497 (by decide) ?_
                                                                                            refine lv_iadd (pc := 1498) hx hb dL_law_1498 ?_
                                                                                            obtain ⟨hc_404, hp⟩ := hp
                                                                                            refine va_sld (pc := 1499) hx hb hX hbl hbA hH.2.2 hc_404 dL_law_1499 ?_
                                                                                            refine lv_aload_n (pc := 1500) hx hb dL_law_1500 rfl (lv_at hl 0 rfl) ?_
                                                                                            refine lv_iload_n (pc := 1501) hx hb dL_law_1501 rfl (lv_at hl 3 rfl) ?_
                                                                                            refine lv_iconst (pc := 1502) (v := 2) hx hb dL_law_1502 (by decide) ?_
                                                                                            refine lv_iadd (pc := 1503) hx hb dL_law_1503 ?_
                                                                                            obtain ⟨hc_405, hp⟩ := hp
                                                                                            refine va_sld (pc := 1504) hx hb hX hbl hbA hH.2.2 hc_405 dL_law_1504 ?_
                                                                                            obtain ⟨hk_406, hp⟩ := hp
                                                                                            refine sx_V (pc := 1505) (As := [.int (xs (x3_12 + 1).toNatClampNeg), .int (xs (x3_12 + 2).toNatClampNeg)]) (rest := [.int r_403]) B hH hl.1 (C_X12_blows G l q_6 (xs (x3_12 + 1).toNatClampNeg) (xs (x3_12 + 2).toNatClampNeg) _ _ hp) mi_X12_blows coX12 hk_406 w_1864 w_1865 w_1863 rfl rfl ⟨Nat.le_of_ble_eq_true rfl, Nat.le_of_ble_eq_true rfl⟩ (Nat.le_of_ble_eq_true rfl) ⟨(show _ + 0 ≤ 600000 by omega), (show _ + 0 ≤ 7302250 by omega)⟩ dL_law_1505 (fun v S1 H locs hq hH => ?_)
                                                                                            obtain ⟨r_407, F_407, rfl, e9, hp⟩ := hq
                                                                                            rw [e9] at hH
                                                                                            have hH : Hp G (FA es s.heap.size) s.heap (wI S_13 F_407) H locs := hH
                                                                                            refine W.eq (g2 := F0 m 1508 ls [.int r_407, .int r_403]) rfl ?_
                                                                                            refine lv_icmp_eq (pc := 1508) (tgt := 1914) hx hb dL_law_1508 (by decide) (fun cc_408 => ?_) (fun cc_408 => ?_)
                                                                                            · have hp := hp.1 cc_408
                                                                                              obtain ⟨v_409, ev_409⟩ : ∃ y : Int32, y = x3_12 + 6 := ⟨_, rfl⟩
                                                                                              have hp := hp v_409 ev_409
                                                                                              refine lv_iinc (pc := 1914) (v := v_409) (lv' := [(3, .int v_409), (0, .ref b), (1, .ref q_1), (2, .ref q_6)]) hx hb dL_law_1914 hl (k := 3) rfl (by rw [ev_409]; rfl) (by decide) rfl (fun ls hl => ?_)
                                                                                              refine lv_goto (pc := 1917) (tgt := 18) hx hb dL_law_1917 (by decide) ?_
                                                                                              obtain ⟨k9, hlt9, hp⟩ := hp
                                                                                              exact ih_11 k9 hlt9 _ _ _ _ _ _ _ _ _ hp (show _ + b_14 ≤ 600000 by omega) (show _ + d_14 ≤ 7302250 by omega) hH (lv_sub hl [1, 2, 3, 0] rfl)
                                                                                            · have hp := hp.2 cc_408
                                                                                              refine lv_iconst (pc := 1511) (v := 0) hx hb dL_law_1511 (by decide) ?_
                                                                                              exact hp.elim
                                                                                          · have hp := hp.2 cs_18_41
                                                                                            by_cases cs_18_42 : v_17 = 42
                                                                                            · have hp := hp.1 cs_18_42
                                                                                              refine lv_tableIn (pc := 33) (tgt := 1513) hx hb dL_law_33 (by rw [cs_18_42]; decide) (by rw [cs_18_42]; decide) (by rw [cs_18_42]; rfl) (by decide) ?_
                                                                                              refine lv_aload_n (pc := 1513) hx hb dL_law_1513 rfl (lv_at hl 1 rfl) ?_
                                                                                              refine lv_aload_n (pc := 1514) hx hb dL_law_1514 rfl (lv_at hl 0 rfl) ?_
                                                                                              refine lv_iload_n (pc := 1515) hx hb dL_law_1515 rfl (lv_at hl 3 rfl) ?_
                                                                                              refine lv_iconst (pc := 1516) (v := 1) hx hb dL_law_1516 (by decide) ?_
                                                                                              refine lv_iadd (pc := 1517) hx hb dL_law_1517 ?_
                                                                                              obtain ⟨hc_410, hp⟩ := hp
                                                                                              refine va_sld (pc := 1518) hx hb hX hbl hbA hH.2.2 hc_410 dL_law_1518 ?_
                                                                                              obtain ⟨hk_411, hp⟩ := hp
                                                                                              refine sx_V (pc := 1519) (As := [.int (xs (x3_12 + 1).toNatClampNeg)]) (rest := []) B hH hl.1 (C_X11_music G l q_1 (xs (x3_12 + 1).toNatClampNeg) _ _ hp) mi_X11_music coX11 hk_411 w_1120 w_1121 w_1119 rfl rfl ⟨Nat.le_of_ble_eq_true rfl, Nat.le_of_ble_eq_true rfl⟩ (Nat.le_of_ble_eq_true rfl) ⟨(show _ + 0 ≤ 600000 by omega), (show _ + 0 ≤ 7302250 by omega)⟩ dL_law_1519 (fun v S1 H locs hq hH => ?_)
                                                                                              obtain ⟨r_412, F_412, rfl, e9, hp⟩ := hq
                                                                                              rw [e9] at hH
                                                                                              have hH : Hp G (FA es s.heap.size) s.heap (wI S_13 F_412) H locs := hH
                                                                                              refine W.eq (g2 := F0 m 1522 ls [.int r_412]) rfl ?_
                                                                                              refine lv_aload_n (pc := 1522) hx hb dL_law_1522 rfl (lv_at hl 2 rfl) ?_
                                                                                              refine lv_aload_n (pc := 1523) hx hb dL_law_1523 rfl (lv_at hl 0 rfl) ?_
                                                                                              refine lv_iload_n (pc := 1524) hx hb dL_law_1524 rfl (lv_at hl 3 rfl) ?_
                                                                                              refine lv_iconst (pc := 1525) (v := 1) hx hb dL_law_1525 (by decide) ?_
                                                                                              refine lv_iadd (pc := 1526) hx hb dL_law_1526 ?_
                                                                                              obtain ⟨hc_413, hp⟩ := hp
                                                                                              refine va_sld (pc := 1527) hx hb hX hbl hbA hH.2.2 hc_413 dL_law_1527 ?_
                                                                                              obtain ⟨hk_414, hp⟩ := hp
                                                                                              refine sx_V (pc := 1528) (As := [.int (xs (x3_12 + 1).toNatClampNeg)]) (rest := [.int r_412]) B hH hl.1 (C_X12_music G l q_6 (xs (x3_12 + 1).toNatClampNeg) _ _ hp) mi_X12_music coX12 hk_414 w_1880 w_1881 w_1879 rfl rfl ⟨Nat.le_of_ble_eq_true rfl, Nat.le_of_ble_eq_true rfl⟩ (Nat.le_of_ble_eq_true rfl) ⟨(show _ + 0 ≤ 600000 by omega), (show _ + 0 ≤ 7302250 by omega)⟩ dL_law_1528 (fun v S1 H locs hq hH => ?_)
                                                                                              obtain ⟨r_415, F_415, rfl, e9, hp⟩ := hq
                                                                                              rw [e9] at hH
                                                                                              have hH : Hp G (FA es s.heap.size) s.heap (wI S_13 F_415) H locs := hH
                                                                                              refine W.eq (g2 := F0 m 1531 ls [.int r_415, .int r_412]) rfl ?_
                                                                                              refine lv_icmp_eq (pc := 1531) (tgt := 1914) hx hb dL_law_1531 (by decide) (fun cc_416 => ?_) (fun cc_416 => ?_)
                                                                                              · have hp := hp.1 cc_416
                                                                                                obtain ⟨v_417, ev_417⟩ : ∃ y : Int32, y = x3_12 + 6 := ⟨_, rfl⟩
                                                                                                have hp := hp v_417 ev_417
                                                                                                refine lv_iinc (pc := 1914) (v := v_417) (lv' := [(3, .int v_417), (0, .ref b), (1, .ref q_1), (2, .ref q_6)]) hx hb dL_law_1914 hl (k := 3) rfl (by rw [ev_417]; rfl) (by decide) rfl (fun ls hl => ?_)
                                                                                                refine lv_goto (pc := 1917) (tgt := 18) hx hb dL_law_1917 (by decide) ?_
                                                                                                obtain ⟨k9, hlt9, hp⟩ := hp
                                                                                                exact ih_11 k9 hlt9 _ _ _ _ _ _ _ _ _ hp (show _ + b_14 ≤ 600000 by omega) (show _ + d_14 ≤ 7302250 by omega) hH (lv_sub hl [1, 2, 3, 0] rfl)
                                                                                              · have hp := hp.2 cc_416
                                                                                                refine lv_iconst (pc := 1534) (v := 0) hx hb dL_law_1534 (by decide) ?_
                                                                                                exact hp.elim
                                                                                            · have hp := hp.2 cs_18_42
                                                                                              by_cases cs_18_43 : v_17 = 43
                                                                                              · have hp := hp.1 cs_18_43
                                                                                                refine lv_tableIn (pc := 33) (tgt := 1536) hx hb dL_law_33 (by rw [cs_18_43]; decide) (by rw [cs_18_43]; decide) (by rw [cs_18_43]; rfl) (by decide) ?_
                                                                                                refine lv_aload_n (pc := 1536) hx hb dL_law_1536 rfl (lv_at hl 1 rfl) ?_
                                                                                                refine lv_aload_n (pc := 1537) hx hb dL_law_1537 rfl (lv_at hl 0 rfl) ?_
                                                                                                refine lv_iload_n (pc := 1538) hx hb dL_law_1538 rfl (lv_at hl 3 rfl) ?_
                                                                                                refine lv_iconst (pc := 1539) (v := 1) hx hb dL_law_1539 (by decide) ?_
                                                                                                refine lv_iadd (pc := 1540) hx hb dL_law_1540 ?_
                                                                                                obtain ⟨hc_418, hp⟩ := hp
                                                                                                refine va_sld (pc := 1541) hx hb hX hbl hbA hH.2.2 hc_418 dL_law_1541 ?_
                                                                                                obtain ⟨hk_419, hp⟩ := hp
                                                                                                refine sx_V (pc := 1542) (As := [.int (xs (x3_12 + 1).toNatClampNeg)]) (rest := []) B hH hl.1 (C_X11_runs G l q_1 (xs (x3_12 + 1).toNatClampNeg) _ _ hp) mi_X11_runs coX11 hk_419 w_1124 w_1125 w_1123 rfl rfl ⟨Nat.le_of_ble_eq_true rfl, Nat.le_of_ble_eq_true rfl⟩ (Nat.le_of_ble_eq_true rfl) ⟨(show _ + 0 ≤ 600000 by omega), (show _ + 0 ≤ 7302250 by omega)⟩ dL_law_1542 (fun v S1 H locs hq hH => ?_)
                                                                                                obtain ⟨r_420, F_420, rfl, e9, hp⟩ := hq
                                                                                                rw [e9] at hH
                                                                                                have hH : Hp G (FA es s.heap.size) s.heap (wI S_13 F_420) H locs := hH
                                                                                                refine W.eq (g2 := F0 m 1545 ls [.int r_420]) rfl ?_
                                                                                                refine lv_aload_n (pc := 1545) hx hb dL_law_1545 rfl (lv_at hl 2 rfl) ?_
                                                                                                refine lv_aload_n (pc := 1546) hx hb dL_law_1546 rfl (lv_at hl 0 rfl) ?_
                                                                                                refine lv_iload_n (pc := 1547) hx hb dL_law_1547 rfl (lv_at hl 3 rfl) ?_
                                                                                                refine lv_iconst (pc := 1548) (v := 1) hx hb dL_law_1548 (by decide) ?_
                                                                                                refine lv_iadd (pc := 1549) hx hb dL_law_1549 ?_
                                                                                                obtain ⟨hc_421, hp⟩ := hp
                                                                                                refine va_sld (pc := 1550) hx hb hX hbl hbA hH.2.2 hc_421 dL_law_1550 ?_
                                                                                                obtain ⟨hk_422, hp⟩ := hp
                                                                                                refine sx_V (pc := 1551) (As := [.int (xs (x3_12 + 1).toNatClampNeg)]) (rest := [.int r_420]) B hH hl.1 (C_X12_runs G l q_6 (xs (x3_12 + 1).toNatClampNeg) _ _ hp) mi_X12_runs coX12 hk_422 w_1884 w_1885 w_1883 rfl rfl ⟨Nat.le_of_ble_eq_true rfl, Nat.le_of_ble_eq_true rfl⟩ (Nat.le_of_ble_eq_true rfl) ⟨(show _ + 0 ≤ 600000 by omega), (show _ + 0 ≤ 7302250 by omega)⟩ dL_law_1551 (fun v S1 H locs hq hH => ?_)
                                                                                                obtain ⟨r_423, F_423, rfl, e9, hp⟩ := hq
                                                                                                rw [e9] at hH
                                                                                                have hH : Hp G (FA es s.heap.size) s.heap (wI S_13 F_423) H locs := hH
                                                                                                refine W.eq (g2 := F0 m 1554 ls [.int r_423, .int r_420]) rfl ?_
                                                                                                refine lv_icmp_eq (pc := 1554) (tgt := 1914) hx hb dL_law_1554 (by decide) (fun cc_424 => ?_) (fun cc_424 => ?_)
                                                                                                · have hp := hp.1 cc_424
                                                                                                  obtain ⟨v_425, ev_425⟩ : ∃ y : Int32, y = x3_12 + 6 := ⟨_, rfl⟩
                                                                                                  have hp := hp v_425 ev_425
                                                                                                  refine lv_iinc (pc := 1914) (v := v_425) (lv' := [(3, .int v_425), (0, .ref b), (1, .ref q_1), (2, .ref q_6)]) hx hb dL_law_1914 hl (k := 3) rfl (by rw [ev_425]; rfl) (by decide) rfl (fun ls hl => ?_)
                                                                                                  refine lv_goto (pc := 1917) (tgt := 18) hx hb dL_law_1917 (by decide) ?_
                                                                                                  obtain ⟨k9, hlt9, hp⟩ := hp
                                                                                                  exact ih_11 k9 hlt9 _ _ _ _ _ _ _ _ _ hp (show _ + b_14 ≤ 600000 by omega) (show _ + d_14 ≤ 7302250 by omega) hH (lv_sub hl [1, 2, 3, 0] rfl)
                                                                                                · have hp := hp.2 cc_424
                                                                                                  refine lv_iconst (pc := 1557) (v := 0) hx hb dL_law_1557 (by decide) ?_
                                                                                                  exact hp.elim
                                                                                              · have hp := hp.2 cs_18_43
                                                                                                by_cases cs_18_44 : v_17 = 44
                                                                                                · have hp := hp.1 cs_18_44
                                                                                                  refine lv_tableIn (pc := 33) (tgt := 1559) hx hb dL_law_33 (by rw [cs_18_44]; decide) (by rw [cs_18_44]; decide) (by rw [cs_18_44]; rfl) (by decide) ?_
                                                                                                  refine lv_aload_n (pc := 1559) hx hb dL_law_1559 rfl (lv_at hl 1 rfl) ?_
                                                                                                  refine lv_aload_n (pc := 1560) hx hb dL_law_1560 rfl (lv_at hl 0 rfl) ?_
                                                                                                  refine lv_iload_n (pc := 1561) hx hb dL_law_1561 rfl (lv_at hl 3 rfl) ?_
                                                                                                  refine lv_iconst (pc := 1562) (v := 1) hx hb dL_law_1562 (by decide) ?_
                                                                                                  refine lv_iadd (pc := 1563) hx hb dL_law_1563 ?_
                                                                                                  obtain ⟨hc_426, hp⟩ := hp
                                                                                                  refine va_sld (pc := 1564) hx hb hX hbl hbA hH.2.2 hc_426 dL_law_1564 ?_
                                                                                                  obtain ⟨hk_427, hp⟩ := hp
                                                                                                  refine sx_V (pc := 1565) (As := [.int (xs (x3_12 + 1).toNatClampNeg)]) (rest := []) B hH hl.1 (C_X11_dodges G l q_1 (xs (x3_12 + 1).toNatClampNeg) _ _ hp) mi_X11_dodges coX11 hk_427 w_1132 w_1133 w_1131 rfl rfl ⟨Nat.le_of_ble_eq_true rfl, Nat.le_of_ble_eq_true rfl⟩ (Nat.le_of_ble_eq_true rfl) ⟨(show _ + 0 ≤ 600000 by omega), (show _ + 0 ≤ 7302250 by omega)⟩ dL_law_1565 (fun v S1 H locs hq hH => ?_)
                                                                                                  obtain ⟨r_428, F_428, rfl, e9, hp⟩ := hq
                                                                                                  rw [e9] at hH
                                                                                                  have hH : Hp G (FA es s.heap.size) s.heap (wI S_13 F_428) H locs := hH
                                                                                                  refine W.eq (g2 := F0 m 1568 ls [.int r_428]) rfl ?_
                                                                                                  refine lv_aload_n (pc := 1568) hx hb dL_law_1568 rfl (lv_at hl 2 rfl) ?_
                                                                                                  refine lv_aload_n (pc := 1569) hx hb dL_law_1569 rfl (lv_at hl 0 rfl) ?_
                                                                                                  refine lv_iload_n (pc := 1570) hx hb dL_law_1570 rfl (lv_at hl 3 rfl) ?_
                                                                                                  refine lv_iconst (pc := 1571) (v := 1) hx hb dL_law_1571 (by decide) ?_
                                                                                                  refine lv_iadd (pc := 1572) hx hb dL_law_1572 ?_
                                                                                                  obtain ⟨hc_429, hp⟩ := hp
                                                                                                  refine va_sld (pc := 1573) hx hb hX hbl hbA hH.2.2 hc_429 dL_law_1573 ?_
                                                                                                  obtain ⟨hk_430, hp⟩ := hp
                                                                                                  refine sx_V (pc := 1574) (As := [.int (xs (x3_12 + 1).toNatClampNeg)]) (rest := [.int r_428]) B hH hl.1 (C_X12_dodges G l q_6 (xs (x3_12 + 1).toNatClampNeg) _ _ hp) mi_X12_dodges coX12 hk_430 w_1868 w_1869 w_1867 rfl rfl ⟨Nat.le_of_ble_eq_true rfl, Nat.le_of_ble_eq_true rfl⟩ (Nat.le_of_ble_eq_true rfl) ⟨(show _ + 0 ≤ 600000 by omega), (show _ + 0 ≤ 7302250 by omega)⟩ dL_law_1574 (fun v S1 H locs hq hH => ?_)
                                                                                                  obtain ⟨r_431, F_431, rfl, e9, hp⟩ := hq
                                                                                                  rw [e9] at hH
                                                                                                  have hH : Hp G (FA es s.heap.size) s.heap (wI S_13 F_431) H locs := hH
                                                                                                  refine W.eq (g2 := F0 m 1577 ls [.int r_431, .int r_428]) rfl ?_
                                                                                                  refine lv_icmp_eq (pc := 1577) (tgt := 1914) hx hb dL_law_1577 (by decide) (fun cc_432 => ?_) (fun cc_432 => ?_)
                                                                                                  · have hp := hp.1 cc_432
                                                                                                    obtain ⟨v_433, ev_433⟩ : ∃ y : Int32, y = x3_12 + 6 := ⟨_, rfl⟩
                                                                                                    have hp := hp v_433 ev_433
                                                                                                    refine lv_iinc (pc := 1914) (v := v_433) (lv' := [(3, .int v_433), (0, .ref b), (1, .ref q_1), (2, .ref q_6)]) hx hb dL_law_1914 hl (k := 3) rfl (by rw [ev_433]; rfl) (by decide) rfl (fun ls hl => ?_)
                                                                                                    refine lv_goto (pc := 1917) (tgt := 18) hx hb dL_law_1917 (by decide) ?_
                                                                                                    obtain ⟨k9, hlt9, hp⟩ := hp
                                                                                                    exact ih_11 k9 hlt9 _ _ _ _ _ _ _ _ _ hp (show _ + b_14 ≤ 600000 by omega) (show _ + d_14 ≤ 7302250 by omega) hH (lv_sub hl [1, 2, 3, 0] rfl)
                                                                                                  · have hp := hp.2 cc_432
                                                                                                    refine lv_iconst (pc := 1580) (v := 0) hx hb dL_law_1580 (by decide) ?_
                                                                                                    exact hp.elim
                                                                                                · have hp := hp.2 cs_18_44
                                                                                                  by_cases cs_18_45 : v_17 = 45
                                                                                                  · have hp := hp.1 cs_18_45
                                                                                                    refine lv_tableIn (pc := 33) (tgt := 1582) hx hb dL_law_33 (by rw [cs_18_45]; decide) (by rw [cs_18_45]; decide) (by rw [cs_18_45]; rfl) (by decide) ?_
                                                                                                    refine lv_aload_n (pc := 1582) hx hb dL_law_1582 rfl (lv_at hl 1 rfl) ?_
                                                                                                    refine lv_aload_n (pc := 1583) hx hb dL_law_1583 rfl (lv_at hl 0 rfl) ?_
                                                                                                    refine lv_iload_n (pc := 1584) hx hb dL_law_1584 rfl (lv_at hl 3 rfl) ?_
                                                                                                    refine lv_iconst (pc := 1585) (v := 1) hx hb dL_law_1585 (by decide) ?_
                                                                                                    refine lv_iadd (pc := 1586) hx hb dL_law_1586 ?_
                                                                                                    obtain ⟨hc_434, hp⟩ := hp
                                                                                                    refine va_sld (pc := 1587) hx hb hX hbl hbA hH.2.2 hc_434 dL_law_1587 ?_
                                                                                                    obtain ⟨hk_435, hp⟩ := hp
                                                                                                    refine sx_V (pc := 1588) (As := [.int (xs (x3_12 + 1).toNatClampNeg)]) (rest := []) B hH hl.1 (C_X11_lies G l q_1 (xs (x3_12 + 1).toNatClampNeg) _ _ hp) mi_X11_lies coX11 hk_435 w_1141 w_1142 w_1140 rfl rfl ⟨Nat.le_of_ble_eq_true rfl, Nat.le_of_ble_eq_true rfl⟩ (Nat.le_of_ble_eq_true rfl) ⟨(show _ + 0 ≤ 600000 by omega), (show _ + 0 ≤ 7302250 by omega)⟩ dL_law_1588 (fun v S1 H locs hq hH => ?_)
                                                                                                    obtain ⟨r_436, F_436, rfl, e9, hp⟩ := hq
                                                                                                    rw [e9] at hH
                                                                                                    have hH : Hp G (FA es s.heap.size) s.heap (wI S_13 F_436) H locs := hH
                                                                                                    refine W.eq (g2 := F0 m 1591 ls [.int r_436]) rfl ?_
                                                                                                    refine lv_aload_n (pc := 1591) hx hb dL_law_1591 rfl (lv_at hl 2 rfl) ?_
                                                                                                    refine lv_aload_n (pc := 1592) hx hb dL_law_1592 rfl (lv_at hl 0 rfl) ?_
                                                                                                    refine lv_iload_n (pc := 1593) hx hb dL_law_1593 rfl (lv_at hl 3 rfl) ?_
                                                                                                    refine lv_iconst (pc := 1594) (v := 1) hx hb dL_law_1594 (by decide) ?_
                                                                                                    refine lv_iadd (pc := 1595) hx hb dL_law_1595 ?_
                                                                                                    obtain ⟨hc_437, hp⟩ := hp
                                                                                                    refine va_sld (pc := 1596) hx hb hX hbl hbA hH.2.2 hc_437 dL_law_1596 ?_
                                                                                                    obtain ⟨hk_438, hp⟩ := hp
                                                                                                    refine sx_V (pc := 1597) (As := [.int (xs (x3_12 + 1).toNatClampNeg)]) (rest := [.int r_436]) B hH hl.1 (C_X12_lies G l q_6 (xs (x3_12 + 1).toNatClampNeg) _ _ hp) mi_X12_lies coX12 hk_438 w_1872 w_1873 w_1871 rfl rfl ⟨Nat.le_of_ble_eq_true rfl, Nat.le_of_ble_eq_true rfl⟩ (Nat.le_of_ble_eq_true rfl) ⟨(show _ + 0 ≤ 600000 by omega), (show _ + 0 ≤ 7302250 by omega)⟩ dL_law_1597 (fun v S1 H locs hq hH => ?_)
                                                                                                    obtain ⟨r_439, F_439, rfl, e9, hp⟩ := hq
                                                                                                    rw [e9] at hH
                                                                                                    have hH : Hp G (FA es s.heap.size) s.heap (wI S_13 F_439) H locs := hH
                                                                                                    refine W.eq (g2 := F0 m 1600 ls [.int r_439, .int r_436]) rfl ?_
                                                                                                    refine lv_icmp_eq (pc := 1600) (tgt := 1914) hx hb dL_law_1600 (by decide) (fun cc_440 => ?_) (fun cc_440 => ?_)
                                                                                                    · have hp := hp.1 cc_440
                                                                                                      obtain ⟨v_441, ev_441⟩ : ∃ y : Int32, y = x3_12 + 6 := ⟨_, rfl⟩
                                                                                                      have hp := hp v_441 ev_441
                                                                                                      refine lv_iinc (pc := 1914) (v := v_441) (lv' := [(3, .int v_441), (0, .ref b), (1, .ref q_1), (2, .ref q_6)]) hx hb dL_law_1914 hl (k := 3) rfl (by rw [ev_441]; rfl) (by decide) rfl (fun ls hl => ?_)
                                                                                                      refine lv_goto (pc := 1917) (tgt := 18) hx hb dL_law_1917 (by decide) ?_
                                                                                                      obtain ⟨k9, hlt9, hp⟩ := hp
                                                                                                      exact ih_11 k9 hlt9 _ _ _ _ _ _ _ _ _ hp (show _ + b_14 ≤ 600000 by omega) (show _ + d_14 ≤ 7302250 by omega) hH (lv_sub hl [1, 2, 3, 0] rfl)
                                                                                                    · have hp := hp.2 cc_440
                                                                                                      refine lv_iconst (pc := 1603) (v := 0) hx hb dL_law_1603 (by decide) ?_
                                                                                                      exact hp.elim
                                                                                                  · have hp := hp.2 cs_18_45
                                                                                                    by_cases cs_18_46 : v_17 = 46
                                                                                                    · have hp := hp.1 cs_18_46
                                                                                                      refine lv_tableIn (pc := 33) (tgt := 1605) hx hb dL_law_33 (by rw [cs_18_46]; decide) (by rw [cs_18_46]; decide) (by rw [cs_18_46]; rfl) (by decide) ?_
                                                                                                      refine lv_aload_n (pc := 1605) hx hb dL_law_1605 rfl (lv_at hl 1 rfl) ?_
                                                                                                      obtain ⟨hk_442, hp⟩ := hp
                                                                                                      refine sx_V (pc := 1606) (As := []) (rest := []) B hH hl.1 (C_X11_backward G l q_1 _ _ hp) mi_X11_backward coX11 hk_442 w_1149 w_1150 w_1148 rfl rfl ⟨Nat.le_of_ble_eq_true rfl, Nat.le_of_ble_eq_true rfl⟩ (Nat.le_of_ble_eq_true rfl) ⟨(show _ + 0 ≤ 600000 by omega), (show _ + 0 ≤ 7302250 by omega)⟩ dL_law_1606 (fun v S1 H locs hq hH => ?_)
                                                                                                      obtain ⟨r_443, F_443, rfl, e9, hp⟩ := hq
                                                                                                      rw [e9] at hH
                                                                                                      have hH : Hp G (FA es s.heap.size) s.heap (wI S_13 F_443) H locs := hH
                                                                                                      refine W.eq (g2 := F0 m 1609 ls [.int r_443]) rfl ?_
                                                                                                      refine lv_aload_n (pc := 1609) hx hb dL_law_1609 rfl (lv_at hl 2 rfl) ?_
                                                                                                      obtain ⟨hk_444, hp⟩ := hp
                                                                                                      refine sx_V (pc := 1610) (As := []) (rest := [.int r_443]) B hH hl.1 (C_X12_backward G l q_6 _ _ hp) mi_X12_backward coX12 hk_444 w_1876 w_1877 w_1875 rfl rfl ⟨Nat.le_of_ble_eq_true rfl, Nat.le_of_ble_eq_true rfl⟩ (Nat.le_of_ble_eq_true rfl) ⟨(show _ + 0 ≤ 600000 by omega), (show _ + 0 ≤ 7302250 by omega)⟩ dL_law_1610 (fun v S1 H locs hq hH => ?_)
                                                                                                      obtain ⟨r_445, F_445, rfl, e9, hp⟩ := hq
                                                                                                      rw [e9] at hH
                                                                                                      have hH : Hp G (FA es s.heap.size) s.heap (wI S_13 F_445) H locs := hH
                                                                                                      refine W.eq (g2 := F0 m 1613 ls [.int r_445, .int r_443]) rfl ?_
                                                                                                      refine lv_icmp_eq (pc := 1613) (tgt := 1914) hx hb dL_law_1613 (by decide) (fun cc_446 => ?_) (fun cc_446 => ?_)
                                                                                                      · have hp := hp.1 cc_446
                                                                                                        obtain ⟨v_447, ev_447⟩ : ∃ y : Int32, y = x3_12 + 6 := ⟨_, rfl⟩
                                                                                                        have hp := hp v_447 ev_447
                                                                                                        refine lv_iinc (pc := 1914) (v := v_447) (lv' := [(3, .int v_447), (0, .ref b), (1, .ref q_1), (2, .ref q_6)]) hx hb dL_law_1914 hl (k := 3) rfl (by rw [ev_447]; rfl) (by decide) rfl (fun ls hl => ?_)
                                                                                                        refine lv_goto (pc := 1917) (tgt := 18) hx hb dL_law_1917 (by decide) ?_
                                                                                                        obtain ⟨k9, hlt9, hp⟩ := hp
                                                                                                        exact ih_11 k9 hlt9 _ _ _ _ _ _ _ _ _ hp (show _ + b_14 ≤ 600000 by omega) (show _ + d_14 ≤ 7302250 by omega) hH (lv_sub hl [1, 2, 3, 0] rfl)
                                                                                                      · have hp := hp.2 cc_446
                                                                                                        refine lv_iconst (pc := 1616) (v := 0) hx hb dL_law_1616 (by decide) ?_
                                                                                                        exact hp.elim
                                                                                                    · have hp := hp.2 cs_18_46
                                                                                                      by_cases cs_18_47 : v_17 = 47
                                                                                                      · have hp := hp.1 cs_18_47
                                                                                                        refine lv_tableIn (pc := 33) (tgt := 1618) hx hb dL_law_33 (by rw [cs_18_47]; decide) (by rw [cs_18_47]; decide) (by rw [cs_18_47]; rfl) (by decide) ?_
                                                                                                        refine lv_aload_n (pc := 1618) hx hb dL_law_1618 rfl (lv_at hl 1 rfl) ?_
                                                                                                        refine lv_aload_n (pc := 1619) hx hb dL_law_1619 rfl (lv_at hl 0 rfl) ?_
                                                                                                        refine lv_iload_n (pc := 1620) hx hb dL_law_1620 rfl (lv_at hl 3 rfl) ?_
                                                                                                        refine lv_iconst (pc := 1621) (v := 1) hx hb dL_law_1621 (by decide) ?_
                                                                                                        refine lv_iadd (pc := 1622) hx hb dL_law_1622 ?_
                                                                                                        obtain ⟨hc_448, hp⟩ := hp
                                                                                                        refine va_sld (pc := 1623) hx hb hX hbl hbA hH.2.2 hc_448 dL_law_1623 ?_
                                                                                                        refine lv_aload_n (pc := 1624) hx hb dL_law_1624 rfl (lv_at hl 0 rfl) ?_
                                                                                                        refine lv_iload_n (pc := 1625) hx hb dL_law_1625 rfl (lv_at hl 3 rfl) ?_
                                                                                                        refine lv_iconst (pc := 1626) (v := 2) hx hb dL_law_1626 (by decide) ?_
                                                                                                        refine lv_iadd (pc := 1627) hx hb dL_law_1627 ?_
                                                                                                        obtain ⟨hc_449, hp⟩ := hp
                                                                                                        refine va_sld (pc := 1628) hx hb hX hbl hbA hH.2.2 hc_449 dL_law_1628 ?_
                                                                                                        obtain ⟨hk_450, hp⟩ := hp
                                                                                                        refine sx_V (pc := 1629) (As := [.int (xs (x3_12 + 1).toNatClampNeg), .int (xs (x3_12 + 2).toNatClampNeg)]) (rest := []) B hH hl.1 (C_X11_heard G l q_1 (xs (x3_12 + 1).toNatClampNeg) (xs (x3_12 + 2).toNatClampNeg) _ _ hp) mi_X11_heard coX11 hk_450 w_1153 w_1154 w_1152 rfl rfl ⟨Nat.le_of_ble_eq_true rfl, Nat.le_of_ble_eq_true rfl⟩ (Nat.le_of_ble_eq_true rfl) ⟨(show _ + 0 ≤ 600000 by omega), (show _ + 0 ≤ 7302250 by omega)⟩ dL_law_1629 (fun v S1 H locs hq hH => ?_)
                                                                                                        obtain ⟨r_451, F_451, rfl, e9, hp⟩ := hq
                                                                                                        rw [e9] at hH
                                                                                                        have hH : Hp G (FA es s.heap.size) s.heap (wI S_13 F_451) H locs := hH
                                                                                                        refine W.eq (g2 := F0 m 1632 ls [.int r_451]) rfl ?_
                                                                                                        refine lv_aload_n (pc := 1632) hx hb dL_law_1632 rfl (lv_at hl 2 rfl) ?_
                                                                                                        refine lv_aload_n (pc := 1633) hx hb dL_law_1633 rfl (lv_at hl 0 rfl) ?_
                                                                                                        refine lv_iload_n (pc := 1634) hx hb dL_law_1634 rfl (lv_at hl 3 rfl) ?_
                                                                                                        refine lv_iconst (pc := 1635) (v := 1) hx hb dL_law_1635 (by decide) ?_
                                                                                                        refine lv_iadd (pc := 1636) hx hb dL_law_1636 ?_
                                                                                                        obtain ⟨hc_452, hp⟩ := hp
                                                                                                        refine va_sld (pc := 1637) hx hb hX hbl hbA hH.2.2 hc_452 dL_law_1637 ?_
                                                                                                        refine lv_aload_n (pc := 1638) hx hb dL_law_1638 rfl (lv_at hl 0 rfl) ?_
                                                                                                        refine lv_iload_n (pc := 1639) hx hb dL_law_1639 rfl (lv_at hl 3 rfl) ?_
                                                                                                        refine lv_iconst (pc := 1640) (v := 2) hx hb dL_law_1640 (by decide) ?_
                                                                                                        refine lv_iadd (pc := 1641) hx hb dL_law_1641 ?_
                                                                                                        obtain ⟨hc_453, hp⟩ := hp
                                                                                                        refine va_sld (pc := 1642) hx hb hX hbl hbA hH.2.2 hc_453 dL_law_1642 ?_
                                                                                                        obtain ⟨hk_454, hp⟩ := hp
                                                                                                        refine sx_V (pc := 1643) (As := [.int (xs (x3_12 + 1).toNatClampNeg), .int (xs (x3_12 + 2).toNatClampNeg)]) (rest := [.int r_451]) B hH hl.1 (C_X12_heard G l q_6 (xs (x3_12 + 1).toNatClampNeg) (xs (x3_12 + 2).toNatClampNeg) _ _ hp) mi_X12_heard coX12 hk_454 w_1892 w_1893 w_1891 rfl rfl ⟨Nat.le_of_ble_eq_true rfl, Nat.le_of_ble_eq_true rfl⟩ (Nat.le_of_ble_eq_true rfl) ⟨(show _ + 0 ≤ 600000 by omega), (show _ + 0 ≤ 7302250 by omega)⟩ dL_law_1643 (fun v S1 H locs hq hH => ?_)
                                                                                                        obtain ⟨r_455, F_455, rfl, e9, hp⟩ := hq
                                                                                                        rw [e9] at hH
                                                                                                        have hH : Hp G (FA es s.heap.size) s.heap (wI S_13 F_455) H locs := hH
                                                                                                        refine W.eq (g2 := F0 m 1646 ls [.int r_455, .int r_451]) rfl ?_
                                                                                                        refine lv_icmp_eq (pc := 1646) (tgt := 1914) hx hb dL_law_1646 (by decide) (fun cc_456 => ?_) (fun cc_456 => ?_)
                                                                                                        · have hp := hp.1 cc_456
                                                                                                          obtain ⟨v_457, ev_457⟩ : ∃ y : Int32, y = x3_12 + 6 := ⟨_, rfl⟩
                                                                                                          have hp := hp v_457 ev_457
                                                                                                          refine lv_iinc (pc := 1914) (v := v_457) (lv' := [(3, .int v_457), (0, .ref b), (1, .ref q_1), (2, .ref q_6)]) hx hb dL_law_1914 hl (k := 3) rfl (by rw [ev_457]; rfl) (by decide) rfl (fun ls hl => ?_)
                                                                                                          refine lv_goto (pc := 1917) (tgt := 18) hx hb dL_law_1917 (by decide) ?_
                                                                                                          obtain ⟨k9, hlt9, hp⟩ := hp
                                                                                                          exact ih_11 k9 hlt9 _ _ _ _ _ _ _ _ _ hp (show _ + b_14 ≤ 600000 by omega) (show _ + d_14 ≤ 7302250 by omega) hH (lv_sub hl [1, 2, 3, 0] rfl)
                                                                                                        · have hp := hp.2 cc_456
                                                                                                          refine lv_iconst (pc := 1649) (v := 0) hx hb dL_law_1649 (by decide) ?_
                                                                                                          exact hp.elim
                                                                                                      · have hp := hp.2 cs_18_47
                                                                                                        by_cases cs_18_48 : v_17 = 48
                                                                                                        · have hp := hp.1 cs_18_48
                                                                                                          refine lv_tableIn (pc := 33) (tgt := 1651) hx hb dL_law_33 (by rw [cs_18_48]; decide) (by rw [cs_18_48]; decide) (by rw [cs_18_48]; rfl) (by decide) ?_
                                                                                                          refine lv_aload_n (pc := 1651) hx hb dL_law_1651 rfl (lv_at hl 1 rfl) ?_
                                                                                                          obtain ⟨hk_458, hp⟩ := hp
                                                                                                          obtain ⟨c_459, s_459, hb_459, hs_459, hp⟩ := hp
                                                                                                          refine sx_V (pc := 1652) (As := []) (rest := []) B hH hl.1 (C_X11_heardAlike G l q_1 _ c_459 s_459 _ hp) mi_X11_heardAlike coX11 hk_458 w_1161 w_1162 w_1160 rfl rfl ⟨Nat.le_of_ble_eq_true rfl, Nat.le_of_ble_eq_true rfl⟩ (Nat.le_of_ble_eq_true rfl) ⟨(show _ + c_459 ≤ 600000 by omega), (show _ + s_459 ≤ 7302250 by omega)⟩ dL_law_1652 (fun v S1 H locs hq hH => ?_)
                                                                                                          obtain ⟨r_460, rfl, hp⟩ := hq
                                                                                                          obtain ⟨S_460, eS_460⟩ : ∃ z : St, z = S1 := ⟨_, rfl⟩
                                                                                                          rw [← eS_460] at hp hH
                                                                                                          refine W.eq (g2 := F0 m 1655 ls [.int r_460]) rfl ?_
                                                                                                          refine lv_aload_n (pc := 1655) hx hb dL_law_1655 rfl (lv_at hl 2 rfl) ?_
                                                                                                          obtain ⟨hk_461, hp⟩ := hp
                                                                                                          refine sx_V (pc := 1656) (As := []) (rest := [.int r_460]) B hH hl.1 (C_X12_heardAlike G l q_6 _ _ hp) mi_X12_heardAlike coX12 hk_461 w_1896 w_1897 w_1895 rfl rfl ⟨Nat.le_of_ble_eq_true rfl, Nat.le_of_ble_eq_true rfl⟩ (Nat.le_of_ble_eq_true rfl) ⟨(show _ + 0 ≤ 600000 by omega), (show _ + 0 ≤ 7302250 by omega)⟩ dL_law_1656 (fun v S1 H locs hq hH => ?_)
                                                                                                          obtain ⟨r_462, F_462, rfl, e9, hp⟩ := hq
                                                                                                          rw [e9] at hH
                                                                                                          have hH : Hp G (FA es s.heap.size) s.heap (wI S_460 F_462) H locs := hH
                                                                                                          refine W.eq (g2 := F0 m 1659 ls [.int r_462, .int r_460]) rfl ?_
                                                                                                          refine lv_icmp_eq (pc := 1659) (tgt := 1914) hx hb dL_law_1659 (by decide) (fun cc_463 => ?_) (fun cc_463 => ?_)
                                                                                                          · have hp := hp.1 cc_463
                                                                                                            obtain ⟨v_464, ev_464⟩ : ∃ y : Int32, y = x3_12 + 6 := ⟨_, rfl⟩
                                                                                                            have hp := hp v_464 ev_464
                                                                                                            refine lv_iinc (pc := 1914) (v := v_464) (lv' := [(3, .int v_464), (0, .ref b), (1, .ref q_1), (2, .ref q_6)]) hx hb dL_law_1914 hl (k := 3) rfl (by rw [ev_464]; rfl) (by decide) rfl (fun ls hl => ?_)
                                                                                                            refine lv_goto (pc := 1917) (tgt := 18) hx hb dL_law_1917 (by decide) ?_
                                                                                                            obtain ⟨k9, hlt9, hp⟩ := hp
                                                                                                            exact ih_11 k9 hlt9 _ _ _ _ _ _ _ _ _ hp (show _ + (b_14 - c_459) ≤ 600000 by omega) (show _ + (d_14 - s_459) ≤ 7302250 by omega) hH (lv_sub hl [1, 2, 3, 0] rfl)
                                                                                                          · have hp := hp.2 cc_463
                                                                                                            refine lv_iconst (pc := 1662) (v := 0) hx hb dL_law_1662 (by decide) ?_
                                                                                                            exact hp.elim
                                                                                                        · have hp := hp.2 cs_18_48
                                                                                                          by_cases cs_18_49 : v_17 = 49
                                                                                                          · have hp := hp.1 cs_18_49
                                                                                                            refine lv_tableIn (pc := 33) (tgt := 1664) hx hb dL_law_33 (by rw [cs_18_49]; decide) (by rw [cs_18_49]; decide) (by rw [cs_18_49]; rfl) (by decide) ?_
                                                                                                            refine lv_aload_n (pc := 1664) hx hb dL_law_1664 rfl (lv_at hl 1 rfl) ?_
                                                                                                            obtain ⟨hk_465, hp⟩ := hp
                                                                                                            refine sx_V (pc := 1665) (As := []) (rest := []) B hH hl.1 (C_X11_evens G l q_1 _ _ hp) mi_X11_evens coX11 hk_465 w_1165 w_1166 w_1164 rfl rfl ⟨Nat.le_of_ble_eq_true rfl, Nat.le_of_ble_eq_true rfl⟩ (Nat.le_of_ble_eq_true rfl) ⟨(show _ + 0 ≤ 600000 by omega), (show _ + 0 ≤ 7302250 by omega)⟩ dL_law_1665 (fun v S1 H locs hq hH => ?_)
                                                                                                            obtain ⟨r_466, F_466, J_466, rfl, e9, hp⟩ := hq
                                                                                                            rw [e9] at hH
                                                                                                            have hH : Hp G (FA es s.heap.size) s.heap (wA S_13 F_466 J_466 (gR S_13)) H locs := hH
                                                                                                            refine W.eq (g2 := F0 m 1668 ls [.int r_466]) rfl ?_
                                                                                                            refine lv_aload_n (pc := 1668) hx hb dL_law_1668 rfl (lv_at hl 2 rfl) ?_
                                                                                                            obtain ⟨hk_467, hp⟩ := hp
                                                                                                            refine sx_V (pc := 1669) (As := []) (rest := [.int r_466]) B hH hl.1 (C_X12_evens G l q_6 _ _ hp) mi_X12_evens coX12 hk_467 w_1904 w_1905 w_1903 rfl rfl ⟨Nat.le_of_ble_eq_true rfl, Nat.le_of_ble_eq_true rfl⟩ (Nat.le_of_ble_eq_true rfl) ⟨(show _ + 0 ≤ 600000 by omega), (show _ + 0 ≤ 7302250 by omega)⟩ dL_law_1669 (fun v S1 H locs hq hH => ?_)
                                                                                                            obtain ⟨r_468, F_468, J_468, rfl, e9, hp⟩ := hq
                                                                                                            rw [e9] at hH
                                                                                                            have hH : Hp G (FA es s.heap.size) s.heap (wA S_13 F_468 J_468 (gR S_13)) H locs := hH
                                                                                                            refine W.eq (g2 := F0 m 1672 ls [.int r_468, .int r_466]) rfl ?_
                                                                                                            refine lv_icmp_eq (pc := 1672) (tgt := 1914) hx hb dL_law_1672 (by decide) (fun cc_469 => ?_) (fun cc_469 => ?_)
                                                                                                            · have hp := hp.1 cc_469
                                                                                                              obtain ⟨v_470, ev_470⟩ : ∃ y : Int32, y = x3_12 + 6 := ⟨_, rfl⟩
                                                                                                              have hp := hp v_470 ev_470
                                                                                                              refine lv_iinc (pc := 1914) (v := v_470) (lv' := [(3, .int v_470), (0, .ref b), (1, .ref q_1), (2, .ref q_6)]) hx hb dL_law_1914 hl (k := 3) rfl (by rw [ev_470]; rfl) (by decide) rfl (fun ls hl => ?_)
                                                                                                              refine lv_goto (pc := 1917) (tgt := 18) hx hb dL_law_1917 (by decide) ?_
                                                                                                              obtain ⟨k9, hlt9, hp⟩ := hp
                                                                                                              exact ih_11 k9 hlt9 _ _ _ _ _ _ _ _ _ hp (show _ + b_14 ≤ 600000 by omega) (show _ + d_14 ≤ 7302250 by omega) hH (lv_sub hl [1, 2, 3, 0] rfl)
                                                                                                            · have hp := hp.2 cc_469
                                                                                                              refine lv_iconst (pc := 1675) (v := 0) hx hb dL_law_1675 (by decide) ?_
                                                                                                              exact hp.elim
                                                                                                          · have hp := hp.2 cs_18_49
                                                                                                            by_cases cs_18_50 : v_17 = 50
                                                                                                            · have hp := hp.1 cs_18_50
                                                                                                              refine lv_tableIn (pc := 33) (tgt := 1677) hx hb dL_law_33 (by rw [cs_18_50]; decide) (by rw [cs_18_50]; decide) (by rw [cs_18_50]; rfl) (by decide) ?_
                                                                                                              refine lv_aload_n (pc := 1677) hx hb dL_law_1677 rfl (lv_at hl 1 rfl) ?_
                                                                                                              refine lv_aload_n (pc := 1678) hx hb dL_law_1678 rfl (lv_at hl 0 rfl) ?_
                                                                                                              refine lv_iload_n (pc := 1679) hx hb dL_law_1679 rfl (lv_at hl 3 rfl) ?_
                                                                                                              refine lv_iconst (pc := 1680) (v := 1) hx hb dL_law_1680 (by decide) ?_
                                                                                                              refine lv_iadd (pc := 1681) hx hb dL_law_1681 ?_
                                                                                                              obtain ⟨hc_471, hp⟩ := hp
                                                                                                              refine va_sld (pc := 1682) hx hb hX hbl hbA hH.2.2 hc_471 dL_law_1682 ?_
                                                                                                              refine lv_aload_n (pc := 1683) hx hb dL_law_1683 rfl (lv_at hl 0 rfl) ?_
                                                                                                              refine lv_iload_n (pc := 1684) hx hb dL_law_1684 rfl (lv_at hl 3 rfl) ?_
                                                                                                              refine lv_iconst (pc := 1685) (v := 2) hx hb dL_law_1685 (by decide) ?_
                                                                                                              refine lv_iadd (pc := 1686) hx hb dL_law_1686 ?_
                                                                                                              obtain ⟨hc_472, hp⟩ := hp
                                                                                                              refine va_sld (pc := 1687) hx hb hX hbl hbA hH.2.2 hc_472 dL_law_1687 ?_
                                                                                                              obtain ⟨hk_473, hp⟩ := hp
                                                                                                              refine sx_V (pc := 1688) (As := [.int (xs (x3_12 + 1).toNatClampNeg), .int (xs (x3_12 + 2).toNatClampNeg)]) (rest := []) B hH hl.1 (C_X11_strayed G l q_1 (xs (x3_12 + 1).toNatClampNeg) (xs (x3_12 + 2).toNatClampNeg) _ _ hp) mi_X11_strayed coX11 hk_473 w_1181 w_1182 w_1180 rfl rfl ⟨Nat.le_of_ble_eq_true rfl, Nat.le_of_ble_eq_true rfl⟩ (Nat.le_of_ble_eq_true rfl) ⟨(show _ + 0 ≤ 600000 by omega), (show _ + 0 ≤ 7302250 by omega)⟩ dL_law_1688 (fun v S1 H locs hq hH => ?_)
                                                                                                              obtain ⟨r_474, F_474, rfl, e9, hp⟩ := hq
                                                                                                              rw [e9] at hH
                                                                                                              have hH : Hp G (FA es s.heap.size) s.heap (wI S_13 F_474) H locs := hH
                                                                                                              refine W.eq (g2 := F0 m 1691 ls [.int r_474]) rfl ?_
                                                                                                              refine lv_aload_n (pc := 1691) hx hb dL_law_1691 rfl (lv_at hl 2 rfl) ?_
                                                                                                              refine lv_aload_n (pc := 1692) hx hb dL_law_1692 rfl (lv_at hl 0 rfl) ?_
                                                                                                              refine lv_iload_n (pc := 1693) hx hb dL_law_1693 rfl (lv_at hl 3 rfl) ?_
                                                                                                              refine lv_iconst (pc := 1694) (v := 1) hx hb dL_law_1694 (by decide) ?_
                                                                                                              refine lv_iadd (pc := 1695) hx hb dL_law_1695 ?_
                                                                                                              obtain ⟨hc_475, hp⟩ := hp
                                                                                                              refine va_sld (pc := 1696) hx hb hX hbl hbA hH.2.2 hc_475 dL_law_1696 ?_
                                                                                                              refine lv_aload_n (pc := 1697) hx hb dL_law_1697 rfl (lv_at hl 0 rfl) ?_
                                                                                                              refine lv_iload_n (pc := 1698) hx hb dL_law_1698 rfl (lv_at hl 3 rfl) ?_
                                                                                                              refine lv_iconst (pc := 1699) (v := 2) hx hb dL_law_1699 (by decide) ?_
                                                                                                              refine lv_iadd (pc := 1700) hx hb dL_law_1700 ?_
                                                                                                              obtain ⟨hc_476, hp⟩ := hp
                                                                                                              refine va_sld (pc := 1701) hx hb hX hbl hbA hH.2.2 hc_476 dL_law_1701 ?_
                                                                                                              obtain ⟨hk_477, hp⟩ := hp
                                                                                                              refine sx_V (pc := 1702) (As := [.int (xs (x3_12 + 1).toNatClampNeg), .int (xs (x3_12 + 2).toNatClampNeg)]) (rest := [.int r_474]) B hH hl.1 (C_X12_strayed G l q_6 (xs (x3_12 + 1).toNatClampNeg) (xs (x3_12 + 2).toNatClampNeg) _ _ hp) mi_X12_strayed coX12 hk_477 w_1912 w_1913 w_1911 rfl rfl ⟨Nat.le_of_ble_eq_true rfl, Nat.le_of_ble_eq_true rfl⟩ (Nat.le_of_ble_eq_true rfl) ⟨(show _ + 0 ≤ 600000 by omega), (show _ + 0 ≤ 7302250 by omega)⟩ dL_law_1702 (fun v S1 H locs hq hH => ?_)
                                                                                                              obtain ⟨r_478, F_478, rfl, e9, hp⟩ := hq
                                                                                                              rw [e9] at hH
                                                                                                              have hH : Hp G (FA es s.heap.size) s.heap (wI S_13 F_478) H locs := hH
                                                                                                              refine W.eq (g2 := F0 m 1705 ls [.int r_478, .int r_474]) rfl ?_
                                                                                                              refine lv_icmp_eq (pc := 1705) (tgt := 1914) hx hb dL_law_1705 (by decide) (fun cc_479 => ?_) (fun cc_479 => ?_)
                                                                                                              · have hp := hp.1 cc_479
                                                                                                                obtain ⟨v_480, ev_480⟩ : ∃ y : Int32, y = x3_12 + 6 := ⟨_, rfl⟩
                                                                                                                have hp := hp v_480 ev_480
                                                                                                                refine lv_iinc (pc := 1914) (v := v_480) (lv' := [(3, .int v_480), (0, .ref b), (1, .ref q_1), (2, .ref q_6)]) hx hb dL_law_1914 hl (k := 3) rfl (by rw [ev_480]; rfl) (by decide) rfl (fun ls hl => ?_)
                                                                                                                refine lv_goto (pc := 1917) (tgt := 18) hx hb dL_law_1917 (by decide) ?_
                                                                                                                obtain ⟨k9, hlt9, hp⟩ := hp
                                                                                                                exact ih_11 k9 hlt9 _ _ _ _ _ _ _ _ _ hp (show _ + b_14 ≤ 600000 by omega) (show _ + d_14 ≤ 7302250 by omega) hH (lv_sub hl [1, 2, 3, 0] rfl)
                                                                                                              · have hp := hp.2 cc_479
                                                                                                                refine lv_iconst (pc := 1708) (v := 0) hx hb dL_law_1708 (by decide) ?_
                                                                                                                exact hp.elim
                                                                                                            · have hp := hp.2 cs_18_50
                                                                                                              by_cases cs_18_51 : v_17 = 51
                                                                                                              · have hp := hp.1 cs_18_51
                                                                                                                refine lv_tableIn (pc := 33) (tgt := 1710) hx hb dL_law_33 (by rw [cs_18_51]; decide) (by rw [cs_18_51]; decide) (by rw [cs_18_51]; rfl) (by decide) ?_
                                                                                                                refine lv_aload_n (pc := 1710) hx hb dL_law_1710 rfl (lv_at hl 1 rfl) ?_
                                                                                                                refine lv_aload_n (pc := 1711) hx hb dL_law_1711 rfl (lv_at hl 0 rfl) ?_
                                                                                                                refine lv_iload_n (pc := 1712) hx hb dL_law_1712 rfl (lv_at hl 3 rfl) ?_
                                                                                                                refine lv_iconst (pc := 1713) (v := 1) hx hb dL_law_1713 (by decide) ?_
                                                                                                                refine lv_iadd (pc := 1714) hx hb dL_law_1714 ?_
                                                                                                                obtain ⟨hc_481, hp⟩ := hp
                                                                                                                refine va_sld (pc := 1715) hx hb hX hbl hbA hH.2.2 hc_481 dL_law_1715 ?_
                                                                                                                refine lv_aload_n (pc := 1716) hx hb dL_law_1716 rfl (lv_at hl 0 rfl) ?_
                                                                                                                refine lv_iload_n (pc := 1717) hx hb dL_law_1717 rfl (lv_at hl 3 rfl) ?_
                                                                                                                refine lv_iconst (pc := 1718) (v := 2) hx hb dL_law_1718 (by decide) ?_
                                                                                                                refine lv_iadd (pc := 1719) hx hb dL_law_1719 ?_
                                                                                                                obtain ⟨hc_482, hp⟩ := hp
                                                                                                                refine va_sld (pc := 1720) hx hb hX hbl hbA hH.2.2 hc_482 dL_law_1720 ?_
                                                                                                                refine lv_aload_n (pc := 1721) hx hb dL_law_1721 rfl (lv_at hl 0 rfl) ?_
                                                                                                                refine lv_iload_n (pc := 1722) hx hb dL_law_1722 rfl (lv_at hl 3 rfl) ?_
                                                                                                                refine lv_iconst (pc := 1723) (v := 3) hx hb dL_law_1723 (by decide) ?_
                                                                                                                refine lv_iadd (pc := 1724) hx hb dL_law_1724 ?_
                                                                                                                obtain ⟨hc_483, hp⟩ := hp
                                                                                                                refine va_sld (pc := 1725) hx hb hX hbl hbA hH.2.2 hc_483 dL_law_1725 ?_
                                                                                                                obtain ⟨hk_484, hp⟩ := hp
                                                                                                                refine sx_V (pc := 1726) (As := [.int (xs (x3_12 + 1).toNatClampNeg), .int (xs (x3_12 + 2).toNatClampNeg), .int (xs (x3_12 + 3).toNatClampNeg)]) (rest := []) B hH hl.1 (C_X11_odds G l q_1 (xs (x3_12 + 1).toNatClampNeg) (xs (x3_12 + 2).toNatClampNeg) (xs (x3_12 + 3).toNatClampNeg) _ _ hp) mi_X11_odds coX11 hk_484 w_1193 w_1194 w_1192 rfl rfl ⟨Nat.le_of_ble_eq_true rfl, Nat.le_of_ble_eq_true rfl⟩ (Nat.le_of_ble_eq_true rfl) ⟨(show _ + 0 ≤ 600000 by omega), (show _ + 0 ≤ 7302250 by omega)⟩ dL_law_1726 (fun v S1 H locs hq hH => ?_)
                                                                                                                obtain ⟨r_485, F_485, J_485, rfl, e9, hp⟩ := hq
                                                                                                                rw [e9] at hH
                                                                                                                have hH : Hp G (FA es s.heap.size) s.heap (wA S_13 F_485 J_485 (gR S_13)) H locs := hH
                                                                                                                refine W.eq (g2 := F0 m 1729 ls [.int r_485]) rfl ?_
                                                                                                                refine lv_aload_n (pc := 1729) hx hb dL_law_1729 rfl (lv_at hl 2 rfl) ?_
                                                                                                                refine lv_aload_n (pc := 1730) hx hb dL_law_1730 rfl (lv_at hl 0 rfl) ?_
                                                                                                                refine lv_iload_n (pc := 1731) hx hb dL_law_1731 rfl (lv_at hl 3 rfl) ?_
                                                                                                                refine lv_iconst (pc := 1732) (v := 1) hx hb dL_law_1732 (by decide) ?_
                                                                                                                refine lv_iadd (pc := 1733) hx hb dL_law_1733 ?_
                                                                                                                obtain ⟨hc_486, hp⟩ := hp
                                                                                                                refine va_sld (pc := 1734) hx hb hX hbl hbA hH.2.2 hc_486 dL_law_1734 ?_
                                                                                                                refine lv_aload_n (pc := 1735) hx hb dL_law_1735 rfl (lv_at hl 0 rfl) ?_
                                                                                                                refine lv_iload_n (pc := 1736) hx hb dL_law_1736 rfl (lv_at hl 3 rfl) ?_
                                                                                                                refine lv_iconst (pc := 1737) (v := 2) hx hb dL_law_1737 (by decide) ?_
                                                                                                                refine lv_iadd (pc := 1738) hx hb dL_law_1738 ?_
                                                                                                                obtain ⟨hc_487, hp⟩ := hp
                                                                                                                refine va_sld (pc := 1739) hx hb hX hbl hbA hH.2.2 hc_487 dL_law_1739 ?_
                                                                                                                refine lv_aload_n (pc := 1740) hx hb dL_law_1740 rfl (lv_at hl 0 rfl) ?_
                                                                                                                refine lv_iload_n (pc := 1741) hx hb dL_law_1741 rfl (lv_at hl 3 rfl) ?_
                                                                                                                refine lv_iconst (pc := 1742) (v := 3) hx hb dL_law_1742 (by decide) ?_
                                                                                                                refine lv_iadd (pc := 1743) hx hb dL_law_1743 ?_
                                                                                                                obtain ⟨hc_488, hp⟩ := hp
                                                                                                                refine va_sld (pc := 1744) hx hb hX hbl hbA hH.2.2 hc_488 dL_law_1744 ?_
                                                                                                                obtain ⟨hk_489, hp⟩ := hp
                                                                                                                refine sx_V (pc := 1745) (As := [.int (xs (x3_12 + 1).toNatClampNeg), .int (xs (x3_12 + 2).toNatClampNeg), .int (xs (x3_12 + 3).toNatClampNeg)]) (rest := [.int r_485]) B hH hl.1 (C_X12_odds G l q_6 (xs (x3_12 + 1).toNatClampNeg) (xs (x3_12 + 2).toNatClampNeg) (xs (x3_12 + 3).toNatClampNeg) _ _ hp) mi_X12_odds coX12 hk_489 w_1918 w_1919 w_1917 rfl rfl ⟨Nat.le_of_ble_eq_true rfl, Nat.le_of_ble_eq_true rfl⟩ (Nat.le_of_ble_eq_true rfl) ⟨(show _ + 0 ≤ 600000 by omega), (show _ + 0 ≤ 7302250 by omega)⟩ dL_law_1745 (fun v S1 H locs hq hH => ?_)
                                                                                                                obtain ⟨r_490, F_490, J_490, rfl, e9, hp⟩ := hq
                                                                                                                rw [e9] at hH
                                                                                                                have hH : Hp G (FA es s.heap.size) s.heap (wA S_13 F_490 J_490 (gR S_13)) H locs := hH
                                                                                                                refine W.eq (g2 := F0 m 1748 ls [.int r_490, .int r_485]) rfl ?_
                                                                                                                refine lv_icmp_eq (pc := 1748) (tgt := 1914) hx hb dL_law_1748 (by decide) (fun cc_491 => ?_) (fun cc_491 => ?_)
                                                                                                                · have hp := hp.1 cc_491
                                                                                                                  obtain ⟨v_492, ev_492⟩ : ∃ y : Int32, y = x3_12 + 6 := ⟨_, rfl⟩
                                                                                                                  have hp := hp v_492 ev_492
                                                                                                                  refine lv_iinc (pc := 1914) (v := v_492) (lv' := [(3, .int v_492), (0, .ref b), (1, .ref q_1), (2, .ref q_6)]) hx hb dL_law_1914 hl (k := 3) rfl (by rw [ev_492]; rfl) (by decide) rfl (fun ls hl => ?_)
                                                                                                                  refine lv_goto (pc := 1917) (tgt := 18) hx hb dL_law_1917 (by decide) ?_
                                                                                                                  obtain ⟨k9, hlt9, hp⟩ := hp
                                                                                                                  exact ih_11 k9 hlt9 _ _ _ _ _ _ _ _ _ hp (show _ + b_14 ≤ 600000 by omega) (show _ + d_14 ≤ 7302250 by omega) hH (lv_sub hl [1, 2, 3, 0] rfl)
                                                                                                                · have hp := hp.2 cc_491
                                                                                                                  refine lv_iconst (pc := 1751) (v := 0) hx hb dL_law_1751 (by decide) ?_
                                                                                                                  exact hp.elim
                                                                                                              · have hp := hp.2 cs_18_51
                                                                                                                by_cases cs_18_52 : v_17 = 52
                                                                                                                · have hp := hp.1 cs_18_52
                                                                                                                  refine lv_tableIn (pc := 33) (tgt := 1753) hx hb dL_law_33 (by rw [cs_18_52]; decide) (by rw [cs_18_52]; decide) (by rw [cs_18_52]; rfl) (by decide) ?_
                                                                                                                  refine lv_aload_n (pc := 1753) hx hb dL_law_1753 rfl (lv_at hl 1 rfl) ?_
                                                                                                                  refine lv_aload_n (pc := 1754) hx hb dL_law_1754 rfl (lv_at hl 0 rfl) ?_
                                                                                                                  refine lv_iload_n (pc := 1755) hx hb dL_law_1755 rfl (lv_at hl 3 rfl) ?_
                                                                                                                  refine lv_iconst (pc := 1756) (v := 1) hx hb dL_law_1756 (by decide) ?_
                                                                                                                  refine lv_iadd (pc := 1757) hx hb dL_law_1757 ?_
                                                                                                                  obtain ⟨hc_493, hp⟩ := hp
                                                                                                                  refine va_sld (pc := 1758) hx hb hX hbl hbA hH.2.2 hc_493 dL_law_1758 ?_
                                                                                                                  obtain ⟨hk_494, hp⟩ := hp
                                                                                                                  obtain ⟨c_495, s_495, hb_495, hs_495, hp⟩ := hp
                                                                                                                  refine sx_V (pc := 1759) (As := [.int (xs (x3_12 + 1).toNatClampNeg)]) (rest := []) B hH hl.1 (C_X11_way G l q_1 (xs (x3_12 + 1).toNatClampNeg) _ c_495 s_495 _ hp) mi_X11_way coX11 hk_494 w_1197 w_1198 w_1196 rfl rfl ⟨Nat.le_of_ble_eq_true rfl, Nat.le_of_ble_eq_true rfl⟩ (Nat.le_of_ble_eq_true rfl) ⟨(show _ + c_495 ≤ 600000 by omega), (show _ + s_495 ≤ 7302250 by omega)⟩ dL_law_1759 (fun v S1 H locs hq hH => ?_)
                                                                                                                  obtain ⟨r_496, rfl, hp⟩ := hq
                                                                                                                  obtain ⟨S_496, eS_496⟩ : ∃ z : St, z = S1 := ⟨_, rfl⟩
                                                                                                                  rw [← eS_496] at hp hH
                                                                                                                  refine W.eq (g2 := F0 m 1762 ls [.int r_496]) rfl ?_
                                                                                                                  refine lv_aload_n (pc := 1762) hx hb dL_law_1762 rfl (lv_at hl 2 rfl) ?_
                                                                                                                  refine lv_aload_n (pc := 1763) hx hb dL_law_1763 rfl (lv_at hl 0 rfl) ?_
                                                                                                                  refine lv_iload_n (pc := 1764) hx hb dL_law_1764 rfl (lv_at hl 3 rfl) ?_
                                                                                                                  refine lv_iconst (pc := 1765) (v := 1) hx hb dL_law_1765 (by decide) ?_
                                                                                                                  refine lv_iadd (pc := 1766) hx hb dL_law_1766 ?_
                                                                                                                  obtain ⟨hc_497, hp⟩ := hp
                                                                                                                  refine va_sld (pc := 1767) hx hb hX hbl hbA hH.2.2 hc_497 dL_law_1767 ?_
                                                                                                                  obtain ⟨hk_498, hp⟩ := hp
                                                                                                                  refine sx_V (pc := 1768) (As := [.int (xs (x3_12 + 1).toNatClampNeg)]) (rest := [.int r_496]) B hH hl.1 (C_X12_way G l q_6 (xs (x3_12 + 1).toNatClampNeg) _ _ hp) mi_X12_way coX12 hk_498 w_1923 w_1924 w_1922 rfl rfl ⟨Nat.le_of_ble_eq_true rfl, Nat.le_of_ble_eq_true rfl⟩ (Nat.le_of_ble_eq_true rfl) ⟨(show _ + 0 ≤ 600000 by omega), (show _ + 0 ≤ 7302250 by omega)⟩ dL_law_1768 (fun v S1 H locs hq hH => ?_)
                                                                                                                  obtain ⟨r_499, F_499, rfl, e9, hp⟩ := hq
                                                                                                                  rw [e9] at hH
                                                                                                                  have hH : Hp G (FA es s.heap.size) s.heap (wI S_496 F_499) H locs := hH
                                                                                                                  refine W.eq (g2 := F0 m 1771 ls [.int r_499, .int r_496]) rfl ?_
                                                                                                                  refine lv_icmp_eq (pc := 1771) (tgt := 1914) hx hb dL_law_1771 (by decide) (fun cc_500 => ?_) (fun cc_500 => ?_)
                                                                                                                  · have hp := hp.1 cc_500
                                                                                                                    obtain ⟨v_501, ev_501⟩ : ∃ y : Int32, y = x3_12 + 6 := ⟨_, rfl⟩
                                                                                                                    have hp := hp v_501 ev_501
                                                                                                                    refine lv_iinc (pc := 1914) (v := v_501) (lv' := [(3, .int v_501), (0, .ref b), (1, .ref q_1), (2, .ref q_6)]) hx hb dL_law_1914 hl (k := 3) rfl (by rw [ev_501]; rfl) (by decide) rfl (fun ls hl => ?_)
                                                                                                                    refine lv_goto (pc := 1917) (tgt := 18) hx hb dL_law_1917 (by decide) ?_
                                                                                                                    obtain ⟨k9, hlt9, hp⟩ := hp
                                                                                                                    exact ih_11 k9 hlt9 _ _ _ _ _ _ _ _ _ hp (show _ + (b_14 - c_495) ≤ 600000 by omega) (show _ + (d_14 - s_495) ≤ 7302250 by omega) hH (lv_sub hl [1, 2, 3, 0] rfl)
                                                                                                                  · have hp := hp.2 cc_500
                                                                                                                    refine lv_iconst (pc := 1774) (v := 0) hx hb dL_law_1774 (by decide) ?_
                                                                                                                    exact hp.elim
                                                                                                                · have hp := hp.2 cs_18_52
                                                                                                                  by_cases cs_18_53 : v_17 = 53
                                                                                                                  · have hp := hp.1 cs_18_53
                                                                                                                    refine lv_tableIn (pc := 33) (tgt := 1776) hx hb dL_law_33 (by rw [cs_18_53]; decide) (by rw [cs_18_53]; decide) (by rw [cs_18_53]; rfl) (by decide) ?_
                                                                                                                    refine lv_aload_n (pc := 1776) hx hb dL_law_1776 rfl (lv_at hl 1 rfl) ?_
                                                                                                                    refine lv_aload_n (pc := 1777) hx hb dL_law_1777 rfl (lv_at hl 0 rfl) ?_
                                                                                                                    refine lv_iload_n (pc := 1778) hx hb dL_law_1778 rfl (lv_at hl 3 rfl) ?_
                                                                                                                    refine lv_iconst (pc := 1779) (v := 1) hx hb dL_law_1779 (by decide) ?_
                                                                                                                    refine lv_iadd (pc := 1780) hx hb dL_law_1780 ?_
                                                                                                                    obtain ⟨hc_502, hp⟩ := hp
                                                                                                                    refine va_sld (pc := 1781) hx hb hX hbl hbA hH.2.2 hc_502 dL_law_1781 ?_
                                                                                                                    refine lv_aload_n (pc := 1782) hx hb dL_law_1782 rfl (lv_at hl 0 rfl) ?_
                                                                                                                    refine lv_iload_n (pc := 1783) hx hb dL_law_1783 rfl (lv_at hl 3 rfl) ?_
                                                                                                                    refine lv_iconst (pc := 1784) (v := 2) hx hb dL_law_1784 (by decide) ?_
                                                                                                                    refine lv_iadd (pc := 1785) hx hb dL_law_1785 ?_
                                                                                                                    obtain ⟨hc_503, hp⟩ := hp
                                                                                                                    refine va_sld (pc := 1786) hx hb hX hbl hbA hH.2.2 hc_503 dL_law_1786 ?_
                                                                                                                    obtain ⟨hk_504, hp⟩ := hp
                                                                                                                    refine sx_V (pc := 1787) (As := [.int (xs (x3_12 + 1).toNatClampNeg), .int (xs (x3_12 + 2).toNatClampNeg)]) (rest := []) B hH hl.1 (C_X11_wayAt G l q_1 (xs (x3_12 + 1).toNatClampNeg) (xs (x3_12 + 2).toNatClampNeg) _ _ hp) mi_X11_wayAt coX11 hk_504 w_1241 w_1242 w_1240 rfl rfl ⟨Nat.le_of_ble_eq_true rfl, Nat.le_of_ble_eq_true rfl⟩ (Nat.le_of_ble_eq_true rfl) ⟨(show _ + 0 ≤ 600000 by omega), (show _ + 0 ≤ 7302250 by omega)⟩ dL_law_1787 (fun v S1 H locs hq hH => ?_)
                                                                                                                    obtain ⟨r_505, F_505, rfl, e9, hp⟩ := hq
                                                                                                                    rw [e9] at hH
                                                                                                                    have hH : Hp G (FA es s.heap.size) s.heap (wI S_13 F_505) H locs := hH
                                                                                                                    refine W.eq (g2 := F0 m 1790 ls [.int r_505]) rfl ?_
                                                                                                                    refine lv_aload_n (pc := 1790) hx hb dL_law_1790 rfl (lv_at hl 2 rfl) ?_
                                                                                                                    refine lv_aload_n (pc := 1791) hx hb dL_law_1791 rfl (lv_at hl 0 rfl) ?_
                                                                                                                    refine lv_iload_n (pc := 1792) hx hb dL_law_1792 rfl (lv_at hl 3 rfl) ?_
                                                                                                                    refine lv_iconst (pc := 1793) (v := 1) hx hb dL_law_1793 (by decide) ?_
                                                                                                                    refine lv_iadd (pc := 1794) hx hb dL_law_1794 ?_
                                                                                                                    obtain ⟨hc_506, hp⟩ := hp
                                                                                                                    refine va_sld (pc := 1795) hx hb hX hbl hbA hH.2.2 hc_506 dL_law_1795 ?_
                                                                                                                    refine lv_aload_n (pc := 1796) hx hb dL_law_1796 rfl (lv_at hl 0 rfl) ?_
                                                                                                                    refine lv_iload_n (pc := 1797) hx hb dL_law_1797 rfl (lv_at hl 3 rfl) ?_
                                                                                                                    refine lv_iconst (pc := 1798) (v := 2) hx hb dL_law_1798 (by decide) ?_
                                                                                                                    refine lv_iadd (pc := 1799) hx hb dL_law_1799 ?_
                                                                                                                    obtain ⟨hc_507, hp⟩ := hp
                                                                                                                    refine va_sld (pc := 1800) hx hb hX hbl hbA hH.2.2 hc_507 dL_law_1800 ?_
                                                                                                                    obtain ⟨hk_508, hp⟩ := hp
                                                                                                                    refine sx_V (pc := 1801) (As := [.int (xs (x3_12 + 1).toNatClampNeg), .int (xs (x3_12 + 2).toNatClampNeg)]) (rest := [.int r_505]) B hH hl.1 (C_X12_wayAt G l q_6 (xs (x3_12 + 1).toNatClampNeg) (xs (x3_12 + 2).toNatClampNeg) _ _ hp) mi_X12_wayAt coX12 hk_508 w_1931 w_1932 w_1930 rfl rfl ⟨Nat.le_of_ble_eq_true rfl, Nat.le_of_ble_eq_true rfl⟩ (Nat.le_of_ble_eq_true rfl) ⟨(show _ + 0 ≤ 600000 by omega), (show _ + 0 ≤ 7302250 by omega)⟩ dL_law_1801 (fun v S1 H locs hq hH => ?_)
                                                                                                                    obtain ⟨r_509, F_509, rfl, e9, hp⟩ := hq
                                                                                                                    rw [e9] at hH
                                                                                                                    have hH : Hp G (FA es s.heap.size) s.heap (wI S_13 F_509) H locs := hH
                                                                                                                    refine W.eq (g2 := F0 m 1804 ls [.int r_509, .int r_505]) rfl ?_
                                                                                                                    refine lv_icmp_eq (pc := 1804) (tgt := 1914) hx hb dL_law_1804 (by decide) (fun cc_510 => ?_) (fun cc_510 => ?_)
                                                                                                                    · have hp := hp.1 cc_510
                                                                                                                      obtain ⟨v_511, ev_511⟩ : ∃ y : Int32, y = x3_12 + 6 := ⟨_, rfl⟩
                                                                                                                      have hp := hp v_511 ev_511
                                                                                                                      refine lv_iinc (pc := 1914) (v := v_511) (lv' := [(3, .int v_511), (0, .ref b), (1, .ref q_1), (2, .ref q_6)]) hx hb dL_law_1914 hl (k := 3) rfl (by rw [ev_511]; rfl) (by decide) rfl (fun ls hl => ?_)
                                                                                                                      refine lv_goto (pc := 1917) (tgt := 18) hx hb dL_law_1917 (by decide) ?_
                                                                                                                      obtain ⟨k9, hlt9, hp⟩ := hp
                                                                                                                      exact ih_11 k9 hlt9 _ _ _ _ _ _ _ _ _ hp (show _ + b_14 ≤ 600000 by omega) (show _ + d_14 ≤ 7302250 by omega) hH (lv_sub hl [1, 2, 3, 0] rfl)
                                                                                                                    · have hp := hp.2 cc_510
                                                                                                                      refine lv_iconst (pc := 1807) (v := 0) hx hb dL_law_1807 (by decide) ?_
                                                                                                                      exact hp.elim
                                                                                                                  · have hp := hp.2 cs_18_53
                                                                                                                    by_cases cs_18_54 : v_17 = 54
                                                                                                                    · have hp := hp.1 cs_18_54
                                                                                                                      refine lv_tableIn (pc := 33) (tgt := 1809) hx hb dL_law_33 (by rw [cs_18_54]; decide) (by rw [cs_18_54]; decide) (by rw [cs_18_54]; rfl) (by decide) ?_
                                                                                                                      refine lv_aload_n (pc := 1809) hx hb dL_law_1809 rfl (lv_at hl 1 rfl) ?_
                                                                                                                      obtain ⟨hk_512, hp⟩ := hp
                                                                                                                      obtain ⟨c_513, s_513, hb_513, hs_513, hp⟩ := hp
                                                                                                                      refine sx_V (pc := 1810) (As := []) (rest := []) B hH hl.1 (C_X11_extent G l q_1 _ c_513 s_513 _ hp) mi_X11_extent coX11 hk_512 w_1245 w_1246 w_1244 rfl rfl ⟨Nat.le_of_ble_eq_true rfl, Nat.le_of_ble_eq_true rfl⟩ (Nat.le_of_ble_eq_true rfl) ⟨(show _ + c_513 ≤ 600000 by omega), (show _ + s_513 ≤ 7302250 by omega)⟩ dL_law_1810 (fun v S1 H locs hq hH => ?_)
                                                                                                                      obtain ⟨r_514, rfl, hp⟩ := hq
                                                                                                                      obtain ⟨S_514, eS_514⟩ : ∃ z : St, z = S1 := ⟨_, rfl⟩
                                                                                                                      rw [← eS_514] at hp hH
                                                                                                                      refine W.eq (g2 := F0 m 1813 ls [.int r_514]) rfl ?_
                                                                                                                      refine lv_aload_n (pc := 1813) hx hb dL_law_1813 rfl (lv_at hl 2 rfl) ?_
                                                                                                                      obtain ⟨hk_515, hp⟩ := hp
                                                                                                                      refine sx_V (pc := 1814) (As := []) (rest := [.int r_514]) B hH hl.1 (C_X12_extent G l q_6 _ _ hp) mi_X12_extent coX12 hk_515 w_1935 w_1936 w_1934 rfl rfl ⟨Nat.le_of_ble_eq_true rfl, Nat.le_of_ble_eq_true rfl⟩ (Nat.le_of_ble_eq_true rfl) ⟨(show _ + 0 ≤ 600000 by omega), (show _ + 0 ≤ 7302250 by omega)⟩ dL_law_1814 (fun v S1 H locs hq hH => ?_)
                                                                                                                      obtain ⟨r_516, F_516, rfl, e9, hp⟩ := hq
                                                                                                                      rw [e9] at hH
                                                                                                                      have hH : Hp G (FA es s.heap.size) s.heap (wI S_514 F_516) H locs := hH
                                                                                                                      refine W.eq (g2 := F0 m 1817 ls [.int r_516, .int r_514]) rfl ?_
                                                                                                                      refine lv_icmp_eq (pc := 1817) (tgt := 1914) hx hb dL_law_1817 (by decide) (fun cc_517 => ?_) (fun cc_517 => ?_)
                                                                                                                      · have hp := hp.1 cc_517
                                                                                                                        obtain ⟨v_518, ev_518⟩ : ∃ y : Int32, y = x3_12 + 6 := ⟨_, rfl⟩
                                                                                                                        have hp := hp v_518 ev_518
                                                                                                                        refine lv_iinc (pc := 1914) (v := v_518) (lv' := [(3, .int v_518), (0, .ref b), (1, .ref q_1), (2, .ref q_6)]) hx hb dL_law_1914 hl (k := 3) rfl (by rw [ev_518]; rfl) (by decide) rfl (fun ls hl => ?_)
                                                                                                                        refine lv_goto (pc := 1917) (tgt := 18) hx hb dL_law_1917 (by decide) ?_
                                                                                                                        obtain ⟨k9, hlt9, hp⟩ := hp
                                                                                                                        exact ih_11 k9 hlt9 _ _ _ _ _ _ _ _ _ hp (show _ + (b_14 - c_513) ≤ 600000 by omega) (show _ + (d_14 - s_513) ≤ 7302250 by omega) hH (lv_sub hl [1, 2, 3, 0] rfl)
                                                                                                                      · have hp := hp.2 cc_517
                                                                                                                        refine lv_iconst (pc := 1820) (v := 0) hx hb dL_law_1820 (by decide) ?_
                                                                                                                        exact hp.elim
                                                                                                                    · have hp := hp.2 cs_18_54
                                                                                                                      by_cases cs_18_55 : v_17 = 55
                                                                                                                      · have hp := hp.1 cs_18_55
                                                                                                                        refine lv_tableIn (pc := 33) (tgt := 1822) hx hb dL_law_33 (by rw [cs_18_55]; decide) (by rw [cs_18_55]; decide) (by rw [cs_18_55]; rfl) (by decide) ?_
                                                                                                                        refine lv_aload_n (pc := 1822) hx hb dL_law_1822 rfl (lv_at hl 1 rfl) ?_
                                                                                                                        refine lv_aload_n (pc := 1823) hx hb dL_law_1823 rfl (lv_at hl 0 rfl) ?_
                                                                                                                        refine lv_iload_n (pc := 1824) hx hb dL_law_1824 rfl (lv_at hl 3 rfl) ?_
                                                                                                                        refine lv_iconst (pc := 1825) (v := 1) hx hb dL_law_1825 (by decide) ?_
                                                                                                                        refine lv_iadd (pc := 1826) hx hb dL_law_1826 ?_
                                                                                                                        obtain ⟨hc_519, hp⟩ := hp
                                                                                                                        refine va_sld (pc := 1827) hx hb hX hbl hbA hH.2.2 hc_519 dL_law_1827 ?_
                                                                                                                        refine lv_aload_n (pc := 1828) hx hb dL_law_1828 rfl (lv_at hl 0 rfl) ?_
                                                                                                                        refine lv_iload_n (pc := 1829) hx hb dL_law_1829 rfl (lv_at hl 3 rfl) ?_
                                                                                                                        refine lv_iconst (pc := 1830) (v := 2) hx hb dL_law_1830 (by decide) ?_
                                                                                                                        refine lv_iadd (pc := 1831) hx hb dL_law_1831 ?_
                                                                                                                        obtain ⟨hc_520, hp⟩ := hp
                                                                                                                        refine va_sld (pc := 1832) hx hb hX hbl hbA hH.2.2 hc_520 dL_law_1832 ?_
                                                                                                                        refine lv_aload_n (pc := 1833) hx hb dL_law_1833 rfl (lv_at hl 0 rfl) ?_
                                                                                                                        refine lv_iload_n (pc := 1834) hx hb dL_law_1834 rfl (lv_at hl 3 rfl) ?_
                                                                                                                        refine lv_iconst (pc := 1835) (v := 3) hx hb dL_law_1835 (by decide) ?_
                                                                                                                        refine lv_iadd (pc := 1836) hx hb dL_law_1836 ?_
                                                                                                                        obtain ⟨hc_521, hp⟩ := hp
                                                                                                                        refine va_sld (pc := 1837) hx hb hX hbl hbA hH.2.2 hc_521 dL_law_1837 ?_
                                                                                                                        obtain ⟨hk_522, hp⟩ := hp
                                                                                                                        obtain ⟨c_523, s_523, hb_523, hs_523, hp⟩ := hp
                                                                                                                        refine sx_V (pc := 1838) (As := [.int (xs (x3_12 + 1).toNatClampNeg), .int (xs (x3_12 + 2).toNatClampNeg), .int (xs (x3_12 + 3).toNatClampNeg)]) (rest := []) B hH hl.1 (C_X11_compositions G l q_1 (xs (x3_12 + 1).toNatClampNeg) (xs (x3_12 + 2).toNatClampNeg) (xs (x3_12 + 3).toNatClampNeg) _ c_523 s_523 _ hp) mi_X11_compositions coX11 hk_522 w_1249 w_1250 w_1248 rfl rfl ⟨Nat.le_of_ble_eq_true rfl, Nat.le_of_ble_eq_true rfl⟩ (Nat.le_of_ble_eq_true rfl) ⟨(show _ + c_523 ≤ 600000 by omega), (show _ + s_523 ≤ 7302250 by omega)⟩ dL_law_1838 (fun v S1 H locs hq hH => ?_)
                                                                                                                        obtain ⟨r_524, rfl, hp⟩ := hq
                                                                                                                        obtain ⟨S_524, eS_524⟩ : ∃ z : St, z = S1 := ⟨_, rfl⟩
                                                                                                                        rw [← eS_524] at hp hH
                                                                                                                        refine W.eq (g2 := F0 m 1841 ls [.int r_524]) rfl ?_
                                                                                                                        refine lv_aload_n (pc := 1841) hx hb dL_law_1841 rfl (lv_at hl 2 rfl) ?_
                                                                                                                        refine lv_aload_n (pc := 1842) hx hb dL_law_1842 rfl (lv_at hl 0 rfl) ?_
                                                                                                                        refine lv_iload_n (pc := 1843) hx hb dL_law_1843 rfl (lv_at hl 3 rfl) ?_
                                                                                                                        refine lv_iconst (pc := 1844) (v := 1) hx hb dL_law_1844 (by decide) ?_
                                                                                                                        refine lv_iadd (pc := 1845) hx hb dL_law_1845 ?_
                                                                                                                        obtain ⟨hc_525, hp⟩ := hp
                                                                                                                        refine va_sld (pc := 1846) hx hb hX hbl hbA hH.2.2 hc_525 dL_law_1846 ?_
                                                                                                                        refine lv_aload_n (pc := 1847) hx hb dL_law_1847 rfl (lv_at hl 0 rfl) ?_
                                                                                                                        refine lv_iload_n (pc := 1848) hx hb dL_law_1848 rfl (lv_at hl 3 rfl) ?_
                                                                                                                        refine lv_iconst (pc := 1849) (v := 2) hx hb dL_law_1849 (by decide) ?_
                                                                                                                        refine lv_iadd (pc := 1850) hx hb dL_law_1850 ?_
                                                                                                                        obtain ⟨hc_526, hp⟩ := hp
                                                                                                                        refine va_sld (pc := 1851) hx hb hX hbl hbA hH.2.2 hc_526 dL_law_1851 ?_
                                                                                                                        refine lv_aload_n (pc := 1852) hx hb dL_law_1852 rfl (lv_at hl 0 rfl) ?_
                                                                                                                        refine lv_iload_n (pc := 1853) hx hb dL_law_1853 rfl (lv_at hl 3 rfl) ?_
                                                                                                                        refine lv_iconst (pc := 1854) (v := 3) hx hb dL_law_1854 (by decide) ?_
                                                                                                                        refine lv_iadd (pc := 1855) hx hb dL_law_1855 ?_
                                                                                                                        obtain ⟨hc_527, hp⟩ := hp
                                                                                                                        refine va_sld (pc := 1856) hx hb hX hbl hbA hH.2.2 hc_527 dL_law_1856 ?_
                                                                                                                        obtain ⟨hk_528, hp⟩ := hp
                                                                                                                        refine sx_V (pc := 1857) (As := [.int (xs (x3_12 + 1).toNatClampNeg), .int (xs (x3_12 + 2).toNatClampNeg), .int (xs (x3_12 + 3).toNatClampNeg)]) (rest := [.int r_524]) B hH hl.1 (C_X12_compositions G l q_6 (xs (x3_12 + 1).toNatClampNeg) (xs (x3_12 + 2).toNatClampNeg) (xs (x3_12 + 3).toNatClampNeg) _ _ hp) mi_X12_compositions coX12 hk_528 w_1939 w_1940 w_1938 rfl rfl ⟨Nat.le_of_ble_eq_true rfl, Nat.le_of_ble_eq_true rfl⟩ (Nat.le_of_ble_eq_true rfl) ⟨(show _ + 0 ≤ 600000 by omega), (show _ + 0 ≤ 7302250 by omega)⟩ dL_law_1857 (fun v S1 H locs hq hH => ?_)
                                                                                                                        obtain ⟨r_529, F_529, rfl, e9, hp⟩ := hq
                                                                                                                        rw [e9] at hH
                                                                                                                        have hH : Hp G (FA es s.heap.size) s.heap (wI S_524 F_529) H locs := hH
                                                                                                                        refine W.eq (g2 := F0 m 1860 ls [.int r_529, .int r_524]) rfl ?_
                                                                                                                        refine lv_icmp_eq (pc := 1860) (tgt := 1914) hx hb dL_law_1860 (by decide) (fun cc_530 => ?_) (fun cc_530 => ?_)
                                                                                                                        · have hp := hp.1 cc_530
                                                                                                                          obtain ⟨v_531, ev_531⟩ : ∃ y : Int32, y = x3_12 + 6 := ⟨_, rfl⟩
                                                                                                                          have hp := hp v_531 ev_531
                                                                                                                          refine lv_iinc (pc := 1914) (v := v_531) (lv' := [(3, .int v_531), (0, .ref b), (1, .ref q_1), (2, .ref q_6)]) hx hb dL_law_1914 hl (k := 3) rfl (by rw [ev_531]; rfl) (by decide) rfl (fun ls hl => ?_)
                                                                                                                          refine lv_goto (pc := 1917) (tgt := 18) hx hb dL_law_1917 (by decide) ?_
                                                                                                                          obtain ⟨k9, hlt9, hp⟩ := hp
                                                                                                                          exact ih_11 k9 hlt9 _ _ _ _ _ _ _ _ _ hp (show _ + (b_14 - c_523) ≤ 600000 by omega) (show _ + (d_14 - s_523) ≤ 7302250 by omega) hH (lv_sub hl [1, 2, 3, 0] rfl)
                                                                                                                        · have hp := hp.2 cc_530
                                                                                                                          refine lv_iconst (pc := 1863) (v := 0) hx hb dL_law_1863 (by decide) ?_
                                                                                                                          exact hp.elim
                                                                                                                      · have hp := hp.2 cs_18_55
                                                                                                                        by_cases cs_18_56 : v_17 = 56
                                                                                                                        · have hp := hp.1 cs_18_56
                                                                                                                          refine lv_tableIn (pc := 33) (tgt := 1865) hx hb dL_law_33 (by rw [cs_18_56]; decide) (by rw [cs_18_56]; decide) (by rw [cs_18_56]; rfl) (by decide) ?_
                                                                                                                          refine lv_aload_n (pc := 1865) hx hb dL_law_1865 rfl (lv_at hl 1 rfl) ?_
                                                                                                                          refine lv_aload_n (pc := 1866) hx hb dL_law_1866 rfl (lv_at hl 0 rfl) ?_
                                                                                                                          refine lv_iload_n (pc := 1867) hx hb dL_law_1867 rfl (lv_at hl 3 rfl) ?_
                                                                                                                          refine lv_iconst (pc := 1868) (v := 1) hx hb dL_law_1868 (by decide) ?_
                                                                                                                          refine lv_iadd (pc := 1869) hx hb dL_law_1869 ?_
                                                                                                                          obtain ⟨hc_532, hp⟩ := hp
                                                                                                                          refine va_sld (pc := 1870) hx hb hX hbl hbA hH.2.2 hc_532 dL_law_1870 ?_
                                                                                                                          obtain ⟨hk_533, hp⟩ := hp
                                                                                                                          refine sx_V (pc := 1871) (As := [.int (xs (x3_12 + 1).toNatClampNeg)]) (rest := []) B hH hl.1 (C_X11_callAt G l q_1 (xs (x3_12 + 1).toNatClampNeg) _ _ hp) mi_X11_callAt coX11 hk_533 w_1286 w_1287 w_1285 rfl rfl ⟨Nat.le_of_ble_eq_true rfl, Nat.le_of_ble_eq_true rfl⟩ (Nat.le_of_ble_eq_true rfl) ⟨(show _ + 0 ≤ 600000 by omega), (show _ + 0 ≤ 7302250 by omega)⟩ dL_law_1871 (fun v S1 H locs hq hH => ?_)
                                                                                                                          obtain ⟨r_534, F_534, rfl, e9, hp⟩ := hq
                                                                                                                          rw [e9] at hH
                                                                                                                          have hH : Hp G (FA es s.heap.size) s.heap (wI S_13 F_534) H locs := hH
                                                                                                                          refine W.eq (g2 := F0 m 1874 ls [.int r_534]) rfl ?_
                                                                                                                          refine lv_aload_n (pc := 1874) hx hb dL_law_1874 rfl (lv_at hl 2 rfl) ?_
                                                                                                                          refine lv_aload_n (pc := 1875) hx hb dL_law_1875 rfl (lv_at hl 0 rfl) ?_
                                                                                                                          refine lv_iload_n (pc := 1876) hx hb dL_law_1876 rfl (lv_at hl 3 rfl) ?_
                                                                                                                          refine lv_iconst (pc := 1877) (v := 1) hx hb dL_law_1877 (by decide) ?_
                                                                                                                          refine lv_iadd (pc := 1878) hx hb dL_law_1878 ?_
                                                                                                                          obtain ⟨hc_535, hp⟩ := hp
                                                                                                                          refine va_sld (pc := 1879) hx hb hX hbl hbA hH.2.2 hc_535 dL_law_1879 ?_
                                                                                                                          obtain ⟨hk_536, hp⟩ := hp
                                                                                                                          refine sx_V (pc := 1880) (As := [.int (xs (x3_12 + 1).toNatClampNeg)]) (rest := [.int r_534]) B hH hl.1 (C_X12_callAt G l q_6 (xs (x3_12 + 1).toNatClampNeg) _ _ hp) mi_X12_callAt coX12 hk_536 w_1949 w_1950 w_1948 rfl rfl ⟨Nat.le_of_ble_eq_true rfl, Nat.le_of_ble_eq_true rfl⟩ (Nat.le_of_ble_eq_true rfl) ⟨(show _ + 0 ≤ 600000 by omega), (show _ + 0 ≤ 7302250 by omega)⟩ dL_law_1880 (fun v S1 H locs hq hH => ?_)
                                                                                                                          obtain ⟨r_537, F_537, rfl, e9, hp⟩ := hq
                                                                                                                          rw [e9] at hH
                                                                                                                          have hH : Hp G (FA es s.heap.size) s.heap (wI S_13 F_537) H locs := hH
                                                                                                                          refine W.eq (g2 := F0 m 1883 ls [.int r_537, .int r_534]) rfl ?_
                                                                                                                          refine lv_icmp_eq (pc := 1883) (tgt := 1914) hx hb dL_law_1883 (by decide) (fun cc_538 => ?_) (fun cc_538 => ?_)
                                                                                                                          · have hp := hp.1 cc_538
                                                                                                                            obtain ⟨v_539, ev_539⟩ : ∃ y : Int32, y = x3_12 + 6 := ⟨_, rfl⟩
                                                                                                                            have hp := hp v_539 ev_539
                                                                                                                            refine lv_iinc (pc := 1914) (v := v_539) (lv' := [(3, .int v_539), (0, .ref b), (1, .ref q_1), (2, .ref q_6)]) hx hb dL_law_1914 hl (k := 3) rfl (by rw [ev_539]; rfl) (by decide) rfl (fun ls hl => ?_)
                                                                                                                            refine lv_goto (pc := 1917) (tgt := 18) hx hb dL_law_1917 (by decide) ?_
                                                                                                                            obtain ⟨k9, hlt9, hp⟩ := hp
                                                                                                                            exact ih_11 k9 hlt9 _ _ _ _ _ _ _ _ _ hp (show _ + b_14 ≤ 600000 by omega) (show _ + d_14 ≤ 7302250 by omega) hH (lv_sub hl [1, 2, 3, 0] rfl)
                                                                                                                          · have hp := hp.2 cc_538
                                                                                                                            refine lv_iconst (pc := 1886) (v := 0) hx hb dL_law_1886 (by decide) ?_
                                                                                                                            exact hp.elim
                                                                                                                        · have hp := hp.2 cs_18_56
                                                                                                                          by_cases cs_18_57 : v_17 = 57
                                                                                                                          · have hp := hp.1 cs_18_57
                                                                                                                            refine lv_tableIn (pc := 33) (tgt := 1888) hx hb dL_law_33 (by rw [cs_18_57]; decide) (by rw [cs_18_57]; decide) (by rw [cs_18_57]; rfl) (by decide) ?_
                                                                                                                            refine lv_aload_n (pc := 1888) hx hb dL_law_1888 rfl (lv_at hl 1 rfl) ?_
                                                                                                                            obtain ⟨hk_540, hp⟩ := hp
                                                                                                                            refine sx_V (pc := 1889) (As := []) (rest := []) B hH hl.1 (C_X11_mark G l q_1 _ _ hp) mi_X11_mark coX11 hk_540 w_1290 w_1291 w_1289 rfl rfl ⟨Nat.le_of_ble_eq_true rfl, Nat.le_of_ble_eq_true rfl⟩ (Nat.le_of_ble_eq_true rfl) ⟨(show _ + 0 ≤ 600000 by omega), (show _ + 0 ≤ 7302250 by omega)⟩ dL_law_1889 (fun v S1 H locs hq hH => ?_)
                                                                                                                            obtain ⟨r_541, F_541, R_541, rfl, e9, hp⟩ := hq
                                                                                                                            rw [e9] at hH
                                                                                                                            have hH : Hp G (FA es s.heap.size) s.heap (wA S_13 F_541 (gJ S_13) R_541) H locs := hH
                                                                                                                            refine W.eq (g2 := F0 m 1892 ls [.int r_541]) rfl ?_
                                                                                                                            refine lv_aload_n (pc := 1892) hx hb dL_law_1892 rfl (lv_at hl 2 rfl) ?_
                                                                                                                            obtain ⟨hk_542, hp⟩ := hp
                                                                                                                            refine sx_V (pc := 1893) (As := []) (rest := [.int r_541]) B hH hl.1 (C_X12_mark G l q_6 _ _ hp) mi_X12_mark coX12 hk_542 w_1953 w_1954 w_1952 rfl rfl ⟨Nat.le_of_ble_eq_true rfl, Nat.le_of_ble_eq_true rfl⟩ (Nat.le_of_ble_eq_true rfl) ⟨(show _ + 0 ≤ 600000 by omega), (show _ + 0 ≤ 7302250 by omega)⟩ dL_law_1893 (fun v S1 H locs hq hH => ?_)
                                                                                                                            obtain ⟨r_543, F_543, J_543, rfl, e9, hp⟩ := hq
                                                                                                                            rw [e9] at hH
                                                                                                                            have hH : Hp G (FA es s.heap.size) s.heap (wA S_13 F_543 J_543 R_541) H locs := hH
                                                                                                                            refine W.eq (g2 := F0 m 1896 ls [.int r_543, .int r_541]) rfl ?_
                                                                                                                            refine lv_icmp_eq (pc := 1896) (tgt := 1914) hx hb dL_law_1896 (by decide) (fun cc_544 => ?_) (fun cc_544 => ?_)
                                                                                                                            · have hp := hp.1 cc_544
                                                                                                                              obtain ⟨v_545, ev_545⟩ : ∃ y : Int32, y = x3_12 + 6 := ⟨_, rfl⟩
                                                                                                                              have hp := hp v_545 ev_545
                                                                                                                              refine lv_iinc (pc := 1914) (v := v_545) (lv' := [(3, .int v_545), (0, .ref b), (1, .ref q_1), (2, .ref q_6)]) hx hb dL_law_1914 hl (k := 3) rfl (by rw [ev_545]; rfl) (by decide) rfl (fun ls hl => ?_)
                                                                                                                              refine lv_goto (pc := 1917) (tgt := 18) hx hb dL_law_1917 (by decide) ?_
                                                                                                                              obtain ⟨k9, hlt9, hp⟩ := hp
                                                                                                                              exact ih_11 k9 hlt9 _ _ _ _ _ _ _ _ _ hp (show _ + b_14 ≤ 600000 by omega) (show _ + d_14 ≤ 7302250 by omega) hH (lv_sub hl [1, 2, 3, 0] rfl)
                                                                                                                            · have hp := hp.2 cc_544
                                                                                                                              refine lv_iconst (pc := 1899) (v := 0) hx hb dL_law_1899 (by decide) ?_
                                                                                                                              exact hp.elim
                                                                                                                          · have hp := hp.2 cs_18_57
                                                                                                                            by_cases cs_18_58 : v_17 = 58
                                                                                                                            · have hp := hp.1 cs_18_58
                                                                                                                              refine lv_tableIn (pc := 33) (tgt := 1901) hx hb dL_law_33 (by rw [cs_18_58]; decide) (by rw [cs_18_58]; decide) (by rw [cs_18_58]; rfl) (by decide) ?_
                                                                                                                              refine lv_aload_n (pc := 1901) hx hb dL_law_1901 rfl (lv_at hl 1 rfl) ?_
                                                                                                                              obtain ⟨hk_546, hp⟩ := hp
                                                                                                                              refine sx_V (pc := 1902) (As := []) (rest := []) B hH hl.1 (C_X11_back G l q_1 _ _ hp) mi_X11_back coX11 hk_546 w_1294 w_1295 w_1293 rfl rfl ⟨Nat.le_of_ble_eq_true rfl, Nat.le_of_ble_eq_true rfl⟩ (Nat.le_of_ble_eq_true rfl) ⟨(show _ + 0 ≤ 600000 by omega), (show _ + 0 ≤ 7302250 by omega)⟩ dL_law_1902 (fun v S1 H locs hq hH => ?_)
                                                                                                                              obtain ⟨r_547, F_547, R_547, rfl, e9, hp⟩ := hq
                                                                                                                              rw [e9] at hH
                                                                                                                              have hH : Hp G (FA es s.heap.size) s.heap (wA S_13 F_547 (gJ S_13) R_547) H locs := hH
                                                                                                                              refine W.eq (g2 := F0 m 1905 ls [.int r_547]) rfl ?_
                                                                                                                              refine lv_aload_n (pc := 1905) hx hb dL_law_1905 rfl (lv_at hl 2 rfl) ?_
                                                                                                                              obtain ⟨hk_548, hp⟩ := hp
                                                                                                                              refine sx_V (pc := 1906) (As := []) (rest := [.int r_547]) B hH hl.1 (C_X12_back G l q_6 _ _ hp) mi_X12_back coX12 hk_548 w_1961 w_1962 w_1960 rfl rfl ⟨Nat.le_of_ble_eq_true rfl, Nat.le_of_ble_eq_true rfl⟩ (Nat.le_of_ble_eq_true rfl) ⟨(show _ + 0 ≤ 600000 by omega), (show _ + 0 ≤ 7302250 by omega)⟩ dL_law_1906 (fun v S1 H locs hq hH => ?_)
                                                                                                                              obtain ⟨r_549, F_549, J_549, rfl, e9, hp⟩ := hq
                                                                                                                              rw [e9] at hH
                                                                                                                              have hH : Hp G (FA es s.heap.size) s.heap (wA S_13 F_549 J_549 R_547) H locs := hH
                                                                                                                              refine W.eq (g2 := F0 m 1909 ls [.int r_549, .int r_547]) rfl ?_
                                                                                                                              refine lv_icmp_eq (pc := 1909) (tgt := 1914) hx hb dL_law_1909 (by decide) (fun cc_550 => ?_) (fun cc_550 => ?_)
                                                                                                                              · have hp := hp.1 cc_550
                                                                                                                                obtain ⟨v_551, ev_551⟩ : ∃ y : Int32, y = x3_12 + 6 := ⟨_, rfl⟩
                                                                                                                                have hp := hp v_551 ev_551
                                                                                                                                refine lv_iinc (pc := 1914) (v := v_551) (lv' := [(3, .int v_551), (0, .ref b), (1, .ref q_1), (2, .ref q_6)]) hx hb dL_law_1914 hl (k := 3) rfl (by rw [ev_551]; rfl) (by decide) rfl (fun ls hl => ?_)
                                                                                                                                refine lv_goto (pc := 1917) (tgt := 18) hx hb dL_law_1917 (by decide) ?_
                                                                                                                                obtain ⟨k9, hlt9, hp⟩ := hp
                                                                                                                                exact ih_11 k9 hlt9 _ _ _ _ _ _ _ _ _ hp (show _ + b_14 ≤ 600000 by omega) (show _ + d_14 ≤ 7302250 by omega) hH (lv_sub hl [1, 2, 3, 0] rfl)
                                                                                                                              · have hp := hp.2 cc_550
                                                                                                                                refine lv_iconst (pc := 1912) (v := 0) hx hb dL_law_1912 (by decide) ?_
                                                                                                                                exact hp.elim
                                                                                                                            · have hp := hp.2 cs_18_58
                                                                                                                              refine lv_tableOut (pc := 33) (tgt := 1914) hx hb dL_law_33 (sw_0_58 cs_18_0 cs_18_1 cs_18_2 cs_18_3 cs_18_4 cs_18_5 cs_18_6 cs_18_7 cs_18_8 cs_18_9 cs_18_10 cs_18_11 cs_18_12 cs_18_13 cs_18_14 cs_18_15 cs_18_16 cs_18_17 cs_18_18 cs_18_19 cs_18_20 cs_18_21 cs_18_22 cs_18_23 cs_18_24 cs_18_25 cs_18_26 cs_18_27 cs_18_28 cs_18_29 cs_18_30 cs_18_31 cs_18_32 cs_18_33 cs_18_34 cs_18_35 cs_18_36 cs_18_37 cs_18_38 cs_18_39 cs_18_40 cs_18_41 cs_18_42 cs_18_43 cs_18_44 cs_18_45 cs_18_46 cs_18_47 cs_18_48 cs_18_49 cs_18_50 cs_18_51 cs_18_52 cs_18_53 cs_18_54 cs_18_55 cs_18_56 cs_18_57 cs_18_58) (by decide) ?_
                                                                                                                              obtain ⟨v_552, ev_552⟩ : ∃ y : Int32, y = x3_12 + 6 := ⟨_, rfl⟩
                                                                                                                              have hp := hp v_552 ev_552
                                                                                                                              refine lv_iinc (pc := 1914) (v := v_552) (lv' := [(3, .int v_552), (0, .ref b), (1, .ref q_1), (2, .ref q_6)]) hx hb dL_law_1914 hl (k := 3) rfl (by rw [ev_552]; rfl) (by decide) rfl (fun ls hl => ?_)
                                                                                                                              refine lv_goto (pc := 1917) (tgt := 18) hx hb dL_law_1917 (by decide) ?_
                                                                                                                              obtain ⟨k9, hlt9, hp⟩ := hp
                                                                                                                              exact ih_11 k9 hlt9 _ _ _ _ _ _ _ _ _ hp (show _ + b_14 ≤ 600000 by omega) (show _ + d_14 ≤ 7302250 by omega) hH (lv_sub hl [1, 2, 3, 0] rfl)
  exact kl_11 k0_11 _ _ _ _ _ _ _ _ _ h0_11 (show _ + (600000 - 1 - c_4 - 1 - c_9) ≤ 600000 by omega) (show _ + (7302250 - 17 - s_4 - 51 - s_9) ≤ 7302250 by omega) hH (lv_sub hl [3, 2, 1, 0] rfl)
