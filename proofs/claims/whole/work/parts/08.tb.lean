theorem tb_t1 {w : Cond} (h : w ∈ tables_1_1) (g : goodWord w = true) : w ∈ TB := List.mem_filter.mpr ⟨List.mem_append_right _ (List.mem_append_left _ h), g⟩
theorem tb_t2 {w : Cond} (h : w ∈ tables_1_2) (g : goodWord w = true) : w ∈ TB := List.mem_filter.mpr ⟨List.mem_append_right _ (List.mem_append_right _ (List.mem_append_left _ h)), g⟩
theorem tb_t3 {w : Cond} (h : w ∈ tables_1_3) (g : goodWord w = true) : w ∈ TB := List.mem_filter.mpr ⟨List.mem_append_right _ (List.mem_append_right _ (List.mem_append_right _ (List.mem_append_left _ h))), g⟩
theorem tb_t4 {w : Cond} (h : w ∈ tables_1_4) (g : goodWord w = true) : w ∈ TB := List.mem_filter.mpr ⟨List.mem_append_right _ (List.mem_append_right _ (List.mem_append_right _ (List.mem_append_right _ (List.mem_append_left _ h)))), g⟩
theorem tb_t5 {w : Cond} (h : w ∈ tables_1_5) (g : goodWord w = true) : w ∈ TB := List.mem_filter.mpr ⟨List.mem_append_right _ (List.mem_append_right _ (List.mem_append_right _ (List.mem_append_right _ (List.mem_append_right _ (List.mem_append_left _ h))))), g⟩
theorem tb_t6 {w : Cond} (h : w ∈ tables_1_6) (g : goodWord w = true) : w ∈ TB := List.mem_filter.mpr ⟨List.mem_append_right _ (List.mem_append_right _ (List.mem_append_right _ (List.mem_append_right _ (List.mem_append_right _ (List.mem_append_right _ (List.mem_append_left _ h)))))), g⟩
theorem tb_t7 {w : Cond} (h : w ∈ tables_1_7) (g : goodWord w = true) : w ∈ TB := List.mem_filter.mpr ⟨List.mem_append_right _ (List.mem_append_right _ (List.mem_append_right _ (List.mem_append_right _ (List.mem_append_right _ (List.mem_append_right _ (List.mem_append_right _ (List.mem_append_left _ h))))))), g⟩
theorem tb_t8 {w : Cond} (h : w ∈ tables_1_8) (g : goodWord w = true) : w ∈ TB := List.mem_filter.mpr ⟨List.mem_append_right _ (List.mem_append_right _ (List.mem_append_right _ (List.mem_append_right _ (List.mem_append_right _ (List.mem_append_right _ (List.mem_append_right _ (List.mem_append_right _ (h)))))))), g⟩
theorem tb_p1 {q : MethodName × Nat} {C : String} (h : q ∈ lw_privs_1) (e : q.1.cls = C) : Cond.selects C q.1 q.1 ∈ TB := List.mem_filter.mpr ⟨List.mem_append_left _ (List.mem_map.mpr ⟨q, List.mem_append_left _ h, by rw [e]⟩), rfl⟩
theorem tb_p2 {q : MethodName × Nat} {C : String} (h : q ∈ lw_privs_2) (e : q.1.cls = C) : Cond.selects C q.1 q.1 ∈ TB := List.mem_filter.mpr ⟨List.mem_append_left _ (List.mem_map.mpr ⟨q, List.mem_append_right _ (List.mem_append_left _ h), by rw [e]⟩), rfl⟩
theorem tb_p3 {q : MethodName × Nat} {C : String} (h : q ∈ lw_privs_3) (e : q.1.cls = C) : Cond.selects C q.1 q.1 ∈ TB := List.mem_filter.mpr ⟨List.mem_append_left _ (List.mem_map.mpr ⟨q, List.mem_append_right _ (List.mem_append_right _ (List.mem_append_left _ h)), by rw [e]⟩), rfl⟩
theorem tb_p4 {q : MethodName × Nat} {C : String} (h : q ∈ lw_privs_4) (e : q.1.cls = C) : Cond.selects C q.1 q.1 ∈ TB := List.mem_filter.mpr ⟨List.mem_append_left _ (List.mem_map.mpr ⟨q, List.mem_append_right _ (List.mem_append_right _ (List.mem_append_right _ (List.mem_append_left _ h))), by rw [e]⟩), rfl⟩
theorem tb_p5 {q : MethodName × Nat} {C : String} (h : q ∈ lw_privs_5) (e : q.1.cls = C) : Cond.selects C q.1 q.1 ∈ TB := List.mem_filter.mpr ⟨List.mem_append_left _ (List.mem_map.mpr ⟨q, List.mem_append_right _ (List.mem_append_right _ (List.mem_append_right _ (List.mem_append_right _ (List.mem_append_left _ h)))), by rw [e]⟩), rfl⟩
theorem tb_p6 {q : MethodName × Nat} {C : String} (h : q ∈ lw_privs_6) (e : q.1.cls = C) : Cond.selects C q.1 q.1 ∈ TB := List.mem_filter.mpr ⟨List.mem_append_left _ (List.mem_map.mpr ⟨q, List.mem_append_right _ (List.mem_append_right _ (List.mem_append_right _ (List.mem_append_right _ (List.mem_append_right _ (List.mem_append_left _ h))))), by rw [e]⟩), rfl⟩
theorem tb_p7 {q : MethodName × Nat} {C : String} (h : q ∈ lw_privs_7) (e : q.1.cls = C) : Cond.selects C q.1 q.1 ∈ TB := List.mem_filter.mpr ⟨List.mem_append_left _ (List.mem_map.mpr ⟨q, List.mem_append_right _ (List.mem_append_right _ (List.mem_append_right _ (List.mem_append_right _ (List.mem_append_right _ (List.mem_append_right _ (h)))))), by rw [e]⟩), rfl⟩
theorem coX0 : CO 0 RX0 TX0 4 tyX0 := ⟨rfl, by decide, inX0, tyX0_ok, nmX0, rfl⟩
theorem dvX0 : DV 0 4 tyX0 := fun j hj => match j, hj with
  | 0, _ => rfl
  | 1, _ => rfl
  | 2, _ => rfl
  | 3, _ => rfl
  | k + 4, h => absurd h (by omega)
theorem coX1 : CO 1 RX1 TX1 12 tyX1 := ⟨rfl, by decide, inX1, tyX1_ok, nmX1, rfl⟩
theorem dvX1 : DV 1 12 tyX1 := fun j hj => match j, hj with
  | 0, _ => rfl
  | 1, _ => rfl
  | 2, _ => rfl
  | 3, _ => rfl
  | 4, _ => rfl
  | 5, _ => rfl
  | 6, _ => rfl
  | 7, _ => rfl
  | 8, _ => rfl
  | 9, _ => rfl
  | 10, _ => rfl
  | 11, _ => rfl
  | k + 12, h => absurd h (by omega)
theorem coX2 : CO 2 RX2 TX2 6 tyX2 := ⟨rfl, by decide, inX2, tyX2_ok, nmX2, rfl⟩
theorem dvX2 : DV 2 6 tyX2 := fun j hj => match j, hj with
  | 0, _ => rfl
  | 1, _ => rfl
  | 2, _ => rfl
  | 3, _ => rfl
  | 4, _ => rfl
  | 5, _ => rfl
  | k + 6, h => absurd h (by omega)
theorem coX3 : CO 3 RX3 TX3 5 tyX3 := ⟨rfl, by decide, inX3, tyX3_ok, nmX3, rfl⟩
theorem dvX3 : DV 3 5 tyX3 := fun j hj => match j, hj with
  | 0, _ => rfl
  | 1, _ => rfl
  | 2, _ => rfl
  | 3, _ => rfl
  | 4, _ => rfl
  | k + 5, h => absurd h (by omega)
theorem coX5 : CO 4 RX5 TX5 9 tyX5 := ⟨rfl, by decide, inX5, tyX5_ok, nmX5, rfl⟩
theorem dvX5 : DV 4 9 tyX5 := fun j hj => match j, hj with
  | 0, _ => rfl
  | 1, _ => rfl
  | 2, _ => rfl
  | 3, _ => rfl
  | 4, _ => rfl
  | 5, _ => rfl
  | 6, _ => rfl
  | 7, _ => rfl
  | 8, _ => rfl
  | k + 9, h => absurd h (by omega)
theorem coX6 : CO 5 RX6 TX6 2 tyX6 := ⟨rfl, by decide, inX6, tyX6_ok, nmX6, rfl⟩
theorem dvX6 : DV 5 2 tyX6 := fun j hj => match j, hj with
  | 0, _ => rfl
  | 1, _ => rfl
  | k + 2, h => absurd h (by omega)
theorem coX7 : CO 6 RX7 TX7 11 tyX7 := ⟨rfl, by decide, inX7, tyX7_ok, nmX7, rfl⟩
theorem dvX7 : DV 6 11 tyX7 := fun j hj => match j, hj with
  | 0, _ => rfl
  | 1, _ => rfl
  | 2, _ => rfl
  | 3, _ => rfl
  | 4, _ => rfl
  | 5, _ => rfl
  | 6, _ => rfl
  | 7, _ => rfl
  | 8, _ => rfl
  | 9, _ => rfl
  | 10, _ => rfl
  | k + 11, h => absurd h (by omega)
theorem coX8 : CO 7 RX8 TX8 4 tyX8 := ⟨rfl, by decide, inX8, tyX8_ok, nmX8, rfl⟩
theorem dvX8 : DV 7 4 tyX8 := fun j hj => match j, hj with
  | 0, _ => rfl
  | 1, _ => rfl
  | 2, _ => rfl
  | 3, _ => rfl
  | k + 4, h => absurd h (by omega)
theorem coX9 : CO 8 RX9 TX9 11 tyX9 := ⟨rfl, by decide, inX9, tyX9_ok, nmX9, rfl⟩
theorem dvX9 : DV 8 11 tyX9 := fun j hj => match j, hj with
  | 0, _ => rfl
  | 1, _ => rfl
  | 2, _ => rfl
  | 3, _ => rfl
  | 4, _ => rfl
  | 5, _ => rfl
  | 6, _ => rfl
  | 7, _ => rfl
  | 8, _ => rfl
  | 9, _ => rfl
  | 10, _ => rfl
  | k + 11, h => absurd h (by omega)
theorem coX10 : CO 9 RX10 TX10 2 tyX10 := ⟨rfl, by decide, inX10, tyX10_ok, nmX10, rfl⟩
theorem dvX10 : DV 9 2 tyX10 := fun j hj => match j, hj with
  | 0, _ => rfl
  | 1, _ => rfl
  | k + 2, h => absurd h (by omega)
theorem coX11 : CO 10 RX11 TX11 17 tyX11 := ⟨rfl, by decide, inX11, tyX11_ok, nmX11, rfl⟩
theorem dvX11 : DV 10 17 tyX11 := fun j hj => match j, hj with
  | 0, _ => rfl
  | 1, _ => rfl
  | 2, _ => rfl
  | 3, _ => rfl
  | 4, _ => rfl
  | 5, _ => rfl
  | 6, _ => rfl
  | 7, _ => rfl
  | 8, _ => rfl
  | 9, _ => rfl
  | 10, _ => rfl
  | 11, _ => rfl
  | 12, _ => rfl
  | 13, _ => rfl
  | 14, _ => rfl
  | 15, _ => rfl
  | 16, _ => rfl
  | k + 17, h => absurd h (by omega)
theorem coX12 : CO 11 RX12 TX12 51 tyX12 := ⟨rfl, by decide, inX12, tyX12_ok, nmX12, rfl⟩
theorem dvX12 : DV 11 51 tyX12 := fun j hj => match j, hj with
  | 0, _ => rfl
  | 1, _ => rfl
  | 2, _ => rfl
  | 3, _ => rfl
  | 4, _ => rfl
  | 5, _ => rfl
  | 6, _ => rfl
  | 7, _ => rfl
  | 8, _ => rfl
  | 9, _ => rfl
  | 10, _ => rfl
  | 11, _ => rfl
  | 12, _ => rfl
  | 13, _ => rfl
  | 14, _ => rfl
  | 15, _ => rfl
  | 16, _ => rfl
  | 17, _ => rfl
  | 18, _ => rfl
  | 19, _ => rfl
  | 20, _ => rfl
  | 21, _ => rfl
  | 22, _ => rfl
  | 23, _ => rfl
  | 24, _ => rfl
  | 25, _ => rfl
  | 26, _ => rfl
  | 27, _ => rfl
  | 28, _ => rfl
  | 29, _ => rfl
  | 30, _ => rfl
  | 31, _ => rfl
  | 32, _ => rfl
  | 33, _ => rfl
  | 34, _ => rfl
  | 35, _ => rfl
  | 36, _ => rfl
  | 37, _ => rfl
  | 38, _ => rfl
  | 39, _ => rfl
  | 40, _ => rfl
  | 41, _ => rfl
  | 42, _ => rfl
  | 43, _ => rfl
  | 44, _ => rfl
  | 45, _ => rfl
  | 46, _ => rfl
  | 47, _ => rfl
  | 48, _ => rfl
  | 49, _ => rfl
  | 50, _ => rfl
  | k + 51, h => absurd h (by omega)
set_option maxRecDepth 100000 in
theorem w_0 : Cond.selects "RingChamber" ⟨"RingChamber", "deny", "(I)Z"⟩ ⟨"RingChamber", "deny", "(I)Z"⟩ ∈ TB := tb_p1 (q := (⟨"RingChamber", "deny", "(I)Z"⟩, 17)) (List.mem_of_getElem? (i := 0) rfl) rfl
set_option maxRecDepth 100000 in
theorem w_1 : Cond.selects "RingChamber" ⟨"RingChamber", "grant", "()Z"⟩ ⟨"RingChamber", "grant", "()Z"⟩ ∈ TB := tb_p1 (q := (⟨"RingChamber", "grant", "()Z"⟩, 17)) (List.mem_of_getElem? (i := 1) rfl) rfl
set_option maxRecDepth 100000 in
theorem w_2 : Cond.selects "RingChamber" ⟨"RingChamber", "whyNoPlace", "(II)I"⟩ ⟨"RingChamber", "whyNoPlace", "(II)I"⟩ ∈ TB := tb_p1 (q := (⟨"RingChamber", "whyNoPlace", "(II)I"⟩, 17)) (List.mem_of_getElem? (i := 2) rfl) rfl
set_option maxRecDepth 100000 in
theorem w_3 : Cond.selects "RingChamber" ⟨"RingChamber", "refuse", "(I)I"⟩ ⟨"RingChamber", "refuse", "(I)I"⟩ ∈ TB := tb_p1 (q := (⟨"RingChamber", "refuse", "(I)I"⟩, 17)) (List.mem_of_getElem? (i := 3) rfl) rfl
set_option maxRecDepth 100000 in
theorem w_4 : Cond.selects "RingChamber$Tokens" ⟨"RingChamber$Tokens", "isLetter", "(I)Z"⟩ ⟨"RingChamber$Tokens", "isLetter", "(I)Z"⟩ ∈ TB := tb_p1 (q := (⟨"RingChamber$Tokens", "isLetter", "(I)Z"⟩, 11)) (List.mem_of_getElem? (i := 4) rfl) rfl
set_option maxRecDepth 100000 in
theorem w_5 : Cond.selects "RingChamber$Tokens" ⟨"RingChamber$Tokens", "readWord", "()V"⟩ ⟨"RingChamber$Tokens", "readWord", "()V"⟩ ∈ TB := tb_p1 (q := (⟨"RingChamber$Tokens", "readWord", "()V"⟩, 11)) (List.mem_of_getElem? (i := 5) rfl) rfl
set_option maxRecDepth 100000 in
theorem w_6 : Cond.selects "RingChamber$Tokens" ⟨"RingChamber$Tokens", "isDigit", "(I)Z"⟩ ⟨"RingChamber$Tokens", "isDigit", "(I)Z"⟩ ∈ TB := tb_p1 (q := (⟨"RingChamber$Tokens", "isDigit", "(I)Z"⟩, 11)) (List.mem_of_getElem? (i := 6) rfl) rfl
set_option maxRecDepth 100000 in
theorem w_7 : Cond.selects "RingChamber$Tokens" ⟨"RingChamber$Tokens", "readNumber", "()V"⟩ ⟨"RingChamber$Tokens", "readNumber", "()V"⟩ ∈ TB := tb_p1 (q := (⟨"RingChamber$Tokens", "readNumber", "()V"⟩, 11)) (List.mem_of_getElem? (i := 7) rfl) rfl
set_option maxRecDepth 100000 in
theorem w_8 : Cond.selects "RingChamber$BookReader" ⟨"RingChamber$BookReader", "takesStage", "()Z"⟩ ⟨"RingChamber$BookReader", "takesStage", "()Z"⟩ ∈ TB := tb_p1 (q := (⟨"RingChamber$BookReader", "takesStage", "()Z"⟩, 12)) (List.mem_of_getElem? (i := 8) rfl) rfl
set_option maxRecDepth 100000 in
theorem w_9 : Cond.selects "RingChamber$BookReader" ⟨"RingChamber$BookReader", "takesMethod", "()Z"⟩ ⟨"RingChamber$BookReader", "takesMethod", "()Z"⟩ ∈ TB := tb_p1 (q := (⟨"RingChamber$BookReader", "takesMethod", "()Z"⟩, 12)) (List.mem_of_getElem? (i := 9) rfl) rfl
set_option maxRecDepth 100000 in
theorem w_10 : Cond.selects "RingChamber$BookReader" ⟨"RingChamber$BookReader", "takesNewName", "()Z"⟩ ⟨"RingChamber$BookReader", "takesNewName", "()Z"⟩ ∈ TB := tb_p1 (q := (⟨"RingChamber$BookReader", "takesNewName", "()Z"⟩, 12)) (List.mem_of_getElem? (i := 10) rfl) rfl
set_option maxRecDepth 100000 in
theorem w_11 : Cond.selects "RingChamber$BookReader" ⟨"RingChamber$BookReader", "takesChanges", "()Z"⟩ ⟨"RingChamber$BookReader", "takesChanges", "()Z"⟩ ∈ TB := tb_p1 (q := (⟨"RingChamber$BookReader", "takesChanges", "()Z"⟩, 12)) (List.mem_of_getElem? (i := 11) rfl) rfl
set_option maxRecDepth 100000 in
theorem w_12 : Cond.selects "RingChamber$BookReader" ⟨"RingChamber$BookReader", "seesPlaces", "()Z"⟩ ⟨"RingChamber$BookReader", "seesPlaces", "()Z"⟩ ∈ TB := tb_p1 (q := (⟨"RingChamber$BookReader", "seesPlaces", "()Z"⟩, 12)) (List.mem_of_getElem? (i := 12) rfl) rfl
set_option maxRecDepth 100000 in
theorem w_13 : Cond.selects "RingChamber$BookReader" ⟨"RingChamber$BookReader", "takesBack", "()Z"⟩ ⟨"RingChamber$BookReader", "takesBack", "()Z"⟩ ∈ TB := tb_p1 (q := (⟨"RingChamber$BookReader", "takesBack", "()Z"⟩, 12)) (List.mem_of_getElem? (i := 13) rfl) rfl
set_option maxRecDepth 100000 in
theorem w_14 : Cond.selects "RingChamber$BookReader" ⟨"RingChamber$BookReader", "takesCall", "(II)Z"⟩ ⟨"RingChamber$BookReader", "takesCall", "(II)Z"⟩ ∈ TB := tb_p1 (q := (⟨"RingChamber$BookReader", "takesCall", "(II)Z"⟩, 12)) (List.mem_of_getElem? (i := 14) rfl) rfl
set_option maxRecDepth 100000 in
theorem w_15 : Cond.selects "RingChamber$BookReader" ⟨"RingChamber$BookReader", "takesRinger", "()Z"⟩ ⟨"RingChamber$BookReader", "takesRinger", "()Z"⟩ ∈ TB := tb_p1 (q := (⟨"RingChamber$BookReader", "takesRinger", "()Z"⟩, 12)) (List.mem_of_getElem? (i := 15) rfl) rfl
set_option maxRecDepth 100000 in
theorem w_16 : Cond.selects "RingChamber" ⟨"RingChamber", "answer", "(I)I"⟩ ⟨"RingChamber", "answer", "(I)I"⟩ ∈ TB := tb_p2 (q := (⟨"RingChamber", "answer", "(I)I"⟩, 17)) (List.mem_of_getElem? (i := 0) rfl) rfl
set_option maxRecDepth 100000 in
theorem w_17 : Cond.selects "RingChamber$TouchReader" ⟨"RingChamber$TouchReader", "takesEnd", "()Z"⟩ ⟨"RingChamber$TouchReader", "takesEnd", "()Z"⟩ ∈ TB := tb_p2 (q := (⟨"RingChamber$TouchReader", "takesEnd", "()Z"⟩, 11)) (List.mem_of_getElem? (i := 1) rfl) rfl
set_option maxRecDepth 100000 in
theorem w_18 : Cond.selects "RingChamber$TouchReader" ⟨"RingChamber$TouchReader", "addLine", "(I)V"⟩ ⟨"RingChamber$TouchReader", "addLine", "(I)V"⟩ ∈ TB := tb_p2 (q := (⟨"RingChamber$TouchReader", "addLine", "(I)V"⟩, 11)) (List.mem_of_getElem? (i := 2) rfl) rfl
set_option maxRecDepth 100000 in
theorem w_19 : Cond.selects "RingChamber$TouchReader" ⟨"RingChamber$TouchReader", "takesStep", "(LRingChamber$Book;)Z"⟩ ⟨"RingChamber$TouchReader", "takesStep", "(LRingChamber$Book;)Z"⟩ ∈ TB := tb_p2 (q := (⟨"RingChamber$TouchReader", "takesStep", "(LRingChamber$Book;)Z"⟩, 11)) (List.mem_of_getElem? (i := 3) rfl) rfl
set_option maxRecDepth 100000 in
theorem w_20 : Cond.selects "RingChamber$TouchReader" ⟨"RingChamber$TouchReader", "takesCount", "(I)Z"⟩ ⟨"RingChamber$TouchReader", "takesCount", "(I)Z"⟩ ∈ TB := tb_p2 (q := (⟨"RingChamber$TouchReader", "takesCount", "(I)Z"⟩, 11)) (List.mem_of_getElem? (i := 4) rfl) rfl
set_option maxRecDepth 100000 in
theorem w_21 : Cond.selects "RingChamber$TouchReader" ⟨"RingChamber$TouchReader", "takesMethodName", "(LRingChamber$Book;)Z"⟩ ⟨"RingChamber$TouchReader", "takesMethodName", "(LRingChamber$Book;)Z"⟩ ∈ TB := tb_p2 (q := (⟨"RingChamber$TouchReader", "takesMethodName", "(LRingChamber$Book;)Z"⟩, 11)) (List.mem_of_getElem? (i := 5) rfl) rfl
set_option maxRecDepth 100000 in
theorem w_22 : Cond.selects "RingChamber$TouchReader" ⟨"RingChamber$TouchReader", "lastCount", "()I"⟩ ⟨"RingChamber$TouchReader", "lastCount", "()I"⟩ ∈ TB := tb_p2 (q := (⟨"RingChamber$TouchReader", "lastCount", "()I"⟩, 11)) (List.mem_of_getElem? (i := 6) rfl) rfl
set_option maxRecDepth 100000 in
theorem w_23 : Cond.selects "RingChamber$TouchReader" ⟨"RingChamber$TouchReader", "behindEnd", "(I)I"⟩ ⟨"RingChamber$TouchReader", "behindEnd", "(I)I"⟩ ∈ TB := tb_p2 (q := (⟨"RingChamber$TouchReader", "behindEnd", "(I)I"⟩, 11)) (List.mem_of_getElem? (i := 7) rfl) rfl
set_option maxRecDepth 100000 in
theorem w_24 : Cond.selects "RingChamber$TouchReader" ⟨"RingChamber$TouchReader", "beginLoop", "(I)V"⟩ ⟨"RingChamber$TouchReader", "beginLoop", "(I)V"⟩ ∈ TB := tb_p2 (q := (⟨"RingChamber$TouchReader", "beginLoop", "(I)V"⟩, 11)) (List.mem_of_getElem? (i := 8) rfl) rfl
set_option maxRecDepth 100000 in
theorem w_25 : Cond.selects "RingChamber$TouchReader" ⟨"RingChamber$TouchReader", "ringLead", "(I)V"⟩ ⟨"RingChamber$TouchReader", "ringLead", "(I)V"⟩ ∈ TB := tb_p2 (q := (⟨"RingChamber$TouchReader", "ringLead", "(I)V"⟩, 11)) (List.mem_of_getElem? (i := 9) rfl) rfl
set_option maxRecDepth 100000 in
theorem w_26 : Cond.selects "RingChamber" ⟨"RingChamber", "isRow", "(I)Z"⟩ ⟨"RingChamber", "isRow", "(I)Z"⟩ ∈ TB := tb_p2 (q := (⟨"RingChamber", "isRow", "(I)Z"⟩, 17)) (List.mem_of_getElem? (i := 10) rfl) rfl
set_option maxRecDepth 100000 in
theorem w_27 : Cond.selects "RingChamber" ⟨"RingChamber", "isBell", "(I)Z"⟩ ⟨"RingChamber", "isBell", "(I)Z"⟩ ∈ TB := tb_p2 (q := (⟨"RingChamber", "isBell", "(I)Z"⟩, 17)) (List.mem_of_getElem? (i := 11) rfl) rfl
set_option maxRecDepth 100000 in
theorem w_28 : Cond.selects "RingChamber" ⟨"RingChamber", "packed", "(I)I"⟩ ⟨"RingChamber", "packed", "(I)I"⟩ ∈ TB := tb_p2 (q := (⟨"RingChamber", "packed", "(I)I"⟩, 17)) (List.mem_of_getElem? (i := 12) rfl) rfl
set_option maxRecDepth 100000 in
theorem w_29 : Cond.selects "RingChamber" ⟨"RingChamber", "whyNoBells", "(II)I"⟩ ⟨"RingChamber", "whyNoBells", "(II)I"⟩ ∈ TB := tb_p2 (q := (⟨"RingChamber", "whyNoBells", "(II)I"⟩, 17)) (List.mem_of_getElem? (i := 13) rfl) rfl
set_option maxRecDepth 100000 in
theorem w_30 : Cond.selects "RingChamber" ⟨"RingChamber", "numbered", "(I)I"⟩ ⟨"RingChamber", "numbered", "(I)I"⟩ ∈ TB := tb_p2 (q := (⟨"RingChamber", "numbered", "(I)I"⟩, 17)) (List.mem_of_getElem? (i := 14) rfl) rfl
set_option maxRecDepth 100000 in
theorem w_31 : Cond.selects "RingChamber" ⟨"RingChamber", "isMethod", "(I)Z"⟩ ⟨"RingChamber", "isMethod", "(I)Z"⟩ ∈ TB := tb_p2 (q := (⟨"RingChamber", "isMethod", "(I)Z"⟩, 17)) (List.mem_of_getElem? (i := 15) rfl) rfl
set_option maxRecDepth 100000 in
theorem w_32 : Cond.selects "RingChamber" ⟨"RingChamber", "whyNotRung", "(I)I"⟩ ⟨"RingChamber", "whyNotRung", "(I)I"⟩ ∈ TB := tb_p3 (q := (⟨"RingChamber", "whyNotRung", "(I)I"⟩, 17)) (List.mem_of_getElem? (i := 0) rfl) rfl
set_option maxRecDepth 100000 in
theorem w_33 : Cond.selects "RingChamber$Touch" ⟨"RingChamber$Touch", "nextLike", "(I)I"⟩ ⟨"RingChamber$Touch", "nextLike", "(I)I"⟩ ∈ TB := tb_p3 (q := (⟨"RingChamber$Touch", "nextLike", "(I)I"⟩, 4)) (List.mem_of_getElem? (i := 1) rfl) rfl
set_option maxRecDepth 100000 in
theorem w_34 : Cond.selects "RingChamber$Touch" ⟨"RingChamber$Touch", "silentLast", "(II)I"⟩ ⟨"RingChamber$Touch", "silentLast", "(II)I"⟩ ∈ TB := tb_p3 (q := (⟨"RingChamber$Touch", "silentLast", "(II)I"⟩, 4)) (List.mem_of_getElem? (i := 2) rfl) rfl
set_option maxRecDepth 100000 in
theorem w_35 : Cond.selects "RingChamber" ⟨"RingChamber", "tellFraction", "(II)V"⟩ ⟨"RingChamber", "tellFraction", "(II)V"⟩ ∈ TB := tb_p3 (q := (⟨"RingChamber", "tellFraction", "(II)V"⟩, 17)) (List.mem_of_getElem? (i := 3) rfl) rfl
set_option maxRecDepth 100000 in
theorem w_36 : Cond.selects "RingChamber$Search" ⟨"RingChamber$Search", "gatherHeads", "(LRingChamber$Book;)V"⟩ ⟨"RingChamber$Search", "gatherHeads", "(LRingChamber$Book;)V"⟩ ∈ TB := tb_p3 (q := (⟨"RingChamber$Search", "gatherHeads", "(LRingChamber$Book;)V"⟩, 9)) (List.mem_of_getElem? (i := 4) rfl) rfl
set_option maxRecDepth 100000 in
theorem w_37 : Cond.selects "RingChamber$Search" ⟨"RingChamber$Search", "isTried", "(I)Z"⟩ ⟨"RingChamber$Search", "isTried", "(I)Z"⟩ ∈ TB := tb_p3 (q := (⟨"RingChamber$Search", "isTried", "(I)Z"⟩, 9)) (List.mem_of_getElem? (i := 5) rfl) rfl
set_option maxRecDepth 100000 in
theorem w_38 : Cond.selects "RingChamber$Search" ⟨"RingChamber$Search", "keepFound", "(IIII)V"⟩ ⟨"RingChamber$Search", "keepFound", "(IIII)V"⟩ ∈ TB := tb_p3 (q := (⟨"RingChamber$Search", "keepFound", "(IIII)V"⟩, 9)) (List.mem_of_getElem? (i := 6) rfl) rfl
set_option maxRecDepth 100000 in
theorem w_39 : Cond.selects "RingChamber$Search" ⟨"RingChamber$Search", "spread", "(II)V"⟩ ⟨"RingChamber$Search", "spread", "(II)V"⟩ ∈ TB := tb_p3 (q := (⟨"RingChamber$Search", "spread", "(II)V"⟩, 9)) (List.mem_of_getElem? (i := 7) rfl) rfl
set_option maxRecDepth 100000 in
theorem w_40 : Cond.selects "RingChamber$Search" ⟨"RingChamber$Search", "rowAhead", "(I)I"⟩ ⟨"RingChamber$Search", "rowAhead", "(I)I"⟩ ∈ TB := tb_p3 (q := (⟨"RingChamber$Search", "rowAhead", "(I)I"⟩, 9)) (List.mem_of_getElem? (i := 8) rfl) rfl
set_option maxRecDepth 100000 in
theorem w_41 : Cond.selects "RingChamber$Composer" ⟨"RingChamber$Composer", "tryCalls", "(ILRingChamber$Method;IILRingChamber$Stamps;)V"⟩ ⟨"RingChamber$Composer", "tryCalls", "(ILRingChamber$Method;IILRingChamber$Stamps;)V"⟩ ∈ TB := tb_p3 (q := (⟨"RingChamber$Composer", "tryCalls", "(ILRingChamber$Method;IILRingChamber$Stamps;)V"⟩, 6)) (List.mem_of_getElem? (i := 9) rfl) rfl
set_option maxRecDepth 100000 in
theorem w_42 : Cond.selects "RingChamber$Composer" ⟨"RingChamber$Composer", "begin", "(III)V"⟩ ⟨"RingChamber$Composer", "begin", "(III)V"⟩ ∈ TB := tb_p3 (q := (⟨"RingChamber$Composer", "begin", "(III)V"⟩, 6)) (List.mem_of_getElem? (i := 10) rfl) rfl
set_option maxRecDepth 100000 in
theorem w_43 : Cond.selects "RingChamber$Composer" ⟨"RingChamber$Composer", "isFalse", "(IIILRingChamber$Stamps;)Z"⟩ ⟨"RingChamber$Composer", "isFalse", "(IIILRingChamber$Stamps;)Z"⟩ ∈ TB := tb_p3 (q := (⟨"RingChamber$Composer", "isFalse", "(IIILRingChamber$Stamps;)Z"⟩, 6)) (List.mem_of_getElem? (i := 11) rfl) rfl
set_option maxRecDepth 100000 in
theorem w_44 : Cond.selects "RingChamber$Composer" ⟨"RingChamber$Composer", "keep", "(I)V"⟩ ⟨"RingChamber$Composer", "keep", "(I)V"⟩ ∈ TB := tb_p3 (q := (⟨"RingChamber$Composer", "keep", "(I)V"⟩, 6)) (List.mem_of_getElem? (i := 12) rfl) rfl
set_option maxRecDepth 100000 in
theorem w_45 : Cond.selects "RingChamberModel" ⟨"RingChamberModel", "is", "(I)Z"⟩ ⟨"RingChamberModel", "is", "(I)Z"⟩ ∈ TB := tb_p3 (q := (⟨"RingChamberModel", "is", "(I)Z"⟩, 51)) (List.mem_of_getElem? (i := 13) rfl) rfl
set_option maxRecDepth 100000 in
theorem w_46 : Cond.selects "RingChamberModel" ⟨"RingChamberModel", "wrongPlace", "(II)I"⟩ ⟨"RingChamberModel", "wrongPlace", "(II)I"⟩ ∈ TB := tb_p3 (q := (⟨"RingChamberModel", "wrongPlace", "(II)I"⟩, 51)) (List.mem_of_getElem? (i := 14) rfl) rfl
set_option maxRecDepth 100000 in
theorem w_47 : Cond.selects "RingChamberModel" ⟨"RingChamberModel", "four", "(I)V"⟩ ⟨"RingChamberModel", "four", "(I)V"⟩ ∈ TB := tb_p3 (q := (⟨"RingChamberModel", "four", "(I)V"⟩, 51)) (List.mem_of_getElem? (i := 15) rfl) rfl
set_option maxRecDepth 100000 in
theorem w_48 : Cond.selects "RingChamberModel" ⟨"RingChamberModel", "begins", "(II)Z"⟩ ⟨"RingChamberModel", "begins", "(II)Z"⟩ ∈ TB := tb_p4 (q := (⟨"RingChamberModel", "begins", "(II)Z"⟩, 51)) (List.mem_of_getElem? (i := 0) rfl) rfl
set_option maxRecDepth 100000 in
theorem w_49 : Cond.selects "RingChamberModel" ⟨"RingChamberModel", "ahead", "()V"⟩ ⟨"RingChamberModel", "ahead", "()V"⟩ ∈ TB := tb_p4 (q := (⟨"RingChamberModel", "ahead", "()V"⟩, 51)) (List.mem_of_getElem? (i := 1) rfl) rfl
set_option maxRecDepth 100000 in
theorem w_50 : Cond.selects "RingChamberModel" ⟨"RingChamberModel", "byteAt", "(I)I"⟩ ⟨"RingChamberModel", "byteAt", "(I)I"⟩ ∈ TB := tb_p4 (q := (⟨"RingChamberModel", "byteAt", "(I)I"⟩, 51)) (List.mem_of_getElem? (i := 2) rfl) rfl
set_option maxRecDepth 100000 in
theorem w_51 : Cond.selects "RingChamberModel" ⟨"RingChamberModel", "refuse", "(I)I"⟩ ⟨"RingChamberModel", "refuse", "(I)I"⟩ ∈ TB := tb_p4 (q := (⟨"RingChamberModel", "refuse", "(I)I"⟩, 51)) (List.mem_of_getElem? (i := 3) rfl) rfl
set_option maxRecDepth 100000 in
theorem w_52 : Cond.selects "RingChamberModel" ⟨"RingChamberModel", "wantWord", "(Ljava/lang/String;I)Z"⟩ ⟨"RingChamberModel", "wantWord", "(Ljava/lang/String;I)Z"⟩ ∈ TB := tb_p4 (q := (⟨"RingChamberModel", "wantWord", "(Ljava/lang/String;I)Z"⟩, 51)) (List.mem_of_getElem? (i := 4) rfl) rfl
set_option maxRecDepth 100000 in
theorem w_53 : Cond.selects "RingChamberModel" ⟨"RingChamberModel", "inWords", "(Ljava/lang/String;)I"⟩ ⟨"RingChamberModel", "inWords", "(Ljava/lang/String;)I"⟩ ∈ TB := tb_p4 (q := (⟨"RingChamberModel", "inWords", "(Ljava/lang/String;)I"⟩, 51)) (List.mem_of_getElem? (i := 5) rfl) rfl
set_option maxRecDepth 100000 in
theorem w_54 : Cond.selects "RingChamberModel" ⟨"RingChamberModel", "fails", "(I)Z"⟩ ⟨"RingChamberModel", "fails", "(I)Z"⟩ ∈ TB := tb_p4 (q := (⟨"RingChamberModel", "fails", "(I)Z"⟩, 51)) (List.mem_of_getElem? (i := 6) rfl) rfl
set_option maxRecDepth 100000 in
theorem w_55 : Cond.selects "RingChamberModel" ⟨"RingChamberModel", "numberTo", "(III)Z"⟩ ⟨"RingChamberModel", "numberTo", "(III)Z"⟩ ∈ TB := tb_p4 (q := (⟨"RingChamberModel", "numberTo", "(III)Z"⟩, 51)) (List.mem_of_getElem? (i := 7) rfl) rfl
set_option maxRecDepth 100000 in
theorem w_56 : Cond.selects "RingChamberModel" ⟨"RingChamberModel", "wantSign", "(I)Z"⟩ ⟨"RingChamberModel", "wantSign", "(I)Z"⟩ ∈ TB := tb_p4 (q := (⟨"RingChamberModel", "wantSign", "(I)Z"⟩, 51)) (List.mem_of_getElem? (i := 8) rfl) rfl
set_option maxRecDepth 100000 in
theorem w_57 : Cond.selects "RingChamberModel" ⟨"RingChamberModel", "isSign", "(I)Z"⟩ ⟨"RingChamberModel", "isSign", "(I)Z"⟩ ∈ TB := tb_p4 (q := (⟨"RingChamberModel", "isSign", "(I)Z"⟩, 51)) (List.mem_of_getElem? (i := 9) rfl) rfl
set_option maxRecDepth 100000 in
theorem w_58 : Cond.selects "RingChamberModel" ⟨"RingChamberModel", "bookPart", "()Z"⟩ ⟨"RingChamberModel", "bookPart", "()Z"⟩ ∈ TB := tb_p4 (q := (⟨"RingChamberModel", "bookPart", "()Z"⟩, 51)) (List.mem_of_getElem? (i := 10) rfl) rfl
set_option maxRecDepth 100000 in
theorem w_59 : Cond.selects "RingChamberModel" ⟨"RingChamberModel", "aMethod", "()Z"⟩ ⟨"RingChamberModel", "aMethod", "()Z"⟩ ∈ TB := tb_p4 (q := (⟨"RingChamberModel", "aMethod", "()Z"⟩, 51)) (List.mem_of_getElem? (i := 11) rfl) rfl
set_option maxRecDepth 100000 in
theorem w_60 : Cond.selects "RingChamberModel" ⟨"RingChamberModel", "newName", "(I)Z"⟩ ⟨"RingChamberModel", "newName", "(I)Z"⟩ ∈ TB := tb_p4 (q := (⟨"RingChamberModel", "newName", "(I)Z"⟩, 51)) (List.mem_of_getElem? (i := 12) rfl) rfl
set_option maxRecDepth 100000 in
theorem w_61 : Cond.selects "RingChamberModel" ⟨"RingChamberModel", "isName", "(Ljava/lang/String;)Z"⟩ ⟨"RingChamberModel", "isName", "(Ljava/lang/String;)Z"⟩ ∈ TB := tb_p4 (q := (⟨"RingChamberModel", "isName", "(Ljava/lang/String;)Z"⟩, 51)) (List.mem_of_getElem? (i := 13) rfl) rfl
set_option maxRecDepth 100000 in
theorem w_62 : Cond.selects "RingChamberModel" ⟨"RingChamberModel", "findHere", "(II)I"⟩ ⟨"RingChamberModel", "findHere", "(II)I"⟩ ∈ TB := tb_p4 (q := (⟨"RingChamberModel", "findHere", "(II)I"⟩, 51)) (List.mem_of_getElem? (i := 14) rfl) rfl
set_option maxRecDepth 100000 in
theorem w_63 : Cond.selects "RingChamberModel" ⟨"RingChamberModel", "nameHere", "()J"⟩ ⟨"RingChamberModel", "nameHere", "()J"⟩ ∈ TB := tb_p4 (q := (⟨"RingChamberModel", "nameHere", "()J"⟩, 51)) (List.mem_of_getElem? (i := 15) rfl) rfl
set_option maxRecDepth 100000 in
theorem w_64 : Cond.selects "RingChamberModel" ⟨"RingChamberModel", "isPlaces", "()Z"⟩ ⟨"RingChamberModel", "isPlaces", "()Z"⟩ ∈ TB := tb_p5 (q := (⟨"RingChamberModel", "isPlaces", "()Z"⟩, 51)) (List.mem_of_getElem? (i := 0) rfl) rfl
set_option maxRecDepth 100000 in
theorem w_65 : Cond.selects "RingChamberModel" ⟨"RingChamberModel", "placesHere", "()I"⟩ ⟨"RingChamberModel", "placesHere", "()I"⟩ ∈ TB := tb_p5 (q := (⟨"RingChamberModel", "placesHere", "()I"⟩, 51)) (List.mem_of_getElem? (i := 1) rfl) rfl
set_option maxRecDepth 100000 in
theorem w_66 : Cond.selects "RingChamberModel" ⟨"RingChamberModel", "placesTo", "(I)Z"⟩ ⟨"RingChamberModel", "placesTo", "(I)Z"⟩ ∈ TB := tb_p5 (q := (⟨"RingChamberModel", "placesTo", "(I)Z"⟩, 51)) (List.mem_of_getElem? (i := 2) rfl) rfl
set_option maxRecDepth 100000 in
theorem w_67 : Cond.selects "RingChamberModel" ⟨"RingChamberModel", "aRinger", "()Z"⟩ ⟨"RingChamberModel", "aRinger", "()Z"⟩ ∈ TB := tb_p5 (q := (⟨"RingChamberModel", "aRinger", "()Z"⟩, 51)) (List.mem_of_getElem? (i := 3) rfl) rfl
set_option maxRecDepth 100000 in
theorem w_68 : Cond.selects "RingChamberModel" ⟨"RingChamberModel", "taken", "(I)I"⟩ ⟨"RingChamberModel", "taken", "(I)I"⟩ ∈ TB := tb_p5 (q := (⟨"RingChamberModel", "taken", "(I)I"⟩, 51)) (List.mem_of_getElem? (i := 4) rfl) rfl
set_option maxRecDepth 100000 in
theorem w_69 : Cond.selects "RingChamberModel" ⟨"RingChamberModel", "gives", "(I)I"⟩ ⟨"RingChamberModel", "gives", "(I)I"⟩ ∈ TB := tb_p5 (q := (⟨"RingChamberModel", "gives", "(I)I"⟩, 51)) (List.mem_of_getElem? (i := 5) rfl) rfl
set_option maxRecDepth 100000 in
theorem w_70 : Cond.selects "RingChamberModel" ⟨"RingChamberModel", "step", "()Z"⟩ ⟨"RingChamberModel", "step", "()Z"⟩ ∈ TB := tb_p5 (q := (⟨"RingChamberModel", "step", "()Z"⟩, 51)) (List.mem_of_getElem? (i := 6) rfl) rfl
set_option maxRecDepth 100000 in
theorem w_71 : Cond.selects "RingChamberModel" ⟨"RingChamberModel", "aLead", "(I)Z"⟩ ⟨"RingChamberModel", "aLead", "(I)Z"⟩ ∈ TB := tb_p5 (q := (⟨"RingChamberModel", "aLead", "(I)Z"⟩, 51)) (List.mem_of_getElem? (i := 7) rfl) rfl
set_option maxRecDepth 100000 in
theorem w_72 : Cond.selects "RingChamberModel" ⟨"RingChamberModel", "rowsMany", "()I"⟩ ⟨"RingChamberModel", "rowsMany", "()I"⟩ ∈ TB := tb_p5 (q := (⟨"RingChamberModel", "rowsMany", "()I"⟩, 51)) (List.mem_of_getElem? (i := 8) rfl) rfl
set_option maxRecDepth 100000 in
theorem w_73 : Cond.selects "RingChamberModel" ⟨"RingChamberModel", "orNone", "(I)I"⟩ ⟨"RingChamberModel", "orNone", "(I)I"⟩ ∈ TB := tb_p5 (q := (⟨"RingChamberModel", "orNone", "(I)I"⟩, 51)) (List.mem_of_getElem? (i := 9) rfl) rfl
set_option maxRecDepth 100000 in
theorem w_74 : Cond.selects "RingChamberModel" ⟨"RingChamberModel", "isRow", "(I)Z"⟩ ⟨"RingChamberModel", "isRow", "(I)Z"⟩ ∈ TB := tb_p5 (q := (⟨"RingChamberModel", "isRow", "(I)Z"⟩, 51)) (List.mem_of_getElem? (i := 10) rfl) rfl
set_option maxRecDepth 100000 in
theorem w_75 : Cond.selects "RingChamberModel" ⟨"RingChamberModel", "isBell", "(I)Z"⟩ ⟨"RingChamberModel", "isBell", "(I)Z"⟩ ∈ TB := tb_p5 (q := (⟨"RingChamberModel", "isBell", "(I)Z"⟩, 51)) (List.mem_of_getElem? (i := 11) rfl) rfl
set_option maxRecDepth 100000 in
theorem w_76 : Cond.selects "RingChamberModel" ⟨"RingChamberModel", "laysRow", "(I[I)V"⟩ ⟨"RingChamberModel", "laysRow", "(I[I)V"⟩ ∈ TB := tb_p5 (q := (⟨"RingChamberModel", "laysRow", "(I[I)V"⟩, 51)) (List.mem_of_getElem? (i := 12) rfl) rfl
set_option maxRecDepth 100000 in
theorem w_77 : Cond.selects "RingChamberModel" ⟨"RingChamberModel", "numberOf", "([I)I"⟩ ⟨"RingChamberModel", "numberOf", "([I)I"⟩ ∈ TB := tb_p5 (q := (⟨"RingChamberModel", "numberOf", "([I)I"⟩, 51)) (List.mem_of_getElem? (i := 13) rfl) rfl
set_option maxRecDepth 100000 in
theorem w_78 : Cond.selects "RingChamberModel" ⟨"RingChamberModel", "productOf", "(II)I"⟩ ⟨"RingChamberModel", "productOf", "(II)I"⟩ ∈ TB := tb_p5 (q := (⟨"RingChamberModel", "productOf", "(II)I"⟩, 51)) (List.mem_of_getElem? (i := 14) rfl) rfl
set_option maxRecDepth 100000 in
theorem w_79 : Cond.selects "RingChamberModel" ⟨"RingChamberModel", "inverseOf", "(I)I"⟩ ⟨"RingChamberModel", "inverseOf", "(I)I"⟩ ∈ TB := tb_p5 (q := (⟨"RingChamberModel", "inverseOf", "(I)I"⟩, 51)) (List.mem_of_getElem? (i := 15) rfl) rfl
set_option maxRecDepth 100000 in
theorem w_80 : Cond.selects "RingChamberModel" ⟨"RingChamberModel", "orderOf", "(I)I"⟩ ⟨"RingChamberModel", "orderOf", "(I)I"⟩ ∈ TB := tb_p6 (q := (⟨"RingChamberModel", "orderOf", "(I)I"⟩, 51)) (List.mem_of_getElem? (i := 0) rfl) rfl
set_option maxRecDepth 100000 in
theorem w_81 : Cond.selects "RingChamberModel" ⟨"RingChamberModel", "isEven", "(I)Z"⟩ ⟨"RingChamberModel", "isEven", "(I)Z"⟩ ∈ TB := tb_p6 (q := (⟨"RingChamberModel", "isEven", "(I)Z"⟩, 51)) (List.mem_of_getElem? (i := 1) rfl) rfl
set_option maxRecDepth 100000 in
theorem w_82 : Cond.selects "RingChamberModel" ⟨"RingChamberModel", "placesOf", "(I)I"⟩ ⟨"RingChamberModel", "placesOf", "(I)I"⟩ ∈ TB := tb_p6 (q := (⟨"RingChamberModel", "placesOf", "(I)I"⟩, 51)) (List.mem_of_getElem? (i := 2) rfl) rfl
set_option maxRecDepth 100000 in
theorem w_83 : Cond.selects "RingChamberModel" ⟨"RingChamberModel", "changes0", "(IZ)V"⟩ ⟨"RingChamberModel", "changes0", "(IZ)V"⟩ ∈ TB := tb_p6 (q := (⟨"RingChamberModel", "changes0", "(IZ)V"⟩, 51)) (List.mem_of_getElem? (i := 3) rfl) rfl
set_option maxRecDepth 100000 in
theorem w_84 : Cond.selects "RingChamberModel" ⟨"RingChamberModel", "staysIn", "(II)I"⟩ ⟨"RingChamberModel", "staysIn", "(II)I"⟩ ∈ TB := tb_p6 (q := (⟨"RingChamberModel", "staysIn", "(II)I"⟩, 51)) (List.mem_of_getElem? (i := 4) rfl) rfl
set_option maxRecDepth 100000 in
theorem w_85 : Cond.selects "RingChamberModel" ⟨"RingChamberModel", "numberOfPlaces", "(I)I"⟩ ⟨"RingChamberModel", "numberOfPlaces", "(I)I"⟩ ∈ TB := tb_p6 (q := (⟨"RingChamberModel", "numberOfPlaces", "(I)I"⟩, 51)) (List.mem_of_getElem? (i := 5) rfl) rfl
set_option maxRecDepth 100000 in
theorem w_86 : Cond.selects "RingChamberModel" ⟨"RingChamberModel", "isMethod", "(I)Z"⟩ ⟨"RingChamberModel", "isMethod", "(I)Z"⟩ ∈ TB := tb_p6 (q := (⟨"RingChamberModel", "isMethod", "(I)Z"⟩, 51)) (List.mem_of_getElem? (i := 6) rfl) rfl
set_option maxRecDepth 100000 in
theorem w_87 : Cond.selects "RingChamberModel" ⟨"RingChamberModel", "changesOf", "(I)I"⟩ ⟨"RingChamberModel", "changesOf", "(I)I"⟩ ∈ TB := tb_p6 (q := (⟨"RingChamberModel", "changesOf", "(I)I"⟩, 51)) (List.mem_of_getElem? (i := 7) rfl) rfl
set_option maxRecDepth 100000 in
theorem w_88 : Cond.selects "RingChamberModel" ⟨"RingChamberModel", "changeOf", "(III)I"⟩ ⟨"RingChamberModel", "changeOf", "(III)I"⟩ ∈ TB := tb_p6 (q := (⟨"RingChamberModel", "changeOf", "(III)I"⟩, 51)) (List.mem_of_getElem? (i := 8) rfl) rfl
set_option maxRecDepth 100000 in
theorem w_89 : Cond.selects "RingChamberModel" ⟨"RingChamberModel", "leadFrom", "(III)I"⟩ ⟨"RingChamberModel", "leadFrom", "(III)I"⟩ ∈ TB := tb_p6 (q := (⟨"RingChamberModel", "leadFrom", "(III)I"⟩, 51)) (List.mem_of_getElem? (i := 9) rfl) rfl
set_option maxRecDepth 100000 in
theorem w_90 : Cond.selects "RingChamberModel" ⟨"RingChamberModel", "laysLead", "(I)V"⟩ ⟨"RingChamberModel", "laysLead", "(I)V"⟩ ∈ TB := tb_p6 (q := (⟨"RingChamberModel", "laysLead", "(I)V"⟩, 51)) (List.mem_of_getElem? (i := 10) rfl) rfl
set_option maxRecDepth 100000 in
theorem w_91 : Cond.selects "RingChamberModel" ⟨"RingChamberModel", "marksFalse", "(I)I"⟩ ⟨"RingChamberModel", "marksFalse", "(I)I"⟩ ∈ TB := tb_p6 (q := (⟨"RingChamberModel", "marksFalse", "(I)I"⟩, 51)) (List.mem_of_getElem? (i := 11) rfl) rfl
set_option maxRecDepth 100000 in
theorem w_92 : Cond.selects "RingChamberModel" ⟨"RingChamberModel", "ringsAll", "(II)V"⟩ ⟨"RingChamberModel", "ringsAll", "(II)V"⟩ ∈ TB := tb_p6 (q := (⟨"RingChamberModel", "ringsAll", "(II)V"⟩, 51)) (List.mem_of_getElem? (i := 12) rfl) rfl
set_option maxRecDepth 100000 in
theorem w_93 : Cond.selects "RingChamberModel" ⟨"RingChamberModel", "rings", "(III)Z"⟩ ⟨"RingChamberModel", "rings", "(III)Z"⟩ ∈ TB := tb_p6 (q := (⟨"RingChamberModel", "rings", "(III)Z"⟩, 51)) (List.mem_of_getElem? (i := 13) rfl) rfl
set_option maxRecDepth 100000 in
theorem w_94 : Cond.selects "RingChamberModel" ⟨"RingChamberModel", "strays", "(I)Z"⟩ ⟨"RingChamberModel", "strays", "(I)Z"⟩ ∈ TB := tb_p6 (q := (⟨"RingChamberModel", "strays", "(I)Z"⟩, 51)) (List.mem_of_getElem? (i := 14) rfl) rfl
set_option maxRecDepth 100000 in
theorem w_95 : Cond.selects "RingChamberModel" ⟨"RingChamberModel", "behindEnds", "(I)I"⟩ ⟨"RingChamberModel", "behindEnds", "(I)I"⟩ ∈ TB := tb_p6 (q := (⟨"RingChamberModel", "behindEnds", "(I)I"⟩, 51)) (List.mem_of_getElem? (i := 15) rfl) rfl
set_option maxRecDepth 100000 in
theorem w_96 : Cond.selects "RingChamberModel" ⟨"RingChamberModel", "findsLikes", "()V"⟩ ⟨"RingChamberModel", "findsLikes", "()V"⟩ ∈ TB := tb_p7 (q := (⟨"RingChamberModel", "findsLikes", "()V"⟩, 51)) (List.mem_of_getElem? (i := 0) rfl) rfl
set_option maxRecDepth 100000 in
theorem w_97 : Cond.selects "RingChamberModel" ⟨"RingChamberModel", "placeIn", "(II)I"⟩ ⟨"RingChamberModel", "placeIn", "(II)I"⟩ ∈ TB := tb_p7 (q := (⟨"RingChamberModel", "placeIn", "(II)I"⟩, 51)) (List.mem_of_getElem? (i := 1) rfl) rfl
set_option maxRecDepth 100000 in
theorem w_98 : Cond.selects "RingChamberModel" ⟨"RingChamberModel", "isRun", "(III)Z"⟩ ⟨"RingChamberModel", "isRun", "(III)Z"⟩ ∈ TB := tb_p7 (q := (⟨"RingChamberModel", "isRun", "(III)Z"⟩, 51)) (List.mem_of_getElem? (i := 2) rfl) rfl
set_option maxRecDepth 100000 in
theorem w_99 : Cond.selects "RingChamberModel" ⟨"RingChamberModel", "heardOf", "(I)I"⟩ ⟨"RingChamberModel", "heardOf", "(I)I"⟩ ∈ TB := tb_p7 (q := (⟨"RingChamberModel", "heardOf", "(I)I"⟩, 51)) (List.mem_of_getElem? (i := 3) rfl) rfl
set_option maxRecDepth 100000 in
theorem w_100 : Cond.selects "RingChamberModel" ⟨"RingChamberModel", "tellsBy", "(JJ)Z"⟩ ⟨"RingChamberModel", "tellsBy", "(JJ)Z"⟩ ∈ TB := tb_p7 (q := (⟨"RingChamberModel", "tellsBy", "(JJ)Z"⟩, 51)) (List.mem_of_getElem? (i := 4) rfl) rfl
set_option maxRecDepth 100000 in
theorem w_101 : Cond.selects "RingChamberModel" ⟨"RingChamberModel", "findsAll", "()V"⟩ ⟨"RingChamberModel", "findsAll", "()V"⟩ ∈ TB := tb_p7 (q := (⟨"RingChamberModel", "findsAll", "()V"⟩, 51)) (List.mem_of_getElem? (i := 5) rfl) rfl
set_option maxRecDepth 100000 in
theorem w_102 : Cond.selects "RingChamberModel" ⟨"RingChamberModel", "ringsLead", "(II)Z"⟩ ⟨"RingChamberModel", "ringsLead", "(II)Z"⟩ ∈ TB := tb_p7 (q := (⟨"RingChamberModel", "ringsLead", "(II)Z"⟩, 51)) (List.mem_of_getElem? (i := 6) rfl) rfl
set_option maxRecDepth 100000 in
theorem w_103 : Cond.selects "RingChamberModel" ⟨"RingChamberModel", "copies", "(II)V"⟩ ⟨"RingChamberModel", "copies", "(II)V"⟩ ∈ TB := tb_p7 (q := (⟨"RingChamberModel", "copies", "(II)V"⟩, 51)) (List.mem_of_getElem? (i := 7) rfl) rfl
set_option maxRecDepth 100000 in
theorem w_105 : Cond.initialized "RingChamber" ∈ TB := tb_t1 (List.mem_of_getElem? (i := 1) rfl) rfl
set_option maxRecDepth 100000 in
theorem w_106 : Cond.initialized "RingChamber$Tokens" ∈ TB := tb_t1 (List.mem_of_getElem? (i := 2) rfl) rfl
set_option maxRecDepth 100000 in
theorem w_111 : Cond.initialized "RingChamber$BookReader" ∈ TB := tb_t1 (List.mem_of_getElem? (i := 7) rfl) rfl
set_option maxRecDepth 100000 in
theorem w_112 : Cond.initialized "RingChamber$TouchReader" ∈ TB := tb_t1 (List.mem_of_getElem? (i := 8) rfl) rfl
set_option maxRecDepth 100000 in
theorem w_113 : Cond.initialized "RingChamber$Book" ∈ TB := tb_t1 (List.mem_of_getElem? (i := 9) rfl) rfl
set_option maxRecDepth 100000 in
theorem w_114 : Cond.initialized "RingChamber$Rows" ∈ TB := tb_t1 (List.mem_of_getElem? (i := 10) rfl) rfl
set_option maxRecDepth 100000 in
theorem w_115 : Cond.initialized "RingChamber$Stamps" ∈ TB := tb_t1 (List.mem_of_getElem? (i := 11) rfl) rfl
set_option maxRecDepth 100000 in
theorem w_116 : Cond.initialized "RingChamber$Search" ∈ TB := tb_t1 (List.mem_of_getElem? (i := 12) rfl) rfl
set_option maxRecDepth 100000 in
theorem w_117 : Cond.initialized "RingChamber$Composer" ∈ TB := tb_t1 (List.mem_of_getElem? (i := 13) rfl) rfl
set_option maxRecDepth 100000 in
theorem w_118 : Cond.initialized "RingChamberModel" ∈ TB := tb_t1 (List.mem_of_getElem? (i := 14) rfl) rfl
set_option maxRecDepth 100000 in
theorem w_119 : Cond.initialized "RingChamber$Tray" ∈ TB := tb_t1 (List.mem_of_getElem? (i := 15) rfl) rfl
set_option maxRecDepth 100000 in
theorem w_120 : Cond.initialized "java/lang/System" ∈ TB := tb_t1 (List.mem_of_getElem? (i := 16) rfl) rfl
set_option maxRecDepth 100000 in
theorem w_121 : Cond.initialized "java/lang/Math" ∈ TB := tb_t1 (List.mem_of_getElem? (i := 17) rfl) rfl
set_option maxRecDepth 100000 in
theorem w_122 : Cond.initialized "java/util/Arrays" ∈ TB := tb_t1 (List.mem_of_getElem? (i := 18) rfl) rfl
set_option maxRecDepth 100000 in
theorem w_123 : Cond.initialized "RingChamber$Method" ∈ TB := tb_t1 (List.mem_of_getElem? (i := 19) rfl) rfl
set_option maxRecDepth 100000 in
theorem w_124 : Cond.initialized "RingChamber$Touch" ∈ TB := tb_t1 (List.mem_of_getElem? (i := 20) rfl) rfl
set_option maxRecDepth 100000 in
theorem w_129 : Cond.code ⟨"RingChamber", "<init>", "()V"⟩ prog_1_method_1_code 1 (none : Option Jvm.ClassFile.FieldType) ∈ TB := tb_t1 (List.mem_of_getElem? (i := 25) rfl) rfl
set_option maxRecDepth 100000 in
theorem w_130 : Cond.methodLink "RingChamber" 1 ⟨"java/lang/Object", "<init>", "()V"⟩ ∈ TB := tb_t1 (List.mem_of_getElem? (i := 26) rfl) rfl
set_option maxRecDepth 100000 in
theorem w_131 : Cond.instanceMethod ⟨"java/lang/Object", "<init>", "()V"⟩ ∈ TB := tb_t1 (List.mem_of_getElem? (i := 27) rfl) rfl
set_option maxRecDepth 100000 in
theorem w_133 : Cond.classLink "RingChamber" 20 "RingChamber$Tray" ∈ TB := tb_t1 (List.mem_of_getElem? (i := 29) rfl) rfl
set_option maxRecDepth 100000 in
theorem w_135 : Cond.classLink "RingChamber" 26 "RingChamber$Tokens" ∈ TB := tb_t1 (List.mem_of_getElem? (i := 31) rfl) rfl
set_option maxRecDepth 100000 in
theorem w_136 : Cond.instantiable "RingChamber$Tokens" 11 ∈ TB := tb_t1 (List.mem_of_getElem? (i := 32) rfl) rfl
set_option maxRecDepth 100000 in
theorem w_137 : Cond.methodLink "RingChamber" 28 ⟨"RingChamber$Tokens", "<init>", "()V"⟩ ∈ TB := tb_t1 (List.mem_of_getElem? (i := 33) rfl) rfl
set_option maxRecDepth 100000 in
theorem w_138 : Cond.instanceMethod ⟨"RingChamber$Tokens", "<init>", "()V"⟩ ∈ TB := tb_t1 (List.mem_of_getElem? (i := 34) rfl) rfl
set_option maxRecDepth 100000 in
theorem w_139 : Cond.code ⟨"RingChamber$Tokens", "<init>", "()V"⟩ prog_9_method_1_code 1 (none : Option Jvm.ClassFile.FieldType) ∈ TB := tb_t1 (List.mem_of_getElem? (i := 35) rfl) rfl
set_option maxRecDepth 100000 in
theorem w_140 : Cond.methodLink "RingChamber$Tokens" 3 ⟨"java/lang/Object", "<init>", "()V"⟩ ∈ TB := tb_t1 (List.mem_of_getElem? (i := 36) rfl) rfl
set_option maxRecDepth 100000 in
theorem w_142 : Cond.methodLink "RingChamber$Tokens" 50 ⟨"RingChamber$Tokens", "wordOf", "(Ljava/lang/String;)J"⟩ ∈ TB := tb_t1 (List.mem_of_getElem? (i := 38) rfl) rfl
set_option maxRecDepth 100000 in
theorem w_143 : Cond.static ⟨"RingChamber$Tokens", "wordOf", "(Ljava/lang/String;)J"⟩ ∈ TB := tb_t1 (List.mem_of_getElem? (i := 39) rfl) rfl
set_option maxRecDepth 100000 in
theorem w_144 : Cond.code ⟨"RingChamber$Tokens", "wordOf", "(Ljava/lang/String;)J"⟩ prog_9_method_9_code 4 (some FieldType.long) ∈ TB := tb_t1 (List.mem_of_getElem? (i := 40) rfl) rfl
set_option maxRecDepth 100000 in
theorem w_145 : Cond.methodLink "RingChamber$Tokens" 99 ⟨"java/lang/String", "length", "()I"⟩ ∈ TB := tb_t1 (List.mem_of_getElem? (i := 41) rfl) rfl
set_option maxRecDepth 100000 in
theorem w_155 : Cond.constantLong "RingChamber$Tokens" 97 27 ∈ TB := tb_t1 (List.mem_of_getElem? (i := 51) rfl) rfl
set_option maxRecDepth 100000 in
theorem w_156 : Cond.methodLink "RingChamber$Tokens" 104 ⟨"java/lang/String", "charAt", "(I)C"⟩ ∈ TB := tb_t1 (List.mem_of_getElem? (i := 52) rfl) rfl
set_option maxRecDepth 100000 in
theorem w_205 : Cond.fieldLink "RingChamber$Tokens" 9 "RingChamber$Tokens" "text" "[B" ∈ TB := tb_t1 (List.mem_of_getElem? (i := 101) rfl) rfl
set_option maxRecDepth 100000 in
theorem w_206 : Cond.fieldLink "RingChamber$Tokens" 15 "RingChamber$Tokens" "taped" "I" ∈ TB := tb_t1 (List.mem_of_getElem? (i := 102) rfl) rfl
set_option maxRecDepth 100000 in
theorem w_207 : Cond.fieldLink "RingChamber" 152 "RingChamber$Tokens" "taped" "I" ∈ TB := tb_t1 (List.mem_of_getElem? (i := 103) rfl) rfl
set_option maxRecDepth 100000 in
theorem w_208 : Cond.fieldLink "RingChamber$Tokens" 19 "RingChamber$Tokens" "reserved" "[J" ∈ TB := tb_t1 (List.mem_of_getElem? (i := 104) rfl) rfl
set_option maxRecDepth 100000 in
theorem w_209 : Cond.fieldLink "RingChamber$Tokens" 23 "RingChamber$Tokens" "length" "I" ∈ TB := tb_t1 (List.mem_of_getElem? (i := 105) rfl) rfl
set_option maxRecDepth 100000 in
theorem w_210 : Cond.fieldLink "RingChamber$Tokens" 26 "RingChamber$Tokens" "start" "I" ∈ TB := tb_t1 (List.mem_of_getElem? (i := 106) rfl) rfl
set_option maxRecDepth 100000 in
theorem w_211 : Cond.fieldLink "RingChamber$Tokens" 29 "RingChamber$Tokens" "end" "I" ∈ TB := tb_t1 (List.mem_of_getElem? (i := 107) rfl) rfl
set_option maxRecDepth 100000 in
theorem w_212 : Cond.fieldLink "RingChamber$Tokens" 32 "RingChamber$Tokens" "kind" "I" ∈ TB := tb_t1 (List.mem_of_getElem? (i := 108) rfl) rfl
set_option maxRecDepth 100000 in
theorem w_213 : Cond.fieldLink "RingChamber$TouchReader" 80 "RingChamber$Tokens" "kind" "I" ∈ TB := tb_t1 (List.mem_of_getElem? (i := 109) rfl) rfl
set_option maxRecDepth 100000 in
theorem w_214 : Cond.fieldLink "RingChamber$Tokens" 35 "RingChamber$Tokens" "value" "I" ∈ TB := tb_t1 (List.mem_of_getElem? (i := 110) rfl) rfl
set_option maxRecDepth 100000 in
theorem w_215 : Cond.fieldLink "RingChamber$BookReader" 101 "RingChamber$Tokens" "value" "I" ∈ TB := tb_t1 (List.mem_of_getElem? (i := 111) rfl) rfl
set_option maxRecDepth 100000 in
theorem w_216 : Cond.fieldLink "RingChamber$TouchReader" 112 "RingChamber$Tokens" "value" "I" ∈ TB := tb_t1 (List.mem_of_getElem? (i := 112) rfl) rfl
set_option maxRecDepth 100000 in
theorem w_217 : Cond.fieldLink "RingChamber$Tokens" 38 "RingChamber$Tokens" "word" "J" ∈ TB := tb_t1 (List.mem_of_getElem? (i := 113) rfl) rfl
set_option maxRecDepth 100000 in
theorem w_218 : Cond.fieldLink "RingChamber$BookReader" 113 "RingChamber$Tokens" "word" "J" ∈ TB := tb_t1 (List.mem_of_getElem? (i := 114) rfl) rfl
set_option maxRecDepth 100000 in
theorem w_219 : Cond.fieldLink "RingChamber$TouchReader" 99 "RingChamber$Tokens" "word" "J" ∈ TB := tb_t1 (List.mem_of_getElem? (i := 115) rfl) rfl
set_option maxRecDepth 100000 in
theorem w_220 : Cond.fieldLink "RingChamber$Tokens" 42 "RingChamber$Tokens" "fault" "I" ∈ TB := tb_t1 (List.mem_of_getElem? (i := 116) rfl) rfl
set_option maxRecDepth 100000 in
theorem w_221 : Cond.fieldLink "RingChamber" 182 "RingChamber$Tokens" "fault" "I" ∈ TB := tb_t1 (List.mem_of_getElem? (i := 117) rfl) rfl
set_option maxRecDepth 100000 in
theorem w_222 : Cond.fieldLink "RingChamber$Tokens" 45 "RingChamber$Tokens" "faultAt" "I" ∈ TB := tb_t1 (List.mem_of_getElem? (i := 118) rfl) rfl
set_option maxRecDepth 100000 in
theorem w_223 : Cond.fieldLink "RingChamber" 185 "RingChamber$Tokens" "faultAt" "I" ∈ TB := tb_t1 (List.mem_of_getElem? (i := 119) rfl) rfl
set_option maxRecDepth 100000 in
theorem w_247 : Cond.arrayClass FieldType.byte ∈ TB := tb_t1 (List.mem_of_getElem? (i := 143) rfl) rfl
set_option maxRecDepth 100000 in
theorem w_248 : Cond.arrayClass FieldType.long ∈ TB := tb_t1 (List.mem_of_getElem? (i := 144) rfl) rfl
set_option maxRecDepth 100000 in
theorem w_249 : Cond.classLink "RingChamber" 33 "RingChamber$BookReader" ∈ TB := tb_t1 (List.mem_of_getElem? (i := 145) rfl) rfl
set_option maxRecDepth 100000 in
theorem w_250 : Cond.instantiable "RingChamber$BookReader" 12 ∈ TB := tb_t1 (List.mem_of_getElem? (i := 146) rfl) rfl
set_option maxRecDepth 100000 in
theorem w_251 : Cond.methodLink "RingChamber" 35 ⟨"RingChamber$BookReader", "<init>", "(LRingChamber$Tokens;)V"⟩ ∈ TB := tb_t1 (List.mem_of_getElem? (i := 147) rfl) rfl
set_option maxRecDepth 100000 in
theorem w_252 : Cond.instanceMethod ⟨"RingChamber$BookReader", "<init>", "(LRingChamber$Tokens;)V"⟩ ∈ TB := tb_t1 (List.mem_of_getElem? (i := 148) rfl) rfl
set_option maxRecDepth 100000 in
theorem w_253 : Cond.code ⟨"RingChamber$BookReader", "<init>", "(LRingChamber$Tokens;)V"⟩ prog_3_method_1_code 2 (none : Option Jvm.ClassFile.FieldType) ∈ TB := tb_t1 (List.mem_of_getElem? (i := 149) rfl) rfl
set_option maxRecDepth 100000 in
theorem w_254 : Cond.methodLink "RingChamber$BookReader" 3 ⟨"java/lang/Object", "<init>", "()V"⟩ ∈ TB := tb_t1 (List.mem_of_getElem? (i := 150) rfl) rfl
set_option maxRecDepth 100000 in
theorem w_255 : Cond.classLink "RingChamber$BookReader" 34 "[[I" ∈ TB := tb_t1 (List.mem_of_getElem? (i := 151) rfl) rfl
set_option maxRecDepth 100000 in
theorem w_257 : Cond.fieldLink "RingChamber$BookReader" 49 "RingChamber$BookReader" "tokens" "LRingChamber$Tokens;" ∈ TB := tb_t1 (List.mem_of_getElem? (i := 153) rfl) rfl
set_option maxRecDepth 100000 in
theorem w_258 : Cond.fieldLink "RingChamber$BookReader" 9 "RingChamber$BookReader" "stage" "I" ∈ TB := tb_t1 (List.mem_of_getElem? (i := 154) rfl) rfl
set_option maxRecDepth 100000 in
theorem w_259 : Cond.fieldLink "RingChamber$BookReader" 15 "RingChamber$BookReader" "methods" "I" ∈ TB := tb_t1 (List.mem_of_getElem? (i := 155) rfl) rfl
set_option maxRecDepth 100000 in
theorem w_260 : Cond.fieldLink "RingChamber$BookReader" 18 "RingChamber$BookReader" "ringers" "I" ∈ TB := tb_t1 (List.mem_of_getElem? (i := 156) rfl) rfl
set_option maxRecDepth 100000 in
theorem w_261 : Cond.fieldLink "RingChamber$BookReader" 21 "RingChamber$BookReader" "rungBells" "I" ∈ TB := tb_t1 (List.mem_of_getElem? (i := 157) rfl) rfl
set_option maxRecDepth 100000 in
theorem w_262 : Cond.fieldLink "RingChamber$BookReader" 24 "RingChamber$BookReader" "move" "I" ∈ TB := tb_t1 (List.mem_of_getElem? (i := 158) rfl) rfl
set_option maxRecDepth 100000 in
theorem w_263 : Cond.fieldLink "RingChamber$BookReader" 27 "RingChamber$BookReader" "names" "[J" ∈ TB := tb_t1 (List.mem_of_getElem? (i := 159) rfl) rfl
set_option maxRecDepth 100000 in
theorem w_264 : Cond.fieldLink "RingChamber$BookReader" 31 "RingChamber$BookReader" "methodNames" "[J" ∈ TB := tb_t1 (List.mem_of_getElem? (i := 160) rfl) rfl
set_option maxRecDepth 100000 in
theorem w_265 : Cond.fieldLink "RingChamber$BookReader" 36 "RingChamber$BookReader" "moves" "[[I" ∈ TB := tb_t1 (List.mem_of_getElem? (i := 161) rfl) rfl
set_option maxRecDepth 100000 in
theorem w_266 : Cond.fieldLink "RingChamber$BookReader" 39 "RingChamber$BookReader" "lengths" "[I" ∈ TB := tb_t1 (List.mem_of_getElem? (i := 162) rfl) rfl
set_option maxRecDepth 100000 in
theorem w_267 : Cond.fieldLink "RingChamber$BookReader" 43 "RingChamber$BookReader" "bobs" "[I" ∈ TB := tb_t1 (List.mem_of_getElem? (i := 163) rfl) rfl
set_option maxRecDepth 100000 in
theorem w_268 : Cond.fieldLink "RingChamber$BookReader" 46 "RingChamber$BookReader" "singles" "[I" ∈ TB := tb_t1 (List.mem_of_getElem? (i := 164) rfl) rfl
set_option maxRecDepth 100000 in
theorem w_294 : Cond.arrayClass FieldType.int ∈ TB := tb_t1 (List.mem_of_getElem? (i := 190) rfl) rfl
set_option maxRecDepth 100000 in
theorem w_295 : Cond.classLink "RingChamber" 42 "RingChamber$TouchReader" ∈ TB := tb_t1 (List.mem_of_getElem? (i := 191) rfl) rfl
set_option maxRecDepth 100000 in
theorem w_296 : Cond.instantiable "RingChamber$TouchReader" 11 ∈ TB := tb_t1 (List.mem_of_getElem? (i := 192) rfl) rfl
set_option maxRecDepth 100000 in
theorem w_297 : Cond.methodLink "RingChamber" 44 ⟨"RingChamber$TouchReader", "<init>", "(LRingChamber$Tokens;)V"⟩ ∈ TB := tb_t1 (List.mem_of_getElem? (i := 193) rfl) rfl
set_option maxRecDepth 100000 in
theorem w_298 : Cond.instanceMethod ⟨"RingChamber$TouchReader", "<init>", "(LRingChamber$Tokens;)V"⟩ ∈ TB := tb_t1 (List.mem_of_getElem? (i := 194) rfl) rfl
set_option maxRecDepth 100000 in
theorem w_299 : Cond.code ⟨"RingChamber$TouchReader", "<init>", "(LRingChamber$Tokens;)V"⟩ prog_11_method_1_code 2 (none : Option Jvm.ClassFile.FieldType) ∈ TB := tb_t1 (List.mem_of_getElem? (i := 195) rfl) rfl
set_option maxRecDepth 100000 in
theorem w_300 : Cond.methodLink "RingChamber$TouchReader" 3 ⟨"java/lang/Object", "<init>", "()V"⟩ ∈ TB := tb_t1 (List.mem_of_getElem? (i := 196) rfl) rfl
set_option maxRecDepth 100000 in
theorem w_301 : Cond.classLink "RingChamber$TouchReader" 28 "RingChamber$Method" ∈ TB := tb_t1 (List.mem_of_getElem? (i := 197) rfl) rfl
set_option maxRecDepth 100000 in
theorem w_303 : Cond.fieldLink "RingChamber$TouchReader" 46 "RingChamber$TouchReader" "tokens" "LRingChamber$Tokens;" ∈ TB := tb_t1 (List.mem_of_getElem? (i := 199) rfl) rfl
set_option maxRecDepth 100000 in
theorem w_304 : Cond.fieldLink "RingChamber$TouchReader" 9 "RingChamber$TouchReader" "steps" "I" ∈ TB := tb_t1 (List.mem_of_getElem? (i := 200) rfl) rfl
set_option maxRecDepth 100000 in
theorem w_305 : Cond.fieldLink "RingChamber$TouchReader" 15 "RingChamber$TouchReader" "depth" "I" ∈ TB := tb_t1 (List.mem_of_getElem? (i := 201) rfl) rfl
set_option maxRecDepth 100000 in
theorem w_306 : Cond.fieldLink "RingChamber$TouchReader" 18 "RingChamber$TouchReader" "lines" "I" ∈ TB := tb_t1 (List.mem_of_getElem? (i := 202) rfl) rfl
set_option maxRecDepth 100000 in
theorem w_307 : Cond.fieldLink "RingChamber$TouchReader" 21 "RingChamber$TouchReader" "kinds" "[I" ∈ TB := tb_t1 (List.mem_of_getElem? (i := 203) rfl) rfl
set_option maxRecDepth 100000 in
theorem w_308 : Cond.fieldLink "RingChamber$TouchReader" 25 "RingChamber$TouchReader" "counts" "[I" ∈ TB := tb_t1 (List.mem_of_getElem? (i := 204) rfl) rfl
set_option maxRecDepth 100000 in
theorem w_309 : Cond.fieldLink "RingChamber$TouchReader" 30 "RingChamber$TouchReader" "named" "[LRingChamber$Method;" ∈ TB := tb_t1 (List.mem_of_getElem? (i := 205) rfl) rfl
set_option maxRecDepth 100000 in
theorem w_310 : Cond.fieldLink "RingChamber$TouchReader" 34 "RingChamber$TouchReader" "begun" "[I" ∈ TB := tb_t1 (List.mem_of_getElem? (i := 206) rfl) rfl
set_option maxRecDepth 100000 in
theorem w_311 : Cond.fieldLink "RingChamber$TouchReader" 37 "RingChamber$TouchReader" "left" "[I" ∈ TB := tb_t1 (List.mem_of_getElem? (i := 207) rfl) rfl
set_option maxRecDepth 100000 in
theorem w_312 : Cond.fieldLink "RingChamber$TouchReader" 40 "RingChamber$TouchReader" "moves" "[I" ∈ TB := tb_t1 (List.mem_of_getElem? (i := 208) rfl) rfl
set_option maxRecDepth 100000 in
theorem w_313 : Cond.fieldLink "RingChamber$TouchReader" 43 "RingChamber$TouchReader" "moved" "I" ∈ TB := tb_t1 (List.mem_of_getElem? (i := 209) rfl) rfl
set_option maxRecDepth 100000 in
theorem w_337 : Cond.classLink "RingChamber" 49 "RingChamber$Book" ∈ TB := tb_t1 (List.mem_of_getElem? (i := 233) rfl) rfl
set_option maxRecDepth 100000 in
theorem w_338 : Cond.instantiable "RingChamber$Book" 4 ∈ TB := tb_t1 (List.mem_of_getElem? (i := 234) rfl) rfl
set_option maxRecDepth 100000 in
theorem w_339 : Cond.methodLink "RingChamber" 51 ⟨"RingChamber$Rows", "allBells", "(I)I"⟩ ∈ TB := tb_t1 (List.mem_of_getElem? (i := 235) rfl) rfl
set_option maxRecDepth 100000 in
theorem w_340 : Cond.static ⟨"RingChamber$Rows", "allBells", "(I)I"⟩ ∈ TB := tb_t1 (List.mem_of_getElem? (i := 236) rfl) rfl
set_option maxRecDepth 100000 in
theorem w_341 : Cond.code ⟨"RingChamber$Rows", "allBells", "(I)I"⟩ prog_6_method_3_code 1 (some FieldType.int) ∈ TB := tb_t1 (List.mem_of_getElem? (i := 237) rfl) rfl
set_option maxRecDepth 100000 in
theorem w_342 : Cond.classLink "RingChamber" 57 "RingChamber$Method" ∈ TB := tb_t1 (List.mem_of_getElem? (i := 238) rfl) rfl
set_option maxRecDepth 100000 in
theorem w_343 : Cond.methodLink "RingChamber" 59 ⟨"RingChamber$Book", "<init>", "(II[LRingChamber$Method;)V"⟩ ∈ TB := tb_t1 (List.mem_of_getElem? (i := 239) rfl) rfl
set_option maxRecDepth 100000 in
theorem w_344 : Cond.instanceMethod ⟨"RingChamber$Book", "<init>", "(II[LRingChamber$Method;)V"⟩ ∈ TB := tb_t2 (List.mem_of_getElem? (i := 0) rfl) rfl
set_option maxRecDepth 100000 in
theorem w_345 : Cond.code ⟨"RingChamber$Book", "<init>", "(II[LRingChamber$Method;)V"⟩ prog_2_method_1_code 4 (none : Option Jvm.ClassFile.FieldType) ∈ TB := tb_t2 (List.mem_of_getElem? (i := 1) rfl) rfl
set_option maxRecDepth 100000 in
theorem w_346 : Cond.methodLink "RingChamber$Book" 1 ⟨"java/lang/Object", "<init>", "()V"⟩ ∈ TB := tb_t2 (List.mem_of_getElem? (i := 2) rfl) rfl
set_option maxRecDepth 100000 in
theorem w_347 : Cond.methodLink "RingChamber$Book" 13 ⟨"RingChamber$Rows", "many", "(I)I"⟩ ∈ TB := tb_t2 (List.mem_of_getElem? (i := 3) rfl) rfl
set_option maxRecDepth 100000 in
theorem w_348 : Cond.static ⟨"RingChamber$Rows", "many", "(I)I"⟩ ∈ TB := tb_t2 (List.mem_of_getElem? (i := 4) rfl) rfl
set_option maxRecDepth 100000 in
theorem w_349 : Cond.code ⟨"RingChamber$Rows", "many", "(I)I"⟩ prog_6_method_2_code 1 (some FieldType.int) ∈ TB := tb_t2 (List.mem_of_getElem? (i := 5) rfl) rfl
set_option maxRecDepth 100000 in
theorem w_350 : Cond.fieldLink "RingChamber$Rows" 9 "RingChamber$Rows" "FACTORIALS" "[I" ∈ TB := tb_t2 (List.mem_of_getElem? (i := 6) rfl) rfl
set_option maxRecDepth 100000 in
theorem w_352 : Cond.fieldLink "RingChamber$Book" 7 "RingChamber$Book" "stage" "I" ∈ TB := tb_t2 (List.mem_of_getElem? (i := 8) rfl) rfl
set_option maxRecDepth 100000 in
theorem w_353 : Cond.fieldLink "RingChamber$Composer" 43 "RingChamber$Book" "stage" "I" ∈ TB := tb_t2 (List.mem_of_getElem? (i := 9) rfl) rfl
set_option maxRecDepth 100000 in
theorem w_354 : Cond.fieldLink "RingChamber$Search" 56 "RingChamber$Book" "stage" "I" ∈ TB := tb_t2 (List.mem_of_getElem? (i := 10) rfl) rfl
set_option maxRecDepth 100000 in
theorem w_355 : Cond.fieldLink "RingChamber$Stamps" 44 "RingChamber$Book" "stage" "I" ∈ TB := tb_t2 (List.mem_of_getElem? (i := 11) rfl) rfl
set_option maxRecDepth 100000 in
theorem w_356 : Cond.fieldLink "RingChamber$TouchReader" 127 "RingChamber$Book" "stage" "I" ∈ TB := tb_t2 (List.mem_of_getElem? (i := 12) rfl) rfl
set_option maxRecDepth 100000 in
theorem w_357 : Cond.fieldLink "RingChamber" 188 "RingChamber$Book" "stage" "I" ∈ TB := tb_t2 (List.mem_of_getElem? (i := 13) rfl) rfl
set_option maxRecDepth 100000 in
theorem w_358 : Cond.fieldLink "RingChamber$Book" 19 "RingChamber$Book" "rows" "I" ∈ TB := tb_t2 (List.mem_of_getElem? (i := 14) rfl) rfl
set_option maxRecDepth 100000 in
theorem w_359 : Cond.fieldLink "RingChamber$Search" 41 "RingChamber$Book" "rows" "I" ∈ TB := tb_t2 (List.mem_of_getElem? (i := 15) rfl) rfl
set_option maxRecDepth 100000 in
theorem w_360 : Cond.fieldLink "RingChamber$Stamps" 17 "RingChamber$Book" "rows" "I" ∈ TB := tb_t2 (List.mem_of_getElem? (i := 16) rfl) rfl
set_option maxRecDepth 100000 in
theorem w_361 : Cond.fieldLink "RingChamber" 191 "RingChamber$Book" "rows" "I" ∈ TB := tb_t2 (List.mem_of_getElem? (i := 17) rfl) rfl
set_option maxRecDepth 100000 in
theorem w_362 : Cond.fieldLink "RingChamber$Book" 22 "RingChamber$Book" "silent" "I" ∈ TB := tb_t2 (List.mem_of_getElem? (i := 18) rfl) rfl
set_option maxRecDepth 100000 in
theorem w_363 : Cond.fieldLink "RingChamber" 194 "RingChamber$Book" "silent" "I" ∈ TB := tb_t2 (List.mem_of_getElem? (i := 19) rfl) rfl
set_option maxRecDepth 100000 in
theorem w_364 : Cond.fieldLink "RingChamber$Book" 25 "RingChamber$Book" "methods" "[LRingChamber$Method;" ∈ TB := tb_t2 (List.mem_of_getElem? (i := 20) rfl) rfl
set_option maxRecDepth 100000 in
theorem w_365 : Cond.fieldLink "RingChamber$Search" 73 "RingChamber$Book" "methods" "[LRingChamber$Method;" ∈ TB := tb_t2 (List.mem_of_getElem? (i := 21) rfl) rfl
set_option maxRecDepth 100000 in
theorem w_366 : Cond.fieldLink "RingChamber" 166 "RingChamber$Book" "methods" "[LRingChamber$Method;" ∈ TB := tb_t2 (List.mem_of_getElem? (i := 22) rfl) rfl
set_option maxRecDepth 100000 in
theorem w_377 : Cond.classLink "RingChamber" 77 "RingChamber$Touch" ∈ TB := tb_t2 (List.mem_of_getElem? (i := 33) rfl) rfl
set_option maxRecDepth 100000 in
theorem w_379 : Cond.classLink "RingChamber" 89 "RingChamber$Stamps" ∈ TB := tb_t2 (List.mem_of_getElem? (i := 35) rfl) rfl
set_option maxRecDepth 100000 in
theorem w_380 : Cond.instantiable "RingChamber$Stamps" 2 ∈ TB := tb_t2 (List.mem_of_getElem? (i := 36) rfl) rfl
set_option maxRecDepth 100000 in
theorem w_382 : Cond.instanceMethod ⟨"RingChamber$Stamps", "<init>", "()V"⟩ ∈ TB := tb_t2 (List.mem_of_getElem? (i := 38) rfl) rfl
set_option maxRecDepth 100000 in
theorem w_383 : Cond.code ⟨"RingChamber$Stamps", "<init>", "()V"⟩ prog_8_method_1_code 1 (none : Option Jvm.ClassFile.FieldType) ∈ TB := tb_t2 (List.mem_of_getElem? (i := 39) rfl) rfl
set_option maxRecDepth 100000 in
theorem w_384 : Cond.methodLink "RingChamber$Stamps" 1 ⟨"java/lang/Object", "<init>", "()V"⟩ ∈ TB := tb_t2 (List.mem_of_getElem? (i := 40) rfl) rfl
set_option maxRecDepth 100000 in
theorem w_385 : Cond.fieldLink "RingChamber$Stamps" 7 "RingChamber$Stamps" "seen" "[I" ∈ TB := tb_t2 (List.mem_of_getElem? (i := 41) rfl) rfl
set_option maxRecDepth 100000 in
theorem w_386 : Cond.fieldLink "RingChamber$Stamps" 13 "RingChamber$Stamps" "stamp" "I" ∈ TB := tb_t2 (List.mem_of_getElem? (i := 42) rfl) rfl
set_option maxRecDepth 100000 in
theorem w_392 : Cond.classLink "RingChamber" 96 "RingChamber$Search" ∈ TB := tb_t2 (List.mem_of_getElem? (i := 48) rfl) rfl
set_option maxRecDepth 100000 in
theorem w_393 : Cond.instantiable "RingChamber$Search" 9 ∈ TB := tb_t2 (List.mem_of_getElem? (i := 49) rfl) rfl
set_option maxRecDepth 100000 in
theorem w_395 : Cond.instanceMethod ⟨"RingChamber$Search", "<init>", "()V"⟩ ∈ TB := tb_t2 (List.mem_of_getElem? (i := 51) rfl) rfl
set_option maxRecDepth 100000 in
theorem w_396 : Cond.code ⟨"RingChamber$Search", "<init>", "()V"⟩ prog_7_method_1_code 1 (none : Option Jvm.ClassFile.FieldType) ∈ TB := tb_t2 (List.mem_of_getElem? (i := 52) rfl) rfl
set_option maxRecDepth 100000 in
theorem w_397 : Cond.methodLink "RingChamber$Search" 3 ⟨"java/lang/Object", "<init>", "()V"⟩ ∈ TB := tb_t2 (List.mem_of_getElem? (i := 53) rfl) rfl
set_option maxRecDepth 100000 in
theorem w_398 : Cond.fieldLink "RingChamber$Search" 9 "RingChamber$Search" "searched" "LRingChamber$Book;" ∈ TB := tb_t2 (List.mem_of_getElem? (i := 54) rfl) rfl
set_option maxRecDepth 100000 in
theorem w_399 : Cond.fieldLink "RingChamber$Search" 15 "RingChamber$Search" "queue" "[I" ∈ TB := tb_t2 (List.mem_of_getElem? (i := 55) rfl) rfl
set_option maxRecDepth 100000 in
theorem w_400 : Cond.fieldLink "RingChamber$Search" 19 "RingChamber$Search" "foundBy" "[I" ∈ TB := tb_t2 (List.mem_of_getElem? (i := 56) rfl) rfl
set_option maxRecDepth 100000 in
theorem w_401 : Cond.fieldLink "RingChamber$Search" 22 "RingChamber$Search" "heads" "[I" ∈ TB := tb_t2 (List.mem_of_getElem? (i := 57) rfl) rfl
set_option maxRecDepth 100000 in
theorem w_402 : Cond.fieldLink "RingChamber$Search" 25 "RingChamber$Search" "leads" "[I" ∈ TB := tb_t2 (List.mem_of_getElem? (i := 58) rfl) rfl
set_option maxRecDepth 100000 in
theorem w_403 : Cond.fieldLink "RingChamber$Search" 28 "RingChamber$Search" "tried" "I" ∈ TB := tb_t2 (List.mem_of_getElem? (i := 59) rfl) rfl
set_option maxRecDepth 100000 in
theorem w_404 : Cond.fieldLink "RingChamber$Search" 32 "RingChamber$Search" "found" "I" ∈ TB := tb_t2 (List.mem_of_getElem? (i := 60) rfl) rfl
set_option maxRecDepth 100000 in
theorem w_405 : Cond.fieldLink "RingChamber" 359 "RingChamber$Search" "found" "I" ∈ TB := tb_t2 (List.mem_of_getElem? (i := 61) rfl) rfl
set_option maxRecDepth 100000 in
theorem w_406 : Cond.fieldLink "RingChamber$Search" 35 "RingChamber$Search" "way" "[I" ∈ TB := tb_t2 (List.mem_of_getElem? (i := 62) rfl) rfl
set_option maxRecDepth 100000 in
theorem w_407 : Cond.fieldLink "RingChamber" 356 "RingChamber$Search" "way" "[I" ∈ TB := tb_t2 (List.mem_of_getElem? (i := 63) rfl) rfl
set_option maxRecDepth 100000 in
theorem w_408 : Cond.fieldLink "RingChamber$Search" 38 "RingChamber$Search" "wayLength" "I" ∈ TB := tb_t2 (List.mem_of_getElem? (i := 64) rfl) rfl
set_option maxRecDepth 100000 in
theorem w_409 : Cond.fieldLink "RingChamber" 353 "RingChamber$Search" "wayLength" "I" ∈ TB := tb_t2 (List.mem_of_getElem? (i := 65) rfl) rfl
set_option maxRecDepth 100000 in
theorem w_429 : Cond.classLink "RingChamber" 103 "RingChamber$Composer" ∈ TB := tb_t2 (List.mem_of_getElem? (i := 85) rfl) rfl
set_option maxRecDepth 100000 in
theorem w_430 : Cond.instantiable "RingChamber$Composer" 6 ∈ TB := tb_t2 (List.mem_of_getElem? (i := 86) rfl) rfl
set_option maxRecDepth 100000 in
theorem w_432 : Cond.instanceMethod ⟨"RingChamber$Composer", "<init>", "()V"⟩ ∈ TB := tb_t2 (List.mem_of_getElem? (i := 88) rfl) rfl
set_option maxRecDepth 100000 in
theorem w_433 : Cond.code ⟨"RingChamber$Composer", "<init>", "()V"⟩ prog_4_method_1_code 1 (none : Option Jvm.ClassFile.FieldType) ∈ TB := tb_t2 (List.mem_of_getElem? (i := 89) rfl) rfl
set_option maxRecDepth 100000 in
theorem w_434 : Cond.methodLink "RingChamber$Composer" 3 ⟨"java/lang/Object", "<init>", "()V"⟩ ∈ TB := tb_t2 (List.mem_of_getElem? (i := 90) rfl) rfl
set_option maxRecDepth 100000 in
theorem w_435 : Cond.fieldLink "RingChamber$Composer" 9 "RingChamber$Composer" "calls" "[I" ∈ TB := tb_t2 (List.mem_of_getElem? (i := 91) rfl) rfl
set_option maxRecDepth 100000 in
theorem w_436 : Cond.fieldLink "RingChamber$Composer" 15 "RingChamber$Composer" "begun" "[I" ∈ TB := tb_t2 (List.mem_of_getElem? (i := 92) rfl) rfl
set_option maxRecDepth 100000 in
theorem w_437 : Cond.fieldLink "RingChamber$Composer" 18 "RingChamber$Composer" "undone" "[I" ∈ TB := tb_t2 (List.mem_of_getElem? (i := 93) rfl) rfl
set_option maxRecDepth 100000 in
theorem w_438 : Cond.fieldLink "RingChamber$Composer" 21 "RingChamber$Composer" "first" "[I" ∈ TB := tb_t2 (List.mem_of_getElem? (i := 94) rfl) rfl
set_option maxRecDepth 100000 in
theorem w_439 : Cond.fieldLink "RingChamber" 369 "RingChamber$Composer" "first" "[I" ∈ TB := tb_t2 (List.mem_of_getElem? (i := 95) rfl) rfl
set_option maxRecDepth 100000 in
theorem w_440 : Cond.fieldLink "RingChamber$Composer" 24 "RingChamber$Composer" "firstLength" "I" ∈ TB := tb_t2 (List.mem_of_getElem? (i := 96) rfl) rfl
set_option maxRecDepth 100000 in
theorem w_441 : Cond.fieldLink "RingChamber" 366 "RingChamber$Composer" "firstLength" "I" ∈ TB := tb_t2 (List.mem_of_getElem? (i := 97) rfl) rfl
set_option maxRecDepth 100000 in
theorem w_442 : Cond.fieldLink "RingChamber$Composer" 28 "RingChamber$Composer" "many" "I" ∈ TB := tb_t2 (List.mem_of_getElem? (i := 98) rfl) rfl
set_option maxRecDepth 100000 in
theorem w_456 : Cond.fieldLink "RingChamber" 9 "RingChamber" "status" "I" ∈ TB := tb_t2 (List.mem_of_getElem? (i := 112) rfl) rfl
set_option maxRecDepth 100000 in
theorem w_457 : Cond.fieldLink "RingChamber" 13 "RingChamber" "top" "J" ∈ TB := tb_t2 (List.mem_of_getElem? (i := 113) rfl) rfl
set_option maxRecDepth 100000 in
theorem w_458 : Cond.fieldLink "RingChamber" 17 "RingChamber" "bottom" "J" ∈ TB := tb_t2 (List.mem_of_getElem? (i := 114) rfl) rfl
set_option maxRecDepth 100000 in
theorem w_459 : Cond.fieldLink "RingChamber" 22 "RingChamber" "trays" "[LRingChamber$Tray;" ∈ TB := tb_t2 (List.mem_of_getElem? (i := 115) rfl) rfl
set_option maxRecDepth 100000 in
theorem w_460 : Cond.fieldLink "RingChamber" 29 "RingChamber" "tokens" "LRingChamber$Tokens;" ∈ TB := tb_t2 (List.mem_of_getElem? (i := 116) rfl) rfl
set_option maxRecDepth 100000 in
theorem w_461 : Cond.fieldLink "RingChamber" 38 "RingChamber" "bookReader" "LRingChamber$BookReader;" ∈ TB := tb_t2 (List.mem_of_getElem? (i := 117) rfl) rfl
set_option maxRecDepth 100000 in
theorem w_462 : Cond.fieldLink "RingChamber" 45 "RingChamber" "touchReader" "LRingChamber$TouchReader;" ∈ TB := tb_t2 (List.mem_of_getElem? (i := 118) rfl) rfl
set_option maxRecDepth 100000 in
theorem w_463 : Cond.fieldLink "RingChamber" 62 "RingChamber" "book" "LRingChamber$Book;" ∈ TB := tb_t2 (List.mem_of_getElem? (i := 119) rfl) rfl
set_option maxRecDepth 100000 in
theorem w_464 : Cond.fieldLink "RingChamber" 66 "RingChamber" "touch" "LRingChamber$Touch;" ∈ TB := tb_t2 (List.mem_of_getElem? (i := 120) rfl) rfl
set_option maxRecDepth 100000 in
theorem w_465 : Cond.fieldLink "RingChamber" 70 "RingChamber" "rung" "LRingChamber$Touch;" ∈ TB := tb_t2 (List.mem_of_getElem? (i := 121) rfl) rfl
set_option maxRecDepth 100000 in
theorem w_466 : Cond.fieldLink "RingChamber" 73 "RingChamber" "markedBooks" "[LRingChamber$Book;" ∈ TB := tb_t2 (List.mem_of_getElem? (i := 122) rfl) rfl
set_option maxRecDepth 100000 in
theorem w_467 : Cond.fieldLink "RingChamber" 79 "RingChamber" "markedTouches" "[LRingChamber$Touch;" ∈ TB := tb_t2 (List.mem_of_getElem? (i := 123) rfl) rfl
set_option maxRecDepth 100000 in
theorem w_468 : Cond.fieldLink "RingChamber" 83 "RingChamber" "markedRung" "[LRingChamber$Touch;" ∈ TB := tb_t2 (List.mem_of_getElem? (i := 124) rfl) rfl
set_option maxRecDepth 100000 in
theorem w_469 : Cond.fieldLink "RingChamber" 86 "RingChamber" "marked" "I" ∈ TB := tb_t2 (List.mem_of_getElem? (i := 125) rfl) rfl
set_option maxRecDepth 100000 in
theorem w_470 : Cond.fieldLink "RingChamber" 92 "RingChamber" "stamps" "LRingChamber$Stamps;" ∈ TB := tb_t2 (List.mem_of_getElem? (i := 126) rfl) rfl
set_option maxRecDepth 100000 in
theorem w_471 : Cond.fieldLink "RingChamber" 99 "RingChamber" "search" "LRingChamber$Search;" ∈ TB := tb_t2 (List.mem_of_getElem? (i := 127) rfl) rfl
set_option maxRecDepth 100000 in
theorem w_472 : Cond.fieldLink "RingChamber" 106 "RingChamber" "composer" "LRingChamber$Composer;" ∈ TB := tb_t2 (List.mem_of_getElem? (i := 128) rfl) rfl
set_option maxRecDepth 100000 in
theorem w_511 : Cond.code ⟨"RingChamber", "status", "()I"⟩ prog_1_method_2_code 1 (some FieldType.int) ∈ TB := tb_t2 (List.mem_of_getElem? (i := 167) rfl) rfl
set_option maxRecDepth 100000 in
theorem w_515 : Cond.code ⟨"RingChamber", "top", "()J"⟩ prog_1_method_3_code 1 (some FieldType.long) ∈ TB := tb_t2 (List.mem_of_getElem? (i := 171) rfl) rfl
set_option maxRecDepth 100000 in
theorem w_519 : Cond.code ⟨"RingChamber", "bottom", "()J"⟩ prog_1_method_4_code 1 (some FieldType.long) ∈ TB := tb_t2 (List.mem_of_getElem? (i := 175) rfl) rfl
set_option maxRecDepth 100000 in
theorem w_523 : Cond.code ⟨"RingChamber", "tray", "(III)Z"⟩ prog_1_method_5_code 4 (some FieldType.boolean) ∈ TB := tb_t2 (List.mem_of_getElem? (i := 179) rfl) rfl
set_option maxRecDepth 100000 in
theorem w_524 : Cond.methodLink "RingChamber" 110 ⟨"RingChamber", "isTray", "(I)Z"⟩ ∈ TB := tb_t2 (List.mem_of_getElem? (i := 180) rfl) rfl
set_option maxRecDepth 100000 in
theorem w_525 : Cond.static ⟨"RingChamber", "isTray", "(I)Z"⟩ ∈ TB := tb_t2 (List.mem_of_getElem? (i := 181) rfl) rfl
set_option maxRecDepth 100000 in
theorem w_526 : Cond.code ⟨"RingChamber", "isTray", "(I)Z"⟩ prog_1_method_65_code 1 (some FieldType.boolean) ∈ TB := tb_t2 (List.mem_of_getElem? (i := 182) rfl) rfl
set_option maxRecDepth 100000 in
theorem w_527 : Cond.methodLink "RingChamber" 114 ⟨"RingChamber", "deny", "(I)Z"⟩ ∈ TB := tb_t2 (List.mem_of_getElem? (i := 183) rfl) rfl
set_option maxRecDepth 100000 in
theorem w_529 : Cond.instanceMethod ⟨"RingChamber", "deny", "(I)Z"⟩ ∈ TB := tb_t2 (List.mem_of_getElem? (i := 185) rfl) rfl
set_option maxRecDepth 100000 in
theorem w_530 : Cond.code ⟨"RingChamber", "deny", "(I)Z"⟩ prog_1_method_64_code 2 (some FieldType.boolean) ∈ TB := tb_t2 (List.mem_of_getElem? (i := 186) rfl) rfl
set_option maxRecDepth 100000 in
theorem w_531 : Cond.instantiable "RingChamber$Tray" 2 ∈ TB := tb_t2 (List.mem_of_getElem? (i := 187) rfl) rfl
set_option maxRecDepth 100000 in
theorem w_532 : Cond.methodLink "RingChamber" 117 ⟨"RingChamber$Tray", "<init>", "(II)V"⟩ ∈ TB := tb_t2 (List.mem_of_getElem? (i := 188) rfl) rfl
set_option maxRecDepth 100000 in
theorem w_533 : Cond.instanceMethod ⟨"RingChamber$Tray", "<init>", "(II)V"⟩ ∈ TB := tb_t2 (List.mem_of_getElem? (i := 189) rfl) rfl
set_option maxRecDepth 100000 in
theorem w_534 : Cond.code ⟨"RingChamber$Tray", "<init>", "(II)V"⟩ prog_12_method_1_code 3 (none : Option Jvm.ClassFile.FieldType) ∈ TB := tb_t2 (List.mem_of_getElem? (i := 190) rfl) rfl
set_option maxRecDepth 100000 in
theorem w_535 : Cond.methodLink "RingChamber$Tray" 1 ⟨"java/lang/Object", "<init>", "()V"⟩ ∈ TB := tb_t2 (List.mem_of_getElem? (i := 191) rfl) rfl
set_option maxRecDepth 100000 in
theorem w_536 : Cond.fieldLink "RingChamber$Tray" 7 "RingChamber$Tray" "sort" "I" ∈ TB := tb_t2 (List.mem_of_getElem? (i := 192) rfl) rfl
set_option maxRecDepth 100000 in
theorem w_537 : Cond.fieldLink "RingChamber" 132 "RingChamber$Tray" "sort" "I" ∈ TB := tb_t2 (List.mem_of_getElem? (i := 193) rfl) rfl
set_option maxRecDepth 100000 in
theorem w_538 : Cond.fieldLink "RingChamber$Tray" 13 "RingChamber$Tray" "numbers" "[J" ∈ TB := tb_t2 (List.mem_of_getElem? (i := 194) rfl) rfl
set_option maxRecDepth 100000 in
theorem w_539 : Cond.fieldLink "RingChamber" 128 "RingChamber$Tray" "numbers" "[J" ∈ TB := tb_t2 (List.mem_of_getElem? (i := 195) rfl) rfl
set_option maxRecDepth 100000 in
theorem w_545 : Cond.methodLink "RingChamber" 120 ⟨"RingChamber", "grant", "()Z"⟩ ∈ TB := tb_t2 (List.mem_of_getElem? (i := 201) rfl) rfl
set_option maxRecDepth 100000 in
theorem w_547 : Cond.instanceMethod ⟨"RingChamber", "grant", "()Z"⟩ ∈ TB := tb_t2 (List.mem_of_getElem? (i := 203) rfl) rfl
set_option maxRecDepth 100000 in
theorem w_548 : Cond.code ⟨"RingChamber", "grant", "()Z"⟩ prog_1_method_63_code 1 (some FieldType.boolean) ∈ TB := tb_t2 (List.mem_of_getElem? (i := 204) rfl) rfl
set_option maxRecDepth 100000 in
theorem w_552 : Cond.code ⟨"RingChamber", "write", "(IIJ)Z"⟩ prog_1_method_6_code 7 (some FieldType.boolean) ∈ TB := tb_t2 (List.mem_of_getElem? (i := 208) rfl) rfl
set_option maxRecDepth 100000 in
theorem w_553 : Cond.methodLink "RingChamber" 124 ⟨"RingChamber", "whyNoPlace", "(II)I"⟩ ∈ TB := tb_t2 (List.mem_of_getElem? (i := 209) rfl) rfl
set_option maxRecDepth 100000 in
theorem w_555 : Cond.instanceMethod ⟨"RingChamber", "whyNoPlace", "(II)I"⟩ ∈ TB := tb_t2 (List.mem_of_getElem? (i := 211) rfl) rfl
set_option maxRecDepth 100000 in
theorem w_556 : Cond.code ⟨"RingChamber", "whyNoPlace", "(II)I"⟩ prog_1_method_73_code 3 (some FieldType.int) ∈ TB := tb_t2 (List.mem_of_getElem? (i := 212) rfl) rfl
set_option maxRecDepth 100000 in
theorem w_557 : Cond.methodLink "RingChamber" 142 ⟨"RingChamber$Tray", "has", "(II)Z"⟩ ∈ TB := tb_t2 (List.mem_of_getElem? (i := 213) rfl) rfl
set_option maxRecDepth 100000 in
theorem w_558 : Cond.instanceMethod ⟨"RingChamber$Tray", "has", "(II)Z"⟩ ∈ TB := tb_t2 (List.mem_of_getElem? (i := 214) rfl) rfl
set_option maxRecDepth 100000 in
theorem w_559 : Cond.selects "RingChamber$Tray" ⟨"RingChamber$Tray", "has", "(II)Z"⟩ ⟨"RingChamber$Tray", "has", "(II)Z"⟩ ∈ TB := tb_t2 (List.mem_of_getElem? (i := 215) rfl) rfl
set_option maxRecDepth 100000 in
theorem w_560 : Cond.code ⟨"RingChamber$Tray", "has", "(II)Z"⟩ prog_12_method_2_code 3 (some FieldType.boolean) ∈ TB := tb_t2 (List.mem_of_getElem? (i := 216) rfl) rfl
set_option maxRecDepth 100000 in
theorem w_561 : Cond.methodLink "RingChamber" 135 ⟨"RingChamber$Tray", "cut", "(JI)J"⟩ ∈ TB := tb_t2 (List.mem_of_getElem? (i := 217) rfl) rfl
set_option maxRecDepth 100000 in
theorem w_562 : Cond.static ⟨"RingChamber$Tray", "cut", "(JI)J"⟩ ∈ TB := tb_t2 (List.mem_of_getElem? (i := 218) rfl) rfl
set_option maxRecDepth 100000 in
theorem w_563 : Cond.code ⟨"RingChamber$Tray", "cut", "(JI)J"⟩ prog_12_method_3_code 3 (some FieldType.long) ∈ TB := tb_t2 (List.mem_of_getElem? (i := 219) rfl) rfl
set_option maxRecDepth 100000 in
theorem w_567 : Cond.code ⟨"RingChamber", "read", "(II)J"⟩ prog_1_method_7_code 4 (some FieldType.long) ∈ TB := tb_t2 (List.mem_of_getElem? (i := 223) rfl) rfl
set_option maxRecDepth 100000 in
theorem w_568 : Cond.methodLink "RingChamber" 139 ⟨"RingChamber", "refuse", "(I)I"⟩ ∈ TB := tb_t2 (List.mem_of_getElem? (i := 224) rfl) rfl
set_option maxRecDepth 100000 in
theorem w_570 : Cond.instanceMethod ⟨"RingChamber", "refuse", "(I)I"⟩ ∈ TB := tb_t2 (List.mem_of_getElem? (i := 226) rfl) rfl
set_option maxRecDepth 100000 in
theorem w_571 : Cond.code ⟨"RingChamber", "refuse", "(I)I"⟩ prog_1_method_62_code 2 (some FieldType.int) ∈ TB := tb_t2 (List.mem_of_getElem? (i := 227) rfl) rfl
set_option maxRecDepth 100000 in
theorem w_575 : Cond.code ⟨"RingChamber", "pour", "(IIIII)Z"⟩ prog_1_method_8_code 8 (some FieldType.boolean) ∈ TB := tb_t2 (List.mem_of_getElem? (i := 231) rfl) rfl
set_option maxRecDepth 100000 in
theorem w_576 : Cond.methodLink "RingChamber" 146 ⟨"java/lang/System", "arraycopy", "(Ljava/lang/Object;ILjava/lang/Object;II)V"⟩ ∈ TB := tb_t2 (List.mem_of_getElem? (i := 232) rfl) rfl
set_option maxRecDepth 100000 in
theorem w_577 : Cond.static ⟨"java/lang/System", "arraycopy", "(Ljava/lang/Object;ILjava/lang/Object;II)V"⟩ ∈ TB := tb_t2 (List.mem_of_getElem? (i := 233) rfl) rfl
set_option maxRecDepth 100000 in
theorem w_578 : Cond.native ⟨"java/lang/System", "arraycopy", "(Ljava/lang/Object;ILjava/lang/Object;II)V"⟩ ∈ TB := tb_t2 (List.mem_of_getElem? (i := 234) rfl) rfl
set_option maxRecDepth 100000 in
theorem w_582 : Cond.code ⟨"RingChamber", "feed", "(IIIII)I"⟩ prog_1_method_9_code 6 (some FieldType.int) ∈ TB := tb_t2 (List.mem_of_getElem? (i := 238) rfl) rfl
set_option maxRecDepth 100000 in
theorem w_583 : Cond.methodLink "RingChamber" 155 ⟨"RingChamber$Tokens", "tapeInt", "(I)V"⟩ ∈ TB := tb_t2 (List.mem_of_getElem? (i := 239) rfl) rfl
set_option maxRecDepth 100000 in
theorem w_584 : Cond.instanceMethod ⟨"RingChamber$Tokens", "tapeInt", "(I)V"⟩ ∈ TB := tb_t3 (List.mem_of_getElem? (i := 0) rfl) rfl
set_option maxRecDepth 100000 in
theorem w_585 : Cond.selects "RingChamber$Tokens" ⟨"RingChamber$Tokens", "tapeInt", "(I)V"⟩ ⟨"RingChamber$Tokens", "tapeInt", "(I)V"⟩ ∈ TB := tb_t3 (List.mem_of_getElem? (i := 1) rfl) rfl
set_option maxRecDepth 100000 in
theorem w_586 : Cond.code ⟨"RingChamber$Tokens", "tapeInt", "(I)V"⟩ prog_9_method_2_code 3 (none : Option Jvm.ClassFile.FieldType) ∈ TB := tb_t3 (List.mem_of_getElem? (i := 2) rfl) rfl
set_option maxRecDepth 100000 in
theorem w_590 : Cond.code ⟨"RingChamber", "book", "(I)I"⟩ prog_1_method_10_code 2 (some FieldType.int) ∈ TB := tb_t3 (List.mem_of_getElem? (i := 6) rfl) rfl
set_option maxRecDepth 100000 in
theorem w_591 : Cond.methodLink "RingChamber" 159 ⟨"RingChamber$BookReader", "takes", "(I)Z"⟩ ∈ TB := tb_t3 (List.mem_of_getElem? (i := 7) rfl) rfl
set_option maxRecDepth 100000 in
theorem w_592 : Cond.instanceMethod ⟨"RingChamber$BookReader", "takes", "(I)Z"⟩ ∈ TB := tb_t3 (List.mem_of_getElem? (i := 8) rfl) rfl
set_option maxRecDepth 100000 in
theorem w_593 : Cond.selects "RingChamber$BookReader" ⟨"RingChamber$BookReader", "takes", "(I)Z"⟩ ⟨"RingChamber$BookReader", "takes", "(I)Z"⟩ ∈ TB := tb_t3 (List.mem_of_getElem? (i := 9) rfl) rfl
set_option maxRecDepth 100000 in
theorem w_594 : Cond.code ⟨"RingChamber$BookReader", "takes", "(I)Z"⟩ prog_3_method_2_code 4 (some FieldType.boolean) ∈ TB := tb_t3 (List.mem_of_getElem? (i := 10) rfl) rfl
set_option maxRecDepth 100000 in
theorem w_595 : Cond.methodLink "RingChamber$BookReader" 53 ⟨"RingChamber$Tokens", "open", "(I)V"⟩ ∈ TB := tb_t3 (List.mem_of_getElem? (i := 11) rfl) rfl
set_option maxRecDepth 100000 in
theorem w_596 : Cond.instanceMethod ⟨"RingChamber$Tokens", "open", "(I)V"⟩ ∈ TB := tb_t3 (List.mem_of_getElem? (i := 12) rfl) rfl
set_option maxRecDepth 100000 in
theorem w_597 : Cond.selects "RingChamber$Tokens" ⟨"RingChamber$Tokens", "open", "(I)V"⟩ ⟨"RingChamber$Tokens", "open", "(I)V"⟩ ∈ TB := tb_t3 (List.mem_of_getElem? (i := 13) rfl) rfl
set_option maxRecDepth 100000 in
theorem w_598 : Cond.code ⟨"RingChamber$Tokens", "open", "(I)V"⟩ prog_9_method_3_code 2 (none : Option Jvm.ClassFile.FieldType) ∈ TB := tb_t3 (List.mem_of_getElem? (i := 14) rfl) rfl
set_option maxRecDepth 100000 in
theorem w_599 : Cond.methodLink "RingChamber$Tokens" 75 ⟨"java/lang/Math", "min", "(II)I"⟩ ∈ TB := tb_t3 (List.mem_of_getElem? (i := 15) rfl) rfl
set_option maxRecDepth 100000 in
theorem w_600 : Cond.static ⟨"java/lang/Math", "min", "(II)I"⟩ ∈ TB := tb_t3 (List.mem_of_getElem? (i := 16) rfl) rfl
set_option maxRecDepth 100000 in
theorem w_602 : Cond.methodLink "RingChamber$Tokens" 81 ⟨"RingChamber$Tokens", "next", "()V"⟩ ∈ TB := tb_t3 (List.mem_of_getElem? (i := 18) rfl) rfl
set_option maxRecDepth 100000 in
theorem w_603 : Cond.instanceMethod ⟨"RingChamber$Tokens", "next", "()V"⟩ ∈ TB := tb_t3 (List.mem_of_getElem? (i := 19) rfl) rfl
set_option maxRecDepth 100000 in
theorem w_604 : Cond.selects "RingChamber$Tokens" ⟨"RingChamber$Tokens", "next", "()V"⟩ ⟨"RingChamber$Tokens", "next", "()V"⟩ ∈ TB := tb_t3 (List.mem_of_getElem? (i := 20) rfl) rfl
set_option maxRecDepth 100000 in
theorem w_605 : Cond.code ⟨"RingChamber$Tokens", "next", "()V"⟩ prog_9_method_4_code 1 (none : Option Jvm.ClassFile.FieldType) ∈ TB := tb_t3 (List.mem_of_getElem? (i := 21) rfl) rfl
set_option maxRecDepth 100000 in
theorem w_606 : Cond.methodLink "RingChamber$Tokens" 84 ⟨"RingChamber$Tokens", "isLetter", "(I)Z"⟩ ∈ TB := tb_t3 (List.mem_of_getElem? (i := 22) rfl) rfl
set_option maxRecDepth 100000 in
theorem w_608 : Cond.instanceMethod ⟨"RingChamber$Tokens", "isLetter", "(I)Z"⟩ ∈ TB := tb_t3 (List.mem_of_getElem? (i := 24) rfl) rfl
set_option maxRecDepth 100000 in
theorem w_609 : Cond.code ⟨"RingChamber$Tokens", "isLetter", "(I)Z"⟩ prog_9_method_5_code 2 (some FieldType.boolean) ∈ TB := tb_t3 (List.mem_of_getElem? (i := 25) rfl) rfl
set_option maxRecDepth 100000 in
theorem w_610 : Cond.methodLink "RingChamber$Tokens" 88 ⟨"RingChamber$Tokens", "readWord", "()V"⟩ ∈ TB := tb_t3 (List.mem_of_getElem? (i := 26) rfl) rfl
set_option maxRecDepth 100000 in
theorem w_612 : Cond.instanceMethod ⟨"RingChamber$Tokens", "readWord", "()V"⟩ ∈ TB := tb_t3 (List.mem_of_getElem? (i := 28) rfl) rfl
set_option maxRecDepth 100000 in
theorem w_613 : Cond.code ⟨"RingChamber$Tokens", "readWord", "()V"⟩ prog_9_method_7_code 2 (none : Option Jvm.ClassFile.FieldType) ∈ TB := tb_t3 (List.mem_of_getElem? (i := 29) rfl) rfl
set_option maxRecDepth 100000 in
theorem w_614 : Cond.methodLink "RingChamber$Tokens" 91 ⟨"RingChamber$Tokens", "isDigit", "(I)Z"⟩ ∈ TB := tb_t3 (List.mem_of_getElem? (i := 30) rfl) rfl
set_option maxRecDepth 100000 in
theorem w_616 : Cond.instanceMethod ⟨"RingChamber$Tokens", "isDigit", "(I)Z"⟩ ∈ TB := tb_t3 (List.mem_of_getElem? (i := 32) rfl) rfl
set_option maxRecDepth 100000 in
theorem w_617 : Cond.code ⟨"RingChamber$Tokens", "isDigit", "(I)Z"⟩ prog_9_method_6_code 2 (some FieldType.boolean) ∈ TB := tb_t3 (List.mem_of_getElem? (i := 33) rfl) rfl
set_option maxRecDepth 100000 in
theorem w_618 : Cond.methodLink "RingChamber$Tokens" 94 ⟨"RingChamber$Tokens", "readNumber", "()V"⟩ ∈ TB := tb_t3 (List.mem_of_getElem? (i := 34) rfl) rfl
set_option maxRecDepth 100000 in
theorem w_620 : Cond.instanceMethod ⟨"RingChamber$Tokens", "readNumber", "()V"⟩ ∈ TB := tb_t3 (List.mem_of_getElem? (i := 36) rfl) rfl
set_option maxRecDepth 100000 in
theorem w_621 : Cond.code ⟨"RingChamber$Tokens", "readNumber", "()V"⟩ prog_9_method_8_code 1 (none : Option Jvm.ClassFile.FieldType) ∈ TB := tb_t3 (List.mem_of_getElem? (i := 37) rfl) rfl
set_option maxRecDepth 100000 in
theorem w_622 : Cond.methodLink "RingChamber$BookReader" 59 ⟨"RingChamber$BookReader", "takesStage", "()Z"⟩ ∈ TB := tb_t3 (List.mem_of_getElem? (i := 38) rfl) rfl
set_option maxRecDepth 100000 in
theorem w_624 : Cond.instanceMethod ⟨"RingChamber$BookReader", "takesStage", "()Z"⟩ ∈ TB := tb_t3 (List.mem_of_getElem? (i := 40) rfl) rfl
set_option maxRecDepth 100000 in
theorem w_625 : Cond.code ⟨"RingChamber$BookReader", "takesStage", "()Z"⟩ prog_3_method_4_code 1 (some FieldType.boolean) ∈ TB := tb_t3 (List.mem_of_getElem? (i := 41) rfl) rfl
set_option maxRecDepth 100000 in
theorem w_626 : Cond.methodLink "RingChamber$BookReader" 98 ⟨"RingChamber$Tokens", "take", "(I)Z"⟩ ∈ TB := tb_t3 (List.mem_of_getElem? (i := 42) rfl) rfl
set_option maxRecDepth 100000 in
theorem w_627 : Cond.instanceMethod ⟨"RingChamber$Tokens", "take", "(I)Z"⟩ ∈ TB := tb_t3 (List.mem_of_getElem? (i := 43) rfl) rfl
set_option maxRecDepth 100000 in
theorem w_628 : Cond.selects "RingChamber$Tokens" ⟨"RingChamber$Tokens", "take", "(I)Z"⟩ ⟨"RingChamber$Tokens", "take", "(I)Z"⟩ ∈ TB := tb_t3 (List.mem_of_getElem? (i := 44) rfl) rfl
set_option maxRecDepth 100000 in
theorem w_629 : Cond.code ⟨"RingChamber$Tokens", "take", "(I)Z"⟩ prog_9_method_12_code 2 (some FieldType.boolean) ∈ TB := tb_t3 (List.mem_of_getElem? (i := 45) rfl) rfl
set_option maxRecDepth 100000 in
theorem w_630 : Cond.methodLink "RingChamber$Tokens" 108 ⟨"RingChamber$Tokens", "misplaced", "()Z"⟩ ∈ TB := tb_t3 (List.mem_of_getElem? (i := 46) rfl) rfl
set_option maxRecDepth 100000 in
theorem w_631 : Cond.instanceMethod ⟨"RingChamber$Tokens", "misplaced", "()Z"⟩ ∈ TB := tb_t3 (List.mem_of_getElem? (i := 47) rfl) rfl
set_option maxRecDepth 100000 in
theorem w_632 : Cond.selects "RingChamber$Tokens" ⟨"RingChamber$Tokens", "misplaced", "()Z"⟩ ⟨"RingChamber$Tokens", "misplaced", "()Z"⟩ ∈ TB := tb_t3 (List.mem_of_getElem? (i := 48) rfl) rfl
set_option maxRecDepth 100000 in
theorem w_633 : Cond.code ⟨"RingChamber$Tokens", "misplaced", "()Z"⟩ prog_9_method_13_code 1 (some FieldType.boolean) ∈ TB := tb_t3 (List.mem_of_getElem? (i := 49) rfl) rfl
set_option maxRecDepth 100000 in
theorem w_634 : Cond.methodLink "RingChamber$Tokens" 112 ⟨"RingChamber$Tokens", "wrong", "(I)Z"⟩ ∈ TB := tb_t3 (List.mem_of_getElem? (i := 50) rfl) rfl
set_option maxRecDepth 100000 in
theorem w_635 : Cond.instanceMethod ⟨"RingChamber$Tokens", "wrong", "(I)Z"⟩ ∈ TB := tb_t3 (List.mem_of_getElem? (i := 51) rfl) rfl
set_option maxRecDepth 100000 in
theorem w_636 : Cond.selects "RingChamber$Tokens" ⟨"RingChamber$Tokens", "wrong", "(I)Z"⟩ ⟨"RingChamber$Tokens", "wrong", "(I)Z"⟩ ∈ TB := tb_t3 (List.mem_of_getElem? (i := 52) rfl) rfl
set_option maxRecDepth 100000 in
theorem w_637 : Cond.code ⟨"RingChamber$Tokens", "wrong", "(I)Z"⟩ prog_9_method_14_code 2 (some FieldType.boolean) ∈ TB := tb_t3 (List.mem_of_getElem? (i := 53) rfl) rfl
set_option maxRecDepth 100000 in
theorem w_638 : Cond.methodLink "RingChamber$BookReader" 63 ⟨"RingChamber$Tokens", "isAt", "(I)Z"⟩ ∈ TB := tb_t3 (List.mem_of_getElem? (i := 54) rfl) rfl
set_option maxRecDepth 100000 in
theorem w_639 : Cond.instanceMethod ⟨"RingChamber$Tokens", "isAt", "(I)Z"⟩ ∈ TB := tb_t3 (List.mem_of_getElem? (i := 55) rfl) rfl
set_option maxRecDepth 100000 in
theorem w_640 : Cond.selects "RingChamber$Tokens" ⟨"RingChamber$Tokens", "isAt", "(I)Z"⟩ ⟨"RingChamber$Tokens", "isAt", "(I)Z"⟩ ∈ TB := tb_t3 (List.mem_of_getElem? (i := 56) rfl) rfl
set_option maxRecDepth 100000 in
theorem w_641 : Cond.code ⟨"RingChamber$Tokens", "isAt", "(I)Z"⟩ prog_9_method_11_code 2 (some FieldType.boolean) ∈ TB := tb_t3 (List.mem_of_getElem? (i := 57) rfl) rfl
set_option maxRecDepth 100000 in
theorem w_642 : Cond.methodLink "RingChamber$BookReader" 73 ⟨"RingChamber$Tokens", "misplaced", "()Z"⟩ ∈ TB := tb_t3 (List.mem_of_getElem? (i := 58) rfl) rfl
set_option maxRecDepth 100000 in
theorem w_643 : Cond.methodLink "RingChamber$BookReader" 104 ⟨"RingChamber$Tokens", "wrong", "(I)Z"⟩ ∈ TB := tb_t3 (List.mem_of_getElem? (i := 59) rfl) rfl
set_option maxRecDepth 100000 in
theorem w_644 : Cond.methodLink "RingChamber$BookReader" 107 ⟨"RingChamber$Tokens", "next", "()V"⟩ ∈ TB := tb_t3 (List.mem_of_getElem? (i := 60) rfl) rfl
set_option maxRecDepth 100000 in
theorem w_645 : Cond.methodLink "RingChamber$BookReader" 67 ⟨"RingChamber$BookReader", "takesMethod", "()Z"⟩ ∈ TB := tb_t3 (List.mem_of_getElem? (i := 61) rfl) rfl
set_option maxRecDepth 100000 in
theorem w_647 : Cond.instanceMethod ⟨"RingChamber$BookReader", "takesMethod", "()Z"⟩ ∈ TB := tb_t3 (List.mem_of_getElem? (i := 63) rfl) rfl
set_option maxRecDepth 100000 in
theorem w_648 : Cond.code ⟨"RingChamber$BookReader", "takesMethod", "()Z"⟩ prog_3_method_6_code 2 (some FieldType.boolean) ∈ TB := tb_t3 (List.mem_of_getElem? (i := 64) rfl) rfl
set_option maxRecDepth 100000 in
theorem w_649 : Cond.methodLink "RingChamber$BookReader" 110 ⟨"RingChamber$BookReader", "takesNewName", "()Z"⟩ ∈ TB := tb_t3 (List.mem_of_getElem? (i := 65) rfl) rfl
set_option maxRecDepth 100000 in
theorem w_651 : Cond.instanceMethod ⟨"RingChamber$BookReader", "takesNewName", "()Z"⟩ ∈ TB := tb_t3 (List.mem_of_getElem? (i := 67) rfl) rfl
set_option maxRecDepth 100000 in
theorem w_652 : Cond.code ⟨"RingChamber$BookReader", "takesNewName", "()Z"⟩ prog_3_method_7_code 3 (some FieldType.boolean) ∈ TB := tb_t3 (List.mem_of_getElem? (i := 68) rfl) rfl
set_option maxRecDepth 100000 in
theorem w_653 : Cond.methodLink "RingChamber$BookReader" 117 ⟨"RingChamber$BookReader", "takesChanges", "()Z"⟩ ∈ TB := tb_t3 (List.mem_of_getElem? (i := 69) rfl) rfl
set_option maxRecDepth 100000 in
theorem w_655 : Cond.instanceMethod ⟨"RingChamber$BookReader", "takesChanges", "()Z"⟩ ∈ TB := tb_t3 (List.mem_of_getElem? (i := 71) rfl) rfl
set_option maxRecDepth 100000 in
theorem w_656 : Cond.code ⟨"RingChamber$BookReader", "takesChanges", "()Z"⟩ prog_3_method_9_code 3 (some FieldType.boolean) ∈ TB := tb_t3 (List.mem_of_getElem? (i := 72) rfl) rfl
set_option maxRecDepth 100000 in
theorem w_657 : Cond.methodLink "RingChamber$BookReader" 134 ⟨"RingChamber$BookReader", "seesPlaces", "()Z"⟩ ∈ TB := tb_t3 (List.mem_of_getElem? (i := 73) rfl) rfl
set_option maxRecDepth 100000 in
theorem w_659 : Cond.instanceMethod ⟨"RingChamber$BookReader", "seesPlaces", "()Z"⟩ ∈ TB := tb_t3 (List.mem_of_getElem? (i := 75) rfl) rfl
set_option maxRecDepth 100000 in
theorem w_660 : Cond.code ⟨"RingChamber$BookReader", "seesPlaces", "()Z"⟩ prog_3_method_8_code 1 (some FieldType.boolean) ∈ TB := tb_t3 (List.mem_of_getElem? (i := 76) rfl) rfl
set_option maxRecDepth 100000 in
theorem w_661 : Cond.methodLink "RingChamber$BookReader" 127 ⟨"RingChamber$Rows", "moveOf", "(II)I"⟩ ∈ TB := tb_t3 (List.mem_of_getElem? (i := 77) rfl) rfl
set_option maxRecDepth 100000 in
theorem w_662 : Cond.static ⟨"RingChamber$Rows", "moveOf", "(II)I"⟩ ∈ TB := tb_t3 (List.mem_of_getElem? (i := 78) rfl) rfl
set_option maxRecDepth 100000 in
theorem w_663 : Cond.code ⟨"RingChamber$Rows", "moveOf", "(II)I"⟩ prog_6_method_17_code 6 (some FieldType.int) ∈ TB := tb_t3 (List.mem_of_getElem? (i := 79) rfl) rfl
set_option maxRecDepth 100000 in
theorem w_664 : Cond.methodLink "RingChamber$Rows" 40 ⟨"RingChamber$Rows", "moveAround", "(II)I"⟩ ∈ TB := tb_t3 (List.mem_of_getElem? (i := 80) rfl) rfl
set_option maxRecDepth 100000 in
theorem w_665 : Cond.static ⟨"RingChamber$Rows", "moveAround", "(II)I"⟩ ∈ TB := tb_t3 (List.mem_of_getElem? (i := 81) rfl) rfl
set_option maxRecDepth 100000 in
theorem w_666 : Cond.code ⟨"RingChamber$Rows", "moveAround", "(II)I"⟩ prog_6_method_18_code 4 (some FieldType.int) ∈ TB := tb_t3 (List.mem_of_getElem? (i := 82) rfl) rfl
set_option maxRecDepth 100000 in
theorem w_667 : Cond.methodLink "RingChamber$BookReader" 131 ⟨"RingChamber$Tokens", "beginsWithZero", "()Z"⟩ ∈ TB := tb_t3 (List.mem_of_getElem? (i := 83) rfl) rfl
set_option maxRecDepth 100000 in
theorem w_668 : Cond.instanceMethod ⟨"RingChamber$Tokens", "beginsWithZero", "()Z"⟩ ∈ TB := tb_t3 (List.mem_of_getElem? (i := 84) rfl) rfl
set_option maxRecDepth 100000 in
theorem w_669 : Cond.selects "RingChamber$Tokens" ⟨"RingChamber$Tokens", "beginsWithZero", "()Z"⟩ ⟨"RingChamber$Tokens", "beginsWithZero", "()Z"⟩ ∈ TB := tb_t3 (List.mem_of_getElem? (i := 85) rfl) rfl
set_option maxRecDepth 100000 in
theorem w_670 : Cond.code ⟨"RingChamber$Tokens", "beginsWithZero", "()Z"⟩ prog_9_method_10_code 1 (some FieldType.boolean) ∈ TB := tb_t3 (List.mem_of_getElem? (i := 86) rfl) rfl
set_option maxRecDepth 100000 in
theorem w_671 : Cond.methodLink "RingChamber$BookReader" 120 ⟨"RingChamber$BookReader", "takesBack", "()Z"⟩ ∈ TB := tb_t3 (List.mem_of_getElem? (i := 87) rfl) rfl
set_option maxRecDepth 100000 in
theorem w_673 : Cond.instanceMethod ⟨"RingChamber$BookReader", "takesBack", "()Z"⟩ ∈ TB := tb_t3 (List.mem_of_getElem? (i := 89) rfl) rfl
set_option maxRecDepth 100000 in
theorem w_674 : Cond.code ⟨"RingChamber$BookReader", "takesBack", "()Z"⟩ prog_3_method_10_code 4 (some FieldType.boolean) ∈ TB := tb_t3 (List.mem_of_getElem? (i := 90) rfl) rfl
set_option maxRecDepth 100000 in
theorem w_675 : Cond.methodLink "RingChamber$BookReader" 123 ⟨"RingChamber$BookReader", "takesCall", "(II)Z"⟩ ∈ TB := tb_t3 (List.mem_of_getElem? (i := 91) rfl) rfl
set_option maxRecDepth 100000 in
theorem w_677 : Cond.instanceMethod ⟨"RingChamber$BookReader", "takesCall", "(II)Z"⟩ ∈ TB := tb_t3 (List.mem_of_getElem? (i := 93) rfl) rfl
set_option maxRecDepth 100000 in
theorem w_678 : Cond.code ⟨"RingChamber$BookReader", "takesCall", "(II)Z"⟩ prog_3_method_11_code 3 (some FieldType.boolean) ∈ TB := tb_t3 (List.mem_of_getElem? (i := 94) rfl) rfl
set_option maxRecDepth 100000 in
theorem w_679 : Cond.methodLink "RingChamber$BookReader" 70 ⟨"RingChamber$BookReader", "takesRinger", "()Z"⟩ ∈ TB := tb_t3 (List.mem_of_getElem? (i := 95) rfl) rfl
set_option maxRecDepth 100000 in
theorem w_681 : Cond.instanceMethod ⟨"RingChamber$BookReader", "takesRinger", "()Z"⟩ ∈ TB := tb_t3 (List.mem_of_getElem? (i := 97) rfl) rfl
set_option maxRecDepth 100000 in
theorem w_682 : Cond.code ⟨"RingChamber$BookReader", "takesRinger", "()Z"⟩ prog_3_method_5_code 2 (some FieldType.boolean) ∈ TB := tb_t3 (List.mem_of_getElem? (i := 98) rfl) rfl
set_option maxRecDepth 100000 in
theorem w_683 : Cond.methodLink "RingChamber" 162 ⟨"RingChamber$BookReader", "made", "()LRingChamber$Book;"⟩ ∈ TB := tb_t3 (List.mem_of_getElem? (i := 99) rfl) rfl
set_option maxRecDepth 100000 in
theorem w_684 : Cond.instanceMethod ⟨"RingChamber$BookReader", "made", "()LRingChamber$Book;"⟩ ∈ TB := tb_t3 (List.mem_of_getElem? (i := 100) rfl) rfl
set_option maxRecDepth 100000 in
theorem w_685 : Cond.selects "RingChamber$BookReader" ⟨"RingChamber$BookReader", "made", "()LRingChamber$Book;"⟩ ⟨"RingChamber$BookReader", "made", "()LRingChamber$Book;"⟩ ∈ TB := tb_t3 (List.mem_of_getElem? (i := 101) rfl) rfl
set_option maxRecDepth 100000 in
theorem w_686 : Cond.code ⟨"RingChamber$BookReader", "made", "()LRingChamber$Book;"⟩ prog_3_method_3_code 4 (some (FieldType.object "RingChamber$Book")) ∈ TB := tb_t3 (List.mem_of_getElem? (i := 102) rfl) rfl
set_option maxRecDepth 100000 in
theorem w_687 : Cond.classLink "RingChamber$BookReader" 76 "RingChamber$Method" ∈ TB := tb_t3 (List.mem_of_getElem? (i := 103) rfl) rfl
set_option maxRecDepth 100000 in
theorem w_688 : Cond.methodLink "RingChamber$BookReader" 78 ⟨"java/util/Arrays", "copyOf", "([II)[I"⟩ ∈ TB := tb_t3 (List.mem_of_getElem? (i := 104) rfl) rfl
set_option maxRecDepth 100000 in
theorem w_689 : Cond.static ⟨"java/util/Arrays", "copyOf", "([II)[I"⟩ ∈ TB := tb_t3 (List.mem_of_getElem? (i := 105) rfl) rfl
set_option maxRecDepth 100000 in
theorem w_690 : Cond.code ⟨"java/util/Arrays", "copyOf", "([II)[I"⟩ prog_21_method_123_code 3 (some (FieldType.array FieldType.int)) ∈ TB := tb_t3 (List.mem_of_getElem? (i := 106) rfl) rfl
set_option maxRecDepth 100000 in
theorem w_700 : Cond.instantiable "RingChamber$Method" 5 ∈ TB := tb_t3 (List.mem_of_getElem? (i := 116) rfl) rfl
set_option maxRecDepth 100000 in
theorem w_701 : Cond.methodLink "RingChamber$BookReader" 84 ⟨"RingChamber$Method", "<init>", "(JI[III)V"⟩ ∈ TB := tb_t3 (List.mem_of_getElem? (i := 117) rfl) rfl
set_option maxRecDepth 100000 in
theorem w_702 : Cond.instanceMethod ⟨"RingChamber$Method", "<init>", "(JI[III)V"⟩ ∈ TB := tb_t3 (List.mem_of_getElem? (i := 118) rfl) rfl
set_option maxRecDepth 100000 in
theorem w_703 : Cond.code ⟨"RingChamber$Method", "<init>", "(JI[III)V"⟩ prog_5_method_1_code 9 (none : Option Jvm.ClassFile.FieldType) ∈ TB := tb_t3 (List.mem_of_getElem? (i := 119) rfl) rfl
set_option maxRecDepth 100000 in
theorem w_704 : Cond.methodLink "RingChamber$Method" 3 ⟨"java/lang/Object", "<init>", "()V"⟩ ∈ TB := tb_t3 (List.mem_of_getElem? (i := 120) rfl) rfl
set_option maxRecDepth 100000 in
theorem w_705 : Cond.methodLink "RingChamber$Method" 28 ⟨"RingChamber$Rows", "roundsOf", "(I)I"⟩ ∈ TB := tb_t3 (List.mem_of_getElem? (i := 121) rfl) rfl
set_option maxRecDepth 100000 in
theorem w_706 : Cond.static ⟨"RingChamber$Rows", "roundsOf", "(I)I"⟩ ∈ TB := tb_t3 (List.mem_of_getElem? (i := 122) rfl) rfl
set_option maxRecDepth 100000 in
theorem w_707 : Cond.code ⟨"RingChamber$Rows", "roundsOf", "(I)I"⟩ prog_6_method_4_code 1 (some FieldType.int) ∈ TB := tb_t3 (List.mem_of_getElem? (i := 123) rfl) rfl
set_option maxRecDepth 100000 in
theorem w_708 : Cond.constant "RingChamber$Rows" 15 1985229328 ∈ TB := tb_t3 (List.mem_of_getElem? (i := 124) rfl) rfl
set_option maxRecDepth 100000 in
theorem w_709 : Cond.methodLink "RingChamber$Method" 34 ⟨"RingChamber$Rows", "moved", "(II)I"⟩ ∈ TB := tb_t3 (List.mem_of_getElem? (i := 125) rfl) rfl
set_option maxRecDepth 100000 in
theorem w_710 : Cond.static ⟨"RingChamber$Rows", "moved", "(II)I"⟩ ∈ TB := tb_t3 (List.mem_of_getElem? (i := 126) rfl) rfl
set_option maxRecDepth 100000 in
theorem w_711 : Cond.code ⟨"RingChamber$Rows", "moved", "(II)I"⟩ prog_6_method_16_code 2 (some FieldType.int) ∈ TB := tb_t3 (List.mem_of_getElem? (i := 127) rfl) rfl
set_option maxRecDepth 100000 in
theorem w_712 : Cond.fieldLink "RingChamber$Method" 9 "RingChamber$Method" "name" "J" ∈ TB := tb_t3 (List.mem_of_getElem? (i := 128) rfl) rfl
set_option maxRecDepth 100000 in
theorem w_713 : Cond.fieldLink "RingChamber$Book" 29 "RingChamber$Method" "name" "J" ∈ TB := tb_t3 (List.mem_of_getElem? (i := 129) rfl) rfl
set_option maxRecDepth 100000 in
theorem w_714 : Cond.fieldLink "RingChamber$Method" 15 "RingChamber$Method" "moves" "[I" ∈ TB := tb_t3 (List.mem_of_getElem? (i := 130) rfl) rfl
set_option maxRecDepth 100000 in
theorem w_715 : Cond.fieldLink "RingChamber" 275 "RingChamber$Method" "moves" "[I" ∈ TB := tb_t3 (List.mem_of_getElem? (i := 131) rfl) rfl
set_option maxRecDepth 100000 in
theorem w_716 : Cond.fieldLink "RingChamber$Method" 19 "RingChamber$Method" "rows" "[I" ∈ TB := tb_t3 (List.mem_of_getElem? (i := 132) rfl) rfl
set_option maxRecDepth 100000 in
theorem w_717 : Cond.fieldLink "RingChamber$Stamps" 36 "RingChamber$Method" "rows" "[I" ∈ TB := tb_t3 (List.mem_of_getElem? (i := 133) rfl) rfl
set_option maxRecDepth 100000 in
theorem w_718 : Cond.fieldLink "RingChamber" 285 "RingChamber$Method" "rows" "[I" ∈ TB := tb_t3 (List.mem_of_getElem? (i := 134) rfl) rfl
set_option maxRecDepth 100000 in
theorem w_719 : Cond.fieldLink "RingChamber$Method" 22 "RingChamber$Method" "lasts" "[I" ∈ TB := tb_t3 (List.mem_of_getElem? (i := 135) rfl) rfl
set_option maxRecDepth 100000 in
theorem w_720 : Cond.fieldLink "RingChamber$Method" 25 "RingChamber$Method" "heads" "[I" ∈ TB := tb_t3 (List.mem_of_getElem? (i := 136) rfl) rfl
set_option maxRecDepth 100000 in
theorem w_721 : Cond.fieldLink "RingChamber$Search" 77 "RingChamber$Method" "heads" "[I" ∈ TB := tb_t3 (List.mem_of_getElem? (i := 137) rfl) rfl
set_option maxRecDepth 100000 in
theorem w_722 : Cond.fieldLink "RingChamber$Composer" 69 "RingChamber$Method" "heads" "[I" ∈ TB := tb_t3 (List.mem_of_getElem? (i := 138) rfl) rfl
set_option maxRecDepth 100000 in
theorem w_723 : Cond.fieldLink "RingChamber" 268 "RingChamber$Method" "heads" "[I" ∈ TB := tb_t3 (List.mem_of_getElem? (i := 139) rfl) rfl
set_option maxRecDepth 100000 in
theorem w_735 : Cond.classLink "RingChamber$BookReader" 87 "RingChamber$Book" ∈ TB := tb_t3 (List.mem_of_getElem? (i := 151) rfl) rfl
set_option maxRecDepth 100000 in
theorem w_736 : Cond.methodLink "RingChamber$BookReader" 89 ⟨"RingChamber$Rows", "allBells", "(I)I"⟩ ∈ TB := tb_t3 (List.mem_of_getElem? (i := 152) rfl) rfl
set_option maxRecDepth 100000 in
theorem w_737 : Cond.methodLink "RingChamber$BookReader" 95 ⟨"RingChamber$Book", "<init>", "(II[LRingChamber$Method;)V"⟩ ∈ TB := tb_t3 (List.mem_of_getElem? (i := 153) rfl) rfl
set_option maxRecDepth 100000 in
theorem w_738 : Cond.methodLink "RingChamber" 170 ⟨"RingChamber", "answer", "(I)I"⟩ ∈ TB := tb_t3 (List.mem_of_getElem? (i := 154) rfl) rfl
set_option maxRecDepth 100000 in
theorem w_740 : Cond.instanceMethod ⟨"RingChamber", "answer", "(I)I"⟩ ∈ TB := tb_t3 (List.mem_of_getElem? (i := 156) rfl) rfl
set_option maxRecDepth 100000 in
theorem w_741 : Cond.code ⟨"RingChamber", "answer", "(I)I"⟩ prog_1_method_61_code 2 (some FieldType.int) ∈ TB := tb_t3 (List.mem_of_getElem? (i := 157) rfl) rfl
set_option maxRecDepth 100000 in
theorem w_745 : Cond.code ⟨"RingChamber", "touch", "(I)I"⟩ prog_1_method_11_code 2 (some FieldType.int) ∈ TB := tb_t3 (List.mem_of_getElem? (i := 161) rfl) rfl
set_option maxRecDepth 100000 in
theorem w_746 : Cond.methodLink "RingChamber" 173 ⟨"RingChamber$TouchReader", "takes", "(ILRingChamber$Book;)Z"⟩ ∈ TB := tb_t3 (List.mem_of_getElem? (i := 162) rfl) rfl
set_option maxRecDepth 100000 in
theorem w_747 : Cond.instanceMethod ⟨"RingChamber$TouchReader", "takes", "(ILRingChamber$Book;)Z"⟩ ∈ TB := tb_t3 (List.mem_of_getElem? (i := 163) rfl) rfl
set_option maxRecDepth 100000 in
theorem w_748 : Cond.selects "RingChamber$TouchReader" ⟨"RingChamber$TouchReader", "takes", "(ILRingChamber$Book;)Z"⟩ ⟨"RingChamber$TouchReader", "takes", "(ILRingChamber$Book;)Z"⟩ ∈ TB := tb_t3 (List.mem_of_getElem? (i := 164) rfl) rfl
set_option maxRecDepth 100000 in
theorem w_749 : Cond.code ⟨"RingChamber$TouchReader", "takes", "(ILRingChamber$Book;)Z"⟩ prog_11_method_2_code 5 (some FieldType.boolean) ∈ TB := tb_t3 (List.mem_of_getElem? (i := 165) rfl) rfl
set_option maxRecDepth 100000 in
theorem w_750 : Cond.methodLink "RingChamber$TouchReader" 50 ⟨"RingChamber$Tokens", "open", "(I)V"⟩ ∈ TB := tb_t3 (List.mem_of_getElem? (i := 166) rfl) rfl
set_option maxRecDepth 100000 in
theorem w_751 : Cond.methodLink "RingChamber$TouchReader" 56 ⟨"RingChamber$Tokens", "isAt", "(I)Z"⟩ ∈ TB := tb_t3 (List.mem_of_getElem? (i := 167) rfl) rfl
set_option maxRecDepth 100000 in
theorem w_752 : Cond.methodLink "RingChamber$TouchReader" 60 ⟨"RingChamber$TouchReader", "takesEnd", "()Z"⟩ ∈ TB := tb_t3 (List.mem_of_getElem? (i := 168) rfl) rfl
set_option maxRecDepth 100000 in
theorem w_754 : Cond.instanceMethod ⟨"RingChamber$TouchReader", "takesEnd", "()Z"⟩ ∈ TB := tb_t3 (List.mem_of_getElem? (i := 170) rfl) rfl
set_option maxRecDepth 100000 in
theorem w_755 : Cond.code ⟨"RingChamber$TouchReader", "takesEnd", "()Z"⟩ prog_11_method_3_code 1 (some FieldType.boolean) ∈ TB := tb_t3 (List.mem_of_getElem? (i := 171) rfl) rfl
set_option maxRecDepth 100000 in
theorem w_756 : Cond.methodLink "RingChamber$TouchReader" 68 ⟨"RingChamber$Tokens", "misplaced", "()Z"⟩ ∈ TB := tb_t3 (List.mem_of_getElem? (i := 172) rfl) rfl
set_option maxRecDepth 100000 in
theorem w_757 : Cond.methodLink "RingChamber$TouchReader" 71 ⟨"RingChamber$TouchReader", "addLine", "(I)V"⟩ ∈ TB := tb_t3 (List.mem_of_getElem? (i := 173) rfl) rfl
set_option maxRecDepth 100000 in
theorem w_759 : Cond.instanceMethod ⟨"RingChamber$TouchReader", "addLine", "(I)V"⟩ ∈ TB := tb_t3 (List.mem_of_getElem? (i := 175) rfl) rfl
set_option maxRecDepth 100000 in
theorem w_760 : Cond.code ⟨"RingChamber$TouchReader", "addLine", "(I)V"⟩ prog_11_method_6_code 2 (none : Option Jvm.ClassFile.FieldType) ∈ TB := tb_t3 (List.mem_of_getElem? (i := 176) rfl) rfl
set_option maxRecDepth 100000 in
theorem w_761 : Cond.methodLink "RingChamber$TouchReader" 74 ⟨"RingChamber$Tokens", "next", "()V"⟩ ∈ TB := tb_t3 (List.mem_of_getElem? (i := 177) rfl) rfl
set_option maxRecDepth 100000 in
theorem w_762 : Cond.methodLink "RingChamber$TouchReader" 77 ⟨"RingChamber$Tokens", "take", "(I)Z"⟩ ∈ TB := tb_t3 (List.mem_of_getElem? (i := 178) rfl) rfl
set_option maxRecDepth 100000 in
theorem w_763 : Cond.methodLink "RingChamber$TouchReader" 64 ⟨"RingChamber$TouchReader", "takesStep", "(LRingChamber$Book;)Z"⟩ ∈ TB := tb_t3 (List.mem_of_getElem? (i := 179) rfl) rfl
set_option maxRecDepth 100000 in
theorem w_765 : Cond.instanceMethod ⟨"RingChamber$TouchReader", "takesStep", "(LRingChamber$Book;)Z"⟩ ∈ TB := tb_t3 (List.mem_of_getElem? (i := 181) rfl) rfl
set_option maxRecDepth 100000 in
theorem w_766 : Cond.code ⟨"RingChamber$TouchReader", "takesStep", "(LRingChamber$Book;)Z"⟩ prog_11_method_4_code 3 (some FieldType.boolean) ∈ TB := tb_t3 (List.mem_of_getElem? (i := 182) rfl) rfl
set_option maxRecDepth 100000 in
theorem w_767 : Cond.methodLink "RingChamber$TouchReader" 83 ⟨"RingChamber$TouchReader", "isStep", "(I)Z"⟩ ∈ TB := tb_t3 (List.mem_of_getElem? (i := 183) rfl) rfl
set_option maxRecDepth 100000 in
theorem w_768 : Cond.static ⟨"RingChamber$TouchReader", "isStep", "(I)Z"⟩ ∈ TB := tb_t3 (List.mem_of_getElem? (i := 184) rfl) rfl
set_option maxRecDepth 100000 in
theorem w_769 : Cond.code ⟨"RingChamber$TouchReader", "isStep", "(I)Z"⟩ prog_11_method_5_code 1 (some FieldType.boolean) ∈ TB := tb_t3 (List.mem_of_getElem? (i := 185) rfl) rfl
set_option maxRecDepth 100000 in
theorem w_770 : Cond.methodLink "RingChamber$TouchReader" 86 ⟨"RingChamber$Tokens", "wrong", "(I)Z"⟩ ∈ TB := tb_t3 (List.mem_of_getElem? (i := 186) rfl) rfl
set_option maxRecDepth 100000 in
theorem w_771 : Cond.methodLink "RingChamber$TouchReader" 89 ⟨"RingChamber$TouchReader", "takesCount", "(I)Z"⟩ ∈ TB := tb_t3 (List.mem_of_getElem? (i := 187) rfl) rfl
set_option maxRecDepth 100000 in
theorem w_773 : Cond.instanceMethod ⟨"RingChamber$TouchReader", "takesCount", "(I)Z"⟩ ∈ TB := tb_t3 (List.mem_of_getElem? (i := 189) rfl) rfl
set_option maxRecDepth 100000 in
theorem w_774 : Cond.code ⟨"RingChamber$TouchReader", "takesCount", "(I)Z"⟩ prog_11_method_9_code 2 (some FieldType.boolean) ∈ TB := tb_t3 (List.mem_of_getElem? (i := 190) rfl) rfl
set_option maxRecDepth 100000 in
theorem w_775 : Cond.methodLink "RingChamber$TouchReader" 92 ⟨"RingChamber$TouchReader", "takesMethodName", "(LRingChamber$Book;)Z"⟩ ∈ TB := tb_t3 (List.mem_of_getElem? (i := 191) rfl) rfl
set_option maxRecDepth 100000 in
theorem w_777 : Cond.instanceMethod ⟨"RingChamber$TouchReader", "takesMethodName", "(LRingChamber$Book;)Z"⟩ ∈ TB := tb_t3 (List.mem_of_getElem? (i := 193) rfl) rfl
set_option maxRecDepth 100000 in
theorem w_778 : Cond.code ⟨"RingChamber$TouchReader", "takesMethodName", "(LRingChamber$Book;)Z"⟩ prog_11_method_7_code 3 (some FieldType.boolean) ∈ TB := tb_t3 (List.mem_of_getElem? (i := 194) rfl) rfl
set_option maxRecDepth 100000 in
theorem w_779 : Cond.methodLink "RingChamber$TouchReader" 103 ⟨"RingChamber$Book", "methodNamed", "(J)LRingChamber$Method;"⟩ ∈ TB := tb_t3 (List.mem_of_getElem? (i := 195) rfl) rfl
set_option maxRecDepth 100000 in
theorem w_780 : Cond.instanceMethod ⟨"RingChamber$Book", "methodNamed", "(J)LRingChamber$Method;"⟩ ∈ TB := tb_t3 (List.mem_of_getElem? (i := 196) rfl) rfl
set_option maxRecDepth 100000 in
theorem w_781 : Cond.selects "RingChamber$Book" ⟨"RingChamber$Book", "methodNamed", "(J)LRingChamber$Method;"⟩ ⟨"RingChamber$Book", "methodNamed", "(J)LRingChamber$Method;"⟩ ∈ TB := tb_t3 (List.mem_of_getElem? (i := 197) rfl) rfl
set_option maxRecDepth 100000 in
theorem w_782 : Cond.code ⟨"RingChamber$Book", "methodNamed", "(J)LRingChamber$Method;"⟩ prog_2_method_2_code 4 (some (FieldType.object "RingChamber$Method")) ∈ TB := tb_t3 (List.mem_of_getElem? (i := 198) rfl) rfl
set_option maxRecDepth 100000 in
theorem w_783 : Cond.methodLink "RingChamber$TouchReader" 109 ⟨"RingChamber$Method", "length", "()I"⟩ ∈ TB := tb_t3 (List.mem_of_getElem? (i := 199) rfl) rfl
set_option maxRecDepth 100000 in
theorem w_784 : Cond.instanceMethod ⟨"RingChamber$Method", "length", "()I"⟩ ∈ TB := tb_t3 (List.mem_of_getElem? (i := 200) rfl) rfl
set_option maxRecDepth 100000 in
theorem w_785 : Cond.selects "RingChamber$Method" ⟨"RingChamber$Method", "length", "()I"⟩ ⟨"RingChamber$Method", "length", "()I"⟩ ∈ TB := tb_t3 (List.mem_of_getElem? (i := 201) rfl) rfl
set_option maxRecDepth 100000 in
theorem w_786 : Cond.code ⟨"RingChamber$Method", "length", "()I"⟩ prog_5_method_2_code 1 (some FieldType.int) ∈ TB := tb_t3 (List.mem_of_getElem? (i := 202) rfl) rfl
set_option maxRecDepth 100000 in
theorem w_787 : Cond.methodLink "RingChamber$TouchReader" 95 ⟨"RingChamber$TouchReader", "lastCount", "()I"⟩ ∈ TB := tb_t3 (List.mem_of_getElem? (i := 203) rfl) rfl
set_option maxRecDepth 100000 in
theorem w_789 : Cond.instanceMethod ⟨"RingChamber$TouchReader", "lastCount", "()I"⟩ ∈ TB := tb_t3 (List.mem_of_getElem? (i := 205) rfl) rfl
set_option maxRecDepth 100000 in
theorem w_790 : Cond.code ⟨"RingChamber$TouchReader", "lastCount", "()I"⟩ prog_11_method_8_code 1 (some FieldType.int) ∈ TB := tb_t3 (List.mem_of_getElem? (i := 206) rfl) rfl
set_option maxRecDepth 100000 in
theorem w_791 : Cond.methodLink "RingChamber" 176 ⟨"RingChamber$TouchReader", "made", "(LRingChamber$Book;)LRingChamber$Touch;"⟩ ∈ TB := tb_t3 (List.mem_of_getElem? (i := 207) rfl) rfl
set_option maxRecDepth 100000 in
theorem w_792 : Cond.instanceMethod ⟨"RingChamber$TouchReader", "made", "(LRingChamber$Book;)LRingChamber$Touch;"⟩ ∈ TB := tb_t3 (List.mem_of_getElem? (i := 208) rfl) rfl
set_option maxRecDepth 100000 in
theorem w_793 : Cond.selects "RingChamber$TouchReader" ⟨"RingChamber$TouchReader", "made", "(LRingChamber$Book;)LRingChamber$Touch;"⟩ ⟨"RingChamber$TouchReader", "made", "(LRingChamber$Book;)LRingChamber$Touch;"⟩ ∈ TB := tb_t3 (List.mem_of_getElem? (i := 209) rfl) rfl
set_option maxRecDepth 100000 in
theorem w_794 : Cond.code ⟨"RingChamber$TouchReader", "made", "(LRingChamber$Book;)LRingChamber$Touch;"⟩ prog_11_method_10_code 6 (some (FieldType.object "RingChamber$Touch")) ∈ TB := tb_t3 (List.mem_of_getElem? (i := 210) rfl) rfl
set_option maxRecDepth 100000 in
theorem w_795 : Cond.methodLink "RingChamber$TouchReader" 115 ⟨"RingChamber$TouchReader", "behindEnd", "(I)I"⟩ ∈ TB := tb_t3 (List.mem_of_getElem? (i := 211) rfl) rfl
set_option maxRecDepth 100000 in
theorem w_797 : Cond.instanceMethod ⟨"RingChamber$TouchReader", "behindEnd", "(I)I"⟩ ∈ TB := tb_t3 (List.mem_of_getElem? (i := 213) rfl) rfl
set_option maxRecDepth 100000 in
theorem w_798 : Cond.code ⟨"RingChamber$TouchReader", "behindEnd", "(I)I"⟩ prog_11_method_12_code 2 (some FieldType.int) ∈ TB := tb_t3 (List.mem_of_getElem? (i := 214) rfl) rfl
set_option maxRecDepth 100000 in
theorem w_799 : Cond.methodLink "RingChamber$TouchReader" 119 ⟨"RingChamber$TouchReader", "beginLoop", "(I)V"⟩ ∈ TB := tb_t3 (List.mem_of_getElem? (i := 215) rfl) rfl
set_option maxRecDepth 100000 in
theorem w_801 : Cond.instanceMethod ⟨"RingChamber$TouchReader", "beginLoop", "(I)V"⟩ ∈ TB := tb_t3 (List.mem_of_getElem? (i := 217) rfl) rfl
set_option maxRecDepth 100000 in
theorem w_802 : Cond.code ⟨"RingChamber$TouchReader", "beginLoop", "(I)V"⟩ prog_11_method_11_code 2 (none : Option Jvm.ClassFile.FieldType) ∈ TB := tb_t3 (List.mem_of_getElem? (i := 218) rfl) rfl
set_option maxRecDepth 100000 in
theorem w_803 : Cond.methodLink "RingChamber$TouchReader" 122 ⟨"RingChamber$TouchReader", "ringLead", "(I)V"⟩ ∈ TB := tb_t3 (List.mem_of_getElem? (i := 219) rfl) rfl
set_option maxRecDepth 100000 in
theorem w_805 : Cond.instanceMethod ⟨"RingChamber$TouchReader", "ringLead", "(I)V"⟩ ∈ TB := tb_t3 (List.mem_of_getElem? (i := 221) rfl) rfl
set_option maxRecDepth 100000 in
theorem w_806 : Cond.code ⟨"RingChamber$TouchReader", "ringLead", "(I)V"⟩ prog_11_method_13_code 6 (none : Option Jvm.ClassFile.FieldType) ∈ TB := tb_t3 (List.mem_of_getElem? (i := 222) rfl) rfl
set_option maxRecDepth 100000 in
theorem w_807 : Cond.methodLink "RingChamber$TouchReader" 139 ⟨"java/lang/Math", "min", "(II)I"⟩ ∈ TB := tb_t3 (List.mem_of_getElem? (i := 223) rfl) rfl
set_option maxRecDepth 100000 in
theorem w_808 : Cond.methodLink "RingChamber$TouchReader" 145 ⟨"RingChamber$Method", "moveAt", "(II)I"⟩ ∈ TB := tb_t3 (List.mem_of_getElem? (i := 224) rfl) rfl
set_option maxRecDepth 100000 in
theorem w_809 : Cond.instanceMethod ⟨"RingChamber$Method", "moveAt", "(II)I"⟩ ∈ TB := tb_t3 (List.mem_of_getElem? (i := 225) rfl) rfl
set_option maxRecDepth 100000 in
theorem w_810 : Cond.selects "RingChamber$Method" ⟨"RingChamber$Method", "moveAt", "(II)I"⟩ ⟨"RingChamber$Method", "moveAt", "(II)I"⟩ ∈ TB := tb_t3 (List.mem_of_getElem? (i := 226) rfl) rfl
set_option maxRecDepth 100000 in
theorem w_811 : Cond.code ⟨"RingChamber$Method", "moveAt", "(II)I"⟩ prog_5_method_3_code 3 (some FieldType.int) ∈ TB := tb_t3 (List.mem_of_getElem? (i := 227) rfl) rfl
set_option maxRecDepth 100000 in
theorem w_812 : Cond.classLink "RingChamber$TouchReader" 125 "RingChamber$Touch" ∈ TB := tb_t3 (List.mem_of_getElem? (i := 228) rfl) rfl
set_option maxRecDepth 100000 in
theorem w_813 : Cond.instantiable "RingChamber$Touch" 4 ∈ TB := tb_t3 (List.mem_of_getElem? (i := 229) rfl) rfl
set_option maxRecDepth 100000 in
theorem w_814 : Cond.methodLink "RingChamber$TouchReader" 130 ⟨"java/util/Arrays", "copyOf", "([II)[I"⟩ ∈ TB := tb_t3 (List.mem_of_getElem? (i := 230) rfl) rfl
set_option maxRecDepth 100000 in
theorem w_815 : Cond.methodLink "RingChamber$TouchReader" 136 ⟨"RingChamber$Touch", "<init>", "(II[I)V"⟩ ∈ TB := tb_t3 (List.mem_of_getElem? (i := 231) rfl) rfl
set_option maxRecDepth 100000 in
theorem w_816 : Cond.instanceMethod ⟨"RingChamber$Touch", "<init>", "(II[I)V"⟩ ∈ TB := tb_t3 (List.mem_of_getElem? (i := 232) rfl) rfl
set_option maxRecDepth 100000 in
theorem w_817 : Cond.code ⟨"RingChamber$Touch", "<init>", "(II[I)V"⟩ prog_10_method_1_code 5 (none : Option Jvm.ClassFile.FieldType) ∈ TB := tb_t3 (List.mem_of_getElem? (i := 233) rfl) rfl
set_option maxRecDepth 100000 in
theorem w_818 : Cond.methodLink "RingChamber$Touch" 3 ⟨"java/lang/Object", "<init>", "()V"⟩ ∈ TB := tb_t3 (List.mem_of_getElem? (i := 234) rfl) rfl
set_option maxRecDepth 100000 in
theorem w_819 : Cond.methodLink "RingChamber$Touch" 25 ⟨"RingChamber$Rows", "roundsOf", "(I)I"⟩ ∈ TB := tb_t3 (List.mem_of_getElem? (i := 235) rfl) rfl
set_option maxRecDepth 100000 in
theorem w_820 : Cond.methodLink "RingChamber$Touch" 31 ⟨"RingChamber$Rows", "moved", "(II)I"⟩ ∈ TB := tb_t3 (List.mem_of_getElem? (i := 236) rfl) rfl
set_option maxRecDepth 100000 in
theorem w_821 : Cond.fieldLink "RingChamber$Touch" 9 "RingChamber$Touch" "stage" "I" ∈ TB := tb_t3 (List.mem_of_getElem? (i := 237) rfl) rfl
set_option maxRecDepth 100000 in
theorem w_822 : Cond.fieldLink "RingChamber$Touch" 15 "RingChamber$Touch" "steps" "I" ∈ TB := tb_t3 (List.mem_of_getElem? (i := 238) rfl) rfl
set_option maxRecDepth 100000 in
theorem w_823 : Cond.fieldLink "RingChamber" 179 "RingChamber$Touch" "steps" "I" ∈ TB := tb_t3 (List.mem_of_getElem? (i := 239) rfl) rfl
set_option maxRecDepth 100000 in
theorem w_824 : Cond.fieldLink "RingChamber$Touch" 18 "RingChamber$Touch" "moves" "[I" ∈ TB := tb_t4 (List.mem_of_getElem? (i := 0) rfl) rfl
set_option maxRecDepth 100000 in
theorem w_825 : Cond.fieldLink "RingChamber" 327 "RingChamber$Touch" "moves" "[I" ∈ TB := tb_t4 (List.mem_of_getElem? (i := 1) rfl) rfl
set_option maxRecDepth 100000 in
theorem w_826 : Cond.fieldLink "RingChamber$Touch" 22 "RingChamber$Touch" "rows" "[I" ∈ TB := tb_t4 (List.mem_of_getElem? (i := 2) rfl) rfl
set_option maxRecDepth 100000 in
theorem w_827 : Cond.fieldLink "RingChamber" 297 "RingChamber$Touch" "rows" "[I" ∈ TB := tb_t4 (List.mem_of_getElem? (i := 3) rfl) rfl
set_option maxRecDepth 100000 in
theorem w_840 : Cond.code ⟨"RingChamber", "fault", "(I)I"⟩ prog_1_method_12_code 2 (some FieldType.int) ∈ TB := tb_t4 (List.mem_of_getElem? (i := 16) rfl) rfl
set_option maxRecDepth 100000 in
theorem w_844 : Cond.code ⟨"RingChamber", "told", "(I)I"⟩ prog_1_method_13_code 2 (some FieldType.int) ∈ TB := tb_t4 (List.mem_of_getElem? (i := 20) rfl) rfl
set_option maxRecDepth 100000 in
theorem w_845 : Cond.methodLink "RingChamber" 197 ⟨"RingChamber$Touch", "last", "()I"⟩ ∈ TB := tb_t4 (List.mem_of_getElem? (i := 21) rfl) rfl
set_option maxRecDepth 100000 in
theorem w_846 : Cond.instanceMethod ⟨"RingChamber$Touch", "last", "()I"⟩ ∈ TB := tb_t4 (List.mem_of_getElem? (i := 22) rfl) rfl
set_option maxRecDepth 100000 in
theorem w_847 : Cond.selects "RingChamber$Touch" ⟨"RingChamber$Touch", "last", "()I"⟩ ⟨"RingChamber$Touch", "last", "()I"⟩ ∈ TB := tb_t4 (List.mem_of_getElem? (i := 23) rfl) rfl
set_option maxRecDepth 100000 in
theorem w_848 : Cond.code ⟨"RingChamber$Touch", "last", "()I"⟩ prog_10_method_3_code 1 (some FieldType.int) ∈ TB := tb_t4 (List.mem_of_getElem? (i := 24) rfl) rfl
set_option maxRecDepth 100000 in
theorem w_852 : Cond.code ⟨"RingChamber", "bell", "(II)I"⟩ prog_1_method_14_code 3 (some FieldType.int) ∈ TB := tb_t4 (List.mem_of_getElem? (i := 28) rfl) rfl
set_option maxRecDepth 100000 in
theorem w_853 : Cond.methodLink "RingChamber" 201 ⟨"RingChamber", "isRow", "(I)Z"⟩ ∈ TB := tb_t4 (List.mem_of_getElem? (i := 29) rfl) rfl
set_option maxRecDepth 100000 in
theorem w_855 : Cond.instanceMethod ⟨"RingChamber", "isRow", "(I)Z"⟩ ∈ TB := tb_t4 (List.mem_of_getElem? (i := 31) rfl) rfl
set_option maxRecDepth 100000 in
theorem w_856 : Cond.code ⟨"RingChamber", "isRow", "(I)Z"⟩ prog_1_method_68_code 2 (some FieldType.boolean) ∈ TB := tb_t4 (List.mem_of_getElem? (i := 32) rfl) rfl
set_option maxRecDepth 100000 in
theorem w_857 : Cond.methodLink "RingChamber" 204 ⟨"RingChamber", "isBell", "(I)Z"⟩ ∈ TB := tb_t4 (List.mem_of_getElem? (i := 33) rfl) rfl
set_option maxRecDepth 100000 in
theorem w_859 : Cond.instanceMethod ⟨"RingChamber", "isBell", "(I)Z"⟩ ∈ TB := tb_t4 (List.mem_of_getElem? (i := 35) rfl) rfl
set_option maxRecDepth 100000 in
theorem w_860 : Cond.code ⟨"RingChamber", "isBell", "(I)Z"⟩ prog_1_method_69_code 2 (some FieldType.boolean) ∈ TB := tb_t4 (List.mem_of_getElem? (i := 36) rfl) rfl
set_option maxRecDepth 100000 in
theorem w_861 : Cond.methodLink "RingChamber" 207 ⟨"RingChamber", "packed", "(I)I"⟩ ∈ TB := tb_t4 (List.mem_of_getElem? (i := 37) rfl) rfl
set_option maxRecDepth 100000 in
theorem w_863 : Cond.instanceMethod ⟨"RingChamber", "packed", "(I)I"⟩ ∈ TB := tb_t4 (List.mem_of_getElem? (i := 39) rfl) rfl
set_option maxRecDepth 100000 in
theorem w_864 : Cond.code ⟨"RingChamber", "packed", "(I)I"⟩ prog_1_method_71_code 2 (some FieldType.int) ∈ TB := tb_t4 (List.mem_of_getElem? (i := 40) rfl) rfl
set_option maxRecDepth 100000 in
theorem w_865 : Cond.methodLink "RingChamber" 372 ⟨"RingChamber$Rows", "unrank", "(II)I"⟩ ∈ TB := tb_t4 (List.mem_of_getElem? (i := 41) rfl) rfl
set_option maxRecDepth 100000 in
theorem w_866 : Cond.static ⟨"RingChamber$Rows", "unrank", "(II)I"⟩ ∈ TB := tb_t4 (List.mem_of_getElem? (i := 42) rfl) rfl
set_option maxRecDepth 100000 in
theorem w_867 : Cond.code ⟨"RingChamber$Rows", "unrank", "(II)I"⟩ prog_6_method_8_code 9 (some FieldType.int) ∈ TB := tb_t4 (List.mem_of_getElem? (i := 43) rfl) rfl
set_option maxRecDepth 100000 in
theorem w_868 : Cond.methodLink "RingChamber$Rows" 17 ⟨"RingChamber$Rows", "many", "(I)I"⟩ ∈ TB := tb_t4 (List.mem_of_getElem? (i := 44) rfl) rfl
set_option maxRecDepth 100000 in
theorem w_869 : Cond.methodLink "RingChamber$Rows" 21 ⟨"java/lang/Math", "max", "(II)I"⟩ ∈ TB := tb_t4 (List.mem_of_getElem? (i := 45) rfl) rfl
set_option maxRecDepth 100000 in
theorem w_870 : Cond.static ⟨"java/lang/Math", "max", "(II)I"⟩ ∈ TB := tb_t4 (List.mem_of_getElem? (i := 46) rfl) rfl
set_option maxRecDepth 100000 in
theorem w_872 : Cond.methodLink "RingChamber" 210 ⟨"RingChamber$Rows", "bellAt", "(II)I"⟩ ∈ TB := tb_t4 (List.mem_of_getElem? (i := 48) rfl) rfl
set_option maxRecDepth 100000 in
theorem w_873 : Cond.static ⟨"RingChamber$Rows", "bellAt", "(II)I"⟩ ∈ TB := tb_t4 (List.mem_of_getElem? (i := 49) rfl) rfl
set_option maxRecDepth 100000 in
theorem w_874 : Cond.code ⟨"RingChamber$Rows", "bellAt", "(II)I"⟩ prog_6_method_5_code 2 (some FieldType.int) ∈ TB := tb_t4 (List.mem_of_getElem? (i := 50) rfl) rfl
set_option maxRecDepth 100000 in
theorem w_878 : Cond.code ⟨"RingChamber", "number", "(I)I"⟩ prog_1_method_15_code 7 (some FieldType.int) ∈ TB := tb_t4 (List.mem_of_getElem? (i := 54) rfl) rfl
set_option maxRecDepth 100000 in
theorem w_879 : Cond.methodLink "RingChamber" 213 ⟨"RingChamber", "whyNoBells", "(II)I"⟩ ∈ TB := tb_t4 (List.mem_of_getElem? (i := 55) rfl) rfl
set_option maxRecDepth 100000 in
theorem w_881 : Cond.instanceMethod ⟨"RingChamber", "whyNoBells", "(II)I"⟩ ∈ TB := tb_t4 (List.mem_of_getElem? (i := 57) rfl) rfl
set_option maxRecDepth 100000 in
theorem w_882 : Cond.code ⟨"RingChamber", "whyNoBells", "(II)I"⟩ prog_1_method_74_code 6 (some FieldType.int) ∈ TB := tb_t4 (List.mem_of_getElem? (i := 58) rfl) rfl
set_option maxRecDepth 100000 in
theorem w_883 : Cond.methodLink "RingChamber" 216 ⟨"RingChamber", "numbered", "(I)I"⟩ ∈ TB := tb_t4 (List.mem_of_getElem? (i := 59) rfl) rfl
set_option maxRecDepth 100000 in
theorem w_885 : Cond.instanceMethod ⟨"RingChamber", "numbered", "(I)I"⟩ ∈ TB := tb_t4 (List.mem_of_getElem? (i := 61) rfl) rfl
set_option maxRecDepth 100000 in
theorem w_886 : Cond.code ⟨"RingChamber", "numbered", "(I)I"⟩ prog_1_method_72_code 2 (some FieldType.int) ∈ TB := tb_t4 (List.mem_of_getElem? (i := 62) rfl) rfl
set_option maxRecDepth 100000 in
theorem w_887 : Cond.methodLink "RingChamber" 375 ⟨"RingChamber$Rows", "rank", "(II)I"⟩ ∈ TB := tb_t4 (List.mem_of_getElem? (i := 63) rfl) rfl
set_option maxRecDepth 100000 in
theorem w_888 : Cond.static ⟨"RingChamber$Rows", "rank", "(II)I"⟩ ∈ TB := tb_t4 (List.mem_of_getElem? (i := 64) rfl) rfl
set_option maxRecDepth 100000 in
theorem w_889 : Cond.code ⟨"RingChamber$Rows", "rank", "(II)I"⟩ prog_6_method_6_code 6 (some FieldType.int) ∈ TB := tb_t4 (List.mem_of_getElem? (i := 65) rfl) rfl
set_option maxRecDepth 100000 in
theorem w_890 : Cond.constant "RingChamber$Rows" 16 286331152 ∈ TB := tb_t4 (List.mem_of_getElem? (i := 66) rfl) rfl
set_option maxRecDepth 100000 in
theorem w_894 : Cond.code ⟨"RingChamber", "product", "(II)I"⟩ prog_1_method_16_code 3 (some FieldType.int) ∈ TB := tb_t4 (List.mem_of_getElem? (i := 70) rfl) rfl
set_option maxRecDepth 100000 in
theorem w_895 : Cond.methodLink "RingChamber" 219 ⟨"RingChamber$Rows", "rankMultiplied", "(III)I"⟩ ∈ TB := tb_t4 (List.mem_of_getElem? (i := 71) rfl) rfl
set_option maxRecDepth 100000 in
theorem w_896 : Cond.static ⟨"RingChamber$Rows", "rankMultiplied", "(III)I"⟩ ∈ TB := tb_t4 (List.mem_of_getElem? (i := 72) rfl) rfl
set_option maxRecDepth 100000 in
theorem w_897 : Cond.code ⟨"RingChamber$Rows", "rankMultiplied", "(III)I"⟩ prog_6_method_7_code 7 (some FieldType.int) ∈ TB := tb_t4 (List.mem_of_getElem? (i := 73) rfl) rfl
set_option maxRecDepth 100000 in
theorem w_901 : Cond.code ⟨"RingChamber", "inverse", "(I)I"⟩ prog_1_method_17_code 2 (some FieldType.int) ∈ TB := tb_t4 (List.mem_of_getElem? (i := 77) rfl) rfl
set_option maxRecDepth 100000 in
theorem w_902 : Cond.methodLink "RingChamber" 223 ⟨"RingChamber$Rows", "invert", "(II)I"⟩ ∈ TB := tb_t4 (List.mem_of_getElem? (i := 78) rfl) rfl
set_option maxRecDepth 100000 in
theorem w_903 : Cond.static ⟨"RingChamber$Rows", "invert", "(II)I"⟩ ∈ TB := tb_t4 (List.mem_of_getElem? (i := 79) rfl) rfl
set_option maxRecDepth 100000 in
theorem w_904 : Cond.code ⟨"RingChamber$Rows", "invert", "(II)I"⟩ prog_6_method_10_code 4 (some FieldType.int) ∈ TB := tb_t4 (List.mem_of_getElem? (i := 80) rfl) rfl
set_option maxRecDepth 100000 in
theorem w_908 : Cond.code ⟨"RingChamber", "order", "(I)I"⟩ prog_1_method_18_code 2 (some FieldType.int) ∈ TB := tb_t4 (List.mem_of_getElem? (i := 84) rfl) rfl
set_option maxRecDepth 100000 in
theorem w_909 : Cond.methodLink "RingChamber" 226 ⟨"RingChamber$Rows", "orderOf", "(II)I"⟩ ∈ TB := tb_t4 (List.mem_of_getElem? (i := 85) rfl) rfl
set_option maxRecDepth 100000 in
theorem w_910 : Cond.static ⟨"RingChamber$Rows", "orderOf", "(II)I"⟩ ∈ TB := tb_t4 (List.mem_of_getElem? (i := 86) rfl) rfl
set_option maxRecDepth 100000 in
theorem w_911 : Cond.code ⟨"RingChamber$Rows", "orderOf", "(II)I"⟩ prog_6_method_11_code 5 (some FieldType.int) ∈ TB := tb_t4 (List.mem_of_getElem? (i := 87) rfl) rfl
set_option maxRecDepth 100000 in
theorem w_912 : Cond.methodLink "RingChamber$Rows" 27 ⟨"RingChamber$Rows", "roundsOf", "(I)I"⟩ ∈ TB := tb_t4 (List.mem_of_getElem? (i := 88) rfl) rfl
set_option maxRecDepth 100000 in
theorem w_913 : Cond.methodLink "RingChamber$Rows" 30 ⟨"RingChamber$Rows", "multiply", "(III)I"⟩ ∈ TB := tb_t4 (List.mem_of_getElem? (i := 89) rfl) rfl
set_option maxRecDepth 100000 in
theorem w_914 : Cond.static ⟨"RingChamber$Rows", "multiply", "(III)I"⟩ ∈ TB := tb_t4 (List.mem_of_getElem? (i := 90) rfl) rfl
set_option maxRecDepth 100000 in
theorem w_915 : Cond.code ⟨"RingChamber$Rows", "multiply", "(III)I"⟩ prog_6_method_9_code 5 (some FieldType.int) ∈ TB := tb_t4 (List.mem_of_getElem? (i := 91) rfl) rfl
set_option maxRecDepth 100000 in
theorem w_919 : Cond.code ⟨"RingChamber", "even", "(I)I"⟩ prog_1_method_19_code 2 (some FieldType.int) ∈ TB := tb_t4 (List.mem_of_getElem? (i := 95) rfl) rfl
set_option maxRecDepth 100000 in
theorem w_920 : Cond.methodLink "RingChamber" 229 ⟨"RingChamber$Rows", "isEven", "(II)Z"⟩ ∈ TB := tb_t4 (List.mem_of_getElem? (i := 96) rfl) rfl
set_option maxRecDepth 100000 in
theorem w_921 : Cond.static ⟨"RingChamber$Rows", "isEven", "(II)Z"⟩ ∈ TB := tb_t4 (List.mem_of_getElem? (i := 97) rfl) rfl
set_option maxRecDepth 100000 in
theorem w_922 : Cond.code ⟨"RingChamber$Rows", "isEven", "(II)Z"⟩ prog_6_method_13_code 2 (some FieldType.boolean) ∈ TB := tb_t4 (List.mem_of_getElem? (i := 98) rfl) rfl
set_option maxRecDepth 100000 in
theorem w_923 : Cond.methodLink "RingChamber$Rows" 34 ⟨"RingChamber$Rows", "inversions", "(II)I"⟩ ∈ TB := tb_t4 (List.mem_of_getElem? (i := 99) rfl) rfl
set_option maxRecDepth 100000 in
theorem w_924 : Cond.static ⟨"RingChamber$Rows", "inversions", "(II)I"⟩ ∈ TB := tb_t4 (List.mem_of_getElem? (i := 100) rfl) rfl
set_option maxRecDepth 100000 in
theorem w_925 : Cond.code ⟨"RingChamber$Rows", "inversions", "(II)I"⟩ prog_6_method_12_code 6 (some FieldType.int) ∈ TB := tb_t4 (List.mem_of_getElem? (i := 101) rfl) rfl
set_option maxRecDepth 100000 in
theorem w_929 : Cond.code ⟨"RingChamber", "done", "(II)I"⟩ prog_1_method_20_code 4 (some FieldType.int) ∈ TB := tb_t4 (List.mem_of_getElem? (i := 105) rfl) rfl
set_option maxRecDepth 100000 in
theorem w_930 : Cond.methodLink "RingChamber" 232 ⟨"RingChamber$Rows", "moveOf", "(II)I"⟩ ∈ TB := tb_t4 (List.mem_of_getElem? (i := 106) rfl) rfl
set_option maxRecDepth 100000 in
theorem w_931 : Cond.methodLink "RingChamber" 235 ⟨"RingChamber$Rows", "moved", "(II)I"⟩ ∈ TB := tb_t4 (List.mem_of_getElem? (i := 107) rfl) rfl
set_option maxRecDepth 100000 in
theorem w_935 : Cond.code ⟨"RingChamber", "power", "(II)I"⟩ prog_1_method_21_code 6 (some FieldType.int) ∈ TB := tb_t4 (List.mem_of_getElem? (i := 111) rfl) rfl
set_option maxRecDepth 100000 in
theorem w_936 : Cond.methodLink "RingChamber" 238 ⟨"RingChamber$Rows", "roundsOf", "(I)I"⟩ ∈ TB := tb_t4 (List.mem_of_getElem? (i := 112) rfl) rfl
set_option maxRecDepth 100000 in
theorem w_937 : Cond.methodLink "RingChamber" 241 ⟨"RingChamber$Rows", "multiply", "(III)I"⟩ ∈ TB := tb_t4 (List.mem_of_getElem? (i := 113) rfl) rfl
set_option maxRecDepth 100000 in
theorem w_941 : Cond.code ⟨"RingChamber", "cycles", "(II)I"⟩ prog_1_method_22_code 3 (some FieldType.int) ∈ TB := tb_t4 (List.mem_of_getElem? (i := 117) rfl) rfl
set_option maxRecDepth 100000 in
theorem w_942 : Cond.methodLink "RingChamber" 244 ⟨"RingChamber$Rows", "cyclesOf", "(III)I"⟩ ∈ TB := tb_t4 (List.mem_of_getElem? (i := 118) rfl) rfl
set_option maxRecDepth 100000 in
theorem w_943 : Cond.static ⟨"RingChamber$Rows", "cyclesOf", "(III)I"⟩ ∈ TB := tb_t4 (List.mem_of_getElem? (i := 119) rfl) rfl
set_option maxRecDepth 100000 in
theorem w_944 : Cond.code ⟨"RingChamber$Rows", "cyclesOf", "(III)I"⟩ prog_6_method_14_code 8 (some FieldType.int) ∈ TB := tb_t4 (List.mem_of_getElem? (i := 120) rfl) rfl
set_option maxRecDepth 100000 in
theorem w_945 : Cond.methodLink "RingChamber$Rows" 37 ⟨"RingChamber$Rows", "bellAt", "(II)I"⟩ ∈ TB := tb_t4 (List.mem_of_getElem? (i := 121) rfl) rfl
set_option maxRecDepth 100000 in
theorem w_949 : Cond.code ⟨"RingChamber", "distance", "(II)I"⟩ prog_1_method_23_code 4 (some FieldType.int) ∈ TB := tb_t4 (List.mem_of_getElem? (i := 125) rfl) rfl
set_option maxRecDepth 100000 in
theorem w_950 : Cond.methodLink "RingChamber" 247 ⟨"RingChamber$Rows", "inversions", "(II)I"⟩ ∈ TB := tb_t4 (List.mem_of_getElem? (i := 126) rfl) rfl
set_option maxRecDepth 100000 in
theorem w_954 : Cond.code ⟨"RingChamber", "between", "(II)I"⟩ prog_1_method_24_code 4 (some FieldType.int) ∈ TB := tb_t4 (List.mem_of_getElem? (i := 130) rfl) rfl
set_option maxRecDepth 100000 in
theorem w_955 : Cond.methodLink "RingChamber" 250 ⟨"RingChamber$Rows", "moveBetween", "(III)I"⟩ ∈ TB := tb_t4 (List.mem_of_getElem? (i := 131) rfl) rfl
set_option maxRecDepth 100000 in
theorem w_956 : Cond.static ⟨"RingChamber$Rows", "moveBetween", "(III)I"⟩ ∈ TB := tb_t4 (List.mem_of_getElem? (i := 132) rfl) rfl
set_option maxRecDepth 100000 in
theorem w_957 : Cond.code ⟨"RingChamber$Rows", "moveBetween", "(III)I"⟩ prog_6_method_19_code 5 (some FieldType.int) ∈ TB := tb_t4 (List.mem_of_getElem? (i := 133) rfl) rfl
set_option maxRecDepth 100000 in
theorem w_958 : Cond.methodLink "RingChamber$Rows" 43 ⟨"RingChamber$Rows", "moved", "(II)I"⟩ ∈ TB := tb_t4 (List.mem_of_getElem? (i := 134) rfl) rfl
set_option maxRecDepth 100000 in
theorem w_959 : Cond.methodLink "RingChamber" 253 ⟨"RingChamber$Rows", "placesOf", "(II)I"⟩ ∈ TB := tb_t4 (List.mem_of_getElem? (i := 135) rfl) rfl
set_option maxRecDepth 100000 in
theorem w_960 : Cond.static ⟨"RingChamber$Rows", "placesOf", "(II)I"⟩ ∈ TB := tb_t4 (List.mem_of_getElem? (i := 136) rfl) rfl
set_option maxRecDepth 100000 in
theorem w_961 : Cond.code ⟨"RingChamber$Rows", "placesOf", "(II)I"⟩ prog_6_method_20_code 4 (some FieldType.int) ∈ TB := tb_t4 (List.mem_of_getElem? (i := 137) rfl) rfl
set_option maxRecDepth 100000 in
theorem w_965 : Cond.code ⟨"RingChamber", "changes", "(I)I"⟩ prog_1_method_25_code 2 (some FieldType.int) ∈ TB := tb_t4 (List.mem_of_getElem? (i := 141) rfl) rfl
set_option maxRecDepth 100000 in
theorem w_966 : Cond.methodLink "RingChamber" 256 ⟨"RingChamber", "isMethod", "(I)Z"⟩ ∈ TB := tb_t4 (List.mem_of_getElem? (i := 142) rfl) rfl
set_option maxRecDepth 100000 in
theorem w_968 : Cond.instanceMethod ⟨"RingChamber", "isMethod", "(I)Z"⟩ ∈ TB := tb_t4 (List.mem_of_getElem? (i := 144) rfl) rfl
set_option maxRecDepth 100000 in
theorem w_969 : Cond.code ⟨"RingChamber", "isMethod", "(I)Z"⟩ prog_1_method_70_code 2 (some FieldType.boolean) ∈ TB := tb_t4 (List.mem_of_getElem? (i := 145) rfl) rfl
set_option maxRecDepth 100000 in
theorem w_970 : Cond.methodLink "RingChamber" 259 ⟨"RingChamber$Method", "length", "()I"⟩ ∈ TB := tb_t4 (List.mem_of_getElem? (i := 146) rfl) rfl
set_option maxRecDepth 100000 in
theorem w_974 : Cond.code ⟨"RingChamber", "change", "(III)I"⟩ prog_1_method_26_code 4 (some FieldType.int) ∈ TB := tb_t4 (List.mem_of_getElem? (i := 150) rfl) rfl
set_option maxRecDepth 100000 in
theorem w_975 : Cond.methodLink "RingChamber" 262 ⟨"RingChamber", "isCall", "(I)Z"⟩ ∈ TB := tb_t4 (List.mem_of_getElem? (i := 151) rfl) rfl
set_option maxRecDepth 100000 in
theorem w_976 : Cond.static ⟨"RingChamber", "isCall", "(I)Z"⟩ ∈ TB := tb_t4 (List.mem_of_getElem? (i := 152) rfl) rfl
set_option maxRecDepth 100000 in
theorem w_977 : Cond.code ⟨"RingChamber", "isCall", "(I)Z"⟩ prog_1_method_66_code 1 (some FieldType.boolean) ∈ TB := tb_t4 (List.mem_of_getElem? (i := 153) rfl) rfl
set_option maxRecDepth 100000 in
theorem w_978 : Cond.methodLink "RingChamber" 265 ⟨"RingChamber$Method", "moveAt", "(II)I"⟩ ∈ TB := tb_t4 (List.mem_of_getElem? (i := 154) rfl) rfl
set_option maxRecDepth 100000 in
theorem w_982 : Cond.code ⟨"RingChamber", "head", "(II)I"⟩ prog_1_method_27_code 3 (some FieldType.int) ∈ TB := tb_t4 (List.mem_of_getElem? (i := 158) rfl) rfl
set_option maxRecDepth 100000 in
theorem w_986 : Cond.code ⟨"RingChamber", "course", "(II)I"⟩ prog_1_method_28_code 3 (some FieldType.int) ∈ TB := tb_t4 (List.mem_of_getElem? (i := 162) rfl) rfl
set_option maxRecDepth 100000 in
theorem w_990 : Cond.code ⟨"RingChamber", "fixed", "(II)I"⟩ prog_1_method_29_code 3 (some FieldType.int) ∈ TB := tb_t4 (List.mem_of_getElem? (i := 166) rfl) rfl
set_option maxRecDepth 100000 in
theorem w_991 : Cond.methodLink "RingChamber" 272 ⟨"RingChamber$Rows", "fixedOf", "(II)I"⟩ ∈ TB := tb_t4 (List.mem_of_getElem? (i := 167) rfl) rfl
set_option maxRecDepth 100000 in
theorem w_992 : Cond.static ⟨"RingChamber$Rows", "fixedOf", "(II)I"⟩ ∈ TB := tb_t4 (List.mem_of_getElem? (i := 168) rfl) rfl
set_option maxRecDepth 100000 in
theorem w_993 : Cond.code ⟨"RingChamber$Rows", "fixedOf", "(II)I"⟩ prog_6_method_15_code 4 (some FieldType.int) ∈ TB := tb_t4 (List.mem_of_getElem? (i := 169) rfl) rfl
set_option maxRecDepth 100000 in
theorem w_997 : Cond.code ⟨"RingChamber", "symmetric", "(I)I"⟩ prog_1_method_30_code 3 (some FieldType.int) ∈ TB := tb_t4 (List.mem_of_getElem? (i := 173) rfl) rfl
set_option maxRecDepth 100000 in
theorem w_998 : Cond.methodLink "RingChamber" 278 ⟨"RingChamber", "readsBackward", "([II)Z"⟩ ∈ TB := tb_t4 (List.mem_of_getElem? (i := 174) rfl) rfl
set_option maxRecDepth 100000 in
theorem w_999 : Cond.static ⟨"RingChamber", "readsBackward", "([II)Z"⟩ ∈ TB := tb_t4 (List.mem_of_getElem? (i := 175) rfl) rfl
set_option maxRecDepth 100000 in
theorem w_1000 : Cond.code ⟨"RingChamber", "readsBackward", "([II)Z"⟩ prog_1_method_78_code 3 (some FieldType.boolean) ∈ TB := tb_t4 (List.mem_of_getElem? (i := 176) rfl) rfl
set_option maxRecDepth 100000 in
theorem w_1004 : Cond.code ⟨"RingChamber", "leadTrue", "(I)I"⟩ prog_1_method_31_code 2 (some FieldType.int) ∈ TB := tb_t4 (List.mem_of_getElem? (i := 180) rfl) rfl
set_option maxRecDepth 100000 in
theorem w_1005 : Cond.methodLink "RingChamber" 282 ⟨"RingChamber$Method", "isUnlike", "(I)Z"⟩ ∈ TB := tb_t4 (List.mem_of_getElem? (i := 181) rfl) rfl
set_option maxRecDepth 100000 in
theorem w_1006 : Cond.instanceMethod ⟨"RingChamber$Method", "isUnlike", "(I)Z"⟩ ∈ TB := tb_t4 (List.mem_of_getElem? (i := 182) rfl) rfl
set_option maxRecDepth 100000 in
theorem w_1007 : Cond.selects "RingChamber$Method" ⟨"RingChamber$Method", "isUnlike", "(I)Z"⟩ ⟨"RingChamber$Method", "isUnlike", "(I)Z"⟩ ∈ TB := tb_t4 (List.mem_of_getElem? (i := 183) rfl) rfl
set_option maxRecDepth 100000 in
theorem w_1008 : Cond.code ⟨"RingChamber$Method", "isUnlike", "(I)Z"⟩ prog_5_method_5_code 5 (some FieldType.boolean) ∈ TB := tb_t4 (List.mem_of_getElem? (i := 184) rfl) rfl
set_option maxRecDepth 100000 in
theorem w_1009 : Cond.methodLink "RingChamber$Method" 38 ⟨"java/lang/Math", "min", "(II)I"⟩ ∈ TB := tb_t4 (List.mem_of_getElem? (i := 185) rfl) rfl
set_option maxRecDepth 100000 in
theorem w_1013 : Cond.code ⟨"RingChamber", "falseAgainst", "(II)I"⟩ prog_1_method_32_code 6 (some FieldType.int) ∈ TB := tb_t4 (List.mem_of_getElem? (i := 189) rfl) rfl
set_option maxRecDepth 100000 in
theorem w_1014 : Cond.methodLink "RingChamber" 287 ⟨"RingChamber$Method", "behind", "(I)I"⟩ ∈ TB := tb_t4 (List.mem_of_getElem? (i := 190) rfl) rfl
set_option maxRecDepth 100000 in
theorem w_1015 : Cond.instanceMethod ⟨"RingChamber$Method", "behind", "(I)I"⟩ ∈ TB := tb_t4 (List.mem_of_getElem? (i := 191) rfl) rfl
set_option maxRecDepth 100000 in
theorem w_1016 : Cond.selects "RingChamber$Method" ⟨"RingChamber$Method", "behind", "(I)I"⟩ ⟨"RingChamber$Method", "behind", "(I)I"⟩ ∈ TB := tb_t4 (List.mem_of_getElem? (i := 192) rfl) rfl
set_option maxRecDepth 100000 in
theorem w_1017 : Cond.code ⟨"RingChamber$Method", "behind", "(I)I"⟩ prog_5_method_4_code 3 (some FieldType.int) ∈ TB := tb_t4 (List.mem_of_getElem? (i := 193) rfl) rfl
set_option maxRecDepth 100000 in
theorem w_1021 : Cond.code ⟨"RingChamber", "falses", "(I)I"⟩ prog_1_method_33_code 2 (some FieldType.int) ∈ TB := tb_t4 (List.mem_of_getElem? (i := 197) rfl) rfl
set_option maxRecDepth 100000 in
theorem w_1022 : Cond.methodLink "RingChamber" 290 ⟨"RingChamber$Stamps", "stampFalse", "(LRingChamber$Book;LRingChamber$Method;I)I"⟩ ∈ TB := tb_t4 (List.mem_of_getElem? (i := 198) rfl) rfl
set_option maxRecDepth 100000 in
theorem w_1023 : Cond.instanceMethod ⟨"RingChamber$Stamps", "stampFalse", "(LRingChamber$Book;LRingChamber$Method;I)I"⟩ ∈ TB := tb_t4 (List.mem_of_getElem? (i := 199) rfl) rfl
set_option maxRecDepth 100000 in
theorem w_1024 : Cond.selects "RingChamber$Stamps" ⟨"RingChamber$Stamps", "stampFalse", "(LRingChamber$Book;LRingChamber$Method;I)I"⟩ ⟨"RingChamber$Stamps", "stampFalse", "(LRingChamber$Book;LRingChamber$Method;I)I"⟩ ∈ TB := tb_t4 (List.mem_of_getElem? (i := 200) rfl) rfl
set_option maxRecDepth 100000 in
theorem w_1025 : Cond.code ⟨"RingChamber$Stamps", "stampFalse", "(LRingChamber$Book;LRingChamber$Method;I)I"⟩ prog_8_method_5_code 9 (some FieldType.int) ∈ TB := tb_t4 (List.mem_of_getElem? (i := 201) rfl) rfl
set_option maxRecDepth 100000 in
theorem w_1026 : Cond.methodLink "RingChamber$Stamps" 22 ⟨"RingChamber$Stamps", "begin", "(I)V"⟩ ∈ TB := tb_t4 (List.mem_of_getElem? (i := 202) rfl) rfl
set_option maxRecDepth 100000 in
theorem w_1027 : Cond.instanceMethod ⟨"RingChamber$Stamps", "begin", "(I)V"⟩ ∈ TB := tb_t4 (List.mem_of_getElem? (i := 203) rfl) rfl
set_option maxRecDepth 100000 in
theorem w_1028 : Cond.selects "RingChamber$Stamps" ⟨"RingChamber$Stamps", "begin", "(I)V"⟩ ⟨"RingChamber$Stamps", "begin", "(I)V"⟩ ∈ TB := tb_t4 (List.mem_of_getElem? (i := 204) rfl) rfl
set_option maxRecDepth 100000 in
theorem w_1029 : Cond.code ⟨"RingChamber$Stamps", "begin", "(I)V"⟩ prog_8_method_2_code 2 (none : Option Jvm.ClassFile.FieldType) ∈ TB := tb_t4 (List.mem_of_getElem? (i := 205) rfl) rfl
set_option maxRecDepth 100000 in
theorem w_1030 : Cond.methodLink "RingChamber$Stamps" 26 ⟨"RingChamber$Stamps", "add", "(I)Z"⟩ ∈ TB := tb_t4 (List.mem_of_getElem? (i := 206) rfl) rfl
set_option maxRecDepth 100000 in
theorem w_1031 : Cond.instanceMethod ⟨"RingChamber$Stamps", "add", "(I)Z"⟩ ∈ TB := tb_t4 (List.mem_of_getElem? (i := 207) rfl) rfl
set_option maxRecDepth 100000 in
theorem w_1032 : Cond.selects "RingChamber$Stamps" ⟨"RingChamber$Stamps", "add", "(I)Z"⟩ ⟨"RingChamber$Stamps", "add", "(I)Z"⟩ ∈ TB := tb_t4 (List.mem_of_getElem? (i := 208) rfl) rfl
set_option maxRecDepth 100000 in
theorem w_1033 : Cond.code ⟨"RingChamber$Stamps", "add", "(I)Z"⟩ prog_8_method_4_code 2 (some FieldType.boolean) ∈ TB := tb_t4 (List.mem_of_getElem? (i := 209) rfl) rfl
set_option maxRecDepth 100000 in
theorem w_1034 : Cond.methodLink "RingChamber$Stamps" 30 ⟨"RingChamber$Method", "length", "()I"⟩ ∈ TB := tb_t4 (List.mem_of_getElem? (i := 210) rfl) rfl
set_option maxRecDepth 100000 in
theorem w_1035 : Cond.methodLink "RingChamber$Stamps" 38 ⟨"java/lang/Math", "min", "(II)I"⟩ ∈ TB := tb_t4 (List.mem_of_getElem? (i := 211) rfl) rfl
set_option maxRecDepth 100000 in
theorem w_1036 : Cond.methodLink "RingChamber$Stamps" 47 ⟨"RingChamber$Rows", "invert", "(II)I"⟩ ∈ TB := tb_t4 (List.mem_of_getElem? (i := 212) rfl) rfl
set_option maxRecDepth 100000 in
theorem w_1037 : Cond.methodLink "RingChamber$Stamps" 52 ⟨"RingChamber$Rows", "rankMultiplied", "(III)I"⟩ ∈ TB := tb_t4 (List.mem_of_getElem? (i := 213) rfl) rfl
set_option maxRecDepth 100000 in
theorem w_1041 : Cond.code ⟨"RingChamber", "leadsTo", "(II)I"⟩ prog_1_method_34_code 8 (some FieldType.int) ∈ TB := tb_t4 (List.mem_of_getElem? (i := 217) rfl) rfl
set_option maxRecDepth 100000 in
theorem w_1045 : Cond.code ⟨"RingChamber", "inLead", "(II)I"⟩ prog_1_method_35_code 4 (some FieldType.int) ∈ TB := tb_t4 (List.mem_of_getElem? (i := 221) rfl) rfl
set_option maxRecDepth 100000 in
theorem w_1049 : Cond.code ⟨"RingChamber", "ring", "()I"⟩ prog_1_method_36_code 1 (some FieldType.int) ∈ TB := tb_t4 (List.mem_of_getElem? (i := 225) rfl) rfl
set_option maxRecDepth 100000 in
theorem w_1053 : Cond.code ⟨"RingChamber", "rowAt", "(I)I"⟩ prog_1_method_37_code 3 (some FieldType.int) ∈ TB := tb_t4 (List.mem_of_getElem? (i := 229) rfl) rfl
set_option maxRecDepth 100000 in
theorem w_1054 : Cond.methodLink "RingChamber" 294 ⟨"RingChamber", "whyNotRung", "(I)I"⟩ ∈ TB := tb_t4 (List.mem_of_getElem? (i := 230) rfl) rfl
set_option maxRecDepth 100000 in
theorem w_1056 : Cond.instanceMethod ⟨"RingChamber", "whyNotRung", "(I)I"⟩ ∈ TB := tb_t4 (List.mem_of_getElem? (i := 232) rfl) rfl
set_option maxRecDepth 100000 in
theorem w_1057 : Cond.code ⟨"RingChamber", "whyNotRung", "(I)I"⟩ prog_1_method_75_code 2 (some FieldType.int) ∈ TB := tb_t4 (List.mem_of_getElem? (i := 233) rfl) rfl
set_option maxRecDepth 100000 in
theorem w_1061 : Cond.code ⟨"RingChamber", "round", "()I"⟩ prog_1_method_38_code 2 (some FieldType.int) ∈ TB := tb_t4 (List.mem_of_getElem? (i := 237) rfl) rfl
set_option maxRecDepth 100000 in
theorem w_1062 : Cond.methodLink "RingChamber" 298 ⟨"RingChamber$Touch", "firstRounds", "()I"⟩ ∈ TB := tb_t4 (List.mem_of_getElem? (i := 238) rfl) rfl
set_option maxRecDepth 100000 in
theorem w_1063 : Cond.instanceMethod ⟨"RingChamber$Touch", "firstRounds", "()I"⟩ ∈ TB := tb_t4 (List.mem_of_getElem? (i := 239) rfl) rfl
set_option maxRecDepth 100000 in
theorem w_1064 : Cond.selects "RingChamber$Touch" ⟨"RingChamber$Touch", "firstRounds", "()I"⟩ ⟨"RingChamber$Touch", "firstRounds", "()I"⟩ ∈ TB := tb_t5 (List.mem_of_getElem? (i := 0) rfl) rfl
set_option maxRecDepth 100000 in
theorem w_1065 : Cond.code ⟨"RingChamber$Touch", "firstRounds", "()I"⟩ prog_10_method_4_code 1 (some FieldType.int) ∈ TB := tb_t5 (List.mem_of_getElem? (i := 1) rfl) rfl
set_option maxRecDepth 100000 in
theorem w_1066 : Cond.methodLink "RingChamber$Touch" 36 ⟨"RingChamber$Touch", "nextLike", "(I)I"⟩ ∈ TB := tb_t5 (List.mem_of_getElem? (i := 2) rfl) rfl
set_option maxRecDepth 100000 in
theorem w_1068 : Cond.instanceMethod ⟨"RingChamber$Touch", "nextLike", "(I)I"⟩ ∈ TB := tb_t5 (List.mem_of_getElem? (i := 4) rfl) rfl
set_option maxRecDepth 100000 in
theorem w_1069 : Cond.code ⟨"RingChamber$Touch", "nextLike", "(I)I"⟩ prog_10_method_6_code 3 (some FieldType.int) ∈ TB := tb_t5 (List.mem_of_getElem? (i := 5) rfl) rfl
set_option maxRecDepth 100000 in
theorem w_1073 : Cond.code ⟨"RingChamber", "isTrue", "()I"⟩ prog_1_method_39_code 1 (some FieldType.int) ∈ TB := tb_t5 (List.mem_of_getElem? (i := 9) rfl) rfl
set_option maxRecDepth 100000 in
theorem w_1074 : Cond.methodLink "RingChamber" 301 ⟨"RingChamber$Touch", "secondAlike", "(LRingChamber$Stamps;)I"⟩ ∈ TB := tb_t5 (List.mem_of_getElem? (i := 10) rfl) rfl
set_option maxRecDepth 100000 in
theorem w_1075 : Cond.instanceMethod ⟨"RingChamber$Touch", "secondAlike", "(LRingChamber$Stamps;)I"⟩ ∈ TB := tb_t5 (List.mem_of_getElem? (i := 11) rfl) rfl
set_option maxRecDepth 100000 in
theorem w_1076 : Cond.selects "RingChamber$Touch" ⟨"RingChamber$Touch", "secondAlike", "(LRingChamber$Stamps;)I"⟩ ⟨"RingChamber$Touch", "secondAlike", "(LRingChamber$Stamps;)I"⟩ ∈ TB := tb_t5 (List.mem_of_getElem? (i := 12) rfl) rfl
set_option maxRecDepth 100000 in
theorem w_1077 : Cond.code ⟨"RingChamber$Touch", "secondAlike", "(LRingChamber$Stamps;)I"⟩ prog_10_method_7_code 3 (some FieldType.int) ∈ TB := tb_t5 (List.mem_of_getElem? (i := 13) rfl) rfl
set_option maxRecDepth 100000 in
theorem w_1078 : Cond.methodLink "RingChamber$Touch" 39 ⟨"RingChamber$Rows", "many", "(I)I"⟩ ∈ TB := tb_t5 (List.mem_of_getElem? (i := 14) rfl) rfl
set_option maxRecDepth 100000 in
theorem w_1079 : Cond.methodLink "RingChamber$Touch" 42 ⟨"RingChamber$Stamps", "begin", "(I)V"⟩ ∈ TB := tb_t5 (List.mem_of_getElem? (i := 15) rfl) rfl
set_option maxRecDepth 100000 in
theorem w_1080 : Cond.methodLink "RingChamber$Touch" 48 ⟨"RingChamber$Rows", "rank", "(II)I"⟩ ∈ TB := tb_t5 (List.mem_of_getElem? (i := 16) rfl) rfl
set_option maxRecDepth 100000 in
theorem w_1081 : Cond.methodLink "RingChamber$Touch" 51 ⟨"RingChamber$Stamps", "add", "(I)Z"⟩ ∈ TB := tb_t5 (List.mem_of_getElem? (i := 17) rfl) rfl
set_option maxRecDepth 100000 in
theorem w_1085 : Cond.code ⟨"RingChamber", "falseAt", "(I)I"⟩ prog_1_method_40_code 3 (some FieldType.int) ∈ TB := tb_t5 (List.mem_of_getElem? (i := 21) rfl) rfl
set_option maxRecDepth 100000 in
theorem w_1086 : Cond.methodLink "RingChamber" 305 ⟨"RingChamber$Touch", "firstLike", "(I)I"⟩ ∈ TB := tb_t5 (List.mem_of_getElem? (i := 22) rfl) rfl
set_option maxRecDepth 100000 in
theorem w_1087 : Cond.instanceMethod ⟨"RingChamber$Touch", "firstLike", "(I)I"⟩ ∈ TB := tb_t5 (List.mem_of_getElem? (i := 23) rfl) rfl
set_option maxRecDepth 100000 in
theorem w_1088 : Cond.selects "RingChamber$Touch" ⟨"RingChamber$Touch", "firstLike", "(I)I"⟩ ⟨"RingChamber$Touch", "firstLike", "(I)I"⟩ ∈ TB := tb_t5 (List.mem_of_getElem? (i := 24) rfl) rfl
set_option maxRecDepth 100000 in
theorem w_1089 : Cond.code ⟨"RingChamber$Touch", "firstLike", "(I)I"⟩ prog_10_method_5_code 2 (some FieldType.int) ∈ TB := tb_t5 (List.mem_of_getElem? (i := 25) rfl) rfl
set_option maxRecDepth 100000 in
theorem w_1093 : Cond.code ⟨"RingChamber", "repeats", "()I"⟩ prog_1_method_41_code 1 (some FieldType.int) ∈ TB := tb_t5 (List.mem_of_getElem? (i := 29) rfl) rfl
set_option maxRecDepth 100000 in
theorem w_1094 : Cond.methodLink "RingChamber" 308 ⟨"RingChamber$Touch", "alike", "(LRingChamber$Stamps;I)I"⟩ ∈ TB := tb_t5 (List.mem_of_getElem? (i := 30) rfl) rfl
set_option maxRecDepth 100000 in
theorem w_1095 : Cond.instanceMethod ⟨"RingChamber$Touch", "alike", "(LRingChamber$Stamps;I)I"⟩ ∈ TB := tb_t5 (List.mem_of_getElem? (i := 31) rfl) rfl
set_option maxRecDepth 100000 in
theorem w_1096 : Cond.selects "RingChamber$Touch" ⟨"RingChamber$Touch", "alike", "(LRingChamber$Stamps;I)I"⟩ ⟨"RingChamber$Touch", "alike", "(LRingChamber$Stamps;I)I"⟩ ∈ TB := tb_t5 (List.mem_of_getElem? (i := 32) rfl) rfl
set_option maxRecDepth 100000 in
theorem w_1097 : Cond.code ⟨"RingChamber$Touch", "alike", "(LRingChamber$Stamps;I)I"⟩ prog_10_method_8_code 6 (some FieldType.int) ∈ TB := tb_t5 (List.mem_of_getElem? (i := 33) rfl) rfl
set_option maxRecDepth 100000 in
theorem w_1098 : Cond.methodLink "RingChamber$Touch" 55 ⟨"RingChamber$Touch", "silentLast", "(II)I"⟩ ∈ TB := tb_t5 (List.mem_of_getElem? (i := 34) rfl) rfl
set_option maxRecDepth 100000 in
theorem w_1100 : Cond.instanceMethod ⟨"RingChamber$Touch", "silentLast", "(II)I"⟩ ∈ TB := tb_t5 (List.mem_of_getElem? (i := 36) rfl) rfl
set_option maxRecDepth 100000 in
theorem w_1101 : Cond.code ⟨"RingChamber$Touch", "silentLast", "(II)I"⟩ prog_10_method_9_code 7 (some FieldType.int) ∈ TB := tb_t5 (List.mem_of_getElem? (i := 37) rfl) rfl
set_option maxRecDepth 100000 in
theorem w_1102 : Cond.methodLink "RingChamber$Touch" 58 ⟨"RingChamber$Rows", "bellAt", "(II)I"⟩ ∈ TB := tb_t5 (List.mem_of_getElem? (i := 38) rfl) rfl
set_option maxRecDepth 100000 in
theorem w_1106 : Cond.code ⟨"RingChamber", "place", "(II)I"⟩ prog_1_method_42_code 4 (some FieldType.int) ∈ TB := tb_t5 (List.mem_of_getElem? (i := 42) rfl) rfl
set_option maxRecDepth 100000 in
theorem w_1107 : Cond.methodLink "RingChamber" 312 ⟨"RingChamber$Touch", "spot", "(II)I"⟩ ∈ TB := tb_t5 (List.mem_of_getElem? (i := 43) rfl) rfl
set_option maxRecDepth 100000 in
theorem w_1108 : Cond.instanceMethod ⟨"RingChamber$Touch", "spot", "(II)I"⟩ ∈ TB := tb_t5 (List.mem_of_getElem? (i := 44) rfl) rfl
set_option maxRecDepth 100000 in
theorem w_1109 : Cond.selects "RingChamber$Touch" ⟨"RingChamber$Touch", "spot", "(II)I"⟩ ⟨"RingChamber$Touch", "spot", "(II)I"⟩ ∈ TB := tb_t5 (List.mem_of_getElem? (i := 45) rfl) rfl
set_option maxRecDepth 100000 in
theorem w_1110 : Cond.code ⟨"RingChamber$Touch", "spot", "(II)I"⟩ prog_10_method_11_code 4 (some FieldType.int) ∈ TB := tb_t5 (List.mem_of_getElem? (i := 46) rfl) rfl
set_option maxRecDepth 100000 in
theorem w_1114 : Cond.code ⟨"RingChamber", "blows", "(II)I"⟩ prog_1_method_43_code 4 (some FieldType.int) ∈ TB := tb_t5 (List.mem_of_getElem? (i := 50) rfl) rfl
set_option maxRecDepth 100000 in
theorem w_1115 : Cond.methodLink "RingChamber" 315 ⟨"RingChamber$Touch", "fitting", "(II)I"⟩ ∈ TB := tb_t5 (List.mem_of_getElem? (i := 51) rfl) rfl
set_option maxRecDepth 100000 in
theorem w_1116 : Cond.instanceMethod ⟨"RingChamber$Touch", "fitting", "(II)I"⟩ ∈ TB := tb_t5 (List.mem_of_getElem? (i := 52) rfl) rfl
set_option maxRecDepth 100000 in
theorem w_1117 : Cond.selects "RingChamber$Touch" ⟨"RingChamber$Touch", "fitting", "(II)I"⟩ ⟨"RingChamber$Touch", "fitting", "(II)I"⟩ ∈ TB := tb_t5 (List.mem_of_getElem? (i := 53) rfl) rfl
set_option maxRecDepth 100000 in
theorem w_1118 : Cond.code ⟨"RingChamber$Touch", "fitting", "(II)I"⟩ prog_10_method_12_code 5 (some FieldType.int) ∈ TB := tb_t5 (List.mem_of_getElem? (i := 54) rfl) rfl
set_option maxRecDepth 100000 in
theorem w_1122 : Cond.code ⟨"RingChamber", "music", "(I)I"⟩ prog_1_method_44_code 7 (some FieldType.int) ∈ TB := tb_t5 (List.mem_of_getElem? (i := 58) rfl) rfl
set_option maxRecDepth 100000 in
theorem w_1126 : Cond.code ⟨"RingChamber", "runs", "(I)I"⟩ prog_1_method_45_code 2 (some FieldType.int) ∈ TB := tb_t5 (List.mem_of_getElem? (i := 62) rfl) rfl
set_option maxRecDepth 100000 in
theorem w_1127 : Cond.methodLink "RingChamber" 318 ⟨"RingChamber$Touch", "runsOf", "(I)I"⟩ ∈ TB := tb_t5 (List.mem_of_getElem? (i := 63) rfl) rfl
set_option maxRecDepth 100000 in
theorem w_1128 : Cond.instanceMethod ⟨"RingChamber$Touch", "runsOf", "(I)I"⟩ ∈ TB := tb_t5 (List.mem_of_getElem? (i := 64) rfl) rfl
set_option maxRecDepth 100000 in
theorem w_1129 : Cond.selects "RingChamber$Touch" ⟨"RingChamber$Touch", "runsOf", "(I)I"⟩ ⟨"RingChamber$Touch", "runsOf", "(I)I"⟩ ∈ TB := tb_t5 (List.mem_of_getElem? (i := 65) rfl) rfl
set_option maxRecDepth 100000 in
theorem w_1130 : Cond.code ⟨"RingChamber$Touch", "runsOf", "(I)I"⟩ prog_10_method_13_code 8 (some FieldType.int) ∈ TB := tb_t5 (List.mem_of_getElem? (i := 66) rfl) rfl
set_option maxRecDepth 100000 in
theorem w_1134 : Cond.code ⟨"RingChamber", "dodges", "(I)I"⟩ prog_1_method_46_code 2 (some FieldType.int) ∈ TB := tb_t5 (List.mem_of_getElem? (i := 70) rfl) rfl
set_option maxRecDepth 100000 in
theorem w_1135 : Cond.methodLink "RingChamber" 321 ⟨"RingChamber$Touch", "dodgesOf", "(I)I"⟩ ∈ TB := tb_t5 (List.mem_of_getElem? (i := 71) rfl) rfl
set_option maxRecDepth 100000 in
theorem w_1136 : Cond.instanceMethod ⟨"RingChamber$Touch", "dodgesOf", "(I)I"⟩ ∈ TB := tb_t5 (List.mem_of_getElem? (i := 72) rfl) rfl
set_option maxRecDepth 100000 in
theorem w_1137 : Cond.selects "RingChamber$Touch" ⟨"RingChamber$Touch", "dodgesOf", "(I)I"⟩ ⟨"RingChamber$Touch", "dodgesOf", "(I)I"⟩ ∈ TB := tb_t5 (List.mem_of_getElem? (i := 73) rfl) rfl
set_option maxRecDepth 100000 in
theorem w_1138 : Cond.code ⟨"RingChamber$Touch", "dodgesOf", "(I)I"⟩ prog_10_method_14_code 7 (some FieldType.int) ∈ TB := tb_t5 (List.mem_of_getElem? (i := 74) rfl) rfl
set_option maxRecDepth 100000 in
theorem w_1139 : Cond.methodLink "RingChamber$Touch" 61 ⟨"RingChamber$Touch", "spot", "(II)I"⟩ ∈ TB := tb_t5 (List.mem_of_getElem? (i := 75) rfl) rfl
set_option maxRecDepth 100000 in
theorem w_1143 : Cond.code ⟨"RingChamber", "lies", "(I)I"⟩ prog_1_method_47_code 2 (some FieldType.int) ∈ TB := tb_t5 (List.mem_of_getElem? (i := 79) rfl) rfl
set_option maxRecDepth 100000 in
theorem w_1144 : Cond.methodLink "RingChamber" 324 ⟨"RingChamber$Touch", "liesOf", "(I)I"⟩ ∈ TB := tb_t5 (List.mem_of_getElem? (i := 80) rfl) rfl
set_option maxRecDepth 100000 in
theorem w_1145 : Cond.instanceMethod ⟨"RingChamber$Touch", "liesOf", "(I)I"⟩ ∈ TB := tb_t5 (List.mem_of_getElem? (i := 81) rfl) rfl
set_option maxRecDepth 100000 in
theorem w_1146 : Cond.selects "RingChamber$Touch" ⟨"RingChamber$Touch", "liesOf", "(I)I"⟩ ⟨"RingChamber$Touch", "liesOf", "(I)I"⟩ ∈ TB := tb_t5 (List.mem_of_getElem? (i := 82) rfl) rfl
set_option maxRecDepth 100000 in
theorem w_1147 : Cond.code ⟨"RingChamber$Touch", "liesOf", "(I)I"⟩ prog_10_method_15_code 6 (some FieldType.int) ∈ TB := tb_t5 (List.mem_of_getElem? (i := 83) rfl) rfl
set_option maxRecDepth 100000 in
theorem w_1151 : Cond.code ⟨"RingChamber", "backward", "()I"⟩ prog_1_method_48_code 1 (some FieldType.int) ∈ TB := tb_t5 (List.mem_of_getElem? (i := 87) rfl) rfl
set_option maxRecDepth 100000 in
theorem w_1155 : Cond.code ⟨"RingChamber", "heard", "(II)I"⟩ prog_1_method_49_code 5 (some FieldType.int) ∈ TB := tb_t5 (List.mem_of_getElem? (i := 91) rfl) rfl
set_option maxRecDepth 100000 in
theorem w_1156 : Cond.methodLink "RingChamber" 328 ⟨"RingChamber$Touch", "heardBell", "(III)I"⟩ ∈ TB := tb_t5 (List.mem_of_getElem? (i := 92) rfl) rfl
set_option maxRecDepth 100000 in
theorem w_1157 : Cond.instanceMethod ⟨"RingChamber$Touch", "heardBell", "(III)I"⟩ ∈ TB := tb_t5 (List.mem_of_getElem? (i := 93) rfl) rfl
set_option maxRecDepth 100000 in
theorem w_1158 : Cond.selects "RingChamber$Touch" ⟨"RingChamber$Touch", "heardBell", "(III)I"⟩ ⟨"RingChamber$Touch", "heardBell", "(III)I"⟩ ∈ TB := tb_t5 (List.mem_of_getElem? (i := 94) rfl) rfl
set_option maxRecDepth 100000 in
theorem w_1159 : Cond.code ⟨"RingChamber$Touch", "heardBell", "(III)I"⟩ prog_10_method_10_code 7 (some FieldType.int) ∈ TB := tb_t5 (List.mem_of_getElem? (i := 95) rfl) rfl
set_option maxRecDepth 100000 in
theorem w_1163 : Cond.code ⟨"RingChamber", "heardAlike", "()I"⟩ prog_1_method_50_code 1 (some FieldType.int) ∈ TB := tb_t5 (List.mem_of_getElem? (i := 99) rfl) rfl
set_option maxRecDepth 100000 in
theorem w_1167 : Cond.code ⟨"RingChamber", "evens", "()Z"⟩ prog_1_method_51_code 1 (some FieldType.boolean) ∈ TB := tb_t5 (List.mem_of_getElem? (i := 103) rfl) rfl
set_option maxRecDepth 100000 in
theorem w_1168 : Cond.methodLink "RingChamber" 331 ⟨"RingChamber$Touch", "evenRows", "()I"⟩ ∈ TB := tb_t5 (List.mem_of_getElem? (i := 104) rfl) rfl
set_option maxRecDepth 100000 in
theorem w_1169 : Cond.instanceMethod ⟨"RingChamber$Touch", "evenRows", "()I"⟩ ∈ TB := tb_t5 (List.mem_of_getElem? (i := 105) rfl) rfl
set_option maxRecDepth 100000 in
theorem w_1170 : Cond.selects "RingChamber$Touch" ⟨"RingChamber$Touch", "evenRows", "()I"⟩ ⟨"RingChamber$Touch", "evenRows", "()I"⟩ ∈ TB := tb_t5 (List.mem_of_getElem? (i := 106) rfl) rfl
set_option maxRecDepth 100000 in
theorem w_1171 : Cond.code ⟨"RingChamber$Touch", "evenRows", "()I"⟩ prog_10_method_16_code 3 (some FieldType.int) ∈ TB := tb_t5 (List.mem_of_getElem? (i := 107) rfl) rfl
set_option maxRecDepth 100000 in
theorem w_1172 : Cond.methodLink "RingChamber$Touch" 64 ⟨"RingChamber$Rows", "isEven", "(II)Z"⟩ ∈ TB := tb_t5 (List.mem_of_getElem? (i := 108) rfl) rfl
set_option maxRecDepth 100000 in
theorem w_1173 : Cond.methodLink "RingChamber" 334 ⟨"RingChamber", "tellFraction", "(II)V"⟩ ∈ TB := tb_t5 (List.mem_of_getElem? (i := 109) rfl) rfl
set_option maxRecDepth 100000 in
theorem w_1175 : Cond.instanceMethod ⟨"RingChamber", "tellFraction", "(II)V"⟩ ∈ TB := tb_t5 (List.mem_of_getElem? (i := 111) rfl) rfl
set_option maxRecDepth 100000 in
theorem w_1176 : Cond.code ⟨"RingChamber", "tellFraction", "(II)V"⟩ prog_1_method_76_code 4 (none : Option Jvm.ClassFile.FieldType) ∈ TB := tb_t5 (List.mem_of_getElem? (i := 112) rfl) rfl
set_option maxRecDepth 100000 in
theorem w_1177 : Cond.methodLink "RingChamber" 378 ⟨"RingChamber", "commonDivisor", "(II)I"⟩ ∈ TB := tb_t5 (List.mem_of_getElem? (i := 113) rfl) rfl
set_option maxRecDepth 100000 in
theorem w_1178 : Cond.static ⟨"RingChamber", "commonDivisor", "(II)I"⟩ ∈ TB := tb_t5 (List.mem_of_getElem? (i := 114) rfl) rfl
set_option maxRecDepth 100000 in
theorem w_1179 : Cond.code ⟨"RingChamber", "commonDivisor", "(II)I"⟩ prog_1_method_77_code 6 (some FieldType.int) ∈ TB := tb_t5 (List.mem_of_getElem? (i := 115) rfl) rfl
set_option maxRecDepth 100000 in
theorem w_1183 : Cond.code ⟨"RingChamber", "strayed", "(II)I"⟩ prog_1_method_52_code 3 (some FieldType.int) ∈ TB := tb_t5 (List.mem_of_getElem? (i := 119) rfl) rfl
set_option maxRecDepth 100000 in
theorem w_1184 : Cond.methodLink "RingChamber" 337 ⟨"RingChamber", "isSeed", "(I)Z"⟩ ∈ TB := tb_t5 (List.mem_of_getElem? (i := 120) rfl) rfl
set_option maxRecDepth 100000 in
theorem w_1185 : Cond.static ⟨"RingChamber", "isSeed", "(I)Z"⟩ ∈ TB := tb_t5 (List.mem_of_getElem? (i := 121) rfl) rfl
set_option maxRecDepth 100000 in
theorem w_1186 : Cond.code ⟨"RingChamber", "isSeed", "(I)Z"⟩ prog_1_method_67_code 1 (some FieldType.boolean) ∈ TB := tb_t5 (List.mem_of_getElem? (i := 122) rfl) rfl
set_option maxRecDepth 100000 in
theorem w_1187 : Cond.methodLink "RingChamber" 340 ⟨"RingChamber$Touch", "strayedRow", "(II)I"⟩ ∈ TB := tb_t5 (List.mem_of_getElem? (i := 123) rfl) rfl
set_option maxRecDepth 100000 in
theorem w_1188 : Cond.instanceMethod ⟨"RingChamber$Touch", "strayedRow", "(II)I"⟩ ∈ TB := tb_t5 (List.mem_of_getElem? (i := 124) rfl) rfl
set_option maxRecDepth 100000 in
theorem w_1189 : Cond.selects "RingChamber$Touch" ⟨"RingChamber$Touch", "strayedRow", "(II)I"⟩ ⟨"RingChamber$Touch", "strayedRow", "(II)I"⟩ ∈ TB := tb_t5 (List.mem_of_getElem? (i := 125) rfl) rfl
set_option maxRecDepth 100000 in
theorem w_1190 : Cond.code ⟨"RingChamber$Touch", "strayedRow", "(II)I"⟩ prog_10_method_2_code 8 (some FieldType.int) ∈ TB := tb_t5 (List.mem_of_getElem? (i := 126) rfl) rfl
set_option maxRecDepth 100000 in
theorem w_1191 : Cond.constant "RingChamber$Touch" 35 65536 ∈ TB := tb_t5 (List.mem_of_getElem? (i := 127) rfl) rfl
set_option maxRecDepth 100000 in
theorem w_1195 : Cond.code ⟨"RingChamber", "odds", "(III)Z"⟩ prog_1_method_53_code 7 (some FieldType.boolean) ∈ TB := tb_t5 (List.mem_of_getElem? (i := 131) rfl) rfl
set_option maxRecDepth 100000 in
theorem w_1199 : Cond.code ⟨"RingChamber", "way", "(I)I"⟩ prog_1_method_54_code 2 (some FieldType.int) ∈ TB := tb_t5 (List.mem_of_getElem? (i := 135) rfl) rfl
set_option maxRecDepth 100000 in
theorem w_1200 : Cond.methodLink "RingChamber" 343 ⟨"RingChamber$Search", "over", "(LRingChamber$Book;)V"⟩ ∈ TB := tb_t5 (List.mem_of_getElem? (i := 136) rfl) rfl
set_option maxRecDepth 100000 in
theorem w_1201 : Cond.instanceMethod ⟨"RingChamber$Search", "over", "(LRingChamber$Book;)V"⟩ ∈ TB := tb_t5 (List.mem_of_getElem? (i := 137) rfl) rfl
set_option maxRecDepth 100000 in
theorem w_1202 : Cond.selects "RingChamber$Search" ⟨"RingChamber$Search", "over", "(LRingChamber$Book;)V"⟩ ⟨"RingChamber$Search", "over", "(LRingChamber$Book;)V"⟩ ∈ TB := tb_t5 (List.mem_of_getElem? (i := 138) rfl) rfl
set_option maxRecDepth 100000 in
theorem w_1203 : Cond.code ⟨"RingChamber$Search", "over", "(LRingChamber$Book;)V"⟩ prog_7_method_2_code 3 (none : Option Jvm.ClassFile.FieldType) ∈ TB := tb_t5 (List.mem_of_getElem? (i := 139) rfl) rfl
set_option maxRecDepth 100000 in
theorem w_1204 : Cond.methodLink "RingChamber$Search" 46 ⟨"java/util/Arrays", "fill", "([II)V"⟩ ∈ TB := tb_t5 (List.mem_of_getElem? (i := 140) rfl) rfl
set_option maxRecDepth 100000 in
theorem w_1205 : Cond.static ⟨"java/util/Arrays", "fill", "([II)V"⟩ ∈ TB := tb_t5 (List.mem_of_getElem? (i := 141) rfl) rfl
set_option maxRecDepth 100000 in
theorem w_1206 : Cond.code ⟨"java/util/Arrays", "fill", "([II)V"⟩ prog_21_method_103_code 4 (none : Option Jvm.ClassFile.FieldType) ∈ TB := tb_t5 (List.mem_of_getElem? (i := 142) rfl) rfl
set_option maxRecDepth 100000 in
theorem w_1207 : Cond.methodLink "RingChamber$Search" 52 ⟨"RingChamber$Search", "gatherHeads", "(LRingChamber$Book;)V"⟩ ∈ TB := tb_t5 (List.mem_of_getElem? (i := 143) rfl) rfl
set_option maxRecDepth 100000 in
theorem w_1209 : Cond.instanceMethod ⟨"RingChamber$Search", "gatherHeads", "(LRingChamber$Book;)V"⟩ ∈ TB := tb_t5 (List.mem_of_getElem? (i := 145) rfl) rfl
set_option maxRecDepth 100000 in
theorem w_1210 : Cond.code ⟨"RingChamber$Search", "gatherHeads", "(LRingChamber$Book;)V"⟩ prog_7_method_3_code 5 (none : Option Jvm.ClassFile.FieldType) ∈ TB := tb_t5 (List.mem_of_getElem? (i := 146) rfl) rfl
set_option maxRecDepth 100000 in
theorem w_1211 : Cond.methodLink "RingChamber$Search" 59 ⟨"RingChamber$Rows", "roundsOf", "(I)I"⟩ ∈ TB := tb_t5 (List.mem_of_getElem? (i := 147) rfl) rfl
set_option maxRecDepth 100000 in
theorem w_1212 : Cond.methodLink "RingChamber$Search" 80 ⟨"RingChamber$Search", "isTried", "(I)Z"⟩ ∈ TB := tb_t5 (List.mem_of_getElem? (i := 148) rfl) rfl
set_option maxRecDepth 100000 in
theorem w_1214 : Cond.instanceMethod ⟨"RingChamber$Search", "isTried", "(I)Z"⟩ ∈ TB := tb_t5 (List.mem_of_getElem? (i := 150) rfl) rfl
set_option maxRecDepth 100000 in
theorem w_1215 : Cond.code ⟨"RingChamber$Search", "isTried", "(I)Z"⟩ prog_7_method_4_code 3 (some FieldType.boolean) ∈ TB := tb_t5 (List.mem_of_getElem? (i := 151) rfl) rfl
set_option maxRecDepth 100000 in
theorem w_1216 : Cond.methodLink "RingChamber$Search" 65 ⟨"RingChamber$Search", "keepFound", "(IIII)V"⟩ ∈ TB := tb_t5 (List.mem_of_getElem? (i := 152) rfl) rfl
set_option maxRecDepth 100000 in
theorem w_1218 : Cond.instanceMethod ⟨"RingChamber$Search", "keepFound", "(IIII)V"⟩ ∈ TB := tb_t5 (List.mem_of_getElem? (i := 154) rfl) rfl
set_option maxRecDepth 100000 in
theorem w_1219 : Cond.code ⟨"RingChamber$Search", "keepFound", "(IIII)V"⟩ prog_7_method_6_code 5 (none : Option Jvm.ClassFile.FieldType) ∈ TB := tb_t5 (List.mem_of_getElem? (i := 155) rfl) rfl
set_option maxRecDepth 100000 in
theorem w_1220 : Cond.methodLink "RingChamber$Search" 69 ⟨"RingChamber$Search", "spread", "(II)V"⟩ ∈ TB := tb_t5 (List.mem_of_getElem? (i := 156) rfl) rfl
set_option maxRecDepth 100000 in
theorem w_1222 : Cond.instanceMethod ⟨"RingChamber$Search", "spread", "(II)V"⟩ ∈ TB := tb_t5 (List.mem_of_getElem? (i := 158) rfl) rfl
set_option maxRecDepth 100000 in
theorem w_1223 : Cond.code ⟨"RingChamber$Search", "spread", "(II)V"⟩ prog_7_method_5_code 6 (none : Option Jvm.ClassFile.FieldType) ∈ TB := tb_t5 (List.mem_of_getElem? (i := 159) rfl) rfl
set_option maxRecDepth 100000 in
theorem w_1224 : Cond.methodLink "RingChamber$Search" 84 ⟨"RingChamber$Rows", "rank", "(II)I"⟩ ∈ TB := tb_t5 (List.mem_of_getElem? (i := 160) rfl) rfl
set_option maxRecDepth 100000 in
theorem w_1225 : Cond.methodLink "RingChamber$Search" 88 ⟨"RingChamber$Rows", "rankMultiplied", "(III)I"⟩ ∈ TB := tb_t5 (List.mem_of_getElem? (i := 161) rfl) rfl
set_option maxRecDepth 100000 in
theorem w_1226 : Cond.methodLink "RingChamber$Search" 92 ⟨"RingChamber$Rows", "multiply", "(III)I"⟩ ∈ TB := tb_t5 (List.mem_of_getElem? (i := 162) rfl) rfl
set_option maxRecDepth 100000 in
theorem w_1227 : Cond.methodLink "RingChamber" 347 ⟨"RingChamber$Search", "isFound", "(I)Z"⟩ ∈ TB := tb_t5 (List.mem_of_getElem? (i := 163) rfl) rfl
set_option maxRecDepth 100000 in
theorem w_1228 : Cond.instanceMethod ⟨"RingChamber$Search", "isFound", "(I)Z"⟩ ∈ TB := tb_t5 (List.mem_of_getElem? (i := 164) rfl) rfl
set_option maxRecDepth 100000 in
theorem w_1229 : Cond.selects "RingChamber$Search" ⟨"RingChamber$Search", "isFound", "(I)Z"⟩ ⟨"RingChamber$Search", "isFound", "(I)Z"⟩ ∈ TB := tb_t5 (List.mem_of_getElem? (i := 165) rfl) rfl
set_option maxRecDepth 100000 in
theorem w_1230 : Cond.code ⟨"RingChamber$Search", "isFound", "(I)Z"⟩ prog_7_method_7_code 2 (some FieldType.boolean) ∈ TB := tb_t5 (List.mem_of_getElem? (i := 166) rfl) rfl
set_option maxRecDepth 100000 in
theorem w_1231 : Cond.methodLink "RingChamber" 350 ⟨"RingChamber$Search", "keepWay", "(I)V"⟩ ∈ TB := tb_t5 (List.mem_of_getElem? (i := 167) rfl) rfl
set_option maxRecDepth 100000 in
theorem w_1232 : Cond.instanceMethod ⟨"RingChamber$Search", "keepWay", "(I)V"⟩ ∈ TB := tb_t5 (List.mem_of_getElem? (i := 168) rfl) rfl
set_option maxRecDepth 100000 in
theorem w_1233 : Cond.selects "RingChamber$Search" ⟨"RingChamber$Search", "keepWay", "(I)V"⟩ ⟨"RingChamber$Search", "keepWay", "(I)V"⟩ ∈ TB := tb_t5 (List.mem_of_getElem? (i := 169) rfl) rfl
set_option maxRecDepth 100000 in
theorem w_1234 : Cond.code ⟨"RingChamber$Search", "keepWay", "(I)V"⟩ prog_7_method_8_code 5 (none : Option Jvm.ClassFile.FieldType) ∈ TB := tb_t5 (List.mem_of_getElem? (i := 170) rfl) rfl
set_option maxRecDepth 100000 in
theorem w_1235 : Cond.methodLink "RingChamber$Search" 95 ⟨"RingChamber$Search", "rowAhead", "(I)I"⟩ ∈ TB := tb_t5 (List.mem_of_getElem? (i := 171) rfl) rfl
set_option maxRecDepth 100000 in
theorem w_1237 : Cond.instanceMethod ⟨"RingChamber$Search", "rowAhead", "(I)I"⟩ ∈ TB := tb_t5 (List.mem_of_getElem? (i := 173) rfl) rfl
set_option maxRecDepth 100000 in
theorem w_1238 : Cond.code ⟨"RingChamber$Search", "rowAhead", "(I)I"⟩ prog_7_method_9_code 2 (some FieldType.int) ∈ TB := tb_t5 (List.mem_of_getElem? (i := 174) rfl) rfl
set_option maxRecDepth 100000 in
theorem w_1239 : Cond.methodLink "RingChamber$Search" 98 ⟨"RingChamber$Search", "isFound", "(I)Z"⟩ ∈ TB := tb_t5 (List.mem_of_getElem? (i := 175) rfl) rfl
set_option maxRecDepth 100000 in
theorem w_1243 : Cond.code ⟨"RingChamber", "wayAt", "(II)I"⟩ prog_1_method_55_code 4 (some FieldType.int) ∈ TB := tb_t5 (List.mem_of_getElem? (i := 179) rfl) rfl
set_option maxRecDepth 100000 in
theorem w_1247 : Cond.code ⟨"RingChamber", "extent", "()I"⟩ prog_1_method_56_code 1 (some FieldType.int) ∈ TB := tb_t5 (List.mem_of_getElem? (i := 183) rfl) rfl
set_option maxRecDepth 100000 in
theorem w_1251 : Cond.code ⟨"RingChamber", "compositions", "(III)I"⟩ prog_1_method_57_code 4 (some FieldType.int) ∈ TB := tb_t5 (List.mem_of_getElem? (i := 187) rfl) rfl
set_option maxRecDepth 100000 in
theorem w_1252 : Cond.methodLink "RingChamber" 362 ⟨"RingChamber$Composer", "composed", "(LRingChamber$Book;LRingChamber$Method;IILRingChamber$Stamps;)I"⟩ ∈ TB := tb_t5 (List.mem_of_getElem? (i := 188) rfl) rfl
set_option maxRecDepth 100000 in
theorem w_1253 : Cond.instanceMethod ⟨"RingChamber$Composer", "composed", "(LRingChamber$Book;LRingChamber$Method;IILRingChamber$Stamps;)I"⟩ ∈ TB := tb_t5 (List.mem_of_getElem? (i := 189) rfl) rfl
set_option maxRecDepth 100000 in
theorem w_1254 : Cond.selects "RingChamber$Composer" ⟨"RingChamber$Composer", "composed", "(LRingChamber$Book;LRingChamber$Method;IILRingChamber$Stamps;)I"⟩ ⟨"RingChamber$Composer", "composed", "(LRingChamber$Book;LRingChamber$Method;IILRingChamber$Stamps;)I"⟩ ∈ TB := tb_t5 (List.mem_of_getElem? (i := 190) rfl) rfl
set_option maxRecDepth 100000 in
theorem w_1255 : Cond.code ⟨"RingChamber$Composer", "composed", "(LRingChamber$Book;LRingChamber$Method;IILRingChamber$Stamps;)I"⟩ prog_4_method_2_code 6 (some FieldType.int) ∈ TB := tb_t5 (List.mem_of_getElem? (i := 191) rfl) rfl
set_option maxRecDepth 100000 in
theorem w_1256 : Cond.methodLink "RingChamber$Composer" 31 ⟨"RingChamber$Method", "isUnlike", "(I)Z"⟩ ∈ TB := tb_t5 (List.mem_of_getElem? (i := 192) rfl) rfl
set_option maxRecDepth 100000 in
theorem w_1257 : Cond.methodLink "RingChamber$Composer" 37 ⟨"RingChamber$Stamps", "stampFalse", "(LRingChamber$Book;LRingChamber$Method;I)I"⟩ ∈ TB := tb_t5 (List.mem_of_getElem? (i := 193) rfl) rfl
set_option maxRecDepth 100000 in
theorem w_1258 : Cond.methodLink "RingChamber$Composer" 48 ⟨"java/lang/Math", "min", "(II)I"⟩ ∈ TB := tb_t5 (List.mem_of_getElem? (i := 194) rfl) rfl
set_option maxRecDepth 100000 in
theorem w_1259 : Cond.methodLink "RingChamber$Composer" 54 ⟨"RingChamber$Composer", "tryCalls", "(ILRingChamber$Method;IILRingChamber$Stamps;)V"⟩ ∈ TB := tb_t5 (List.mem_of_getElem? (i := 195) rfl) rfl
set_option maxRecDepth 100000 in
theorem w_1261 : Cond.instanceMethod ⟨"RingChamber$Composer", "tryCalls", "(ILRingChamber$Method;IILRingChamber$Stamps;)V"⟩ ∈ TB := tb_t5 (List.mem_of_getElem? (i := 197) rfl) rfl
set_option maxRecDepth 100000 in
theorem w_1262 : Cond.code ⟨"RingChamber$Composer", "tryCalls", "(ILRingChamber$Method;IILRingChamber$Stamps;)V"⟩ prog_4_method_3_code 10 (none : Option Jvm.ClassFile.FieldType) ∈ TB := tb_t5 (List.mem_of_getElem? (i := 198) rfl) rfl
set_option maxRecDepth 100000 in
theorem w_1263 : Cond.methodLink "RingChamber$Composer" 58 ⟨"RingChamber$Rows", "roundsOf", "(I)I"⟩ ∈ TB := tb_t5 (List.mem_of_getElem? (i := 199) rfl) rfl
set_option maxRecDepth 100000 in
theorem w_1264 : Cond.methodLink "RingChamber$Composer" 64 ⟨"RingChamber$Composer", "begin", "(III)V"⟩ ∈ TB := tb_t5 (List.mem_of_getElem? (i := 200) rfl) rfl
set_option maxRecDepth 100000 in
theorem w_1266 : Cond.instanceMethod ⟨"RingChamber$Composer", "begin", "(III)V"⟩ ∈ TB := tb_t5 (List.mem_of_getElem? (i := 202) rfl) rfl
set_option maxRecDepth 100000 in
theorem w_1267 : Cond.code ⟨"RingChamber$Composer", "begin", "(III)V"⟩ prog_4_method_4_code 4 (none : Option Jvm.ClassFile.FieldType) ∈ TB := tb_t5 (List.mem_of_getElem? (i := 203) rfl) rfl
set_option maxRecDepth 100000 in
theorem w_1268 : Cond.methodLink "RingChamber$Composer" 84 ⟨"RingChamber$Rows", "invert", "(II)I"⟩ ∈ TB := tb_t5 (List.mem_of_getElem? (i := 204) rfl) rfl
set_option maxRecDepth 100000 in
theorem w_1269 : Cond.constant "RingChamber$Composer" 68 1000000 ∈ TB := tb_t5 (List.mem_of_getElem? (i := 205) rfl) rfl
set_option maxRecDepth 100000 in
theorem w_1270 : Cond.methodLink "RingChamber$Composer" 72 ⟨"RingChamber$Rows", "multiply", "(III)I"⟩ ∈ TB := tb_t5 (List.mem_of_getElem? (i := 206) rfl) rfl
set_option maxRecDepth 100000 in
theorem w_1271 : Cond.methodLink "RingChamber$Composer" 76 ⟨"RingChamber$Composer", "isFalse", "(IIILRingChamber$Stamps;)Z"⟩ ∈ TB := tb_t5 (List.mem_of_getElem? (i := 207) rfl) rfl
set_option maxRecDepth 100000 in
theorem w_1273 : Cond.instanceMethod ⟨"RingChamber$Composer", "isFalse", "(IIILRingChamber$Stamps;)Z"⟩ ∈ TB := tb_t5 (List.mem_of_getElem? (i := 209) rfl) rfl
set_option maxRecDepth 100000 in
theorem w_1274 : Cond.code ⟨"RingChamber$Composer", "isFalse", "(IIILRingChamber$Stamps;)Z"⟩ prog_4_method_5_code 6 (some FieldType.boolean) ∈ TB := tb_t5 (List.mem_of_getElem? (i := 210) rfl) rfl
set_option maxRecDepth 100000 in
theorem w_1275 : Cond.methodLink "RingChamber$Composer" 87 ⟨"RingChamber$Rows", "rankMultiplied", "(III)I"⟩ ∈ TB := tb_t5 (List.mem_of_getElem? (i := 211) rfl) rfl
set_option maxRecDepth 100000 in
theorem w_1276 : Cond.methodLink "RingChamber$Composer" 90 ⟨"RingChamber$Stamps", "has", "(I)Z"⟩ ∈ TB := tb_t5 (List.mem_of_getElem? (i := 212) rfl) rfl
set_option maxRecDepth 100000 in
theorem w_1277 : Cond.instanceMethod ⟨"RingChamber$Stamps", "has", "(I)Z"⟩ ∈ TB := tb_t5 (List.mem_of_getElem? (i := 213) rfl) rfl
set_option maxRecDepth 100000 in
theorem w_1278 : Cond.selects "RingChamber$Stamps" ⟨"RingChamber$Stamps", "has", "(I)Z"⟩ ⟨"RingChamber$Stamps", "has", "(I)Z"⟩ ∈ TB := tb_t5 (List.mem_of_getElem? (i := 214) rfl) rfl
set_option maxRecDepth 100000 in
theorem w_1279 : Cond.code ⟨"RingChamber$Stamps", "has", "(I)Z"⟩ prog_8_method_3_code 2 (some FieldType.boolean) ∈ TB := tb_t5 (List.mem_of_getElem? (i := 215) rfl) rfl
set_option maxRecDepth 100000 in
theorem w_1280 : Cond.methodLink "RingChamber$Composer" 80 ⟨"RingChamber$Composer", "keep", "(I)V"⟩ ∈ TB := tb_t5 (List.mem_of_getElem? (i := 216) rfl) rfl
set_option maxRecDepth 100000 in
theorem w_1282 : Cond.instanceMethod ⟨"RingChamber$Composer", "keep", "(I)V"⟩ ∈ TB := tb_t5 (List.mem_of_getElem? (i := 218) rfl) rfl
set_option maxRecDepth 100000 in
theorem w_1283 : Cond.code ⟨"RingChamber$Composer", "keep", "(I)V"⟩ prog_4_method_6_code 2 (none : Option Jvm.ClassFile.FieldType) ∈ TB := tb_t5 (List.mem_of_getElem? (i := 219) rfl) rfl
set_option maxRecDepth 100000 in
theorem w_1284 : Cond.methodLink "RingChamber$Composer" 93 ⟨"java/lang/System", "arraycopy", "(Ljava/lang/Object;ILjava/lang/Object;II)V"⟩ ∈ TB := tb_t5 (List.mem_of_getElem? (i := 220) rfl) rfl
set_option maxRecDepth 100000 in
theorem w_1288 : Cond.code ⟨"RingChamber", "callAt", "(I)I"⟩ prog_1_method_58_code 2 (some FieldType.int) ∈ TB := tb_t5 (List.mem_of_getElem? (i := 224) rfl) rfl
set_option maxRecDepth 100000 in
theorem w_1292 : Cond.code ⟨"RingChamber", "mark", "()I"⟩ prog_1_method_59_code 1 (some FieldType.int) ∈ TB := tb_t5 (List.mem_of_getElem? (i := 228) rfl) rfl
set_option maxRecDepth 100000 in
theorem w_1296 : Cond.code ⟨"RingChamber", "back", "()I"⟩ prog_1_method_60_code 1 (some FieldType.int) ∈ TB := tb_t5 (List.mem_of_getElem? (i := 232) rfl) rfl
set_option maxRecDepth 100000 in
theorem w_1301 : Cond.code ⟨"RingChamberModel", "<init>", "()V"⟩ prog_14_method_1_code 1 (none : Option Jvm.ClassFile.FieldType) ∈ TB := tb_t5 (List.mem_of_getElem? (i := 237) rfl) rfl
set_option maxRecDepth 100000 in
theorem w_1302 : Cond.methodLink "RingChamberModel" 1 ⟨"java/lang/Object", "<init>", "()V"⟩ ∈ TB := tb_t5 (List.mem_of_getElem? (i := 238) rfl) rfl
set_option maxRecDepth 100000 in
theorem w_1303 : Cond.constant "RingChamberModel" 62 40320 ∈ TB := tb_t5 (List.mem_of_getElem? (i := 239) rfl) rfl
set_option maxRecDepth 100000 in
theorem w_1304 : Cond.fieldLink "RingChamberModel" 7 "RingChamberModel" "at" "[I" ∈ TB := tb_t6 (List.mem_of_getElem? (i := 0) rfl) rfl
set_option maxRecDepth 100000 in
theorem w_1305 : Cond.fieldLink "RingChamberModel" 13 "RingChamberModel" "names" "[J" ∈ TB := tb_t6 (List.mem_of_getElem? (i := 1) rfl) rfl
set_option maxRecDepth 100000 in
theorem w_1306 : Cond.fieldLink "RingChamberModel" 99 "RingChamberModel" "status" "I" ∈ TB := tb_t6 (List.mem_of_getElem? (i := 2) rfl) rfl
set_option maxRecDepth 100000 in
theorem w_1307 : Cond.fieldLink "RingChamberModel" 102 "RingChamberModel" "top" "J" ∈ TB := tb_t6 (List.mem_of_getElem? (i := 3) rfl) rfl
set_option maxRecDepth 100000 in
theorem w_1308 : Cond.fieldLink "RingChamberModel" 17 "RingChamberModel" "bottom" "J" ∈ TB := tb_t6 (List.mem_of_getElem? (i := 4) rfl) rfl
set_option maxRecDepth 100000 in
theorem w_1309 : Cond.fieldLink "RingChamberModel" 21 "RingChamberModel" "sort" "[I" ∈ TB := tb_t6 (List.mem_of_getElem? (i := 5) rfl) rfl
set_option maxRecDepth 100000 in
theorem w_1310 : Cond.fieldLink "RingChamberModel" 24 "RingChamberModel" "trayMany" "[I" ∈ TB := tb_t6 (List.mem_of_getElem? (i := 6) rfl) rfl
set_option maxRecDepth 100000 in
theorem w_1311 : Cond.fieldLink "RingChamberModel" 27 "RingChamberModel" "trays" "[J" ∈ TB := tb_t6 (List.mem_of_getElem? (i := 7) rfl) rfl
set_option maxRecDepth 100000 in
theorem w_1312 : Cond.fieldLink "RingChamberModel" 30 "RingChamberModel" "tape" "[B" ∈ TB := tb_t6 (List.mem_of_getElem? (i := 8) rfl) rfl
set_option maxRecDepth 100000 in
theorem w_1313 : Cond.fieldLink "RingChamberModel" 34 "RingChamberModel" "text" "[B" ∈ TB := tb_t6 (List.mem_of_getElem? (i := 9) rfl) rfl
set_option maxRecDepth 100000 in
theorem w_1314 : Cond.fieldLink "RingChamberModel" 129 "RingChamberModel" "taped" "I" ∈ TB := tb_t6 (List.mem_of_getElem? (i := 10) rfl) rfl
set_option maxRecDepth 100000 in
theorem w_1315 : Cond.fieldLink "RingChamberModel" 136 "RingChamberModel" "size" "I" ∈ TB := tb_t6 (List.mem_of_getElem? (i := 11) rfl) rfl
set_option maxRecDepth 100000 in
theorem w_1316 : Cond.fieldLink "RingChamberModel" 151 "RingChamberModel" "token" "I" ∈ TB := tb_t6 (List.mem_of_getElem? (i := 12) rfl) rfl
set_option maxRecDepth 100000 in
theorem w_1317 : Cond.fieldLink "RingChamberModel" 145 "RingChamberModel" "from" "I" ∈ TB := tb_t6 (List.mem_of_getElem? (i := 13) rfl) rfl
set_option maxRecDepth 100000 in
theorem w_1318 : Cond.fieldLink "RingChamberModel" 139 "RingChamberModel" "end" "I" ∈ TB := tb_t6 (List.mem_of_getElem? (i := 14) rfl) rfl
set_option maxRecDepth 100000 in
theorem w_1319 : Cond.fieldLink "RingChamberModel" 148 "RingChamberModel" "value" "I" ∈ TB := tb_t6 (List.mem_of_getElem? (i := 15) rfl) rfl
set_option maxRecDepth 100000 in
theorem w_1320 : Cond.fieldLink "RingChamberModel" 37 "RingChamberModel" "faultKind" "I" ∈ TB := tb_t6 (List.mem_of_getElem? (i := 16) rfl) rfl
set_option maxRecDepth 100000 in
theorem w_1321 : Cond.fieldLink "RingChamberModel" 41 "RingChamberModel" "faultPlace" "I" ∈ TB := tb_t6 (List.mem_of_getElem? (i := 17) rfl) rfl
set_option maxRecDepth 100000 in
theorem w_1322 : Cond.fieldLink "RingChamberModel" 176 "RingChamberModel" "faults" "I" ∈ TB := tb_t6 (List.mem_of_getElem? (i := 18) rfl) rfl
set_option maxRecDepth 100000 in
theorem w_1323 : Cond.fieldLink "RingChamberModel" 179 "RingChamberModel" "seen" "I" ∈ TB := tb_t6 (List.mem_of_getElem? (i := 19) rfl) rfl
set_option maxRecDepth 100000 in
theorem w_1324 : Cond.fieldLink "RingChamberModel" 44 "RingChamberModel" "opened" "[I" ∈ TB := tb_t6 (List.mem_of_getElem? (i := 20) rfl) rfl
set_option maxRecDepth 100000 in
theorem w_1325 : Cond.fieldLink "RingChamberModel" 251 "RingChamberModel" "depth" "I" ∈ TB := tb_t6 (List.mem_of_getElem? (i := 21) rfl) rfl
set_option maxRecDepth 100000 in
theorem w_1326 : Cond.fieldLink "RingChamberModel" 254 "RingChamberModel" "counted" "I" ∈ TB := tb_t6 (List.mem_of_getElem? (i := 22) rfl) rfl
set_option maxRecDepth 100000 in
theorem w_1327 : Cond.fieldLink "RingChamberModel" 47 "RingChamberModel" "row" "[I" ∈ TB := tb_t6 (List.mem_of_getElem? (i := 23) rfl) rfl
set_option maxRecDepth 100000 in
theorem w_1328 : Cond.fieldLink "RingChamberModel" 50 "RingChamberModel" "other" "[I" ∈ TB := tb_t6 (List.mem_of_getElem? (i := 24) rfl) rfl
set_option maxRecDepth 100000 in
theorem w_1329 : Cond.fieldLink "RingChamberModel" 53 "RingChamberModel" "made" "[I" ∈ TB := tb_t6 (List.mem_of_getElem? (i := 25) rfl) rfl
set_option maxRecDepth 100000 in
theorem w_1330 : Cond.fieldLink "RingChamberModel" 56 "RingChamberModel" "leadRows" "[I" ∈ TB := tb_t6 (List.mem_of_getElem? (i := 26) rfl) rfl
set_option maxRecDepth 100000 in
theorem w_1331 : Cond.fieldLink "RingChamberModel" 59 "RingChamberModel" "leadBack" "[I" ∈ TB := tb_t6 (List.mem_of_getElem? (i := 27) rfl) rfl
set_option maxRecDepth 100000 in
theorem w_1332 : Cond.fieldLink "RingChamberModel" 63 "RingChamberModel" "stamp" "[I" ∈ TB := tb_t6 (List.mem_of_getElem? (i := 28) rfl) rfl
set_option maxRecDepth 100000 in
theorem w_1333 : Cond.fieldLink "RingChamberModel" 333 "RingChamberModel" "stamps" "I" ∈ TB := tb_t6 (List.mem_of_getElem? (i := 29) rfl) rfl
set_option maxRecDepth 100000 in
theorem w_1334 : Cond.fieldLink "RingChamberModel" 66 "RingChamberModel" "rounds" "[I" ∈ TB := tb_t6 (List.mem_of_getElem? (i := 30) rfl) rfl
set_option maxRecDepth 100000 in
theorem w_1335 : Cond.fieldLink "RingChamberModel" 339 "RingChamberModel" "drawn" "I" ∈ TB := tb_t6 (List.mem_of_getElem? (i := 31) rfl) rfl
set_option maxRecDepth 100000 in
theorem w_1336 : Cond.fieldLink "RingChamberModel" 343 "RingChamberModel" "rungMany" "I" ∈ TB := tb_t6 (List.mem_of_getElem? (i := 32) rfl) rfl
set_option maxRecDepth 100000 in
theorem w_1337 : Cond.fieldLink "RingChamberModel" 355 "RingChamberModel" "lastRow" "I" ∈ TB := tb_t6 (List.mem_of_getElem? (i := 33) rfl) rfl
set_option maxRecDepth 100000 in
theorem w_1338 : Cond.fieldLink "RingChamberModel" 362 "RingChamberModel" "firstLike" "I" ∈ TB := tb_t6 (List.mem_of_getElem? (i := 34) rfl) rfl
set_option maxRecDepth 100000 in
theorem w_1339 : Cond.fieldLink "RingChamberModel" 365 "RingChamberModel" "secondLike" "I" ∈ TB := tb_t6 (List.mem_of_getElem? (i := 35) rfl) rfl
set_option maxRecDepth 100000 in
theorem w_1340 : Cond.fieldLink "RingChamberModel" 368 "RingChamberModel" "likes" "I" ∈ TB := tb_t6 (List.mem_of_getElem? (i := 36) rfl) rfl
set_option maxRecDepth 100000 in
theorem w_1341 : Cond.fieldLink "RingChamberModel" 69 "RingChamberModel" "heardRows" "[I" ∈ TB := tb_t6 (List.mem_of_getElem? (i := 37) rfl) rfl
set_option maxRecDepth 100000 in
theorem w_1342 : Cond.fieldLink "RingChamberModel" 72 "RingChamberModel" "found" "[I" ∈ TB := tb_t6 (List.mem_of_getElem? (i := 38) rfl) rfl
set_option maxRecDepth 100000 in
theorem w_1343 : Cond.fieldLink "RingChamberModel" 75 "RingChamberModel" "foundFrom" "[I" ∈ TB := tb_t6 (List.mem_of_getElem? (i := 39) rfl) rfl
set_option maxRecDepth 100000 in
theorem w_1344 : Cond.fieldLink "RingChamberModel" 78 "RingChamberModel" "foundBy" "[I" ∈ TB := tb_t6 (List.mem_of_getElem? (i := 40) rfl) rfl
set_option maxRecDepth 100000 in
theorem w_1345 : Cond.fieldLink "RingChamberModel" 393 "RingChamberModel" "foundMany" "I" ∈ TB := tb_t6 (List.mem_of_getElem? (i := 41) rfl) rfl
set_option maxRecDepth 100000 in
theorem w_1346 : Cond.fieldLink "RingChamberModel" 81 "RingChamberModel" "wayBy" "[I" ∈ TB := tb_t6 (List.mem_of_getElem? (i := 42) rfl) rfl
set_option maxRecDepth 100000 in
theorem w_1347 : Cond.fieldLink "RingChamberModel" 84 "RingChamberModel" "wayMany" "I" ∈ TB := tb_t6 (List.mem_of_getElem? (i := 43) rfl) rfl
set_option maxRecDepth 100000 in
theorem w_1348 : Cond.fieldLink "RingChamberModel" 87 "RingChamberModel" "calls0" "[I" ∈ TB := tb_t6 (List.mem_of_getElem? (i := 44) rfl) rfl
set_option maxRecDepth 100000 in
theorem w_1349 : Cond.fieldLink "RingChamberModel" 90 "RingChamberModel" "firstCalls" "[I" ∈ TB := tb_t6 (List.mem_of_getElem? (i := 45) rfl) rfl
set_option maxRecDepth 100000 in
theorem w_1350 : Cond.fieldLink "RingChamberModel" 93 "RingChamberModel" "headAt" "[I" ∈ TB := tb_t6 (List.mem_of_getElem? (i := 46) rfl) rfl
set_option maxRecDepth 100000 in
theorem w_1351 : Cond.fieldLink "RingChamberModel" 96 "RingChamberModel" "rowsSeen" "[I" ∈ TB := tb_t6 (List.mem_of_getElem? (i := 47) rfl) rfl
set_option maxRecDepth 100000 in
theorem w_1352 : Cond.fieldLink "RingChamberModel" 406 "RingChamberModel" "firstMany" "I" ∈ TB := tb_t6 (List.mem_of_getElem? (i := 48) rfl) rfl
set_option maxRecDepth 100000 in
theorem w_1353 : Cond.fieldLink "RingChamberModel" 399 "RingChamberModel" "seenMany" "I" ∈ TB := tb_t6 (List.mem_of_getElem? (i := 49) rfl) rfl
set_option maxRecDepth 100000 in
theorem w_1354 : Cond.fieldLink "RingChamberModel" 412 "RingChamberModel" "marks" "I" ∈ TB := tb_t6 (List.mem_of_getElem? (i := 50) rfl) rfl
set_option maxRecDepth 100000 in
theorem w_1461 : Cond.code ⟨"RingChamberModel", "status", "()I"⟩ prog_14_method_2_code 1 (some FieldType.int) ∈ TB := tb_t6 (List.mem_of_getElem? (i := 157) rfl) rfl
set_option maxRecDepth 100000 in
theorem w_1465 : Cond.code ⟨"RingChamberModel", "top", "()J"⟩ prog_14_method_3_code 1 (some FieldType.long) ∈ TB := tb_t6 (List.mem_of_getElem? (i := 161) rfl) rfl
set_option maxRecDepth 100000 in
theorem w_1469 : Cond.code ⟨"RingChamberModel", "bottom", "()J"⟩ prog_14_method_4_code 1 (some FieldType.long) ∈ TB := tb_t6 (List.mem_of_getElem? (i := 165) rfl) rfl
set_option maxRecDepth 100000 in
theorem w_1473 : Cond.code ⟨"RingChamberModel", "tray", "(III)Z"⟩ prog_14_method_12_code 5 (some FieldType.boolean) ∈ TB := tb_t6 (List.mem_of_getElem? (i := 169) rfl) rfl
set_option maxRecDepth 100000 in
theorem w_1474 : Cond.methodLink "RingChamberModel" 116 ⟨"RingChamberModel", "isTray", "(I)Z"⟩ ∈ TB := tb_t6 (List.mem_of_getElem? (i := 170) rfl) rfl
set_option maxRecDepth 100000 in
theorem w_1475 : Cond.static ⟨"RingChamberModel", "isTray", "(I)Z"⟩ ∈ TB := tb_t6 (List.mem_of_getElem? (i := 171) rfl) rfl
set_option maxRecDepth 100000 in
theorem w_1476 : Cond.code ⟨"RingChamberModel", "isTray", "(I)Z"⟩ prog_14_method_10_code 1 (some FieldType.boolean) ∈ TB := tb_t6 (List.mem_of_getElem? (i := 172) rfl) rfl
set_option maxRecDepth 100000 in
theorem w_1477 : Cond.methodLink "RingChamberModel" 112 ⟨"RingChamberModel", "is", "(I)Z"⟩ ∈ TB := tb_t6 (List.mem_of_getElem? (i := 173) rfl) rfl
set_option maxRecDepth 100000 in
theorem w_1479 : Cond.instanceMethod ⟨"RingChamberModel", "is", "(I)Z"⟩ ∈ TB := tb_t6 (List.mem_of_getElem? (i := 175) rfl) rfl
set_option maxRecDepth 100000 in
theorem w_1480 : Cond.code ⟨"RingChamberModel", "is", "(I)Z"⟩ prog_14_method_5_code 2 (some FieldType.boolean) ∈ TB := tb_t6 (List.mem_of_getElem? (i := 176) rfl) rfl
set_option maxRecDepth 100000 in
theorem w_1484 : Cond.code ⟨"RingChamberModel", "write", "(IIJ)Z"⟩ prog_14_method_14_code 6 (some FieldType.boolean) ∈ TB := tb_t6 (List.mem_of_getElem? (i := 180) rfl) rfl
set_option maxRecDepth 100000 in
theorem w_1485 : Cond.methodLink "RingChamberModel" 119 ⟨"RingChamberModel", "wrongPlace", "(II)I"⟩ ∈ TB := tb_t6 (List.mem_of_getElem? (i := 181) rfl) rfl
set_option maxRecDepth 100000 in
theorem w_1487 : Cond.instanceMethod ⟨"RingChamberModel", "wrongPlace", "(II)I"⟩ ∈ TB := tb_t6 (List.mem_of_getElem? (i := 183) rfl) rfl
set_option maxRecDepth 100000 in
theorem w_1488 : Cond.code ⟨"RingChamberModel", "wrongPlace", "(II)I"⟩ prog_14_method_13_code 3 (some FieldType.int) ∈ TB := tb_t6 (List.mem_of_getElem? (i := 184) rfl) rfl
set_option maxRecDepth 100000 in
theorem w_1489 : Cond.methodLink "RingChamberModel" 123 ⟨"RingChamberModel", "cut", "(JI)J"⟩ ∈ TB := tb_t6 (List.mem_of_getElem? (i := 185) rfl) rfl
set_option maxRecDepth 100000 in
theorem w_1490 : Cond.static ⟨"RingChamberModel", "cut", "(JI)J"⟩ ∈ TB := tb_t6 (List.mem_of_getElem? (i := 186) rfl) rfl
set_option maxRecDepth 100000 in
theorem w_1491 : Cond.code ⟨"RingChamberModel", "cut", "(JI)J"⟩ prog_14_method_11_code 3 (some FieldType.long) ∈ TB := tb_t6 (List.mem_of_getElem? (i := 187) rfl) rfl
set_option maxRecDepth 100000 in
theorem w_1495 : Cond.code ⟨"RingChamberModel", "read", "(II)J"⟩ prog_14_method_15_code 3 (some FieldType.long) ∈ TB := tb_t6 (List.mem_of_getElem? (i := 191) rfl) rfl
set_option maxRecDepth 100000 in
theorem w_1496 : Cond.constantLong "RingChamberModel" 127 (-1) ∈ TB := tb_t6 (List.mem_of_getElem? (i := 192) rfl) rfl
set_option maxRecDepth 100000 in
theorem w_1500 : Cond.code ⟨"RingChamberModel", "pour", "(IIIII)Z"⟩ prog_14_method_16_code 8 (some FieldType.boolean) ∈ TB := tb_t6 (List.mem_of_getElem? (i := 196) rfl) rfl
set_option maxRecDepth 100000 in
theorem w_1504 : Cond.code ⟨"RingChamberModel", "feed", "(IIIII)I"⟩ prog_14_method_18_code 6 (some FieldType.int) ∈ TB := tb_t6 (List.mem_of_getElem? (i := 200) rfl) rfl
set_option maxRecDepth 100000 in
theorem w_1505 : Cond.methodLink "RingChamberModel" 132 ⟨"RingChamberModel", "four", "(I)V"⟩ ∈ TB := tb_t6 (List.mem_of_getElem? (i := 201) rfl) rfl
set_option maxRecDepth 100000 in
theorem w_1507 : Cond.instanceMethod ⟨"RingChamberModel", "four", "(I)V"⟩ ∈ TB := tb_t6 (List.mem_of_getElem? (i := 203) rfl) rfl
set_option maxRecDepth 100000 in
theorem w_1508 : Cond.code ⟨"RingChamberModel", "four", "(I)V"⟩ prog_14_method_19_code 3 (none : Option Jvm.ClassFile.FieldType) ∈ TB := tb_t6 (List.mem_of_getElem? (i := 204) rfl) rfl
set_option maxRecDepth 100000 in
theorem w_1512 : Cond.code ⟨"RingChamberModel", "fault", "(I)I"⟩ prog_14_method_34_code 2 (some FieldType.int) ∈ TB := tb_t6 (List.mem_of_getElem? (i := 208) rfl) rfl
set_option maxRecDepth 100000 in
theorem w_1516 : Cond.code ⟨"RingChamberModel", "book", "(I)I"⟩ prog_14_method_44_code 4 (some FieldType.int) ∈ TB := tb_t6 (List.mem_of_getElem? (i := 212) rfl) rfl
set_option maxRecDepth 100000 in
theorem w_1517 : Cond.methodLink "RingChamberModel" 234 ⟨"RingChamberModel", "begins", "(II)Z"⟩ ∈ TB := tb_t6 (List.mem_of_getElem? (i := 213) rfl) rfl
set_option maxRecDepth 100000 in
theorem w_1519 : Cond.instanceMethod ⟨"RingChamberModel", "begins", "(II)Z"⟩ ∈ TB := tb_t6 (List.mem_of_getElem? (i := 215) rfl) rfl
set_option maxRecDepth 100000 in
theorem w_1520 : Cond.code ⟨"RingChamberModel", "begins", "(II)Z"⟩ prog_14_method_27_code 4 (some FieldType.boolean) ∈ TB := tb_t6 (List.mem_of_getElem? (i := 216) rfl) rfl
set_option maxRecDepth 100000 in
theorem w_1521 : Cond.methodLink "RingChamberModel" 182 ⟨"RingChamberModel", "ahead", "()V"⟩ ∈ TB := tb_t6 (List.mem_of_getElem? (i := 217) rfl) rfl
set_option maxRecDepth 100000 in
theorem w_1523 : Cond.instanceMethod ⟨"RingChamberModel", "ahead", "()V"⟩ ∈ TB := tb_t6 (List.mem_of_getElem? (i := 219) rfl) rfl
set_option maxRecDepth 100000 in
theorem w_1524 : Cond.code ⟨"RingChamberModel", "ahead", "()V"⟩ prog_14_method_23_code 2 (none : Option Jvm.ClassFile.FieldType) ∈ TB := tb_t6 (List.mem_of_getElem? (i := 220) rfl) rfl
set_option maxRecDepth 100000 in
theorem w_1525 : Cond.methodLink "RingChamberModel" 142 ⟨"RingChamberModel", "byteAt", "(I)I"⟩ ∈ TB := tb_t6 (List.mem_of_getElem? (i := 221) rfl) rfl
set_option maxRecDepth 100000 in
theorem w_1527 : Cond.instanceMethod ⟨"RingChamberModel", "byteAt", "(I)I"⟩ ∈ TB := tb_t6 (List.mem_of_getElem? (i := 223) rfl) rfl
set_option maxRecDepth 100000 in
theorem w_1528 : Cond.code ⟨"RingChamberModel", "byteAt", "(I)I"⟩ prog_14_method_20_code 2 (some FieldType.int) ∈ TB := tb_t6 (List.mem_of_getElem? (i := 224) rfl) rfl
set_option maxRecDepth 100000 in
theorem w_1529 : Cond.methodLink "RingChamberModel" 154 ⟨"RingChamberModel", "isSmall", "(I)Z"⟩ ∈ TB := tb_t6 (List.mem_of_getElem? (i := 225) rfl) rfl
set_option maxRecDepth 100000 in
theorem w_1530 : Cond.static ⟨"RingChamberModel", "isSmall", "(I)Z"⟩ ∈ TB := tb_t6 (List.mem_of_getElem? (i := 226) rfl) rfl
set_option maxRecDepth 100000 in
theorem w_1531 : Cond.code ⟨"RingChamberModel", "isSmall", "(I)Z"⟩ prog_14_method_21_code 1 (some FieldType.boolean) ∈ TB := tb_t6 (List.mem_of_getElem? (i := 227) rfl) rfl
set_option maxRecDepth 100000 in
theorem w_1532 : Cond.methodLink "RingChamberModel" 157 ⟨"RingChamberModel", "isDigit", "(I)Z"⟩ ∈ TB := tb_t6 (List.mem_of_getElem? (i := 228) rfl) rfl
set_option maxRecDepth 100000 in
theorem w_1533 : Cond.static ⟨"RingChamberModel", "isDigit", "(I)Z"⟩ ∈ TB := tb_t6 (List.mem_of_getElem? (i := 229) rfl) rfl
set_option maxRecDepth 100000 in
theorem w_1534 : Cond.code ⟨"RingChamberModel", "isDigit", "(I)Z"⟩ prog_14_method_22_code 1 (some FieldType.boolean) ∈ TB := tb_t6 (List.mem_of_getElem? (i := 230) rfl) rfl
set_option maxRecDepth 100000 in
theorem w_1535 : Cond.constant "RingChamberModel" 160 100000000 ∈ TB := tb_t6 (List.mem_of_getElem? (i := 231) rfl) rfl
set_option maxRecDepth 100000 in
theorem w_1536 : Cond.methodLink "RingChamberModel" 161 ⟨"java/lang/Math", "min", "(II)I"⟩ ∈ TB := tb_t6 (List.mem_of_getElem? (i := 232) rfl) rfl
set_option maxRecDepth 100000 in
theorem w_1537 : Cond.methodLink "RingChamberModel" 105 ⟨"RingChamberModel", "refuse", "(I)I"⟩ ∈ TB := tb_t6 (List.mem_of_getElem? (i := 233) rfl) rfl
set_option maxRecDepth 100000 in
theorem w_1539 : Cond.instanceMethod ⟨"RingChamberModel", "refuse", "(I)I"⟩ ∈ TB := tb_t6 (List.mem_of_getElem? (i := 235) rfl) rfl
set_option maxRecDepth 100000 in
theorem w_1540 : Cond.code ⟨"RingChamberModel", "refuse", "(I)I"⟩ prog_14_method_6_code 2 (some FieldType.int) ∈ TB := tb_t6 (List.mem_of_getElem? (i := 236) rfl) rfl
set_option maxRecDepth 100000 in
theorem w_1542 : Cond.methodLink "RingChamberModel" 237 ⟨"RingChamberModel", "wantWord", "(Ljava/lang/String;I)Z"⟩ ∈ TB := tb_t6 (List.mem_of_getElem? (i := 238) rfl) rfl
set_option maxRecDepth 100000 in
theorem w_1544 : Cond.instanceMethod ⟨"RingChamberModel", "wantWord", "(Ljava/lang/String;I)Z"⟩ ∈ TB := tb_t7 (List.mem_of_getElem? (i := 0) rfl) rfl
set_option maxRecDepth 100000 in
theorem w_1545 : Cond.code ⟨"RingChamberModel", "wantWord", "(Ljava/lang/String;I)Z"⟩ prog_14_method_29_code 3 (some FieldType.boolean) ∈ TB := tb_t7 (List.mem_of_getElem? (i := 1) rfl) rfl
set_option maxRecDepth 100000 in
theorem w_1546 : Cond.methodLink "RingChamberModel" 191 ⟨"RingChamberModel", "inWords", "(Ljava/lang/String;)I"⟩ ∈ TB := tb_t7 (List.mem_of_getElem? (i := 2) rfl) rfl
set_option maxRecDepth 100000 in
theorem w_1548 : Cond.instanceMethod ⟨"RingChamberModel", "inWords", "(Ljava/lang/String;)I"⟩ ∈ TB := tb_t7 (List.mem_of_getElem? (i := 4) rfl) rfl
set_option maxRecDepth 100000 in
theorem w_1549 : Cond.code ⟨"RingChamberModel", "inWords", "(Ljava/lang/String;)I"⟩ prog_14_method_25_code 7 (some FieldType.int) ∈ TB := tb_t7 (List.mem_of_getElem? (i := 5) rfl) rfl
set_option maxRecDepth 100000 in
theorem w_1550 : Cond.methodLink "RingChamberModel" 166 ⟨"java/lang/String", "length", "()I"⟩ ∈ TB := tb_t7 (List.mem_of_getElem? (i := 6) rfl) rfl
set_option maxRecDepth 100000 in
theorem w_1551 : Cond.methodLink "RingChamberModel" 172 ⟨"java/lang/String", "charAt", "(I)C"⟩ ∈ TB := tb_t7 (List.mem_of_getElem? (i := 7) rfl) rfl
set_option maxRecDepth 100000 in
theorem w_1552 : Cond.methodLink "RingChamberModel" 188 ⟨"RingChamberModel", "fails", "(I)Z"⟩ ∈ TB := tb_t7 (List.mem_of_getElem? (i := 8) rfl) rfl
set_option maxRecDepth 100000 in
theorem w_1554 : Cond.instanceMethod ⟨"RingChamberModel", "fails", "(I)Z"⟩ ∈ TB := tb_t7 (List.mem_of_getElem? (i := 10) rfl) rfl
set_option maxRecDepth 100000 in
theorem w_1555 : Cond.code ⟨"RingChamberModel", "fails", "(I)Z"⟩ prog_14_method_26_code 2 (some FieldType.boolean) ∈ TB := tb_t7 (List.mem_of_getElem? (i := 11) rfl) rfl
set_option maxRecDepth 100000 in
theorem w_1556 : Cond.methodLink "RingChamberModel" 241 ⟨"RingChamberModel", "numberTo", "(III)Z"⟩ ∈ TB := tb_t7 (List.mem_of_getElem? (i := 12) rfl) rfl
set_option maxRecDepth 100000 in
theorem w_1558 : Cond.instanceMethod ⟨"RingChamberModel", "numberTo", "(III)Z"⟩ ∈ TB := tb_t7 (List.mem_of_getElem? (i := 14) rfl) rfl
set_option maxRecDepth 100000 in
theorem w_1559 : Cond.code ⟨"RingChamberModel", "numberTo", "(III)Z"⟩ prog_14_method_30_code 4 (some FieldType.boolean) ∈ TB := tb_t7 (List.mem_of_getElem? (i := 15) rfl) rfl
set_option maxRecDepth 100000 in
theorem w_1560 : Cond.methodLink "RingChamberModel" 231 ⟨"RingChamberModel", "wantSign", "(I)Z"⟩ ∈ TB := tb_t7 (List.mem_of_getElem? (i := 16) rfl) rfl
set_option maxRecDepth 100000 in
theorem w_1562 : Cond.instanceMethod ⟨"RingChamberModel", "wantSign", "(I)Z"⟩ ∈ TB := tb_t7 (List.mem_of_getElem? (i := 18) rfl) rfl
set_option maxRecDepth 100000 in
theorem w_1563 : Cond.code ⟨"RingChamberModel", "wantSign", "(I)Z"⟩ prog_14_method_28_code 2 (some FieldType.boolean) ∈ TB := tb_t7 (List.mem_of_getElem? (i := 19) rfl) rfl
set_option maxRecDepth 100000 in
theorem w_1564 : Cond.methodLink "RingChamberModel" 185 ⟨"RingChamberModel", "isSign", "(I)Z"⟩ ∈ TB := tb_t7 (List.mem_of_getElem? (i := 20) rfl) rfl
set_option maxRecDepth 100000 in
theorem w_1566 : Cond.instanceMethod ⟨"RingChamberModel", "isSign", "(I)Z"⟩ ∈ TB := tb_t7 (List.mem_of_getElem? (i := 22) rfl) rfl
set_option maxRecDepth 100000 in
theorem w_1567 : Cond.code ⟨"RingChamberModel", "isSign", "(I)Z"⟩ prog_14_method_24_code 2 (some FieldType.boolean) ∈ TB := tb_t7 (List.mem_of_getElem? (i := 23) rfl) rfl
set_option maxRecDepth 100000 in
theorem w_1568 : Cond.methodLink "RingChamberModel" 245 ⟨"RingChamberModel", "bookPart", "()Z"⟩ ∈ TB := tb_t7 (List.mem_of_getElem? (i := 24) rfl) rfl
set_option maxRecDepth 100000 in
theorem w_1570 : Cond.instanceMethod ⟨"RingChamberModel", "bookPart", "()Z"⟩ ∈ TB := tb_t7 (List.mem_of_getElem? (i := 26) rfl) rfl
set_option maxRecDepth 100000 in
theorem w_1571 : Cond.code ⟨"RingChamberModel", "bookPart", "()Z"⟩ prog_14_method_43_code 2 (some FieldType.boolean) ∈ TB := tb_t7 (List.mem_of_getElem? (i := 27) rfl) rfl
set_option maxRecDepth 100000 in
theorem w_1572 : Cond.methodLink "RingChamberModel" 225 ⟨"RingChamberModel", "aMethod", "()Z"⟩ ∈ TB := tb_t7 (List.mem_of_getElem? (i := 28) rfl) rfl
set_option maxRecDepth 100000 in
theorem w_1574 : Cond.instanceMethod ⟨"RingChamberModel", "aMethod", "()Z"⟩ ∈ TB := tb_t7 (List.mem_of_getElem? (i := 30) rfl) rfl
set_option maxRecDepth 100000 in
theorem w_1575 : Cond.code ⟨"RingChamberModel", "aMethod", "()Z"⟩ prog_14_method_41_code 4 (some FieldType.boolean) ∈ TB := tb_t7 (List.mem_of_getElem? (i := 31) rfl) rfl
set_option maxRecDepth 100000 in
theorem w_1576 : Cond.methodLink "RingChamberModel" 219 ⟨"RingChamberModel", "newName", "(I)Z"⟩ ∈ TB := tb_t7 (List.mem_of_getElem? (i := 32) rfl) rfl
set_option maxRecDepth 100000 in
theorem w_1578 : Cond.instanceMethod ⟨"RingChamberModel", "newName", "(I)Z"⟩ ∈ TB := tb_t7 (List.mem_of_getElem? (i := 34) rfl) rfl
set_option maxRecDepth 100000 in
theorem w_1579 : Cond.code ⟨"RingChamberModel", "newName", "(I)Z"⟩ prog_14_method_40_code 2 (some FieldType.boolean) ∈ TB := tb_t7 (List.mem_of_getElem? (i := 35) rfl) rfl
set_option maxRecDepth 100000 in
theorem w_1580 : Cond.methodLink "RingChamberModel" 212 ⟨"RingChamberModel", "isName", "(Ljava/lang/String;)Z"⟩ ∈ TB := tb_t7 (List.mem_of_getElem? (i := 36) rfl) rfl
set_option maxRecDepth 100000 in
theorem w_1582 : Cond.instanceMethod ⟨"RingChamberModel", "isName", "(Ljava/lang/String;)Z"⟩ ∈ TB := tb_t7 (List.mem_of_getElem? (i := 38) rfl) rfl
set_option maxRecDepth 100000 in
theorem w_1583 : Cond.code ⟨"RingChamberModel", "isName", "(Ljava/lang/String;)Z"⟩ prog_14_method_31_code 2 (some FieldType.boolean) ∈ TB := tb_t7 (List.mem_of_getElem? (i := 39) rfl) rfl
set_option maxRecDepth 100000 in
theorem w_1584 : Cond.methodLink "RingChamberModel" 216 ⟨"RingChamberModel", "findHere", "(II)I"⟩ ∈ TB := tb_t7 (List.mem_of_getElem? (i := 40) rfl) rfl
set_option maxRecDepth 100000 in
theorem w_1586 : Cond.instanceMethod ⟨"RingChamberModel", "findHere", "(II)I"⟩ ∈ TB := tb_t7 (List.mem_of_getElem? (i := 42) rfl) rfl
set_option maxRecDepth 100000 in
theorem w_1587 : Cond.code ⟨"RingChamberModel", "findHere", "(II)I"⟩ prog_14_method_33_code 4 (some FieldType.int) ∈ TB := tb_t7 (List.mem_of_getElem? (i := 43) rfl) rfl
set_option maxRecDepth 100000 in
theorem w_1588 : Cond.methodLink "RingChamberModel" 195 ⟨"RingChamberModel", "nameHere", "()J"⟩ ∈ TB := tb_t7 (List.mem_of_getElem? (i := 44) rfl) rfl
set_option maxRecDepth 100000 in
theorem w_1590 : Cond.instanceMethod ⟨"RingChamberModel", "nameHere", "()J"⟩ ∈ TB := tb_t7 (List.mem_of_getElem? (i := 46) rfl) rfl
set_option maxRecDepth 100000 in
theorem w_1591 : Cond.code ⟨"RingChamberModel", "nameHere", "()J"⟩ prog_14_method_32_code 4 (some FieldType.long) ∈ TB := tb_t7 (List.mem_of_getElem? (i := 47) rfl) rfl
set_option maxRecDepth 100000 in
theorem w_1592 : Cond.methodLink "RingChamberModel" 205 ⟨"RingChamberModel", "isPlaces", "()Z"⟩ ∈ TB := tb_t7 (List.mem_of_getElem? (i := 48) rfl) rfl
set_option maxRecDepth 100000 in
theorem w_1594 : Cond.instanceMethod ⟨"RingChamberModel", "isPlaces", "()Z"⟩ ∈ TB := tb_t7 (List.mem_of_getElem? (i := 50) rfl) rfl
set_option maxRecDepth 100000 in
theorem w_1595 : Cond.code ⟨"RingChamberModel", "isPlaces", "()Z"⟩ prog_14_method_37_code 1 (some FieldType.boolean) ∈ TB := tb_t7 (List.mem_of_getElem? (i := 51) rfl) rfl
set_option maxRecDepth 100000 in
theorem w_1596 : Cond.methodLink "RingChamberModel" 209 ⟨"RingChamberModel", "placesHere", "()I"⟩ ∈ TB := tb_t7 (List.mem_of_getElem? (i := 52) rfl) rfl
set_option maxRecDepth 100000 in
theorem w_1598 : Cond.instanceMethod ⟨"RingChamberModel", "placesHere", "()I"⟩ ∈ TB := tb_t7 (List.mem_of_getElem? (i := 54) rfl) rfl
set_option maxRecDepth 100000 in
theorem w_1599 : Cond.code ⟨"RingChamberModel", "placesHere", "()I"⟩ prog_14_method_38_code 5 (some FieldType.int) ∈ TB := tb_t7 (List.mem_of_getElem? (i := 55) rfl) rfl
set_option maxRecDepth 100000 in
theorem w_1600 : Cond.methodLink "RingChamberModel" 201 ⟨"RingChamberModel", "canChange", "(II)Z"⟩ ∈ TB := tb_t7 (List.mem_of_getElem? (i := 56) rfl) rfl
set_option maxRecDepth 100000 in
theorem w_1601 : Cond.static ⟨"RingChamberModel", "canChange", "(II)Z"⟩ ∈ TB := tb_t7 (List.mem_of_getElem? (i := 57) rfl) rfl
set_option maxRecDepth 100000 in
theorem w_1602 : Cond.code ⟨"RingChamberModel", "canChange", "(II)Z"⟩ prog_14_method_36_code 3 (some FieldType.boolean) ∈ TB := tb_t7 (List.mem_of_getElem? (i := 58) rfl) rfl
set_option maxRecDepth 100000 in
theorem w_1603 : Cond.methodLink "RingChamberModel" 222 ⟨"RingChamberModel", "placesTo", "(I)Z"⟩ ∈ TB := tb_t7 (List.mem_of_getElem? (i := 59) rfl) rfl
set_option maxRecDepth 100000 in
theorem w_1605 : Cond.instanceMethod ⟨"RingChamberModel", "placesTo", "(I)Z"⟩ ∈ TB := tb_t7 (List.mem_of_getElem? (i := 61) rfl) rfl
set_option maxRecDepth 100000 in
theorem w_1606 : Cond.code ⟨"RingChamberModel", "placesTo", "(I)Z"⟩ prog_14_method_39_code 3 (some FieldType.boolean) ∈ TB := tb_t7 (List.mem_of_getElem? (i := 62) rfl) rfl
set_option maxRecDepth 100000 in
theorem w_1607 : Cond.methodLink "RingChamberModel" 228 ⟨"RingChamberModel", "aRinger", "()Z"⟩ ∈ TB := tb_t7 (List.mem_of_getElem? (i := 63) rfl) rfl
set_option maxRecDepth 100000 in
theorem w_1609 : Cond.instanceMethod ⟨"RingChamberModel", "aRinger", "()Z"⟩ ∈ TB := tb_t7 (List.mem_of_getElem? (i := 65) rfl) rfl
set_option maxRecDepth 100000 in
theorem w_1610 : Cond.code ⟨"RingChamberModel", "aRinger", "()Z"⟩ prog_14_method_42_code 1 (some FieldType.boolean) ∈ TB := tb_t7 (List.mem_of_getElem? (i := 66) rfl) rfl
set_option maxRecDepth 100000 in
theorem w_1611 : Cond.methodLink "RingChamberModel" 248 ⟨"RingChamberModel", "taken", "(I)I"⟩ ∈ TB := tb_t7 (List.mem_of_getElem? (i := 67) rfl) rfl
set_option maxRecDepth 100000 in
theorem w_1613 : Cond.instanceMethod ⟨"RingChamberModel", "taken", "(I)I"⟩ ∈ TB := tb_t7 (List.mem_of_getElem? (i := 69) rfl) rfl
set_option maxRecDepth 100000 in
theorem w_1614 : Cond.code ⟨"RingChamberModel", "taken", "(I)I"⟩ prog_14_method_35_code 2 (some FieldType.int) ∈ TB := tb_t7 (List.mem_of_getElem? (i := 70) rfl) rfl
set_option maxRecDepth 100000 in
theorem w_1615 : Cond.methodLink "RingChamberModel" 109 ⟨"RingChamberModel", "gives", "(I)I"⟩ ∈ TB := tb_t7 (List.mem_of_getElem? (i := 71) rfl) rfl
set_option maxRecDepth 100000 in
theorem w_1617 : Cond.instanceMethod ⟨"RingChamberModel", "gives", "(I)I"⟩ ∈ TB := tb_t7 (List.mem_of_getElem? (i := 73) rfl) rfl
set_option maxRecDepth 100000 in
theorem w_1618 : Cond.code ⟨"RingChamberModel", "gives", "(I)I"⟩ prog_14_method_7_code 2 (some FieldType.int) ∈ TB := tb_t7 (List.mem_of_getElem? (i := 74) rfl) rfl
set_option maxRecDepth 100000 in
theorem w_1622 : Cond.code ⟨"RingChamberModel", "touch", "(I)I"⟩ prog_14_method_47_code 4 (some FieldType.int) ∈ TB := tb_t7 (List.mem_of_getElem? (i := 78) rfl) rfl
set_option maxRecDepth 100000 in
theorem w_1623 : Cond.methodLink "RingChamberModel" 260 ⟨"RingChamberModel", "step", "()Z"⟩ ∈ TB := tb_t7 (List.mem_of_getElem? (i := 79) rfl) rfl
set_option maxRecDepth 100000 in
theorem w_1625 : Cond.instanceMethod ⟨"RingChamberModel", "step", "()Z"⟩ ∈ TB := tb_t7 (List.mem_of_getElem? (i := 81) rfl) rfl
set_option maxRecDepth 100000 in
theorem w_1626 : Cond.code ⟨"RingChamberModel", "step", "()Z"⟩ prog_14_method_46_code 6 (some FieldType.boolean) ∈ TB := tb_t7 (List.mem_of_getElem? (i := 82) rfl) rfl
set_option maxRecDepth 100000 in
theorem w_1627 : Cond.methodLink "RingChamberModel" 257 ⟨"RingChamberModel", "aLead", "(I)Z"⟩ ∈ TB := tb_t7 (List.mem_of_getElem? (i := 83) rfl) rfl
set_option maxRecDepth 100000 in
theorem w_1629 : Cond.instanceMethod ⟨"RingChamberModel", "aLead", "(I)Z"⟩ ∈ TB := tb_t7 (List.mem_of_getElem? (i := 85) rfl) rfl
set_option maxRecDepth 100000 in
theorem w_1630 : Cond.code ⟨"RingChamberModel", "aLead", "(I)Z"⟩ prog_14_method_45_code 3 (some FieldType.boolean) ∈ TB := tb_t7 (List.mem_of_getElem? (i := 86) rfl) rfl
set_option maxRecDepth 100000 in
theorem w_1634 : Cond.code ⟨"RingChamberModel", "told", "(I)I"⟩ prog_14_method_58_code 2 (some FieldType.int) ∈ TB := tb_t7 (List.mem_of_getElem? (i := 90) rfl) rfl
set_option maxRecDepth 100000 in
theorem w_1635 : Cond.methodLink "RingChamberModel" 263 ⟨"RingChamberModel", "rowsMany", "()I"⟩ ∈ TB := tb_t7 (List.mem_of_getElem? (i := 91) rfl) rfl
set_option maxRecDepth 100000 in
theorem w_1637 : Cond.instanceMethod ⟨"RingChamberModel", "rowsMany", "()I"⟩ ∈ TB := tb_t7 (List.mem_of_getElem? (i := 93) rfl) rfl
set_option maxRecDepth 100000 in
theorem w_1638 : Cond.code ⟨"RingChamberModel", "rowsMany", "()I"⟩ prog_14_method_48_code 3 (some FieldType.int) ∈ TB := tb_t7 (List.mem_of_getElem? (i := 94) rfl) rfl
set_option maxRecDepth 100000 in
theorem w_1639 : Cond.methodLink "RingChamberModel" 274 ⟨"RingChamberModel", "orNone", "(I)I"⟩ ∈ TB := tb_t7 (List.mem_of_getElem? (i := 95) rfl) rfl
set_option maxRecDepth 100000 in
theorem w_1641 : Cond.instanceMethod ⟨"RingChamberModel", "orNone", "(I)I"⟩ ∈ TB := tb_t7 (List.mem_of_getElem? (i := 97) rfl) rfl
set_option maxRecDepth 100000 in
theorem w_1642 : Cond.code ⟨"RingChamberModel", "orNone", "(I)I"⟩ prog_14_method_8_code 2 (some FieldType.int) ∈ TB := tb_t7 (List.mem_of_getElem? (i := 98) rfl) rfl
set_option maxRecDepth 100000 in
theorem w_1646 : Cond.code ⟨"RingChamberModel", "bell", "(II)I"⟩ prog_14_method_59_code 3 (some FieldType.int) ∈ TB := tb_t7 (List.mem_of_getElem? (i := 102) rfl) rfl
set_option maxRecDepth 100000 in
theorem w_1647 : Cond.methodLink "RingChamberModel" 277 ⟨"RingChamberModel", "isRow", "(I)Z"⟩ ∈ TB := tb_t7 (List.mem_of_getElem? (i := 103) rfl) rfl
set_option maxRecDepth 100000 in
theorem w_1649 : Cond.instanceMethod ⟨"RingChamberModel", "isRow", "(I)Z"⟩ ∈ TB := tb_t7 (List.mem_of_getElem? (i := 105) rfl) rfl
set_option maxRecDepth 100000 in
theorem w_1650 : Cond.code ⟨"RingChamberModel", "isRow", "(I)Z"⟩ prog_14_method_54_code 2 (some FieldType.boolean) ∈ TB := tb_t7 (List.mem_of_getElem? (i := 106) rfl) rfl
set_option maxRecDepth 100000 in
theorem w_1651 : Cond.methodLink "RingChamberModel" 280 ⟨"RingChamberModel", "isBell", "(I)Z"⟩ ∈ TB := tb_t7 (List.mem_of_getElem? (i := 107) rfl) rfl
set_option maxRecDepth 100000 in
theorem w_1653 : Cond.instanceMethod ⟨"RingChamberModel", "isBell", "(I)Z"⟩ ∈ TB := tb_t7 (List.mem_of_getElem? (i := 109) rfl) rfl
set_option maxRecDepth 100000 in
theorem w_1654 : Cond.code ⟨"RingChamberModel", "isBell", "(I)Z"⟩ prog_14_method_57_code 2 (some FieldType.boolean) ∈ TB := tb_t7 (List.mem_of_getElem? (i := 110) rfl) rfl
set_option maxRecDepth 100000 in
theorem w_1655 : Cond.methodLink "RingChamberModel" 266 ⟨"RingChamberModel", "laysRow", "(I[I)V"⟩ ∈ TB := tb_t7 (List.mem_of_getElem? (i := 111) rfl) rfl
set_option maxRecDepth 100000 in
theorem w_1657 : Cond.instanceMethod ⟨"RingChamberModel", "laysRow", "(I[I)V"⟩ ∈ TB := tb_t7 (List.mem_of_getElem? (i := 113) rfl) rfl
set_option maxRecDepth 100000 in
theorem w_1658 : Cond.code ⟨"RingChamberModel", "laysRow", "(I[I)V"⟩ prog_14_method_49_code 10 (none : Option Jvm.ClassFile.FieldType) ∈ TB := tb_t7 (List.mem_of_getElem? (i := 114) rfl) rfl
set_option maxRecDepth 100000 in
theorem w_1662 : Cond.code ⟨"RingChamberModel", "number", "(I)I"⟩ prog_14_method_60_code 6 (some FieldType.int) ∈ TB := tb_t7 (List.mem_of_getElem? (i := 118) rfl) rfl
set_option maxRecDepth 100000 in
theorem w_1663 : Cond.methodLink "RingChamberModel" 283 ⟨"RingChamberModel", "isFrom", "(JJJ)Z"⟩ ∈ TB := tb_t7 (List.mem_of_getElem? (i := 119) rfl) rfl
set_option maxRecDepth 100000 in
theorem w_1664 : Cond.static ⟨"RingChamberModel", "isFrom", "(JJJ)Z"⟩ ∈ TB := tb_t7 (List.mem_of_getElem? (i := 120) rfl) rfl
set_option maxRecDepth 100000 in
theorem w_1665 : Cond.code ⟨"RingChamberModel", "isFrom", "(JJJ)Z"⟩ prog_14_method_17_code 6 (some FieldType.boolean) ∈ TB := tb_t7 (List.mem_of_getElem? (i := 121) rfl) rfl
set_option maxRecDepth 100000 in
theorem w_1666 : Cond.methodLink "RingChamberModel" 270 ⟨"RingChamberModel", "numberOf", "([I)I"⟩ ∈ TB := tb_t7 (List.mem_of_getElem? (i := 122) rfl) rfl
set_option maxRecDepth 100000 in
theorem w_1668 : Cond.instanceMethod ⟨"RingChamberModel", "numberOf", "([I)I"⟩ ∈ TB := tb_t7 (List.mem_of_getElem? (i := 124) rfl) rfl
set_option maxRecDepth 100000 in
theorem w_1669 : Cond.code ⟨"RingChamberModel", "numberOf", "([I)I"⟩ prog_14_method_50_code 7 (some FieldType.int) ∈ TB := tb_t7 (List.mem_of_getElem? (i := 125) rfl) rfl
set_option maxRecDepth 100000 in
theorem w_1673 : Cond.code ⟨"RingChamberModel", "product", "(II)I"⟩ prog_14_method_61_code 3 (some FieldType.int) ∈ TB := tb_t7 (List.mem_of_getElem? (i := 129) rfl) rfl
set_option maxRecDepth 100000 in
theorem w_1674 : Cond.methodLink "RingChamberModel" 287 ⟨"RingChamberModel", "productOf", "(II)I"⟩ ∈ TB := tb_t7 (List.mem_of_getElem? (i := 130) rfl) rfl
set_option maxRecDepth 100000 in
theorem w_1676 : Cond.instanceMethod ⟨"RingChamberModel", "productOf", "(II)I"⟩ ∈ TB := tb_t7 (List.mem_of_getElem? (i := 132) rfl) rfl
set_option maxRecDepth 100000 in
theorem w_1677 : Cond.code ⟨"RingChamberModel", "productOf", "(II)I"⟩ prog_14_method_51_code 4 (some FieldType.int) ∈ TB := tb_t7 (List.mem_of_getElem? (i := 133) rfl) rfl
set_option maxRecDepth 100000 in
theorem w_1681 : Cond.code ⟨"RingChamberModel", "inverse", "(I)I"⟩ prog_14_method_62_code 2 (some FieldType.int) ∈ TB := tb_t7 (List.mem_of_getElem? (i := 137) rfl) rfl
set_option maxRecDepth 100000 in
theorem w_1682 : Cond.methodLink "RingChamberModel" 290 ⟨"RingChamberModel", "inverseOf", "(I)I"⟩ ∈ TB := tb_t7 (List.mem_of_getElem? (i := 138) rfl) rfl
set_option maxRecDepth 100000 in
theorem w_1684 : Cond.instanceMethod ⟨"RingChamberModel", "inverseOf", "(I)I"⟩ ∈ TB := tb_t7 (List.mem_of_getElem? (i := 140) rfl) rfl
set_option maxRecDepth 100000 in
theorem w_1685 : Cond.code ⟨"RingChamberModel", "inverseOf", "(I)I"⟩ prog_14_method_52_code 3 (some FieldType.int) ∈ TB := tb_t7 (List.mem_of_getElem? (i := 141) rfl) rfl
set_option maxRecDepth 100000 in
theorem w_1689 : Cond.code ⟨"RingChamberModel", "order", "(I)I"⟩ prog_14_method_64_code 2 (some FieldType.int) ∈ TB := tb_t7 (List.mem_of_getElem? (i := 145) rfl) rfl
set_option maxRecDepth 100000 in
theorem w_1690 : Cond.methodLink "RingChamberModel" 293 ⟨"RingChamberModel", "orderOf", "(I)I"⟩ ∈ TB := tb_t7 (List.mem_of_getElem? (i := 146) rfl) rfl
set_option maxRecDepth 100000 in
theorem w_1692 : Cond.instanceMethod ⟨"RingChamberModel", "orderOf", "(I)I"⟩ ∈ TB := tb_t7 (List.mem_of_getElem? (i := 148) rfl) rfl
set_option maxRecDepth 100000 in
theorem w_1693 : Cond.code ⟨"RingChamberModel", "orderOf", "(I)I"⟩ prog_14_method_63_code 4 (some FieldType.int) ∈ TB := tb_t7 (List.mem_of_getElem? (i := 149) rfl) rfl
set_option maxRecDepth 100000 in
theorem w_1697 : Cond.code ⟨"RingChamberModel", "even", "(I)I"⟩ prog_14_method_66_code 2 (some FieldType.int) ∈ TB := tb_t7 (List.mem_of_getElem? (i := 153) rfl) rfl
set_option maxRecDepth 100000 in
theorem w_1698 : Cond.methodLink "RingChamberModel" 296 ⟨"RingChamberModel", "isEven", "(I)Z"⟩ ∈ TB := tb_t7 (List.mem_of_getElem? (i := 154) rfl) rfl
set_option maxRecDepth 100000 in
theorem w_1700 : Cond.instanceMethod ⟨"RingChamberModel", "isEven", "(I)Z"⟩ ∈ TB := tb_t7 (List.mem_of_getElem? (i := 156) rfl) rfl
set_option maxRecDepth 100000 in
theorem w_1701 : Cond.code ⟨"RingChamberModel", "isEven", "(I)Z"⟩ prog_14_method_65_code 5 (some FieldType.boolean) ∈ TB := tb_t7 (List.mem_of_getElem? (i := 157) rfl) rfl
set_option maxRecDepth 100000 in
theorem w_1705 : Cond.code ⟨"RingChamberModel", "done", "(II)I"⟩ prog_14_method_68_code 4 (some FieldType.int) ∈ TB := tb_t7 (List.mem_of_getElem? (i := 161) rfl) rfl
set_option maxRecDepth 100000 in
theorem w_1706 : Cond.methodLink "RingChamberModel" 299 ⟨"RingChamberModel", "placesOf", "(I)I"⟩ ∈ TB := tb_t7 (List.mem_of_getElem? (i := 162) rfl) rfl
set_option maxRecDepth 100000 in
theorem w_1708 : Cond.instanceMethod ⟨"RingChamberModel", "placesOf", "(I)I"⟩ ∈ TB := tb_t7 (List.mem_of_getElem? (i := 164) rfl) rfl
set_option maxRecDepth 100000 in
theorem w_1709 : Cond.code ⟨"RingChamberModel", "placesOf", "(I)I"⟩ prog_14_method_67_code 6 (some FieldType.int) ∈ TB := tb_t7 (List.mem_of_getElem? (i := 165) rfl) rfl
set_option maxRecDepth 100000 in
theorem w_1710 : Cond.methodLink "RingChamberModel" 302 ⟨"RingChamberModel", "changes0", "(IZ)V"⟩ ∈ TB := tb_t7 (List.mem_of_getElem? (i := 166) rfl) rfl
set_option maxRecDepth 100000 in
theorem w_1712 : Cond.instanceMethod ⟨"RingChamberModel", "changes0", "(IZ)V"⟩ ∈ TB := tb_t7 (List.mem_of_getElem? (i := 168) rfl) rfl
set_option maxRecDepth 100000 in
theorem w_1713 : Cond.code ⟨"RingChamberModel", "changes0", "(IZ)V"⟩ prog_14_method_53_code 6 (none : Option Jvm.ClassFile.FieldType) ∈ TB := tb_t7 (List.mem_of_getElem? (i := 169) rfl) rfl
set_option maxRecDepth 100000 in
theorem w_1717 : Cond.code ⟨"RingChamberModel", "power", "(II)I"⟩ prog_14_method_69_code 5 (some FieldType.int) ∈ TB := tb_t7 (List.mem_of_getElem? (i := 173) rfl) rfl
set_option maxRecDepth 100000 in
theorem w_1718 : Cond.constantLong "RingChamberModel" 306 99 ∈ TB := tb_t7 (List.mem_of_getElem? (i := 174) rfl) rfl
set_option maxRecDepth 100000 in
theorem w_1722 : Cond.code ⟨"RingChamberModel", "cycles", "(II)I"⟩ prog_14_method_70_code 8 (some FieldType.int) ∈ TB := tb_t7 (List.mem_of_getElem? (i := 178) rfl) rfl
set_option maxRecDepth 100000 in
theorem w_1726 : Cond.code ⟨"RingChamberModel", "distance", "(II)I"⟩ prog_14_method_71_code 6 (some FieldType.int) ∈ TB := tb_t7 (List.mem_of_getElem? (i := 182) rfl) rfl
set_option maxRecDepth 100000 in
theorem w_1730 : Cond.code ⟨"RingChamberModel", "between", "(II)I"⟩ prog_14_method_74_code 4 (some FieldType.int) ∈ TB := tb_t7 (List.mem_of_getElem? (i := 186) rfl) rfl
set_option maxRecDepth 100000 in
theorem w_1731 : Cond.methodLink "RingChamberModel" 308 ⟨"RingChamberModel", "staysIn", "(II)I"⟩ ∈ TB := tb_t7 (List.mem_of_getElem? (i := 187) rfl) rfl
set_option maxRecDepth 100000 in
theorem w_1733 : Cond.instanceMethod ⟨"RingChamberModel", "staysIn", "(II)I"⟩ ∈ TB := tb_t7 (List.mem_of_getElem? (i := 189) rfl) rfl
set_option maxRecDepth 100000 in
theorem w_1734 : Cond.code ⟨"RingChamberModel", "staysIn", "(II)I"⟩ prog_14_method_73_code 5 (some FieldType.int) ∈ TB := tb_t7 (List.mem_of_getElem? (i := 190) rfl) rfl
set_option maxRecDepth 100000 in
theorem w_1735 : Cond.methodLink "RingChamberModel" 311 ⟨"RingChamberModel", "numberOfPlaces", "(I)I"⟩ ∈ TB := tb_t7 (List.mem_of_getElem? (i := 191) rfl) rfl
set_option maxRecDepth 100000 in
theorem w_1737 : Cond.instanceMethod ⟨"RingChamberModel", "numberOfPlaces", "(I)I"⟩ ∈ TB := tb_t7 (List.mem_of_getElem? (i := 193) rfl) rfl
set_option maxRecDepth 100000 in
theorem w_1738 : Cond.code ⟨"RingChamberModel", "numberOfPlaces", "(I)I"⟩ prog_14_method_72_code 4 (some FieldType.int) ∈ TB := tb_t7 (List.mem_of_getElem? (i := 194) rfl) rfl
set_option maxRecDepth 100000 in
theorem w_1742 : Cond.code ⟨"RingChamberModel", "changes", "(I)I"⟩ prog_14_method_77_code 2 (some FieldType.int) ∈ TB := tb_t7 (List.mem_of_getElem? (i := 198) rfl) rfl
set_option maxRecDepth 100000 in
theorem w_1743 : Cond.methodLink "RingChamberModel" 317 ⟨"RingChamberModel", "isMethod", "(I)Z"⟩ ∈ TB := tb_t7 (List.mem_of_getElem? (i := 199) rfl) rfl
set_option maxRecDepth 100000 in
theorem w_1745 : Cond.instanceMethod ⟨"RingChamberModel", "isMethod", "(I)Z"⟩ ∈ TB := tb_t7 (List.mem_of_getElem? (i := 201) rfl) rfl
set_option maxRecDepth 100000 in
theorem w_1746 : Cond.code ⟨"RingChamberModel", "isMethod", "(I)Z"⟩ prog_14_method_55_code 2 (some FieldType.boolean) ∈ TB := tb_t7 (List.mem_of_getElem? (i := 202) rfl) rfl
set_option maxRecDepth 100000 in
theorem w_1747 : Cond.methodLink "RingChamberModel" 314 ⟨"RingChamberModel", "changesOf", "(I)I"⟩ ∈ TB := tb_t7 (List.mem_of_getElem? (i := 203) rfl) rfl
set_option maxRecDepth 100000 in
theorem w_1749 : Cond.instanceMethod ⟨"RingChamberModel", "changesOf", "(I)I"⟩ ∈ TB := tb_t7 (List.mem_of_getElem? (i := 205) rfl) rfl
set_option maxRecDepth 100000 in
theorem w_1750 : Cond.code ⟨"RingChamberModel", "changesOf", "(I)I"⟩ prog_14_method_75_code 2 (some FieldType.int) ∈ TB := tb_t7 (List.mem_of_getElem? (i := 206) rfl) rfl
set_option maxRecDepth 100000 in
theorem w_1754 : Cond.code ⟨"RingChamberModel", "change", "(III)I"⟩ prog_14_method_78_code 4 (some FieldType.int) ∈ TB := tb_t7 (List.mem_of_getElem? (i := 210) rfl) rfl
set_option maxRecDepth 100000 in
theorem w_1755 : Cond.methodLink "RingChamberModel" 320 ⟨"RingChamberModel", "isCall", "(I)Z"⟩ ∈ TB := tb_t7 (List.mem_of_getElem? (i := 211) rfl) rfl
set_option maxRecDepth 100000 in
theorem w_1756 : Cond.static ⟨"RingChamberModel", "isCall", "(I)Z"⟩ ∈ TB := tb_t7 (List.mem_of_getElem? (i := 212) rfl) rfl
set_option maxRecDepth 100000 in
theorem w_1757 : Cond.code ⟨"RingChamberModel", "isCall", "(I)Z"⟩ prog_14_method_56_code 1 (some FieldType.boolean) ∈ TB := tb_t7 (List.mem_of_getElem? (i := 213) rfl) rfl
set_option maxRecDepth 100000 in
theorem w_1758 : Cond.methodLink "RingChamberModel" 323 ⟨"RingChamberModel", "changeOf", "(III)I"⟩ ∈ TB := tb_t7 (List.mem_of_getElem? (i := 214) rfl) rfl
set_option maxRecDepth 100000 in
theorem w_1760 : Cond.instanceMethod ⟨"RingChamberModel", "changeOf", "(III)I"⟩ ∈ TB := tb_t7 (List.mem_of_getElem? (i := 216) rfl) rfl
set_option maxRecDepth 100000 in
theorem w_1761 : Cond.code ⟨"RingChamberModel", "changeOf", "(III)I"⟩ prog_14_method_76_code 4 (some FieldType.int) ∈ TB := tb_t7 (List.mem_of_getElem? (i := 217) rfl) rfl
set_option maxRecDepth 100000 in
theorem w_1765 : Cond.code ⟨"RingChamberModel", "head", "(II)I"⟩ prog_14_method_80_code 3 (some FieldType.int) ∈ TB := tb_t7 (List.mem_of_getElem? (i := 221) rfl) rfl
set_option maxRecDepth 100000 in
theorem w_1766 : Cond.methodLink "RingChamberModel" 327 ⟨"RingChamberModel", "leadFrom", "(III)I"⟩ ∈ TB := tb_t7 (List.mem_of_getElem? (i := 222) rfl) rfl
set_option maxRecDepth 100000 in
theorem w_1768 : Cond.instanceMethod ⟨"RingChamberModel", "leadFrom", "(III)I"⟩ ∈ TB := tb_t7 (List.mem_of_getElem? (i := 224) rfl) rfl
set_option maxRecDepth 100000 in
theorem w_1769 : Cond.code ⟨"RingChamberModel", "leadFrom", "(III)I"⟩ prog_14_method_79_code 5 (some FieldType.int) ∈ TB := tb_t7 (List.mem_of_getElem? (i := 225) rfl) rfl
set_option maxRecDepth 100000 in
theorem w_1773 : Cond.code ⟨"RingChamberModel", "course", "(II)I"⟩ prog_14_method_81_code 3 (some FieldType.int) ∈ TB := tb_t7 (List.mem_of_getElem? (i := 229) rfl) rfl
set_option maxRecDepth 100000 in
theorem w_1777 : Cond.code ⟨"RingChamberModel", "fixed", "(II)I"⟩ prog_14_method_82_code 5 (some FieldType.int) ∈ TB := tb_t7 (List.mem_of_getElem? (i := 233) rfl) rfl
set_option maxRecDepth 100000 in
theorem w_1781 : Cond.code ⟨"RingChamberModel", "symmetric", "(I)I"⟩ prog_14_method_83_code 5 (some FieldType.int) ∈ TB := tb_t7 (List.mem_of_getElem? (i := 237) rfl) rfl
set_option maxRecDepth 100000 in
theorem w_1785 : Cond.code ⟨"RingChamberModel", "leadsTo", "(II)I"⟩ prog_14_method_85_code 6 (some FieldType.int) ∈ TB := tb_t8 (List.mem_of_getElem? (i := 1) rfl) rfl
set_option maxRecDepth 100000 in
theorem w_1789 : Cond.code ⟨"RingChamberModel", "inLead", "(II)I"⟩ prog_14_method_86_code 4 (some FieldType.int) ∈ TB := tb_t8 (List.mem_of_getElem? (i := 5) rfl) rfl
set_option maxRecDepth 100000 in
theorem w_1790 : Cond.methodLink "RingChamberModel" 330 ⟨"RingChamberModel", "laysLead", "(I)V"⟩ ∈ TB := tb_t8 (List.mem_of_getElem? (i := 6) rfl) rfl
set_option maxRecDepth 100000 in
theorem w_1792 : Cond.instanceMethod ⟨"RingChamberModel", "laysLead", "(I)V"⟩ ∈ TB := tb_t8 (List.mem_of_getElem? (i := 8) rfl) rfl
set_option maxRecDepth 100000 in
theorem w_1793 : Cond.code ⟨"RingChamberModel", "laysLead", "(I)V"⟩ prog_14_method_84_code 3 (none : Option Jvm.ClassFile.FieldType) ∈ TB := tb_t8 (List.mem_of_getElem? (i := 9) rfl) rfl
set_option maxRecDepth 100000 in
theorem w_1797 : Cond.code ⟨"RingChamberModel", "leadTrue", "(I)I"⟩ prog_14_method_87_code 4 (some FieldType.int) ∈ TB := tb_t8 (List.mem_of_getElem? (i := 13) rfl) rfl
set_option maxRecDepth 100000 in
theorem w_1801 : Cond.code ⟨"RingChamberModel", "falseAgainst", "(II)I"⟩ prog_14_method_89_code 4 (some FieldType.int) ∈ TB := tb_t8 (List.mem_of_getElem? (i := 17) rfl) rfl
set_option maxRecDepth 100000 in
theorem w_1802 : Cond.methodLink "RingChamberModel" 336 ⟨"RingChamberModel", "marksFalse", "(I)I"⟩ ∈ TB := tb_t8 (List.mem_of_getElem? (i := 18) rfl) rfl
set_option maxRecDepth 100000 in
theorem w_1804 : Cond.instanceMethod ⟨"RingChamberModel", "marksFalse", "(I)I"⟩ ∈ TB := tb_t8 (List.mem_of_getElem? (i := 20) rfl) rfl
set_option maxRecDepth 100000 in
theorem w_1805 : Cond.code ⟨"RingChamberModel", "marksFalse", "(I)I"⟩ prog_14_method_88_code 6 (some FieldType.int) ∈ TB := tb_t8 (List.mem_of_getElem? (i := 21) rfl) rfl
set_option maxRecDepth 100000 in
theorem w_1809 : Cond.code ⟨"RingChamberModel", "falses", "(I)I"⟩ prog_14_method_90_code 2 (some FieldType.int) ∈ TB := tb_t8 (List.mem_of_getElem? (i := 25) rfl) rfl
set_option maxRecDepth 100000 in
theorem w_1813 : Cond.code ⟨"RingChamberModel", "ring", "()I"⟩ prog_14_method_95_code 1 (some FieldType.int) ∈ TB := tb_t8 (List.mem_of_getElem? (i := 29) rfl) rfl
set_option maxRecDepth 100000 in
theorem w_1814 : Cond.methodLink "RingChamberModel" 358 ⟨"RingChamberModel", "ringsAll", "(II)V"⟩ ∈ TB := tb_t8 (List.mem_of_getElem? (i := 30) rfl) rfl
set_option maxRecDepth 100000 in
theorem w_1816 : Cond.instanceMethod ⟨"RingChamberModel", "ringsAll", "(II)V"⟩ ∈ TB := tb_t8 (List.mem_of_getElem? (i := 32) rfl) rfl
set_option maxRecDepth 100000 in
theorem w_1817 : Cond.code ⟨"RingChamberModel", "ringsAll", "(II)V"⟩ prog_14_method_94_code 7 (none : Option Jvm.ClassFile.FieldType) ∈ TB := tb_t8 (List.mem_of_getElem? (i := 33) rfl) rfl
set_option maxRecDepth 100000 in
theorem w_1818 : Cond.methodLink "RingChamberModel" 349 ⟨"RingChamberModel", "rings", "(III)Z"⟩ ∈ TB := tb_t8 (List.mem_of_getElem? (i := 34) rfl) rfl
set_option maxRecDepth 100000 in
theorem w_1820 : Cond.instanceMethod ⟨"RingChamberModel", "rings", "(III)Z"⟩ ∈ TB := tb_t8 (List.mem_of_getElem? (i := 36) rfl) rfl
set_option maxRecDepth 100000 in
theorem w_1821 : Cond.code ⟨"RingChamberModel", "rings", "(III)Z"⟩ prog_14_method_92_code 8 (some FieldType.boolean) ∈ TB := tb_t8 (List.mem_of_getElem? (i := 37) rfl) rfl
set_option maxRecDepth 100000 in
theorem w_1822 : Cond.methodLink "RingChamberModel" 346 ⟨"RingChamberModel", "strays", "(I)Z"⟩ ∈ TB := tb_t8 (List.mem_of_getElem? (i := 38) rfl) rfl
set_option maxRecDepth 100000 in
theorem w_1824 : Cond.instanceMethod ⟨"RingChamberModel", "strays", "(I)Z"⟩ ∈ TB := tb_t8 (List.mem_of_getElem? (i := 40) rfl) rfl
set_option maxRecDepth 100000 in
theorem w_1825 : Cond.code ⟨"RingChamberModel", "strays", "(I)Z"⟩ prog_14_method_91_code 2 (some FieldType.boolean) ∈ TB := tb_t8 (List.mem_of_getElem? (i := 41) rfl) rfl
set_option maxRecDepth 100000 in
theorem w_1826 : Cond.constant "RingChamberModel" 342 65536 ∈ TB := tb_t8 (List.mem_of_getElem? (i := 42) rfl) rfl
set_option maxRecDepth 100000 in
theorem w_1827 : Cond.methodLink "RingChamberModel" 352 ⟨"RingChamberModel", "behindEnds", "(I)I"⟩ ∈ TB := tb_t8 (List.mem_of_getElem? (i := 43) rfl) rfl
set_option maxRecDepth 100000 in
theorem w_1829 : Cond.instanceMethod ⟨"RingChamberModel", "behindEnds", "(I)I"⟩ ∈ TB := tb_t8 (List.mem_of_getElem? (i := 45) rfl) rfl
set_option maxRecDepth 100000 in
theorem w_1830 : Cond.code ⟨"RingChamberModel", "behindEnds", "(I)I"⟩ prog_14_method_93_code 5 (some FieldType.int) ∈ TB := tb_t8 (List.mem_of_getElem? (i := 46) rfl) rfl
set_option maxRecDepth 100000 in
theorem w_1834 : Cond.code ⟨"RingChamberModel", "rowAt", "(I)I"⟩ prog_14_method_96_code 2 (some FieldType.int) ∈ TB := tb_t8 (List.mem_of_getElem? (i := 50) rfl) rfl
set_option maxRecDepth 100000 in
theorem w_1838 : Cond.code ⟨"RingChamberModel", "round", "()I"⟩ prog_14_method_97_code 2 (some FieldType.int) ∈ TB := tb_t8 (List.mem_of_getElem? (i := 54) rfl) rfl
set_option maxRecDepth 100000 in
theorem w_1842 : Cond.code ⟨"RingChamberModel", "isTrue", "()I"⟩ prog_14_method_99_code 1 (some FieldType.int) ∈ TB := tb_t8 (List.mem_of_getElem? (i := 58) rfl) rfl
set_option maxRecDepth 100000 in
theorem w_1843 : Cond.methodLink "RingChamberModel" 371 ⟨"RingChamberModel", "findsLikes", "()V"⟩ ∈ TB := tb_t8 (List.mem_of_getElem? (i := 59) rfl) rfl
set_option maxRecDepth 100000 in
theorem w_1845 : Cond.instanceMethod ⟨"RingChamberModel", "findsLikes", "()V"⟩ ∈ TB := tb_t8 (List.mem_of_getElem? (i := 61) rfl) rfl
set_option maxRecDepth 100000 in
theorem w_1846 : Cond.code ⟨"RingChamberModel", "findsLikes", "()V"⟩ prog_14_method_98_code 4 (none : Option Jvm.ClassFile.FieldType) ∈ TB := tb_t8 (List.mem_of_getElem? (i := 62) rfl) rfl
set_option maxRecDepth 100000 in
theorem w_1850 : Cond.code ⟨"RingChamberModel", "falseAt", "(I)I"⟩ prog_14_method_100_code 2 (some FieldType.int) ∈ TB := tb_t8 (List.mem_of_getElem? (i := 66) rfl) rfl
set_option maxRecDepth 100000 in
theorem w_1854 : Cond.code ⟨"RingChamberModel", "repeats", "()I"⟩ prog_14_method_101_code 1 (some FieldType.int) ∈ TB := tb_t8 (List.mem_of_getElem? (i := 70) rfl) rfl
set_option maxRecDepth 100000 in
theorem w_1858 : Cond.code ⟨"RingChamberModel", "place", "(II)I"⟩ prog_14_method_103_code 3 (some FieldType.int) ∈ TB := tb_t8 (List.mem_of_getElem? (i := 74) rfl) rfl
set_option maxRecDepth 100000 in
theorem w_1859 : Cond.methodLink "RingChamberModel" 374 ⟨"RingChamberModel", "placeIn", "(II)I"⟩ ∈ TB := tb_t8 (List.mem_of_getElem? (i := 75) rfl) rfl
set_option maxRecDepth 100000 in
theorem w_1861 : Cond.instanceMethod ⟨"RingChamberModel", "placeIn", "(II)I"⟩ ∈ TB := tb_t8 (List.mem_of_getElem? (i := 77) rfl) rfl
set_option maxRecDepth 100000 in
theorem w_1862 : Cond.code ⟨"RingChamberModel", "placeIn", "(II)I"⟩ prog_14_method_102_code 4 (some FieldType.int) ∈ TB := tb_t8 (List.mem_of_getElem? (i := 78) rfl) rfl
set_option maxRecDepth 100000 in
theorem w_1866 : Cond.code ⟨"RingChamberModel", "blows", "(II)I"⟩ prog_14_method_104_code 5 (some FieldType.int) ∈ TB := tb_t8 (List.mem_of_getElem? (i := 82) rfl) rfl
set_option maxRecDepth 100000 in
theorem w_1870 : Cond.code ⟨"RingChamberModel", "dodges", "(I)I"⟩ prog_14_method_105_code 5 (some FieldType.int) ∈ TB := tb_t8 (List.mem_of_getElem? (i := 86) rfl) rfl
set_option maxRecDepth 100000 in
theorem w_1874 : Cond.code ⟨"RingChamberModel", "lies", "(I)I"⟩ prog_14_method_106_code 4 (some FieldType.int) ∈ TB := tb_t8 (List.mem_of_getElem? (i := 90) rfl) rfl
set_option maxRecDepth 100000 in
theorem w_1878 : Cond.code ⟨"RingChamberModel", "backward", "()I"⟩ prog_14_method_107_code 2 (some FieldType.int) ∈ TB := tb_t8 (List.mem_of_getElem? (i := 94) rfl) rfl
set_option maxRecDepth 100000 in
theorem w_1882 : Cond.code ⟨"RingChamberModel", "music", "(I)I"⟩ prog_14_method_108_code 6 (some FieldType.int) ∈ TB := tb_t8 (List.mem_of_getElem? (i := 98) rfl) rfl
set_option maxRecDepth 100000 in
theorem w_1886 : Cond.code ⟨"RingChamberModel", "runs", "(I)I"⟩ prog_14_method_110_code 5 (some FieldType.int) ∈ TB := tb_t8 (List.mem_of_getElem? (i := 102) rfl) rfl
set_option maxRecDepth 100000 in
theorem w_1887 : Cond.methodLink "RingChamberModel" 377 ⟨"RingChamberModel", "isRun", "(III)Z"⟩ ∈ TB := tb_t8 (List.mem_of_getElem? (i := 103) rfl) rfl
set_option maxRecDepth 100000 in
theorem w_1889 : Cond.instanceMethod ⟨"RingChamberModel", "isRun", "(III)Z"⟩ ∈ TB := tb_t8 (List.mem_of_getElem? (i := 105) rfl) rfl
set_option maxRecDepth 100000 in
theorem w_1890 : Cond.code ⟨"RingChamberModel", "isRun", "(III)Z"⟩ prog_14_method_109_code 5 (some FieldType.boolean) ∈ TB := tb_t8 (List.mem_of_getElem? (i := 106) rfl) rfl
set_option maxRecDepth 100000 in
theorem w_1894 : Cond.code ⟨"RingChamberModel", "heard", "(II)I"⟩ prog_14_method_111_code 5 (some FieldType.int) ∈ TB := tb_t8 (List.mem_of_getElem? (i := 110) rfl) rfl
set_option maxRecDepth 100000 in
theorem w_1898 : Cond.code ⟨"RingChamberModel", "heardAlike", "()I"⟩ prog_14_method_113_code 4 (some FieldType.int) ∈ TB := tb_t8 (List.mem_of_getElem? (i := 114) rfl) rfl
set_option maxRecDepth 100000 in
theorem w_1899 : Cond.methodLink "RingChamberModel" 380 ⟨"RingChamberModel", "heardOf", "(I)I"⟩ ∈ TB := tb_t8 (List.mem_of_getElem? (i := 115) rfl) rfl
set_option maxRecDepth 100000 in
theorem w_1901 : Cond.instanceMethod ⟨"RingChamberModel", "heardOf", "(I)I"⟩ ∈ TB := tb_t8 (List.mem_of_getElem? (i := 117) rfl) rfl
set_option maxRecDepth 100000 in
theorem w_1902 : Cond.code ⟨"RingChamberModel", "heardOf", "(I)I"⟩ prog_14_method_112_code 4 (some FieldType.int) ∈ TB := tb_t8 (List.mem_of_getElem? (i := 118) rfl) rfl
set_option maxRecDepth 100000 in
theorem w_1906 : Cond.code ⟨"RingChamberModel", "evens", "()Z"⟩ prog_14_method_114_code 3 (some FieldType.boolean) ∈ TB := tb_t8 (List.mem_of_getElem? (i := 122) rfl) rfl
set_option maxRecDepth 100000 in
theorem w_1907 : Cond.methodLink "RingChamberModel" 383 ⟨"RingChamberModel", "tellsBy", "(JJ)Z"⟩ ∈ TB := tb_t8 (List.mem_of_getElem? (i := 123) rfl) rfl
set_option maxRecDepth 100000 in
theorem w_1909 : Cond.instanceMethod ⟨"RingChamberModel", "tellsBy", "(JJ)Z"⟩ ∈ TB := tb_t8 (List.mem_of_getElem? (i := 125) rfl) rfl
set_option maxRecDepth 100000 in
theorem w_1910 : Cond.code ⟨"RingChamberModel", "tellsBy", "(JJ)Z"⟩ prog_14_method_9_code 11 (some FieldType.boolean) ∈ TB := tb_t8 (List.mem_of_getElem? (i := 126) rfl) rfl
set_option maxRecDepth 100000 in
theorem w_1914 : Cond.code ⟨"RingChamberModel", "strayed", "(II)I"⟩ prog_14_method_115_code 3 (some FieldType.int) ∈ TB := tb_t8 (List.mem_of_getElem? (i := 130) rfl) rfl
set_option maxRecDepth 100000 in
theorem w_1915 : Cond.constantLong "RingChamberModel" 387 9999 ∈ TB := tb_t8 (List.mem_of_getElem? (i := 131) rfl) rfl
set_option maxRecDepth 100000 in
theorem w_1916 : Cond.constantLong "RingChamberModel" 389 16 ∈ TB := tb_t8 (List.mem_of_getElem? (i := 132) rfl) rfl
set_option maxRecDepth 100000 in
theorem w_1920 : Cond.code ⟨"RingChamberModel", "odds", "(III)Z"⟩ prog_14_method_116_code 7 (some FieldType.boolean) ∈ TB := tb_t8 (List.mem_of_getElem? (i := 136) rfl) rfl
set_option maxRecDepth 100000 in
theorem w_1921 : Cond.constantLong "RingChamberModel" 391 20 ∈ TB := tb_t8 (List.mem_of_getElem? (i := 137) rfl) rfl
set_option maxRecDepth 100000 in
theorem w_1925 : Cond.code ⟨"RingChamberModel", "way", "(I)I"⟩ prog_14_method_118_code 5 (some FieldType.int) ∈ TB := tb_t8 (List.mem_of_getElem? (i := 141) rfl) rfl
set_option maxRecDepth 100000 in
theorem w_1926 : Cond.methodLink "RingChamberModel" 396 ⟨"RingChamberModel", "findsAll", "()V"⟩ ∈ TB := tb_t8 (List.mem_of_getElem? (i := 142) rfl) rfl
set_option maxRecDepth 100000 in
theorem w_1928 : Cond.instanceMethod ⟨"RingChamberModel", "findsAll", "()V"⟩ ∈ TB := tb_t8 (List.mem_of_getElem? (i := 144) rfl) rfl
set_option maxRecDepth 100000 in
theorem w_1929 : Cond.code ⟨"RingChamberModel", "findsAll", "()V"⟩ prog_14_method_117_code 4 (none : Option Jvm.ClassFile.FieldType) ∈ TB := tb_t8 (List.mem_of_getElem? (i := 145) rfl) rfl
set_option maxRecDepth 100000 in
theorem w_1933 : Cond.code ⟨"RingChamberModel", "wayAt", "(II)I"⟩ prog_14_method_119_code 3 (some FieldType.int) ∈ TB := tb_t8 (List.mem_of_getElem? (i := 149) rfl) rfl
set_option maxRecDepth 100000 in
theorem w_1937 : Cond.code ⟨"RingChamberModel", "extent", "()I"⟩ prog_14_method_120_code 1 (some FieldType.int) ∈ TB := tb_t8 (List.mem_of_getElem? (i := 153) rfl) rfl
set_option maxRecDepth 100000 in
theorem w_1941 : Cond.code ⟨"RingChamberModel", "compositions", "(III)I"⟩ prog_14_method_122_code 8 (some FieldType.int) ∈ TB := tb_t8 (List.mem_of_getElem? (i := 157) rfl) rfl
set_option maxRecDepth 100000 in
theorem w_1942 : Cond.constantLong "RingChamberModel" 402 8 ∈ TB := tb_t8 (List.mem_of_getElem? (i := 158) rfl) rfl
set_option maxRecDepth 100000 in
theorem w_1943 : Cond.constantLong "RingChamberModel" 404 7 ∈ TB := tb_t8 (List.mem_of_getElem? (i := 159) rfl) rfl
set_option maxRecDepth 100000 in
theorem w_1944 : Cond.methodLink "RingChamberModel" 409 ⟨"RingChamberModel", "ringsLead", "(II)Z"⟩ ∈ TB := tb_t8 (List.mem_of_getElem? (i := 160) rfl) rfl
set_option maxRecDepth 100000 in
theorem w_1946 : Cond.instanceMethod ⟨"RingChamberModel", "ringsLead", "(II)Z"⟩ ∈ TB := tb_t8 (List.mem_of_getElem? (i := 162) rfl) rfl
set_option maxRecDepth 100000 in
theorem w_1947 : Cond.code ⟨"RingChamberModel", "ringsLead", "(II)Z"⟩ prog_14_method_121_code 6 (some FieldType.boolean) ∈ TB := tb_t8 (List.mem_of_getElem? (i := 163) rfl) rfl
set_option maxRecDepth 100000 in
theorem w_1951 : Cond.code ⟨"RingChamberModel", "callAt", "(I)I"⟩ prog_14_method_123_code 2 (some FieldType.int) ∈ TB := tb_t8 (List.mem_of_getElem? (i := 167) rfl) rfl
set_option maxRecDepth 100000 in
theorem w_1955 : Cond.code ⟨"RingChamberModel", "mark", "()I"⟩ prog_14_method_125_code 1 (some FieldType.int) ∈ TB := tb_t8 (List.mem_of_getElem? (i := 171) rfl) rfl
set_option maxRecDepth 100000 in
theorem w_1956 : Cond.methodLink "RingChamberModel" 415 ⟨"RingChamberModel", "copies", "(II)V"⟩ ∈ TB := tb_t8 (List.mem_of_getElem? (i := 172) rfl) rfl
set_option maxRecDepth 100000 in
theorem w_1958 : Cond.instanceMethod ⟨"RingChamberModel", "copies", "(II)V"⟩ ∈ TB := tb_t8 (List.mem_of_getElem? (i := 174) rfl) rfl
set_option maxRecDepth 100000 in
theorem w_1959 : Cond.code ⟨"RingChamberModel", "copies", "(II)V"⟩ prog_14_method_124_code 4 (none : Option Jvm.ClassFile.FieldType) ∈ TB := tb_t8 (List.mem_of_getElem? (i := 175) rfl) rfl
set_option maxRecDepth 100000 in
theorem w_1963 : Cond.code ⟨"RingChamberModel", "back", "()I"⟩ prog_14_method_126_code 1 (some FieldType.int) ∈ TB := tb_t8 (List.mem_of_getElem? (i := 179) rfl) rfl
theorem w_obj : Cond.code Lib.objectInit ⟨#[0xb1]⟩ 1 none ∈ TB := tb_in 132 (by decide +kernel) rfl
theorem w_min : Cond.code Lib.Math.min.name Lib.Math.min.code 2 (some .int) ∈ TB := tb_in 601 (by decide +kernel) rfl
theorem w_max : Cond.code Lib.Math.max.name Lib.Math.max.code 2 (some .int) ∈ TB := tb_in 871 (by decide +kernel) rfl
set_option maxRecDepth 100000 in
theorem w_code_copyOf : Cond.code ⟨"java/util/Arrays", "copyOf", "([II)[I"⟩ prog_21_method_123_code 3 (some (FieldType.array FieldType.int)) ∈ TB := tb_t3 (List.mem_of_getElem? (i := 106) rfl) rfl
set_option maxRecDepth 100000 in
theorem w_init_arrays : Cond.initialized "java/util/Arrays" ∈ TB := tb_t1 (List.mem_of_getElem? (i := 18) rfl) rfl
theorem sw_0_2 {x : Int32} (h0 : ¬ x = 0) (h1 : ¬ x = 1) (h2 : ¬ x = 2) : x.toInt < 0 ∨ 2 < x.toInt := by
  have z0 : x.toInt ≠ 0 := i_ne h0
  have z1 : x.toInt ≠ 1 := i_ne h1
  have z2 : x.toInt ≠ 2 := i_ne h2
  omega
theorem sw_0_5 {x : Int32} (h0 : ¬ x = 0) (h1 : ¬ x = 1) (h2 : ¬ x = 2) (h3 : ¬ x = 3) (h4 : ¬ x = 4) (h5 : ¬ x = 5) : x.toInt < 0 ∨ 5 < x.toInt := by
  have z0 : x.toInt ≠ 0 := i_ne h0
  have z1 : x.toInt ≠ 1 := i_ne h1
  have z2 : x.toInt ≠ 2 := i_ne h2
  have z3 : x.toInt ≠ 3 := i_ne h3
  have z4 : x.toInt ≠ 4 := i_ne h4
  have z5 : x.toInt ≠ 5 := i_ne h5
  omega
theorem sw_10_17 {x : Int32} (h0 : ¬ x = 10) (h1 : ¬ x = 11) (h2 : ¬ x = 12) (h3 : ¬ x = 13) (h4 : ¬ x = 14) (h5 : ¬ x = 15) (h6 : ¬ x = 16) (h7 : ¬ x = 17) : x.toInt < 10 ∨ 17 < x.toInt := by
  have z0 : x.toInt ≠ 10 := i_ne h0
  have z1 : x.toInt ≠ 11 := i_ne h1
  have z2 : x.toInt ≠ 12 := i_ne h2
  have z3 : x.toInt ≠ 13 := i_ne h3
  have z4 : x.toInt ≠ 14 := i_ne h4
  have z5 : x.toInt ≠ 15 := i_ne h5
  have z6 : x.toInt ≠ 16 := i_ne h6
  have z7 : x.toInt ≠ 17 := i_ne h7
  omega
