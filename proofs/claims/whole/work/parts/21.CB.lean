theorem dX0_init_0 : decode cX0_init 0 = .ok (.aload_n 0, 1) := by decide +kernel
theorem dX0_init_1 : decode cX0_init 1 = .ok (.invokespecial 1, 3) := by decide +kernel
theorem dX0_init_4 : decode cX0_init 4 = .ok (.aload_n 0, 1) := by decide +kernel
theorem dX0_init_5 : decode cX0_init 5 = .ok (.iload_n 1, 1) := by decide +kernel
theorem dX0_init_6 : decode cX0_init 6 = .ok (.putfield 7, 3) := by decide +kernel
theorem dX0_init_9 : decode cX0_init 9 = .ok (.aload_n 0, 1) := by decide +kernel
theorem dX0_init_10 : decode cX0_init 10 = .ok (.iload_n 1, 1) := by decide +kernel
theorem dX0_init_11 : decode cX0_init 11 = .ok (.invokestatic 13, 3) := by decide +kernel
theorem dX0_init_14 : decode cX0_init 14 = .ok (.putfield 19, 3) := by decide +kernel
theorem dX0_init_17 : decode cX0_init 17 = .ok (.aload_n 0, 1) := by decide +kernel
theorem dX0_init_18 : decode cX0_init 18 = .ok (.iload_n 2, 1) := by decide +kernel
theorem dX0_init_19 : decode cX0_init 19 = .ok (.putfield 22, 3) := by decide +kernel
theorem dX0_init_22 : decode cX0_init 22 = .ok (.aload_n 0, 1) := by decide +kernel
theorem dX0_init_23 : decode cX0_init 23 = .ok (.aload_n 3, 1) := by decide +kernel
theorem dX0_init_24 : decode cX0_init 24 = .ok (.putfield 25, 3) := by decide +kernel
theorem dX0_init_27 : decode cX0_init 27 = .ok (.return_, 1) := by decide +kernel
theorem mi_X0_init : MI yX0_init cX0_init 4 (none : Option Jvm.ClassFile.FieldType) 3 := ⟨w_345, w_113, by decide +kernel, by decide +kernel, by decide +kernel⟩
set_option maxRecDepth 100000 in
set_option maxHeartbeats 4000000 in
theorem C_X0_init (G : GG) (l : Launch) (th : Nat) (p0 : Int32) (p1 : Int32) (p2 : Nat) (S : St) (Q : (Nat → Nat → Int32) → (Nat → Nat → Option Nat) → Prop) (hp : P_X0_init th p0 p1 p2 S Q) : Ctr G l yX0_init cX0_init 4 (none : Option Jvm.ClassFile.FieldType) 1 20 0 0 [.ref th, .int p0, .int p1, .ref p2] S (fun (v : Option Value) (S9 : St) => ∃ (I9 : Nat → Nat → Int32) (R9 : Nat → Nat → Option Nat), v = none ∧ S9 = wA S I9 (gJ S) R9 ∧ Q I9 R9) := by
  generalize hQQ : (fun (v : Option Value) (S9 : St) => ∃ (I9 : Nat → Nat → Int32) (R9 : Nat → Nat → Option Nat), v = none ∧ S9 = wA S I9 (gJ S) R9 ∧ Q I9 R9) = QQ
  unfold P_X0_init at hp
  refine Ctr.of (by decide) (Nat.le_of_ble_eq_true rfl) ?_
  intro p e s m args below meth c ls B hr hlk hin hl hH
  generalize hlocs0 : ([] : List Loc) = locs at hH ⊢
  have hx := B.1
  have hb := B.2.1
  have hl : lv_has ls 4 [(0, .ref th), (1, .int p0), (2, .int p1), (3, .ref p2)] := hl
  obtain ⟨hk_th, hp⟩ := hp
  refine lv_aload_n (pc := 0) hx hb dX0_init_0 rfl (lv_at hl 0 rfl) ?_
  refine sx_objInit (pc := 1) (rest := []) B hl.1 w_346 w_131 w_obj (Nat.le_of_ble_eq_true rfl) (Nat.le_of_ble_eq_true rfl) dX0_init_1 ?_
  refine W.eq (g2 := F0 m 4 ls []) rfl ?_
  refine lv_aload_n (pc := 4) hx hb dX0_init_4 rfl (lv_at hl 0 rfl) ?_
  refine lv_iload_n (pc := 5) hx hb dX0_init_5 rfl (lv_at hl 1 rfl) ?_
  obtain ⟨F_1, eF_1⟩ : ∃ z : Nat → Nat → Int32, z = upI (gI S) th 0 p0 := ⟨_, rfl⟩
  have hp := hp F_1 eF_1
  refine sx_putI (pc := 6) (j := 0) B hH hk_th coX0 rfl w_352 rfl (Or.inr ⟨rfl, hin, rfl⟩) rfl dX0_init_6 (fun H locs hH => ?_)
  have hH : Hp G (FA S s.heap.size) s.heap (wI S F_1) H locs := by rw [eF_1]; exact hH
  refine lv_aload_n (pc := 9) hx hb dX0_init_9 rfl (lv_at hl 0 rfl) ?_
  refine lv_iload_n (pc := 10) hx hb dX0_init_10 rfl (lv_at hl 1 rfl) ?_
  refine sx_S (pc := 11) (As := [.int p0]) (rest := [.ref th]) B hH hl.1 (C_X4_many G l p0 _ _ hp) mi_X4_many w_348 w_347 rfl rfl ⟨Nat.le_of_ble_eq_true rfl, Nat.le_of_ble_eq_true rfl⟩ (Nat.le_of_ble_eq_true rfl) ⟨Nat.le_of_ble_eq_true rfl, Nat.le_of_ble_eq_true rfl⟩ dX0_init_11 (fun v S1 H locs hq hH => ?_)
  obtain ⟨r_2, rfl, e9, hp⟩ := hq
  rw [e9] at hH
  refine W.eq (g2 := F0 m 14 ls [.int r_2, .ref th]) rfl ?_
  obtain ⟨F_3, eF_3⟩ : ∃ z : Nat → Nat → Int32, z = upI F_1 th 1 r_2 := ⟨_, rfl⟩
  have hp := hp F_3 eF_3
  refine sx_putI (pc := 14) (j := 1) B hH hk_th coX0 rfl w_358 rfl (Or.inr ⟨rfl, hin, rfl⟩) rfl dX0_init_14 (fun H locs hH => ?_)
  have hH : Hp G (FA S s.heap.size) s.heap (wI S F_3) H locs := by rw [eF_3]; exact hH
  refine lv_aload_n (pc := 17) hx hb dX0_init_17 rfl (lv_at hl 0 rfl) ?_
  refine lv_iload_n (pc := 18) hx hb dX0_init_18 rfl (lv_at hl 2 rfl) ?_
  obtain ⟨F_4, eF_4⟩ : ∃ z : Nat → Nat → Int32, z = upI F_3 th 2 p1 := ⟨_, rfl⟩
  have hp := hp F_4 eF_4
  refine sx_putI (pc := 19) (j := 2) B hH hk_th coX0 rfl w_362 rfl (Or.inr ⟨rfl, hin, rfl⟩) rfl dX0_init_19 (fun H locs hH => ?_)
  have hH : Hp G (FA S s.heap.size) s.heap (wI S F_4) H locs := by rw [eF_4]; exact hH
  refine lv_aload_n (pc := 22) hx hb dX0_init_22 rfl (lv_at hl 0 rfl) ?_
  refine lv_aload_n (pc := 23) hx hb dX0_init_23 rfl (lv_at hl 3 rfl) ?_
  obtain ⟨R_5, eR_5⟩ : ∃ z : Nat → Nat → Option Nat, z = upR (gR S) th 3 (some p2) := ⟨_, rfl⟩
  have hp := hp R_5 eR_5
  refine sx_putR (pc := 24) (j := 3) (x := (some p2)) B hH hk_th coX0 rfl w_364 rfl (Or.inr ⟨rfl, hin, rfl⟩) rfl dX0_init_24 (fun H locs hH => ?_)
  have hH : Hp G (FA S s.heap.size) s.heap (wA S F_4 (gJ S) R_5) H locs := by rw [eR_5]; exact hH
  exact sx_vret (pc := 27) B hH hr hlk (by rw [← hQQ]; exact ⟨F_4, R_5, rfl, rfl, hp⟩) (Nat.le_of_ble_eq_true rfl) (Nat.le_of_ble_eq_true rfl) dX0_init_27
theorem dX6_init_0 : decode cX6_init 0 = .ok (.aload_n 0, 1) := by decide +kernel
theorem dX6_init_1 : decode cX6_init 1 = .ok (.invokespecial 1, 3) := by decide +kernel
theorem dX6_init_4 : decode cX6_init 4 = .ok (.aload_n 0, 1) := by decide +kernel
theorem dX6_init_5 : decode cX6_init 5 = .ok (.iconst 0, 1) := by decide +kernel
theorem dX6_init_6 : decode cX6_init 6 = .ok (.newarray .int, 2) := by decide +kernel
theorem dX6_init_8 : decode cX6_init 8 = .ok (.putfield 7, 3) := by decide +kernel
theorem dX6_init_11 : decode cX6_init 11 = .ok (.aload_n 0, 1) := by decide +kernel
theorem dX6_init_12 : decode cX6_init 12 = .ok (.iconst 0, 1) := by decide +kernel
theorem dX6_init_13 : decode cX6_init 13 = .ok (.putfield 13, 3) := by decide +kernel
theorem dX6_init_16 : decode cX6_init 16 = .ok (.return_, 1) := by decide +kernel
theorem mi_X6_init : MI yX6_init cX6_init 1 (none : Option Jvm.ClassFile.FieldType) 0 := ⟨w_383, w_115, by decide +kernel, by decide +kernel, by decide +kernel⟩
set_option maxRecDepth 100000 in
set_option maxHeartbeats 4000000 in
theorem C_X6_init (G : GG) (l : Launch) (th : Nat) (S : St) (bc bs : Nat) (Q : St → Prop) (hp : P_X6_init th S bc bs Q) : Ctr G l yX6_init cX6_init 1 (none : Option Jvm.ClassFile.FieldType) 1 20 bc bs [.ref th] S (fun (v : Option Value) (S9 : St) => v = none ∧ Q S9) := by
  generalize hQQ : (fun (v : Option Value) (S9 : St) => v = none ∧ Q S9) = QQ
  unfold P_X6_init at hp
  refine Ctr.of (by decide) (Nat.le_of_ble_eq_true rfl) ?_
  intro p e s m args below meth c ls B hr hlk hin hl hH
  generalize hlocs0 : ([] : List Loc) = locs at hH ⊢
  have hx := B.1
  have hb := B.2.1
  have hl : lv_has ls 1 [(0, .ref th)] := hl
  obtain ⟨hk_th, hp⟩ := hp
  refine lv_aload_n (pc := 0) hx hb dX6_init_0 rfl (lv_at hl 0 rfl) ?_
  refine sx_objInit (pc := 1) (rest := []) B hl.1 w_384 w_131 w_obj (Nat.le_of_ble_eq_true rfl) (Nat.le_of_ble_eq_true rfl) dX6_init_1 ?_
  refine W.eq (g2 := F0 m 4 ls []) rfl ?_
  refine lv_aload_n (pc := 4) hx hb dX6_init_4 rfl (lv_at hl 0 rfl) ?_
  refine lv_iconst (pc := 5) (v := 0) hx hb dX6_init_5 (by decide) ?_
  obtain ⟨hc_2, hp⟩ := hp
  obtain ⟨hc_3, hp⟩ := hp
  refine sx_newi (pc := 6) (S := S) B hH w_294 (by decide) (by decide) (by decide) (show _ + 1 ≤ bc by omega) (show _ + 0 ≤ bs by first | omega | exact (by omega : _ + 0 ≤ bs)) dX6_init_6 (fun q_1 H hq_1 hH => ?_)
  obtain ⟨S_1, eS_1⟩ : ∃ z : St, z = alo S q_1 21 0 := ⟨_, rfl⟩
  have hp := hp q_1 hq_1 S_1 eS_1
  have hH : Hp G (FA S s.heap.size) s.heap S_1 H locs := by rw [eS_1]; exact hH
  have hk_1 : kd S_1 q_1 = 21 := by rw [eS_1]; exact kd_alo
  refine W.eq (g2 := F0 m 8 ls [.ref q_1, .ref th]) rfl ?_
  obtain ⟨hk_4, hp⟩ := hp
  obtain ⟨R_5, eR_5⟩ : ∃ z : Nat → Nat → Option Nat, z = upR (gR S_1) th 0 (some q_1) := ⟨_, rfl⟩
  have hp := hp R_5 eR_5
  refine sx_putR (pc := 8) (j := 0) (x := (some q_1)) B hH hk_4 coX6 rfl w_385 rfl (Or.inl rfl) rfl dX6_init_8 (fun H locs hH => ?_)
  have hH : Hp G (FA S s.heap.size) s.heap (wA S_1 (gI S_1) (gJ S_1) R_5) H locs := by rw [eR_5]; exact hH
  refine lv_aload_n (pc := 11) hx hb dX6_init_11 rfl (lv_at hl 0 rfl) ?_
  refine lv_iconst (pc := 12) (v := 0) hx hb dX6_init_12 (by decide) ?_
  obtain ⟨F_6, eF_6⟩ : ∃ z : Nat → Nat → Int32, z = upI (gI S_1) th 1 0 := ⟨_, rfl⟩
  have hp := hp F_6 eF_6
  refine sx_putI (pc := 13) (j := 1) B hH hk_4 coX6 rfl w_386 rfl (Or.inl rfl) rfl dX6_init_13 (fun H locs hH => ?_)
  have hH : Hp G (FA S s.heap.size) s.heap (wA S_1 F_6 (gJ S_1) R_5) H locs := by rw [eF_6]; exact hH
  exact sx_vret (pc := 16) B hH hr hlk (by rw [← hQQ]; exact ⟨rfl, hp⟩) (show _ ≤ bc by omega) (show _ ≤ bs by omega) dX6_init_16
theorem dX5_init_0 : decode cX5_init 0 = .ok (.aload_n 0, 1) := by decide +kernel
theorem dX5_init_1 : decode cX5_init 1 = .ok (.invokespecial 3, 3) := by decide +kernel
theorem dX5_init_4 : decode cX5_init 4 = .ok (.aload_n 0, 1) := by decide +kernel
theorem dX5_init_5 : decode cX5_init 5 = .ok (.aconst_null, 1) := by decide +kernel
theorem dX5_init_6 : decode cX5_init 6 = .ok (.putfield 9, 3) := by decide +kernel
theorem dX5_init_9 : decode cX5_init 9 = .ok (.aload_n 0, 1) := by decide +kernel
theorem dX5_init_10 : decode cX5_init 10 = .ok (.iconst 0, 1) := by decide +kernel
theorem dX5_init_11 : decode cX5_init 11 = .ok (.newarray .int, 2) := by decide +kernel
theorem dX5_init_13 : decode cX5_init 13 = .ok (.putfield 15, 3) := by decide +kernel
theorem dX5_init_16 : decode cX5_init 16 = .ok (.aload_n 0, 1) := by decide +kernel
theorem dX5_init_17 : decode cX5_init 17 = .ok (.iconst 0, 1) := by decide +kernel
theorem dX5_init_18 : decode cX5_init 18 = .ok (.newarray .int, 2) := by decide +kernel
theorem dX5_init_20 : decode cX5_init 20 = .ok (.putfield 19, 3) := by decide +kernel
theorem dX5_init_23 : decode cX5_init 23 = .ok (.aload_n 0, 1) := by decide +kernel
theorem dX5_init_24 : decode cX5_init 24 = .ok (.bipush 12, 2) := by decide +kernel
theorem dX5_init_26 : decode cX5_init 26 = .ok (.newarray .int, 2) := by decide +kernel
theorem dX5_init_28 : decode cX5_init 28 = .ok (.putfield 22, 3) := by decide +kernel
theorem dX5_init_31 : decode cX5_init 31 = .ok (.aload_n 0, 1) := by decide +kernel
theorem dX5_init_32 : decode cX5_init 32 = .ok (.bipush 12, 2) := by decide +kernel
theorem dX5_init_34 : decode cX5_init 34 = .ok (.newarray .int, 2) := by decide +kernel
theorem dX5_init_36 : decode cX5_init 36 = .ok (.putfield 25, 3) := by decide +kernel
theorem dX5_init_39 : decode cX5_init 39 = .ok (.aload_n 0, 1) := by decide +kernel
theorem dX5_init_40 : decode cX5_init 40 = .ok (.iconst 0, 1) := by decide +kernel
theorem dX5_init_41 : decode cX5_init 41 = .ok (.putfield 28, 3) := by decide +kernel
theorem dX5_init_44 : decode cX5_init 44 = .ok (.aload_n 0, 1) := by decide +kernel
theorem dX5_init_45 : decode cX5_init 45 = .ok (.iconst 0, 1) := by decide +kernel
theorem dX5_init_46 : decode cX5_init 46 = .ok (.putfield 32, 3) := by decide +kernel
theorem dX5_init_49 : decode cX5_init 49 = .ok (.aload_n 0, 1) := by decide +kernel
theorem dX5_init_50 : decode cX5_init 50 = .ok (.bipush 32, 2) := by decide +kernel
theorem dX5_init_52 : decode cX5_init 52 = .ok (.newarray .int, 2) := by decide +kernel
theorem dX5_init_54 : decode cX5_init 54 = .ok (.putfield 35, 3) := by decide +kernel
theorem dX5_init_57 : decode cX5_init 57 = .ok (.aload_n 0, 1) := by decide +kernel
theorem dX5_init_58 : decode cX5_init 58 = .ok (.iconst 0, 1) := by decide +kernel
theorem dX5_init_59 : decode cX5_init 59 = .ok (.putfield 38, 3) := by decide +kernel
theorem dX5_init_62 : decode cX5_init 62 = .ok (.return_, 1) := by decide +kernel
theorem mi_X5_init : MI yX5_init cX5_init 1 (none : Option Jvm.ClassFile.FieldType) 0 := ⟨w_396, w_116, by decide +kernel, by decide +kernel, by decide +kernel⟩
set_option maxRecDepth 100000 in
set_option maxHeartbeats 4000000 in
theorem C_X5_init (G : GG) (l : Launch) (th : Nat) (S : St) (bc bs : Nat) (Q : St → Prop) (hp : P_X5_init th S bc bs Q) : Ctr G l yX5_init cX5_init 1 (none : Option Jvm.ClassFile.FieldType) 1 20 bc bs [.ref th] S (fun (v : Option Value) (S9 : St) => v = none ∧ Q S9) := by
  generalize hQQ : (fun (v : Option Value) (S9 : St) => v = none ∧ Q S9) = QQ
  unfold P_X5_init at hp
  refine Ctr.of (by decide) (Nat.le_of_ble_eq_true rfl) ?_
  intro p e s m args below meth c ls B hr hlk hin hl hH
  generalize hlocs0 : ([] : List Loc) = locs at hH ⊢
  have hx := B.1
  have hb := B.2.1
  have hl : lv_has ls 1 [(0, .ref th)] := hl
  obtain ⟨hk_th, hp⟩ := hp
  refine lv_aload_n (pc := 0) hx hb dX5_init_0 rfl (lv_at hl 0 rfl) ?_
  refine sx_objInit (pc := 1) (rest := []) B hl.1 w_397 w_131 w_obj (Nat.le_of_ble_eq_true rfl) (Nat.le_of_ble_eq_true rfl) dX5_init_1 ?_
  refine W.eq (g2 := F0 m 4 ls []) rfl ?_
  refine lv_aload_n (pc := 4) hx hb dX5_init_4 rfl (lv_at hl 0 rfl) ?_
  refine lv_null (pc := 5) hx hb dX5_init_5 ?_
  refine W.eq (g2 := F0 m 6 ls [va_rf none, .ref th]) rfl ?_
  obtain ⟨R_1, eR_1⟩ : ∃ z : Nat → Nat → Option Nat, z = upR (gR S) th 0 none := ⟨_, rfl⟩
  have hp := hp R_1 eR_1
  refine sx_putR (pc := 6) (j := 0) (x := none) B hH hk_th coX5 rfl w_398 rfl (Or.inl rfl) rfl dX5_init_6 (fun H locs hH => ?_)
  have hH : Hp G (FA S s.heap.size) s.heap (wA S (gI S) (gJ S) R_1) H locs := by rw [eR_1]; exact hH
  refine lv_aload_n (pc := 9) hx hb dX5_init_9 rfl (lv_at hl 0 rfl) ?_
  refine lv_iconst (pc := 10) (v := 0) hx hb dX5_init_10 (by decide) ?_
  obtain ⟨hc_3, hp⟩ := hp
  obtain ⟨hc_4, hp⟩ := hp
  refine sx_newi (pc := 11) (S := (wA S (gI S) (gJ S) R_1)) B hH w_294 (by decide) (by decide) (by decide) (show _ + 1 ≤ bc by omega) (show _ + 0 ≤ bs by first | omega | exact (by omega : _ + 0 ≤ bs)) dX5_init_11 (fun q_2 H hq_2 hH => ?_)
  obtain ⟨S_2, eS_2⟩ : ∃ z : St, z = alo (wA S (gI S) (gJ S) R_1) q_2 21 0 := ⟨_, rfl⟩
  have hp := hp q_2 hq_2 S_2 eS_2
  have hH : Hp G (FA S s.heap.size) s.heap S_2 H locs := by rw [eS_2]; exact hH
  have hk_2 : kd S_2 q_2 = 21 := by rw [eS_2]; exact kd_alo
  refine W.eq (g2 := F0 m 13 ls [.ref q_2, .ref th]) rfl ?_
  obtain ⟨hk_5, hp⟩ := hp
  obtain ⟨R_6, eR_6⟩ : ∃ z : Nat → Nat → Option Nat, z = upR (gR S_2) th 1 (some q_2) := ⟨_, rfl⟩
  have hp := hp R_6 eR_6
  refine sx_putR (pc := 13) (j := 1) (x := (some q_2)) B hH hk_5 coX5 rfl w_399 rfl (Or.inl rfl) rfl dX5_init_13 (fun H locs hH => ?_)
  have hH : Hp G (FA S s.heap.size) s.heap (wA S_2 (gI S_2) (gJ S_2) R_6) H locs := by rw [eR_6]; exact hH
  refine lv_aload_n (pc := 16) hx hb dX5_init_16 rfl (lv_at hl 0 rfl) ?_
  refine lv_iconst (pc := 17) (v := 0) hx hb dX5_init_17 (by decide) ?_
  obtain ⟨hc_8, hp⟩ := hp
  obtain ⟨hc_9, hp⟩ := hp
  refine sx_newi (pc := 18) (S := (wA S_2 (gI S_2) (gJ S_2) R_6)) B hH w_294 (by decide) (by decide) (by decide) (show _ + 1 ≤ bc by omega) (show _ + 0 ≤ bs by first | omega | exact (by omega : _ + 0 ≤ bs)) dX5_init_18 (fun q_7 H hq_7 hH => ?_)
  obtain ⟨S_7, eS_7⟩ : ∃ z : St, z = alo (wA S_2 (gI S_2) (gJ S_2) R_6) q_7 21 0 := ⟨_, rfl⟩
  have hp := hp q_7 hq_7 S_7 eS_7
  have hH : Hp G (FA S s.heap.size) s.heap S_7 H locs := by rw [eS_7]; exact hH
  have hk_7 : kd S_7 q_7 = 21 := by rw [eS_7]; exact kd_alo
  refine W.eq (g2 := F0 m 20 ls [.ref q_7, .ref th]) rfl ?_
  obtain ⟨hk_10, hp⟩ := hp
  obtain ⟨R_11, eR_11⟩ : ∃ z : Nat → Nat → Option Nat, z = upR (gR S_7) th 2 (some q_7) := ⟨_, rfl⟩
  have hp := hp R_11 eR_11
  refine sx_putR (pc := 20) (j := 2) (x := (some q_7)) B hH hk_10 coX5 rfl w_400 rfl (Or.inl rfl) rfl dX5_init_20 (fun H locs hH => ?_)
  have hH : Hp G (FA S s.heap.size) s.heap (wA S_7 (gI S_7) (gJ S_7) R_11) H locs := by rw [eR_11]; exact hH
  refine lv_aload_n (pc := 23) hx hb dX5_init_23 rfl (lv_at hl 0 rfl) ?_
  refine lv_bipush (pc := 24) (v := 12) hx hb dX5_init_24 (by decide) ?_
  obtain ⟨hc_13, hp⟩ := hp
  obtain ⟨hc_14, hp⟩ := hp
  refine sx_newi (pc := 26) (S := (wA S_7 (gI S_7) (gJ S_7) R_11)) B hH w_294 (by decide) (by decide) (by decide) (show _ + 1 ≤ bc by omega) (show _ + 12 ≤ bs by first | omega | exact (by omega : _ + 12 ≤ bs)) dX5_init_26 (fun q_12 H hq_12 hH => ?_)
  obtain ⟨S_12, eS_12⟩ : ∃ z : St, z = alo (wA S_7 (gI S_7) (gJ S_7) R_11) q_12 21 12 := ⟨_, rfl⟩
  have hp := hp q_12 hq_12 S_12 eS_12
  have hH : Hp G (FA S s.heap.size) s.heap S_12 H locs := by rw [eS_12]; exact hH
  have hk_12 : kd S_12 q_12 = 21 := by rw [eS_12]; exact kd_alo
  refine W.eq (g2 := F0 m 28 ls [.ref q_12, .ref th]) rfl ?_
  obtain ⟨hk_15, hp⟩ := hp
  obtain ⟨R_16, eR_16⟩ : ∃ z : Nat → Nat → Option Nat, z = upR (gR S_12) th 3 (some q_12) := ⟨_, rfl⟩
  have hp := hp R_16 eR_16
  refine sx_putR (pc := 28) (j := 3) (x := (some q_12)) B hH hk_15 coX5 rfl w_401 rfl (Or.inr ⟨rfl, hin, rfl⟩) rfl dX5_init_28 (fun H locs hH => ?_)
  have hH : Hp G (FA S s.heap.size) s.heap (wA S_12 (gI S_12) (gJ S_12) R_16) H locs := by rw [eR_16]; exact hH
  refine lv_aload_n (pc := 31) hx hb dX5_init_31 rfl (lv_at hl 0 rfl) ?_
  refine lv_bipush (pc := 32) (v := 12) hx hb dX5_init_32 (by decide) ?_
  obtain ⟨hc_18, hp⟩ := hp
  obtain ⟨hc_19, hp⟩ := hp
  refine sx_newi (pc := 34) (S := (wA S_12 (gI S_12) (gJ S_12) R_16)) B hH w_294 (by decide) (by decide) (by decide) (show _ + 1 ≤ bc by omega) (show _ + 12 ≤ bs by first | omega | exact (by omega : _ + 12 ≤ bs)) dX5_init_34 (fun q_17 H hq_17 hH => ?_)
  obtain ⟨S_17, eS_17⟩ : ∃ z : St, z = alo (wA S_12 (gI S_12) (gJ S_12) R_16) q_17 21 12 := ⟨_, rfl⟩
  have hp := hp q_17 hq_17 S_17 eS_17
  have hH : Hp G (FA S s.heap.size) s.heap S_17 H locs := by rw [eS_17]; exact hH
  have hk_17 : kd S_17 q_17 = 21 := by rw [eS_17]; exact kd_alo
  refine W.eq (g2 := F0 m 36 ls [.ref q_17, .ref th]) rfl ?_
  obtain ⟨hk_20, hp⟩ := hp
  obtain ⟨R_21, eR_21⟩ : ∃ z : Nat → Nat → Option Nat, z = upR (gR S_17) th 4 (some q_17) := ⟨_, rfl⟩
  have hp := hp R_21 eR_21
  refine sx_putR (pc := 36) (j := 4) (x := (some q_17)) B hH hk_20 coX5 rfl w_402 rfl (Or.inr ⟨rfl, hin, rfl⟩) rfl dX5_init_36 (fun H locs hH => ?_)
  have hH : Hp G (FA S s.heap.size) s.heap (wA S_17 (gI S_17) (gJ S_17) R_21) H locs := by rw [eR_21]; exact hH
  refine lv_aload_n (pc := 39) hx hb dX5_init_39 rfl (lv_at hl 0 rfl) ?_
  refine lv_iconst (pc := 40) (v := 0) hx hb dX5_init_40 (by decide) ?_
  obtain ⟨F_22, eF_22⟩ : ∃ z : Nat → Nat → Int32, z = upI (gI S_17) th 5 0 := ⟨_, rfl⟩
  have hp := hp F_22 eF_22
  refine sx_putI (pc := 41) (j := 5) B hH hk_20 coX5 rfl w_403 rfl (Or.inl rfl) rfl dX5_init_41 (fun H locs hH => ?_)
  have hH : Hp G (FA S s.heap.size) s.heap (wA S_17 F_22 (gJ S_17) R_21) H locs := by rw [eF_22]; exact hH
  refine lv_aload_n (pc := 44) hx hb dX5_init_44 rfl (lv_at hl 0 rfl) ?_
  refine lv_iconst (pc := 45) (v := 0) hx hb dX5_init_45 (by decide) ?_
  obtain ⟨F_23, eF_23⟩ : ∃ z : Nat → Nat → Int32, z = upI F_22 th 6 0 := ⟨_, rfl⟩
  have hp := hp F_23 eF_23
  refine sx_putI (pc := 46) (j := 6) B hH hk_20 coX5 rfl w_404 rfl (Or.inl rfl) rfl dX5_init_46 (fun H locs hH => ?_)
  have hH : Hp G (FA S s.heap.size) s.heap (wA S_17 F_23 (gJ S_17) R_21) H locs := by rw [eF_23]; exact hH
  refine lv_aload_n (pc := 49) hx hb dX5_init_49 rfl (lv_at hl 0 rfl) ?_
  refine lv_bipush (pc := 50) (v := 32) hx hb dX5_init_50 (by decide) ?_
  obtain ⟨hc_25, hp⟩ := hp
  obtain ⟨hc_26, hp⟩ := hp
  refine sx_newi (pc := 52) (S := (wA S_17 F_23 (gJ S_17) R_21)) B hH w_294 (by decide) (by decide) (by decide) (show _ + 1 ≤ bc by omega) (show _ + 32 ≤ bs by first | omega | exact (by omega : _ + 32 ≤ bs)) dX5_init_52 (fun q_24 H hq_24 hH => ?_)
  obtain ⟨S_24, eS_24⟩ : ∃ z : St, z = alo (wA S_17 F_23 (gJ S_17) R_21) q_24 21 32 := ⟨_, rfl⟩
  have hp := hp q_24 hq_24 S_24 eS_24
  have hH : Hp G (FA S s.heap.size) s.heap S_24 H locs := by rw [eS_24]; exact hH
  have hk_24 : kd S_24 q_24 = 21 := by rw [eS_24]; exact kd_alo
  refine W.eq (g2 := F0 m 54 ls [.ref q_24, .ref th]) rfl ?_
  obtain ⟨hk_27, hp⟩ := hp
  obtain ⟨R_28, eR_28⟩ : ∃ z : Nat → Nat → Option Nat, z = upR (gR S_24) th 7 (some q_24) := ⟨_, rfl⟩
  have hp := hp R_28 eR_28
  refine sx_putR (pc := 54) (j := 7) (x := (some q_24)) B hH hk_27 coX5 rfl w_406 rfl (Or.inl rfl) rfl dX5_init_54 (fun H locs hH => ?_)
  have hH : Hp G (FA S s.heap.size) s.heap (wA S_24 (gI S_24) (gJ S_24) R_28) H locs := by rw [eR_28]; exact hH
  refine lv_aload_n (pc := 57) hx hb dX5_init_57 rfl (lv_at hl 0 rfl) ?_
  refine lv_iconst (pc := 58) (v := 0) hx hb dX5_init_58 (by decide) ?_
  obtain ⟨F_29, eF_29⟩ : ∃ z : Nat → Nat → Int32, z = upI (gI S_24) th 8 0 := ⟨_, rfl⟩
  have hp := hp F_29 eF_29
  refine sx_putI (pc := 59) (j := 8) B hH hk_27 coX5 rfl w_408 rfl (Or.inl rfl) rfl dX5_init_59 (fun H locs hH => ?_)
  have hH : Hp G (FA S s.heap.size) s.heap (wA S_24 F_29 (gJ S_24) R_28) H locs := by rw [eF_29]; exact hH
  exact sx_vret (pc := 62) B hH hr hlk (by rw [← hQQ]; exact ⟨rfl, hp⟩) (show _ ≤ bc by omega) (show _ ≤ bs by omega) dX5_init_62
theorem dX2_init_0 : decode cX2_init 0 = .ok (.aload_n 0, 1) := by decide +kernel
theorem dX2_init_1 : decode cX2_init 1 = .ok (.invokespecial 3, 3) := by decide +kernel
theorem dX2_init_4 : decode cX2_init 4 = .ok (.aload_n 0, 1) := by decide +kernel
theorem dX2_init_5 : decode cX2_init 5 = .ok (.bipush 8, 2) := by decide +kernel
theorem dX2_init_7 : decode cX2_init 7 = .ok (.newarray .int, 2) := by decide +kernel
theorem dX2_init_9 : decode cX2_init 9 = .ok (.putfield 9, 3) := by decide +kernel
theorem dX2_init_12 : decode cX2_init 12 = .ok (.aload_n 0, 1) := by decide +kernel
theorem dX2_init_13 : decode cX2_init 13 = .ok (.bipush 8, 2) := by decide +kernel
theorem dX2_init_15 : decode cX2_init 15 = .ok (.newarray .int, 2) := by decide +kernel
theorem dX2_init_17 : decode cX2_init 17 = .ok (.putfield 15, 3) := by decide +kernel
theorem dX2_init_20 : decode cX2_init 20 = .ok (.aload_n 0, 1) := by decide +kernel
theorem dX2_init_21 : decode cX2_init 21 = .ok (.bipush 8, 2) := by decide +kernel
theorem dX2_init_23 : decode cX2_init 23 = .ok (.newarray .int, 2) := by decide +kernel
theorem dX2_init_25 : decode cX2_init 25 = .ok (.putfield 18, 3) := by decide +kernel
theorem dX2_init_28 : decode cX2_init 28 = .ok (.aload_n 0, 1) := by decide +kernel
theorem dX2_init_29 : decode cX2_init 29 = .ok (.bipush 8, 2) := by decide +kernel
theorem dX2_init_31 : decode cX2_init 31 = .ok (.newarray .int, 2) := by decide +kernel
theorem dX2_init_33 : decode cX2_init 33 = .ok (.putfield 21, 3) := by decide +kernel
theorem dX2_init_36 : decode cX2_init 36 = .ok (.aload_n 0, 1) := by decide +kernel
theorem dX2_init_37 : decode cX2_init 37 = .ok (.iconst 0, 1) := by decide +kernel
theorem dX2_init_38 : decode cX2_init 38 = .ok (.putfield 24, 3) := by decide +kernel
theorem dX2_init_41 : decode cX2_init 41 = .ok (.aload_n 0, 1) := by decide +kernel
theorem dX2_init_42 : decode cX2_init 42 = .ok (.iconst 0, 1) := by decide +kernel
theorem dX2_init_43 : decode cX2_init 43 = .ok (.putfield 28, 3) := by decide +kernel
theorem dX2_init_46 : decode cX2_init 46 = .ok (.return_, 1) := by decide +kernel
theorem mi_X2_init : MI yX2_init cX2_init 1 (none : Option Jvm.ClassFile.FieldType) 0 := ⟨w_433, w_117, by decide +kernel, by decide +kernel, by decide +kernel⟩
set_option maxRecDepth 100000 in
set_option maxHeartbeats 4000000 in
theorem C_X2_init (G : GG) (l : Launch) (th : Nat) (S : St) (bc bs : Nat) (Q : St → Prop) (hp : P_X2_init th S bc bs Q) : Ctr G l yX2_init cX2_init 1 (none : Option Jvm.ClassFile.FieldType) 1 20 bc bs [.ref th] S (fun (v : Option Value) (S9 : St) => v = none ∧ Q S9) := by
  generalize hQQ : (fun (v : Option Value) (S9 : St) => v = none ∧ Q S9) = QQ
  unfold P_X2_init at hp
  refine Ctr.of (by decide) (Nat.le_of_ble_eq_true rfl) ?_
  intro p e s m args below meth c ls B hr hlk hin hl hH
  generalize hlocs0 : ([] : List Loc) = locs at hH ⊢
  have hx := B.1
  have hb := B.2.1
  have hl : lv_has ls 1 [(0, .ref th)] := hl
  obtain ⟨hk_th, hp⟩ := hp
  refine lv_aload_n (pc := 0) hx hb dX2_init_0 rfl (lv_at hl 0 rfl) ?_
  refine sx_objInit (pc := 1) (rest := []) B hl.1 w_434 w_131 w_obj (Nat.le_of_ble_eq_true rfl) (Nat.le_of_ble_eq_true rfl) dX2_init_1 ?_
  refine W.eq (g2 := F0 m 4 ls []) rfl ?_
  refine lv_aload_n (pc := 4) hx hb dX2_init_4 rfl (lv_at hl 0 rfl) ?_
  refine lv_bipush (pc := 5) (v := 8) hx hb dX2_init_5 (by decide) ?_
  obtain ⟨hc_2, hp⟩ := hp
  obtain ⟨hc_3, hp⟩ := hp
  refine sx_newi (pc := 7) (S := S) B hH w_294 (by decide) (by decide) (by decide) (show _ + 1 ≤ bc by omega) (show _ + 8 ≤ bs by first | omega | exact (by omega : _ + 8 ≤ bs)) dX2_init_7 (fun q_1 H hq_1 hH => ?_)
  obtain ⟨S_1, eS_1⟩ : ∃ z : St, z = alo S q_1 21 8 := ⟨_, rfl⟩
  have hp := hp q_1 hq_1 S_1 eS_1
  have hH : Hp G (FA S s.heap.size) s.heap S_1 H locs := by rw [eS_1]; exact hH
  have hk_1 : kd S_1 q_1 = 21 := by rw [eS_1]; exact kd_alo
  refine W.eq (g2 := F0 m 9 ls [.ref q_1, .ref th]) rfl ?_
  obtain ⟨hk_4, hp⟩ := hp
  obtain ⟨R_5, eR_5⟩ : ∃ z : Nat → Nat → Option Nat, z = upR (gR S_1) th 0 (some q_1) := ⟨_, rfl⟩
  have hp := hp R_5 eR_5
  refine sx_putR (pc := 9) (j := 0) (x := (some q_1)) B hH hk_4 coX2 rfl w_435 rfl (Or.inr ⟨rfl, hin, rfl⟩) rfl dX2_init_9 (fun H locs hH => ?_)
  have hH : Hp G (FA S s.heap.size) s.heap (wA S_1 (gI S_1) (gJ S_1) R_5) H locs := by rw [eR_5]; exact hH
  refine lv_aload_n (pc := 12) hx hb dX2_init_12 rfl (lv_at hl 0 rfl) ?_
  refine lv_bipush (pc := 13) (v := 8) hx hb dX2_init_13 (by decide) ?_
  obtain ⟨hc_7, hp⟩ := hp
  obtain ⟨hc_8, hp⟩ := hp
  refine sx_newi (pc := 15) (S := (wA S_1 (gI S_1) (gJ S_1) R_5)) B hH w_294 (by decide) (by decide) (by decide) (show _ + 1 ≤ bc by omega) (show _ + 8 ≤ bs by first | omega | exact (by omega : _ + 8 ≤ bs)) dX2_init_15 (fun q_6 H hq_6 hH => ?_)
  obtain ⟨S_6, eS_6⟩ : ∃ z : St, z = alo (wA S_1 (gI S_1) (gJ S_1) R_5) q_6 21 8 := ⟨_, rfl⟩
  have hp := hp q_6 hq_6 S_6 eS_6
  have hH : Hp G (FA S s.heap.size) s.heap S_6 H locs := by rw [eS_6]; exact hH
  have hk_6 : kd S_6 q_6 = 21 := by rw [eS_6]; exact kd_alo
  refine W.eq (g2 := F0 m 17 ls [.ref q_6, .ref th]) rfl ?_
  obtain ⟨hk_9, hp⟩ := hp
  obtain ⟨R_10, eR_10⟩ : ∃ z : Nat → Nat → Option Nat, z = upR (gR S_6) th 1 (some q_6) := ⟨_, rfl⟩
  have hp := hp R_10 eR_10
  refine sx_putR (pc := 17) (j := 1) (x := (some q_6)) B hH hk_9 coX2 rfl w_436 rfl (Or.inr ⟨rfl, hin, rfl⟩) rfl dX2_init_17 (fun H locs hH => ?_)
  have hH : Hp G (FA S s.heap.size) s.heap (wA S_6 (gI S_6) (gJ S_6) R_10) H locs := by rw [eR_10]; exact hH
  refine lv_aload_n (pc := 20) hx hb dX2_init_20 rfl (lv_at hl 0 rfl) ?_
  refine lv_bipush (pc := 21) (v := 8) hx hb dX2_init_21 (by decide) ?_
  obtain ⟨hc_12, hp⟩ := hp
  obtain ⟨hc_13, hp⟩ := hp
  refine sx_newi (pc := 23) (S := (wA S_6 (gI S_6) (gJ S_6) R_10)) B hH w_294 (by decide) (by decide) (by decide) (show _ + 1 ≤ bc by omega) (show _ + 8 ≤ bs by first | omega | exact (by omega : _ + 8 ≤ bs)) dX2_init_23 (fun q_11 H hq_11 hH => ?_)
  obtain ⟨S_11, eS_11⟩ : ∃ z : St, z = alo (wA S_6 (gI S_6) (gJ S_6) R_10) q_11 21 8 := ⟨_, rfl⟩
  have hp := hp q_11 hq_11 S_11 eS_11
  have hH : Hp G (FA S s.heap.size) s.heap S_11 H locs := by rw [eS_11]; exact hH
  have hk_11 : kd S_11 q_11 = 21 := by rw [eS_11]; exact kd_alo
  refine W.eq (g2 := F0 m 25 ls [.ref q_11, .ref th]) rfl ?_
  obtain ⟨hk_14, hp⟩ := hp
  obtain ⟨R_15, eR_15⟩ : ∃ z : Nat → Nat → Option Nat, z = upR (gR S_11) th 2 (some q_11) := ⟨_, rfl⟩
  have hp := hp R_15 eR_15
  refine sx_putR (pc := 25) (j := 2) (x := (some q_11)) B hH hk_14 coX2 rfl w_437 rfl (Or.inr ⟨rfl, hin, rfl⟩) rfl dX2_init_25 (fun H locs hH => ?_)
  have hH : Hp G (FA S s.heap.size) s.heap (wA S_11 (gI S_11) (gJ S_11) R_15) H locs := by rw [eR_15]; exact hH
  refine lv_aload_n (pc := 28) hx hb dX2_init_28 rfl (lv_at hl 0 rfl) ?_
  refine lv_bipush (pc := 29) (v := 8) hx hb dX2_init_29 (by decide) ?_
  obtain ⟨hc_17, hp⟩ := hp
  obtain ⟨hc_18, hp⟩ := hp
  refine sx_newi (pc := 31) (S := (wA S_11 (gI S_11) (gJ S_11) R_15)) B hH w_294 (by decide) (by decide) (by decide) (show _ + 1 ≤ bc by omega) (show _ + 8 ≤ bs by first | omega | exact (by omega : _ + 8 ≤ bs)) dX2_init_31 (fun q_16 H hq_16 hH => ?_)
  obtain ⟨S_16, eS_16⟩ : ∃ z : St, z = alo (wA S_11 (gI S_11) (gJ S_11) R_15) q_16 21 8 := ⟨_, rfl⟩
  have hp := hp q_16 hq_16 S_16 eS_16
  have hH : Hp G (FA S s.heap.size) s.heap S_16 H locs := by rw [eS_16]; exact hH
  have hk_16 : kd S_16 q_16 = 21 := by rw [eS_16]; exact kd_alo
  refine W.eq (g2 := F0 m 33 ls [.ref q_16, .ref th]) rfl ?_
  obtain ⟨hk_19, hp⟩ := hp
  obtain ⟨R_20, eR_20⟩ : ∃ z : Nat → Nat → Option Nat, z = upR (gR S_16) th 3 (some q_16) := ⟨_, rfl⟩
  have hp := hp R_20 eR_20
  refine sx_putR (pc := 33) (j := 3) (x := (some q_16)) B hH hk_19 coX2 rfl w_438 rfl (Or.inr ⟨rfl, hin, rfl⟩) rfl dX2_init_33 (fun H locs hH => ?_)
  have hH : Hp G (FA S s.heap.size) s.heap (wA S_16 (gI S_16) (gJ S_16) R_20) H locs := by rw [eR_20]; exact hH
  refine lv_aload_n (pc := 36) hx hb dX2_init_36 rfl (lv_at hl 0 rfl) ?_
  refine lv_iconst (pc := 37) (v := 0) hx hb dX2_init_37 (by decide) ?_
  obtain ⟨F_21, eF_21⟩ : ∃ z : Nat → Nat → Int32, z = upI (gI S_16) th 4 0 := ⟨_, rfl⟩
  have hp := hp F_21 eF_21
  refine sx_putI (pc := 38) (j := 4) B hH hk_19 coX2 rfl w_440 rfl (Or.inl rfl) rfl dX2_init_38 (fun H locs hH => ?_)
  have hH : Hp G (FA S s.heap.size) s.heap (wA S_16 F_21 (gJ S_16) R_20) H locs := by rw [eF_21]; exact hH
  refine lv_aload_n (pc := 41) hx hb dX2_init_41 rfl (lv_at hl 0 rfl) ?_
  refine lv_iconst (pc := 42) (v := 0) hx hb dX2_init_42 (by decide) ?_
  obtain ⟨F_22, eF_22⟩ : ∃ z : Nat → Nat → Int32, z = upI F_21 th 5 0 := ⟨_, rfl⟩
  have hp := hp F_22 eF_22
  refine sx_putI (pc := 43) (j := 5) B hH hk_19 coX2 rfl w_442 rfl (Or.inl rfl) rfl dX2_init_43 (fun H locs hH => ?_)
  have hH : Hp G (FA S s.heap.size) s.heap (wA S_16 F_22 (gJ S_16) R_20) H locs := by rw [eF_22]; exact hH
  exact sx_vret (pc := 46) B hH hr hlk (by rw [← hQQ]; exact ⟨rfl, hp⟩) (show _ ≤ bc by omega) (show _ ≤ bs by omega) dX2_init_46
theorem dX3_init_0 : decode cX3_init 0 = .ok (.aload_n 0, 1) := by decide +kernel
theorem dX3_init_1 : decode cX3_init 1 = .ok (.invokespecial 3, 3) := by decide +kernel
theorem dX3_init_4 : decode cX3_init 4 = .ok (.aload_n 0, 1) := by decide +kernel
theorem dX3_init_5 : decode cX3_init 5 = .ok (.lload_n 1, 1) := by decide +kernel
theorem dX3_init_6 : decode cX3_init 6 = .ok (.putfield 9, 3) := by decide +kernel
theorem dX3_init_9 : decode cX3_init 9 = .ok (.aload_n 0, 1) := by decide +kernel
theorem dX3_init_10 : decode cX3_init 10 = .ok (.aload 4, 2) := by decide +kernel
theorem dX3_init_12 : decode cX3_init 12 = .ok (.putfield 15, 3) := by decide +kernel
theorem dX3_init_15 : decode cX3_init 15 = .ok (.aload_n 0, 1) := by decide +kernel
theorem dX3_init_16 : decode cX3_init 16 = .ok (.aload 4, 2) := by decide +kernel
theorem dX3_init_18 : decode cX3_init 18 = .ok (.arraylength, 1) := by decide +kernel
theorem dX3_init_19 : decode cX3_init 19 = .ok (.iconst 1, 1) := by decide +kernel
theorem dX3_init_20 : decode cX3_init 20 = .ok (.iadd, 1) := by decide +kernel
theorem dX3_init_21 : decode cX3_init 21 = .ok (.newarray .int, 2) := by decide +kernel
theorem dX3_init_23 : decode cX3_init 23 = .ok (.putfield 19, 3) := by decide +kernel
theorem dX3_init_26 : decode cX3_init 26 = .ok (.aload_n 0, 1) := by decide +kernel
theorem dX3_init_27 : decode cX3_init 27 = .ok (.iconst 3, 1) := by decide +kernel
theorem dX3_init_28 : decode cX3_init 28 = .ok (.newarray .int, 2) := by decide +kernel
theorem dX3_init_30 : decode cX3_init 30 = .ok (.putfield 22, 3) := by decide +kernel
theorem dX3_init_33 : decode cX3_init 33 = .ok (.aload_n 0, 1) := by decide +kernel
theorem dX3_init_34 : decode cX3_init 34 = .ok (.iconst 3, 1) := by decide +kernel
theorem dX3_init_35 : decode cX3_init 35 = .ok (.newarray .int, 2) := by decide +kernel
theorem dX3_init_37 : decode cX3_init 37 = .ok (.putfield 25, 3) := by decide +kernel
theorem dX3_init_40 : decode cX3_init 40 = .ok (.aload_n 0, 1) := by decide +kernel
theorem dX3_init_41 : decode cX3_init 41 = .ok (.getfield 19, 3) := by decide +kernel
theorem dX3_init_44 : decode cX3_init 44 = .ok (.iconst 0, 1) := by decide +kernel
theorem dX3_init_45 : decode cX3_init 45 = .ok (.iload_n 3, 1) := by decide +kernel
theorem dX3_init_46 : decode cX3_init 46 = .ok (.invokestatic 28, 3) := by decide +kernel
theorem dX3_init_49 : decode cX3_init 49 = .ok (.iastore, 1) := by decide +kernel
theorem dX3_init_50 : decode cX3_init 50 = .ok (.iconst 0, 1) := by decide +kernel
theorem dX3_init_51 : decode cX3_init 51 = .ok (.istore 7, 2) := by decide +kernel
theorem dX3_init_53 : decode cX3_init 53 = .ok (.iload 7, 2) := by decide +kernel
theorem dX3_init_55 : decode cX3_init 55 = .ok (.aload 4, 2) := by decide +kernel
theorem dX3_init_57 : decode cX3_init 57 = .ok (.arraylength, 1) := by decide +kernel
theorem dX3_init_58 : decode cX3_init 58 = .ok (.if_icmp .ge 33, 3) := by decide +kernel
theorem dX3_init_61 : decode cX3_init 61 = .ok (.aload_n 0, 1) := by decide +kernel
theorem dX3_init_62 : decode cX3_init 62 = .ok (.getfield 19, 3) := by decide +kernel
theorem dX3_init_65 : decode cX3_init 65 = .ok (.iload 7, 2) := by decide +kernel
theorem dX3_init_67 : decode cX3_init 67 = .ok (.iconst 1, 1) := by decide +kernel
theorem dX3_init_68 : decode cX3_init 68 = .ok (.iadd, 1) := by decide +kernel
theorem dX3_init_69 : decode cX3_init 69 = .ok (.aload_n 0, 1) := by decide +kernel
theorem dX3_init_70 : decode cX3_init 70 = .ok (.getfield 19, 3) := by decide +kernel
theorem dX3_init_73 : decode cX3_init 73 = .ok (.iload 7, 2) := by decide +kernel
theorem dX3_init_75 : decode cX3_init 75 = .ok (.iaload, 1) := by decide +kernel
theorem dX3_init_76 : decode cX3_init 76 = .ok (.aload 4, 2) := by decide +kernel
theorem dX3_init_78 : decode cX3_init 78 = .ok (.iload 7, 2) := by decide +kernel
theorem dX3_init_80 : decode cX3_init 80 = .ok (.iaload, 1) := by decide +kernel
theorem dX3_init_81 : decode cX3_init 81 = .ok (.invokestatic 34, 3) := by decide +kernel
theorem dX3_init_84 : decode cX3_init 84 = .ok (.iastore, 1) := by decide +kernel
theorem dX3_init_85 : decode cX3_init 85 = .ok (.iinc 7 1, 3) := by decide +kernel
theorem dX3_init_88 : decode cX3_init 88 = .ok (.goto (-35), 3) := by decide +kernel
theorem dX3_init_91 : decode cX3_init 91 = .ok (.aload 4, 2) := by decide +kernel
theorem dX3_init_93 : decode cX3_init 93 = .ok (.arraylength, 1) := by decide +kernel
theorem dX3_init_94 : decode cX3_init 94 = .ok (.iconst 1, 1) := by decide +kernel
theorem dX3_init_95 : decode cX3_init 95 = .ok (.isub, 1) := by decide +kernel
theorem dX3_init_96 : decode cX3_init 96 = .ok (.istore 7, 2) := by decide +kernel
theorem dX3_init_98 : decode cX3_init 98 = .ok (.iload 7, 2) := by decide +kernel
theorem dX3_init_100 : decode cX3_init 100 = .ok (.ifCond .lt 69, 3) := by decide +kernel
theorem dX3_init_103 : decode cX3_init 103 = .ok (.aload_n 0, 1) := by decide +kernel
theorem dX3_init_104 : decode cX3_init 104 = .ok (.getfield 22, 3) := by decide +kernel
theorem dX3_init_107 : decode cX3_init 107 = .ok (.iconst 0, 1) := by decide +kernel
theorem dX3_init_108 : decode cX3_init 108 = .ok (.aload 4, 2) := by decide +kernel
theorem dX3_init_110 : decode cX3_init 110 = .ok (.iload 7, 2) := by decide +kernel
theorem dX3_init_112 : decode cX3_init 112 = .ok (.iaload, 1) := by decide +kernel
theorem dX3_init_113 : decode cX3_init 113 = .ok (.iastore, 1) := by decide +kernel
theorem dX3_init_114 : decode cX3_init 114 = .ok (.aload_n 0, 1) := by decide +kernel
theorem dX3_init_115 : decode cX3_init 115 = .ok (.getfield 22, 3) := by decide +kernel
theorem dX3_init_118 : decode cX3_init 118 = .ok (.iconst 1, 1) := by decide +kernel
theorem dX3_init_119 : decode cX3_init 119 = .ok (.iload 5, 2) := by decide +kernel
theorem dX3_init_121 : decode cX3_init 121 = .ok (.iastore, 1) := by decide +kernel
theorem dX3_init_122 : decode cX3_init 122 = .ok (.aload_n 0, 1) := by decide +kernel
theorem dX3_init_123 : decode cX3_init 123 = .ok (.getfield 22, 3) := by decide +kernel
theorem dX3_init_126 : decode cX3_init 126 = .ok (.iconst 2, 1) := by decide +kernel
theorem dX3_init_127 : decode cX3_init 127 = .ok (.iload 6, 2) := by decide +kernel
theorem dX3_init_129 : decode cX3_init 129 = .ok (.iastore, 1) := by decide +kernel
theorem dX3_init_130 : decode cX3_init 130 = .ok (.iconst 0, 1) := by decide +kernel
theorem dX3_init_131 : decode cX3_init 131 = .ok (.istore 8, 2) := by decide +kernel
theorem dX3_init_133 : decode cX3_init 133 = .ok (.iload 8, 2) := by decide +kernel
theorem dX3_init_135 : decode cX3_init 135 = .ok (.iconst 3, 1) := by decide +kernel
theorem dX3_init_136 : decode cX3_init 136 = .ok (.if_icmp .ge 33, 3) := by decide +kernel
theorem dX3_init_139 : decode cX3_init 139 = .ok (.aload_n 0, 1) := by decide +kernel
theorem dX3_init_140 : decode cX3_init 140 = .ok (.getfield 25, 3) := by decide +kernel
theorem dX3_init_143 : decode cX3_init 143 = .ok (.iload 8, 2) := by decide +kernel
theorem dX3_init_145 : decode cX3_init 145 = .ok (.aload_n 0, 1) := by decide +kernel
theorem dX3_init_146 : decode cX3_init 146 = .ok (.getfield 19, 3) := by decide +kernel
theorem dX3_init_149 : decode cX3_init 149 = .ok (.iload 7, 2) := by decide +kernel
theorem dX3_init_151 : decode cX3_init 151 = .ok (.iaload, 1) := by decide +kernel
theorem dX3_init_152 : decode cX3_init 152 = .ok (.aload_n 0, 1) := by decide +kernel
theorem dX3_init_153 : decode cX3_init 153 = .ok (.getfield 22, 3) := by decide +kernel
theorem dX3_init_156 : decode cX3_init 156 = .ok (.iload 8, 2) := by decide +kernel
theorem dX3_init_158 : decode cX3_init 158 = .ok (.iaload, 1) := by decide +kernel
theorem dX3_init_159 : decode cX3_init 159 = .ok (.invokestatic 34, 3) := by decide +kernel
theorem dX3_init_162 : decode cX3_init 162 = .ok (.iastore, 1) := by decide +kernel
theorem dX3_init_163 : decode cX3_init 163 = .ok (.iinc 8 1, 3) := by decide +kernel
theorem dX3_init_166 : decode cX3_init 166 = .ok (.goto (-33), 3) := by decide +kernel
theorem dX3_init_169 : decode cX3_init 169 = .ok (.return_, 1) := by decide +kernel
theorem mi_X3_init : MI yX3_init cX3_init 9 (none : Option Jvm.ClassFile.FieldType) 5 := ⟨w_703, w_123, by decide +kernel, by decide +kernel, by decide +kernel⟩
set_option maxRecDepth 100000 in
set_option maxHeartbeats 4000000 in
theorem C_X3_init (G : GG) (l : Launch) (th : Nat) (p0 : Int64) (p1 : Int32) (p2 : Nat) (p3 : Int32) (p4 : Int32) (S : St) (bc bs : Nat) (Q : St → Prop) (hp : P_X3_init th p0 p1 p2 p3 p4 S bc bs Q) : Ctr G l yX3_init cX3_init 9 (none : Option Jvm.ClassFile.FieldType) 1 21 bc bs [.ref th, .long p0, .int p1, .ref p2, .int p3, .int p4] S (fun (v : Option Value) (S9 : St) => v = none ∧ Q S9) := by
  generalize hQQ : (fun (v : Option Value) (S9 : St) => v = none ∧ Q S9) = QQ
  unfold P_X3_init at hp
  refine Ctr.of (by decide) (Nat.le_of_ble_eq_true rfl) ?_
  intro p e s m args below meth c ls B hr hlk hin hl hH
  generalize hlocs0 : ([] : List Loc) = locs at hH ⊢
  have hx := B.1
  have hb := B.2.1
  have hl : lv_has ls 9 [(0, .ref th), (1, .long p0), (3, .int p1), (4, .ref p2), (5, .int p3), (6, .int p4)] := hl
  obtain ⟨hk_th, hp⟩ := hp
  refine lv_aload_n (pc := 0) hx hb dX3_init_0 rfl (lv_at hl 0 rfl) ?_
  refine sx_objInit (pc := 1) (rest := []) B hl.1 w_704 w_131 w_obj (Nat.le_of_ble_eq_true rfl) (Nat.le_of_ble_eq_true rfl) dX3_init_1 ?_
  refine W.eq (g2 := F0 m 4 ls []) rfl ?_
  refine lv_aload_n (pc := 4) hx hb dX3_init_4 rfl (lv_at hl 0 rfl) ?_
  refine lv_lload_n (pc := 5) hx hb dX3_init_5 rfl (lv_at hl 1 rfl) ?_
  obtain ⟨J_1, eJ_1⟩ : ∃ z : Nat → Nat → Int64, z = upJ (gJ S) th 0 p0 := ⟨_, rfl⟩
  have hp := hp J_1 eJ_1
  refine sx_putJ (pc := 6) (j := 0) B hH hk_th coX3 rfl w_712 rfl (Or.inr ⟨rfl, hin, rfl⟩) rfl dX3_init_6 (fun H locs hH => ?_)
  have hH : Hp G (FA S s.heap.size) s.heap (wA S (gI S) J_1 (gR S)) H locs := by rw [eJ_1]; exact hH
  refine lv_aload_n (pc := 9) hx hb dX3_init_9 rfl (lv_at hl 0 rfl) ?_
  refine lv_aload (pc := 10) hx hb dX3_init_10 (lv_at hl 3 rfl) ?_
  obtain ⟨R_2, eR_2⟩ : ∃ z : Nat → Nat → Option Nat, z = upR (gR S) th 1 (some p2) := ⟨_, rfl⟩
  have hp := hp R_2 eR_2
  refine sx_putR (pc := 12) (j := 1) (x := (some p2)) B hH hk_th coX3 rfl w_714 rfl (Or.inr ⟨rfl, hin, rfl⟩) rfl dX3_init_12 (fun H locs hH => ?_)
  have hH : Hp G (FA S s.heap.size) s.heap (wA S (gI S) J_1 R_2) H locs := by rw [eR_2]; exact hH
  refine lv_aload_n (pc := 15) hx hb dX3_init_15 rfl (lv_at hl 0 rfl) ?_
  refine lv_aload (pc := 16) hx hb dX3_init_16 (lv_at hl 3 rfl) ?_
  obtain ⟨hk_3, hp⟩ := hp
  refine sx_alen (pc := 18) B hH hk_3 (by decide) (by decide) dX3_init_18 ?_
  refine W.eq (g2 := F0 m 19 ls [.int (nI (ln S p2)), .ref th]) rfl ?_
  refine lv_iconst (pc := 19) (v := 1) hx hb dX3_init_19 (by decide) ?_
  refine lv_iadd (pc := 20) hx hb dX3_init_20 ?_
  refine lv_topi (fun v_5 ev_5 => ?_)
  have hp := hp v_5 ev_5
  obtain ⟨hc_6, hp⟩ := hp
  obtain ⟨hc_7, hp⟩ := hp
  obtain ⟨hc_8, hp⟩ := hp
  obtain ⟨hc_9, hp⟩ := hp
  refine sx_newi (pc := 21) (S := (wA S (gI S) J_1 R_2)) B hH w_294 rfl hc_6 hc_7 (show _ + 1 ≤ bc by omega) (show _ + v_5.toNatClampNeg ≤ bs by first | omega | exact (by omega : _ + v_5.toNatClampNeg ≤ bs)) dX3_init_21 (fun q_4 H hq_4 hH => ?_)
  obtain ⟨S_4, eS_4⟩ : ∃ z : St, z = alo (wA S (gI S) J_1 R_2) q_4 21 v_5.toNatClampNeg := ⟨_, rfl⟩
  have hp := hp q_4 hq_4 S_4 eS_4
  have hH : Hp G (FA S s.heap.size) s.heap S_4 H locs := by rw [eS_4]; exact hH
  have hk_4 : kd S_4 q_4 = 21 := by rw [eS_4]; exact kd_alo
  refine W.eq (g2 := F0 m 23 ls [.ref q_4, .ref th]) rfl ?_
  obtain ⟨hk_10, hp⟩ := hp
  obtain ⟨R_11, eR_11⟩ : ∃ z : Nat → Nat → Option Nat, z = upR (gR S_4) th 2 (some q_4) := ⟨_, rfl⟩
  have hp := hp R_11 eR_11
  refine sx_putR (pc := 23) (j := 2) (x := (some q_4)) B hH hk_10 coX3 rfl w_716 rfl (Or.inr ⟨rfl, hin, rfl⟩) rfl dX3_init_23 (fun H locs hH => ?_)
  have hH : Hp G (FA S s.heap.size) s.heap (wA S_4 (gI S_4) (gJ S_4) R_11) H locs := by rw [eR_11]; exact hH
  refine lv_aload_n (pc := 26) hx hb dX3_init_26 rfl (lv_at hl 0 rfl) ?_
  refine lv_iconst (pc := 27) (v := 3) hx hb dX3_init_27 (by decide) ?_
  obtain ⟨hc_13, hp⟩ := hp
  obtain ⟨hc_14, hp⟩ := hp
  refine sx_newi (pc := 28) (S := (wA S_4 (gI S_4) (gJ S_4) R_11)) B hH w_294 (by decide) (by decide) (by decide) (show _ + 1 ≤ bc by omega) (show _ + 3 ≤ bs by first | omega | exact (by omega : _ + 3 ≤ bs)) dX3_init_28 (fun q_12 H hq_12 hH => ?_)
  obtain ⟨S_12, eS_12⟩ : ∃ z : St, z = alo (wA S_4 (gI S_4) (gJ S_4) R_11) q_12 21 3 := ⟨_, rfl⟩
  have hp := hp q_12 hq_12 S_12 eS_12
  have hH : Hp G (FA S s.heap.size) s.heap S_12 H locs := by rw [eS_12]; exact hH
  have hk_12 : kd S_12 q_12 = 21 := by rw [eS_12]; exact kd_alo
  refine W.eq (g2 := F0 m 30 ls [.ref q_12, .ref th]) rfl ?_
  obtain ⟨hk_15, hp⟩ := hp
  obtain ⟨R_16, eR_16⟩ : ∃ z : Nat → Nat → Option Nat, z = upR (gR S_12) th 3 (some q_12) := ⟨_, rfl⟩
  have hp := hp R_16 eR_16
  refine sx_putR (pc := 30) (j := 3) (x := (some q_12)) B hH hk_15 coX3 rfl w_719 rfl (Or.inr ⟨rfl, hin, rfl⟩) rfl dX3_init_30 (fun H locs hH => ?_)
  have hH : Hp G (FA S s.heap.size) s.heap (wA S_12 (gI S_12) (gJ S_12) R_16) H locs := by rw [eR_16]; exact hH
  refine lv_aload_n (pc := 33) hx hb dX3_init_33 rfl (lv_at hl 0 rfl) ?_
  refine lv_iconst (pc := 34) (v := 3) hx hb dX3_init_34 (by decide) ?_
  obtain ⟨hc_18, hp⟩ := hp
  obtain ⟨hc_19, hp⟩ := hp
  refine sx_newi (pc := 35) (S := (wA S_12 (gI S_12) (gJ S_12) R_16)) B hH w_294 (by decide) (by decide) (by decide) (show _ + 1 ≤ bc by omega) (show _ + 3 ≤ bs by first | omega | exact (by omega : _ + 3 ≤ bs)) dX3_init_35 (fun q_17 H hq_17 hH => ?_)
  obtain ⟨S_17, eS_17⟩ : ∃ z : St, z = alo (wA S_12 (gI S_12) (gJ S_12) R_16) q_17 21 3 := ⟨_, rfl⟩
  have hp := hp q_17 hq_17 S_17 eS_17
  have hH : Hp G (FA S s.heap.size) s.heap S_17 H locs := by rw [eS_17]; exact hH
  have hk_17 : kd S_17 q_17 = 21 := by rw [eS_17]; exact kd_alo
  refine W.eq (g2 := F0 m 37 ls [.ref q_17, .ref th]) rfl ?_
  obtain ⟨hk_20, hp⟩ := hp
  obtain ⟨R_21, eR_21⟩ : ∃ z : Nat → Nat → Option Nat, z = upR (gR S_17) th 4 (some q_17) := ⟨_, rfl⟩
  have hp := hp R_21 eR_21
  refine sx_putR (pc := 37) (j := 4) (x := (some q_17)) B hH hk_20 coX3 rfl w_720 rfl (Or.inr ⟨rfl, hin, rfl⟩) rfl dX3_init_37 (fun H locs hH => ?_)
  have hH : Hp G (FA S s.heap.size) s.heap (wA S_17 (gI S_17) (gJ S_17) R_21) H locs := by rw [eR_21]; exact hH
  refine lv_aload_n (pc := 40) hx hb dX3_init_40 rfl (lv_at hl 0 rfl) ?_
  refine sx_getR (pc := 41) (j := 2) B hH hk_20 coX3 rfl w_716 rfl dX3_init_41 ?_
  refine W.eq (g2 := F0 m 44 ls [va_rf (R_21 th 2)]) rfl ?_
  obtain ⟨a_22, ha_22, hp⟩ := hp
  refine sx_nonnull (x := a_22) ha_22 ?_
  refine lv_iconst (pc := 44) (v := 0) hx hb dX3_init_44 (by decide) ?_
  refine lv_iload_n (pc := 45) hx hb dX3_init_45 rfl (lv_at hl 2 rfl) ?_
  refine sx_S (pc := 46) (As := [.int p1]) (rest := [.int 0, .ref a_22]) B hH hl.1 (C_X4_roundsOf G l p1 _ _ hp) mi_X4_roundsOf w_706 w_705 rfl rfl ⟨Nat.le_of_ble_eq_true rfl, Nat.le_of_ble_eq_true rfl⟩ (Nat.le_of_ble_eq_true rfl) ⟨(show _ + 0 ≤ bc by omega), (show _ + 0 ≤ bs by omega)⟩ dX3_init_46 (fun v S1 H locs hq hH => ?_)
  obtain ⟨r_23, rfl, e9, hp⟩ := hq
  rw [e9] at hH
  refine W.eq (g2 := F0 m 49 ls [.int r_23, .int 0, .ref a_22]) rfl ?_
  obtain ⟨hk_24, hp⟩ := hp
  obtain ⟨hn_25, hp⟩ := hp
  obtain ⟨F_26, eF_26⟩ : ∃ z : Nat → Nat → Int32, z = upI (gI S_17) a_22 0 r_23 := ⟨_, rfl⟩
  have hp := hp F_26 eF_26
  refine sx_iast (pc := 49) B hH hk_24 hn_25 dX3_init_49 (fun H locs hH => ?_)
  have hH : Hp G (FA S s.heap.size) s.heap (wA S_17 F_26 (gJ S_17) R_21) H locs := by rw [eF_26]; exact hH
  refine lv_iconst (pc := 50) (v := 0) hx hb dX3_init_50 (by decide) ?_
  refine lv_istore (pc := 51) (lv' := [(7, .int 0), (0, .ref th), (1, .long p0), (3, .int p1), (4, .ref p2), (5, .int p3), (6, .int p4)]) hx hb dX3_init_51 hl (by decide) rfl (fun ls hl => ?_)
  obtain ⟨I_27, ⟨k0_27, h0_27⟩, hst_27⟩ := hp
  have kl_27 : ∀ (n_27 : Nat) (x7_28 : Int32) (F_29 : Nat → Nat → Int32) (H : Heap) (locs : List Loc) (ls : Array Slot) (cells slots : Nat), I_27 n_27 x7_28 F_29 → cells + (bc - 3) ≤ bc → slots + (bs - v_5.toNatClampNeg - 6) ≤ bs → Hp G (FA S s.heap.size) s.heap (wA S_17 F_29 (gJ S_17) R_21) H locs → lv_has ls 9 [(0, .ref th), (4, .ref p2), (5, .int p3), (6, .int p4), (7, .int x7_28)] → Wm G p l e { frames := 1, cells := bc, slots := bs, locals := 21 } s m args below meth c S QQ bc bs H locs cells slots (F0 m 53 ls []) := by
    intro n_27
    induction n_27 using Nat.strongRecOn with
    | ind n_27 ih_27 =>
      intro x7_28 F_29 H locs ls cells slots hq9 hcc_27 hss_27 hH hl
      have hp := hst_27 n_27 x7_28 F_29 hq9
      refine lv_iload (pc := 53) hx hb dX3_init_53 (lv_at hl 4 rfl) ?_
      refine lv_aload (pc := 55) hx hb dX3_init_55 (lv_at hl 1 rfl) ?_
      obtain ⟨hk_30, hp⟩ := hp
      refine sx_alen (pc := 57) B hH hk_30 (by decide) (by decide) dX3_init_57 ?_
      refine W.eq (g2 := F0 m 58 ls [.int (nI (ln S_17 p2)), .int x7_28]) rfl ?_
      refine lv_icmp_ge (pc := 58) (tgt := 91) hx hb dX3_init_58 (by decide) (fun cc_31 => ?_) (fun cc_31 => ?_)
      · have hp := hp.1 cc_31
        refine lv_aload (pc := 91) hx hb dX3_init_91 (lv_at hl 1 rfl) ?_
        refine sx_alen (pc := 93) B hH hk_30 (by decide) (by decide) dX3_init_93 ?_
        refine W.eq (g2 := F0 m 94 ls [.int (nI (ln S_17 p2))]) rfl ?_
        refine lv_iconst (pc := 94) (v := 1) hx hb dX3_init_94 (by decide) ?_
        refine lv_isub (pc := 95) hx hb dX3_init_95 ?_
        refine lv_topi (fun v_32 ev_32 => ?_)
        have hp := hp v_32 ev_32
        refine lv_istore (pc := 96) (lv' := [(7, .int v_32), (0, .ref th), (4, .ref p2), (5, .int p3), (6, .int p4)]) hx hb dX3_init_96 hl (by decide) rfl (fun ls hl => ?_)
        refine lv_iload (pc := 98) hx hb dX3_init_98 (lv_at hl 0 rfl) ?_
        refine lv_if_lt (pc := 100) (tgt := 169) hx hb dX3_init_100 (by decide) (fun cc_33 => ?_) (fun cc_33 => ?_)
        · have hp := hp.1 cc_33
          exact sx_vret (pc := 169) B hH hr hlk (by rw [← hQQ]; exact ⟨rfl, hp⟩) (show _ ≤ bc by omega) (show _ ≤ bs by omega) dX3_init_169
        · have hp := hp.2 cc_33
          refine lv_aload_n (pc := 103) hx hb dX3_init_103 rfl (lv_at hl 1 rfl) ?_
          refine sx_getR (pc := 104) (j := 3) B hH hk_20 coX3 rfl w_719 rfl dX3_init_104 ?_
          refine W.eq (g2 := F0 m 107 ls [va_rf (R_21 th 3)]) rfl ?_
          obtain ⟨a_34, ha_34, hp⟩ := hp
          refine sx_nonnull (x := a_34) ha_34 ?_
          refine lv_iconst (pc := 107) (v := 0) hx hb dX3_init_107 (by decide) ?_
          refine lv_aload (pc := 108) hx hb dX3_init_108 (lv_at hl 2 rfl) ?_
          refine lv_iload (pc := 110) hx hb dX3_init_110 (lv_at hl 0 rfl) ?_
          obtain ⟨hn_35, hp⟩ := hp
          refine sx_iald (pc := 112) B hH hk_30 hn_35 dX3_init_112 ?_
          refine W.eq (g2 := F0 m 113 ls [.int (F_29 p2 v_32.toNatClampNeg), .int 0, .ref a_34]) rfl ?_
          obtain ⟨hk_36, hp⟩ := hp
          obtain ⟨hn_37, hp⟩ := hp
          refine lv_topi (fun v_38 ev_38 => ?_)
          have hp := hp v_38 ev_38
          obtain ⟨F_39, eF_39⟩ : ∃ z : Nat → Nat → Int32, z = upI F_29 a_34 0 v_38 := ⟨_, rfl⟩
          have hp := hp F_39 eF_39
          refine sx_iast (pc := 113) B hH hk_36 hn_37 dX3_init_113 (fun H locs hH => ?_)
          have hH : Hp G (FA S s.heap.size) s.heap (wA S_17 F_39 (gJ S_17) R_21) H locs := by rw [eF_39]; exact hH
          refine lv_aload_n (pc := 114) hx hb dX3_init_114 rfl (lv_at hl 1 rfl) ?_
          refine sx_getR (pc := 115) (j := 3) B hH hk_20 coX3 rfl w_719 rfl dX3_init_115 ?_
          refine W.eq (g2 := F0 m 118 ls [va_rf (R_21 th 3)]) rfl ?_
          refine sx_nonnull (x := a_34) ha_34 ?_
          refine lv_iconst (pc := 118) (v := 1) hx hb dX3_init_118 (by decide) ?_
          refine lv_iload (pc := 119) hx hb dX3_init_119 (lv_at hl 3 rfl) ?_
          obtain ⟨hn_40, hp⟩ := hp
          obtain ⟨F_41, eF_41⟩ : ∃ z : Nat → Nat → Int32, z = upI F_39 a_34 1 p3 := ⟨_, rfl⟩
          have hp := hp F_41 eF_41
          refine sx_iast (pc := 121) B hH hk_36 hn_40 dX3_init_121 (fun H locs hH => ?_)
          have hH : Hp G (FA S s.heap.size) s.heap (wA S_17 F_41 (gJ S_17) R_21) H locs := by rw [eF_41]; exact hH
          refine lv_aload_n (pc := 122) hx hb dX3_init_122 rfl (lv_at hl 1 rfl) ?_
          refine sx_getR (pc := 123) (j := 3) B hH hk_20 coX3 rfl w_719 rfl dX3_init_123 ?_
          refine W.eq (g2 := F0 m 126 ls [va_rf (R_21 th 3)]) rfl ?_
          refine sx_nonnull (x := a_34) ha_34 ?_
          refine lv_iconst (pc := 126) (v := 2) hx hb dX3_init_126 (by decide) ?_
          refine lv_iload (pc := 127) hx hb dX3_init_127 (lv_at hl 4 rfl) ?_
          obtain ⟨hn_42, hp⟩ := hp
          obtain ⟨F_43, eF_43⟩ : ∃ z : Nat → Nat → Int32, z = upI F_41 a_34 2 p4 := ⟨_, rfl⟩
          have hp := hp F_43 eF_43
          refine sx_iast (pc := 129) B hH hk_36 hn_42 dX3_init_129 (fun H locs hH => ?_)
          have hH : Hp G (FA S s.heap.size) s.heap (wA S_17 F_43 (gJ S_17) R_21) H locs := by rw [eF_43]; exact hH
          refine lv_iconst (pc := 130) (v := 0) hx hb dX3_init_130 (by decide) ?_
          refine lv_istore (pc := 131) (lv' := [(8, .int 0), (7, .int v_32), (0, .ref th), (4, .ref p2), (5, .int p3), (6, .int p4)]) hx hb dX3_init_131 hl (by decide) rfl (fun ls hl => ?_)
          obtain ⟨I_44, ⟨k0_44, h0_44⟩, hst_44⟩ := hp
          have kl_44 : ∀ (n_44 : Nat) (x8_45 : Int32) (F_46 : Nat → Nat → Int32) (H : Heap) (locs : List Loc) (ls : Array Slot) (cells slots : Nat), I_44 n_44 x8_45 F_46 → cells + (bc - 3) ≤ bc → slots + (bs - v_5.toNatClampNeg - 6) ≤ bs → Hp G (FA S s.heap.size) s.heap (wA S_17 F_46 (gJ S_17) R_21) H locs → lv_has ls 9 [(0, .ref th), (7, .int v_32), (8, .int x8_45)] → Wm G p l e { frames := 1, cells := bc, slots := bs, locals := 21 } s m args below meth c S QQ bc bs H locs cells slots (F0 m 133 ls []) := by
            intro n_44
            induction n_44 using Nat.strongRecOn with
            | ind n_44 ih_44 =>
              intro x8_45 F_46 H locs ls cells slots hq9 hcc_44 hss_44 hH hl
              have hp := hst_44 n_44 x8_45 F_46 hq9
              refine lv_iload (pc := 133) hx hb dX3_init_133 (lv_at hl 2 rfl) ?_
              refine lv_iconst (pc := 135) (v := 3) hx hb dX3_init_135 (by decide) ?_
              refine lv_icmp_ge (pc := 136) (tgt := 169) hx hb dX3_init_136 (by decide) (fun cc_47 => ?_) (fun cc_47 => ?_)
              · have hp := hp.1 cc_47
                exact sx_vret (pc := 169) B hH hr hlk (by rw [← hQQ]; exact ⟨rfl, hp⟩) (show _ ≤ bc by omega) (show _ ≤ bs by omega) dX3_init_169
              · have hp := hp.2 cc_47
                refine lv_aload_n (pc := 139) hx hb dX3_init_139 rfl (lv_at hl 0 rfl) ?_
                refine sx_getR (pc := 140) (j := 4) B hH hk_20 coX3 rfl w_720 rfl dX3_init_140 ?_
                refine W.eq (g2 := F0 m 143 ls [va_rf (R_21 th 4)]) rfl ?_
                obtain ⟨a_48, ha_48, hp⟩ := hp
                refine sx_nonnull (x := a_48) ha_48 ?_
                refine lv_iload (pc := 143) hx hb dX3_init_143 (lv_at hl 2 rfl) ?_
                refine lv_aload_n (pc := 145) hx hb dX3_init_145 rfl (lv_at hl 0 rfl) ?_
                refine sx_getR (pc := 146) (j := 2) B hH hk_20 coX3 rfl w_716 rfl dX3_init_146 ?_
                refine W.eq (g2 := F0 m 149 ls [va_rf (R_21 th 2), .int x8_45, .ref a_48]) rfl ?_
                refine sx_nonnull (x := a_22) ha_22 ?_
                refine lv_iload (pc := 149) hx hb dX3_init_149 (lv_at hl 1 rfl) ?_
                obtain ⟨hn_49, hp⟩ := hp
                refine sx_iald (pc := 151) B hH hk_24 hn_49 dX3_init_151 ?_
                refine W.eq (g2 := F0 m 152 ls [.int (F_46 a_22 v_32.toNatClampNeg), .int x8_45, .ref a_48]) rfl ?_
                refine lv_aload_n (pc := 152) hx hb dX3_init_152 rfl (lv_at hl 0 rfl) ?_
                refine sx_getR (pc := 153) (j := 3) B hH hk_20 coX3 rfl w_719 rfl dX3_init_153 ?_
                refine W.eq (g2 := F0 m 156 ls [va_rf (R_21 th 3), .int (F_46 a_22 v_32.toNatClampNeg), .int x8_45, .ref a_48]) rfl ?_
                refine sx_nonnull (x := a_34) ha_34 ?_
                refine lv_iload (pc := 156) hx hb dX3_init_156 (lv_at hl 2 rfl) ?_
                obtain ⟨hn_50, hp⟩ := hp
                refine sx_iald (pc := 158) B hH hk_36 hn_50 dX3_init_158 ?_
                refine W.eq (g2 := F0 m 159 ls [.int (F_46 a_34 x8_45.toNatClampNeg), .int (F_46 a_22 v_32.toNatClampNeg), .int x8_45, .ref a_48]) rfl ?_
                refine sx_S (pc := 159) (As := [.int (F_46 a_22 v_32.toNatClampNeg), .int (F_46 a_34 x8_45.toNatClampNeg)]) (rest := [.int x8_45, .ref a_48]) B hH hl.1 (C_X4_moved G l (F_46 a_22 v_32.toNatClampNeg) (F_46 a_34 x8_45.toNatClampNeg) _ _ hp) mi_X4_moved w_710 w_709 rfl rfl ⟨Nat.le_of_ble_eq_true rfl, Nat.le_of_ble_eq_true rfl⟩ (Nat.le_of_ble_eq_true rfl) ⟨(show _ + 0 ≤ bc by omega), (show _ + 0 ≤ bs by omega)⟩ dX3_init_159 (fun v S1 H locs hq hH => ?_)
                obtain ⟨r_51, rfl, e9, hp⟩ := hq
                rw [e9] at hH
                refine W.eq (g2 := F0 m 162 ls [.int r_51, .int x8_45, .ref a_48]) rfl ?_
                obtain ⟨hk_52, hp⟩ := hp
                obtain ⟨hn_53, hp⟩ := hp
                obtain ⟨F_54, eF_54⟩ : ∃ z : Nat → Nat → Int32, z = upI F_46 a_48 x8_45.toNatClampNeg r_51 := ⟨_, rfl⟩
                have hp := hp F_54 eF_54
                refine sx_iast (pc := 162) B hH hk_52 hn_53 dX3_init_162 (fun H locs hH => ?_)
                have hH : Hp G (FA S s.heap.size) s.heap (wA S_17 F_54 (gJ S_17) R_21) H locs := by rw [eF_54]; exact hH
                obtain ⟨v_55, ev_55⟩ : ∃ y : Int32, y = x8_45 + 1 := ⟨_, rfl⟩
                have hp := hp v_55 ev_55
                refine lv_iinc (pc := 163) (v := v_55) (lv' := [(8, .int v_55), (0, .ref th), (7, .int v_32)]) hx hb dX3_init_163 hl (k := 2) rfl (by rw [ev_55]; rfl) (by decide) rfl (fun ls hl => ?_)
                refine lv_goto (pc := 166) (tgt := 133) hx hb dX3_init_166 (by decide) ?_
                obtain ⟨k9, hlt9, hp⟩ := hp
                exact ih_44 k9 hlt9 _ _ _ _ _ _ _ hp (show _ + (bc - 3) ≤ bc by omega) (show _ + (bs - v_5.toNatClampNeg - 6) ≤ bs by omega) hH (lv_sub hl [1, 2, 0] rfl)
          exact kl_44 k0_44 _ _ _ _ _ _ _ h0_44 (show _ + (bc - 3) ≤ bc by omega) (show _ + (bs - v_5.toNatClampNeg - 6) ≤ bs by omega) hH (lv_sub hl [2, 1, 0] rfl)
      · have hp := hp.2 cc_31
        refine lv_aload_n (pc := 61) hx hb dX3_init_61 rfl (lv_at hl 0 rfl) ?_
        refine sx_getR (pc := 62) (j := 2) B hH hk_20 coX3 rfl w_716 rfl dX3_init_62 ?_
        refine W.eq (g2 := F0 m 65 ls [va_rf (R_21 th 2)]) rfl ?_
        refine sx_nonnull (x := a_22) ha_22 ?_
        refine lv_iload (pc := 65) hx hb dX3_init_65 (lv_at hl 4 rfl) ?_
        refine lv_iconst (pc := 67) (v := 1) hx hb dX3_init_67 (by decide) ?_
        refine lv_iadd (pc := 68) hx hb dX3_init_68 ?_
        refine lv_aload_n (pc := 69) hx hb dX3_init_69 rfl (lv_at hl 0 rfl) ?_
        refine sx_getR (pc := 70) (j := 2) B hH hk_20 coX3 rfl w_716 rfl dX3_init_70 ?_
        refine W.eq (g2 := F0 m 73 ls [va_rf (R_21 th 2), .int (x7_28 + 1), .ref a_22]) rfl ?_
        refine sx_nonnull (x := a_22) ha_22 ?_
        refine lv_iload (pc := 73) hx hb dX3_init_73 (lv_at hl 4 rfl) ?_
        obtain ⟨hn_56, hp⟩ := hp
        refine sx_iald (pc := 75) B hH hk_24 hn_56 dX3_init_75 ?_
        refine W.eq (g2 := F0 m 76 ls [.int (F_29 a_22 x7_28.toNatClampNeg), .int (x7_28 + 1), .ref a_22]) rfl ?_
        refine lv_aload (pc := 76) hx hb dX3_init_76 (lv_at hl 1 rfl) ?_
        refine lv_iload (pc := 78) hx hb dX3_init_78 (lv_at hl 4 rfl) ?_
        obtain ⟨hn_57, hp⟩ := hp
        refine sx_iald (pc := 80) B hH hk_30 hn_57 dX3_init_80 ?_
        refine W.eq (g2 := F0 m 81 ls [.int (F_29 p2 x7_28.toNatClampNeg), .int (F_29 a_22 x7_28.toNatClampNeg), .int (x7_28 + 1), .ref a_22]) rfl ?_
        refine sx_S (pc := 81) (As := [.int (F_29 a_22 x7_28.toNatClampNeg), .int (F_29 p2 x7_28.toNatClampNeg)]) (rest := [.int (x7_28 + 1), .ref a_22]) B hH hl.1 (C_X4_moved G l (F_29 a_22 x7_28.toNatClampNeg) (F_29 p2 x7_28.toNatClampNeg) _ _ hp) mi_X4_moved w_710 w_709 rfl rfl ⟨Nat.le_of_ble_eq_true rfl, Nat.le_of_ble_eq_true rfl⟩ (Nat.le_of_ble_eq_true rfl) ⟨(show _ + 0 ≤ bc by omega), (show _ + 0 ≤ bs by omega)⟩ dX3_init_81 (fun v S1 H locs hq hH => ?_)
        obtain ⟨r_58, rfl, e9, hp⟩ := hq
        rw [e9] at hH
        refine W.eq (g2 := F0 m 84 ls [.int r_58, .int (x7_28 + 1), .ref a_22]) rfl ?_
        obtain ⟨hn_59, hp⟩ := hp
        obtain ⟨F_60, eF_60⟩ : ∃ z : Nat → Nat → Int32, z = upI F_29 a_22 ((x7_28 + 1).toNatClampNeg) r_58 := ⟨_, rfl⟩
        have hp := hp F_60 eF_60
        refine sx_iast (pc := 84) B hH hk_24 hn_59 dX3_init_84 (fun H locs hH => ?_)
        have hH : Hp G (FA S s.heap.size) s.heap (wA S_17 F_60 (gJ S_17) R_21) H locs := by rw [eF_60]; exact hH
        obtain ⟨v_61, ev_61⟩ : ∃ y : Int32, y = x7_28 + 1 := ⟨_, rfl⟩
        have hp := hp v_61 ev_61
        refine lv_iinc (pc := 85) (v := v_61) (lv' := [(7, .int v_61), (0, .ref th), (4, .ref p2), (5, .int p3), (6, .int p4)]) hx hb dX3_init_85 hl (k := 4) rfl (by rw [ev_61]; rfl) (by decide) rfl (fun ls hl => ?_)
        refine lv_goto (pc := 88) (tgt := 53) hx hb dX3_init_88 (by decide) ?_
        obtain ⟨k9, hlt9, hp⟩ := hp
        exact ih_27 k9 hlt9 _ _ _ _ _ _ _ hp (show _ + (bc - 3) ≤ bc by omega) (show _ + (bs - v_5.toNatClampNeg - 6) ≤ bs by omega) hH (lv_sub hl [1, 2, 3, 4, 0] rfl)
  exact kl_27 k0_27 _ _ _ _ _ _ _ h0_27 (show _ + (bc - 3) ≤ bc by omega) (show _ + (bs - v_5.toNatClampNeg - 6) ≤ bs by omega) hH (lv_sub hl [1, 4, 5, 6, 0] rfl)
theorem dX0_methodNamed_0 : decode cX0_methodNamed 0 = .ok (.iconst 0, 1) := by decide +kernel
theorem dX0_methodNamed_1 : decode cX0_methodNamed 1 = .ok (.istore_n 3, 1) := by decide +kernel
theorem dX0_methodNamed_2 : decode cX0_methodNamed 2 = .ok (.iload_n 3, 1) := by decide +kernel
theorem dX0_methodNamed_3 : decode cX0_methodNamed 3 = .ok (.aload_n 0, 1) := by decide +kernel
theorem dX0_methodNamed_4 : decode cX0_methodNamed 4 = .ok (.getfield 25, 3) := by decide +kernel
theorem dX0_methodNamed_7 : decode cX0_methodNamed 7 = .ok (.arraylength, 1) := by decide +kernel
theorem dX0_methodNamed_8 : decode cX0_methodNamed 8 = .ok (.if_icmp .ge 30, 3) := by decide +kernel
theorem dX0_methodNamed_11 : decode cX0_methodNamed 11 = .ok (.aload_n 0, 1) := by decide +kernel
theorem dX0_methodNamed_12 : decode cX0_methodNamed 12 = .ok (.getfield 25, 3) := by decide +kernel
theorem dX0_methodNamed_15 : decode cX0_methodNamed 15 = .ok (.iload_n 3, 1) := by decide +kernel
theorem dX0_methodNamed_16 : decode cX0_methodNamed 16 = .ok (.aaload, 1) := by decide +kernel
theorem dX0_methodNamed_17 : decode cX0_methodNamed 17 = .ok (.getfield 29, 3) := by decide +kernel
theorem dX0_methodNamed_20 : decode cX0_methodNamed 20 = .ok (.lload_n 1, 1) := by decide +kernel
theorem dX0_methodNamed_21 : decode cX0_methodNamed 21 = .ok (.lcmp, 1) := by decide +kernel
theorem dX0_methodNamed_22 : decode cX0_methodNamed 22 = .ok (.ifCond .ne 10, 3) := by decide +kernel
theorem dX0_methodNamed_25 : decode cX0_methodNamed 25 = .ok (.aload_n 0, 1) := by decide +kernel
theorem dX0_methodNamed_26 : decode cX0_methodNamed 26 = .ok (.getfield 25, 3) := by decide +kernel
theorem dX0_methodNamed_29 : decode cX0_methodNamed 29 = .ok (.iload_n 3, 1) := by decide +kernel
theorem dX0_methodNamed_30 : decode cX0_methodNamed 30 = .ok (.aaload, 1) := by decide +kernel
theorem dX0_methodNamed_31 : decode cX0_methodNamed 31 = .ok (.areturn, 1) := by decide +kernel
theorem dX0_methodNamed_32 : decode cX0_methodNamed 32 = .ok (.iinc 3 1, 3) := by decide +kernel
theorem dX0_methodNamed_35 : decode cX0_methodNamed 35 = .ok (.goto (-33), 3) := by decide +kernel
theorem dX0_methodNamed_38 : decode cX0_methodNamed 38 = .ok (.aconst_null, 1) := by decide +kernel
theorem dX0_methodNamed_39 : decode cX0_methodNamed 39 = .ok (.areturn, 1) := by decide +kernel
theorem mi_X0_methodNamed : MI yX0_methodNamed cX0_methodNamed 4 (some (FieldType.object "RingChamber$Method")) 1 := ⟨w_782, w_113, by decide +kernel, by decide +kernel, by decide +kernel⟩
set_option maxRecDepth 100000 in
set_option maxHeartbeats 4000000 in
theorem C_X0_methodNamed (G : GG) (l : Launch) (th : Nat) (p0 : Int64) (S : St) (Q : Option Nat → Prop) (hp : P_X0_methodNamed th p0 S Q) : Ctr G l yX0_methodNamed cX0_methodNamed 4 (some (FieldType.object "RingChamber$Method")) 0 0 0 0 [.ref th, .long p0] S (fun (v : Option Value) (S9 : St) => ∃ (r : Option Nat), v = some (va_rf r) ∧ S9 = S ∧ Q r ) := by
  generalize hQQ : (fun (v : Option Value) (S9 : St) => ∃ (r : Option Nat), v = some (va_rf r) ∧ S9 = S ∧ Q r ) = QQ
  unfold P_X0_methodNamed at hp
  refine Ctr.of (by decide) (Nat.le_of_ble_eq_true rfl) ?_
  intro p e s m args below meth c ls B hr hlk hin hl hH
  generalize hlocs0 : ([] : List Loc) = locs at hH ⊢
  have hx := B.1
  have hb := B.2.1
  have hl : lv_has ls 4 [(0, .ref th), (1, .long p0)] := hl
  obtain ⟨hk_th, hp⟩ := hp
  refine lv_iconst (pc := 0) (v := 0) hx hb dX0_methodNamed_0 (by decide) ?_
  refine lv_istore_n (pc := 1) (lv' := [(3, .int 0), (0, .ref th), (1, .long p0)]) hx hb dX0_methodNamed_1 rfl hl (by decide) rfl (fun ls hl => ?_)
  obtain ⟨I_1, ⟨k0_1, h0_1⟩, hst_1⟩ := hp
  have kl_1 : ∀ (n_1 : Nat) (x3_2 : Int32) (H : Heap) (locs : List Loc) (ls : Array Slot), I_1 n_1 x3_2 → Hp G (FA S s.heap.size) s.heap S H locs → lv_has ls 4 [(0, .ref th), (1, .long p0), (3, .int x3_2)] → Wm G p l e { frames := 0, cells := 0, slots := 0, locals := 0 } s m args below meth c S QQ 0 0 H locs 0 0 (F0 m 2 ls []) := by
    intro n_1
    induction n_1 using Nat.strongRecOn with
    | ind n_1 ih_1 =>
      intro x3_2 H locs ls hq9 hH hl
      have hp := hst_1 n_1 x3_2 hq9
      refine lv_iload_n (pc := 2) hx hb dX0_methodNamed_2 rfl (lv_at hl 2 rfl) ?_
      refine lv_aload_n (pc := 3) hx hb dX0_methodNamed_3 rfl (lv_at hl 0 rfl) ?_
      refine sx_getR (pc := 4) (j := 3) B hH hk_th coX0 rfl w_364 rfl dX0_methodNamed_4 ?_
      refine W.eq (g2 := F0 m 7 ls [va_rf (gR S th 3), .int x3_2]) rfl ?_
      obtain ⟨a_3, ha_3, hp⟩ := hp
      refine sx_nonnull (x := a_3) ha_3 ?_
      obtain ⟨hk_4, hp⟩ := hp
      refine sx_alen (pc := 7) B hH hk_4 (by decide) (by decide) dX0_methodNamed_7 ?_
      refine W.eq (g2 := F0 m 8 ls [.int (nI (ln S a_3)), .int x3_2]) rfl ?_
      refine lv_icmp_ge (pc := 8) (tgt := 38) hx hb dX0_methodNamed_8 (by decide) (fun cc_5 => ?_) (fun cc_5 => ?_)
      · have hp := hp.1 cc_5
        refine lv_null (pc := 38) hx hb dX0_methodNamed_38 ?_
        refine W.eq (g2 := F0 m 39 ls [va_rf none]) rfl ?_
        exact sx_aret (pc := 39) (r := none) B hH hr (by simp) hlk (by rw [← hQQ]; exact ⟨_, rfl, rfl, hp⟩) (Nat.le_of_ble_eq_true rfl) (Nat.le_of_ble_eq_true rfl) dX0_methodNamed_39
      · have hp := hp.2 cc_5
        refine lv_aload_n (pc := 11) hx hb dX0_methodNamed_11 rfl (lv_at hl 0 rfl) ?_
        refine sx_getR (pc := 12) (j := 3) B hH hk_th coX0 rfl w_364 rfl dX0_methodNamed_12 ?_
        refine W.eq (g2 := F0 m 15 ls [va_rf (gR S th 3)]) rfl ?_
        refine sx_nonnull (x := a_3) ha_3 ?_
        refine lv_iload_n (pc := 15) hx hb dX0_methodNamed_15 rfl (lv_at hl 2 rfl) ?_
        obtain ⟨hn_6, hp⟩ := hp
        refine sx_aald (pc := 16) B hH hk_4 (by decide) (by decide) hn_6 dX0_methodNamed_16 ?_
        refine W.eq (g2 := F0 m 17 ls [va_rf (gR S a_3 x3_2.toNatClampNeg)]) rfl ?_
        obtain ⟨a_7, ha_7, hp⟩ := hp
        refine sx_nonnull (x := a_7) ha_7 ?_
        obtain ⟨hk_8, hp⟩ := hp
        refine sx_getJ (pc := 17) (j := 0) B hH hk_8 coX3 rfl w_713 rfl dX0_methodNamed_17 ?_
        refine W.eq (g2 := F0 m 20 ls [.long (gJ S a_7 0)]) rfl ?_
        refine lv_lload_n (pc := 20) hx hb dX0_methodNamed_20 rfl (lv_at hl 1 rfl) ?_
        refine W.lcmp (pc := 21) hx hb dX0_methodNamed_21 ?_
        refine lv_if_ne (pc := 22) (tgt := 32) hx hb dX0_methodNamed_22 (by decide) (fun cc_9 => ?_) (fun cc_9 => ?_)
        · have hp := hp.1 cc_9
          obtain ⟨v_10, ev_10⟩ : ∃ y : Int32, y = x3_2 + 1 := ⟨_, rfl⟩
          have hp := hp v_10 ev_10
          refine lv_iinc (pc := 32) (v := v_10) (lv' := [(3, .int v_10), (0, .ref th), (1, .long p0)]) hx hb dX0_methodNamed_32 hl (k := 2) rfl (by rw [ev_10]; rfl) (by decide) rfl (fun ls hl => ?_)
          refine lv_goto (pc := 35) (tgt := 2) hx hb dX0_methodNamed_35 (by decide) ?_
          obtain ⟨k9, hlt9, hp⟩ := hp
          exact ih_1 k9 hlt9 _ _ _ _ hp hH (lv_sub hl [1, 2, 0] rfl)
        · have hp := hp.2 cc_9
          refine lv_aload_n (pc := 25) hx hb dX0_methodNamed_25 rfl (lv_at hl 0 rfl) ?_
          refine sx_getR (pc := 26) (j := 3) B hH hk_th coX0 rfl w_364 rfl dX0_methodNamed_26 ?_
          refine W.eq (g2 := F0 m 29 ls [va_rf (gR S th 3)]) rfl ?_
          refine sx_nonnull (x := a_3) ha_3 ?_
          refine lv_iload_n (pc := 29) hx hb dX0_methodNamed_29 rfl (lv_at hl 2 rfl) ?_
          refine sx_aald (pc := 30) B hH hk_4 (by decide) (by decide) hn_6 dX0_methodNamed_30 ?_
          refine W.eq (g2 := F0 m 31 ls [va_rf (gR S a_3 x3_2.toNatClampNeg)]) rfl ?_
          exact sx_aret (pc := 31) (r := gR S a_3 x3_2.toNatClampNeg) B hH hr (by simp) hlk (by rw [← hQQ]; exact ⟨_, rfl, rfl, hp⟩) (Nat.le_of_ble_eq_true rfl) (Nat.le_of_ble_eq_true rfl) dX0_methodNamed_31
  exact kl_1 k0_1 _ _ _ _ h0_1 hH (lv_sub hl [1, 2, 0] rfl)
theorem dX3_length_0 : decode cX3_length 0 = .ok (.aload_n 0, 1) := by decide +kernel
theorem dX3_length_1 : decode cX3_length 1 = .ok (.getfield 15, 3) := by decide +kernel
theorem dX3_length_4 : decode cX3_length 4 = .ok (.arraylength, 1) := by decide +kernel
theorem dX3_length_5 : decode cX3_length 5 = .ok (.ireturn, 1) := by decide +kernel
theorem mi_X3_length : MI yX3_length cX3_length 1 (some FieldType.int) 0 := ⟨w_786, w_123, by decide +kernel, by decide +kernel, by decide +kernel⟩
set_option maxRecDepth 100000 in
set_option maxHeartbeats 4000000 in
theorem C_X3_length (G : GG) (l : Launch) (th : Nat) (S : St) (Q : Int32 → Prop) (hp : P_X3_length th S Q) : Ctr G l yX3_length cX3_length 1 (some FieldType.int) 0 0 0 0 [.ref th] S (fun (v : Option Value) (S9 : St) => ∃ (r : Int32), v = some (.int r) ∧ S9 = S ∧ Q r ) := by
  generalize hQQ : (fun (v : Option Value) (S9 : St) => ∃ (r : Int32), v = some (.int r) ∧ S9 = S ∧ Q r ) = QQ
  unfold P_X3_length at hp
  refine Ctr.of (by decide) (Nat.le_of_ble_eq_true rfl) ?_
  intro p e s m args below meth c ls B hr hlk hin hl hH
  generalize hlocs0 : ([] : List Loc) = locs at hH ⊢
  have hx := B.1
  have hb := B.2.1
  have hl : lv_has ls 1 [(0, .ref th)] := hl
  obtain ⟨hk_th, hp⟩ := hp
  refine lv_aload_n (pc := 0) hx hb dX3_length_0 rfl (lv_at hl 0 rfl) ?_
  refine sx_getR (pc := 1) (j := 1) B hH hk_th coX3 rfl w_714 rfl dX3_length_1 ?_
  refine W.eq (g2 := F0 m 4 ls [va_rf (gR S th 1)]) rfl ?_
  obtain ⟨a_1, ha_1, hp⟩ := hp
  refine sx_nonnull (x := a_1) ha_1 ?_
  obtain ⟨hk_2, hp⟩ := hp
  refine sx_alen (pc := 4) B hH hk_2 (by decide) (by decide) dX3_length_4 ?_
  refine W.eq (g2 := F0 m 5 ls [.int (nI (ln S a_1))]) rfl ?_
  exact sx_iret (pc := 5) B hH hr hlk (by rw [← hQQ]; exact ⟨_, rfl, rfl, hp⟩) (Nat.le_of_ble_eq_true rfl) (Nat.le_of_ble_eq_true rfl) dX3_length_5
theorem dX3_moveAt_0 : decode cX3_moveAt 0 = .ok (.iload_n 2, 1) := by decide +kernel
theorem dX3_moveAt_1 : decode cX3_moveAt 1 = .ok (.aload_n 0, 1) := by decide +kernel
theorem dX3_moveAt_2 : decode cX3_moveAt 2 = .ok (.getfield 15, 3) := by decide +kernel
theorem dX3_moveAt_5 : decode cX3_moveAt 5 = .ok (.arraylength, 1) := by decide +kernel
theorem dX3_moveAt_6 : decode cX3_moveAt 6 = .ok (.iconst 1, 1) := by decide +kernel
theorem dX3_moveAt_7 : decode cX3_moveAt 7 = .ok (.isub, 1) := by decide +kernel
theorem dX3_moveAt_8 : decode cX3_moveAt 8 = .ok (.if_icmp .ne 12, 3) := by decide +kernel
theorem dX3_moveAt_11 : decode cX3_moveAt 11 = .ok (.aload_n 0, 1) := by decide +kernel
theorem dX3_moveAt_12 : decode cX3_moveAt 12 = .ok (.getfield 22, 3) := by decide +kernel
theorem dX3_moveAt_15 : decode cX3_moveAt 15 = .ok (.iload_n 1, 1) := by decide +kernel
theorem dX3_moveAt_16 : decode cX3_moveAt 16 = .ok (.iaload, 1) := by decide +kernel
theorem dX3_moveAt_17 : decode cX3_moveAt 17 = .ok (.goto 9, 3) := by decide +kernel
theorem dX3_moveAt_20 : decode cX3_moveAt 20 = .ok (.aload_n 0, 1) := by decide +kernel
theorem dX3_moveAt_21 : decode cX3_moveAt 21 = .ok (.getfield 15, 3) := by decide +kernel
theorem dX3_moveAt_24 : decode cX3_moveAt 24 = .ok (.iload_n 2, 1) := by decide +kernel
theorem dX3_moveAt_25 : decode cX3_moveAt 25 = .ok (.iaload, 1) := by decide +kernel
theorem dX3_moveAt_26 : decode cX3_moveAt 26 = .ok (.ireturn, 1) := by decide +kernel
theorem mi_X3_moveAt : MI yX3_moveAt cX3_moveAt 3 (some FieldType.int) 2 := ⟨w_811, w_123, by decide +kernel, by decide +kernel, by decide +kernel⟩
set_option maxRecDepth 100000 in
set_option maxHeartbeats 4000000 in
theorem C_X3_moveAt (G : GG) (l : Launch) (th : Nat) (p0 : Int32) (p1 : Int32) (S : St) (Q : Int32 → Prop) (hp : P_X3_moveAt th p0 p1 S Q) : Ctr G l yX3_moveAt cX3_moveAt 3 (some FieldType.int) 0 0 0 0 [.ref th, .int p0, .int p1] S (fun (v : Option Value) (S9 : St) => ∃ (r : Int32), v = some (.int r) ∧ S9 = S ∧ Q r ) := by
  generalize hQQ : (fun (v : Option Value) (S9 : St) => ∃ (r : Int32), v = some (.int r) ∧ S9 = S ∧ Q r ) = QQ
  unfold P_X3_moveAt at hp
  refine Ctr.of (by decide) (Nat.le_of_ble_eq_true rfl) ?_
  intro p e s m args below meth c ls B hr hlk hin hl hH
  generalize hlocs0 : ([] : List Loc) = locs at hH ⊢
  have hx := B.1
  have hb := B.2.1
  have hl : lv_has ls 3 [(0, .ref th), (1, .int p0), (2, .int p1)] := hl
  obtain ⟨hk_th, hp⟩ := hp
  refine lv_iload_n (pc := 0) hx hb dX3_moveAt_0 rfl (lv_at hl 2 rfl) ?_
  refine lv_aload_n (pc := 1) hx hb dX3_moveAt_1 rfl (lv_at hl 0 rfl) ?_
  refine sx_getR (pc := 2) (j := 1) B hH hk_th coX3 rfl w_714 rfl dX3_moveAt_2 ?_
  refine W.eq (g2 := F0 m 5 ls [va_rf (gR S th 1), .int p1]) rfl ?_
  obtain ⟨a_1, ha_1, hp⟩ := hp
  refine sx_nonnull (x := a_1) ha_1 ?_
  obtain ⟨hk_2, hp⟩ := hp
  refine sx_alen (pc := 5) B hH hk_2 (by decide) (by decide) dX3_moveAt_5 ?_
  refine W.eq (g2 := F0 m 6 ls [.int (nI (ln S a_1)), .int p1]) rfl ?_
  refine lv_iconst (pc := 6) (v := 1) hx hb dX3_moveAt_6 (by decide) ?_
  refine lv_isub (pc := 7) hx hb dX3_moveAt_7 ?_
  refine lv_icmp_ne (pc := 8) (tgt := 20) hx hb dX3_moveAt_8 (by decide) (fun cc_3 => ?_) (fun cc_3 => ?_)
  · have hp := hp.1 cc_3
    refine lv_aload_n (pc := 20) hx hb dX3_moveAt_20 rfl (lv_at hl 0 rfl) ?_
    refine sx_getR (pc := 21) (j := 1) B hH hk_th coX3 rfl w_714 rfl dX3_moveAt_21 ?_
    refine W.eq (g2 := F0 m 24 ls [va_rf (gR S th 1)]) rfl ?_
    refine sx_nonnull (x := a_1) ha_1 ?_
    refine lv_iload_n (pc := 24) hx hb dX3_moveAt_24 rfl (lv_at hl 2 rfl) ?_
    obtain ⟨hn_4, hp⟩ := hp
    refine sx_iald (pc := 25) B hH hk_2 hn_4 dX3_moveAt_25 ?_
    refine W.eq (g2 := F0 m 26 ls [.int (gI S a_1 p1.toNatClampNeg)]) rfl ?_
    exact sx_iret (pc := 26) B hH hr hlk (by rw [← hQQ]; exact ⟨_, rfl, rfl, hp⟩) (Nat.le_of_ble_eq_true rfl) (Nat.le_of_ble_eq_true rfl) dX3_moveAt_26
  · have hp := hp.2 cc_3
    refine lv_aload_n (pc := 11) hx hb dX3_moveAt_11 rfl (lv_at hl 0 rfl) ?_
    refine sx_getR (pc := 12) (j := 3) B hH hk_th coX3 rfl w_719 rfl dX3_moveAt_12 ?_
    refine W.eq (g2 := F0 m 15 ls [va_rf (gR S th 3)]) rfl ?_
    obtain ⟨a_5, ha_5, hp⟩ := hp
    refine sx_nonnull (x := a_5) ha_5 ?_
    refine lv_iload_n (pc := 15) hx hb dX3_moveAt_15 rfl (lv_at hl 1 rfl) ?_
    obtain ⟨hk_6, hp⟩ := hp
    obtain ⟨hn_7, hp⟩ := hp
    refine sx_iald (pc := 16) B hH hk_6 hn_7 dX3_moveAt_16 ?_
    refine W.eq (g2 := F0 m 17 ls [.int (gI S a_5 p0.toNatClampNeg)]) rfl ?_
    refine lv_goto (pc := 17) (tgt := 26) hx hb dX3_moveAt_17 (by decide) ?_
    exact sx_iret (pc := 26) B hH hr hlk (by rw [← hQQ]; exact ⟨_, rfl, rfl, hp⟩) (Nat.le_of_ble_eq_true rfl) (Nat.le_of_ble_eq_true rfl) dX3_moveAt_26
theorem dX8_init_0 : decode cX8_init 0 = .ok (.aload_n 0, 1) := by decide +kernel
theorem dX8_init_1 : decode cX8_init 1 = .ok (.invokespecial 3, 3) := by decide +kernel
theorem dX8_init_4 : decode cX8_init 4 = .ok (.aload_n 0, 1) := by decide +kernel
theorem dX8_init_5 : decode cX8_init 5 = .ok (.iload_n 1, 1) := by decide +kernel
theorem dX8_init_6 : decode cX8_init 6 = .ok (.putfield 9, 3) := by decide +kernel
theorem dX8_init_9 : decode cX8_init 9 = .ok (.aload_n 0, 1) := by decide +kernel
theorem dX8_init_10 : decode cX8_init 10 = .ok (.iload_n 2, 1) := by decide +kernel
theorem dX8_init_11 : decode cX8_init 11 = .ok (.putfield 15, 3) := by decide +kernel
theorem dX8_init_14 : decode cX8_init 14 = .ok (.aload_n 0, 1) := by decide +kernel
theorem dX8_init_15 : decode cX8_init 15 = .ok (.aload_n 3, 1) := by decide +kernel
theorem dX8_init_16 : decode cX8_init 16 = .ok (.putfield 18, 3) := by decide +kernel
theorem dX8_init_19 : decode cX8_init 19 = .ok (.aload_n 0, 1) := by decide +kernel
theorem dX8_init_20 : decode cX8_init 20 = .ok (.aload_n 3, 1) := by decide +kernel
theorem dX8_init_21 : decode cX8_init 21 = .ok (.arraylength, 1) := by decide +kernel
theorem dX8_init_22 : decode cX8_init 22 = .ok (.iconst 1, 1) := by decide +kernel
theorem dX8_init_23 : decode cX8_init 23 = .ok (.iadd, 1) := by decide +kernel
theorem dX8_init_24 : decode cX8_init 24 = .ok (.newarray .int, 2) := by decide +kernel
theorem dX8_init_26 : decode cX8_init 26 = .ok (.putfield 22, 3) := by decide +kernel
theorem dX8_init_29 : decode cX8_init 29 = .ok (.aload_n 0, 1) := by decide +kernel
theorem dX8_init_30 : decode cX8_init 30 = .ok (.getfield 22, 3) := by decide +kernel
theorem dX8_init_33 : decode cX8_init 33 = .ok (.iconst 0, 1) := by decide +kernel
theorem dX8_init_34 : decode cX8_init 34 = .ok (.iload_n 1, 1) := by decide +kernel
theorem dX8_init_35 : decode cX8_init 35 = .ok (.invokestatic 25, 3) := by decide +kernel
theorem dX8_init_38 : decode cX8_init 38 = .ok (.iastore, 1) := by decide +kernel
theorem dX8_init_39 : decode cX8_init 39 = .ok (.iconst 0, 1) := by decide +kernel
theorem dX8_init_40 : decode cX8_init 40 = .ok (.istore 4, 2) := by decide +kernel
theorem dX8_init_42 : decode cX8_init 42 = .ok (.iload 4, 2) := by decide +kernel
theorem dX8_init_44 : decode cX8_init 44 = .ok (.aload_n 3, 1) := by decide +kernel
theorem dX8_init_45 : decode cX8_init 45 = .ok (.arraylength, 1) := by decide +kernel
theorem dX8_init_46 : decode cX8_init 46 = .ok (.if_icmp .ge 32, 3) := by decide +kernel
theorem dX8_init_49 : decode cX8_init 49 = .ok (.aload_n 0, 1) := by decide +kernel
theorem dX8_init_50 : decode cX8_init 50 = .ok (.getfield 22, 3) := by decide +kernel
theorem dX8_init_53 : decode cX8_init 53 = .ok (.iload 4, 2) := by decide +kernel
theorem dX8_init_55 : decode cX8_init 55 = .ok (.iconst 1, 1) := by decide +kernel
theorem dX8_init_56 : decode cX8_init 56 = .ok (.iadd, 1) := by decide +kernel
theorem dX8_init_57 : decode cX8_init 57 = .ok (.aload_n 0, 1) := by decide +kernel
theorem dX8_init_58 : decode cX8_init 58 = .ok (.getfield 22, 3) := by decide +kernel
theorem dX8_init_61 : decode cX8_init 61 = .ok (.iload 4, 2) := by decide +kernel
theorem dX8_init_63 : decode cX8_init 63 = .ok (.iaload, 1) := by decide +kernel
theorem dX8_init_64 : decode cX8_init 64 = .ok (.aload_n 3, 1) := by decide +kernel
theorem dX8_init_65 : decode cX8_init 65 = .ok (.iload 4, 2) := by decide +kernel
theorem dX8_init_67 : decode cX8_init 67 = .ok (.iaload, 1) := by decide +kernel
theorem dX8_init_68 : decode cX8_init 68 = .ok (.invokestatic 31, 3) := by decide +kernel
theorem dX8_init_71 : decode cX8_init 71 = .ok (.iastore, 1) := by decide +kernel
theorem dX8_init_72 : decode cX8_init 72 = .ok (.iinc 4 1, 3) := by decide +kernel
theorem dX8_init_75 : decode cX8_init 75 = .ok (.goto (-33), 3) := by decide +kernel
theorem dX8_init_78 : decode cX8_init 78 = .ok (.return_, 1) := by decide +kernel
theorem mi_X8_init : MI yX8_init cX8_init 5 (none : Option Jvm.ClassFile.FieldType) 3 := ⟨w_817, w_124, by decide +kernel, by decide +kernel, by decide +kernel⟩
set_option maxRecDepth 100000 in
set_option maxHeartbeats 4000000 in
theorem C_X8_init (G : GG) (l : Launch) (th : Nat) (p0 : Int32) (p1 : Int32) (p2 : Nat) (S : St) (bc bs : Nat) (Q : St → Prop) (hp : P_X8_init th p0 p1 p2 S bc bs Q) : Ctr G l yX8_init cX8_init 5 (none : Option Jvm.ClassFile.FieldType) 1 21 bc bs [.ref th, .int p0, .int p1, .ref p2] S (fun (v : Option Value) (S9 : St) => v = none ∧ Q S9) := by
  generalize hQQ : (fun (v : Option Value) (S9 : St) => v = none ∧ Q S9) = QQ
  unfold P_X8_init at hp
  refine Ctr.of (by decide) (Nat.le_of_ble_eq_true rfl) ?_
  intro p e s m args below meth c ls B hr hlk hin hl hH
  generalize hlocs0 : ([] : List Loc) = locs at hH ⊢
  have hx := B.1
  have hb := B.2.1
  have hl : lv_has ls 5 [(0, .ref th), (1, .int p0), (2, .int p1), (3, .ref p2)] := hl
  obtain ⟨hk_th, hp⟩ := hp
  refine lv_aload_n (pc := 0) hx hb dX8_init_0 rfl (lv_at hl 0 rfl) ?_
  refine sx_objInit (pc := 1) (rest := []) B hl.1 w_818 w_131 w_obj (Nat.le_of_ble_eq_true rfl) (Nat.le_of_ble_eq_true rfl) dX8_init_1 ?_
  refine W.eq (g2 := F0 m 4 ls []) rfl ?_
  refine lv_aload_n (pc := 4) hx hb dX8_init_4 rfl (lv_at hl 0 rfl) ?_
  refine lv_iload_n (pc := 5) hx hb dX8_init_5 rfl (lv_at hl 1 rfl) ?_
  obtain ⟨F_1, eF_1⟩ : ∃ z : Nat → Nat → Int32, z = upI (gI S) th 0 p0 := ⟨_, rfl⟩
  have hp := hp F_1 eF_1
  refine sx_putI (pc := 6) (j := 0) B hH hk_th coX8 rfl w_821 rfl (Or.inr ⟨rfl, hin, rfl⟩) rfl dX8_init_6 (fun H locs hH => ?_)
  have hH : Hp G (FA S s.heap.size) s.heap (wI S F_1) H locs := by rw [eF_1]; exact hH
  refine lv_aload_n (pc := 9) hx hb dX8_init_9 rfl (lv_at hl 0 rfl) ?_
  refine lv_iload_n (pc := 10) hx hb dX8_init_10 rfl (lv_at hl 2 rfl) ?_
  obtain ⟨F_2, eF_2⟩ : ∃ z : Nat → Nat → Int32, z = upI F_1 th 1 p1 := ⟨_, rfl⟩
  have hp := hp F_2 eF_2
  refine sx_putI (pc := 11) (j := 1) B hH hk_th coX8 rfl w_822 rfl (Or.inr ⟨rfl, hin, rfl⟩) rfl dX8_init_11 (fun H locs hH => ?_)
  have hH : Hp G (FA S s.heap.size) s.heap (wI S F_2) H locs := by rw [eF_2]; exact hH
  refine lv_aload_n (pc := 14) hx hb dX8_init_14 rfl (lv_at hl 0 rfl) ?_
  refine lv_aload_n (pc := 15) hx hb dX8_init_15 rfl (lv_at hl 3 rfl) ?_
  obtain ⟨R_3, eR_3⟩ : ∃ z : Nat → Nat → Option Nat, z = upR (gR S) th 2 (some p2) := ⟨_, rfl⟩
  have hp := hp R_3 eR_3
  refine sx_putR (pc := 16) (j := 2) (x := (some p2)) B hH hk_th coX8 rfl w_824 rfl (Or.inr ⟨rfl, hin, rfl⟩) rfl dX8_init_16 (fun H locs hH => ?_)
  have hH : Hp G (FA S s.heap.size) s.heap (wA S F_2 (gJ S) R_3) H locs := by rw [eR_3]; exact hH
  refine lv_aload_n (pc := 19) hx hb dX8_init_19 rfl (lv_at hl 0 rfl) ?_
  refine lv_aload_n (pc := 20) hx hb dX8_init_20 rfl (lv_at hl 3 rfl) ?_
  obtain ⟨hk_4, hp⟩ := hp
  refine sx_alen (pc := 21) B hH hk_4 (by decide) (by decide) dX8_init_21 ?_
  refine W.eq (g2 := F0 m 22 ls [.int (nI (ln S p2)), .ref th]) rfl ?_
  refine lv_iconst (pc := 22) (v := 1) hx hb dX8_init_22 (by decide) ?_
  refine lv_iadd (pc := 23) hx hb dX8_init_23 ?_
  refine lv_topi (fun v_6 ev_6 => ?_)
  have hp := hp v_6 ev_6
  obtain ⟨hc_7, hp⟩ := hp
  obtain ⟨hc_8, hp⟩ := hp
  obtain ⟨hc_9, hp⟩ := hp
  obtain ⟨hc_10, hp⟩ := hp
  refine sx_newi (pc := 24) (S := (wA S F_2 (gJ S) R_3)) B hH w_294 rfl hc_7 hc_8 (show _ + 1 ≤ bc by omega) (show _ + v_6.toNatClampNeg ≤ bs by first | omega | exact (by omega : _ + v_6.toNatClampNeg ≤ bs)) dX8_init_24 (fun q_5 H hq_5 hH => ?_)
  obtain ⟨S_5, eS_5⟩ : ∃ z : St, z = alo (wA S F_2 (gJ S) R_3) q_5 21 v_6.toNatClampNeg := ⟨_, rfl⟩
  have hp := hp q_5 hq_5 S_5 eS_5
  have hH : Hp G (FA S s.heap.size) s.heap S_5 H locs := by rw [eS_5]; exact hH
  have hk_5 : kd S_5 q_5 = 21 := by rw [eS_5]; exact kd_alo
  refine W.eq (g2 := F0 m 26 ls [.ref q_5, .ref th]) rfl ?_
  obtain ⟨hk_11, hp⟩ := hp
  obtain ⟨R_12, eR_12⟩ : ∃ z : Nat → Nat → Option Nat, z = upR (gR S_5) th 3 (some q_5) := ⟨_, rfl⟩
  have hp := hp R_12 eR_12
  refine sx_putR (pc := 26) (j := 3) (x := (some q_5)) B hH hk_11 coX8 rfl w_826 rfl (Or.inr ⟨rfl, hin, rfl⟩) rfl dX8_init_26 (fun H locs hH => ?_)
  have hH : Hp G (FA S s.heap.size) s.heap (wA S_5 (gI S_5) (gJ S_5) R_12) H locs := by rw [eR_12]; exact hH
  refine lv_aload_n (pc := 29) hx hb dX8_init_29 rfl (lv_at hl 0 rfl) ?_
  refine sx_getR (pc := 30) (j := 3) B hH hk_11 coX8 rfl w_826 rfl dX8_init_30 ?_
  refine W.eq (g2 := F0 m 33 ls [va_rf (R_12 th 3)]) rfl ?_
  obtain ⟨a_13, ha_13, hp⟩ := hp
  refine sx_nonnull (x := a_13) ha_13 ?_
  refine lv_iconst (pc := 33) (v := 0) hx hb dX8_init_33 (by decide) ?_
  refine lv_iload_n (pc := 34) hx hb dX8_init_34 rfl (lv_at hl 1 rfl) ?_
  refine sx_S (pc := 35) (As := [.int p0]) (rest := [.int 0, .ref a_13]) B hH hl.1 (C_X4_roundsOf G l p0 _ _ hp) mi_X4_roundsOf w_706 w_819 rfl rfl ⟨Nat.le_of_ble_eq_true rfl, Nat.le_of_ble_eq_true rfl⟩ (Nat.le_of_ble_eq_true rfl) ⟨(show _ + 0 ≤ bc by omega), (show _ + 0 ≤ bs by omega)⟩ dX8_init_35 (fun v S1 H locs hq hH => ?_)
  obtain ⟨r_14, rfl, e9, hp⟩ := hq
  rw [e9] at hH
  refine W.eq (g2 := F0 m 38 ls [.int r_14, .int 0, .ref a_13]) rfl ?_
  obtain ⟨hk_15, hp⟩ := hp
  obtain ⟨hn_16, hp⟩ := hp
  obtain ⟨F_17, eF_17⟩ : ∃ z : Nat → Nat → Int32, z = upI (gI S_5) a_13 0 r_14 := ⟨_, rfl⟩
  have hp := hp F_17 eF_17
  refine sx_iast (pc := 38) B hH hk_15 hn_16 dX8_init_38 (fun H locs hH => ?_)
  have hH : Hp G (FA S s.heap.size) s.heap (wA S_5 F_17 (gJ S_5) R_12) H locs := by rw [eF_17]; exact hH
  refine lv_iconst (pc := 39) (v := 0) hx hb dX8_init_39 (by decide) ?_
  refine lv_istore (pc := 40) (lv' := [(4, .int 0), (0, .ref th), (1, .int p0), (2, .int p1), (3, .ref p2)]) hx hb dX8_init_40 hl (by decide) rfl (fun ls hl => ?_)
  obtain ⟨I_18, ⟨k0_18, h0_18⟩, hst_18⟩ := hp
  have kl_18 : ∀ (n_18 : Nat) (x4_19 : Int32) (F_20 : Nat → Nat → Int32) (H : Heap) (locs : List Loc) (ls : Array Slot) (cells slots : Nat), I_18 n_18 x4_19 F_20 → cells + (bc - 1) ≤ bc → slots + (bs - v_6.toNatClampNeg) ≤ bs → Hp G (FA S s.heap.size) s.heap (wA S_5 F_20 (gJ S_5) R_12) H locs → lv_has ls 5 [(0, .ref th), (3, .ref p2), (4, .int x4_19)] → Wm G p l e { frames := 1, cells := bc, slots := bs, locals := 21 } s m args below meth c S QQ bc bs H locs cells slots (F0 m 42 ls []) := by
    intro n_18
    induction n_18 using Nat.strongRecOn with
    | ind n_18 ih_18 =>
      intro x4_19 F_20 H locs ls cells slots hq9 hcc_18 hss_18 hH hl
      have hp := hst_18 n_18 x4_19 F_20 hq9
      refine lv_iload (pc := 42) hx hb dX8_init_42 (lv_at hl 2 rfl) ?_
      refine lv_aload_n (pc := 44) hx hb dX8_init_44 rfl (lv_at hl 1 rfl) ?_
      obtain ⟨hk_21, hp⟩ := hp
      refine sx_alen (pc := 45) B hH hk_21 (by decide) (by decide) dX8_init_45 ?_
      refine W.eq (g2 := F0 m 46 ls [.int (nI (ln S_5 p2)), .int x4_19]) rfl ?_
      refine lv_icmp_ge (pc := 46) (tgt := 78) hx hb dX8_init_46 (by decide) (fun cc_22 => ?_) (fun cc_22 => ?_)
      · have hp := hp.1 cc_22
        exact sx_vret (pc := 78) B hH hr hlk (by rw [← hQQ]; exact ⟨rfl, hp⟩) (show _ ≤ bc by omega) (show _ ≤ bs by omega) dX8_init_78
      · have hp := hp.2 cc_22
        refine lv_aload_n (pc := 49) hx hb dX8_init_49 rfl (lv_at hl 0 rfl) ?_
        refine sx_getR (pc := 50) (j := 3) B hH hk_11 coX8 rfl w_826 rfl dX8_init_50 ?_
        refine W.eq (g2 := F0 m 53 ls [va_rf (R_12 th 3)]) rfl ?_
        refine sx_nonnull (x := a_13) ha_13 ?_
        refine lv_iload (pc := 53) hx hb dX8_init_53 (lv_at hl 2 rfl) ?_
        refine lv_iconst (pc := 55) (v := 1) hx hb dX8_init_55 (by decide) ?_
        refine lv_iadd (pc := 56) hx hb dX8_init_56 ?_
        refine lv_aload_n (pc := 57) hx hb dX8_init_57 rfl (lv_at hl 0 rfl) ?_
        refine sx_getR (pc := 58) (j := 3) B hH hk_11 coX8 rfl w_826 rfl dX8_init_58 ?_
        refine W.eq (g2 := F0 m 61 ls [va_rf (R_12 th 3), .int (x4_19 + 1), .ref a_13]) rfl ?_
        refine sx_nonnull (x := a_13) ha_13 ?_
        refine lv_iload (pc := 61) hx hb dX8_init_61 (lv_at hl 2 rfl) ?_
        obtain ⟨hn_23, hp⟩ := hp
        refine sx_iald (pc := 63) B hH hk_15 hn_23 dX8_init_63 ?_
        refine W.eq (g2 := F0 m 64 ls [.int (F_20 a_13 x4_19.toNatClampNeg), .int (x4_19 + 1), .ref a_13]) rfl ?_
        refine lv_aload_n (pc := 64) hx hb dX8_init_64 rfl (lv_at hl 1 rfl) ?_
        refine lv_iload (pc := 65) hx hb dX8_init_65 (lv_at hl 2 rfl) ?_
        obtain ⟨hn_24, hp⟩ := hp
        refine sx_iald (pc := 67) B hH hk_21 hn_24 dX8_init_67 ?_
        refine W.eq (g2 := F0 m 68 ls [.int (F_20 p2 x4_19.toNatClampNeg), .int (F_20 a_13 x4_19.toNatClampNeg), .int (x4_19 + 1), .ref a_13]) rfl ?_
        refine sx_S (pc := 68) (As := [.int (F_20 a_13 x4_19.toNatClampNeg), .int (F_20 p2 x4_19.toNatClampNeg)]) (rest := [.int (x4_19 + 1), .ref a_13]) B hH hl.1 (C_X4_moved G l (F_20 a_13 x4_19.toNatClampNeg) (F_20 p2 x4_19.toNatClampNeg) _ _ hp) mi_X4_moved w_710 w_820 rfl rfl ⟨Nat.le_of_ble_eq_true rfl, Nat.le_of_ble_eq_true rfl⟩ (Nat.le_of_ble_eq_true rfl) ⟨(show _ + 0 ≤ bc by omega), (show _ + 0 ≤ bs by omega)⟩ dX8_init_68 (fun v S1 H locs hq hH => ?_)
        obtain ⟨r_25, rfl, e9, hp⟩ := hq
        rw [e9] at hH
        refine W.eq (g2 := F0 m 71 ls [.int r_25, .int (x4_19 + 1), .ref a_13]) rfl ?_
        obtain ⟨hn_26, hp⟩ := hp
        obtain ⟨F_27, eF_27⟩ : ∃ z : Nat → Nat → Int32, z = upI F_20 a_13 ((x4_19 + 1).toNatClampNeg) r_25 := ⟨_, rfl⟩
        have hp := hp F_27 eF_27
        refine sx_iast (pc := 71) B hH hk_15 hn_26 dX8_init_71 (fun H locs hH => ?_)
        have hH : Hp G (FA S s.heap.size) s.heap (wA S_5 F_27 (gJ S_5) R_12) H locs := by rw [eF_27]; exact hH
        obtain ⟨v_28, ev_28⟩ : ∃ y : Int32, y = x4_19 + 1 := ⟨_, rfl⟩
        have hp := hp v_28 ev_28
        refine lv_iinc (pc := 72) (v := v_28) (lv' := [(4, .int v_28), (0, .ref th), (3, .ref p2)]) hx hb dX8_init_72 hl (k := 2) rfl (by rw [ev_28]; rfl) (by decide) rfl (fun ls hl => ?_)
        refine lv_goto (pc := 75) (tgt := 42) hx hb dX8_init_75 (by decide) ?_
        obtain ⟨k9, hlt9, hp⟩ := hp
        exact ih_18 k9 hlt9 _ _ _ _ _ _ _ hp (show _ + (bc - 1) ≤ bc by omega) (show _ + (bs - v_6.toNatClampNeg) ≤ bs by omega) hH (lv_sub hl [1, 2, 0] rfl)
  exact kl_18 k0_18 _ _ _ _ _ _ _ h0_18 (show _ + (bc - 1) ≤ bc by omega) (show _ + (bs - v_6.toNatClampNeg) ≤ bs by omega) hH (lv_sub hl [1, 4, 0] rfl)
theorem dX8_last_0 : decode cX8_last 0 = .ok (.aload_n 0, 1) := by decide +kernel
theorem dX8_last_1 : decode cX8_last 1 = .ok (.getfield 22, 3) := by decide +kernel
theorem dX8_last_4 : decode cX8_last 4 = .ok (.arraylength, 1) := by decide +kernel
theorem dX8_last_5 : decode cX8_last 5 = .ok (.iconst 1, 1) := by decide +kernel
theorem dX8_last_6 : decode cX8_last 6 = .ok (.isub, 1) := by decide +kernel
theorem dX8_last_7 : decode cX8_last 7 = .ok (.ireturn, 1) := by decide +kernel
theorem mi_X8_last : MI yX8_last cX8_last 1 (some FieldType.int) 0 := ⟨w_848, w_124, by decide +kernel, by decide +kernel, by decide +kernel⟩
set_option maxRecDepth 100000 in
set_option maxHeartbeats 4000000 in
theorem C_X8_last (G : GG) (l : Launch) (th : Nat) (S : St) (Q : Int32 → Prop) (hp : P_X8_last th S Q) : Ctr G l yX8_last cX8_last 1 (some FieldType.int) 0 0 0 0 [.ref th] S (fun (v : Option Value) (S9 : St) => ∃ (r : Int32), v = some (.int r) ∧ S9 = S ∧ Q r ) := by
  generalize hQQ : (fun (v : Option Value) (S9 : St) => ∃ (r : Int32), v = some (.int r) ∧ S9 = S ∧ Q r ) = QQ
  unfold P_X8_last at hp
  refine Ctr.of (by decide) (Nat.le_of_ble_eq_true rfl) ?_
  intro p e s m args below meth c ls B hr hlk hin hl hH
  generalize hlocs0 : ([] : List Loc) = locs at hH ⊢
  have hx := B.1
  have hb := B.2.1
  have hl : lv_has ls 1 [(0, .ref th)] := hl
  obtain ⟨hk_th, hp⟩ := hp
  refine lv_aload_n (pc := 0) hx hb dX8_last_0 rfl (lv_at hl 0 rfl) ?_
  refine sx_getR (pc := 1) (j := 3) B hH hk_th coX8 rfl w_826 rfl dX8_last_1 ?_
  refine W.eq (g2 := F0 m 4 ls [va_rf (gR S th 3)]) rfl ?_
  obtain ⟨a_1, ha_1, hp⟩ := hp
  refine sx_nonnull (x := a_1) ha_1 ?_
  obtain ⟨hk_2, hp⟩ := hp
  refine sx_alen (pc := 4) B hH hk_2 (by decide) (by decide) dX8_last_4 ?_
  refine W.eq (g2 := F0 m 5 ls [.int (nI (ln S a_1))]) rfl ?_
  refine lv_iconst (pc := 5) (v := 1) hx hb dX8_last_5 (by decide) ?_
  refine lv_isub (pc := 6) hx hb dX8_last_6 ?_
  exact sx_iret (pc := 7) B hH hr hlk (by rw [← hQQ]; exact ⟨_, rfl, rfl, hp⟩) (Nat.le_of_ble_eq_true rfl) (Nat.le_of_ble_eq_true rfl) dX8_last_7
theorem dX3_isUnlike_0 : decode cX3_isUnlike 0 = .ok (.iload_n 1, 1) := by decide +kernel
theorem dX3_isUnlike_1 : decode cX3_isUnlike 1 = .ok (.aload_n 0, 1) := by decide +kernel
theorem dX3_isUnlike_2 : decode cX3_isUnlike 2 = .ok (.getfield 15, 3) := by decide +kernel
theorem dX3_isUnlike_5 : decode cX3_isUnlike 5 = .ok (.arraylength, 1) := by decide +kernel
theorem dX3_isUnlike_6 : decode cX3_isUnlike 6 = .ok (.iadd, 1) := by decide +kernel
theorem dX3_isUnlike_7 : decode cX3_isUnlike 7 = .ok (.aload_n 0, 1) := by decide +kernel
theorem dX3_isUnlike_8 : decode cX3_isUnlike 8 = .ok (.getfield 19, 3) := by decide +kernel
theorem dX3_isUnlike_11 : decode cX3_isUnlike 11 = .ok (.arraylength, 1) := by decide +kernel
theorem dX3_isUnlike_12 : decode cX3_isUnlike 12 = .ok (.invokestatic 38, 3) := by decide +kernel
theorem dX3_isUnlike_15 : decode cX3_isUnlike 15 = .ok (.istore_n 2, 1) := by decide +kernel
theorem dX3_isUnlike_16 : decode cX3_isUnlike 16 = .ok (.iload_n 1, 1) := by decide +kernel
theorem dX3_isUnlike_17 : decode cX3_isUnlike 17 = .ok (.istore_n 3, 1) := by decide +kernel
theorem dX3_isUnlike_18 : decode cX3_isUnlike 18 = .ok (.iload_n 3, 1) := by decide +kernel
theorem dX3_isUnlike_19 : decode cX3_isUnlike 19 = .ok (.iload_n 2, 1) := by decide +kernel
theorem dX3_isUnlike_20 : decode cX3_isUnlike 20 = .ok (.if_icmp .ge 44, 3) := by decide +kernel
theorem dX3_isUnlike_23 : decode cX3_isUnlike 23 = .ok (.iload_n 3, 1) := by decide +kernel
theorem dX3_isUnlike_24 : decode cX3_isUnlike 24 = .ok (.iconst 1, 1) := by decide +kernel
theorem dX3_isUnlike_25 : decode cX3_isUnlike 25 = .ok (.iadd, 1) := by decide +kernel
theorem dX3_isUnlike_26 : decode cX3_isUnlike 26 = .ok (.istore 4, 2) := by decide +kernel
theorem dX3_isUnlike_28 : decode cX3_isUnlike 28 = .ok (.iload 4, 2) := by decide +kernel
theorem dX3_isUnlike_30 : decode cX3_isUnlike 30 = .ok (.iload_n 2, 1) := by decide +kernel
theorem dX3_isUnlike_31 : decode cX3_isUnlike 31 = .ok (.if_icmp .ge 27, 3) := by decide +kernel
theorem dX3_isUnlike_34 : decode cX3_isUnlike 34 = .ok (.aload_n 0, 1) := by decide +kernel
theorem dX3_isUnlike_35 : decode cX3_isUnlike 35 = .ok (.getfield 19, 3) := by decide +kernel
theorem dX3_isUnlike_38 : decode cX3_isUnlike 38 = .ok (.iload_n 3, 1) := by decide +kernel
theorem dX3_isUnlike_39 : decode cX3_isUnlike 39 = .ok (.iaload, 1) := by decide +kernel
theorem dX3_isUnlike_40 : decode cX3_isUnlike 40 = .ok (.aload_n 0, 1) := by decide +kernel
theorem dX3_isUnlike_41 : decode cX3_isUnlike 41 = .ok (.getfield 19, 3) := by decide +kernel
theorem dX3_isUnlike_44 : decode cX3_isUnlike 44 = .ok (.iload 4, 2) := by decide +kernel
theorem dX3_isUnlike_46 : decode cX3_isUnlike 46 = .ok (.iaload, 1) := by decide +kernel
theorem dX3_isUnlike_47 : decode cX3_isUnlike 47 = .ok (.if_icmp .ne 5, 3) := by decide +kernel
theorem dX3_isUnlike_50 : decode cX3_isUnlike 50 = .ok (.iconst 0, 1) := by decide +kernel
theorem dX3_isUnlike_51 : decode cX3_isUnlike 51 = .ok (.ireturn, 1) := by decide +kernel
theorem dX3_isUnlike_52 : decode cX3_isUnlike 52 = .ok (.iinc 4 1, 3) := by decide +kernel
theorem dX3_isUnlike_55 : decode cX3_isUnlike 55 = .ok (.goto (-27), 3) := by decide +kernel
theorem dX3_isUnlike_58 : decode cX3_isUnlike 58 = .ok (.iinc 3 1, 3) := by decide +kernel
theorem dX3_isUnlike_61 : decode cX3_isUnlike 61 = .ok (.goto (-43), 3) := by decide +kernel
theorem dX3_isUnlike_64 : decode cX3_isUnlike 64 = .ok (.iconst 1, 1) := by decide +kernel
theorem dX3_isUnlike_65 : decode cX3_isUnlike 65 = .ok (.ireturn, 1) := by decide +kernel
theorem mi_X3_isUnlike : MI yX3_isUnlike cX3_isUnlike 5 (some FieldType.boolean) 1 := ⟨w_1008, w_123, by decide +kernel, by decide +kernel, by decide +kernel⟩
set_option maxRecDepth 100000 in
set_option maxHeartbeats 4000000 in
theorem C_X3_isUnlike (G : GG) (l : Launch) (th : Nat) (p0 : Int32) (S : St) (Q : Int32 → Prop) (hp : P_X3_isUnlike th p0 S Q) : Ctr G l yX3_isUnlike cX3_isUnlike 5 (some FieldType.boolean) 1 21 0 0 [.ref th, .int p0] S (fun (v : Option Value) (S9 : St) => ∃ (r : Int32), v = some (.int r) ∧ S9 = S ∧ Q r ) := by
  generalize hQQ : (fun (v : Option Value) (S9 : St) => ∃ (r : Int32), v = some (.int r) ∧ S9 = S ∧ Q r ) = QQ
  unfold P_X3_isUnlike at hp
  refine Ctr.of (by decide) (Nat.le_of_ble_eq_true rfl) ?_
  intro p e s m args below meth c ls B hr hlk hin hl hH
  generalize hlocs0 : ([] : List Loc) = locs at hH ⊢
  have hx := B.1
  have hb := B.2.1
  have hl : lv_has ls 5 [(0, .ref th), (1, .int p0)] := hl
  obtain ⟨hk_th, hp⟩ := hp
  refine lv_iload_n (pc := 0) hx hb dX3_isUnlike_0 rfl (lv_at hl 1 rfl) ?_
  refine lv_aload_n (pc := 1) hx hb dX3_isUnlike_1 rfl (lv_at hl 0 rfl) ?_
  refine sx_getR (pc := 2) (j := 1) B hH hk_th coX3 rfl w_714 rfl dX3_isUnlike_2 ?_
  refine W.eq (g2 := F0 m 5 ls [va_rf (gR S th 1), .int p0]) rfl ?_
  obtain ⟨a_1, ha_1, hp⟩ := hp
  refine sx_nonnull (x := a_1) ha_1 ?_
  obtain ⟨hk_2, hp⟩ := hp
  refine sx_alen (pc := 5) B hH hk_2 (by decide) (by decide) dX3_isUnlike_5 ?_
  refine W.eq (g2 := F0 m 6 ls [.int (nI (ln S a_1)), .int p0]) rfl ?_
  refine lv_iadd (pc := 6) hx hb dX3_isUnlike_6 ?_
  refine lv_aload_n (pc := 7) hx hb dX3_isUnlike_7 rfl (lv_at hl 0 rfl) ?_
  refine sx_getR (pc := 8) (j := 2) B hH hk_th coX3 rfl w_716 rfl dX3_isUnlike_8 ?_
  refine W.eq (g2 := F0 m 11 ls [va_rf (gR S th 2), .int (p0 + (nI (ln S a_1)))]) rfl ?_
  obtain ⟨a_3, ha_3, hp⟩ := hp
  refine sx_nonnull (x := a_3) ha_3 ?_
  obtain ⟨hk_4, hp⟩ := hp
  refine sx_alen (pc := 11) B hH hk_4 (by decide) (by decide) dX3_isUnlike_11 ?_
  refine W.eq (g2 := F0 m 12 ls [.int (nI (ln S a_3)), .int (p0 + (nI (ln S a_1)))]) rfl ?_
  refine sx_min (pc := 12) B hl.1 w_1009 w_600 w_121 w_min (Nat.le_of_ble_eq_true rfl) (Nat.le_of_ble_eq_true rfl) (Nat.le_of_ble_eq_true rfl) (Nat.le_of_ble_eq_true rfl) dX3_isUnlike_12 ?_
  refine W.eq (g2 := F0 m 15 ls [.int (imin (p0 + (nI (ln S a_1))) (nI (ln S a_3)))]) rfl ?_
  refine lv_topi (fun v_5 ev_5 => ?_)
  have hp := hp v_5 ev_5
  refine lv_istore_n (pc := 15) (lv' := [(2, .int v_5), (0, .ref th), (1, .int p0)]) hx hb dX3_isUnlike_15 rfl hl (by decide) rfl (fun ls hl => ?_)
  refine lv_iload_n (pc := 16) hx hb dX3_isUnlike_16 rfl (lv_at hl 2 rfl) ?_
  refine lv_istore_n (pc := 17) (lv' := [(3, .int p0), (2, .int v_5), (0, .ref th), (1, .int p0)]) hx hb dX3_isUnlike_17 rfl hl (by decide) rfl (fun ls hl => ?_)
  obtain ⟨I_6, ⟨k0_6, h0_6⟩, hst_6⟩ := hp
  have kl_6 : ∀ (n_6 : Nat) (x3_7 : Int32) (H : Heap) (locs : List Loc) (ls : Array Slot), I_6 n_6 x3_7 → Hp G (FA S s.heap.size) s.heap S H locs → lv_has ls 5 [(0, .ref th), (2, .int v_5), (3, .int x3_7)] → Wm G p l e { frames := 1, cells := 0, slots := 0, locals := 21 } s m args below meth c S QQ 0 0 H locs 0 0 (F0 m 18 ls []) := by
    intro n_6
    induction n_6 using Nat.strongRecOn with
    | ind n_6 ih_6 =>
      intro x3_7 H locs ls hq9 hH hl
      have hp := hst_6 n_6 x3_7 hq9
      refine lv_iload_n (pc := 18) hx hb dX3_isUnlike_18 rfl (lv_at hl 2 rfl) ?_
      refine lv_iload_n (pc := 19) hx hb dX3_isUnlike_19 rfl (lv_at hl 1 rfl) ?_
      refine lv_icmp_ge (pc := 20) (tgt := 64) hx hb dX3_isUnlike_20 (by decide) (fun cc_8 => ?_) (fun cc_8 => ?_)
      · have hp := hp.1 cc_8
        refine lv_iconst (pc := 64) (v := 1) hx hb dX3_isUnlike_64 (by decide) ?_
        exact sx_zret (pc := 65) B hH hr hlk (Or.inr rfl) (by rw [← hQQ]; exact ⟨_, rfl, rfl, hp⟩) (Nat.le_of_ble_eq_true rfl) (Nat.le_of_ble_eq_true rfl) dX3_isUnlike_65
      · have hp := hp.2 cc_8
        refine lv_iload_n (pc := 23) hx hb dX3_isUnlike_23 rfl (lv_at hl 2 rfl) ?_
        refine lv_iconst (pc := 24) (v := 1) hx hb dX3_isUnlike_24 (by decide) ?_
        refine lv_iadd (pc := 25) hx hb dX3_isUnlike_25 ?_
        refine lv_topi (fun v_9 ev_9 => ?_)
        have hp := hp v_9 ev_9
        refine lv_istore (pc := 26) (lv' := [(4, .int v_9), (0, .ref th), (2, .int v_5), (3, .int x3_7)]) hx hb dX3_isUnlike_26 hl (by decide) rfl (fun ls hl => ?_)
        obtain ⟨I_10, ⟨k0_10, h0_10⟩, hst_10⟩ := hp
        have kl_10 : ∀ (n_10 : Nat) (x4_11 : Int32) (H : Heap) (locs : List Loc) (ls : Array Slot), I_10 n_10 x4_11 → Hp G (FA S s.heap.size) s.heap S H locs → lv_has ls 5 [(0, .ref th), (2, .int v_5), (3, .int x3_7), (4, .int x4_11)] → Wm G p l e { frames := 1, cells := 0, slots := 0, locals := 21 } s m args below meth c S QQ 0 0 H locs 0 0 (F0 m 28 ls []) := by
          intro n_10
          induction n_10 using Nat.strongRecOn with
          | ind n_10 ih_10 =>
            intro x4_11 H locs ls hq9 hH hl
            have hp := hst_10 n_10 x4_11 hq9
            refine lv_iload (pc := 28) hx hb dX3_isUnlike_28 (lv_at hl 3 rfl) ?_
            refine lv_iload_n (pc := 30) hx hb dX3_isUnlike_30 rfl (lv_at hl 1 rfl) ?_
            refine lv_icmp_ge (pc := 31) (tgt := 58) hx hb dX3_isUnlike_31 (by decide) (fun cc_12 => ?_) (fun cc_12 => ?_)
            · have hp := hp.1 cc_12
              obtain ⟨v_13, ev_13⟩ : ∃ y : Int32, y = x3_7 + 1 := ⟨_, rfl⟩
              have hp := hp v_13 ev_13
              refine lv_iinc (pc := 58) (v := v_13) (lv' := [(3, .int v_13), (0, .ref th), (2, .int v_5), (4, .int x4_11)]) hx hb dX3_isUnlike_58 hl (k := 2) rfl (by rw [ev_13]; rfl) (by decide) rfl (fun ls hl => ?_)
              refine lv_goto (pc := 61) (tgt := 18) hx hb dX3_isUnlike_61 (by decide) ?_
              obtain ⟨k9, hlt9, hp⟩ := hp
              exact ih_6 k9 hlt9 _ _ _ _ hp hH (lv_sub hl [1, 2, 0] rfl)
            · have hp := hp.2 cc_12
              refine lv_aload_n (pc := 34) hx hb dX3_isUnlike_34 rfl (lv_at hl 0 rfl) ?_
              refine sx_getR (pc := 35) (j := 2) B hH hk_th coX3 rfl w_716 rfl dX3_isUnlike_35 ?_
              refine W.eq (g2 := F0 m 38 ls [va_rf (gR S th 2)]) rfl ?_
              refine sx_nonnull (x := a_3) ha_3 ?_
              refine lv_iload_n (pc := 38) hx hb dX3_isUnlike_38 rfl (lv_at hl 2 rfl) ?_
              obtain ⟨hn_14, hp⟩ := hp
              refine sx_iald (pc := 39) B hH hk_4 hn_14 dX3_isUnlike_39 ?_
              refine W.eq (g2 := F0 m 40 ls [.int (gI S a_3 x3_7.toNatClampNeg)]) rfl ?_
              refine lv_aload_n (pc := 40) hx hb dX3_isUnlike_40 rfl (lv_at hl 0 rfl) ?_
              refine sx_getR (pc := 41) (j := 2) B hH hk_th coX3 rfl w_716 rfl dX3_isUnlike_41 ?_
              refine W.eq (g2 := F0 m 44 ls [va_rf (gR S th 2), .int (gI S a_3 x3_7.toNatClampNeg)]) rfl ?_
              refine sx_nonnull (x := a_3) ha_3 ?_
              refine lv_iload (pc := 44) hx hb dX3_isUnlike_44 (lv_at hl 3 rfl) ?_
              obtain ⟨hn_15, hp⟩ := hp
              refine sx_iald (pc := 46) B hH hk_4 hn_15 dX3_isUnlike_46 ?_
              refine W.eq (g2 := F0 m 47 ls [.int (gI S a_3 x4_11.toNatClampNeg), .int (gI S a_3 x3_7.toNatClampNeg)]) rfl ?_
              refine lv_icmp_ne (pc := 47) (tgt := 52) hx hb dX3_isUnlike_47 (by decide) (fun cc_16 => ?_) (fun cc_16 => ?_)
              · have hp := hp.1 cc_16
                obtain ⟨v_17, ev_17⟩ : ∃ y : Int32, y = x4_11 + 1 := ⟨_, rfl⟩
                have hp := hp v_17 ev_17
                refine lv_iinc (pc := 52) (v := v_17) (lv' := [(4, .int v_17), (0, .ref th), (2, .int v_5), (3, .int x3_7)]) hx hb dX3_isUnlike_52 hl (k := 3) rfl (by rw [ev_17]; rfl) (by decide) rfl (fun ls hl => ?_)
                refine lv_goto (pc := 55) (tgt := 28) hx hb dX3_isUnlike_55 (by decide) ?_
                obtain ⟨k9, hlt9, hp⟩ := hp
                exact ih_10 k9 hlt9 _ _ _ _ hp hH (lv_sub hl [1, 2, 3, 0] rfl)
              · have hp := hp.2 cc_16
                refine lv_iconst (pc := 50) (v := 0) hx hb dX3_isUnlike_50 (by decide) ?_
                exact sx_zret (pc := 51) B hH hr hlk (Or.inl rfl) (by rw [← hQQ]; exact ⟨_, rfl, rfl, hp⟩) (Nat.le_of_ble_eq_true rfl) (Nat.le_of_ble_eq_true rfl) dX3_isUnlike_51
        exact kl_10 k0_10 _ _ _ _ h0_10 hH (lv_sub hl [1, 2, 3, 0] rfl)
  exact kl_6 k0_6 _ _ _ _ h0_6 hH (lv_sub hl [2, 1, 0] rfl)
theorem dX3_behind_0 : decode cX3_behind 0 = .ok (.iconst 1, 1) := by decide +kernel
theorem dX3_behind_1 : decode cX3_behind 1 = .ok (.istore_n 2, 1) := by decide +kernel
theorem dX3_behind_2 : decode cX3_behind 2 = .ok (.iload_n 2, 1) := by decide +kernel
theorem dX3_behind_3 : decode cX3_behind 3 = .ok (.aload_n 0, 1) := by decide +kernel
theorem dX3_behind_4 : decode cX3_behind 4 = .ok (.getfield 19, 3) := by decide +kernel
theorem dX3_behind_7 : decode cX3_behind 7 = .ok (.arraylength, 1) := by decide +kernel
theorem dX3_behind_8 : decode cX3_behind 8 = .ok (.if_icmp .ge 21, 3) := by decide +kernel
theorem dX3_behind_11 : decode cX3_behind 11 = .ok (.aload_n 0, 1) := by decide +kernel
theorem dX3_behind_12 : decode cX3_behind 12 = .ok (.getfield 19, 3) := by decide +kernel
theorem dX3_behind_15 : decode cX3_behind 15 = .ok (.iload_n 2, 1) := by decide +kernel
theorem dX3_behind_16 : decode cX3_behind 16 = .ok (.iaload, 1) := by decide +kernel
theorem dX3_behind_17 : decode cX3_behind 17 = .ok (.iload_n 1, 1) := by decide +kernel
theorem dX3_behind_18 : decode cX3_behind 18 = .ok (.if_icmp .ne 5, 3) := by decide +kernel
theorem dX3_behind_21 : decode cX3_behind 21 = .ok (.iload_n 2, 1) := by decide +kernel
theorem dX3_behind_22 : decode cX3_behind 22 = .ok (.ireturn, 1) := by decide +kernel
theorem dX3_behind_23 : decode cX3_behind 23 = .ok (.iinc 2 1, 3) := by decide +kernel
theorem dX3_behind_26 : decode cX3_behind 26 = .ok (.goto (-24), 3) := by decide +kernel
theorem dX3_behind_29 : decode cX3_behind 29 = .ok (.iconst (-1), 1) := by decide +kernel
theorem dX3_behind_30 : decode cX3_behind 30 = .ok (.ireturn, 1) := by decide +kernel
theorem mi_X3_behind : MI yX3_behind cX3_behind 3 (some FieldType.int) 1 := ⟨w_1017, w_123, by decide +kernel, by decide +kernel, by decide +kernel⟩
set_option maxRecDepth 100000 in
set_option maxHeartbeats 4000000 in
theorem C_X3_behind (G : GG) (l : Launch) (th : Nat) (p0 : Int32) (S : St) (Q : Int32 → Prop) (hp : P_X3_behind th p0 S Q) : Ctr G l yX3_behind cX3_behind 3 (some FieldType.int) 0 0 0 0 [.ref th, .int p0] S (fun (v : Option Value) (S9 : St) => ∃ (r : Int32), v = some (.int r) ∧ S9 = S ∧ Q r ) := by
  generalize hQQ : (fun (v : Option Value) (S9 : St) => ∃ (r : Int32), v = some (.int r) ∧ S9 = S ∧ Q r ) = QQ
  unfold P_X3_behind at hp
  refine Ctr.of (by decide) (Nat.le_of_ble_eq_true rfl) ?_
  intro p e s m args below meth c ls B hr hlk hin hl hH
  generalize hlocs0 : ([] : List Loc) = locs at hH ⊢
  have hx := B.1
  have hb := B.2.1
  have hl : lv_has ls 3 [(0, .ref th), (1, .int p0)] := hl
  obtain ⟨hk_th, hp⟩ := hp
  refine lv_iconst (pc := 0) (v := 1) hx hb dX3_behind_0 (by decide) ?_
  refine lv_istore_n (pc := 1) (lv' := [(2, .int 1), (0, .ref th), (1, .int p0)]) hx hb dX3_behind_1 rfl hl (by decide) rfl (fun ls hl => ?_)
  obtain ⟨I_1, ⟨k0_1, h0_1⟩, hst_1⟩ := hp
  have kl_1 : ∀ (n_1 : Nat) (x2_2 : Int32) (H : Heap) (locs : List Loc) (ls : Array Slot), I_1 n_1 x2_2 → Hp G (FA S s.heap.size) s.heap S H locs → lv_has ls 3 [(0, .ref th), (1, .int p0), (2, .int x2_2)] → Wm G p l e { frames := 0, cells := 0, slots := 0, locals := 0 } s m args below meth c S QQ 0 0 H locs 0 0 (F0 m 2 ls []) := by
    intro n_1
    induction n_1 using Nat.strongRecOn with
    | ind n_1 ih_1 =>
      intro x2_2 H locs ls hq9 hH hl
      have hp := hst_1 n_1 x2_2 hq9
      refine lv_iload_n (pc := 2) hx hb dX3_behind_2 rfl (lv_at hl 2 rfl) ?_
      refine lv_aload_n (pc := 3) hx hb dX3_behind_3 rfl (lv_at hl 0 rfl) ?_
      refine sx_getR (pc := 4) (j := 2) B hH hk_th coX3 rfl w_716 rfl dX3_behind_4 ?_
      refine W.eq (g2 := F0 m 7 ls [va_rf (gR S th 2), .int x2_2]) rfl ?_
      obtain ⟨a_3, ha_3, hp⟩ := hp
      refine sx_nonnull (x := a_3) ha_3 ?_
      obtain ⟨hk_4, hp⟩ := hp
      refine sx_alen (pc := 7) B hH hk_4 (by decide) (by decide) dX3_behind_7 ?_
      refine W.eq (g2 := F0 m 8 ls [.int (nI (ln S a_3)), .int x2_2]) rfl ?_
      refine lv_icmp_ge (pc := 8) (tgt := 29) hx hb dX3_behind_8 (by decide) (fun cc_5 => ?_) (fun cc_5 => ?_)
      · have hp := hp.1 cc_5
        refine lv_iconst (pc := 29) (v := (-1)) hx hb dX3_behind_29 (by decide) ?_
        exact sx_iret (pc := 30) B hH hr hlk (by rw [← hQQ]; exact ⟨_, rfl, rfl, hp⟩) (Nat.le_of_ble_eq_true rfl) (Nat.le_of_ble_eq_true rfl) dX3_behind_30
      · have hp := hp.2 cc_5
        refine lv_aload_n (pc := 11) hx hb dX3_behind_11 rfl (lv_at hl 0 rfl) ?_
        refine sx_getR (pc := 12) (j := 2) B hH hk_th coX3 rfl w_716 rfl dX3_behind_12 ?_
        refine W.eq (g2 := F0 m 15 ls [va_rf (gR S th 2)]) rfl ?_
        refine sx_nonnull (x := a_3) ha_3 ?_
        refine lv_iload_n (pc := 15) hx hb dX3_behind_15 rfl (lv_at hl 2 rfl) ?_
        obtain ⟨hn_6, hp⟩ := hp
        refine sx_iald (pc := 16) B hH hk_4 hn_6 dX3_behind_16 ?_
        refine W.eq (g2 := F0 m 17 ls [.int (gI S a_3 x2_2.toNatClampNeg)]) rfl ?_
        refine lv_iload_n (pc := 17) hx hb dX3_behind_17 rfl (lv_at hl 1 rfl) ?_
        refine lv_icmp_ne (pc := 18) (tgt := 23) hx hb dX3_behind_18 (by decide) (fun cc_7 => ?_) (fun cc_7 => ?_)
        · have hp := hp.1 cc_7
          obtain ⟨v_8, ev_8⟩ : ∃ y : Int32, y = x2_2 + 1 := ⟨_, rfl⟩
          have hp := hp v_8 ev_8
          refine lv_iinc (pc := 23) (v := v_8) (lv' := [(2, .int v_8), (0, .ref th), (1, .int p0)]) hx hb dX3_behind_23 hl (k := 2) rfl (by rw [ev_8]; rfl) (by decide) rfl (fun ls hl => ?_)
          refine lv_goto (pc := 26) (tgt := 2) hx hb dX3_behind_26 (by decide) ?_
          obtain ⟨k9, hlt9, hp⟩ := hp
          exact ih_1 k9 hlt9 _ _ _ _ hp hH (lv_sub hl [1, 2, 0] rfl)
        · have hp := hp.2 cc_7
          refine lv_iload_n (pc := 21) hx hb dX3_behind_21 rfl (lv_at hl 2 rfl) ?_
          exact sx_iret (pc := 22) B hH hr hlk (by rw [← hQQ]; exact ⟨_, rfl, rfl, hp⟩) (Nat.le_of_ble_eq_true rfl) (Nat.le_of_ble_eq_true rfl) dX3_behind_22
  exact kl_1 k0_1 _ _ _ _ h0_1 hH (lv_sub hl [1, 2, 0] rfl)
theorem dX6_begin_0 : decode cX6_begin 0 = .ok (.aload_n 0, 1) := by decide +kernel
theorem dX6_begin_1 : decode cX6_begin 1 = .ok (.getfield 7, 3) := by decide +kernel
theorem dX6_begin_4 : decode cX6_begin 4 = .ok (.arraylength, 1) := by decide +kernel
theorem dX6_begin_5 : decode cX6_begin 5 = .ok (.iload_n 1, 1) := by decide +kernel
theorem dX6_begin_6 : decode cX6_begin 6 = .ok (.if_icmp .ge 15, 3) := by decide +kernel
theorem dX6_begin_9 : decode cX6_begin 9 = .ok (.aload_n 0, 1) := by decide +kernel
theorem dX6_begin_10 : decode cX6_begin 10 = .ok (.iload_n 1, 1) := by decide +kernel
theorem dX6_begin_11 : decode cX6_begin 11 = .ok (.newarray .int, 2) := by decide +kernel
theorem dX6_begin_13 : decode cX6_begin 13 = .ok (.putfield 7, 3) := by decide +kernel
theorem dX6_begin_16 : decode cX6_begin 16 = .ok (.aload_n 0, 1) := by decide +kernel
theorem dX6_begin_17 : decode cX6_begin 17 = .ok (.iconst 0, 1) := by decide +kernel
theorem dX6_begin_18 : decode cX6_begin 18 = .ok (.putfield 13, 3) := by decide +kernel
theorem dX6_begin_21 : decode cX6_begin 21 = .ok (.aload_n 0, 1) := by decide +kernel
theorem dX6_begin_22 : decode cX6_begin 22 = .ok (.dup, 1) := by decide +kernel
theorem dX6_begin_23 : decode cX6_begin 23 = .ok (.getfield 13, 3) := by decide +kernel
theorem dX6_begin_26 : decode cX6_begin 26 = .ok (.iconst 1, 1) := by decide +kernel
theorem dX6_begin_27 : decode cX6_begin 27 = .ok (.iadd, 1) := by decide +kernel
theorem dX6_begin_28 : decode cX6_begin 28 = .ok (.putfield 13, 3) := by decide +kernel
theorem dX6_begin_31 : decode cX6_begin 31 = .ok (.return_, 1) := by decide +kernel
theorem mi_X6_begin : MI yX6_begin cX6_begin 2 (none : Option Jvm.ClassFile.FieldType) 1 := ⟨w_1029, w_115, by decide +kernel, by decide +kernel, by decide +kernel⟩
set_option maxRecDepth 100000 in
set_option maxHeartbeats 4000000 in
theorem C_X6_begin (G : GG) (l : Launch) (th : Nat) (p0 : Int32) (S : St) (bc bs : Nat) (Q : St → Prop) (hp : P_X6_begin th p0 S bc bs Q) : Ctr G l yX6_begin cX6_begin 2 (none : Option Jvm.ClassFile.FieldType) 0 0 bc bs [.ref th, .int p0] S (fun (v : Option Value) (S9 : St) => v = none ∧ Q S9) := by
  generalize hQQ : (fun (v : Option Value) (S9 : St) => v = none ∧ Q S9) = QQ
  unfold P_X6_begin at hp
  refine Ctr.of (by decide) (Nat.le_of_ble_eq_true rfl) ?_
  intro p e s m args below meth c ls B hr hlk hin hl hH
  generalize hlocs0 : ([] : List Loc) = locs at hH ⊢
  have hx := B.1
  have hb := B.2.1
  have hl : lv_has ls 2 [(0, .ref th), (1, .int p0)] := hl
  obtain ⟨hk_th, hp⟩ := hp
  refine lv_aload_n (pc := 0) hx hb dX6_begin_0 rfl (lv_at hl 0 rfl) ?_
  refine sx_getR (pc := 1) (j := 0) B hH hk_th coX6 rfl w_385 rfl dX6_begin_1 ?_
  refine W.eq (g2 := F0 m 4 ls [va_rf (gR S th 0)]) rfl ?_
  obtain ⟨a_1, ha_1, hp⟩ := hp
  refine sx_nonnull (x := a_1) ha_1 ?_
  obtain ⟨hk_2, hp⟩ := hp
  refine sx_alen (pc := 4) B hH hk_2 (by decide) (by decide) dX6_begin_4 ?_
  refine W.eq (g2 := F0 m 5 ls [.int (nI (ln S a_1))]) rfl ?_
  refine lv_iload_n (pc := 5) hx hb dX6_begin_5 rfl (lv_at hl 1 rfl) ?_
  obtain ⟨J_4, hj_4, hp⟩ := hp
  have kj_4 : ∀ (S_5 : St) (b_6 : Nat) (d_6 : Nat) (H : Heap) (locs : List Loc) (ls : Array Slot) (cells slots : Nat), J_4 S_5 b_6 d_6 → cells + b_6 ≤ bc → slots + d_6 ≤ bs → Hp G (FA S s.heap.size) s.heap S_5 H locs → lv_has ls 2 [(0, .ref th)] → Wm G p l e { frames := 0, cells := bc, slots := bs, locals := 0 } s m args below meth c S QQ bc bs H locs cells slots (F0 m 21 ls []) := by
    intro S_5 b_6 d_6 H locs ls cells slots hq9 hcc_4 hss_4 hH hl
    have hp := hj_4 S_5 b_6 d_6 hq9
    refine lv_aload_n (pc := 21) hx hb dX6_begin_21 rfl (lv_at hl 0 rfl) ?_
    refine lv_dup (pc := 22) hx hb dX6_begin_22 rfl ?_
    obtain ⟨hk_7, hp⟩ := hp
    refine sx_getI (pc := 23) (j := 1) B hH hk_7 coX6 rfl w_386 rfl dX6_begin_23 ?_
    refine W.eq (g2 := F0 m 26 ls [.int (gI S_5 th 1), .ref th]) rfl ?_
    refine lv_iconst (pc := 26) (v := 1) hx hb dX6_begin_26 (by decide) ?_
    refine lv_iadd (pc := 27) hx hb dX6_begin_27 ?_
    refine lv_topi (fun v_8 ev_8 => ?_)
    have hp := hp v_8 ev_8
    obtain ⟨F_9, eF_9⟩ : ∃ z : Nat → Nat → Int32, z = upI (gI S_5) th 1 v_8 := ⟨_, rfl⟩
    have hp := hp F_9 eF_9
    refine sx_putI (pc := 28) (j := 1) B hH hk_7 coX6 rfl w_386 rfl (Or.inl rfl) rfl dX6_begin_28 (fun H locs hH => ?_)
    have hH : Hp G (FA S s.heap.size) s.heap (wI S_5 F_9) H locs := by rw [eF_9]; exact hH
    exact sx_vret (pc := 31) B hH hr hlk (by rw [← hQQ]; exact ⟨rfl, hp⟩) (show _ ≤ bc by omega) (show _ ≤ bs by omega) dX6_begin_31
  refine lv_icmp_ge (pc := 6) (tgt := 21) hx hb dX6_begin_6 (by decide) (fun cc_3 => ?_) (fun cc_3 => ?_)
  · have hp := hp.1 cc_3
    exact kj_4 _ _ _ _ _ _ _ _ hp (show _ + bc ≤ bc by omega) (show _ + bs ≤ bs by omega) hH (lv_sub hl [0] rfl)
  · have hp := hp.2 cc_3
    refine lv_aload_n (pc := 9) hx hb dX6_begin_9 rfl (lv_at hl 0 rfl) ?_
    refine lv_iload_n (pc := 10) hx hb dX6_begin_10 rfl (lv_at hl 1 rfl) ?_
    obtain ⟨hc_11, hp⟩ := hp
    obtain ⟨hc_12, hp⟩ := hp
    obtain ⟨hc_13, hp⟩ := hp
    obtain ⟨hc_14, hp⟩ := hp
    refine sx_newi (pc := 11) (S := S) B hH w_294 rfl hc_11 hc_12 (show _ + 1 ≤ bc by omega) (show _ + p0.toNatClampNeg ≤ bs by first | omega | exact (by omega : _ + p0.toNatClampNeg ≤ bs)) dX6_begin_11 (fun q_10 H hq_10 hH => ?_)
    obtain ⟨S_10, eS_10⟩ : ∃ z : St, z = alo S q_10 21 p0.toNatClampNeg := ⟨_, rfl⟩
    have hp := hp q_10 hq_10 S_10 eS_10
    have hH : Hp G (FA S s.heap.size) s.heap S_10 H locs := by rw [eS_10]; exact hH
    have hk_10 : kd S_10 q_10 = 21 := by rw [eS_10]; exact kd_alo
    refine W.eq (g2 := F0 m 13 ls [.ref q_10, .ref th]) rfl ?_
    obtain ⟨hk_15, hp⟩ := hp
    obtain ⟨R_16, eR_16⟩ : ∃ z : Nat → Nat → Option Nat, z = upR (gR S_10) th 0 (some q_10) := ⟨_, rfl⟩
    have hp := hp R_16 eR_16
    refine sx_putR (pc := 13) (j := 0) (x := (some q_10)) B hH hk_15 coX6 rfl w_385 rfl (Or.inl rfl) rfl dX6_begin_13 (fun H locs hH => ?_)
    have hH : Hp G (FA S s.heap.size) s.heap (wA S_10 (gI S_10) (gJ S_10) R_16) H locs := by rw [eR_16]; exact hH
    refine lv_aload_n (pc := 16) hx hb dX6_begin_16 rfl (lv_at hl 0 rfl) ?_
    refine lv_iconst (pc := 17) (v := 0) hx hb dX6_begin_17 (by decide) ?_
    obtain ⟨F_17, eF_17⟩ : ∃ z : Nat → Nat → Int32, z = upI (gI S_10) th 1 0 := ⟨_, rfl⟩
    have hp := hp F_17 eF_17
    refine sx_putI (pc := 18) (j := 1) B hH hk_15 coX6 rfl w_386 rfl (Or.inl rfl) rfl dX6_begin_18 (fun H locs hH => ?_)
    have hH : Hp G (FA S s.heap.size) s.heap (wA S_10 F_17 (gJ S_10) R_16) H locs := by rw [eF_17]; exact hH
    exact kj_4 _ _ _ _ _ _ _ _ hp (show _ + (bc - 1) ≤ bc by omega) (show _ + (bs - p0.toNatClampNeg) ≤ bs by omega) hH (lv_sub hl [0] rfl)
theorem dX6_add_0 : decode cX6_add 0 = .ok (.iload_n 1, 1) := by decide +kernel
theorem dX6_add_1 : decode cX6_add 1 = .ok (.ifCond .lt 25, 3) := by decide +kernel
theorem dX6_add_4 : decode cX6_add 4 = .ok (.iload_n 1, 1) := by decide +kernel
theorem dX6_add_5 : decode cX6_add 5 = .ok (.aload_n 0, 1) := by decide +kernel
theorem dX6_add_6 : decode cX6_add 6 = .ok (.getfield 7, 3) := by decide +kernel
theorem dX6_add_9 : decode cX6_add 9 = .ok (.arraylength, 1) := by decide +kernel
theorem dX6_add_10 : decode cX6_add 10 = .ok (.if_icmp .ge 16, 3) := by decide +kernel
theorem dX6_add_13 : decode cX6_add 13 = .ok (.aload_n 0, 1) := by decide +kernel
theorem dX6_add_14 : decode cX6_add 14 = .ok (.getfield 7, 3) := by decide +kernel
theorem dX6_add_17 : decode cX6_add 17 = .ok (.iload_n 1, 1) := by decide +kernel
theorem dX6_add_18 : decode cX6_add 18 = .ok (.iaload, 1) := by decide +kernel
theorem dX6_add_19 : decode cX6_add 19 = .ok (.aload_n 0, 1) := by decide +kernel
theorem dX6_add_20 : decode cX6_add 20 = .ok (.getfield 13, 3) := by decide +kernel
theorem dX6_add_23 : decode cX6_add 23 = .ok (.if_icmp .ne 5, 3) := by decide +kernel
theorem dX6_add_26 : decode cX6_add 26 = .ok (.iconst 0, 1) := by decide +kernel
theorem dX6_add_27 : decode cX6_add 27 = .ok (.ireturn, 1) := by decide +kernel
theorem dX6_add_28 : decode cX6_add 28 = .ok (.aload_n 0, 1) := by decide +kernel
theorem dX6_add_29 : decode cX6_add 29 = .ok (.getfield 7, 3) := by decide +kernel
theorem dX6_add_32 : decode cX6_add 32 = .ok (.iload_n 1, 1) := by decide +kernel
theorem dX6_add_33 : decode cX6_add 33 = .ok (.aload_n 0, 1) := by decide +kernel
theorem dX6_add_34 : decode cX6_add 34 = .ok (.getfield 13, 3) := by decide +kernel
theorem dX6_add_37 : decode cX6_add 37 = .ok (.iastore, 1) := by decide +kernel
theorem dX6_add_38 : decode cX6_add 38 = .ok (.iconst 1, 1) := by decide +kernel
theorem dX6_add_39 : decode cX6_add 39 = .ok (.ireturn, 1) := by decide +kernel
theorem mi_X6_add : MI yX6_add cX6_add 2 (some FieldType.boolean) 1 := ⟨w_1033, w_115, by decide +kernel, by decide +kernel, by decide +kernel⟩
set_option maxRecDepth 100000 in
set_option maxHeartbeats 4000000 in
theorem C_X6_add (G : GG) (l : Launch) (th : Nat) (p0 : Int32) (S : St) (Q : Int32 → (Nat → Nat → Int32) → Prop) (hp : P_X6_add th p0 S Q) : Ctr G l yX6_add cX6_add 2 (some FieldType.boolean) 0 0 0 0 [.ref th, .int p0] S (fun (v : Option Value) (S9 : St) => ∃ (r : Int32) (I9 : Nat → Nat → Int32), v = some (.int r) ∧ S9 = wI S I9 ∧ Q r I9) := by
  generalize hQQ : (fun (v : Option Value) (S9 : St) => ∃ (r : Int32) (I9 : Nat → Nat → Int32), v = some (.int r) ∧ S9 = wI S I9 ∧ Q r I9) = QQ
  unfold P_X6_add at hp
  refine Ctr.of (by decide) (Nat.le_of_ble_eq_true rfl) ?_
  intro p e s m args below meth c ls B hr hlk hin hl hH
  generalize hlocs0 : ([] : List Loc) = locs at hH ⊢
  have hx := B.1
  have hb := B.2.1
  have hl : lv_has ls 2 [(0, .ref th), (1, .int p0)] := hl
  obtain ⟨hk_th, hp⟩ := hp
  refine lv_iload_n (pc := 0) hx hb dX6_add_0 rfl (lv_at hl 1 rfl) ?_
  refine lv_if_lt (pc := 1) (tgt := 26) hx hb dX6_add_1 (by decide) (fun cc_1 => ?_) (fun cc_1 => ?_)
  · have hp := hp.1 cc_1
    refine lv_iconst (pc := 26) (v := 0) hx hb dX6_add_26 (by decide) ?_
    exact sx_zret (pc := 27) B hH hr hlk (Or.inl rfl) (by rw [← hQQ]; exact ⟨_, (gI S), rfl, rfl, hp⟩) (Nat.le_of_ble_eq_true rfl) (Nat.le_of_ble_eq_true rfl) dX6_add_27
  · have hp := hp.2 cc_1
    refine lv_iload_n (pc := 4) hx hb dX6_add_4 rfl (lv_at hl 1 rfl) ?_
    refine lv_aload_n (pc := 5) hx hb dX6_add_5 rfl (lv_at hl 0 rfl) ?_
    refine sx_getR (pc := 6) (j := 0) B hH hk_th coX6 rfl w_385 rfl dX6_add_6 ?_
    refine W.eq (g2 := F0 m 9 ls [va_rf (gR S th 0), .int p0]) rfl ?_
    obtain ⟨a_2, ha_2, hp⟩ := hp
    refine sx_nonnull (x := a_2) ha_2 ?_
    obtain ⟨hk_3, hp⟩ := hp
    refine sx_alen (pc := 9) B hH hk_3 (by decide) (by decide) dX6_add_9 ?_
    refine W.eq (g2 := F0 m 10 ls [.int (nI (ln S a_2)), .int p0]) rfl ?_
    refine lv_icmp_ge (pc := 10) (tgt := 26) hx hb dX6_add_10 (by decide) (fun cc_4 => ?_) (fun cc_4 => ?_)
    · have hp := hp.1 cc_4
      refine lv_iconst (pc := 26) (v := 0) hx hb dX6_add_26 (by decide) ?_
      exact sx_zret (pc := 27) B hH hr hlk (Or.inl rfl) (by rw [← hQQ]; exact ⟨_, (gI S), rfl, rfl, hp⟩) (Nat.le_of_ble_eq_true rfl) (Nat.le_of_ble_eq_true rfl) dX6_add_27
    · have hp := hp.2 cc_4
      refine lv_aload_n (pc := 13) hx hb dX6_add_13 rfl (lv_at hl 0 rfl) ?_
      refine sx_getR (pc := 14) (j := 0) B hH hk_th coX6 rfl w_385 rfl dX6_add_14 ?_
      refine W.eq (g2 := F0 m 17 ls [va_rf (gR S th 0)]) rfl ?_
      refine sx_nonnull (x := a_2) ha_2 ?_
      refine lv_iload_n (pc := 17) hx hb dX6_add_17 rfl (lv_at hl 1 rfl) ?_
      obtain ⟨hn_5, hp⟩ := hp
      refine sx_iald (pc := 18) B hH hk_3 hn_5 dX6_add_18 ?_
      refine W.eq (g2 := F0 m 19 ls [.int (gI S a_2 p0.toNatClampNeg)]) rfl ?_
      refine lv_aload_n (pc := 19) hx hb dX6_add_19 rfl (lv_at hl 0 rfl) ?_
      refine sx_getI (pc := 20) (j := 1) B hH hk_th coX6 rfl w_386 rfl dX6_add_20 ?_
      refine W.eq (g2 := F0 m 23 ls [.int (gI S th 1), .int (gI S a_2 p0.toNatClampNeg)]) rfl ?_
      refine lv_icmp_ne (pc := 23) (tgt := 28) hx hb dX6_add_23 (by decide) (fun cc_6 => ?_) (fun cc_6 => ?_)
      · have hp := hp.1 cc_6
        refine lv_aload_n (pc := 28) hx hb dX6_add_28 rfl (lv_at hl 0 rfl) ?_
        refine sx_getR (pc := 29) (j := 0) B hH hk_th coX6 rfl w_385 rfl dX6_add_29 ?_
        refine W.eq (g2 := F0 m 32 ls [va_rf (gR S th 0)]) rfl ?_
        refine sx_nonnull (x := a_2) ha_2 ?_
        refine lv_iload_n (pc := 32) hx hb dX6_add_32 rfl (lv_at hl 1 rfl) ?_
        refine lv_aload_n (pc := 33) hx hb dX6_add_33 rfl (lv_at hl 0 rfl) ?_
        refine sx_getI (pc := 34) (j := 1) B hH hk_th coX6 rfl w_386 rfl dX6_add_34 ?_
        refine W.eq (g2 := F0 m 37 ls [.int (gI S th 1), .int p0, .ref a_2]) rfl ?_
        refine lv_topi (fun v_7 ev_7 => ?_)
        have hp := hp v_7 ev_7
        obtain ⟨F_8, eF_8⟩ : ∃ z : Nat → Nat → Int32, z = upI (gI S) a_2 p0.toNatClampNeg v_7 := ⟨_, rfl⟩
        have hp := hp F_8 eF_8
        refine sx_iast (pc := 37) B hH hk_3 hn_5 dX6_add_37 (fun H locs hH => ?_)
        have hH : Hp G (FA S s.heap.size) s.heap (wI S F_8) H locs := by rw [eF_8]; exact hH
        refine lv_iconst (pc := 38) (v := 1) hx hb dX6_add_38 (by decide) ?_
        exact sx_zret (pc := 39) B hH hr hlk (Or.inr rfl) (by rw [← hQQ]; exact ⟨_, F_8, rfl, rfl, hp⟩) (Nat.le_of_ble_eq_true rfl) (Nat.le_of_ble_eq_true rfl) dX6_add_39
      · have hp := hp.2 cc_6
        refine lv_iconst (pc := 26) (v := 0) hx hb dX6_add_26 (by decide) ?_
        exact sx_zret (pc := 27) B hH hr hlk (Or.inl rfl) (by rw [← hQQ]; exact ⟨_, (gI S), rfl, rfl, hp⟩) (Nat.le_of_ble_eq_true rfl) (Nat.le_of_ble_eq_true rfl) dX6_add_27
theorem dX6_stampFalse_0 : decode cX6_stampFalse 0 = .ok (.aload_n 0, 1) := by decide +kernel
theorem dX6_stampFalse_1 : decode cX6_stampFalse 1 = .ok (.aload_n 1, 1) := by decide +kernel
theorem dX6_stampFalse_2 : decode cX6_stampFalse 2 = .ok (.getfield 17, 3) := by decide +kernel
theorem dX6_stampFalse_5 : decode cX6_stampFalse 5 = .ok (.invokevirtual 22, 3) := by decide +kernel
theorem dX6_stampFalse_8 : decode cX6_stampFalse 8 = .ok (.aload_n 0, 1) := by decide +kernel
theorem dX6_stampFalse_9 : decode cX6_stampFalse 9 = .ok (.iconst 0, 1) := by decide +kernel
theorem dX6_stampFalse_10 : decode cX6_stampFalse 10 = .ok (.invokevirtual 26, 3) := by decide +kernel
theorem dX6_stampFalse_13 : decode cX6_stampFalse 13 = .ok (.pop, 1) := by decide +kernel
theorem dX6_stampFalse_14 : decode cX6_stampFalse 14 = .ok (.iconst 0, 1) := by decide +kernel
theorem dX6_stampFalse_15 : decode cX6_stampFalse 15 = .ok (.istore 4, 2) := by decide +kernel
theorem dX6_stampFalse_17 : decode cX6_stampFalse 17 = .ok (.iload_n 3, 1) := by decide +kernel
theorem dX6_stampFalse_18 : decode cX6_stampFalse 18 = .ok (.aload_n 2, 1) := by decide +kernel
theorem dX6_stampFalse_19 : decode cX6_stampFalse 19 = .ok (.invokevirtual 30, 3) := by decide +kernel
theorem dX6_stampFalse_22 : decode cX6_stampFalse 22 = .ok (.iadd, 1) := by decide +kernel
theorem dX6_stampFalse_23 : decode cX6_stampFalse 23 = .ok (.aload_n 2, 1) := by decide +kernel
theorem dX6_stampFalse_24 : decode cX6_stampFalse 24 = .ok (.getfield 36, 3) := by decide +kernel
theorem dX6_stampFalse_27 : decode cX6_stampFalse 27 = .ok (.arraylength, 1) := by decide +kernel
theorem dX6_stampFalse_28 : decode cX6_stampFalse 28 = .ok (.invokestatic 38, 3) := by decide +kernel
theorem dX6_stampFalse_31 : decode cX6_stampFalse 31 = .ok (.istore 5, 2) := by decide +kernel
theorem dX6_stampFalse_33 : decode cX6_stampFalse 33 = .ok (.iload_n 3, 1) := by decide +kernel
theorem dX6_stampFalse_34 : decode cX6_stampFalse 34 = .ok (.istore 6, 2) := by decide +kernel
theorem dX6_stampFalse_36 : decode cX6_stampFalse 36 = .ok (.iload 6, 2) := by decide +kernel
theorem dX6_stampFalse_38 : decode cX6_stampFalse 38 = .ok (.iload 5, 2) := by decide +kernel
theorem dX6_stampFalse_40 : decode cX6_stampFalse 40 = .ok (.if_icmp .ge 67, 3) := by decide +kernel
theorem dX6_stampFalse_43 : decode cX6_stampFalse 43 = .ok (.aload_n 2, 1) := by decide +kernel
theorem dX6_stampFalse_44 : decode cX6_stampFalse 44 = .ok (.getfield 36, 3) := by decide +kernel
theorem dX6_stampFalse_47 : decode cX6_stampFalse 47 = .ok (.iload 6, 2) := by decide +kernel
theorem dX6_stampFalse_49 : decode cX6_stampFalse 49 = .ok (.iaload, 1) := by decide +kernel
theorem dX6_stampFalse_50 : decode cX6_stampFalse 50 = .ok (.aload_n 1, 1) := by decide +kernel
theorem dX6_stampFalse_51 : decode cX6_stampFalse 51 = .ok (.getfield 44, 3) := by decide +kernel
theorem dX6_stampFalse_54 : decode cX6_stampFalse 54 = .ok (.invokestatic 47, 3) := by decide +kernel
theorem dX6_stampFalse_57 : decode cX6_stampFalse 57 = .ok (.istore 7, 2) := by decide +kernel
theorem dX6_stampFalse_59 : decode cX6_stampFalse 59 = .ok (.iload_n 3, 1) := by decide +kernel
theorem dX6_stampFalse_60 : decode cX6_stampFalse 60 = .ok (.istore 8, 2) := by decide +kernel
theorem dX6_stampFalse_62 : decode cX6_stampFalse 62 = .ok (.iload 8, 2) := by decide +kernel
theorem dX6_stampFalse_64 : decode cX6_stampFalse 64 = .ok (.iload 5, 2) := by decide +kernel
theorem dX6_stampFalse_66 : decode cX6_stampFalse 66 = .ok (.if_icmp .ge 35, 3) := by decide +kernel
theorem dX6_stampFalse_69 : decode cX6_stampFalse 69 = .ok (.aload_n 0, 1) := by decide +kernel
theorem dX6_stampFalse_70 : decode cX6_stampFalse 70 = .ok (.aload_n 2, 1) := by decide +kernel
theorem dX6_stampFalse_71 : decode cX6_stampFalse 71 = .ok (.getfield 36, 3) := by decide +kernel
theorem dX6_stampFalse_74 : decode cX6_stampFalse 74 = .ok (.iload 8, 2) := by decide +kernel
theorem dX6_stampFalse_76 : decode cX6_stampFalse 76 = .ok (.iaload, 1) := by decide +kernel
theorem dX6_stampFalse_77 : decode cX6_stampFalse 77 = .ok (.iload 7, 2) := by decide +kernel
theorem dX6_stampFalse_79 : decode cX6_stampFalse 79 = .ok (.aload_n 1, 1) := by decide +kernel
theorem dX6_stampFalse_80 : decode cX6_stampFalse 80 = .ok (.getfield 44, 3) := by decide +kernel
theorem dX6_stampFalse_83 : decode cX6_stampFalse 83 = .ok (.invokestatic 52, 3) := by decide +kernel
theorem dX6_stampFalse_86 : decode cX6_stampFalse 86 = .ok (.invokevirtual 26, 3) := by decide +kernel
theorem dX6_stampFalse_89 : decode cX6_stampFalse 89 = .ok (.ifCond .eq 6, 3) := by decide +kernel
theorem dX6_stampFalse_92 : decode cX6_stampFalse 92 = .ok (.iinc 4 1, 3) := by decide +kernel
theorem dX6_stampFalse_95 : decode cX6_stampFalse 95 = .ok (.iinc 8 1, 3) := by decide +kernel
theorem dX6_stampFalse_98 : decode cX6_stampFalse 98 = .ok (.goto (-36), 3) := by decide +kernel
theorem dX6_stampFalse_101 : decode cX6_stampFalse 101 = .ok (.iinc 6 1, 3) := by decide +kernel
theorem dX6_stampFalse_104 : decode cX6_stampFalse 104 = .ok (.goto (-68), 3) := by decide +kernel
theorem dX6_stampFalse_107 : decode cX6_stampFalse 107 = .ok (.iload 4, 2) := by decide +kernel
theorem dX6_stampFalse_109 : decode cX6_stampFalse 109 = .ok (.ireturn, 1) := by decide +kernel
theorem mi_X6_stampFalse : MI yX6_stampFalse cX6_stampFalse 9 (some FieldType.int) 3 := ⟨w_1025, w_115, by decide +kernel, by decide +kernel, by decide +kernel⟩
set_option maxRecDepth 100000 in
set_option maxHeartbeats 4000000 in
theorem C_X6_stampFalse (G : GG) (l : Launch) (th : Nat) (p0 : Nat) (p1 : Nat) (p2 : Int32) (S : St) (bc bs : Nat) (Q : Int32 → St → Prop) (hp : P_X6_stampFalse th p0 p1 p2 S bc bs Q) : Ctr G l yX6_stampFalse cX6_stampFalse 9 (some FieldType.int) 1 26 bc bs [.ref th, .ref p0, .ref p1, .int p2] S (fun (v : Option Value) (S9 : St) => ∃ r : Int32, v = some (.int r) ∧ Q r S9) := by
  generalize hQQ : (fun (v : Option Value) (S9 : St) => ∃ r : Int32, v = some (.int r) ∧ Q r S9) = QQ
  unfold P_X6_stampFalse at hp
  refine Ctr.of (by decide) (Nat.le_of_ble_eq_true rfl) ?_
  intro p e s m args below meth c ls B hr hlk hin hl hH
  generalize hlocs0 : ([] : List Loc) = locs at hH ⊢
  have hx := B.1
  have hb := B.2.1
  have hl : lv_has ls 9 [(0, .ref th), (1, .ref p0), (2, .ref p1), (3, .int p2)] := hl
  obtain ⟨hk_th, hp⟩ := hp
  refine lv_aload_n (pc := 0) hx hb dX6_stampFalse_0 rfl (lv_at hl 0 rfl) ?_
  refine lv_aload_n (pc := 1) hx hb dX6_stampFalse_1 rfl (lv_at hl 1 rfl) ?_
  obtain ⟨hk_1, hp⟩ := hp
  refine sx_getI (pc := 2) (j := 1) B hH hk_1 coX0 rfl w_360 rfl dX6_stampFalse_2 ?_
  refine W.eq (g2 := F0 m 5 ls [.int (gI S p0 1), .ref th]) rfl ?_
  obtain ⟨c_2, s_2, hb_2, hs_2, hp⟩ := hp
  refine sx_V (pc := 5) (As := [.int (gI S p0 1)]) (rest := []) B hH hl.1 (C_X6_begin G l th (gI S p0 1) _ c_2 s_2 _ hp) mi_X6_begin coX6 hk_th w_1027 w_1028 w_1026 rfl rfl ⟨Nat.le_of_ble_eq_true rfl, Nat.le_of_ble_eq_true rfl⟩ (Nat.le_of_ble_eq_true rfl) ⟨(show _ + c_2 ≤ bc by omega), (show _ + s_2 ≤ bs by omega)⟩ dX6_stampFalse_5 (fun v S1 H locs hq hH => ?_)
  obtain ⟨rfl, hp⟩ := hq
  obtain ⟨S_3, eS_3⟩ : ∃ z : St, z = S1 := ⟨_, rfl⟩
  rw [← eS_3] at hp hH
  refine W.eq (g2 := F0 m 8 ls []) rfl ?_
  refine lv_aload_n (pc := 8) hx hb dX6_stampFalse_8 rfl (lv_at hl 0 rfl) ?_
  refine lv_iconst (pc := 9) (v := 0) hx hb dX6_stampFalse_9 (by decide) ?_
  obtain ⟨hk_4, hp⟩ := hp
  refine sx_V (pc := 10) (As := [.int 0]) (rest := []) B hH hl.1 (C_X6_add G l th 0 _ _ hp) mi_X6_add coX6 hk_4 w_1031 w_1032 w_1030 rfl rfl ⟨Nat.le_of_ble_eq_true rfl, Nat.le_of_ble_eq_true rfl⟩ (Nat.le_of_ble_eq_true rfl) ⟨(show _ + 0 ≤ bc by omega), (show _ + 0 ≤ bs by omega)⟩ dX6_stampFalse_10 (fun v S1 H locs hq hH => ?_)
  obtain ⟨r_5, F_5, rfl, e9, hp⟩ := hq
  rw [e9] at hH
  have hH : Hp G (FA S s.heap.size) s.heap (wI S_3 F_5) H locs := hH
  refine W.eq (g2 := F0 m 13 ls [.int r_5]) rfl ?_
  refine lv_pop (pc := 13) (va := .int r_5) hx hb dX6_stampFalse_13 rfl ?_
  refine lv_iconst (pc := 14) (v := 0) hx hb dX6_stampFalse_14 (by decide) ?_
  refine lv_istore (pc := 15) (lv' := [(4, .int 0), (0, .ref th), (1, .ref p0), (2, .ref p1), (3, .int p2)]) hx hb dX6_stampFalse_15 hl (by decide) rfl (fun ls hl => ?_)
  refine lv_iload_n (pc := 17) hx hb dX6_stampFalse_17 rfl (lv_at hl 4 rfl) ?_
  refine lv_aload_n (pc := 18) hx hb dX6_stampFalse_18 rfl (lv_at hl 3 rfl) ?_
  obtain ⟨hk_6, hp⟩ := hp
  refine sx_V (pc := 19) (As := []) (rest := [.int p2]) B hH hl.1 (C_X3_length G l p1 _ _ hp) mi_X3_length coX3 hk_6 w_784 w_785 w_1034 rfl rfl ⟨Nat.le_of_ble_eq_true rfl, Nat.le_of_ble_eq_true rfl⟩ (Nat.le_of_ble_eq_true rfl) ⟨(show _ + 0 ≤ bc by omega), (show _ + 0 ≤ bs by omega)⟩ dX6_stampFalse_19 (fun v S1 H locs hq hH => ?_)
  obtain ⟨r_7, rfl, e9, hp⟩ := hq
  rw [e9] at hH
  refine W.eq (g2 := F0 m 22 ls [.int r_7, .int p2]) rfl ?_
  refine lv_iadd (pc := 22) hx hb dX6_stampFalse_22 ?_
  refine lv_aload_n (pc := 23) hx hb dX6_stampFalse_23 rfl (lv_at hl 3 rfl) ?_
  refine sx_getR (pc := 24) (j := 2) B hH hk_6 coX3 rfl w_717 rfl dX6_stampFalse_24 ?_
  refine W.eq (g2 := F0 m 27 ls [va_rf (gR S_3 p1 2), .int (p2 + r_7)]) rfl ?_
  obtain ⟨a_8, ha_8, hp⟩ := hp
  refine sx_nonnull (x := a_8) ha_8 ?_
  obtain ⟨hk_9, hp⟩ := hp
  refine sx_alen (pc := 27) B hH hk_9 (by decide) (by decide) dX6_stampFalse_27 ?_
  refine W.eq (g2 := F0 m 28 ls [.int (nI (ln S_3 a_8)), .int (p2 + r_7)]) rfl ?_
  refine sx_min (pc := 28) B hl.1 w_1035 w_600 w_121 w_min (Nat.le_of_ble_eq_true rfl) (Nat.le_of_ble_eq_true rfl) (show _ ≤ bc by omega) (show _ ≤ bs by omega) dX6_stampFalse_28 ?_
  refine W.eq (g2 := F0 m 31 ls [.int (imin (p2 + r_7) (nI (ln S_3 a_8)))]) rfl ?_
  refine lv_topi (fun v_10 ev_10 => ?_)
  have hp := hp v_10 ev_10
  refine lv_istore (pc := 31) (lv' := [(5, .int v_10), (4, .int 0), (0, .ref th), (1, .ref p0), (2, .ref p1), (3, .int p2)]) hx hb dX6_stampFalse_31 hl (by decide) rfl (fun ls hl => ?_)
  refine lv_iload_n (pc := 33) hx hb dX6_stampFalse_33 rfl (lv_at hl 5 rfl) ?_
  refine lv_istore (pc := 34) (lv' := [(6, .int p2), (5, .int v_10), (4, .int 0), (0, .ref th), (1, .ref p0), (2, .ref p1), (3, .int p2)]) hx hb dX6_stampFalse_34 hl (by decide) rfl (fun ls hl => ?_)
  obtain ⟨I_11, ⟨k0_11, h0_11⟩, hst_11⟩ := hp
  have kl_11 : ∀ (n_11 : Nat) (x4_12 : Int32) (x6_13 : Int32) (F_14 : Nat → Nat → Int32) (H : Heap) (locs : List Loc) (ls : Array Slot) (cells slots : Nat), I_11 n_11 x4_12 x6_13 F_14 → cells + (bc - c_2) ≤ bc → slots + (bs - s_2) ≤ bs → Hp G (FA S s.heap.size) s.heap (wI S_3 F_14) H locs → lv_has ls 9 [(0, .ref th), (1, .ref p0), (2, .ref p1), (3, .int p2), (4, .int x4_12), (5, .int v_10), (6, .int x6_13)] → Wm G p l e { frames := 1, cells := bc, slots := bs, locals := 26 } s m args below meth c S QQ bc bs H locs cells slots (F0 m 36 ls []) := by
    intro n_11
    induction n_11 using Nat.strongRecOn with
    | ind n_11 ih_11 =>
      intro x4_12 x6_13 F_14 H locs ls cells slots hq9 hcc_11 hss_11 hH hl
      have hp := hst_11 n_11 x4_12 x6_13 F_14 hq9
      refine lv_iload (pc := 36) hx hb dX6_stampFalse_36 (lv_at hl 6 rfl) ?_
      refine lv_iload (pc := 38) hx hb dX6_stampFalse_38 (lv_at hl 5 rfl) ?_
      refine lv_icmp_ge (pc := 40) (tgt := 107) hx hb dX6_stampFalse_40 (by decide) (fun cc_15 => ?_) (fun cc_15 => ?_)
      · have hp := hp.1 cc_15
        refine lv_iload (pc := 107) hx hb dX6_stampFalse_107 (lv_at hl 4 rfl) ?_
        exact sx_iret (pc := 109) B hH hr hlk (by rw [← hQQ]; exact ⟨_, rfl, hp⟩) (show _ ≤ bc by omega) (show _ ≤ bs by omega) dX6_stampFalse_109
      · have hp := hp.2 cc_15
        refine lv_aload_n (pc := 43) hx hb dX6_stampFalse_43 rfl (lv_at hl 2 rfl) ?_
        refine sx_getR (pc := 44) (j := 2) B hH hk_6 coX3 rfl w_717 rfl dX6_stampFalse_44 ?_
        refine W.eq (g2 := F0 m 47 ls [va_rf (gR S_3 p1 2)]) rfl ?_
        refine sx_nonnull (x := a_8) ha_8 ?_
        refine lv_iload (pc := 47) hx hb dX6_stampFalse_47 (lv_at hl 6 rfl) ?_
        obtain ⟨hn_16, hp⟩ := hp
        refine sx_iald (pc := 49) B hH hk_9 hn_16 dX6_stampFalse_49 ?_
        refine W.eq (g2 := F0 m 50 ls [.int (F_14 a_8 x6_13.toNatClampNeg)]) rfl ?_
        refine lv_aload_n (pc := 50) hx hb dX6_stampFalse_50 rfl (lv_at hl 1 rfl) ?_
        obtain ⟨hk_17, hp⟩ := hp
        refine sx_getI (pc := 51) (j := 0) B hH hk_17 coX0 rfl w_355 rfl dX6_stampFalse_51 ?_
        refine W.eq (g2 := F0 m 54 ls [.int (F_14 p0 0), .int (F_14 a_8 x6_13.toNatClampNeg)]) rfl ?_
        refine sx_S (pc := 54) (As := [.int (F_14 a_8 x6_13.toNatClampNeg), .int (F_14 p0 0)]) (rest := []) B hH hl.1 (C_X4_invert G l (F_14 a_8 x6_13.toNatClampNeg) (F_14 p0 0) _ _ hp) mi_X4_invert w_903 w_1036 rfl rfl ⟨Nat.le_of_ble_eq_true rfl, Nat.le_of_ble_eq_true rfl⟩ (Nat.le_of_ble_eq_true rfl) ⟨(show _ + 0 ≤ bc by omega), (show _ + 0 ≤ bs by omega)⟩ dX6_stampFalse_54 (fun v S1 H locs hq hH => ?_)
        obtain ⟨r_18, rfl, e9, hp⟩ := hq
        rw [e9] at hH
        refine W.eq (g2 := F0 m 57 ls [.int r_18]) rfl ?_
        refine lv_istore (pc := 57) (lv' := [(7, .int r_18), (0, .ref th), (1, .ref p0), (2, .ref p1), (3, .int p2), (4, .int x4_12), (5, .int v_10), (6, .int x6_13)]) hx hb dX6_stampFalse_57 hl (by decide) rfl (fun ls hl => ?_)
        refine lv_iload_n (pc := 59) hx hb dX6_stampFalse_59 rfl (lv_at hl 4 rfl) ?_
        refine lv_istore (pc := 60) (lv' := [(8, .int p2), (7, .int r_18), (0, .ref th), (1, .ref p0), (2, .ref p1), (3, .int p2), (4, .int x4_12), (5, .int v_10), (6, .int x6_13)]) hx hb dX6_stampFalse_60 hl (by decide) rfl (fun ls hl => ?_)
        obtain ⟨I_19, ⟨k0_19, h0_19⟩, hst_19⟩ := hp
        have kl_19 : ∀ (n_19 : Nat) (x4_20 : Int32) (x8_21 : Int32) (F_22 : Nat → Nat → Int32) (H : Heap) (locs : List Loc) (ls : Array Slot) (cells slots : Nat), I_19 n_19 x4_20 x8_21 F_22 → cells + (bc - c_2) ≤ bc → slots + (bs - s_2) ≤ bs → Hp G (FA S s.heap.size) s.heap (wI S_3 F_22) H locs → lv_has ls 9 [(0, .ref th), (1, .ref p0), (2, .ref p1), (3, .int p2), (4, .int x4_20), (5, .int v_10), (6, .int x6_13), (7, .int r_18), (8, .int x8_21)] → Wm G p l e { frames := 1, cells := bc, slots := bs, locals := 26 } s m args below meth c S QQ bc bs H locs cells slots (F0 m 62 ls []) := by
          intro n_19
          induction n_19 using Nat.strongRecOn with
          | ind n_19 ih_19 =>
            intro x4_20 x8_21 F_22 H locs ls cells slots hq9 hcc_19 hss_19 hH hl
            have hp := hst_19 n_19 x4_20 x8_21 F_22 hq9
            refine lv_iload (pc := 62) hx hb dX6_stampFalse_62 (lv_at hl 8 rfl) ?_
            refine lv_iload (pc := 64) hx hb dX6_stampFalse_64 (lv_at hl 5 rfl) ?_
            refine lv_icmp_ge (pc := 66) (tgt := 101) hx hb dX6_stampFalse_66 (by decide) (fun cc_23 => ?_) (fun cc_23 => ?_)
            · have hp := hp.1 cc_23
              obtain ⟨v_24, ev_24⟩ : ∃ y : Int32, y = x6_13 + 1 := ⟨_, rfl⟩
              have hp := hp v_24 ev_24
              refine lv_iinc (pc := 101) (v := v_24) (lv' := [(6, .int v_24), (0, .ref th), (1, .ref p0), (2, .ref p1), (3, .int p2), (4, .int x4_20), (5, .int v_10), (7, .int r_18), (8, .int x8_21)]) hx hb dX6_stampFalse_101 hl (k := 6) rfl (by rw [ev_24]; rfl) (by decide) rfl (fun ls hl => ?_)
              refine lv_goto (pc := 104) (tgt := 36) hx hb dX6_stampFalse_104 (by decide) ?_
              obtain ⟨k9, hlt9, hp⟩ := hp
              exact ih_11 k9 hlt9 _ _ _ _ _ _ _ _ hp (show _ + (bc - c_2) ≤ bc by omega) (show _ + (bs - s_2) ≤ bs by omega) hH (lv_sub hl [1, 2, 3, 4, 5, 6, 0] rfl)
            · have hp := hp.2 cc_23
              refine lv_aload_n (pc := 69) hx hb dX6_stampFalse_69 rfl (lv_at hl 0 rfl) ?_
              refine lv_aload_n (pc := 70) hx hb dX6_stampFalse_70 rfl (lv_at hl 2 rfl) ?_
              refine sx_getR (pc := 71) (j := 2) B hH hk_6 coX3 rfl w_717 rfl dX6_stampFalse_71 ?_
              refine W.eq (g2 := F0 m 74 ls [va_rf (gR S_3 p1 2), .ref th]) rfl ?_
              refine sx_nonnull (x := a_8) ha_8 ?_
              refine lv_iload (pc := 74) hx hb dX6_stampFalse_74 (lv_at hl 8 rfl) ?_
              obtain ⟨hn_25, hp⟩ := hp
              refine sx_iald (pc := 76) B hH hk_9 hn_25 dX6_stampFalse_76 ?_
              refine W.eq (g2 := F0 m 77 ls [.int (F_22 a_8 x8_21.toNatClampNeg), .ref th]) rfl ?_
              refine lv_iload (pc := 77) hx hb dX6_stampFalse_77 (lv_at hl 7 rfl) ?_
              refine lv_aload_n (pc := 79) hx hb dX6_stampFalse_79 rfl (lv_at hl 1 rfl) ?_
              refine sx_getI (pc := 80) (j := 0) B hH hk_17 coX0 rfl w_355 rfl dX6_stampFalse_80 ?_
              refine W.eq (g2 := F0 m 83 ls [.int (F_22 p0 0), .int r_18, .int (F_22 a_8 x8_21.toNatClampNeg), .ref th]) rfl ?_
              refine sx_S (pc := 83) (As := [.int (F_22 a_8 x8_21.toNatClampNeg), .int r_18, .int (F_22 p0 0)]) (rest := [.ref th]) B hH hl.1 (C_X4_rankMultiplied G l (F_22 a_8 x8_21.toNatClampNeg) r_18 (F_22 p0 0) _ _ hp) mi_X4_rankMultiplied w_896 w_1037 rfl rfl ⟨Nat.le_of_ble_eq_true rfl, Nat.le_of_ble_eq_true rfl⟩ (Nat.le_of_ble_eq_true rfl) ⟨(show _ + 0 ≤ bc by omega), (show _ + 0 ≤ bs by omega)⟩ dX6_stampFalse_83 (fun v S1 H locs hq hH => ?_)
              obtain ⟨r_26, rfl, e9, hp⟩ := hq
              rw [e9] at hH
              refine W.eq (g2 := F0 m 86 ls [.int r_26, .ref th]) rfl ?_
              refine sx_V (pc := 86) (As := [.int r_26]) (rest := []) B hH hl.1 (C_X6_add G l th r_26 _ _ hp) mi_X6_add coX6 hk_4 w_1031 w_1032 w_1030 rfl rfl ⟨Nat.le_of_ble_eq_true rfl, Nat.le_of_ble_eq_true rfl⟩ (Nat.le_of_ble_eq_true rfl) ⟨(show _ + 0 ≤ bc by omega), (show _ + 0 ≤ bs by omega)⟩ dX6_stampFalse_86 (fun v S1 H locs hq hH => ?_)
              obtain ⟨r_27, F_27, rfl, e9, hp⟩ := hq
              rw [e9] at hH
              have hH : Hp G (FA S s.heap.size) s.heap (wI S_3 F_27) H locs := hH
              refine W.eq (g2 := F0 m 89 ls [.int r_27]) rfl ?_
              refine lv_if_eq (pc := 89) (tgt := 95) hx hb dX6_stampFalse_89 (by decide) (fun cc_28 => ?_) (fun cc_28 => ?_)
              · have hp := hp.1 cc_28
                obtain ⟨v_29, ev_29⟩ : ∃ y : Int32, y = x8_21 + 1 := ⟨_, rfl⟩
                have hp := hp v_29 ev_29
                refine lv_iinc (pc := 95) (v := v_29) (lv' := [(8, .int v_29), (0, .ref th), (1, .ref p0), (2, .ref p1), (3, .int p2), (4, .int x4_20), (5, .int v_10), (6, .int x6_13), (7, .int r_18)]) hx hb dX6_stampFalse_95 hl (k := 8) rfl (by rw [ev_29]; rfl) (by decide) rfl (fun ls hl => ?_)
                refine lv_goto (pc := 98) (tgt := 62) hx hb dX6_stampFalse_98 (by decide) ?_
                obtain ⟨k9, hlt9, hp⟩ := hp
                exact ih_19 k9 hlt9 _ _ _ _ _ _ _ _ hp (show _ + (bc - c_2) ≤ bc by omega) (show _ + (bs - s_2) ≤ bs by omega) hH (lv_sub hl [1, 2, 3, 4, 5, 6, 7, 8, 0] rfl)
              · have hp := hp.2 cc_28
                obtain ⟨v_30, ev_30⟩ : ∃ y : Int32, y = x4_20 + 1 := ⟨_, rfl⟩
                have hp := hp v_30 ev_30
                refine lv_iinc (pc := 92) (v := v_30) (lv' := [(4, .int v_30), (0, .ref th), (1, .ref p0), (2, .ref p1), (3, .int p2), (5, .int v_10), (6, .int x6_13), (7, .int r_18), (8, .int x8_21)]) hx hb dX6_stampFalse_92 hl (k := 4) rfl (by rw [ev_30]; rfl) (by decide) rfl (fun ls hl => ?_)
                obtain ⟨v_31, ev_31⟩ : ∃ y : Int32, y = x8_21 + 1 := ⟨_, rfl⟩
                have hp := hp v_31 ev_31
                refine lv_iinc (pc := 95) (v := v_31) (lv' := [(8, .int v_31), (4, .int v_30), (0, .ref th), (1, .ref p0), (2, .ref p1), (3, .int p2), (5, .int v_10), (6, .int x6_13), (7, .int r_18)]) hx hb dX6_stampFalse_95 hl (k := 8) rfl (by rw [ev_31]; rfl) (by decide) rfl (fun ls hl => ?_)
                refine lv_goto (pc := 98) (tgt := 62) hx hb dX6_stampFalse_98 (by decide) ?_
                obtain ⟨k9, hlt9, hp⟩ := hp
                exact ih_19 k9 hlt9 _ _ _ _ _ _ _ _ hp (show _ + (bc - c_2) ≤ bc by omega) (show _ + (bs - s_2) ≤ bs by omega) hH (lv_sub hl [2, 3, 4, 5, 1, 6, 7, 8, 0] rfl)
        exact kl_19 k0_19 _ _ _ _ _ _ _ _ h0_19 (show _ + (bc - c_2) ≤ bc by omega) (show _ + (bs - s_2) ≤ bs by omega) hH (lv_sub hl [2, 3, 4, 5, 6, 7, 8, 1, 0] rfl)
  exact kl_11 k0_11 _ _ _ _ _ _ _ _ h0_11 (show _ + (bc - c_2) ≤ bc by omega) (show _ + (bs - s_2) ≤ bs by omega) hH (lv_sub hl [3, 4, 5, 6, 2, 1, 0] rfl)
theorem dX8_nextLike_0 : decode cX8_nextLike 0 = .ok (.iconst 1, 1) := by decide +kernel
theorem dX8_nextLike_1 : decode cX8_nextLike 1 = .ok (.istore_n 2, 1) := by decide +kernel
theorem dX8_nextLike_2 : decode cX8_nextLike 2 = .ok (.iload_n 2, 1) := by decide +kernel
theorem dX8_nextLike_3 : decode cX8_nextLike 3 = .ok (.aload_n 0, 1) := by decide +kernel
theorem dX8_nextLike_4 : decode cX8_nextLike 4 = .ok (.getfield 22, 3) := by decide +kernel
theorem dX8_nextLike_7 : decode cX8_nextLike 7 = .ok (.arraylength, 1) := by decide +kernel
theorem dX8_nextLike_8 : decode cX8_nextLike 8 = .ok (.if_icmp .ge 21, 3) := by decide +kernel
theorem dX8_nextLike_11 : decode cX8_nextLike 11 = .ok (.aload_n 0, 1) := by decide +kernel
theorem dX8_nextLike_12 : decode cX8_nextLike 12 = .ok (.getfield 22, 3) := by decide +kernel
theorem dX8_nextLike_15 : decode cX8_nextLike 15 = .ok (.iload_n 2, 1) := by decide +kernel
theorem dX8_nextLike_16 : decode cX8_nextLike 16 = .ok (.iaload, 1) := by decide +kernel
theorem dX8_nextLike_17 : decode cX8_nextLike 17 = .ok (.iload_n 1, 1) := by decide +kernel
theorem dX8_nextLike_18 : decode cX8_nextLike 18 = .ok (.if_icmp .ne 5, 3) := by decide +kernel
theorem dX8_nextLike_21 : decode cX8_nextLike 21 = .ok (.iload_n 2, 1) := by decide +kernel
theorem dX8_nextLike_22 : decode cX8_nextLike 22 = .ok (.ireturn, 1) := by decide +kernel
theorem dX8_nextLike_23 : decode cX8_nextLike 23 = .ok (.iinc 2 1, 3) := by decide +kernel
theorem dX8_nextLike_26 : decode cX8_nextLike 26 = .ok (.goto (-24), 3) := by decide +kernel
theorem dX8_nextLike_29 : decode cX8_nextLike 29 = .ok (.iconst (-1), 1) := by decide +kernel
theorem dX8_nextLike_30 : decode cX8_nextLike 30 = .ok (.ireturn, 1) := by decide +kernel
theorem mi_X8_nextLike : MI yX8_nextLike cX8_nextLike 3 (some FieldType.int) 1 := ⟨w_1069, w_124, by decide +kernel, by decide +kernel, by decide +kernel⟩
set_option maxRecDepth 100000 in
set_option maxHeartbeats 4000000 in
theorem C_X8_nextLike (G : GG) (l : Launch) (th : Nat) (p0 : Int32) (S : St) (Q : Int32 → Prop) (hp : P_X8_nextLike th p0 S Q) : Ctr G l yX8_nextLike cX8_nextLike 3 (some FieldType.int) 0 0 0 0 [.ref th, .int p0] S (fun (v : Option Value) (S9 : St) => ∃ (r : Int32), v = some (.int r) ∧ S9 = S ∧ Q r ) := by
  generalize hQQ : (fun (v : Option Value) (S9 : St) => ∃ (r : Int32), v = some (.int r) ∧ S9 = S ∧ Q r ) = QQ
  unfold P_X8_nextLike at hp
  refine Ctr.of (by decide) (Nat.le_of_ble_eq_true rfl) ?_
  intro p e s m args below meth c ls B hr hlk hin hl hH
  generalize hlocs0 : ([] : List Loc) = locs at hH ⊢
  have hx := B.1
  have hb := B.2.1
  have hl : lv_has ls 3 [(0, .ref th), (1, .int p0)] := hl
  obtain ⟨hk_th, hp⟩ := hp
  refine lv_iconst (pc := 0) (v := 1) hx hb dX8_nextLike_0 (by decide) ?_
  refine lv_istore_n (pc := 1) (lv' := [(2, .int 1), (0, .ref th), (1, .int p0)]) hx hb dX8_nextLike_1 rfl hl (by decide) rfl (fun ls hl => ?_)
  obtain ⟨I_1, ⟨k0_1, h0_1⟩, hst_1⟩ := hp
  have kl_1 : ∀ (n_1 : Nat) (x2_2 : Int32) (H : Heap) (locs : List Loc) (ls : Array Slot), I_1 n_1 x2_2 → Hp G (FA S s.heap.size) s.heap S H locs → lv_has ls 3 [(0, .ref th), (1, .int p0), (2, .int x2_2)] → Wm G p l e { frames := 0, cells := 0, slots := 0, locals := 0 } s m args below meth c S QQ 0 0 H locs 0 0 (F0 m 2 ls []) := by
    intro n_1
    induction n_1 using Nat.strongRecOn with
    | ind n_1 ih_1 =>
      intro x2_2 H locs ls hq9 hH hl
      have hp := hst_1 n_1 x2_2 hq9
      refine lv_iload_n (pc := 2) hx hb dX8_nextLike_2 rfl (lv_at hl 2 rfl) ?_
      refine lv_aload_n (pc := 3) hx hb dX8_nextLike_3 rfl (lv_at hl 0 rfl) ?_
      refine sx_getR (pc := 4) (j := 3) B hH hk_th coX8 rfl w_826 rfl dX8_nextLike_4 ?_
      refine W.eq (g2 := F0 m 7 ls [va_rf (gR S th 3), .int x2_2]) rfl ?_
      obtain ⟨a_3, ha_3, hp⟩ := hp
      refine sx_nonnull (x := a_3) ha_3 ?_
      obtain ⟨hk_4, hp⟩ := hp
      refine sx_alen (pc := 7) B hH hk_4 (by decide) (by decide) dX8_nextLike_7 ?_
      refine W.eq (g2 := F0 m 8 ls [.int (nI (ln S a_3)), .int x2_2]) rfl ?_
      refine lv_icmp_ge (pc := 8) (tgt := 29) hx hb dX8_nextLike_8 (by decide) (fun cc_5 => ?_) (fun cc_5 => ?_)
      · have hp := hp.1 cc_5
        refine lv_iconst (pc := 29) (v := (-1)) hx hb dX8_nextLike_29 (by decide) ?_
        exact sx_iret (pc := 30) B hH hr hlk (by rw [← hQQ]; exact ⟨_, rfl, rfl, hp⟩) (Nat.le_of_ble_eq_true rfl) (Nat.le_of_ble_eq_true rfl) dX8_nextLike_30
      · have hp := hp.2 cc_5
        refine lv_aload_n (pc := 11) hx hb dX8_nextLike_11 rfl (lv_at hl 0 rfl) ?_
        refine sx_getR (pc := 12) (j := 3) B hH hk_th coX8 rfl w_826 rfl dX8_nextLike_12 ?_
        refine W.eq (g2 := F0 m 15 ls [va_rf (gR S th 3)]) rfl ?_
        refine sx_nonnull (x := a_3) ha_3 ?_
        refine lv_iload_n (pc := 15) hx hb dX8_nextLike_15 rfl (lv_at hl 2 rfl) ?_
        obtain ⟨hn_6, hp⟩ := hp
        refine sx_iald (pc := 16) B hH hk_4 hn_6 dX8_nextLike_16 ?_
        refine W.eq (g2 := F0 m 17 ls [.int (gI S a_3 x2_2.toNatClampNeg)]) rfl ?_
        refine lv_iload_n (pc := 17) hx hb dX8_nextLike_17 rfl (lv_at hl 1 rfl) ?_
        refine lv_icmp_ne (pc := 18) (tgt := 23) hx hb dX8_nextLike_18 (by decide) (fun cc_7 => ?_) (fun cc_7 => ?_)
        · have hp := hp.1 cc_7
          obtain ⟨v_8, ev_8⟩ : ∃ y : Int32, y = x2_2 + 1 := ⟨_, rfl⟩
          have hp := hp v_8 ev_8
          refine lv_iinc (pc := 23) (v := v_8) (lv' := [(2, .int v_8), (0, .ref th), (1, .int p0)]) hx hb dX8_nextLike_23 hl (k := 2) rfl (by rw [ev_8]; rfl) (by decide) rfl (fun ls hl => ?_)
          refine lv_goto (pc := 26) (tgt := 2) hx hb dX8_nextLike_26 (by decide) ?_
          obtain ⟨k9, hlt9, hp⟩ := hp
          exact ih_1 k9 hlt9 _ _ _ _ hp hH (lv_sub hl [1, 2, 0] rfl)
        · have hp := hp.2 cc_7
          refine lv_iload_n (pc := 21) hx hb dX8_nextLike_21 rfl (lv_at hl 2 rfl) ?_
          exact sx_iret (pc := 22) B hH hr hlk (by rw [← hQQ]; exact ⟨_, rfl, rfl, hp⟩) (Nat.le_of_ble_eq_true rfl) (Nat.le_of_ble_eq_true rfl) dX8_nextLike_22
  exact kl_1 k0_1 _ _ _ _ h0_1 hH (lv_sub hl [1, 2, 0] rfl)
theorem dX8_firstRounds_0 : decode cX8_firstRounds 0 = .ok (.aload_n 0, 1) := by decide +kernel
theorem dX8_firstRounds_1 : decode cX8_firstRounds 1 = .ok (.aload_n 0, 1) := by decide +kernel
theorem dX8_firstRounds_2 : decode cX8_firstRounds 2 = .ok (.getfield 22, 3) := by decide +kernel
theorem dX8_firstRounds_5 : decode cX8_firstRounds 5 = .ok (.iconst 0, 1) := by decide +kernel
theorem dX8_firstRounds_6 : decode cX8_firstRounds 6 = .ok (.iaload, 1) := by decide +kernel
theorem dX8_firstRounds_7 : decode cX8_firstRounds 7 = .ok (.invokevirtual 36, 3) := by decide +kernel
theorem dX8_firstRounds_10 : decode cX8_firstRounds 10 = .ok (.ireturn, 1) := by decide +kernel
theorem mi_X8_firstRounds : MI yX8_firstRounds cX8_firstRounds 1 (some FieldType.int) 0 := ⟨w_1065, w_124, by decide +kernel, by decide +kernel, by decide +kernel⟩
set_option maxRecDepth 100000 in
set_option maxHeartbeats 4000000 in
theorem C_X8_firstRounds (G : GG) (l : Launch) (th : Nat) (S : St) (Q : Int32 → Prop) (hp : P_X8_firstRounds th S Q) : Ctr G l yX8_firstRounds cX8_firstRounds 1 (some FieldType.int) 1 22 0 0 [.ref th] S (fun (v : Option Value) (S9 : St) => ∃ (r : Int32), v = some (.int r) ∧ S9 = S ∧ Q r ) := by
  generalize hQQ : (fun (v : Option Value) (S9 : St) => ∃ (r : Int32), v = some (.int r) ∧ S9 = S ∧ Q r ) = QQ
  unfold P_X8_firstRounds at hp
  refine Ctr.of (by decide) (Nat.le_of_ble_eq_true rfl) ?_
  intro p e s m args below meth c ls B hr hlk hin hl hH
  generalize hlocs0 : ([] : List Loc) = locs at hH ⊢
  have hx := B.1
  have hb := B.2.1
  have hl : lv_has ls 1 [(0, .ref th)] := hl
  obtain ⟨hk_th, hp⟩ := hp
  refine lv_aload_n (pc := 0) hx hb dX8_firstRounds_0 rfl (lv_at hl 0 rfl) ?_
  refine lv_aload_n (pc := 1) hx hb dX8_firstRounds_1 rfl (lv_at hl 0 rfl) ?_
  refine sx_getR (pc := 2) (j := 3) B hH hk_th coX8 rfl w_826 rfl dX8_firstRounds_2 ?_
  refine W.eq (g2 := F0 m 5 ls [va_rf (gR S th 3), .ref th]) rfl ?_
  obtain ⟨a_1, ha_1, hp⟩ := hp
  refine sx_nonnull (x := a_1) ha_1 ?_
  refine lv_iconst (pc := 5) (v := 0) hx hb dX8_firstRounds_5 (by decide) ?_
  obtain ⟨hk_2, hp⟩ := hp
  obtain ⟨hn_3, hp⟩ := hp
  refine sx_iald (pc := 6) B hH hk_2 hn_3 dX8_firstRounds_6 ?_
  refine W.eq (g2 := F0 m 7 ls [.int (gI S a_1 0), .ref th]) rfl ?_
  refine sx_V (pc := 7) (As := [.int (gI S a_1 0)]) (rest := []) B hH hl.1 (C_X8_nextLike G l th (gI S a_1 0) _ _ hp) mi_X8_nextLike coX8 hk_th w_1068 w_33 w_1066 rfl rfl ⟨Nat.le_of_ble_eq_true rfl, Nat.le_of_ble_eq_true rfl⟩ (Nat.le_of_ble_eq_true rfl) ⟨Nat.le_of_ble_eq_true rfl, Nat.le_of_ble_eq_true rfl⟩ dX8_firstRounds_7 (fun v S1 H locs hq hH => ?_)
  obtain ⟨r_4, rfl, e9, hp⟩ := hq
  rw [e9] at hH
  refine W.eq (g2 := F0 m 10 ls [.int r_4]) rfl ?_
  exact sx_iret (pc := 10) B hH hr hlk (by rw [← hQQ]; exact ⟨_, rfl, rfl, hp⟩) (Nat.le_of_ble_eq_true rfl) (Nat.le_of_ble_eq_true rfl) dX8_firstRounds_10
theorem dX8_secondAlike_0 : decode cX8_secondAlike 0 = .ok (.aload_n 1, 1) := by decide +kernel
theorem dX8_secondAlike_1 : decode cX8_secondAlike 1 = .ok (.aload_n 0, 1) := by decide +kernel
theorem dX8_secondAlike_2 : decode cX8_secondAlike 2 = .ok (.getfield 9, 3) := by decide +kernel
theorem dX8_secondAlike_5 : decode cX8_secondAlike 5 = .ok (.invokestatic 39, 3) := by decide +kernel
theorem dX8_secondAlike_8 : decode cX8_secondAlike 8 = .ok (.invokevirtual 42, 3) := by decide +kernel
theorem dX8_secondAlike_11 : decode cX8_secondAlike 11 = .ok (.iconst 1, 1) := by decide +kernel
theorem dX8_secondAlike_12 : decode cX8_secondAlike 12 = .ok (.istore_n 2, 1) := by decide +kernel
theorem dX8_secondAlike_13 : decode cX8_secondAlike 13 = .ok (.iload_n 2, 1) := by decide +kernel
theorem dX8_secondAlike_14 : decode cX8_secondAlike 14 = .ok (.aload_n 0, 1) := by decide +kernel
theorem dX8_secondAlike_15 : decode cX8_secondAlike 15 = .ok (.getfield 22, 3) := by decide +kernel
theorem dX8_secondAlike_18 : decode cX8_secondAlike 18 = .ok (.arraylength, 1) := by decide +kernel
theorem dX8_secondAlike_19 : decode cX8_secondAlike 19 = .ok (.if_icmp .ge 31, 3) := by decide +kernel
theorem dX8_secondAlike_22 : decode cX8_secondAlike 22 = .ok (.aload_n 1, 1) := by decide +kernel
theorem dX8_secondAlike_23 : decode cX8_secondAlike 23 = .ok (.aload_n 0, 1) := by decide +kernel
theorem dX8_secondAlike_24 : decode cX8_secondAlike 24 = .ok (.getfield 22, 3) := by decide +kernel
theorem dX8_secondAlike_27 : decode cX8_secondAlike 27 = .ok (.iload_n 2, 1) := by decide +kernel
theorem dX8_secondAlike_28 : decode cX8_secondAlike 28 = .ok (.iaload, 1) := by decide +kernel
theorem dX8_secondAlike_29 : decode cX8_secondAlike 29 = .ok (.aload_n 0, 1) := by decide +kernel
theorem dX8_secondAlike_30 : decode cX8_secondAlike 30 = .ok (.getfield 9, 3) := by decide +kernel
theorem dX8_secondAlike_33 : decode cX8_secondAlike 33 = .ok (.invokestatic 48, 3) := by decide +kernel
theorem dX8_secondAlike_36 : decode cX8_secondAlike 36 = .ok (.invokevirtual 51, 3) := by decide +kernel
theorem dX8_secondAlike_39 : decode cX8_secondAlike 39 = .ok (.ifCond .ne 5, 3) := by decide +kernel
theorem dX8_secondAlike_42 : decode cX8_secondAlike 42 = .ok (.iload_n 2, 1) := by decide +kernel
theorem dX8_secondAlike_43 : decode cX8_secondAlike 43 = .ok (.ireturn, 1) := by decide +kernel
theorem dX8_secondAlike_44 : decode cX8_secondAlike 44 = .ok (.iinc 2 1, 3) := by decide +kernel
theorem dX8_secondAlike_47 : decode cX8_secondAlike 47 = .ok (.goto (-34), 3) := by decide +kernel
theorem dX8_secondAlike_50 : decode cX8_secondAlike 50 = .ok (.iconst (-1), 1) := by decide +kernel
theorem dX8_secondAlike_51 : decode cX8_secondAlike 51 = .ok (.ireturn, 1) := by decide +kernel
theorem mi_X8_secondAlike : MI yX8_secondAlike cX8_secondAlike 3 (some FieldType.int) 1 := ⟨w_1077, w_124, by decide +kernel, by decide +kernel, by decide +kernel⟩
set_option maxRecDepth 100000 in
set_option maxHeartbeats 4000000 in
theorem C_X8_secondAlike (G : GG) (l : Launch) (th : Nat) (p0 : Nat) (S : St) (bc bs : Nat) (Q : Int32 → St → Prop) (hp : P_X8_secondAlike th p0 S bc bs Q) : Ctr G l yX8_secondAlike cX8_secondAlike 3 (some FieldType.int) 1 25 bc bs [.ref th, .ref p0] S (fun (v : Option Value) (S9 : St) => ∃ r : Int32, v = some (.int r) ∧ Q r S9) := by
  generalize hQQ : (fun (v : Option Value) (S9 : St) => ∃ r : Int32, v = some (.int r) ∧ Q r S9) = QQ
  unfold P_X8_secondAlike at hp
  refine Ctr.of (by decide) (Nat.le_of_ble_eq_true rfl) ?_
  intro p e s m args below meth c ls B hr hlk hin hl hH
  generalize hlocs0 : ([] : List Loc) = locs at hH ⊢
  have hx := B.1
  have hb := B.2.1
  have hl : lv_has ls 3 [(0, .ref th), (1, .ref p0)] := hl
  obtain ⟨hk_th, hp⟩ := hp
  refine lv_aload_n (pc := 0) hx hb dX8_secondAlike_0 rfl (lv_at hl 1 rfl) ?_
  refine lv_aload_n (pc := 1) hx hb dX8_secondAlike_1 rfl (lv_at hl 0 rfl) ?_
  refine sx_getI (pc := 2) (j := 0) B hH hk_th coX8 rfl w_821 rfl dX8_secondAlike_2 ?_
  refine W.eq (g2 := F0 m 5 ls [.int (gI S th 0), .ref p0]) rfl ?_
  refine sx_S (pc := 5) (As := [.int (gI S th 0)]) (rest := [.ref p0]) B hH hl.1 (C_X4_many G l (gI S th 0) _ _ hp) mi_X4_many w_348 w_1078 rfl rfl ⟨Nat.le_of_ble_eq_true rfl, Nat.le_of_ble_eq_true rfl⟩ (Nat.le_of_ble_eq_true rfl) ⟨(show _ + 0 ≤ bc by omega), (show _ + 0 ≤ bs by omega)⟩ dX8_secondAlike_5 (fun v S1 H locs hq hH => ?_)
  obtain ⟨r_1, rfl, e9, hp⟩ := hq
  rw [e9] at hH
  refine W.eq (g2 := F0 m 8 ls [.int r_1, .ref p0]) rfl ?_
  obtain ⟨hk_2, hp⟩ := hp
  obtain ⟨c_3, s_3, hb_3, hs_3, hp⟩ := hp
  refine sx_V (pc := 8) (As := [.int r_1]) (rest := []) B hH hl.1 (C_X6_begin G l p0 r_1 _ c_3 s_3 _ hp) mi_X6_begin coX6 hk_2 w_1027 w_1028 w_1079 rfl rfl ⟨Nat.le_of_ble_eq_true rfl, Nat.le_of_ble_eq_true rfl⟩ (Nat.le_of_ble_eq_true rfl) ⟨(show _ + c_3 ≤ bc by omega), (show _ + s_3 ≤ bs by omega)⟩ dX8_secondAlike_8 (fun v S1 H locs hq hH => ?_)
  obtain ⟨rfl, hp⟩ := hq
  obtain ⟨S_4, eS_4⟩ : ∃ z : St, z = S1 := ⟨_, rfl⟩
  rw [← eS_4] at hp hH
  refine W.eq (g2 := F0 m 11 ls []) rfl ?_
  refine lv_iconst (pc := 11) (v := 1) hx hb dX8_secondAlike_11 (by decide) ?_
  refine lv_istore_n (pc := 12) (lv' := [(2, .int 1), (0, .ref th), (1, .ref p0)]) hx hb dX8_secondAlike_12 rfl hl (by decide) rfl (fun ls hl => ?_)
  obtain ⟨I_5, ⟨k0_5, h0_5⟩, hst_5⟩ := hp
  have kl_5 : ∀ (n_5 : Nat) (x2_6 : Int32) (F_7 : Nat → Nat → Int32) (H : Heap) (locs : List Loc) (ls : Array Slot) (cells slots : Nat), I_5 n_5 x2_6 F_7 → cells + (bc - c_3) ≤ bc → slots + (bs - s_3) ≤ bs → Hp G (FA S s.heap.size) s.heap (wI S_4 F_7) H locs → lv_has ls 3 [(0, .ref th), (1, .ref p0), (2, .int x2_6)] → Wm G p l e { frames := 1, cells := bc, slots := bs, locals := 25 } s m args below meth c S QQ bc bs H locs cells slots (F0 m 13 ls []) := by
    intro n_5
    induction n_5 using Nat.strongRecOn with
    | ind n_5 ih_5 =>
      intro x2_6 F_7 H locs ls cells slots hq9 hcc_5 hss_5 hH hl
      have hp := hst_5 n_5 x2_6 F_7 hq9
      refine lv_iload_n (pc := 13) hx hb dX8_secondAlike_13 rfl (lv_at hl 2 rfl) ?_
      refine lv_aload_n (pc := 14) hx hb dX8_secondAlike_14 rfl (lv_at hl 0 rfl) ?_
      obtain ⟨hk_8, hp⟩ := hp
      refine sx_getR (pc := 15) (j := 3) B hH hk_8 coX8 rfl w_826 rfl dX8_secondAlike_15 ?_
      refine W.eq (g2 := F0 m 18 ls [va_rf (gR S_4 th 3), .int x2_6]) rfl ?_
      obtain ⟨a_9, ha_9, hp⟩ := hp
      refine sx_nonnull (x := a_9) ha_9 ?_
      obtain ⟨hk_10, hp⟩ := hp
      refine sx_alen (pc := 18) B hH hk_10 (by decide) (by decide) dX8_secondAlike_18 ?_
      refine W.eq (g2 := F0 m 19 ls [.int (nI (ln S_4 a_9)), .int x2_6]) rfl ?_
      refine lv_icmp_ge (pc := 19) (tgt := 50) hx hb dX8_secondAlike_19 (by decide) (fun cc_11 => ?_) (fun cc_11 => ?_)
      · have hp := hp.1 cc_11
        refine lv_iconst (pc := 50) (v := (-1)) hx hb dX8_secondAlike_50 (by decide) ?_
        exact sx_iret (pc := 51) B hH hr hlk (by rw [← hQQ]; exact ⟨_, rfl, hp⟩) (show _ ≤ bc by omega) (show _ ≤ bs by omega) dX8_secondAlike_51
      · have hp := hp.2 cc_11
        refine lv_aload_n (pc := 22) hx hb dX8_secondAlike_22 rfl (lv_at hl 1 rfl) ?_
        refine lv_aload_n (pc := 23) hx hb dX8_secondAlike_23 rfl (lv_at hl 0 rfl) ?_
        refine sx_getR (pc := 24) (j := 3) B hH hk_8 coX8 rfl w_826 rfl dX8_secondAlike_24 ?_
        refine W.eq (g2 := F0 m 27 ls [va_rf (gR S_4 th 3), .ref p0]) rfl ?_
        refine sx_nonnull (x := a_9) ha_9 ?_
        refine lv_iload_n (pc := 27) hx hb dX8_secondAlike_27 rfl (lv_at hl 2 rfl) ?_
        obtain ⟨hn_12, hp⟩ := hp
        refine sx_iald (pc := 28) B hH hk_10 hn_12 dX8_secondAlike_28 ?_
        refine W.eq (g2 := F0 m 29 ls [.int (F_7 a_9 x2_6.toNatClampNeg), .ref p0]) rfl ?_
        refine lv_aload_n (pc := 29) hx hb dX8_secondAlike_29 rfl (lv_at hl 0 rfl) ?_
        refine sx_getI (pc := 30) (j := 0) B hH hk_8 coX8 rfl w_821 rfl dX8_secondAlike_30 ?_
        refine W.eq (g2 := F0 m 33 ls [.int (F_7 th 0), .int (F_7 a_9 x2_6.toNatClampNeg), .ref p0]) rfl ?_
        refine sx_S (pc := 33) (As := [.int (F_7 a_9 x2_6.toNatClampNeg), .int (F_7 th 0)]) (rest := [.ref p0]) B hH hl.1 (C_X4_rank G l (F_7 a_9 x2_6.toNatClampNeg) (F_7 th 0) _ _ hp) mi_X4_rank w_888 w_1080 rfl rfl ⟨Nat.le_of_ble_eq_true rfl, Nat.le_of_ble_eq_true rfl⟩ (Nat.le_of_ble_eq_true rfl) ⟨(show _ + 0 ≤ bc by omega), (show _ + 0 ≤ bs by omega)⟩ dX8_secondAlike_33 (fun v S1 H locs hq hH => ?_)
        obtain ⟨r_13, rfl, e9, hp⟩ := hq
        rw [e9] at hH
        refine W.eq (g2 := F0 m 36 ls [.int r_13, .ref p0]) rfl ?_
        obtain ⟨hk_14, hp⟩ := hp
        refine sx_V (pc := 36) (As := [.int r_13]) (rest := []) B hH hl.1 (C_X6_add G l p0 r_13 _ _ hp) mi_X6_add coX6 hk_14 w_1031 w_1032 w_1081 rfl rfl ⟨Nat.le_of_ble_eq_true rfl, Nat.le_of_ble_eq_true rfl⟩ (Nat.le_of_ble_eq_true rfl) ⟨(show _ + 0 ≤ bc by omega), (show _ + 0 ≤ bs by omega)⟩ dX8_secondAlike_36 (fun v S1 H locs hq hH => ?_)
        obtain ⟨r_15, F_15, rfl, e9, hp⟩ := hq
        rw [e9] at hH
        have hH : Hp G (FA S s.heap.size) s.heap (wI S_4 F_15) H locs := hH
        refine W.eq (g2 := F0 m 39 ls [.int r_15]) rfl ?_
        refine lv_if_ne (pc := 39) (tgt := 44) hx hb dX8_secondAlike_39 (by decide) (fun cc_16 => ?_) (fun cc_16 => ?_)
        · have hp := hp.1 cc_16
          obtain ⟨v_17, ev_17⟩ : ∃ y : Int32, y = x2_6 + 1 := ⟨_, rfl⟩
          have hp := hp v_17 ev_17
          refine lv_iinc (pc := 44) (v := v_17) (lv' := [(2, .int v_17), (0, .ref th), (1, .ref p0)]) hx hb dX8_secondAlike_44 hl (k := 2) rfl (by rw [ev_17]; rfl) (by decide) rfl (fun ls hl => ?_)
          refine lv_goto (pc := 47) (tgt := 13) hx hb dX8_secondAlike_47 (by decide) ?_
          obtain ⟨k9, hlt9, hp⟩ := hp
          exact ih_5 k9 hlt9 _ _ _ _ _ _ _ hp (show _ + (bc - c_3) ≤ bc by omega) (show _ + (bs - s_3) ≤ bs by omega) hH (lv_sub hl [1, 2, 0] rfl)
        · have hp := hp.2 cc_16
          refine lv_iload_n (pc := 42) hx hb dX8_secondAlike_42 rfl (lv_at hl 2 rfl) ?_
          exact sx_iret (pc := 43) B hH hr hlk (by rw [← hQQ]; exact ⟨_, rfl, hp⟩) (show _ ≤ bc by omega) (show _ ≤ bs by omega) dX8_secondAlike_43
  exact kl_5 k0_5 _ _ _ _ _ _ _ h0_5 (show _ + (bc - c_3) ≤ bc by omega) (show _ + (bs - s_3) ≤ bs by omega) hH (lv_sub hl [1, 2, 0] rfl)
theorem dX8_firstLike_0 : decode cX8_firstLike 0 = .ok (.aload_n 0, 1) := by decide +kernel
theorem dX8_firstLike_1 : decode cX8_firstLike 1 = .ok (.aload_n 0, 1) := by decide +kernel
theorem dX8_firstLike_2 : decode cX8_firstLike 2 = .ok (.getfield 22, 3) := by decide +kernel
theorem dX8_firstLike_5 : decode cX8_firstLike 5 = .ok (.iload_n 1, 1) := by decide +kernel
theorem dX8_firstLike_6 : decode cX8_firstLike 6 = .ok (.iaload, 1) := by decide +kernel
theorem dX8_firstLike_7 : decode cX8_firstLike 7 = .ok (.invokevirtual 36, 3) := by decide +kernel
theorem dX8_firstLike_10 : decode cX8_firstLike 10 = .ok (.ireturn, 1) := by decide +kernel
theorem mi_X8_firstLike : MI yX8_firstLike cX8_firstLike 2 (some FieldType.int) 1 := ⟨w_1089, w_124, by decide +kernel, by decide +kernel, by decide +kernel⟩
set_option maxRecDepth 100000 in
set_option maxHeartbeats 4000000 in
theorem C_X8_firstLike (G : GG) (l : Launch) (th : Nat) (p0 : Int32) (S : St) (Q : Int32 → Prop) (hp : P_X8_firstLike th p0 S Q) : Ctr G l yX8_firstLike cX8_firstLike 2 (some FieldType.int) 1 22 0 0 [.ref th, .int p0] S (fun (v : Option Value) (S9 : St) => ∃ (r : Int32), v = some (.int r) ∧ S9 = S ∧ Q r ) := by
  generalize hQQ : (fun (v : Option Value) (S9 : St) => ∃ (r : Int32), v = some (.int r) ∧ S9 = S ∧ Q r ) = QQ
  unfold P_X8_firstLike at hp
  refine Ctr.of (by decide) (Nat.le_of_ble_eq_true rfl) ?_
  intro p e s m args below meth c ls B hr hlk hin hl hH
  generalize hlocs0 : ([] : List Loc) = locs at hH ⊢
  have hx := B.1
  have hb := B.2.1
  have hl : lv_has ls 2 [(0, .ref th), (1, .int p0)] := hl
  obtain ⟨hk_th, hp⟩ := hp
  refine lv_aload_n (pc := 0) hx hb dX8_firstLike_0 rfl (lv_at hl 0 rfl) ?_
  refine lv_aload_n (pc := 1) hx hb dX8_firstLike_1 rfl (lv_at hl 0 rfl) ?_
  refine sx_getR (pc := 2) (j := 3) B hH hk_th coX8 rfl w_826 rfl dX8_firstLike_2 ?_
  refine W.eq (g2 := F0 m 5 ls [va_rf (gR S th 3), .ref th]) rfl ?_
  obtain ⟨a_1, ha_1, hp⟩ := hp
  refine sx_nonnull (x := a_1) ha_1 ?_
  refine lv_iload_n (pc := 5) hx hb dX8_firstLike_5 rfl (lv_at hl 1 rfl) ?_
  obtain ⟨hk_2, hp⟩ := hp
  obtain ⟨hn_3, hp⟩ := hp
  refine sx_iald (pc := 6) B hH hk_2 hn_3 dX8_firstLike_6 ?_
  refine W.eq (g2 := F0 m 7 ls [.int (gI S a_1 p0.toNatClampNeg), .ref th]) rfl ?_
  refine sx_V (pc := 7) (As := [.int (gI S a_1 p0.toNatClampNeg)]) (rest := []) B hH hl.1 (C_X8_nextLike G l th (gI S a_1 p0.toNatClampNeg) _ _ hp) mi_X8_nextLike coX8 hk_th w_1068 w_33 w_1066 rfl rfl ⟨Nat.le_of_ble_eq_true rfl, Nat.le_of_ble_eq_true rfl⟩ (Nat.le_of_ble_eq_true rfl) ⟨Nat.le_of_ble_eq_true rfl, Nat.le_of_ble_eq_true rfl⟩ dX8_firstLike_7 (fun v S1 H locs hq hH => ?_)
  obtain ⟨r_4, rfl, e9, hp⟩ := hq
  rw [e9] at hH
  refine W.eq (g2 := F0 m 10 ls [.int r_4]) rfl ?_
  exact sx_iret (pc := 10) B hH hr hlk (by rw [← hQQ]; exact ⟨_, rfl, rfl, hp⟩) (Nat.le_of_ble_eq_true rfl) (Nat.le_of_ble_eq_true rfl) dX8_firstLike_10
theorem dX8_silentLast_0 : decode cX8_silentLast 0 = .ok (.iconst 0, 1) := by decide +kernel
theorem dX8_silentLast_1 : decode cX8_silentLast 1 = .ok (.istore_n 3, 1) := by decide +kernel
theorem dX8_silentLast_2 : decode cX8_silentLast 2 = .ok (.iconst 0, 1) := by decide +kernel
theorem dX8_silentLast_3 : decode cX8_silentLast 3 = .ok (.istore 4, 2) := by decide +kernel
theorem dX8_silentLast_5 : decode cX8_silentLast 5 = .ok (.iconst 0, 1) := by decide +kernel
theorem dX8_silentLast_6 : decode cX8_silentLast 6 = .ok (.istore 5, 2) := by decide +kernel
theorem dX8_silentLast_8 : decode cX8_silentLast 8 = .ok (.iload 5, 2) := by decide +kernel
theorem dX8_silentLast_10 : decode cX8_silentLast 10 = .ok (.aload_n 0, 1) := by decide +kernel
theorem dX8_silentLast_11 : decode cX8_silentLast 11 = .ok (.getfield 9, 3) := by decide +kernel
theorem dX8_silentLast_14 : decode cX8_silentLast 14 = .ok (.if_icmp .ge 37, 3) := by decide +kernel
theorem dX8_silentLast_17 : decode cX8_silentLast 17 = .ok (.iload_n 1, 1) := by decide +kernel
theorem dX8_silentLast_18 : decode cX8_silentLast 18 = .ok (.iload 5, 2) := by decide +kernel
theorem dX8_silentLast_20 : decode cX8_silentLast 20 = .ok (.invokestatic 58, 3) := by decide +kernel
theorem dX8_silentLast_23 : decode cX8_silentLast 23 = .ok (.istore 6, 2) := by decide +kernel
theorem dX8_silentLast_25 : decode cX8_silentLast 25 = .ok (.iload_n 2, 1) := by decide +kernel
theorem dX8_silentLast_26 : decode cX8_silentLast 26 = .ok (.iconst 1, 1) := by decide +kernel
theorem dX8_silentLast_27 : decode cX8_silentLast 27 = .ok (.iload 6, 2) := by decide +kernel
theorem dX8_silentLast_29 : decode cX8_silentLast 29 = .ok (.ishl, 1) := by decide +kernel
theorem dX8_silentLast_30 : decode cX8_silentLast 30 = .ok (.iand, 1) := by decide +kernel
theorem dX8_silentLast_31 : decode cX8_silentLast 31 = .ok (.ifCond .ne 14, 3) := by decide +kernel
theorem dX8_silentLast_34 : decode cX8_silentLast 34 = .ok (.iload_n 3, 1) := by decide +kernel
theorem dX8_silentLast_35 : decode cX8_silentLast 35 = .ok (.iload 6, 2) := by decide +kernel
theorem dX8_silentLast_37 : decode cX8_silentLast 37 = .ok (.iload 4, 2) := by decide +kernel
theorem dX8_silentLast_39 : decode cX8_silentLast 39 = .ok (.ishl, 1) := by decide +kernel
theorem dX8_silentLast_40 : decode cX8_silentLast 40 = .ok (.ior, 1) := by decide +kernel
theorem dX8_silentLast_41 : decode cX8_silentLast 41 = .ok (.istore_n 3, 1) := by decide +kernel
theorem dX8_silentLast_42 : decode cX8_silentLast 42 = .ok (.iinc 4 4, 3) := by decide +kernel
theorem dX8_silentLast_45 : decode cX8_silentLast 45 = .ok (.iinc 5 1, 3) := by decide +kernel
theorem dX8_silentLast_48 : decode cX8_silentLast 48 = .ok (.goto (-40), 3) := by decide +kernel
theorem dX8_silentLast_51 : decode cX8_silentLast 51 = .ok (.iconst 0, 1) := by decide +kernel
theorem dX8_silentLast_52 : decode cX8_silentLast 52 = .ok (.istore 5, 2) := by decide +kernel
theorem dX8_silentLast_54 : decode cX8_silentLast 54 = .ok (.iload 5, 2) := by decide +kernel
theorem dX8_silentLast_56 : decode cX8_silentLast 56 = .ok (.aload_n 0, 1) := by decide +kernel
theorem dX8_silentLast_57 : decode cX8_silentLast 57 = .ok (.getfield 9, 3) := by decide +kernel
theorem dX8_silentLast_60 : decode cX8_silentLast 60 = .ok (.if_icmp .ge 29, 3) := by decide +kernel
theorem dX8_silentLast_63 : decode cX8_silentLast 63 = .ok (.iload_n 2, 1) := by decide +kernel
theorem dX8_silentLast_64 : decode cX8_silentLast 64 = .ok (.iconst 1, 1) := by decide +kernel
theorem dX8_silentLast_65 : decode cX8_silentLast 65 = .ok (.iload 5, 2) := by decide +kernel
theorem dX8_silentLast_67 : decode cX8_silentLast 67 = .ok (.ishl, 1) := by decide +kernel
theorem dX8_silentLast_68 : decode cX8_silentLast 68 = .ok (.iand, 1) := by decide +kernel
theorem dX8_silentLast_69 : decode cX8_silentLast 69 = .ok (.ifCond .eq 14, 3) := by decide +kernel
theorem dX8_silentLast_72 : decode cX8_silentLast 72 = .ok (.iload_n 3, 1) := by decide +kernel
theorem dX8_silentLast_73 : decode cX8_silentLast 73 = .ok (.iload 5, 2) := by decide +kernel
theorem dX8_silentLast_75 : decode cX8_silentLast 75 = .ok (.iload 4, 2) := by decide +kernel
theorem dX8_silentLast_77 : decode cX8_silentLast 77 = .ok (.ishl, 1) := by decide +kernel
theorem dX8_silentLast_78 : decode cX8_silentLast 78 = .ok (.ior, 1) := by decide +kernel
theorem dX8_silentLast_79 : decode cX8_silentLast 79 = .ok (.istore_n 3, 1) := by decide +kernel
theorem dX8_silentLast_80 : decode cX8_silentLast 80 = .ok (.iinc 4 4, 3) := by decide +kernel
theorem dX8_silentLast_83 : decode cX8_silentLast 83 = .ok (.iinc 5 1, 3) := by decide +kernel
theorem dX8_silentLast_86 : decode cX8_silentLast 86 = .ok (.goto (-32), 3) := by decide +kernel
theorem dX8_silentLast_89 : decode cX8_silentLast 89 = .ok (.iload_n 3, 1) := by decide +kernel
theorem dX8_silentLast_90 : decode cX8_silentLast 90 = .ok (.ireturn, 1) := by decide +kernel
theorem mi_X8_silentLast : MI yX8_silentLast cX8_silentLast 7 (some FieldType.int) 2 := ⟨w_1101, w_124, by decide +kernel, by decide +kernel, by decide +kernel⟩
set_option maxRecDepth 100000 in
set_option maxHeartbeats 4000000 in
theorem C_X8_silentLast (G : GG) (l : Launch) (th : Nat) (p0 : Int32) (p1 : Int32) (S : St) (Q : Int32 → Prop) (hp : P_X8_silentLast th p0 p1 S Q) : Ctr G l yX8_silentLast cX8_silentLast 7 (some FieldType.int) 1 21 0 0 [.ref th, .int p0, .int p1] S (fun (v : Option Value) (S9 : St) => ∃ (r : Int32), v = some (.int r) ∧ S9 = S ∧ Q r ) := by
  generalize hQQ : (fun (v : Option Value) (S9 : St) => ∃ (r : Int32), v = some (.int r) ∧ S9 = S ∧ Q r ) = QQ
  unfold P_X8_silentLast at hp
  refine Ctr.of (by decide) (Nat.le_of_ble_eq_true rfl) ?_
  intro p e s m args below meth c ls B hr hlk hin hl hH
  generalize hlocs0 : ([] : List Loc) = locs at hH ⊢
  have hx := B.1
  have hb := B.2.1
  have hl : lv_has ls 7 [(0, .ref th), (1, .int p0), (2, .int p1)] := hl
  obtain ⟨hk_th, hp⟩ := hp
  refine lv_iconst (pc := 0) (v := 0) hx hb dX8_silentLast_0 (by decide) ?_
  refine lv_istore_n (pc := 1) (lv' := [(3, .int 0), (0, .ref th), (1, .int p0), (2, .int p1)]) hx hb dX8_silentLast_1 rfl hl (by decide) rfl (fun ls hl => ?_)
  refine lv_iconst (pc := 2) (v := 0) hx hb dX8_silentLast_2 (by decide) ?_
  refine lv_istore (pc := 3) (lv' := [(4, .int 0), (3, .int 0), (0, .ref th), (1, .int p0), (2, .int p1)]) hx hb dX8_silentLast_3 hl (by decide) rfl (fun ls hl => ?_)
  refine lv_iconst (pc := 5) (v := 0) hx hb dX8_silentLast_5 (by decide) ?_
  refine lv_istore (pc := 6) (lv' := [(5, .int 0), (4, .int 0), (3, .int 0), (0, .ref th), (1, .int p0), (2, .int p1)]) hx hb dX8_silentLast_6 hl (by decide) rfl (fun ls hl => ?_)
  obtain ⟨I_1, ⟨k0_1, h0_1⟩, hst_1⟩ := hp
  have kl_1 : ∀ (n_1 : Nat) (x3_2 : Int32) (x4_3 : Int32) (x5_4 : Int32) (H : Heap) (locs : List Loc) (ls : Array Slot), I_1 n_1 x3_2 x4_3 x5_4 → Hp G (FA S s.heap.size) s.heap S H locs → lv_has ls 7 [(0, .ref th), (1, .int p0), (2, .int p1), (3, .int x3_2), (4, .int x4_3), (5, .int x5_4)] → Wm G p l e { frames := 1, cells := 0, slots := 0, locals := 21 } s m args below meth c S QQ 0 0 H locs 0 0 (F0 m 8 ls []) := by
    intro n_1
    induction n_1 using Nat.strongRecOn with
    | ind n_1 ih_1 =>
      intro x3_2 x4_3 x5_4 H locs ls hq9 hH hl
      have hp := hst_1 n_1 x3_2 x4_3 x5_4 hq9
      refine lv_iload (pc := 8) hx hb dX8_silentLast_8 (lv_at hl 5 rfl) ?_
      refine lv_aload_n (pc := 10) hx hb dX8_silentLast_10 rfl (lv_at hl 0 rfl) ?_
      refine sx_getI (pc := 11) (j := 0) B hH hk_th coX8 rfl w_821 rfl dX8_silentLast_11 ?_
      refine W.eq (g2 := F0 m 14 ls [.int (gI S th 0), .int x5_4]) rfl ?_
      refine lv_icmp_ge (pc := 14) (tgt := 51) hx hb dX8_silentLast_14 (by decide) (fun cc_5 => ?_) (fun cc_5 => ?_)
      · have hp := hp.1 cc_5
        refine lv_iconst (pc := 51) (v := 0) hx hb dX8_silentLast_51 (by decide) ?_
        refine lv_istore (pc := 52) (lv' := [(5, .int 0), (0, .ref th), (1, .int p0), (2, .int p1), (3, .int x3_2), (4, .int x4_3)]) hx hb dX8_silentLast_52 hl (by decide) rfl (fun ls hl => ?_)
        obtain ⟨I_6, ⟨k0_6, h0_6⟩, hst_6⟩ := hp
        have kl_6 : ∀ (n_6 : Nat) (x3_7 : Int32) (x4_8 : Int32) (x5_9 : Int32) (H : Heap) (locs : List Loc) (ls : Array Slot), I_6 n_6 x3_7 x4_8 x5_9 → Hp G (FA S s.heap.size) s.heap S H locs → lv_has ls 7 [(0, .ref th), (2, .int p1), (3, .int x3_7), (4, .int x4_8), (5, .int x5_9)] → Wm G p l e { frames := 1, cells := 0, slots := 0, locals := 21 } s m args below meth c S QQ 0 0 H locs 0 0 (F0 m 54 ls []) := by
          intro n_6
          induction n_6 using Nat.strongRecOn with
          | ind n_6 ih_6 =>
            intro x3_7 x4_8 x5_9 H locs ls hq9 hH hl
            have hp := hst_6 n_6 x3_7 x4_8 x5_9 hq9
            refine lv_iload (pc := 54) hx hb dX8_silentLast_54 (lv_at hl 4 rfl) ?_
            refine lv_aload_n (pc := 56) hx hb dX8_silentLast_56 rfl (lv_at hl 0 rfl) ?_
            refine sx_getI (pc := 57) (j := 0) B hH hk_th coX8 rfl w_821 rfl dX8_silentLast_57 ?_
            refine W.eq (g2 := F0 m 60 ls [.int (gI S th 0), .int x5_9]) rfl ?_
            refine lv_icmp_ge (pc := 60) (tgt := 89) hx hb dX8_silentLast_60 (by decide) (fun cc_10 => ?_) (fun cc_10 => ?_)
            · have hp := hp.1 cc_10
              refine lv_iload_n (pc := 89) hx hb dX8_silentLast_89 rfl (lv_at hl 2 rfl) ?_
              exact sx_iret (pc := 90) B hH hr hlk (by rw [← hQQ]; exact ⟨_, rfl, rfl, hp⟩) (Nat.le_of_ble_eq_true rfl) (Nat.le_of_ble_eq_true rfl) dX8_silentLast_90
            · have hp := hp.2 cc_10
              refine lv_iload_n (pc := 63) hx hb dX8_silentLast_63 rfl (lv_at hl 1 rfl) ?_
              refine lv_iconst (pc := 64) (v := 1) hx hb dX8_silentLast_64 (by decide) ?_
              refine lv_iload (pc := 65) hx hb dX8_silentLast_65 (lv_at hl 4 rfl) ?_
              refine lv_ishl (pc := 67) hx hb dX8_silentLast_67 ?_
              refine W.eq (g2 := F0 m 68 ls [.int (shl 1 x5_9), .int p1]) rfl ?_
              refine lv_iand (pc := 68) hx hb dX8_silentLast_68 ?_
              refine lv_if_eq (pc := 69) (tgt := 83) hx hb dX8_silentLast_69 (by decide) (fun cc_11 => ?_) (fun cc_11 => ?_)
              · have hp := hp.1 cc_11
                obtain ⟨v_12, ev_12⟩ : ∃ y : Int32, y = x5_9 + 1 := ⟨_, rfl⟩
                have hp := hp v_12 ev_12
                refine lv_iinc (pc := 83) (v := v_12) (lv' := [(5, .int v_12), (0, .ref th), (2, .int p1), (3, .int x3_7), (4, .int x4_8)]) hx hb dX8_silentLast_83 hl (k := 4) rfl (by rw [ev_12]; rfl) (by decide) rfl (fun ls hl => ?_)
                refine lv_goto (pc := 86) (tgt := 54) hx hb dX8_silentLast_86 (by decide) ?_
                obtain ⟨k9, hlt9, hp⟩ := hp
                exact ih_6 k9 hlt9 _ _ _ _ _ _ hp hH (lv_sub hl [1, 2, 3, 4, 0] rfl)
              · have hp := hp.2 cc_11
                refine lv_iload_n (pc := 72) hx hb dX8_silentLast_72 rfl (lv_at hl 2 rfl) ?_
                refine lv_iload (pc := 73) hx hb dX8_silentLast_73 (lv_at hl 4 rfl) ?_
                refine lv_iload (pc := 75) hx hb dX8_silentLast_75 (lv_at hl 3 rfl) ?_
                refine lv_ishl (pc := 77) hx hb dX8_silentLast_77 ?_
                refine W.eq (g2 := F0 m 78 ls [.int (shl x5_9 x4_8), .int x3_7]) rfl ?_
                refine lv_ior (pc := 78) hx hb dX8_silentLast_78 ?_
                refine lv_topi (fun v_13 ev_13 => ?_)
                have hp := hp v_13 ev_13
                refine lv_istore_n (pc := 79) (lv' := [(3, .int v_13), (0, .ref th), (2, .int p1), (4, .int x4_8), (5, .int x5_9)]) hx hb dX8_silentLast_79 rfl hl (by decide) rfl (fun ls hl => ?_)
                obtain ⟨v_14, ev_14⟩ : ∃ y : Int32, y = x4_8 + 4 := ⟨_, rfl⟩
                have hp := hp v_14 ev_14
                refine lv_iinc (pc := 80) (v := v_14) (lv' := [(4, .int v_14), (3, .int v_13), (0, .ref th), (2, .int p1), (5, .int x5_9)]) hx hb dX8_silentLast_80 hl (k := 3) rfl (by rw [ev_14]; rfl) (by decide) rfl (fun ls hl => ?_)
                obtain ⟨v_15, ev_15⟩ : ∃ y : Int32, y = x5_9 + 1 := ⟨_, rfl⟩
                have hp := hp v_15 ev_15
                refine lv_iinc (pc := 83) (v := v_15) (lv' := [(5, .int v_15), (4, .int v_14), (3, .int v_13), (0, .ref th), (2, .int p1)]) hx hb dX8_silentLast_83 hl (k := 4) rfl (by rw [ev_15]; rfl) (by decide) rfl (fun ls hl => ?_)
                refine lv_goto (pc := 86) (tgt := 54) hx hb dX8_silentLast_86 (by decide) ?_
                obtain ⟨k9, hlt9, hp⟩ := hp
                exact ih_6 k9 hlt9 _ _ _ _ _ _ hp hH (lv_sub hl [3, 4, 2, 1, 0] rfl)
        exact kl_6 k0_6 _ _ _ _ _ _ h0_6 hH (lv_sub hl [1, 3, 4, 5, 0] rfl)
      · have hp := hp.2 cc_5
        refine lv_iload_n (pc := 17) hx hb dX8_silentLast_17 rfl (lv_at hl 1 rfl) ?_
        refine lv_iload (pc := 18) hx hb dX8_silentLast_18 (lv_at hl 5 rfl) ?_
        refine sx_S (pc := 20) (As := [.int p0, .int x5_4]) (rest := []) B hH hl.1 (C_X4_bellAt G l p0 x5_4 _ _ hp) mi_X4_bellAt w_873 w_1102 rfl rfl ⟨Nat.le_of_ble_eq_true rfl, Nat.le_of_ble_eq_true rfl⟩ (Nat.le_of_ble_eq_true rfl) ⟨Nat.le_of_ble_eq_true rfl, Nat.le_of_ble_eq_true rfl⟩ dX8_silentLast_20 (fun v S1 H locs hq hH => ?_)
        obtain ⟨r_16, rfl, e9, hp⟩ := hq
        rw [e9] at hH
        refine W.eq (g2 := F0 m 23 ls [.int r_16]) rfl ?_
        refine lv_istore (pc := 23) (lv' := [(6, .int r_16), (0, .ref th), (1, .int p0), (2, .int p1), (3, .int x3_2), (4, .int x4_3), (5, .int x5_4)]) hx hb dX8_silentLast_23 hl (by decide) rfl (fun ls hl => ?_)
        refine lv_iload_n (pc := 25) hx hb dX8_silentLast_25 rfl (lv_at hl 3 rfl) ?_
        refine lv_iconst (pc := 26) (v := 1) hx hb dX8_silentLast_26 (by decide) ?_
        refine lv_iload (pc := 27) hx hb dX8_silentLast_27 (lv_at hl 0 rfl) ?_
        refine lv_ishl (pc := 29) hx hb dX8_silentLast_29 ?_
        refine W.eq (g2 := F0 m 30 ls [.int (shl 1 r_16), .int p1]) rfl ?_
        refine lv_iand (pc := 30) hx hb dX8_silentLast_30 ?_
        refine lv_if_ne (pc := 31) (tgt := 45) hx hb dX8_silentLast_31 (by decide) (fun cc_17 => ?_) (fun cc_17 => ?_)
        · have hp := hp.1 cc_17
          obtain ⟨v_18, ev_18⟩ : ∃ y : Int32, y = x5_4 + 1 := ⟨_, rfl⟩
          have hp := hp v_18 ev_18
          refine lv_iinc (pc := 45) (v := v_18) (lv' := [(5, .int v_18), (6, .int r_16), (0, .ref th), (1, .int p0), (2, .int p1), (3, .int x3_2), (4, .int x4_3)]) hx hb dX8_silentLast_45 hl (k := 6) rfl (by rw [ev_18]; rfl) (by decide) rfl (fun ls hl => ?_)
          refine lv_goto (pc := 48) (tgt := 8) hx hb dX8_silentLast_48 (by decide) ?_
          obtain ⟨k9, hlt9, hp⟩ := hp
          exact ih_1 k9 hlt9 _ _ _ _ _ _ hp hH (lv_sub hl [2, 3, 4, 5, 6, 0] rfl)
        · have hp := hp.2 cc_17
          refine lv_iload_n (pc := 34) hx hb dX8_silentLast_34 rfl (lv_at hl 4 rfl) ?_
          refine lv_iload (pc := 35) hx hb dX8_silentLast_35 (lv_at hl 0 rfl) ?_
          refine lv_iload (pc := 37) hx hb dX8_silentLast_37 (lv_at hl 5 rfl) ?_
          refine lv_ishl (pc := 39) hx hb dX8_silentLast_39 ?_
          refine W.eq (g2 := F0 m 40 ls [.int (shl r_16 x4_3), .int x3_2]) rfl ?_
          refine lv_ior (pc := 40) hx hb dX8_silentLast_40 ?_
          refine lv_topi (fun v_19 ev_19 => ?_)
          have hp := hp v_19 ev_19
          refine lv_istore_n (pc := 41) (lv' := [(3, .int v_19), (6, .int r_16), (0, .ref th), (1, .int p0), (2, .int p1), (4, .int x4_3), (5, .int x5_4)]) hx hb dX8_silentLast_41 rfl hl (by decide) rfl (fun ls hl => ?_)
          obtain ⟨v_20, ev_20⟩ : ∃ y : Int32, y = x4_3 + 4 := ⟨_, rfl⟩
          have hp := hp v_20 ev_20
          refine lv_iinc (pc := 42) (v := v_20) (lv' := [(4, .int v_20), (3, .int v_19), (6, .int r_16), (0, .ref th), (1, .int p0), (2, .int p1), (5, .int x5_4)]) hx hb dX8_silentLast_42 hl (k := 5) rfl (by rw [ev_20]; rfl) (by decide) rfl (fun ls hl => ?_)
          obtain ⟨v_21, ev_21⟩ : ∃ y : Int32, y = x5_4 + 1 := ⟨_, rfl⟩
          have hp := hp v_21 ev_21
          refine lv_iinc (pc := 45) (v := v_21) (lv' := [(5, .int v_21), (4, .int v_20), (3, .int v_19), (6, .int r_16), (0, .ref th), (1, .int p0), (2, .int p1)]) hx hb dX8_silentLast_45 hl (k := 6) rfl (by rw [ev_21]; rfl) (by decide) rfl (fun ls hl => ?_)
          refine lv_goto (pc := 48) (tgt := 8) hx hb dX8_silentLast_48 (by decide) ?_
          obtain ⟨k9, hlt9, hp⟩ := hp
          exact ih_1 k9 hlt9 _ _ _ _ _ _ hp hH (lv_sub hl [4, 5, 6, 2, 1, 0] rfl)
  exact kl_1 k0_1 _ _ _ _ _ _ h0_1 hH (lv_sub hl [3, 4, 5, 2, 1, 0] rfl)
theorem dX8_alike_0 : decode cX8_alike 0 = .ok (.aload_n 1, 1) := by decide +kernel
theorem dX8_alike_1 : decode cX8_alike 1 = .ok (.aload_n 0, 1) := by decide +kernel
theorem dX8_alike_2 : decode cX8_alike 2 = .ok (.getfield 9, 3) := by decide +kernel
theorem dX8_alike_5 : decode cX8_alike 5 = .ok (.invokestatic 39, 3) := by decide +kernel
theorem dX8_alike_8 : decode cX8_alike 8 = .ok (.invokevirtual 42, 3) := by decide +kernel
theorem dX8_alike_11 : decode cX8_alike 11 = .ok (.iconst 0, 1) := by decide +kernel
theorem dX8_alike_12 : decode cX8_alike 12 = .ok (.istore_n 3, 1) := by decide +kernel
theorem dX8_alike_13 : decode cX8_alike 13 = .ok (.iconst 1, 1) := by decide +kernel
theorem dX8_alike_14 : decode cX8_alike 14 = .ok (.istore 4, 2) := by decide +kernel
theorem dX8_alike_16 : decode cX8_alike 16 = .ok (.iload 4, 2) := by decide +kernel
theorem dX8_alike_18 : decode cX8_alike 18 = .ok (.aload_n 0, 1) := by decide +kernel
theorem dX8_alike_19 : decode cX8_alike 19 = .ok (.getfield 22, 3) := by decide +kernel
theorem dX8_alike_22 : decode cX8_alike 22 = .ok (.arraylength, 1) := by decide +kernel
theorem dX8_alike_23 : decode cX8_alike 23 = .ok (.if_icmp .ge 56, 3) := by decide +kernel
theorem dX8_alike_26 : decode cX8_alike 26 = .ok (.iload_n 2, 1) := by decide +kernel
theorem dX8_alike_27 : decode cX8_alike 27 = .ok (.ifCond .ne 13, 3) := by decide +kernel
theorem dX8_alike_30 : decode cX8_alike 30 = .ok (.aload_n 0, 1) := by decide +kernel
theorem dX8_alike_31 : decode cX8_alike 31 = .ok (.getfield 22, 3) := by decide +kernel
theorem dX8_alike_34 : decode cX8_alike 34 = .ok (.iload 4, 2) := by decide +kernel
theorem dX8_alike_36 : decode cX8_alike 36 = .ok (.iaload, 1) := by decide +kernel
theorem dX8_alike_37 : decode cX8_alike 37 = .ok (.goto 15, 3) := by decide +kernel
theorem dX8_alike_40 : decode cX8_alike 40 = .ok (.aload_n 0, 1) := by decide +kernel
theorem dX8_alike_41 : decode cX8_alike 41 = .ok (.aload_n 0, 1) := by decide +kernel
theorem dX8_alike_42 : decode cX8_alike 42 = .ok (.getfield 22, 3) := by decide +kernel
theorem dX8_alike_45 : decode cX8_alike 45 = .ok (.iload 4, 2) := by decide +kernel
theorem dX8_alike_47 : decode cX8_alike 47 = .ok (.iaload, 1) := by decide +kernel
theorem dX8_alike_48 : decode cX8_alike 48 = .ok (.iload_n 2, 1) := by decide +kernel
theorem dX8_alike_49 : decode cX8_alike 49 = .ok (.invokevirtual 55, 3) := by decide +kernel
theorem dX8_alike_52 : decode cX8_alike 52 = .ok (.istore 5, 2) := by decide +kernel
theorem dX8_alike_54 : decode cX8_alike 54 = .ok (.aload_n 1, 1) := by decide +kernel
theorem dX8_alike_55 : decode cX8_alike 55 = .ok (.iload 5, 2) := by decide +kernel
theorem dX8_alike_57 : decode cX8_alike 57 = .ok (.aload_n 0, 1) := by decide +kernel
theorem dX8_alike_58 : decode cX8_alike 58 = .ok (.getfield 9, 3) := by decide +kernel
theorem dX8_alike_61 : decode cX8_alike 61 = .ok (.invokestatic 48, 3) := by decide +kernel
theorem dX8_alike_64 : decode cX8_alike 64 = .ok (.invokevirtual 51, 3) := by decide +kernel
theorem dX8_alike_67 : decode cX8_alike 67 = .ok (.ifCond .ne 6, 3) := by decide +kernel
theorem dX8_alike_70 : decode cX8_alike 70 = .ok (.iinc 3 1, 3) := by decide +kernel
theorem dX8_alike_73 : decode cX8_alike 73 = .ok (.iinc 4 1, 3) := by decide +kernel
theorem dX8_alike_76 : decode cX8_alike 76 = .ok (.goto (-60), 3) := by decide +kernel
theorem dX8_alike_79 : decode cX8_alike 79 = .ok (.iload_n 3, 1) := by decide +kernel
theorem dX8_alike_80 : decode cX8_alike 80 = .ok (.ireturn, 1) := by decide +kernel
theorem mi_X8_alike : MI yX8_alike cX8_alike 6 (some FieldType.int) 2 := ⟨w_1097, w_124, by decide +kernel, by decide +kernel, by decide +kernel⟩
set_option maxRecDepth 100000 in
set_option maxHeartbeats 4000000 in
theorem C_X8_alike (G : GG) (l : Launch) (th : Nat) (p0 : Nat) (p1 : Int32) (S : St) (bc bs : Nat) (Q : Int32 → St → Prop) (hp : P_X8_alike th p0 p1 S bc bs Q) : Ctr G l yX8_alike cX8_alike 6 (some FieldType.int) 2 47 bc bs [.ref th, .ref p0, .int p1] S (fun (v : Option Value) (S9 : St) => ∃ r : Int32, v = some (.int r) ∧ Q r S9) := by
  generalize hQQ : (fun (v : Option Value) (S9 : St) => ∃ r : Int32, v = some (.int r) ∧ Q r S9) = QQ
  unfold P_X8_alike at hp
  refine Ctr.of (by decide) (Nat.le_of_ble_eq_true rfl) ?_
  intro p e s m args below meth c ls B hr hlk hin hl hH
  generalize hlocs0 : ([] : List Loc) = locs at hH ⊢
  have hx := B.1
  have hb := B.2.1
  have hl : lv_has ls 6 [(0, .ref th), (1, .ref p0), (2, .int p1)] := hl
  obtain ⟨hk_th, hp⟩ := hp
  refine lv_aload_n (pc := 0) hx hb dX8_alike_0 rfl (lv_at hl 1 rfl) ?_
  refine lv_aload_n (pc := 1) hx hb dX8_alike_1 rfl (lv_at hl 0 rfl) ?_
  refine sx_getI (pc := 2) (j := 0) B hH hk_th coX8 rfl w_821 rfl dX8_alike_2 ?_
  refine W.eq (g2 := F0 m 5 ls [.int (gI S th 0), .ref p0]) rfl ?_
  refine sx_S (pc := 5) (As := [.int (gI S th 0)]) (rest := [.ref p0]) B hH hl.1 (C_X4_many G l (gI S th 0) _ _ hp) mi_X4_many w_348 w_1078 rfl rfl ⟨Nat.le_of_ble_eq_true rfl, Nat.le_of_ble_eq_true rfl⟩ (Nat.le_of_ble_eq_true rfl) ⟨(show _ + 0 ≤ bc by omega), (show _ + 0 ≤ bs by omega)⟩ dX8_alike_5 (fun v S1 H locs hq hH => ?_)
  obtain ⟨r_1, rfl, e9, hp⟩ := hq
  rw [e9] at hH
  refine W.eq (g2 := F0 m 8 ls [.int r_1, .ref p0]) rfl ?_
  obtain ⟨hk_2, hp⟩ := hp
  obtain ⟨c_3, s_3, hb_3, hs_3, hp⟩ := hp
  refine sx_V (pc := 8) (As := [.int r_1]) (rest := []) B hH hl.1 (C_X6_begin G l p0 r_1 _ c_3 s_3 _ hp) mi_X6_begin coX6 hk_2 w_1027 w_1028 w_1079 rfl rfl ⟨Nat.le_of_ble_eq_true rfl, Nat.le_of_ble_eq_true rfl⟩ (Nat.le_of_ble_eq_true rfl) ⟨(show _ + c_3 ≤ bc by omega), (show _ + s_3 ≤ bs by omega)⟩ dX8_alike_8 (fun v S1 H locs hq hH => ?_)
  obtain ⟨rfl, hp⟩ := hq
  obtain ⟨S_4, eS_4⟩ : ∃ z : St, z = S1 := ⟨_, rfl⟩
  rw [← eS_4] at hp hH
  refine W.eq (g2 := F0 m 11 ls []) rfl ?_
  refine lv_iconst (pc := 11) (v := 0) hx hb dX8_alike_11 (by decide) ?_
  refine lv_istore_n (pc := 12) (lv' := [(3, .int 0), (0, .ref th), (1, .ref p0), (2, .int p1)]) hx hb dX8_alike_12 rfl hl (by decide) rfl (fun ls hl => ?_)
  refine lv_iconst (pc := 13) (v := 1) hx hb dX8_alike_13 (by decide) ?_
  refine lv_istore (pc := 14) (lv' := [(4, .int 1), (3, .int 0), (0, .ref th), (1, .ref p0), (2, .int p1)]) hx hb dX8_alike_14 hl (by decide) rfl (fun ls hl => ?_)
  obtain ⟨I_5, ⟨k0_5, h0_5⟩, hst_5⟩ := hp
  have kl_5 : ∀ (n_5 : Nat) (x3_6 : Int32) (x4_7 : Int32) (F_8 : Nat → Nat → Int32) (H : Heap) (locs : List Loc) (ls : Array Slot) (cells slots : Nat), I_5 n_5 x3_6 x4_7 F_8 → cells + (bc - c_3) ≤ bc → slots + (bs - s_3) ≤ bs → Hp G (FA S s.heap.size) s.heap (wI S_4 F_8) H locs → lv_has ls 6 [(0, .ref th), (1, .ref p0), (2, .int p1), (3, .int x3_6), (4, .int x4_7)] → Wm G p l e { frames := 2, cells := bc, slots := bs, locals := 47 } s m args below meth c S QQ bc bs H locs cells slots (F0 m 16 ls []) := by
    intro n_5
    induction n_5 using Nat.strongRecOn with
    | ind n_5 ih_5 =>
      intro x3_6 x4_7 F_8 H locs ls cells slots hq9 hcc_5 hss_5 hH hl
      have hp := hst_5 n_5 x3_6 x4_7 F_8 hq9
      refine lv_iload (pc := 16) hx hb dX8_alike_16 (lv_at hl 4 rfl) ?_
      refine lv_aload_n (pc := 18) hx hb dX8_alike_18 rfl (lv_at hl 0 rfl) ?_
      obtain ⟨hk_9, hp⟩ := hp
      refine sx_getR (pc := 19) (j := 3) B hH hk_9 coX8 rfl w_826 rfl dX8_alike_19 ?_
      refine W.eq (g2 := F0 m 22 ls [va_rf (gR S_4 th 3), .int x4_7]) rfl ?_
      obtain ⟨a_10, ha_10, hp⟩ := hp
      refine sx_nonnull (x := a_10) ha_10 ?_
      obtain ⟨hk_11, hp⟩ := hp
      refine sx_alen (pc := 22) B hH hk_11 (by decide) (by decide) dX8_alike_22 ?_
      refine W.eq (g2 := F0 m 23 ls [.int (nI (ln S_4 a_10)), .int x4_7]) rfl ?_
      refine lv_icmp_ge (pc := 23) (tgt := 79) hx hb dX8_alike_23 (by decide) (fun cc_12 => ?_) (fun cc_12 => ?_)
      · have hp := hp.1 cc_12
        refine lv_iload_n (pc := 79) hx hb dX8_alike_79 rfl (lv_at hl 3 rfl) ?_
        exact sx_iret (pc := 80) B hH hr hlk (by rw [← hQQ]; exact ⟨_, rfl, hp⟩) (show _ ≤ bc by omega) (show _ ≤ bs by omega) dX8_alike_80
      · have hp := hp.2 cc_12
        refine lv_iload_n (pc := 26) hx hb dX8_alike_26 rfl (lv_at hl 2 rfl) ?_
        obtain ⟨J_14, hj_14, hp⟩ := hp
        have kj_14 : ∀ (t_15 : Int32) (H : Heap) (locs : List Loc) (ls : Array Slot) (cells slots : Nat), J_14 t_15 → cells + (bc - c_3) ≤ bc → slots + (bs - s_3) ≤ bs → Hp G (FA S s.heap.size) s.heap (wI S_4 F_8) H locs → lv_has ls 6 [(0, .ref th), (1, .ref p0), (2, .int p1), (3, .int x3_6), (4, .int x4_7)] → Wm G p l e { frames := 2, cells := bc, slots := bs, locals := 47 } s m args below meth c S QQ bc bs H locs cells slots (F0 m 52 ls [.int t_15]) := by
          intro t_15 H locs ls cells slots hq9 hcc_14 hss_14 hH hl
          have hp := hj_14 t_15 hq9
          refine lv_istore (pc := 52) (lv' := [(5, .int t_15), (0, .ref th), (1, .ref p0), (2, .int p1), (3, .int x3_6), (4, .int x4_7)]) hx hb dX8_alike_52 hl (by decide) rfl (fun ls hl => ?_)
          refine lv_aload_n (pc := 54) hx hb dX8_alike_54 rfl (lv_at hl 2 rfl) ?_
          refine lv_iload (pc := 55) hx hb dX8_alike_55 (lv_at hl 0 rfl) ?_
          refine lv_aload_n (pc := 57) hx hb dX8_alike_57 rfl (lv_at hl 1 rfl) ?_
          refine sx_getI (pc := 58) (j := 0) B hH hk_9 coX8 rfl w_821 rfl dX8_alike_58 ?_
          refine W.eq (g2 := F0 m 61 ls [.int (F_8 th 0), .int t_15, .ref p0]) rfl ?_
          refine sx_S (pc := 61) (As := [.int t_15, .int (F_8 th 0)]) (rest := [.ref p0]) B hH hl.1 (C_X4_rank G l t_15 (F_8 th 0) _ _ hp) mi_X4_rank w_888 w_1080 rfl rfl ⟨Nat.le_of_ble_eq_true rfl, Nat.le_of_ble_eq_true rfl⟩ (Nat.le_of_ble_eq_true rfl) ⟨(show _ + 0 ≤ bc by omega), (show _ + 0 ≤ bs by omega)⟩ dX8_alike_61 (fun v S1 H locs hq hH => ?_)
          obtain ⟨r_16, rfl, e9, hp⟩ := hq
          rw [e9] at hH
          refine W.eq (g2 := F0 m 64 ls [.int r_16, .ref p0]) rfl ?_
          obtain ⟨hk_17, hp⟩ := hp
          refine sx_V (pc := 64) (As := [.int r_16]) (rest := []) B hH hl.1 (C_X6_add G l p0 r_16 _ _ hp) mi_X6_add coX6 hk_17 w_1031 w_1032 w_1081 rfl rfl ⟨Nat.le_of_ble_eq_true rfl, Nat.le_of_ble_eq_true rfl⟩ (Nat.le_of_ble_eq_true rfl) ⟨(show _ + 0 ≤ bc by omega), (show _ + 0 ≤ bs by omega)⟩ dX8_alike_64 (fun v S1 H locs hq hH => ?_)
          obtain ⟨r_18, F_18, rfl, e9, hp⟩ := hq
          rw [e9] at hH
          have hH : Hp G (FA S s.heap.size) s.heap (wI S_4 F_18) H locs := hH
          refine W.eq (g2 := F0 m 67 ls [.int r_18]) rfl ?_
          refine lv_if_ne (pc := 67) (tgt := 73) hx hb dX8_alike_67 (by decide) (fun cc_19 => ?_) (fun cc_19 => ?_)
          · have hp := hp.1 cc_19
            obtain ⟨v_20, ev_20⟩ : ∃ y : Int32, y = x4_7 + 1 := ⟨_, rfl⟩
            have hp := hp v_20 ev_20
            refine lv_iinc (pc := 73) (v := v_20) (lv' := [(4, .int v_20), (5, .int t_15), (0, .ref th), (1, .ref p0), (2, .int p1), (3, .int x3_6)]) hx hb dX8_alike_73 hl (k := 5) rfl (by rw [ev_20]; rfl) (by decide) rfl (fun ls hl => ?_)
            refine lv_goto (pc := 76) (tgt := 16) hx hb dX8_alike_76 (by decide) ?_
            obtain ⟨k9, hlt9, hp⟩ := hp
            exact ih_5 k9 hlt9 _ _ _ _ _ _ _ _ hp (show _ + (bc - c_3) ≤ bc by omega) (show _ + (bs - s_3) ≤ bs by omega) hH (lv_sub hl [2, 3, 4, 5, 0] rfl)
          · have hp := hp.2 cc_19
            obtain ⟨v_21, ev_21⟩ : ∃ y : Int32, y = x3_6 + 1 := ⟨_, rfl⟩
            have hp := hp v_21 ev_21
            refine lv_iinc (pc := 70) (v := v_21) (lv' := [(3, .int v_21), (5, .int t_15), (0, .ref th), (1, .ref p0), (2, .int p1), (4, .int x4_7)]) hx hb dX8_alike_70 hl (k := 4) rfl (by rw [ev_21]; rfl) (by decide) rfl (fun ls hl => ?_)
            obtain ⟨v_22, ev_22⟩ : ∃ y : Int32, y = x4_7 + 1 := ⟨_, rfl⟩
            have hp := hp v_22 ev_22
            refine lv_iinc (pc := 73) (v := v_22) (lv' := [(4, .int v_22), (3, .int v_21), (5, .int t_15), (0, .ref th), (1, .ref p0), (2, .int p1)]) hx hb dX8_alike_73 hl (k := 5) rfl (by rw [ev_22]; rfl) (by decide) rfl (fun ls hl => ?_)
            refine lv_goto (pc := 76) (tgt := 16) hx hb dX8_alike_76 (by decide) ?_
            obtain ⟨k9, hlt9, hp⟩ := hp
            exact ih_5 k9 hlt9 _ _ _ _ _ _ _ _ hp (show _ + (bc - c_3) ≤ bc by omega) (show _ + (bs - s_3) ≤ bs by omega) hH (lv_sub hl [3, 4, 5, 1, 0] rfl)
        refine lv_if_ne (pc := 27) (tgt := 40) hx hb dX8_alike_27 (by decide) (fun cc_13 => ?_) (fun cc_13 => ?_)
        · have hp := hp.1 cc_13
          refine lv_aload_n (pc := 40) hx hb dX8_alike_40 rfl (lv_at hl 0 rfl) ?_
          refine lv_aload_n (pc := 41) hx hb dX8_alike_41 rfl (lv_at hl 0 rfl) ?_
          refine sx_getR (pc := 42) (j := 3) B hH hk_9 coX8 rfl w_826 rfl dX8_alike_42 ?_
          refine W.eq (g2 := F0 m 45 ls [va_rf (gR S_4 th 3), .ref th]) rfl ?_
          refine sx_nonnull (x := a_10) ha_10 ?_
          refine lv_iload (pc := 45) hx hb dX8_alike_45 (lv_at hl 4 rfl) ?_
          obtain ⟨hn_23, hp⟩ := hp
          refine sx_iald (pc := 47) B hH hk_11 hn_23 dX8_alike_47 ?_
          refine W.eq (g2 := F0 m 48 ls [.int (F_8 a_10 x4_7.toNatClampNeg), .ref th]) rfl ?_
          refine lv_iload_n (pc := 48) hx hb dX8_alike_48 rfl (lv_at hl 2 rfl) ?_
          refine sx_V (pc := 49) (As := [.int (F_8 a_10 x4_7.toNatClampNeg), .int p1]) (rest := []) B hH hl.1 (C_X8_silentLast G l th (F_8 a_10 x4_7.toNatClampNeg) p1 _ _ hp) mi_X8_silentLast coX8 hk_9 w_1100 w_34 w_1098 rfl rfl ⟨Nat.le_of_ble_eq_true rfl, Nat.le_of_ble_eq_true rfl⟩ (Nat.le_of_ble_eq_true rfl) ⟨(show _ + 0 ≤ bc by omega), (show _ + 0 ≤ bs by omega)⟩ dX8_alike_49 (fun v S1 H locs hq hH => ?_)
          obtain ⟨r_24, rfl, e9, hp⟩ := hq
          rw [e9] at hH
          refine W.eq (g2 := F0 m 52 ls [.int r_24]) rfl ?_
          exact kj_14 _ _ _ _ _ _ hp (show _ + (bc - c_3) ≤ bc by omega) (show _ + (bs - s_3) ≤ bs by omega) hH (lv_sub hl [0, 1, 2, 3, 4] rfl)
        · have hp := hp.2 cc_13
          refine lv_aload_n (pc := 30) hx hb dX8_alike_30 rfl (lv_at hl 0 rfl) ?_
          refine sx_getR (pc := 31) (j := 3) B hH hk_9 coX8 rfl w_826 rfl dX8_alike_31 ?_
          refine W.eq (g2 := F0 m 34 ls [va_rf (gR S_4 th 3)]) rfl ?_
          refine sx_nonnull (x := a_10) ha_10 ?_
          refine lv_iload (pc := 34) hx hb dX8_alike_34 (lv_at hl 4 rfl) ?_
          obtain ⟨hn_25, hp⟩ := hp
          refine sx_iald (pc := 36) B hH hk_11 hn_25 dX8_alike_36 ?_
          refine W.eq (g2 := F0 m 37 ls [.int (F_8 a_10 x4_7.toNatClampNeg)]) rfl ?_
          refine lv_goto (pc := 37) (tgt := 52) hx hb dX8_alike_37 (by decide) ?_
          exact kj_14 _ _ _ _ _ _ hp (show _ + (bc - c_3) ≤ bc by omega) (show _ + (bs - s_3) ≤ bs by omega) hH (lv_sub hl [0, 1, 2, 3, 4] rfl)
  exact kl_5 k0_5 _ _ _ _ _ _ _ _ h0_5 (show _ + (bc - c_3) ≤ bc by omega) (show _ + (bs - s_3) ≤ bs by omega) hH (lv_sub hl [2, 3, 4, 1, 0] rfl)
theorem dX8_spot_0 : decode cX8_spot 0 = .ok (.iconst 0, 1) := by decide +kernel
theorem dX8_spot_1 : decode cX8_spot 1 = .ok (.istore_n 3, 1) := by decide +kernel
theorem dX8_spot_2 : decode cX8_spot 2 = .ok (.iload_n 3, 1) := by decide +kernel
theorem dX8_spot_3 : decode cX8_spot 3 = .ok (.aload_n 0, 1) := by decide +kernel
theorem dX8_spot_4 : decode cX8_spot 4 = .ok (.getfield 9, 3) := by decide +kernel
theorem dX8_spot_7 : decode cX8_spot 7 = .ok (.if_icmp .ge 25, 3) := by decide +kernel
theorem dX8_spot_10 : decode cX8_spot 10 = .ok (.aload_n 0, 1) := by decide +kernel
theorem dX8_spot_11 : decode cX8_spot 11 = .ok (.getfield 22, 3) := by decide +kernel
theorem dX8_spot_14 : decode cX8_spot 14 = .ok (.iload_n 2, 1) := by decide +kernel
theorem dX8_spot_15 : decode cX8_spot 15 = .ok (.iaload, 1) := by decide +kernel
theorem dX8_spot_16 : decode cX8_spot 16 = .ok (.iload_n 3, 1) := by decide +kernel
theorem dX8_spot_17 : decode cX8_spot 17 = .ok (.invokestatic 58, 3) := by decide +kernel
theorem dX8_spot_20 : decode cX8_spot 20 = .ok (.iload_n 1, 1) := by decide +kernel
theorem dX8_spot_21 : decode cX8_spot 21 = .ok (.if_icmp .ne 5, 3) := by decide +kernel
theorem dX8_spot_24 : decode cX8_spot 24 = .ok (.iload_n 3, 1) := by decide +kernel
theorem dX8_spot_25 : decode cX8_spot 25 = .ok (.ireturn, 1) := by decide +kernel
theorem dX8_spot_26 : decode cX8_spot 26 = .ok (.iinc 3 1, 3) := by decide +kernel
theorem dX8_spot_29 : decode cX8_spot 29 = .ok (.goto (-27), 3) := by decide +kernel
theorem dX8_spot_32 : decode cX8_spot 32 = .ok (.iconst (-1), 1) := by decide +kernel
theorem dX8_spot_33 : decode cX8_spot 33 = .ok (.ireturn, 1) := by decide +kernel
theorem mi_X8_spot : MI yX8_spot cX8_spot 4 (some FieldType.int) 2 := ⟨w_1110, w_124, by decide +kernel, by decide +kernel, by decide +kernel⟩
set_option maxRecDepth 100000 in
set_option maxHeartbeats 4000000 in
theorem C_X8_spot (G : GG) (l : Launch) (th : Nat) (p0 : Int32) (p1 : Int32) (S : St) (Q : Int32 → Prop) (hp : P_X8_spot th p0 p1 S Q) : Ctr G l yX8_spot cX8_spot 4 (some FieldType.int) 1 21 0 0 [.ref th, .int p0, .int p1] S (fun (v : Option Value) (S9 : St) => ∃ (r : Int32), v = some (.int r) ∧ S9 = S ∧ Q r ) := by
  generalize hQQ : (fun (v : Option Value) (S9 : St) => ∃ (r : Int32), v = some (.int r) ∧ S9 = S ∧ Q r ) = QQ
  unfold P_X8_spot at hp
  refine Ctr.of (by decide) (Nat.le_of_ble_eq_true rfl) ?_
  intro p e s m args below meth c ls B hr hlk hin hl hH
  generalize hlocs0 : ([] : List Loc) = locs at hH ⊢
  have hx := B.1
  have hb := B.2.1
  have hl : lv_has ls 4 [(0, .ref th), (1, .int p0), (2, .int p1)] := hl
  obtain ⟨hk_th, hp⟩ := hp
  refine lv_iconst (pc := 0) (v := 0) hx hb dX8_spot_0 (by decide) ?_
  refine lv_istore_n (pc := 1) (lv' := [(3, .int 0), (0, .ref th), (1, .int p0), (2, .int p1)]) hx hb dX8_spot_1 rfl hl (by decide) rfl (fun ls hl => ?_)
  obtain ⟨I_1, ⟨k0_1, h0_1⟩, hst_1⟩ := hp
  have kl_1 : ∀ (n_1 : Nat) (x3_2 : Int32) (H : Heap) (locs : List Loc) (ls : Array Slot), I_1 n_1 x3_2 → Hp G (FA S s.heap.size) s.heap S H locs → lv_has ls 4 [(0, .ref th), (1, .int p0), (2, .int p1), (3, .int x3_2)] → Wm G p l e { frames := 1, cells := 0, slots := 0, locals := 21 } s m args below meth c S QQ 0 0 H locs 0 0 (F0 m 2 ls []) := by
    intro n_1
    induction n_1 using Nat.strongRecOn with
    | ind n_1 ih_1 =>
      intro x3_2 H locs ls hq9 hH hl
      have hp := hst_1 n_1 x3_2 hq9
      refine lv_iload_n (pc := 2) hx hb dX8_spot_2 rfl (lv_at hl 3 rfl) ?_
      refine lv_aload_n (pc := 3) hx hb dX8_spot_3 rfl (lv_at hl 0 rfl) ?_
      refine sx_getI (pc := 4) (j := 0) B hH hk_th coX8 rfl w_821 rfl dX8_spot_4 ?_
      refine W.eq (g2 := F0 m 7 ls [.int (gI S th 0), .int x3_2]) rfl ?_
      refine lv_icmp_ge (pc := 7) (tgt := 32) hx hb dX8_spot_7 (by decide) (fun cc_3 => ?_) (fun cc_3 => ?_)
      · have hp := hp.1 cc_3
        refine lv_iconst (pc := 32) (v := (-1)) hx hb dX8_spot_32 (by decide) ?_
        exact sx_iret (pc := 33) B hH hr hlk (by rw [← hQQ]; exact ⟨_, rfl, rfl, hp⟩) (Nat.le_of_ble_eq_true rfl) (Nat.le_of_ble_eq_true rfl) dX8_spot_33
      · have hp := hp.2 cc_3
        refine lv_aload_n (pc := 10) hx hb dX8_spot_10 rfl (lv_at hl 0 rfl) ?_
        refine sx_getR (pc := 11) (j := 3) B hH hk_th coX8 rfl w_826 rfl dX8_spot_11 ?_
        refine W.eq (g2 := F0 m 14 ls [va_rf (gR S th 3)]) rfl ?_
        obtain ⟨a_4, ha_4, hp⟩ := hp
        refine sx_nonnull (x := a_4) ha_4 ?_
        refine lv_iload_n (pc := 14) hx hb dX8_spot_14 rfl (lv_at hl 2 rfl) ?_
        obtain ⟨hk_5, hp⟩ := hp
        obtain ⟨hn_6, hp⟩ := hp
        refine sx_iald (pc := 15) B hH hk_5 hn_6 dX8_spot_15 ?_
        refine W.eq (g2 := F0 m 16 ls [.int (gI S a_4 p1.toNatClampNeg)]) rfl ?_
        refine lv_iload_n (pc := 16) hx hb dX8_spot_16 rfl (lv_at hl 3 rfl) ?_
        refine sx_S (pc := 17) (As := [.int (gI S a_4 p1.toNatClampNeg), .int x3_2]) (rest := []) B hH hl.1 (C_X4_bellAt G l (gI S a_4 p1.toNatClampNeg) x3_2 _ _ hp) mi_X4_bellAt w_873 w_1102 rfl rfl ⟨Nat.le_of_ble_eq_true rfl, Nat.le_of_ble_eq_true rfl⟩ (Nat.le_of_ble_eq_true rfl) ⟨Nat.le_of_ble_eq_true rfl, Nat.le_of_ble_eq_true rfl⟩ dX8_spot_17 (fun v S1 H locs hq hH => ?_)
        obtain ⟨r_7, rfl, e9, hp⟩ := hq
        rw [e9] at hH
        refine W.eq (g2 := F0 m 20 ls [.int r_7]) rfl ?_
        refine lv_iload_n (pc := 20) hx hb dX8_spot_20 rfl (lv_at hl 1 rfl) ?_
        refine lv_icmp_ne (pc := 21) (tgt := 26) hx hb dX8_spot_21 (by decide) (fun cc_8 => ?_) (fun cc_8 => ?_)
        · have hp := hp.1 cc_8
          obtain ⟨v_9, ev_9⟩ : ∃ y : Int32, y = x3_2 + 1 := ⟨_, rfl⟩
          have hp := hp v_9 ev_9
          refine lv_iinc (pc := 26) (v := v_9) (lv' := [(3, .int v_9), (0, .ref th), (1, .int p0), (2, .int p1)]) hx hb dX8_spot_26 hl (k := 3) rfl (by rw [ev_9]; rfl) (by decide) rfl (fun ls hl => ?_)
          refine lv_goto (pc := 29) (tgt := 2) hx hb dX8_spot_29 (by decide) ?_
          obtain ⟨k9, hlt9, hp⟩ := hp
          exact ih_1 k9 hlt9 _ _ _ _ hp hH (lv_sub hl [1, 2, 3, 0] rfl)
        · have hp := hp.2 cc_8
          refine lv_iload_n (pc := 24) hx hb dX8_spot_24 rfl (lv_at hl 3 rfl) ?_
          exact sx_iret (pc := 25) B hH hr hlk (by rw [← hQQ]; exact ⟨_, rfl, rfl, hp⟩) (Nat.le_of_ble_eq_true rfl) (Nat.le_of_ble_eq_true rfl) dX8_spot_25
  exact kl_1 k0_1 _ _ _ _ h0_1 hH (lv_sub hl [1, 2, 3, 0] rfl)
theorem dX8_fitting_0 : decode cX8_fitting 0 = .ok (.iconst 0, 1) := by decide +kernel
theorem dX8_fitting_1 : decode cX8_fitting 1 = .ok (.istore_n 3, 1) := by decide +kernel
theorem dX8_fitting_2 : decode cX8_fitting 2 = .ok (.iconst 1, 1) := by decide +kernel
theorem dX8_fitting_3 : decode cX8_fitting 3 = .ok (.istore 4, 2) := by decide +kernel
theorem dX8_fitting_5 : decode cX8_fitting 5 = .ok (.iload 4, 2) := by decide +kernel
theorem dX8_fitting_7 : decode cX8_fitting 7 = .ok (.aload_n 0, 1) := by decide +kernel
theorem dX8_fitting_8 : decode cX8_fitting 8 = .ok (.getfield 22, 3) := by decide +kernel
theorem dX8_fitting_11 : decode cX8_fitting 11 = .ok (.arraylength, 1) := by decide +kernel
theorem dX8_fitting_12 : decode cX8_fitting 12 = .ok (.if_icmp .ge 25, 3) := by decide +kernel
theorem dX8_fitting_15 : decode cX8_fitting 15 = .ok (.aload_n 0, 1) := by decide +kernel
theorem dX8_fitting_16 : decode cX8_fitting 16 = .ok (.getfield 22, 3) := by decide +kernel
theorem dX8_fitting_19 : decode cX8_fitting 19 = .ok (.iload 4, 2) := by decide +kernel
theorem dX8_fitting_21 : decode cX8_fitting 21 = .ok (.iaload, 1) := by decide +kernel
theorem dX8_fitting_22 : decode cX8_fitting 22 = .ok (.iload_n 1, 1) := by decide +kernel
theorem dX8_fitting_23 : decode cX8_fitting 23 = .ok (.iand, 1) := by decide +kernel
theorem dX8_fitting_24 : decode cX8_fitting 24 = .ok (.iload_n 2, 1) := by decide +kernel
theorem dX8_fitting_25 : decode cX8_fitting 25 = .ok (.if_icmp .ne 6, 3) := by decide +kernel
theorem dX8_fitting_28 : decode cX8_fitting 28 = .ok (.iinc 3 1, 3) := by decide +kernel
theorem dX8_fitting_31 : decode cX8_fitting 31 = .ok (.iinc 4 1, 3) := by decide +kernel
theorem dX8_fitting_34 : decode cX8_fitting 34 = .ok (.goto (-29), 3) := by decide +kernel
theorem dX8_fitting_37 : decode cX8_fitting 37 = .ok (.iload_n 3, 1) := by decide +kernel
theorem dX8_fitting_38 : decode cX8_fitting 38 = .ok (.ireturn, 1) := by decide +kernel
theorem mi_X8_fitting : MI yX8_fitting cX8_fitting 5 (some FieldType.int) 2 := ⟨w_1118, w_124, by decide +kernel, by decide +kernel, by decide +kernel⟩
set_option maxRecDepth 100000 in
set_option maxHeartbeats 4000000 in
theorem C_X8_fitting (G : GG) (l : Launch) (th : Nat) (p0 : Int32) (p1 : Int32) (S : St) (Q : Int32 → Prop) (hp : P_X8_fitting th p0 p1 S Q) : Ctr G l yX8_fitting cX8_fitting 5 (some FieldType.int) 0 0 0 0 [.ref th, .int p0, .int p1] S (fun (v : Option Value) (S9 : St) => ∃ (r : Int32), v = some (.int r) ∧ S9 = S ∧ Q r ) := by
  generalize hQQ : (fun (v : Option Value) (S9 : St) => ∃ (r : Int32), v = some (.int r) ∧ S9 = S ∧ Q r ) = QQ
  unfold P_X8_fitting at hp
  refine Ctr.of (by decide) (Nat.le_of_ble_eq_true rfl) ?_
  intro p e s m args below meth c ls B hr hlk hin hl hH
  generalize hlocs0 : ([] : List Loc) = locs at hH ⊢
  have hx := B.1
  have hb := B.2.1
  have hl : lv_has ls 5 [(0, .ref th), (1, .int p0), (2, .int p1)] := hl
  obtain ⟨hk_th, hp⟩ := hp
  refine lv_iconst (pc := 0) (v := 0) hx hb dX8_fitting_0 (by decide) ?_
  refine lv_istore_n (pc := 1) (lv' := [(3, .int 0), (0, .ref th), (1, .int p0), (2, .int p1)]) hx hb dX8_fitting_1 rfl hl (by decide) rfl (fun ls hl => ?_)
  refine lv_iconst (pc := 2) (v := 1) hx hb dX8_fitting_2 (by decide) ?_
  refine lv_istore (pc := 3) (lv' := [(4, .int 1), (3, .int 0), (0, .ref th), (1, .int p0), (2, .int p1)]) hx hb dX8_fitting_3 hl (by decide) rfl (fun ls hl => ?_)
  obtain ⟨I_1, ⟨k0_1, h0_1⟩, hst_1⟩ := hp
  have kl_1 : ∀ (n_1 : Nat) (x3_2 : Int32) (x4_3 : Int32) (H : Heap) (locs : List Loc) (ls : Array Slot), I_1 n_1 x3_2 x4_3 → Hp G (FA S s.heap.size) s.heap S H locs → lv_has ls 5 [(0, .ref th), (1, .int p0), (2, .int p1), (3, .int x3_2), (4, .int x4_3)] → Wm G p l e { frames := 0, cells := 0, slots := 0, locals := 0 } s m args below meth c S QQ 0 0 H locs 0 0 (F0 m 5 ls []) := by
    intro n_1
    induction n_1 using Nat.strongRecOn with
    | ind n_1 ih_1 =>
      intro x3_2 x4_3 H locs ls hq9 hH hl
      have hp := hst_1 n_1 x3_2 x4_3 hq9
      refine lv_iload (pc := 5) hx hb dX8_fitting_5 (lv_at hl 4 rfl) ?_
      refine lv_aload_n (pc := 7) hx hb dX8_fitting_7 rfl (lv_at hl 0 rfl) ?_
      refine sx_getR (pc := 8) (j := 3) B hH hk_th coX8 rfl w_826 rfl dX8_fitting_8 ?_
      refine W.eq (g2 := F0 m 11 ls [va_rf (gR S th 3), .int x4_3]) rfl ?_
      obtain ⟨a_4, ha_4, hp⟩ := hp
      refine sx_nonnull (x := a_4) ha_4 ?_
      obtain ⟨hk_5, hp⟩ := hp
      refine sx_alen (pc := 11) B hH hk_5 (by decide) (by decide) dX8_fitting_11 ?_
      refine W.eq (g2 := F0 m 12 ls [.int (nI (ln S a_4)), .int x4_3]) rfl ?_
      refine lv_icmp_ge (pc := 12) (tgt := 37) hx hb dX8_fitting_12 (by decide) (fun cc_6 => ?_) (fun cc_6 => ?_)
      · have hp := hp.1 cc_6
        refine lv_iload_n (pc := 37) hx hb dX8_fitting_37 rfl (lv_at hl 3 rfl) ?_
        exact sx_iret (pc := 38) B hH hr hlk (by rw [← hQQ]; exact ⟨_, rfl, rfl, hp⟩) (Nat.le_of_ble_eq_true rfl) (Nat.le_of_ble_eq_true rfl) dX8_fitting_38
      · have hp := hp.2 cc_6
        refine lv_aload_n (pc := 15) hx hb dX8_fitting_15 rfl (lv_at hl 0 rfl) ?_
        refine sx_getR (pc := 16) (j := 3) B hH hk_th coX8 rfl w_826 rfl dX8_fitting_16 ?_
        refine W.eq (g2 := F0 m 19 ls [va_rf (gR S th 3)]) rfl ?_
        refine sx_nonnull (x := a_4) ha_4 ?_
        refine lv_iload (pc := 19) hx hb dX8_fitting_19 (lv_at hl 4 rfl) ?_
        obtain ⟨hn_7, hp⟩ := hp
        refine sx_iald (pc := 21) B hH hk_5 hn_7 dX8_fitting_21 ?_
        refine W.eq (g2 := F0 m 22 ls [.int (gI S a_4 x4_3.toNatClampNeg)]) rfl ?_
        refine lv_iload_n (pc := 22) hx hb dX8_fitting_22 rfl (lv_at hl 1 rfl) ?_
        refine lv_iand (pc := 23) hx hb dX8_fitting_23 ?_
        refine lv_iload_n (pc := 24) hx hb dX8_fitting_24 rfl (lv_at hl 2 rfl) ?_
        refine lv_icmp_ne (pc := 25) (tgt := 31) hx hb dX8_fitting_25 (by decide) (fun cc_8 => ?_) (fun cc_8 => ?_)
        · have hp := hp.1 cc_8
          obtain ⟨v_9, ev_9⟩ : ∃ y : Int32, y = x4_3 + 1 := ⟨_, rfl⟩
          have hp := hp v_9 ev_9
          refine lv_iinc (pc := 31) (v := v_9) (lv' := [(4, .int v_9), (0, .ref th), (1, .int p0), (2, .int p1), (3, .int x3_2)]) hx hb dX8_fitting_31 hl (k := 4) rfl (by rw [ev_9]; rfl) (by decide) rfl (fun ls hl => ?_)
          refine lv_goto (pc := 34) (tgt := 5) hx hb dX8_fitting_34 (by decide) ?_
          obtain ⟨k9, hlt9, hp⟩ := hp
          exact ih_1 k9 hlt9 _ _ _ _ _ hp hH (lv_sub hl [1, 2, 3, 4, 0] rfl)
        · have hp := hp.2 cc_8
          obtain ⟨v_10, ev_10⟩ : ∃ y : Int32, y = x3_2 + 1 := ⟨_, rfl⟩
          have hp := hp v_10 ev_10
          refine lv_iinc (pc := 28) (v := v_10) (lv' := [(3, .int v_10), (0, .ref th), (1, .int p0), (2, .int p1), (4, .int x4_3)]) hx hb dX8_fitting_28 hl (k := 3) rfl (by rw [ev_10]; rfl) (by decide) rfl (fun ls hl => ?_)
          obtain ⟨v_11, ev_11⟩ : ∃ y : Int32, y = x4_3 + 1 := ⟨_, rfl⟩
          have hp := hp v_11 ev_11
          refine lv_iinc (pc := 31) (v := v_11) (lv' := [(4, .int v_11), (3, .int v_10), (0, .ref th), (1, .int p0), (2, .int p1)]) hx hb dX8_fitting_31 hl (k := 4) rfl (by rw [ev_11]; rfl) (by decide) rfl (fun ls hl => ?_)
          refine lv_goto (pc := 34) (tgt := 5) hx hb dX8_fitting_34 (by decide) ?_
          obtain ⟨k9, hlt9, hp⟩ := hp
          exact ih_1 k9 hlt9 _ _ _ _ _ hp hH (lv_sub hl [2, 3, 4, 1, 0] rfl)
  exact kl_1 k0_1 _ _ _ _ _ h0_1 hH (lv_sub hl [2, 3, 4, 1, 0] rfl)
theorem dX8_runsOf_0 : decode cX8_runsOf 0 = .ok (.iconst 0, 1) := by decide +kernel
theorem dX8_runsOf_1 : decode cX8_runsOf 1 = .ok (.istore_n 2, 1) := by decide +kernel
theorem dX8_runsOf_2 : decode cX8_runsOf 2 = .ok (.iconst 1, 1) := by decide +kernel
theorem dX8_runsOf_3 : decode cX8_runsOf 3 = .ok (.istore_n 3, 1) := by decide +kernel
theorem dX8_runsOf_4 : decode cX8_runsOf 4 = .ok (.iload_n 3, 1) := by decide +kernel
theorem dX8_runsOf_5 : decode cX8_runsOf 5 = .ok (.aload_n 0, 1) := by decide +kernel
theorem dX8_runsOf_6 : decode cX8_runsOf 6 = .ok (.getfield 22, 3) := by decide +kernel
theorem dX8_runsOf_9 : decode cX8_runsOf 9 = .ok (.arraylength, 1) := by decide +kernel
theorem dX8_runsOf_10 : decode cX8_runsOf 10 = .ok (.if_icmp .ge 107, 3) := by decide +kernel
theorem dX8_runsOf_13 : decode cX8_runsOf 13 = .ok (.iconst 1, 1) := by decide +kernel
theorem dX8_runsOf_14 : decode cX8_runsOf 14 = .ok (.istore 4, 2) := by decide +kernel
theorem dX8_runsOf_16 : decode cX8_runsOf 16 = .ok (.iconst 1, 1) := by decide +kernel
theorem dX8_runsOf_17 : decode cX8_runsOf 17 = .ok (.istore 5, 2) := by decide +kernel
theorem dX8_runsOf_19 : decode cX8_runsOf 19 = .ok (.iconst 1, 1) := by decide +kernel
theorem dX8_runsOf_20 : decode cX8_runsOf 20 = .ok (.istore 6, 2) := by decide +kernel
theorem dX8_runsOf_22 : decode cX8_runsOf 22 = .ok (.iload 6, 2) := by decide +kernel
theorem dX8_runsOf_24 : decode cX8_runsOf 24 = .ok (.aload_n 0, 1) := by decide +kernel
theorem dX8_runsOf_25 : decode cX8_runsOf 25 = .ok (.getfield 9, 3) := by decide +kernel
theorem dX8_runsOf_28 : decode cX8_runsOf 28 = .ok (.if_icmp .ge 83, 3) := by decide +kernel
theorem dX8_runsOf_31 : decode cX8_runsOf 31 = .ok (.aload_n 0, 1) := by decide +kernel
theorem dX8_runsOf_32 : decode cX8_runsOf 32 = .ok (.getfield 22, 3) := by decide +kernel
theorem dX8_runsOf_35 : decode cX8_runsOf 35 = .ok (.iload_n 3, 1) := by decide +kernel
theorem dX8_runsOf_36 : decode cX8_runsOf 36 = .ok (.iaload, 1) := by decide +kernel
theorem dX8_runsOf_37 : decode cX8_runsOf 37 = .ok (.iload 6, 2) := by decide +kernel
theorem dX8_runsOf_39 : decode cX8_runsOf 39 = .ok (.invokestatic 58, 3) := by decide +kernel
theorem dX8_runsOf_42 : decode cX8_runsOf 42 = .ok (.aload_n 0, 1) := by decide +kernel
theorem dX8_runsOf_43 : decode cX8_runsOf 43 = .ok (.getfield 22, 3) := by decide +kernel
theorem dX8_runsOf_46 : decode cX8_runsOf 46 = .ok (.iload_n 3, 1) := by decide +kernel
theorem dX8_runsOf_47 : decode cX8_runsOf 47 = .ok (.iaload, 1) := by decide +kernel
theorem dX8_runsOf_48 : decode cX8_runsOf 48 = .ok (.iload 6, 2) := by decide +kernel
theorem dX8_runsOf_50 : decode cX8_runsOf 50 = .ok (.iconst 1, 1) := by decide +kernel
theorem dX8_runsOf_51 : decode cX8_runsOf 51 = .ok (.isub, 1) := by decide +kernel
theorem dX8_runsOf_52 : decode cX8_runsOf 52 = .ok (.invokestatic 58, 3) := by decide +kernel
theorem dX8_runsOf_55 : decode cX8_runsOf 55 = .ok (.isub, 1) := by decide +kernel
theorem dX8_runsOf_56 : decode cX8_runsOf 56 = .ok (.istore 7, 2) := by decide +kernel
theorem dX8_runsOf_58 : decode cX8_runsOf 58 = .ok (.iload 7, 2) := by decide +kernel
theorem dX8_runsOf_60 : decode cX8_runsOf 60 = .ok (.iconst 1, 1) := by decide +kernel
theorem dX8_runsOf_61 : decode cX8_runsOf 61 = .ok (.if_icmp .ne 10, 3) := by decide +kernel
theorem dX8_runsOf_64 : decode cX8_runsOf 64 = .ok (.iload 4, 2) := by decide +kernel
theorem dX8_runsOf_66 : decode cX8_runsOf 66 = .ok (.iconst 1, 1) := by decide +kernel
theorem dX8_runsOf_67 : decode cX8_runsOf 67 = .ok (.iadd, 1) := by decide +kernel
theorem dX8_runsOf_68 : decode cX8_runsOf 68 = .ok (.goto 4, 3) := by decide +kernel
theorem dX8_runsOf_71 : decode cX8_runsOf 71 = .ok (.iconst 1, 1) := by decide +kernel
theorem dX8_runsOf_72 : decode cX8_runsOf 72 = .ok (.istore 4, 2) := by decide +kernel
theorem dX8_runsOf_74 : decode cX8_runsOf 74 = .ok (.iload 7, 2) := by decide +kernel
theorem dX8_runsOf_76 : decode cX8_runsOf 76 = .ok (.iconst (-1), 1) := by decide +kernel
theorem dX8_runsOf_77 : decode cX8_runsOf 77 = .ok (.if_icmp .ne 10, 3) := by decide +kernel
theorem dX8_runsOf_80 : decode cX8_runsOf 80 = .ok (.iload 5, 2) := by decide +kernel
theorem dX8_runsOf_82 : decode cX8_runsOf 82 = .ok (.iconst 1, 1) := by decide +kernel
theorem dX8_runsOf_83 : decode cX8_runsOf 83 = .ok (.iadd, 1) := by decide +kernel
theorem dX8_runsOf_84 : decode cX8_runsOf 84 = .ok (.goto 4, 3) := by decide +kernel
theorem dX8_runsOf_87 : decode cX8_runsOf 87 = .ok (.iconst 1, 1) := by decide +kernel
theorem dX8_runsOf_88 : decode cX8_runsOf 88 = .ok (.istore 5, 2) := by decide +kernel
theorem dX8_runsOf_90 : decode cX8_runsOf 90 = .ok (.iload 4, 2) := by decide +kernel
theorem dX8_runsOf_92 : decode cX8_runsOf 92 = .ok (.iload_n 1, 1) := by decide +kernel
theorem dX8_runsOf_93 : decode cX8_runsOf 93 = .ok (.if_icmp .ge 9, 3) := by decide +kernel
theorem dX8_runsOf_96 : decode cX8_runsOf 96 = .ok (.iload 5, 2) := by decide +kernel
theorem dX8_runsOf_98 : decode cX8_runsOf 98 = .ok (.iload_n 1, 1) := by decide +kernel
theorem dX8_runsOf_99 : decode cX8_runsOf 99 = .ok (.if_icmp .lt 6, 3) := by decide +kernel
theorem dX8_runsOf_102 : decode cX8_runsOf 102 = .ok (.iinc 2 1, 3) := by decide +kernel
theorem dX8_runsOf_105 : decode cX8_runsOf 105 = .ok (.iinc 6 1, 3) := by decide +kernel
theorem dX8_runsOf_108 : decode cX8_runsOf 108 = .ok (.goto (-86), 3) := by decide +kernel
theorem dX8_runsOf_111 : decode cX8_runsOf 111 = .ok (.iinc 3 1, 3) := by decide +kernel
theorem dX8_runsOf_114 : decode cX8_runsOf 114 = .ok (.goto (-110), 3) := by decide +kernel
theorem dX8_runsOf_117 : decode cX8_runsOf 117 = .ok (.iload_n 2, 1) := by decide +kernel
theorem dX8_runsOf_118 : decode cX8_runsOf 118 = .ok (.ireturn, 1) := by decide +kernel
theorem mi_X8_runsOf : MI yX8_runsOf cX8_runsOf 8 (some FieldType.int) 1 := ⟨w_1130, w_124, by decide +kernel, by decide +kernel, by decide +kernel⟩
set_option maxRecDepth 100000 in
set_option maxHeartbeats 4000000 in
theorem C_X8_runsOf (G : GG) (l : Launch) (th : Nat) (p0 : Int32) (S : St) (Q : Int32 → Prop) (hp : P_X8_runsOf th p0 S Q) : Ctr G l yX8_runsOf cX8_runsOf 8 (some FieldType.int) 1 21 0 0 [.ref th, .int p0] S (fun (v : Option Value) (S9 : St) => ∃ (r : Int32), v = some (.int r) ∧ S9 = S ∧ Q r ) := by
  generalize hQQ : (fun (v : Option Value) (S9 : St) => ∃ (r : Int32), v = some (.int r) ∧ S9 = S ∧ Q r ) = QQ
  unfold P_X8_runsOf at hp
  refine Ctr.of (by decide) (Nat.le_of_ble_eq_true rfl) ?_
  intro p e s m args below meth c ls B hr hlk hin hl hH
  generalize hlocs0 : ([] : List Loc) = locs at hH ⊢
  have hx := B.1
  have hb := B.2.1
  have hl : lv_has ls 8 [(0, .ref th), (1, .int p0)] := hl
  obtain ⟨hk_th, hp⟩ := hp
  refine lv_iconst (pc := 0) (v := 0) hx hb dX8_runsOf_0 (by decide) ?_
  refine lv_istore_n (pc := 1) (lv' := [(2, .int 0), (0, .ref th), (1, .int p0)]) hx hb dX8_runsOf_1 rfl hl (by decide) rfl (fun ls hl => ?_)
  refine lv_iconst (pc := 2) (v := 1) hx hb dX8_runsOf_2 (by decide) ?_
  refine lv_istore_n (pc := 3) (lv' := [(3, .int 1), (2, .int 0), (0, .ref th), (1, .int p0)]) hx hb dX8_runsOf_3 rfl hl (by decide) rfl (fun ls hl => ?_)
  obtain ⟨I_1, ⟨k0_1, h0_1⟩, hst_1⟩ := hp
  have kl_1 : ∀ (n_1 : Nat) (x2_2 : Int32) (x3_3 : Int32) (H : Heap) (locs : List Loc) (ls : Array Slot), I_1 n_1 x2_2 x3_3 → Hp G (FA S s.heap.size) s.heap S H locs → lv_has ls 8 [(0, .ref th), (1, .int p0), (2, .int x2_2), (3, .int x3_3)] → Wm G p l e { frames := 1, cells := 0, slots := 0, locals := 21 } s m args below meth c S QQ 0 0 H locs 0 0 (F0 m 4 ls []) := by
    intro n_1
    induction n_1 using Nat.strongRecOn with
    | ind n_1 ih_1 =>
      intro x2_2 x3_3 H locs ls hq9 hH hl
      have hp := hst_1 n_1 x2_2 x3_3 hq9
      refine lv_iload_n (pc := 4) hx hb dX8_runsOf_4 rfl (lv_at hl 3 rfl) ?_
      refine lv_aload_n (pc := 5) hx hb dX8_runsOf_5 rfl (lv_at hl 0 rfl) ?_
      refine sx_getR (pc := 6) (j := 3) B hH hk_th coX8 rfl w_826 rfl dX8_runsOf_6 ?_
      refine W.eq (g2 := F0 m 9 ls [va_rf (gR S th 3), .int x3_3]) rfl ?_
      obtain ⟨a_4, ha_4, hp⟩ := hp
      refine sx_nonnull (x := a_4) ha_4 ?_
      obtain ⟨hk_5, hp⟩ := hp
      refine sx_alen (pc := 9) B hH hk_5 (by decide) (by decide) dX8_runsOf_9 ?_
      refine W.eq (g2 := F0 m 10 ls [.int (nI (ln S a_4)), .int x3_3]) rfl ?_
      refine lv_icmp_ge (pc := 10) (tgt := 117) hx hb dX8_runsOf_10 (by decide) (fun cc_6 => ?_) (fun cc_6 => ?_)
      · have hp := hp.1 cc_6
        refine lv_iload_n (pc := 117) hx hb dX8_runsOf_117 rfl (lv_at hl 2 rfl) ?_
        exact sx_iret (pc := 118) B hH hr hlk (by rw [← hQQ]; exact ⟨_, rfl, rfl, hp⟩) (Nat.le_of_ble_eq_true rfl) (Nat.le_of_ble_eq_true rfl) dX8_runsOf_118
      · have hp := hp.2 cc_6
        refine lv_iconst (pc := 13) (v := 1) hx hb dX8_runsOf_13 (by decide) ?_
        refine lv_istore (pc := 14) (lv' := [(4, .int 1), (0, .ref th), (1, .int p0), (2, .int x2_2), (3, .int x3_3)]) hx hb dX8_runsOf_14 hl (by decide) rfl (fun ls hl => ?_)
        refine lv_iconst (pc := 16) (v := 1) hx hb dX8_runsOf_16 (by decide) ?_
        refine lv_istore (pc := 17) (lv' := [(5, .int 1), (4, .int 1), (0, .ref th), (1, .int p0), (2, .int x2_2), (3, .int x3_3)]) hx hb dX8_runsOf_17 hl (by decide) rfl (fun ls hl => ?_)
        refine lv_iconst (pc := 19) (v := 1) hx hb dX8_runsOf_19 (by decide) ?_
        refine lv_istore (pc := 20) (lv' := [(6, .int 1), (5, .int 1), (4, .int 1), (0, .ref th), (1, .int p0), (2, .int x2_2), (3, .int x3_3)]) hx hb dX8_runsOf_20 hl (by decide) rfl (fun ls hl => ?_)
        obtain ⟨I_7, ⟨k0_7, h0_7⟩, hst_7⟩ := hp
        have kl_7 : ∀ (n_7 : Nat) (x2_8 : Int32) (x4_9 : Int32) (x5_10 : Int32) (x6_11 : Int32) (H : Heap) (locs : List Loc) (ls : Array Slot), I_7 n_7 x2_8 x4_9 x5_10 x6_11 → Hp G (FA S s.heap.size) s.heap S H locs → lv_has ls 8 [(0, .ref th), (1, .int p0), (2, .int x2_8), (3, .int x3_3), (4, .int x4_9), (5, .int x5_10), (6, .int x6_11)] → Wm G p l e { frames := 1, cells := 0, slots := 0, locals := 21 } s m args below meth c S QQ 0 0 H locs 0 0 (F0 m 22 ls []) := by
          intro n_7
          induction n_7 using Nat.strongRecOn with
          | ind n_7 ih_7 =>
            intro x2_8 x4_9 x5_10 x6_11 H locs ls hq9 hH hl
            have hp := hst_7 n_7 x2_8 x4_9 x5_10 x6_11 hq9
            refine lv_iload (pc := 22) hx hb dX8_runsOf_22 (lv_at hl 6 rfl) ?_
            refine lv_aload_n (pc := 24) hx hb dX8_runsOf_24 rfl (lv_at hl 0 rfl) ?_
            refine sx_getI (pc := 25) (j := 0) B hH hk_th coX8 rfl w_821 rfl dX8_runsOf_25 ?_
            refine W.eq (g2 := F0 m 28 ls [.int (gI S th 0), .int x6_11]) rfl ?_
            refine lv_icmp_ge (pc := 28) (tgt := 111) hx hb dX8_runsOf_28 (by decide) (fun cc_12 => ?_) (fun cc_12 => ?_)
            · have hp := hp.1 cc_12
              obtain ⟨v_13, ev_13⟩ : ∃ y : Int32, y = x3_3 + 1 := ⟨_, rfl⟩
              have hp := hp v_13 ev_13
              refine lv_iinc (pc := 111) (v := v_13) (lv' := [(3, .int v_13), (0, .ref th), (1, .int p0), (2, .int x2_8), (4, .int x4_9), (5, .int x5_10), (6, .int x6_11)]) hx hb dX8_runsOf_111 hl (k := 3) rfl (by rw [ev_13]; rfl) (by decide) rfl (fun ls hl => ?_)
              refine lv_goto (pc := 114) (tgt := 4) hx hb dX8_runsOf_114 (by decide) ?_
              obtain ⟨k9, hlt9, hp⟩ := hp
              exact ih_1 k9 hlt9 _ _ _ _ _ hp hH (lv_sub hl [1, 2, 3, 0] rfl)
            · have hp := hp.2 cc_12
              refine lv_aload_n (pc := 31) hx hb dX8_runsOf_31 rfl (lv_at hl 0 rfl) ?_
              refine sx_getR (pc := 32) (j := 3) B hH hk_th coX8 rfl w_826 rfl dX8_runsOf_32 ?_
              refine W.eq (g2 := F0 m 35 ls [va_rf (gR S th 3)]) rfl ?_
              refine sx_nonnull (x := a_4) ha_4 ?_
              refine lv_iload_n (pc := 35) hx hb dX8_runsOf_35 rfl (lv_at hl 3 rfl) ?_
              obtain ⟨hn_14, hp⟩ := hp
              refine sx_iald (pc := 36) B hH hk_5 hn_14 dX8_runsOf_36 ?_
              refine W.eq (g2 := F0 m 37 ls [.int (gI S a_4 x3_3.toNatClampNeg)]) rfl ?_
              refine lv_iload (pc := 37) hx hb dX8_runsOf_37 (lv_at hl 6 rfl) ?_
              refine sx_S (pc := 39) (As := [.int (gI S a_4 x3_3.toNatClampNeg), .int x6_11]) (rest := []) B hH hl.1 (C_X4_bellAt G l (gI S a_4 x3_3.toNatClampNeg) x6_11 _ _ hp) mi_X4_bellAt w_873 w_1102 rfl rfl ⟨Nat.le_of_ble_eq_true rfl, Nat.le_of_ble_eq_true rfl⟩ (Nat.le_of_ble_eq_true rfl) ⟨Nat.le_of_ble_eq_true rfl, Nat.le_of_ble_eq_true rfl⟩ dX8_runsOf_39 (fun v S1 H locs hq hH => ?_)
              obtain ⟨r_15, rfl, e9, hp⟩ := hq
              rw [e9] at hH
              refine W.eq (g2 := F0 m 42 ls [.int r_15]) rfl ?_
              refine lv_aload_n (pc := 42) hx hb dX8_runsOf_42 rfl (lv_at hl 0 rfl) ?_
              refine sx_getR (pc := 43) (j := 3) B hH hk_th coX8 rfl w_826 rfl dX8_runsOf_43 ?_
              refine W.eq (g2 := F0 m 46 ls [va_rf (gR S th 3), .int r_15]) rfl ?_
              refine sx_nonnull (x := a_4) ha_4 ?_
              refine lv_iload_n (pc := 46) hx hb dX8_runsOf_46 rfl (lv_at hl 3 rfl) ?_
              refine sx_iald (pc := 47) B hH hk_5 hn_14 dX8_runsOf_47 ?_
              refine W.eq (g2 := F0 m 48 ls [.int (gI S a_4 x3_3.toNatClampNeg), .int r_15]) rfl ?_
              refine lv_iload (pc := 48) hx hb dX8_runsOf_48 (lv_at hl 6 rfl) ?_
              refine lv_iconst (pc := 50) (v := 1) hx hb dX8_runsOf_50 (by decide) ?_
              refine lv_isub (pc := 51) hx hb dX8_runsOf_51 ?_
              refine sx_S (pc := 52) (As := [.int (gI S a_4 x3_3.toNatClampNeg), .int (x6_11 - 1)]) (rest := [.int r_15]) B hH hl.1 (C_X4_bellAt G l (gI S a_4 x3_3.toNatClampNeg) (x6_11 - 1) _ _ hp) mi_X4_bellAt w_873 w_1102 rfl rfl ⟨Nat.le_of_ble_eq_true rfl, Nat.le_of_ble_eq_true rfl⟩ (Nat.le_of_ble_eq_true rfl) ⟨Nat.le_of_ble_eq_true rfl, Nat.le_of_ble_eq_true rfl⟩ dX8_runsOf_52 (fun v S1 H locs hq hH => ?_)
              obtain ⟨r_16, rfl, e9, hp⟩ := hq
              rw [e9] at hH
              refine W.eq (g2 := F0 m 55 ls [.int r_16, .int r_15]) rfl ?_
              refine lv_isub (pc := 55) hx hb dX8_runsOf_55 ?_
              refine lv_topi (fun v_17 ev_17 => ?_)
              have hp := hp v_17 ev_17
              refine lv_istore (pc := 56) (lv' := [(7, .int v_17), (0, .ref th), (1, .int p0), (2, .int x2_8), (3, .int x3_3), (4, .int x4_9), (5, .int x5_10), (6, .int x6_11)]) hx hb dX8_runsOf_56 hl (by decide) rfl (fun ls hl => ?_)
              refine lv_iload (pc := 58) hx hb dX8_runsOf_58 (lv_at hl 0 rfl) ?_
              refine lv_iconst (pc := 60) (v := 1) hx hb dX8_runsOf_60 (by decide) ?_
              obtain ⟨J_19, hj_19, hp⟩ := hp
              have kj_19 : ∀ (t_20 : Int32) (H : Heap) (locs : List Loc) (ls : Array Slot), J_19 t_20 → Hp G (FA S s.heap.size) s.heap S H locs → lv_has ls 8 [(0, .ref th), (1, .int p0), (2, .int x2_8), (3, .int x3_3), (5, .int x5_10), (6, .int x6_11), (7, .int v_17)] → Wm G p l e { frames := 1, cells := 0, slots := 0, locals := 21 } s m args below meth c S QQ 0 0 H locs 0 0 (F0 m 72 ls [.int t_20]) := by
                intro t_20 H locs ls hq9 hH hl
                have hp := hj_19 t_20 hq9
                refine lv_istore (pc := 72) (lv' := [(4, .int t_20), (0, .ref th), (1, .int p0), (2, .int x2_8), (3, .int x3_3), (5, .int x5_10), (6, .int x6_11), (7, .int v_17)]) hx hb dX8_runsOf_72 hl (by decide) rfl (fun ls hl => ?_)
                refine lv_iload (pc := 74) hx hb dX8_runsOf_74 (lv_at hl 7 rfl) ?_
                refine lv_iconst (pc := 76) (v := (-1)) hx hb dX8_runsOf_76 (by decide) ?_
                obtain ⟨J_22, hj_22, hp⟩ := hp
                have kj_22 : ∀ (t_23 : Int32) (H : Heap) (locs : List Loc) (ls : Array Slot), J_22 t_23 → Hp G (FA S s.heap.size) s.heap S H locs → lv_has ls 8 [(0, .ref th), (1, .int p0), (2, .int x2_8), (3, .int x3_3), (4, .int t_20), (6, .int x6_11)] → Wm G p l e { frames := 1, cells := 0, slots := 0, locals := 21 } s m args below meth c S QQ 0 0 H locs 0 0 (F0 m 88 ls [.int t_23]) := by
                  intro t_23 H locs ls hq9 hH hl
                  have hp := hj_22 t_23 hq9
                  refine lv_istore (pc := 88) (lv' := [(5, .int t_23), (0, .ref th), (1, .int p0), (2, .int x2_8), (3, .int x3_3), (4, .int t_20), (6, .int x6_11)]) hx hb dX8_runsOf_88 hl (by decide) rfl (fun ls hl => ?_)
                  refine lv_iload (pc := 90) hx hb dX8_runsOf_90 (lv_at hl 5 rfl) ?_
                  refine lv_iload_n (pc := 92) hx hb dX8_runsOf_92 rfl (lv_at hl 2 rfl) ?_
                  refine lv_icmp_ge (pc := 93) (tgt := 102) hx hb dX8_runsOf_93 (by decide) (fun cc_24 => ?_) (fun cc_24 => ?_)
                  · have hp := hp.1 cc_24
                    obtain ⟨v_25, ev_25⟩ : ∃ y : Int32, y = x2_8 + 1 := ⟨_, rfl⟩
                    have hp := hp v_25 ev_25
                    refine lv_iinc (pc := 102) (v := v_25) (lv' := [(2, .int v_25), (5, .int t_23), (0, .ref th), (1, .int p0), (3, .int x3_3), (4, .int t_20), (6, .int x6_11)]) hx hb dX8_runsOf_102 hl (k := 3) rfl (by rw [ev_25]; rfl) (by decide) rfl (fun ls hl => ?_)
                    obtain ⟨v_26, ev_26⟩ : ∃ y : Int32, y = x6_11 + 1 := ⟨_, rfl⟩
                    have hp := hp v_26 ev_26
                    refine lv_iinc (pc := 105) (v := v_26) (lv' := [(6, .int v_26), (2, .int v_25), (5, .int t_23), (0, .ref th), (1, .int p0), (3, .int x3_3), (4, .int t_20)]) hx hb dX8_runsOf_105 hl (k := 6) rfl (by rw [ev_26]; rfl) (by decide) rfl (fun ls hl => ?_)
                    refine lv_goto (pc := 108) (tgt := 22) hx hb dX8_runsOf_108 (by decide) ?_
                    obtain ⟨k9, hlt9, hp⟩ := hp
                    exact ih_7 k9 hlt9 _ _ _ _ _ _ _ hp hH (lv_sub hl [3, 4, 1, 5, 6, 2, 0] rfl)
                  · have hp := hp.2 cc_24
                    refine lv_iload (pc := 96) hx hb dX8_runsOf_96 (lv_at hl 0 rfl) ?_
                    refine lv_iload_n (pc := 98) hx hb dX8_runsOf_98 rfl (lv_at hl 2 rfl) ?_
                    refine lv_icmp_lt (pc := 99) (tgt := 105) hx hb dX8_runsOf_99 (by decide) (fun cc_27 => ?_) (fun cc_27 => ?_)
                    · have hp := hp.1 cc_27
                      obtain ⟨v_28, ev_28⟩ : ∃ y : Int32, y = x6_11 + 1 := ⟨_, rfl⟩
                      have hp := hp v_28 ev_28
                      refine lv_iinc (pc := 105) (v := v_28) (lv' := [(6, .int v_28), (5, .int t_23), (0, .ref th), (1, .int p0), (2, .int x2_8), (3, .int x3_3), (4, .int t_20)]) hx hb dX8_runsOf_105 hl (k := 6) rfl (by rw [ev_28]; rfl) (by decide) rfl (fun ls hl => ?_)
                      refine lv_goto (pc := 108) (tgt := 22) hx hb dX8_runsOf_108 (by decide) ?_
                      obtain ⟨k9, hlt9, hp⟩ := hp
                      exact ih_7 k9 hlt9 _ _ _ _ _ _ _ hp hH (lv_sub hl [2, 3, 4, 5, 6, 1, 0] rfl)
                    · have hp := hp.2 cc_27
                      obtain ⟨v_29, ev_29⟩ : ∃ y : Int32, y = x2_8 + 1 := ⟨_, rfl⟩
                      have hp := hp v_29 ev_29
                      refine lv_iinc (pc := 102) (v := v_29) (lv' := [(2, .int v_29), (5, .int t_23), (0, .ref th), (1, .int p0), (3, .int x3_3), (4, .int t_20), (6, .int x6_11)]) hx hb dX8_runsOf_102 hl (k := 3) rfl (by rw [ev_29]; rfl) (by decide) rfl (fun ls hl => ?_)
                      obtain ⟨v_30, ev_30⟩ : ∃ y : Int32, y = x6_11 + 1 := ⟨_, rfl⟩
                      have hp := hp v_30 ev_30
                      refine lv_iinc (pc := 105) (v := v_30) (lv' := [(6, .int v_30), (2, .int v_29), (5, .int t_23), (0, .ref th), (1, .int p0), (3, .int x3_3), (4, .int t_20)]) hx hb dX8_runsOf_105 hl (k := 6) rfl (by rw [ev_30]; rfl) (by decide) rfl (fun ls hl => ?_)
                      refine lv_goto (pc := 108) (tgt := 22) hx hb dX8_runsOf_108 (by decide) ?_
                      obtain ⟨k9, hlt9, hp⟩ := hp
                      exact ih_7 k9 hlt9 _ _ _ _ _ _ _ hp hH (lv_sub hl [3, 4, 1, 5, 6, 2, 0] rfl)
                refine lv_icmp_ne (pc := 77) (tgt := 87) hx hb dX8_runsOf_77 (by decide) (fun cc_21 => ?_) (fun cc_21 => ?_)
                · have hp := hp.1 cc_21
                  refine lv_iconst (pc := 87) (v := 1) hx hb dX8_runsOf_87 (by decide) ?_
                  exact kj_22 _ _ _ _ hp hH (lv_sub hl [1, 2, 3, 4, 0, 6] rfl)
                · have hp := hp.2 cc_21
                  refine lv_iload (pc := 80) hx hb dX8_runsOf_80 (lv_at hl 5 rfl) ?_
                  refine lv_iconst (pc := 82) (v := 1) hx hb dX8_runsOf_82 (by decide) ?_
                  refine lv_iadd (pc := 83) hx hb dX8_runsOf_83 ?_
                  refine lv_goto (pc := 84) (tgt := 88) hx hb dX8_runsOf_84 (by decide) ?_
                  exact kj_22 _ _ _ _ hp hH (lv_sub hl [1, 2, 3, 4, 0, 6] rfl)
              refine lv_icmp_ne (pc := 61) (tgt := 71) hx hb dX8_runsOf_61 (by decide) (fun cc_18 => ?_) (fun cc_18 => ?_)
              · have hp := hp.1 cc_18
                refine lv_iconst (pc := 71) (v := 1) hx hb dX8_runsOf_71 (by decide) ?_
                exact kj_19 _ _ _ _ hp hH (lv_sub hl [1, 2, 3, 4, 6, 7, 0] rfl)
              · have hp := hp.2 cc_18
                refine lv_iload (pc := 64) hx hb dX8_runsOf_64 (lv_at hl 5 rfl) ?_
                refine lv_iconst (pc := 66) (v := 1) hx hb dX8_runsOf_66 (by decide) ?_
                refine lv_iadd (pc := 67) hx hb dX8_runsOf_67 ?_
                refine lv_goto (pc := 68) (tgt := 72) hx hb dX8_runsOf_68 (by decide) ?_
                exact kj_19 _ _ _ _ hp hH (lv_sub hl [1, 2, 3, 4, 6, 7, 0] rfl)
        exact kl_7 k0_7 _ _ _ _ _ _ _ h0_7 hH (lv_sub hl [3, 4, 5, 6, 2, 1, 0] rfl)
  exact kl_1 k0_1 _ _ _ _ _ h0_1 hH (lv_sub hl [2, 3, 1, 0] rfl)
theorem dX8_dodgesOf_0 : decode cX8_dodgesOf 0 = .ok (.iconst 0, 1) := by decide +kernel
theorem dX8_dodgesOf_1 : decode cX8_dodgesOf 1 = .ok (.istore_n 2, 1) := by decide +kernel
theorem dX8_dodgesOf_2 : decode cX8_dodgesOf 2 = .ok (.iconst (-1), 1) := by decide +kernel
theorem dX8_dodgesOf_3 : decode cX8_dodgesOf 3 = .ok (.istore_n 3, 1) := by decide +kernel
theorem dX8_dodgesOf_4 : decode cX8_dodgesOf 4 = .ok (.iconst (-1), 1) := by decide +kernel
theorem dX8_dodgesOf_5 : decode cX8_dodgesOf 5 = .ok (.istore 4, 2) := by decide +kernel
theorem dX8_dodgesOf_7 : decode cX8_dodgesOf 7 = .ok (.iconst 0, 1) := by decide +kernel
theorem dX8_dodgesOf_8 : decode cX8_dodgesOf 8 = .ok (.istore 5, 2) := by decide +kernel
theorem dX8_dodgesOf_10 : decode cX8_dodgesOf 10 = .ok (.iload 5, 2) := by decide +kernel
theorem dX8_dodgesOf_12 : decode cX8_dodgesOf 12 = .ok (.aload_n 0, 1) := by decide +kernel
theorem dX8_dodgesOf_13 : decode cX8_dodgesOf 13 = .ok (.getfield 22, 3) := by decide +kernel
theorem dX8_dodgesOf_16 : decode cX8_dodgesOf 16 = .ok (.arraylength, 1) := by decide +kernel
theorem dX8_dodgesOf_17 : decode cX8_dodgesOf 17 = .ok (.if_icmp .ge 47, 3) := by decide +kernel
theorem dX8_dodgesOf_20 : decode cX8_dodgesOf 20 = .ok (.aload_n 0, 1) := by decide +kernel
theorem dX8_dodgesOf_21 : decode cX8_dodgesOf 21 = .ok (.iload_n 1, 1) := by decide +kernel
theorem dX8_dodgesOf_22 : decode cX8_dodgesOf 22 = .ok (.iload 5, 2) := by decide +kernel
theorem dX8_dodgesOf_24 : decode cX8_dodgesOf 24 = .ok (.invokevirtual 61, 3) := by decide +kernel
theorem dX8_dodgesOf_27 : decode cX8_dodgesOf 27 = .ok (.istore 6, 2) := by decide +kernel
theorem dX8_dodgesOf_29 : decode cX8_dodgesOf 29 = .ok (.iload 5, 2) := by decide +kernel
theorem dX8_dodgesOf_31 : decode cX8_dodgesOf 31 = .ok (.iconst 1, 1) := by decide +kernel
theorem dX8_dodgesOf_32 : decode cX8_dodgesOf 32 = .ok (.if_icmp .le 19, 3) := by decide +kernel
theorem dX8_dodgesOf_35 : decode cX8_dodgesOf 35 = .ok (.iload 6, 2) := by decide +kernel
theorem dX8_dodgesOf_37 : decode cX8_dodgesOf 37 = .ok (.iload_n 3, 1) := by decide +kernel
theorem dX8_dodgesOf_38 : decode cX8_dodgesOf 38 = .ok (.if_icmp .ne 13, 3) := by decide +kernel
theorem dX8_dodgesOf_41 : decode cX8_dodgesOf 41 = .ok (.iload 6, 2) := by decide +kernel
theorem dX8_dodgesOf_43 : decode cX8_dodgesOf 43 = .ok (.iload 4, 2) := by decide +kernel
theorem dX8_dodgesOf_45 : decode cX8_dodgesOf 45 = .ok (.if_icmp .eq 6, 3) := by decide +kernel
theorem dX8_dodgesOf_48 : decode cX8_dodgesOf 48 = .ok (.iinc 2 1, 3) := by decide +kernel
theorem dX8_dodgesOf_51 : decode cX8_dodgesOf 51 = .ok (.iload 4, 2) := by decide +kernel
theorem dX8_dodgesOf_53 : decode cX8_dodgesOf 53 = .ok (.istore_n 3, 1) := by decide +kernel
theorem dX8_dodgesOf_54 : decode cX8_dodgesOf 54 = .ok (.iload 6, 2) := by decide +kernel
theorem dX8_dodgesOf_56 : decode cX8_dodgesOf 56 = .ok (.istore 4, 2) := by decide +kernel
theorem dX8_dodgesOf_58 : decode cX8_dodgesOf 58 = .ok (.iinc 5 1, 3) := by decide +kernel
theorem dX8_dodgesOf_61 : decode cX8_dodgesOf 61 = .ok (.goto (-51), 3) := by decide +kernel
theorem dX8_dodgesOf_64 : decode cX8_dodgesOf 64 = .ok (.iload_n 2, 1) := by decide +kernel
theorem dX8_dodgesOf_65 : decode cX8_dodgesOf 65 = .ok (.ireturn, 1) := by decide +kernel
theorem mi_X8_dodgesOf : MI yX8_dodgesOf cX8_dodgesOf 7 (some FieldType.int) 1 := ⟨w_1138, w_124, by decide +kernel, by decide +kernel, by decide +kernel⟩
set_option maxRecDepth 100000 in
set_option maxHeartbeats 4000000 in
theorem C_X8_dodgesOf (G : GG) (l : Launch) (th : Nat) (p0 : Int32) (S : St) (Q : Int32 → Prop) (hp : P_X8_dodgesOf th p0 S Q) : Ctr G l yX8_dodgesOf cX8_dodgesOf 7 (some FieldType.int) 2 44 0 0 [.ref th, .int p0] S (fun (v : Option Value) (S9 : St) => ∃ (r : Int32), v = some (.int r) ∧ S9 = S ∧ Q r ) := by
  generalize hQQ : (fun (v : Option Value) (S9 : St) => ∃ (r : Int32), v = some (.int r) ∧ S9 = S ∧ Q r ) = QQ
  unfold P_X8_dodgesOf at hp
  refine Ctr.of (by decide) (Nat.le_of_ble_eq_true rfl) ?_
  intro p e s m args below meth c ls B hr hlk hin hl hH
  generalize hlocs0 : ([] : List Loc) = locs at hH ⊢
  have hx := B.1
  have hb := B.2.1
  have hl : lv_has ls 7 [(0, .ref th), (1, .int p0)] := hl
  obtain ⟨hk_th, hp⟩ := hp
  refine lv_iconst (pc := 0) (v := 0) hx hb dX8_dodgesOf_0 (by decide) ?_
  refine lv_istore_n (pc := 1) (lv' := [(2, .int 0), (0, .ref th), (1, .int p0)]) hx hb dX8_dodgesOf_1 rfl hl (by decide) rfl (fun ls hl => ?_)
  refine lv_iconst (pc := 2) (v := (-1)) hx hb dX8_dodgesOf_2 (by decide) ?_
  refine lv_istore_n (pc := 3) (lv' := [(3, .int (-1)), (2, .int 0), (0, .ref th), (1, .int p0)]) hx hb dX8_dodgesOf_3 rfl hl (by decide) rfl (fun ls hl => ?_)
  refine lv_iconst (pc := 4) (v := (-1)) hx hb dX8_dodgesOf_4 (by decide) ?_
  refine lv_istore (pc := 5) (lv' := [(4, .int (-1)), (3, .int (-1)), (2, .int 0), (0, .ref th), (1, .int p0)]) hx hb dX8_dodgesOf_5 hl (by decide) rfl (fun ls hl => ?_)
  refine lv_iconst (pc := 7) (v := 0) hx hb dX8_dodgesOf_7 (by decide) ?_
  refine lv_istore (pc := 8) (lv' := [(5, .int 0), (4, .int (-1)), (3, .int (-1)), (2, .int 0), (0, .ref th), (1, .int p0)]) hx hb dX8_dodgesOf_8 hl (by decide) rfl (fun ls hl => ?_)
  obtain ⟨I_1, ⟨k0_1, h0_1⟩, hst_1⟩ := hp
  have kl_1 : ∀ (n_1 : Nat) (x2_2 : Int32) (x3_3 : Int32) (x4_4 : Int32) (x5_5 : Int32) (H : Heap) (locs : List Loc) (ls : Array Slot), I_1 n_1 x2_2 x3_3 x4_4 x5_5 → Hp G (FA S s.heap.size) s.heap S H locs → lv_has ls 7 [(0, .ref th), (1, .int p0), (2, .int x2_2), (3, .int x3_3), (4, .int x4_4), (5, .int x5_5)] → Wm G p l e { frames := 2, cells := 0, slots := 0, locals := 44 } s m args below meth c S QQ 0 0 H locs 0 0 (F0 m 10 ls []) := by
    intro n_1
    induction n_1 using Nat.strongRecOn with
    | ind n_1 ih_1 =>
      intro x2_2 x3_3 x4_4 x5_5 H locs ls hq9 hH hl
      have hp := hst_1 n_1 x2_2 x3_3 x4_4 x5_5 hq9
      refine lv_iload (pc := 10) hx hb dX8_dodgesOf_10 (lv_at hl 5 rfl) ?_
      refine lv_aload_n (pc := 12) hx hb dX8_dodgesOf_12 rfl (lv_at hl 0 rfl) ?_
      refine sx_getR (pc := 13) (j := 3) B hH hk_th coX8 rfl w_826 rfl dX8_dodgesOf_13 ?_
      refine W.eq (g2 := F0 m 16 ls [va_rf (gR S th 3), .int x5_5]) rfl ?_
      obtain ⟨a_6, ha_6, hp⟩ := hp
      refine sx_nonnull (x := a_6) ha_6 ?_
      obtain ⟨hk_7, hp⟩ := hp
      refine sx_alen (pc := 16) B hH hk_7 (by decide) (by decide) dX8_dodgesOf_16 ?_
      refine W.eq (g2 := F0 m 17 ls [.int (nI (ln S a_6)), .int x5_5]) rfl ?_
      refine lv_icmp_ge (pc := 17) (tgt := 64) hx hb dX8_dodgesOf_17 (by decide) (fun cc_8 => ?_) (fun cc_8 => ?_)
      · have hp := hp.1 cc_8
        refine lv_iload_n (pc := 64) hx hb dX8_dodgesOf_64 rfl (lv_at hl 2 rfl) ?_
        exact sx_iret (pc := 65) B hH hr hlk (by rw [← hQQ]; exact ⟨_, rfl, rfl, hp⟩) (Nat.le_of_ble_eq_true rfl) (Nat.le_of_ble_eq_true rfl) dX8_dodgesOf_65
      · have hp := hp.2 cc_8
        refine lv_aload_n (pc := 20) hx hb dX8_dodgesOf_20 rfl (lv_at hl 0 rfl) ?_
        refine lv_iload_n (pc := 21) hx hb dX8_dodgesOf_21 rfl (lv_at hl 1 rfl) ?_
        refine lv_iload (pc := 22) hx hb dX8_dodgesOf_22 (lv_at hl 5 rfl) ?_
        refine sx_V (pc := 24) (As := [.int p0, .int x5_5]) (rest := []) B hH hl.1 (C_X8_spot G l th p0 x5_5 _ _ hp) mi_X8_spot coX8 hk_th w_1108 w_1109 w_1139 rfl rfl ⟨Nat.le_of_ble_eq_true rfl, Nat.le_of_ble_eq_true rfl⟩ (Nat.le_of_ble_eq_true rfl) ⟨Nat.le_of_ble_eq_true rfl, Nat.le_of_ble_eq_true rfl⟩ dX8_dodgesOf_24 (fun v S1 H locs hq hH => ?_)
        obtain ⟨r_9, rfl, e9, hp⟩ := hq
        rw [e9] at hH
        refine W.eq (g2 := F0 m 27 ls [.int r_9]) rfl ?_
        refine lv_istore (pc := 27) (lv' := [(6, .int r_9), (0, .ref th), (1, .int p0), (2, .int x2_2), (3, .int x3_3), (4, .int x4_4), (5, .int x5_5)]) hx hb dX8_dodgesOf_27 hl (by decide) rfl (fun ls hl => ?_)
        refine lv_iload (pc := 29) hx hb dX8_dodgesOf_29 (lv_at hl 6 rfl) ?_
        refine lv_iconst (pc := 31) (v := 1) hx hb dX8_dodgesOf_31 (by decide) ?_
        refine lv_icmp_le (pc := 32) (tgt := 51) hx hb dX8_dodgesOf_32 (by decide) (fun cc_10 => ?_) (fun cc_10 => ?_)
        · have hp := hp.1 cc_10
          refine lv_iload (pc := 51) hx hb dX8_dodgesOf_51 (lv_at hl 5 rfl) ?_
          refine lv_istore_n (pc := 53) (lv' := [(3, .int x4_4), (6, .int r_9), (0, .ref th), (1, .int p0), (2, .int x2_2), (4, .int x4_4), (5, .int x5_5)]) hx hb dX8_dodgesOf_53 rfl hl (by decide) rfl (fun ls hl => ?_)
          refine lv_iload (pc := 54) hx hb dX8_dodgesOf_54 (lv_at hl 1 rfl) ?_
          refine lv_istore (pc := 56) (lv' := [(4, .int r_9), (3, .int x4_4), (6, .int r_9), (0, .ref th), (1, .int p0), (2, .int x2_2), (5, .int x5_5)]) hx hb dX8_dodgesOf_56 hl (by decide) rfl (fun ls hl => ?_)
          obtain ⟨v_11, ev_11⟩ : ∃ y : Int32, y = x5_5 + 1 := ⟨_, rfl⟩
          have hp := hp v_11 ev_11
          refine lv_iinc (pc := 58) (v := v_11) (lv' := [(5, .int v_11), (4, .int r_9), (3, .int x4_4), (6, .int r_9), (0, .ref th), (1, .int p0), (2, .int x2_2)]) hx hb dX8_dodgesOf_58 hl (k := 6) rfl (by rw [ev_11]; rfl) (by decide) rfl (fun ls hl => ?_)
          refine lv_goto (pc := 61) (tgt := 10) hx hb dX8_dodgesOf_61 (by decide) ?_
          obtain ⟨k9, hlt9, hp⟩ := hp
          exact ih_1 k9 hlt9 _ _ _ _ _ _ _ hp hH (lv_sub hl [4, 5, 6, 2, 1, 0] rfl)
        · have hp := hp.2 cc_10
          refine lv_iload (pc := 35) hx hb dX8_dodgesOf_35 (lv_at hl 0 rfl) ?_
          refine lv_iload_n (pc := 37) hx hb dX8_dodgesOf_37 rfl (lv_at hl 4 rfl) ?_
          refine lv_icmp_ne (pc := 38) (tgt := 51) hx hb dX8_dodgesOf_38 (by decide) (fun cc_12 => ?_) (fun cc_12 => ?_)
          · have hp := hp.1 cc_12
            refine lv_iload (pc := 51) hx hb dX8_dodgesOf_51 (lv_at hl 5 rfl) ?_
            refine lv_istore_n (pc := 53) (lv' := [(3, .int x4_4), (6, .int r_9), (0, .ref th), (1, .int p0), (2, .int x2_2), (4, .int x4_4), (5, .int x5_5)]) hx hb dX8_dodgesOf_53 rfl hl (by decide) rfl (fun ls hl => ?_)
            refine lv_iload (pc := 54) hx hb dX8_dodgesOf_54 (lv_at hl 1 rfl) ?_
            refine lv_istore (pc := 56) (lv' := [(4, .int r_9), (3, .int x4_4), (6, .int r_9), (0, .ref th), (1, .int p0), (2, .int x2_2), (5, .int x5_5)]) hx hb dX8_dodgesOf_56 hl (by decide) rfl (fun ls hl => ?_)
            obtain ⟨v_13, ev_13⟩ : ∃ y : Int32, y = x5_5 + 1 := ⟨_, rfl⟩
            have hp := hp v_13 ev_13
            refine lv_iinc (pc := 58) (v := v_13) (lv' := [(5, .int v_13), (4, .int r_9), (3, .int x4_4), (6, .int r_9), (0, .ref th), (1, .int p0), (2, .int x2_2)]) hx hb dX8_dodgesOf_58 hl (k := 6) rfl (by rw [ev_13]; rfl) (by decide) rfl (fun ls hl => ?_)
            refine lv_goto (pc := 61) (tgt := 10) hx hb dX8_dodgesOf_61 (by decide) ?_
            obtain ⟨k9, hlt9, hp⟩ := hp
            exact ih_1 k9 hlt9 _ _ _ _ _ _ _ hp hH (lv_sub hl [4, 5, 6, 2, 1, 0] rfl)
          · have hp := hp.2 cc_12
            refine lv_iload (pc := 41) hx hb dX8_dodgesOf_41 (lv_at hl 0 rfl) ?_
            refine lv_iload (pc := 43) hx hb dX8_dodgesOf_43 (lv_at hl 5 rfl) ?_
            refine lv_icmp_eq (pc := 45) (tgt := 51) hx hb dX8_dodgesOf_45 (by decide) (fun cc_14 => ?_) (fun cc_14 => ?_)
            · have hp := hp.1 cc_14
              refine lv_iload (pc := 51) hx hb dX8_dodgesOf_51 (lv_at hl 5 rfl) ?_
              refine lv_istore_n (pc := 53) (lv' := [(3, .int x4_4), (6, .int r_9), (0, .ref th), (1, .int p0), (2, .int x2_2), (4, .int x4_4), (5, .int x5_5)]) hx hb dX8_dodgesOf_53 rfl hl (by decide) rfl (fun ls hl => ?_)
              refine lv_iload (pc := 54) hx hb dX8_dodgesOf_54 (lv_at hl 1 rfl) ?_
              refine lv_istore (pc := 56) (lv' := [(4, .int r_9), (3, .int x4_4), (6, .int r_9), (0, .ref th), (1, .int p0), (2, .int x2_2), (5, .int x5_5)]) hx hb dX8_dodgesOf_56 hl (by decide) rfl (fun ls hl => ?_)
              obtain ⟨v_15, ev_15⟩ : ∃ y : Int32, y = x5_5 + 1 := ⟨_, rfl⟩
              have hp := hp v_15 ev_15
              refine lv_iinc (pc := 58) (v := v_15) (lv' := [(5, .int v_15), (4, .int r_9), (3, .int x4_4), (6, .int r_9), (0, .ref th), (1, .int p0), (2, .int x2_2)]) hx hb dX8_dodgesOf_58 hl (k := 6) rfl (by rw [ev_15]; rfl) (by decide) rfl (fun ls hl => ?_)
              refine lv_goto (pc := 61) (tgt := 10) hx hb dX8_dodgesOf_61 (by decide) ?_
              obtain ⟨k9, hlt9, hp⟩ := hp
              exact ih_1 k9 hlt9 _ _ _ _ _ _ _ hp hH (lv_sub hl [4, 5, 6, 2, 1, 0] rfl)
            · have hp := hp.2 cc_14
              obtain ⟨v_16, ev_16⟩ : ∃ y : Int32, y = x2_2 + 1 := ⟨_, rfl⟩
              have hp := hp v_16 ev_16
              refine lv_iinc (pc := 48) (v := v_16) (lv' := [(2, .int v_16), (6, .int r_9), (0, .ref th), (1, .int p0), (3, .int x3_3), (4, .int x4_4), (5, .int x5_5)]) hx hb dX8_dodgesOf_48 hl (k := 3) rfl (by rw [ev_16]; rfl) (by decide) rfl (fun ls hl => ?_)
              refine lv_iload (pc := 51) hx hb dX8_dodgesOf_51 (lv_at hl 5 rfl) ?_
              refine lv_istore_n (pc := 53) (lv' := [(3, .int x4_4), (2, .int v_16), (6, .int r_9), (0, .ref th), (1, .int p0), (4, .int x4_4), (5, .int x5_5)]) hx hb dX8_dodgesOf_53 rfl hl (by decide) rfl (fun ls hl => ?_)
              refine lv_iload (pc := 54) hx hb dX8_dodgesOf_54 (lv_at hl 2 rfl) ?_
              refine lv_istore (pc := 56) (lv' := [(4, .int r_9), (3, .int x4_4), (2, .int v_16), (6, .int r_9), (0, .ref th), (1, .int p0), (5, .int x5_5)]) hx hb dX8_dodgesOf_56 hl (by decide) rfl (fun ls hl => ?_)
              obtain ⟨v_17, ev_17⟩ : ∃ y : Int32, y = x5_5 + 1 := ⟨_, rfl⟩
              have hp := hp v_17 ev_17
              refine lv_iinc (pc := 58) (v := v_17) (lv' := [(5, .int v_17), (4, .int r_9), (3, .int x4_4), (2, .int v_16), (6, .int r_9), (0, .ref th), (1, .int p0)]) hx hb dX8_dodgesOf_58 hl (k := 6) rfl (by rw [ev_17]; rfl) (by decide) rfl (fun ls hl => ?_)
              refine lv_goto (pc := 61) (tgt := 10) hx hb dX8_dodgesOf_61 (by decide) ?_
              obtain ⟨k9, hlt9, hp⟩ := hp
              exact ih_1 k9 hlt9 _ _ _ _ _ _ _ hp hH (lv_sub hl [5, 6, 3, 2, 1, 0] rfl)
  exact kl_1 k0_1 _ _ _ _ _ _ _ h0_1 hH (lv_sub hl [4, 5, 3, 2, 1, 0] rfl)
theorem dX8_liesOf_0 : decode cX8_liesOf 0 = .ok (.iconst 0, 1) := by decide +kernel
theorem dX8_liesOf_1 : decode cX8_liesOf 1 = .ok (.istore_n 2, 1) := by decide +kernel
theorem dX8_liesOf_2 : decode cX8_liesOf 2 = .ok (.iconst (-1), 1) := by decide +kernel
theorem dX8_liesOf_3 : decode cX8_liesOf 3 = .ok (.istore_n 3, 1) := by decide +kernel
theorem dX8_liesOf_4 : decode cX8_liesOf 4 = .ok (.iconst 0, 1) := by decide +kernel
theorem dX8_liesOf_5 : decode cX8_liesOf 5 = .ok (.istore 4, 2) := by decide +kernel
theorem dX8_liesOf_7 : decode cX8_liesOf 7 = .ok (.iload 4, 2) := by decide +kernel
theorem dX8_liesOf_9 : decode cX8_liesOf 9 = .ok (.aload_n 0, 1) := by decide +kernel
theorem dX8_liesOf_10 : decode cX8_liesOf 10 = .ok (.getfield 22, 3) := by decide +kernel
theorem dX8_liesOf_13 : decode cX8_liesOf 13 = .ok (.arraylength, 1) := by decide +kernel
theorem dX8_liesOf_14 : decode cX8_liesOf 14 = .ok (.if_icmp .ge 30, 3) := by decide +kernel
theorem dX8_liesOf_17 : decode cX8_liesOf 17 = .ok (.aload_n 0, 1) := by decide +kernel
theorem dX8_liesOf_18 : decode cX8_liesOf 18 = .ok (.iload_n 1, 1) := by decide +kernel
theorem dX8_liesOf_19 : decode cX8_liesOf 19 = .ok (.iload 4, 2) := by decide +kernel
theorem dX8_liesOf_21 : decode cX8_liesOf 21 = .ok (.invokevirtual 61, 3) := by decide +kernel
theorem dX8_liesOf_24 : decode cX8_liesOf 24 = .ok (.istore 5, 2) := by decide +kernel
theorem dX8_liesOf_26 : decode cX8_liesOf 26 = .ok (.iload 5, 2) := by decide +kernel
theorem dX8_liesOf_28 : decode cX8_liesOf 28 = .ok (.iload_n 3, 1) := by decide +kernel
theorem dX8_liesOf_29 : decode cX8_liesOf 29 = .ok (.if_icmp .ne 6, 3) := by decide +kernel
theorem dX8_liesOf_32 : decode cX8_liesOf 32 = .ok (.iinc 2 1, 3) := by decide +kernel
theorem dX8_liesOf_35 : decode cX8_liesOf 35 = .ok (.iload 5, 2) := by decide +kernel
theorem dX8_liesOf_37 : decode cX8_liesOf 37 = .ok (.istore_n 3, 1) := by decide +kernel
theorem dX8_liesOf_38 : decode cX8_liesOf 38 = .ok (.iinc 4 1, 3) := by decide +kernel
theorem dX8_liesOf_41 : decode cX8_liesOf 41 = .ok (.goto (-34), 3) := by decide +kernel
theorem dX8_liesOf_44 : decode cX8_liesOf 44 = .ok (.iload_n 2, 1) := by decide +kernel
theorem dX8_liesOf_45 : decode cX8_liesOf 45 = .ok (.ireturn, 1) := by decide +kernel
theorem mi_X8_liesOf : MI yX8_liesOf cX8_liesOf 6 (some FieldType.int) 1 := ⟨w_1147, w_124, by decide +kernel, by decide +kernel, by decide +kernel⟩
set_option maxRecDepth 100000 in
set_option maxHeartbeats 4000000 in
theorem C_X8_liesOf (G : GG) (l : Launch) (th : Nat) (p0 : Int32) (S : St) (Q : Int32 → Prop) (hp : P_X8_liesOf th p0 S Q) : Ctr G l yX8_liesOf cX8_liesOf 6 (some FieldType.int) 2 44 0 0 [.ref th, .int p0] S (fun (v : Option Value) (S9 : St) => ∃ (r : Int32), v = some (.int r) ∧ S9 = S ∧ Q r ) := by
  generalize hQQ : (fun (v : Option Value) (S9 : St) => ∃ (r : Int32), v = some (.int r) ∧ S9 = S ∧ Q r ) = QQ
  unfold P_X8_liesOf at hp
  refine Ctr.of (by decide) (Nat.le_of_ble_eq_true rfl) ?_
  intro p e s m args below meth c ls B hr hlk hin hl hH
  generalize hlocs0 : ([] : List Loc) = locs at hH ⊢
  have hx := B.1
  have hb := B.2.1
  have hl : lv_has ls 6 [(0, .ref th), (1, .int p0)] := hl
  obtain ⟨hk_th, hp⟩ := hp
  refine lv_iconst (pc := 0) (v := 0) hx hb dX8_liesOf_0 (by decide) ?_
  refine lv_istore_n (pc := 1) (lv' := [(2, .int 0), (0, .ref th), (1, .int p0)]) hx hb dX8_liesOf_1 rfl hl (by decide) rfl (fun ls hl => ?_)
  refine lv_iconst (pc := 2) (v := (-1)) hx hb dX8_liesOf_2 (by decide) ?_
  refine lv_istore_n (pc := 3) (lv' := [(3, .int (-1)), (2, .int 0), (0, .ref th), (1, .int p0)]) hx hb dX8_liesOf_3 rfl hl (by decide) rfl (fun ls hl => ?_)
  refine lv_iconst (pc := 4) (v := 0) hx hb dX8_liesOf_4 (by decide) ?_
  refine lv_istore (pc := 5) (lv' := [(4, .int 0), (3, .int (-1)), (2, .int 0), (0, .ref th), (1, .int p0)]) hx hb dX8_liesOf_5 hl (by decide) rfl (fun ls hl => ?_)
  obtain ⟨I_1, ⟨k0_1, h0_1⟩, hst_1⟩ := hp
  have kl_1 : ∀ (n_1 : Nat) (x2_2 : Int32) (x3_3 : Int32) (x4_4 : Int32) (H : Heap) (locs : List Loc) (ls : Array Slot), I_1 n_1 x2_2 x3_3 x4_4 → Hp G (FA S s.heap.size) s.heap S H locs → lv_has ls 6 [(0, .ref th), (1, .int p0), (2, .int x2_2), (3, .int x3_3), (4, .int x4_4)] → Wm G p l e { frames := 2, cells := 0, slots := 0, locals := 44 } s m args below meth c S QQ 0 0 H locs 0 0 (F0 m 7 ls []) := by
    intro n_1
    induction n_1 using Nat.strongRecOn with
    | ind n_1 ih_1 =>
      intro x2_2 x3_3 x4_4 H locs ls hq9 hH hl
      have hp := hst_1 n_1 x2_2 x3_3 x4_4 hq9
      refine lv_iload (pc := 7) hx hb dX8_liesOf_7 (lv_at hl 4 rfl) ?_
      refine lv_aload_n (pc := 9) hx hb dX8_liesOf_9 rfl (lv_at hl 0 rfl) ?_
      refine sx_getR (pc := 10) (j := 3) B hH hk_th coX8 rfl w_826 rfl dX8_liesOf_10 ?_
      refine W.eq (g2 := F0 m 13 ls [va_rf (gR S th 3), .int x4_4]) rfl ?_
      obtain ⟨a_5, ha_5, hp⟩ := hp
      refine sx_nonnull (x := a_5) ha_5 ?_
      obtain ⟨hk_6, hp⟩ := hp
      refine sx_alen (pc := 13) B hH hk_6 (by decide) (by decide) dX8_liesOf_13 ?_
      refine W.eq (g2 := F0 m 14 ls [.int (nI (ln S a_5)), .int x4_4]) rfl ?_
      refine lv_icmp_ge (pc := 14) (tgt := 44) hx hb dX8_liesOf_14 (by decide) (fun cc_7 => ?_) (fun cc_7 => ?_)
      · have hp := hp.1 cc_7
        refine lv_iload_n (pc := 44) hx hb dX8_liesOf_44 rfl (lv_at hl 2 rfl) ?_
        exact sx_iret (pc := 45) B hH hr hlk (by rw [← hQQ]; exact ⟨_, rfl, rfl, hp⟩) (Nat.le_of_ble_eq_true rfl) (Nat.le_of_ble_eq_true rfl) dX8_liesOf_45
      · have hp := hp.2 cc_7
        refine lv_aload_n (pc := 17) hx hb dX8_liesOf_17 rfl (lv_at hl 0 rfl) ?_
        refine lv_iload_n (pc := 18) hx hb dX8_liesOf_18 rfl (lv_at hl 1 rfl) ?_
        refine lv_iload (pc := 19) hx hb dX8_liesOf_19 (lv_at hl 4 rfl) ?_
        refine sx_V (pc := 21) (As := [.int p0, .int x4_4]) (rest := []) B hH hl.1 (C_X8_spot G l th p0 x4_4 _ _ hp) mi_X8_spot coX8 hk_th w_1108 w_1109 w_1139 rfl rfl ⟨Nat.le_of_ble_eq_true rfl, Nat.le_of_ble_eq_true rfl⟩ (Nat.le_of_ble_eq_true rfl) ⟨Nat.le_of_ble_eq_true rfl, Nat.le_of_ble_eq_true rfl⟩ dX8_liesOf_21 (fun v S1 H locs hq hH => ?_)
        obtain ⟨r_8, rfl, e9, hp⟩ := hq
        rw [e9] at hH
        refine W.eq (g2 := F0 m 24 ls [.int r_8]) rfl ?_
        refine lv_istore (pc := 24) (lv' := [(5, .int r_8), (0, .ref th), (1, .int p0), (2, .int x2_2), (3, .int x3_3), (4, .int x4_4)]) hx hb dX8_liesOf_24 hl (by decide) rfl (fun ls hl => ?_)
        refine lv_iload (pc := 26) hx hb dX8_liesOf_26 (lv_at hl 0 rfl) ?_
        refine lv_iload_n (pc := 28) hx hb dX8_liesOf_28 rfl (lv_at hl 4 rfl) ?_
        refine lv_icmp_ne (pc := 29) (tgt := 35) hx hb dX8_liesOf_29 (by decide) (fun cc_9 => ?_) (fun cc_9 => ?_)
        · have hp := hp.1 cc_9
          refine lv_iload (pc := 35) hx hb dX8_liesOf_35 (lv_at hl 0 rfl) ?_
          refine lv_istore_n (pc := 37) (lv' := [(3, .int r_8), (5, .int r_8), (0, .ref th), (1, .int p0), (2, .int x2_2), (4, .int x4_4)]) hx hb dX8_liesOf_37 rfl hl (by decide) rfl (fun ls hl => ?_)
          obtain ⟨v_10, ev_10⟩ : ∃ y : Int32, y = x4_4 + 1 := ⟨_, rfl⟩
          have hp := hp v_10 ev_10
          refine lv_iinc (pc := 38) (v := v_10) (lv' := [(4, .int v_10), (3, .int r_8), (5, .int r_8), (0, .ref th), (1, .int p0), (2, .int x2_2)]) hx hb dX8_liesOf_38 hl (k := 5) rfl (by rw [ev_10]; rfl) (by decide) rfl (fun ls hl => ?_)
          refine lv_goto (pc := 41) (tgt := 7) hx hb dX8_liesOf_41 (by decide) ?_
          obtain ⟨k9, hlt9, hp⟩ := hp
          exact ih_1 k9 hlt9 _ _ _ _ _ _ hp hH (lv_sub hl [3, 4, 5, 1, 0] rfl)
        · have hp := hp.2 cc_9
          obtain ⟨v_11, ev_11⟩ : ∃ y : Int32, y = x2_2 + 1 := ⟨_, rfl⟩
          have hp := hp v_11 ev_11
          refine lv_iinc (pc := 32) (v := v_11) (lv' := [(2, .int v_11), (5, .int r_8), (0, .ref th), (1, .int p0), (3, .int x3_3), (4, .int x4_4)]) hx hb dX8_liesOf_32 hl (k := 3) rfl (by rw [ev_11]; rfl) (by decide) rfl (fun ls hl => ?_)
          refine lv_iload (pc := 35) hx hb dX8_liesOf_35 (lv_at hl 1 rfl) ?_
          refine lv_istore_n (pc := 37) (lv' := [(3, .int r_8), (2, .int v_11), (5, .int r_8), (0, .ref th), (1, .int p0), (4, .int x4_4)]) hx hb dX8_liesOf_37 rfl hl (by decide) rfl (fun ls hl => ?_)
          obtain ⟨v_12, ev_12⟩ : ∃ y : Int32, y = x4_4 + 1 := ⟨_, rfl⟩
          have hp := hp v_12 ev_12
          refine lv_iinc (pc := 38) (v := v_12) (lv' := [(4, .int v_12), (3, .int r_8), (2, .int v_11), (5, .int r_8), (0, .ref th), (1, .int p0)]) hx hb dX8_liesOf_38 hl (k := 5) rfl (by rw [ev_12]; rfl) (by decide) rfl (fun ls hl => ?_)
          refine lv_goto (pc := 41) (tgt := 7) hx hb dX8_liesOf_41 (by decide) ?_
          obtain ⟨k9, hlt9, hp⟩ := hp
          exact ih_1 k9 hlt9 _ _ _ _ _ _ hp hH (lv_sub hl [4, 5, 2, 1, 0] rfl)
  exact kl_1 k0_1 _ _ _ _ _ _ h0_1 hH (lv_sub hl [3, 4, 2, 1, 0] rfl)
theorem dX8_heardBell_0 : decode cX8_heardBell 0 = .ok (.iconst 0, 1) := by decide +kernel
theorem dX8_heardBell_1 : decode cX8_heardBell 1 = .ok (.istore 4, 2) := by decide +kernel
theorem dX8_heardBell_3 : decode cX8_heardBell 3 = .ok (.iconst 0, 1) := by decide +kernel
theorem dX8_heardBell_4 : decode cX8_heardBell 4 = .ok (.istore 5, 2) := by decide +kernel
theorem dX8_heardBell_6 : decode cX8_heardBell 6 = .ok (.iload 5, 2) := by decide +kernel
theorem dX8_heardBell_8 : decode cX8_heardBell 8 = .ok (.aload_n 0, 1) := by decide +kernel
theorem dX8_heardBell_9 : decode cX8_heardBell 9 = .ok (.getfield 9, 3) := by decide +kernel
theorem dX8_heardBell_12 : decode cX8_heardBell 12 = .ok (.if_icmp .ge 43, 3) := by decide +kernel
theorem dX8_heardBell_15 : decode cX8_heardBell 15 = .ok (.aload_n 0, 1) := by decide +kernel
theorem dX8_heardBell_16 : decode cX8_heardBell 16 = .ok (.getfield 22, 3) := by decide +kernel
theorem dX8_heardBell_19 : decode cX8_heardBell 19 = .ok (.iload_n 1, 1) := by decide +kernel
theorem dX8_heardBell_20 : decode cX8_heardBell 20 = .ok (.iaload, 1) := by decide +kernel
theorem dX8_heardBell_21 : decode cX8_heardBell 21 = .ok (.iload 5, 2) := by decide +kernel
theorem dX8_heardBell_23 : decode cX8_heardBell 23 = .ok (.invokestatic 58, 3) := by decide +kernel
theorem dX8_heardBell_26 : decode cX8_heardBell 26 = .ok (.istore 6, 2) := by decide +kernel
theorem dX8_heardBell_28 : decode cX8_heardBell 28 = .ok (.iload_n 3, 1) := by decide +kernel
theorem dX8_heardBell_29 : decode cX8_heardBell 29 = .ok (.iconst 1, 1) := by decide +kernel
theorem dX8_heardBell_30 : decode cX8_heardBell 30 = .ok (.iload 6, 2) := by decide +kernel
theorem dX8_heardBell_32 : decode cX8_heardBell 32 = .ok (.ishl, 1) := by decide +kernel
theorem dX8_heardBell_33 : decode cX8_heardBell 33 = .ok (.iand, 1) := by decide +kernel
theorem dX8_heardBell_34 : decode cX8_heardBell 34 = .ok (.ifCond .ne 15, 3) := by decide +kernel
theorem dX8_heardBell_37 : decode cX8_heardBell 37 = .ok (.iload 4, 2) := by decide +kernel
theorem dX8_heardBell_39 : decode cX8_heardBell 39 = .ok (.iload_n 2, 1) := by decide +kernel
theorem dX8_heardBell_40 : decode cX8_heardBell 40 = .ok (.if_icmp .ne 6, 3) := by decide +kernel
theorem dX8_heardBell_43 : decode cX8_heardBell 43 = .ok (.iload 6, 2) := by decide +kernel
theorem dX8_heardBell_45 : decode cX8_heardBell 45 = .ok (.ireturn, 1) := by decide +kernel
theorem dX8_heardBell_46 : decode cX8_heardBell 46 = .ok (.iinc 4 1, 3) := by decide +kernel
theorem dX8_heardBell_49 : decode cX8_heardBell 49 = .ok (.iinc 5 1, 3) := by decide +kernel
theorem dX8_heardBell_52 : decode cX8_heardBell 52 = .ok (.goto (-46), 3) := by decide +kernel
theorem dX8_heardBell_55 : decode cX8_heardBell 55 = .ok (.iconst (-1), 1) := by decide +kernel
theorem dX8_heardBell_56 : decode cX8_heardBell 56 = .ok (.ireturn, 1) := by decide +kernel
theorem mi_X8_heardBell : MI yX8_heardBell cX8_heardBell 7 (some FieldType.int) 3 := ⟨w_1159, w_124, by decide +kernel, by decide +kernel, by decide +kernel⟩
set_option maxRecDepth 100000 in
set_option maxHeartbeats 4000000 in
theorem C_X8_heardBell (G : GG) (l : Launch) (th : Nat) (p0 : Int32) (p1 : Int32) (p2 : Int32) (S : St) (Q : Int32 → Prop) (hp : P_X8_heardBell th p0 p1 p2 S Q) : Ctr G l yX8_heardBell cX8_heardBell 7 (some FieldType.int) 1 21 0 0 [.ref th, .int p0, .int p1, .int p2] S (fun (v : Option Value) (S9 : St) => ∃ (r : Int32), v = some (.int r) ∧ S9 = S ∧ Q r ) := by
  generalize hQQ : (fun (v : Option Value) (S9 : St) => ∃ (r : Int32), v = some (.int r) ∧ S9 = S ∧ Q r ) = QQ
  unfold P_X8_heardBell at hp
  refine Ctr.of (by decide) (Nat.le_of_ble_eq_true rfl) ?_
  intro p e s m args below meth c ls B hr hlk hin hl hH
  generalize hlocs0 : ([] : List Loc) = locs at hH ⊢
  have hx := B.1
  have hb := B.2.1
  have hl : lv_has ls 7 [(0, .ref th), (1, .int p0), (2, .int p1), (3, .int p2)] := hl
  obtain ⟨hk_th, hp⟩ := hp
  refine lv_iconst (pc := 0) (v := 0) hx hb dX8_heardBell_0 (by decide) ?_
  refine lv_istore (pc := 1) (lv' := [(4, .int 0), (0, .ref th), (1, .int p0), (2, .int p1), (3, .int p2)]) hx hb dX8_heardBell_1 hl (by decide) rfl (fun ls hl => ?_)
  refine lv_iconst (pc := 3) (v := 0) hx hb dX8_heardBell_3 (by decide) ?_
  refine lv_istore (pc := 4) (lv' := [(5, .int 0), (4, .int 0), (0, .ref th), (1, .int p0), (2, .int p1), (3, .int p2)]) hx hb dX8_heardBell_4 hl (by decide) rfl (fun ls hl => ?_)
  obtain ⟨I_1, ⟨k0_1, h0_1⟩, hst_1⟩ := hp
  have kl_1 : ∀ (n_1 : Nat) (x4_2 : Int32) (x5_3 : Int32) (H : Heap) (locs : List Loc) (ls : Array Slot), I_1 n_1 x4_2 x5_3 → Hp G (FA S s.heap.size) s.heap S H locs → lv_has ls 7 [(0, .ref th), (1, .int p0), (2, .int p1), (3, .int p2), (4, .int x4_2), (5, .int x5_3)] → Wm G p l e { frames := 1, cells := 0, slots := 0, locals := 21 } s m args below meth c S QQ 0 0 H locs 0 0 (F0 m 6 ls []) := by
    intro n_1
    induction n_1 using Nat.strongRecOn with
    | ind n_1 ih_1 =>
      intro x4_2 x5_3 H locs ls hq9 hH hl
      have hp := hst_1 n_1 x4_2 x5_3 hq9
      refine lv_iload (pc := 6) hx hb dX8_heardBell_6 (lv_at hl 5 rfl) ?_
      refine lv_aload_n (pc := 8) hx hb dX8_heardBell_8 rfl (lv_at hl 0 rfl) ?_
      refine sx_getI (pc := 9) (j := 0) B hH hk_th coX8 rfl w_821 rfl dX8_heardBell_9 ?_
      refine W.eq (g2 := F0 m 12 ls [.int (gI S th 0), .int x5_3]) rfl ?_
      refine lv_icmp_ge (pc := 12) (tgt := 55) hx hb dX8_heardBell_12 (by decide) (fun cc_4 => ?_) (fun cc_4 => ?_)
      · have hp := hp.1 cc_4
        refine lv_iconst (pc := 55) (v := (-1)) hx hb dX8_heardBell_55 (by decide) ?_
        exact sx_iret (pc := 56) B hH hr hlk (by rw [← hQQ]; exact ⟨_, rfl, rfl, hp⟩) (Nat.le_of_ble_eq_true rfl) (Nat.le_of_ble_eq_true rfl) dX8_heardBell_56
      · have hp := hp.2 cc_4
        refine lv_aload_n (pc := 15) hx hb dX8_heardBell_15 rfl (lv_at hl 0 rfl) ?_
        refine sx_getR (pc := 16) (j := 3) B hH hk_th coX8 rfl w_826 rfl dX8_heardBell_16 ?_
        refine W.eq (g2 := F0 m 19 ls [va_rf (gR S th 3)]) rfl ?_
        obtain ⟨a_5, ha_5, hp⟩ := hp
        refine sx_nonnull (x := a_5) ha_5 ?_
        refine lv_iload_n (pc := 19) hx hb dX8_heardBell_19 rfl (lv_at hl 1 rfl) ?_
        obtain ⟨hk_6, hp⟩ := hp
        obtain ⟨hn_7, hp⟩ := hp
        refine sx_iald (pc := 20) B hH hk_6 hn_7 dX8_heardBell_20 ?_
        refine W.eq (g2 := F0 m 21 ls [.int (gI S a_5 p0.toNatClampNeg)]) rfl ?_
        refine lv_iload (pc := 21) hx hb dX8_heardBell_21 (lv_at hl 5 rfl) ?_
        refine sx_S (pc := 23) (As := [.int (gI S a_5 p0.toNatClampNeg), .int x5_3]) (rest := []) B hH hl.1 (C_X4_bellAt G l (gI S a_5 p0.toNatClampNeg) x5_3 _ _ hp) mi_X4_bellAt w_873 w_1102 rfl rfl ⟨Nat.le_of_ble_eq_true rfl, Nat.le_of_ble_eq_true rfl⟩ (Nat.le_of_ble_eq_true rfl) ⟨Nat.le_of_ble_eq_true rfl, Nat.le_of_ble_eq_true rfl⟩ dX8_heardBell_23 (fun v S1 H locs hq hH => ?_)
        obtain ⟨r_8, rfl, e9, hp⟩ := hq
        rw [e9] at hH
        refine W.eq (g2 := F0 m 26 ls [.int r_8]) rfl ?_
        refine lv_istore (pc := 26) (lv' := [(6, .int r_8), (0, .ref th), (1, .int p0), (2, .int p1), (3, .int p2), (4, .int x4_2), (5, .int x5_3)]) hx hb dX8_heardBell_26 hl (by decide) rfl (fun ls hl => ?_)
        refine lv_iload_n (pc := 28) hx hb dX8_heardBell_28 rfl (lv_at hl 4 rfl) ?_
        refine lv_iconst (pc := 29) (v := 1) hx hb dX8_heardBell_29 (by decide) ?_
        refine lv_iload (pc := 30) hx hb dX8_heardBell_30 (lv_at hl 0 rfl) ?_
        refine lv_ishl (pc := 32) hx hb dX8_heardBell_32 ?_
        refine W.eq (g2 := F0 m 33 ls [.int (shl 1 r_8), .int p2]) rfl ?_
        refine lv_iand (pc := 33) hx hb dX8_heardBell_33 ?_
        refine lv_if_ne (pc := 34) (tgt := 49) hx hb dX8_heardBell_34 (by decide) (fun cc_9 => ?_) (fun cc_9 => ?_)
        · have hp := hp.1 cc_9
          obtain ⟨v_10, ev_10⟩ : ∃ y : Int32, y = x5_3 + 1 := ⟨_, rfl⟩
          have hp := hp v_10 ev_10
          refine lv_iinc (pc := 49) (v := v_10) (lv' := [(5, .int v_10), (6, .int r_8), (0, .ref th), (1, .int p0), (2, .int p1), (3, .int p2), (4, .int x4_2)]) hx hb dX8_heardBell_49 hl (k := 6) rfl (by rw [ev_10]; rfl) (by decide) rfl (fun ls hl => ?_)
          refine lv_goto (pc := 52) (tgt := 6) hx hb dX8_heardBell_52 (by decide) ?_
          obtain ⟨k9, hlt9, hp⟩ := hp
          exact ih_1 k9 hlt9 _ _ _ _ _ hp hH (lv_sub hl [2, 3, 4, 5, 6, 0] rfl)
        · have hp := hp.2 cc_9
          refine lv_iload (pc := 37) hx hb dX8_heardBell_37 (lv_at hl 5 rfl) ?_
          refine lv_iload_n (pc := 39) hx hb dX8_heardBell_39 rfl (lv_at hl 3 rfl) ?_
          refine lv_icmp_ne (pc := 40) (tgt := 46) hx hb dX8_heardBell_40 (by decide) (fun cc_11 => ?_) (fun cc_11 => ?_)
          · have hp := hp.1 cc_11
            obtain ⟨v_12, ev_12⟩ : ∃ y : Int32, y = x4_2 + 1 := ⟨_, rfl⟩
            have hp := hp v_12 ev_12
            refine lv_iinc (pc := 46) (v := v_12) (lv' := [(4, .int v_12), (6, .int r_8), (0, .ref th), (1, .int p0), (2, .int p1), (3, .int p2), (5, .int x5_3)]) hx hb dX8_heardBell_46 hl (k := 5) rfl (by rw [ev_12]; rfl) (by decide) rfl (fun ls hl => ?_)
            obtain ⟨v_13, ev_13⟩ : ∃ y : Int32, y = x5_3 + 1 := ⟨_, rfl⟩
            have hp := hp v_13 ev_13
            refine lv_iinc (pc := 49) (v := v_13) (lv' := [(5, .int v_13), (4, .int v_12), (6, .int r_8), (0, .ref th), (1, .int p0), (2, .int p1), (3, .int p2)]) hx hb dX8_heardBell_49 hl (k := 6) rfl (by rw [ev_13]; rfl) (by decide) rfl (fun ls hl => ?_)
            refine lv_goto (pc := 52) (tgt := 6) hx hb dX8_heardBell_52 (by decide) ?_
            obtain ⟨k9, hlt9, hp⟩ := hp
            exact ih_1 k9 hlt9 _ _ _ _ _ hp hH (lv_sub hl [3, 4, 5, 6, 1, 0] rfl)
          · have hp := hp.2 cc_11
            refine lv_iload (pc := 43) hx hb dX8_heardBell_43 (lv_at hl 0 rfl) ?_
            exact sx_iret (pc := 45) B hH hr hlk (by rw [← hQQ]; exact ⟨_, rfl, rfl, hp⟩) (Nat.le_of_ble_eq_true rfl) (Nat.le_of_ble_eq_true rfl) dX8_heardBell_45
  exact kl_1 k0_1 _ _ _ _ _ h0_1 hH (lv_sub hl [2, 3, 4, 5, 1, 0] rfl)
theorem dX8_evenRows_0 : decode cX8_evenRows 0 = .ok (.iconst 0, 1) := by decide +kernel
theorem dX8_evenRows_1 : decode cX8_evenRows 1 = .ok (.istore_n 1, 1) := by decide +kernel
theorem dX8_evenRows_2 : decode cX8_evenRows 2 = .ok (.iconst 1, 1) := by decide +kernel
theorem dX8_evenRows_3 : decode cX8_evenRows 3 = .ok (.istore_n 2, 1) := by decide +kernel
theorem dX8_evenRows_4 : decode cX8_evenRows 4 = .ok (.iload_n 2, 1) := by decide +kernel
theorem dX8_evenRows_5 : decode cX8_evenRows 5 = .ok (.aload_n 0, 1) := by decide +kernel
theorem dX8_evenRows_6 : decode cX8_evenRows 6 = .ok (.getfield 22, 3) := by decide +kernel
theorem dX8_evenRows_9 : decode cX8_evenRows 9 = .ok (.arraylength, 1) := by decide +kernel
theorem dX8_evenRows_10 : decode cX8_evenRows 10 = .ok (.if_icmp .ge 28, 3) := by decide +kernel
theorem dX8_evenRows_13 : decode cX8_evenRows 13 = .ok (.aload_n 0, 1) := by decide +kernel
theorem dX8_evenRows_14 : decode cX8_evenRows 14 = .ok (.getfield 22, 3) := by decide +kernel
theorem dX8_evenRows_17 : decode cX8_evenRows 17 = .ok (.iload_n 2, 1) := by decide +kernel
theorem dX8_evenRows_18 : decode cX8_evenRows 18 = .ok (.iaload, 1) := by decide +kernel
theorem dX8_evenRows_19 : decode cX8_evenRows 19 = .ok (.aload_n 0, 1) := by decide +kernel
theorem dX8_evenRows_20 : decode cX8_evenRows 20 = .ok (.getfield 9, 3) := by decide +kernel
theorem dX8_evenRows_23 : decode cX8_evenRows 23 = .ok (.invokestatic 64, 3) := by decide +kernel
theorem dX8_evenRows_26 : decode cX8_evenRows 26 = .ok (.ifCond .eq 6, 3) := by decide +kernel
theorem dX8_evenRows_29 : decode cX8_evenRows 29 = .ok (.iinc 1 1, 3) := by decide +kernel
theorem dX8_evenRows_32 : decode cX8_evenRows 32 = .ok (.iinc 2 1, 3) := by decide +kernel
theorem dX8_evenRows_35 : decode cX8_evenRows 35 = .ok (.goto (-31), 3) := by decide +kernel
theorem dX8_evenRows_38 : decode cX8_evenRows 38 = .ok (.iload_n 1, 1) := by decide +kernel
theorem dX8_evenRows_39 : decode cX8_evenRows 39 = .ok (.ireturn, 1) := by decide +kernel
theorem mi_X8_evenRows : MI yX8_evenRows cX8_evenRows 3 (some FieldType.int) 0 := ⟨w_1171, w_124, by decide +kernel, by decide +kernel, by decide +kernel⟩
set_option maxRecDepth 100000 in
set_option maxHeartbeats 4000000 in
theorem C_X8_evenRows (G : GG) (l : Launch) (th : Nat) (S : St) (Q : Int32 → Prop) (hp : P_X8_evenRows th S Q) : Ctr G l yX8_evenRows cX8_evenRows 3 (some FieldType.int) 2 46 0 0 [.ref th] S (fun (v : Option Value) (S9 : St) => ∃ (r : Int32), v = some (.int r) ∧ S9 = S ∧ Q r ) := by
  generalize hQQ : (fun (v : Option Value) (S9 : St) => ∃ (r : Int32), v = some (.int r) ∧ S9 = S ∧ Q r ) = QQ
  unfold P_X8_evenRows at hp
  refine Ctr.of (by decide) (Nat.le_of_ble_eq_true rfl) ?_
  intro p e s m args below meth c ls B hr hlk hin hl hH
  generalize hlocs0 : ([] : List Loc) = locs at hH ⊢
  have hx := B.1
  have hb := B.2.1
  have hl : lv_has ls 3 [(0, .ref th)] := hl
  obtain ⟨hk_th, hp⟩ := hp
  refine lv_iconst (pc := 0) (v := 0) hx hb dX8_evenRows_0 (by decide) ?_
  refine lv_istore_n (pc := 1) (lv' := [(1, .int 0), (0, .ref th)]) hx hb dX8_evenRows_1 rfl hl (by decide) rfl (fun ls hl => ?_)
  refine lv_iconst (pc := 2) (v := 1) hx hb dX8_evenRows_2 (by decide) ?_
  refine lv_istore_n (pc := 3) (lv' := [(2, .int 1), (1, .int 0), (0, .ref th)]) hx hb dX8_evenRows_3 rfl hl (by decide) rfl (fun ls hl => ?_)
  obtain ⟨I_1, ⟨k0_1, h0_1⟩, hst_1⟩ := hp
  have kl_1 : ∀ (n_1 : Nat) (x1_2 : Int32) (x2_3 : Int32) (H : Heap) (locs : List Loc) (ls : Array Slot), I_1 n_1 x1_2 x2_3 → Hp G (FA S s.heap.size) s.heap S H locs → lv_has ls 3 [(0, .ref th), (1, .int x1_2), (2, .int x2_3)] → Wm G p l e { frames := 2, cells := 0, slots := 0, locals := 46 } s m args below meth c S QQ 0 0 H locs 0 0 (F0 m 4 ls []) := by
    intro n_1
    induction n_1 using Nat.strongRecOn with
    | ind n_1 ih_1 =>
      intro x1_2 x2_3 H locs ls hq9 hH hl
      have hp := hst_1 n_1 x1_2 x2_3 hq9
      refine lv_iload_n (pc := 4) hx hb dX8_evenRows_4 rfl (lv_at hl 2 rfl) ?_
      refine lv_aload_n (pc := 5) hx hb dX8_evenRows_5 rfl (lv_at hl 0 rfl) ?_
      refine sx_getR (pc := 6) (j := 3) B hH hk_th coX8 rfl w_826 rfl dX8_evenRows_6 ?_
      refine W.eq (g2 := F0 m 9 ls [va_rf (gR S th 3), .int x2_3]) rfl ?_
      obtain ⟨a_4, ha_4, hp⟩ := hp
      refine sx_nonnull (x := a_4) ha_4 ?_
      obtain ⟨hk_5, hp⟩ := hp
      refine sx_alen (pc := 9) B hH hk_5 (by decide) (by decide) dX8_evenRows_9 ?_
      refine W.eq (g2 := F0 m 10 ls [.int (nI (ln S a_4)), .int x2_3]) rfl ?_
      refine lv_icmp_ge (pc := 10) (tgt := 38) hx hb dX8_evenRows_10 (by decide) (fun cc_6 => ?_) (fun cc_6 => ?_)
      · have hp := hp.1 cc_6
        refine lv_iload_n (pc := 38) hx hb dX8_evenRows_38 rfl (lv_at hl 1 rfl) ?_
        exact sx_iret (pc := 39) B hH hr hlk (by rw [← hQQ]; exact ⟨_, rfl, rfl, hp⟩) (Nat.le_of_ble_eq_true rfl) (Nat.le_of_ble_eq_true rfl) dX8_evenRows_39
      · have hp := hp.2 cc_6
        refine lv_aload_n (pc := 13) hx hb dX8_evenRows_13 rfl (lv_at hl 0 rfl) ?_
        refine sx_getR (pc := 14) (j := 3) B hH hk_th coX8 rfl w_826 rfl dX8_evenRows_14 ?_
        refine W.eq (g2 := F0 m 17 ls [va_rf (gR S th 3)]) rfl ?_
        refine sx_nonnull (x := a_4) ha_4 ?_
        refine lv_iload_n (pc := 17) hx hb dX8_evenRows_17 rfl (lv_at hl 2 rfl) ?_
        obtain ⟨hn_7, hp⟩ := hp
        refine sx_iald (pc := 18) B hH hk_5 hn_7 dX8_evenRows_18 ?_
        refine W.eq (g2 := F0 m 19 ls [.int (gI S a_4 x2_3.toNatClampNeg)]) rfl ?_
        refine lv_aload_n (pc := 19) hx hb dX8_evenRows_19 rfl (lv_at hl 0 rfl) ?_
        refine sx_getI (pc := 20) (j := 0) B hH hk_th coX8 rfl w_821 rfl dX8_evenRows_20 ?_
        refine W.eq (g2 := F0 m 23 ls [.int (gI S th 0), .int (gI S a_4 x2_3.toNatClampNeg)]) rfl ?_
        refine sx_S (pc := 23) (As := [.int (gI S a_4 x2_3.toNatClampNeg), .int (gI S th 0)]) (rest := []) B hH hl.1 (C_X4_isEven G l (gI S a_4 x2_3.toNatClampNeg) (gI S th 0) _ _ hp) mi_X4_isEven w_921 w_1172 rfl rfl ⟨Nat.le_of_ble_eq_true rfl, Nat.le_of_ble_eq_true rfl⟩ (Nat.le_of_ble_eq_true rfl) ⟨Nat.le_of_ble_eq_true rfl, Nat.le_of_ble_eq_true rfl⟩ dX8_evenRows_23 (fun v S1 H locs hq hH => ?_)
        obtain ⟨r_8, rfl, e9, hp⟩ := hq
        rw [e9] at hH
        refine W.eq (g2 := F0 m 26 ls [.int r_8]) rfl ?_
        refine lv_if_eq (pc := 26) (tgt := 32) hx hb dX8_evenRows_26 (by decide) (fun cc_9 => ?_) (fun cc_9 => ?_)
        · have hp := hp.1 cc_9
          obtain ⟨v_10, ev_10⟩ : ∃ y : Int32, y = x2_3 + 1 := ⟨_, rfl⟩
          have hp := hp v_10 ev_10
          refine lv_iinc (pc := 32) (v := v_10) (lv' := [(2, .int v_10), (0, .ref th), (1, .int x1_2)]) hx hb dX8_evenRows_32 hl (k := 2) rfl (by rw [ev_10]; rfl) (by decide) rfl (fun ls hl => ?_)
          refine lv_goto (pc := 35) (tgt := 4) hx hb dX8_evenRows_35 (by decide) ?_
          obtain ⟨k9, hlt9, hp⟩ := hp
          exact ih_1 k9 hlt9 _ _ _ _ _ hp hH (lv_sub hl [1, 2, 0] rfl)
        · have hp := hp.2 cc_9
          obtain ⟨v_11, ev_11⟩ : ∃ y : Int32, y = x1_2 + 1 := ⟨_, rfl⟩
          have hp := hp v_11 ev_11
          refine lv_iinc (pc := 29) (v := v_11) (lv' := [(1, .int v_11), (0, .ref th), (2, .int x2_3)]) hx hb dX8_evenRows_29 hl (k := 1) rfl (by rw [ev_11]; rfl) (by decide) rfl (fun ls hl => ?_)
          obtain ⟨v_12, ev_12⟩ : ∃ y : Int32, y = x2_3 + 1 := ⟨_, rfl⟩
          have hp := hp v_12 ev_12
          refine lv_iinc (pc := 32) (v := v_12) (lv' := [(2, .int v_12), (1, .int v_11), (0, .ref th)]) hx hb dX8_evenRows_32 hl (k := 2) rfl (by rw [ev_12]; rfl) (by decide) rfl (fun ls hl => ?_)
          refine lv_goto (pc := 35) (tgt := 4) hx hb dX8_evenRows_35 (by decide) ?_
          obtain ⟨k9, hlt9, hp⟩ := hp
          exact ih_1 k9 hlt9 _ _ _ _ _ hp hH (lv_sub hl [2, 1, 0] rfl)
  exact kl_1 k0_1 _ _ _ _ _ h0_1 hH (lv_sub hl [2, 1, 0] rfl)
theorem dX8_strayedRow_0 : decode cX8_strayedRow 0 = .ok (.aload_n 0, 1) := by decide +kernel
theorem dX8_strayedRow_1 : decode cX8_strayedRow 1 = .ok (.getfield 22, 3) := by decide +kernel
theorem dX8_strayedRow_4 : decode cX8_strayedRow 4 = .ok (.iconst 0, 1) := by decide +kernel
theorem dX8_strayedRow_5 : decode cX8_strayedRow 5 = .ok (.iaload, 1) := by decide +kernel
theorem dX8_strayedRow_6 : decode cX8_strayedRow 6 = .ok (.istore_n 3, 1) := by decide +kernel
theorem dX8_strayedRow_7 : decode cX8_strayedRow 7 = .ok (.iload_n 1, 1) := by decide +kernel
theorem dX8_strayedRow_8 : decode cX8_strayedRow 8 = .ok (.istore 4, 2) := by decide +kernel
theorem dX8_strayedRow_10 : decode cX8_strayedRow 10 = .ok (.iconst 0, 1) := by decide +kernel
theorem dX8_strayedRow_11 : decode cX8_strayedRow 11 = .ok (.istore 5, 2) := by decide +kernel
theorem dX8_strayedRow_13 : decode cX8_strayedRow 13 = .ok (.iload 5, 2) := by decide +kernel
theorem dX8_strayedRow_15 : decode cX8_strayedRow 15 = .ok (.aload_n 0, 1) := by decide +kernel
theorem dX8_strayedRow_16 : decode cX8_strayedRow 16 = .ok (.getfield 18, 3) := by decide +kernel
theorem dX8_strayedRow_19 : decode cX8_strayedRow 19 = .ok (.arraylength, 1) := by decide +kernel
theorem dX8_strayedRow_20 : decode cX8_strayedRow 20 = .ok (.if_icmp .ge 72, 3) := by decide +kernel
theorem dX8_strayedRow_23 : decode cX8_strayedRow 23 = .ok (.aload_n 0, 1) := by decide +kernel
theorem dX8_strayedRow_24 : decode cX8_strayedRow 24 = .ok (.getfield 18, 3) := by decide +kernel
theorem dX8_strayedRow_27 : decode cX8_strayedRow 27 = .ok (.iload 5, 2) := by decide +kernel
theorem dX8_strayedRow_29 : decode cX8_strayedRow 29 = .ok (.iaload, 1) := by decide +kernel
theorem dX8_strayedRow_30 : decode cX8_strayedRow 30 = .ok (.istore 6, 2) := by decide +kernel
theorem dX8_strayedRow_32 : decode cX8_strayedRow 32 = .ok (.iload 4, 2) := by decide +kernel
theorem dX8_strayedRow_34 : decode cX8_strayedRow 34 = .ok (.sipush 2693, 3) := by decide +kernel
theorem dX8_strayedRow_37 : decode cX8_strayedRow 37 = .ok (.imul, 1) := by decide +kernel
theorem dX8_strayedRow_38 : decode cX8_strayedRow 38 = .ok (.sipush 10007, 3) := by decide +kernel
theorem dX8_strayedRow_41 : decode cX8_strayedRow 41 = .ok (.iadd, 1) := by decide +kernel
theorem dX8_strayedRow_42 : decode cX8_strayedRow 42 = .ok (.ldc 35, 2) := by decide +kernel
theorem dX8_strayedRow_44 : decode cX8_strayedRow 44 = .ok (.irem, 1) := by decide +kernel
theorem dX8_strayedRow_45 : decode cX8_strayedRow 45 = .ok (.istore 4, 2) := by decide +kernel
theorem dX8_strayedRow_47 : decode cX8_strayedRow 47 = .ok (.iload 4, 2) := by decide +kernel
theorem dX8_strayedRow_49 : decode cX8_strayedRow 49 = .ok (.bipush 8, 2) := by decide +kernel
theorem dX8_strayedRow_51 : decode cX8_strayedRow 51 = .ok (.idiv, 1) := by decide +kernel
theorem dX8_strayedRow_52 : decode cX8_strayedRow 52 = .ok (.bipush 16, 2) := by decide +kernel
theorem dX8_strayedRow_54 : decode cX8_strayedRow 54 = .ok (.irem, 1) := by decide +kernel
theorem dX8_strayedRow_55 : decode cX8_strayedRow 55 = .ok (.iload_n 2, 1) := by decide +kernel
theorem dX8_strayedRow_56 : decode cX8_strayedRow 56 = .ok (.if_icmp .ge 23, 3) := by decide +kernel
theorem dX8_strayedRow_59 : decode cX8_strayedRow 59 = .ok (.iload 6, 2) := by decide +kernel
theorem dX8_strayedRow_61 : decode cX8_strayedRow 61 = .ok (.iload 6, 2) := by decide +kernel
theorem dX8_strayedRow_63 : decode cX8_strayedRow 63 = .ok (.ineg, 1) := by decide +kernel
theorem dX8_strayedRow_64 : decode cX8_strayedRow 64 = .ok (.iand, 1) := by decide +kernel
theorem dX8_strayedRow_65 : decode cX8_strayedRow 65 = .ok (.istore 7, 2) := by decide +kernel
theorem dX8_strayedRow_67 : decode cX8_strayedRow 67 = .ok (.iload 6, 2) := by decide +kernel
theorem dX8_strayedRow_69 : decode cX8_strayedRow 69 = .ok (.iload 7, 2) := by decide +kernel
theorem dX8_strayedRow_71 : decode cX8_strayedRow 71 = .ok (.bipush 15, 2) := by decide +kernel
theorem dX8_strayedRow_73 : decode cX8_strayedRow 73 = .ok (.imul, 1) := by decide +kernel
theorem dX8_strayedRow_74 : decode cX8_strayedRow 74 = .ok (.iconst (-1), 1) := by decide +kernel
theorem dX8_strayedRow_75 : decode cX8_strayedRow 75 = .ok (.ixor, 1) := by decide +kernel
theorem dX8_strayedRow_76 : decode cX8_strayedRow 76 = .ok (.iand, 1) := by decide +kernel
theorem dX8_strayedRow_77 : decode cX8_strayedRow 77 = .ok (.istore 6, 2) := by decide +kernel
theorem dX8_strayedRow_79 : decode cX8_strayedRow 79 = .ok (.iload_n 3, 1) := by decide +kernel
theorem dX8_strayedRow_80 : decode cX8_strayedRow 80 = .ok (.iload 6, 2) := by decide +kernel
theorem dX8_strayedRow_82 : decode cX8_strayedRow 82 = .ok (.invokestatic 31, 3) := by decide +kernel
theorem dX8_strayedRow_85 : decode cX8_strayedRow 85 = .ok (.istore_n 3, 1) := by decide +kernel
theorem dX8_strayedRow_86 : decode cX8_strayedRow 86 = .ok (.iinc 5 1, 3) := by decide +kernel
theorem dX8_strayedRow_89 : decode cX8_strayedRow 89 = .ok (.goto (-76), 3) := by decide +kernel
theorem dX8_strayedRow_92 : decode cX8_strayedRow 92 = .ok (.iload_n 3, 1) := by decide +kernel
theorem dX8_strayedRow_93 : decode cX8_strayedRow 93 = .ok (.ireturn, 1) := by decide +kernel
theorem mi_X8_strayedRow : MI yX8_strayedRow cX8_strayedRow 8 (some FieldType.int) 2 := ⟨w_1190, w_124, by decide +kernel, by decide +kernel, by decide +kernel⟩
set_option maxRecDepth 100000 in
set_option maxHeartbeats 4000000 in
theorem C_X8_strayedRow (G : GG) (l : Launch) (th : Nat) (p0 : Int32) (p1 : Int32) (S : St) (Q : Int32 → Prop) (hp : P_X8_strayedRow th p0 p1 S Q) : Ctr G l yX8_strayedRow cX8_strayedRow 8 (some FieldType.int) 1 21 0 0 [.ref th, .int p0, .int p1] S (fun (v : Option Value) (S9 : St) => ∃ (r : Int32), v = some (.int r) ∧ S9 = S ∧ Q r ) := by
  generalize hQQ : (fun (v : Option Value) (S9 : St) => ∃ (r : Int32), v = some (.int r) ∧ S9 = S ∧ Q r ) = QQ
  unfold P_X8_strayedRow at hp
  refine Ctr.of (by decide) (Nat.le_of_ble_eq_true rfl) ?_
  intro p e s m args below meth c ls B hr hlk hin hl hH
  generalize hlocs0 : ([] : List Loc) = locs at hH ⊢
  have hx := B.1
  have hb := B.2.1
  have hl : lv_has ls 8 [(0, .ref th), (1, .int p0), (2, .int p1)] := hl
  obtain ⟨hk_th, hp⟩ := hp
  refine lv_aload_n (pc := 0) hx hb dX8_strayedRow_0 rfl (lv_at hl 0 rfl) ?_
  refine sx_getR (pc := 1) (j := 3) B hH hk_th coX8 rfl w_826 rfl dX8_strayedRow_1 ?_
  refine W.eq (g2 := F0 m 4 ls [va_rf (gR S th 3)]) rfl ?_
  obtain ⟨a_1, ha_1, hp⟩ := hp
  refine sx_nonnull (x := a_1) ha_1 ?_
  refine lv_iconst (pc := 4) (v := 0) hx hb dX8_strayedRow_4 (by decide) ?_
  obtain ⟨hk_2, hp⟩ := hp
  obtain ⟨hn_3, hp⟩ := hp
  refine sx_iald (pc := 5) B hH hk_2 hn_3 dX8_strayedRow_5 ?_
  refine W.eq (g2 := F0 m 6 ls [.int (gI S a_1 0)]) rfl ?_
  refine lv_topi (fun v_4 ev_4 => ?_)
  have hp := hp v_4 ev_4
  refine lv_istore_n (pc := 6) (lv' := [(3, .int v_4), (0, .ref th), (1, .int p0), (2, .int p1)]) hx hb dX8_strayedRow_6 rfl hl (by decide) rfl (fun ls hl => ?_)
  refine lv_iload_n (pc := 7) hx hb dX8_strayedRow_7 rfl (lv_at hl 2 rfl) ?_
  refine lv_istore (pc := 8) (lv' := [(4, .int p0), (3, .int v_4), (0, .ref th), (1, .int p0), (2, .int p1)]) hx hb dX8_strayedRow_8 hl (by decide) rfl (fun ls hl => ?_)
  refine lv_iconst (pc := 10) (v := 0) hx hb dX8_strayedRow_10 (by decide) ?_
  refine lv_istore (pc := 11) (lv' := [(5, .int 0), (4, .int p0), (3, .int v_4), (0, .ref th), (1, .int p0), (2, .int p1)]) hx hb dX8_strayedRow_11 hl (by decide) rfl (fun ls hl => ?_)
  obtain ⟨I_5, ⟨k0_5, h0_5⟩, hst_5⟩ := hp
  have kl_5 : ∀ (n_5 : Nat) (x3_6 : Int32) (x4_7 : Int32) (x5_8 : Int32) (H : Heap) (locs : List Loc) (ls : Array Slot), I_5 n_5 x3_6 x4_7 x5_8 → Hp G (FA S s.heap.size) s.heap S H locs → lv_has ls 8 [(0, .ref th), (2, .int p1), (3, .int x3_6), (4, .int x4_7), (5, .int x5_8)] → Wm G p l e { frames := 1, cells := 0, slots := 0, locals := 21 } s m args below meth c S QQ 0 0 H locs 0 0 (F0 m 13 ls []) := by
    intro n_5
    induction n_5 using Nat.strongRecOn with
    | ind n_5 ih_5 =>
      intro x3_6 x4_7 x5_8 H locs ls hq9 hH hl
      have hp := hst_5 n_5 x3_6 x4_7 x5_8 hq9
      refine lv_iload (pc := 13) hx hb dX8_strayedRow_13 (lv_at hl 4 rfl) ?_
      refine lv_aload_n (pc := 15) hx hb dX8_strayedRow_15 rfl (lv_at hl 0 rfl) ?_
      refine sx_getR (pc := 16) (j := 2) B hH hk_th coX8 rfl w_824 rfl dX8_strayedRow_16 ?_
      refine W.eq (g2 := F0 m 19 ls [va_rf (gR S th 2), .int x5_8]) rfl ?_
      obtain ⟨a_9, ha_9, hp⟩ := hp
      refine sx_nonnull (x := a_9) ha_9 ?_
      obtain ⟨hk_10, hp⟩ := hp
      refine sx_alen (pc := 19) B hH hk_10 (by decide) (by decide) dX8_strayedRow_19 ?_
      refine W.eq (g2 := F0 m 20 ls [.int (nI (ln S a_9)), .int x5_8]) rfl ?_
      refine lv_icmp_ge (pc := 20) (tgt := 92) hx hb dX8_strayedRow_20 (by decide) (fun cc_11 => ?_) (fun cc_11 => ?_)
      · have hp := hp.1 cc_11
        refine lv_iload_n (pc := 92) hx hb dX8_strayedRow_92 rfl (lv_at hl 2 rfl) ?_
        exact sx_iret (pc := 93) B hH hr hlk (by rw [← hQQ]; exact ⟨_, rfl, rfl, hp⟩) (Nat.le_of_ble_eq_true rfl) (Nat.le_of_ble_eq_true rfl) dX8_strayedRow_93
      · have hp := hp.2 cc_11
        refine lv_aload_n (pc := 23) hx hb dX8_strayedRow_23 rfl (lv_at hl 0 rfl) ?_
        refine sx_getR (pc := 24) (j := 2) B hH hk_th coX8 rfl w_824 rfl dX8_strayedRow_24 ?_
        refine W.eq (g2 := F0 m 27 ls [va_rf (gR S th 2)]) rfl ?_
        refine sx_nonnull (x := a_9) ha_9 ?_
        refine lv_iload (pc := 27) hx hb dX8_strayedRow_27 (lv_at hl 4 rfl) ?_
        obtain ⟨hn_12, hp⟩ := hp
        refine sx_iald (pc := 29) B hH hk_10 hn_12 dX8_strayedRow_29 ?_
        refine W.eq (g2 := F0 m 30 ls [.int (gI S a_9 x5_8.toNatClampNeg)]) rfl ?_
        refine lv_topi (fun v_13 ev_13 => ?_)
        have hp := hp v_13 ev_13
        refine lv_istore (pc := 30) (lv' := [(6, .int v_13), (0, .ref th), (2, .int p1), (3, .int x3_6), (4, .int x4_7), (5, .int x5_8)]) hx hb dX8_strayedRow_30 hl (by decide) rfl (fun ls hl => ?_)
        refine lv_iload (pc := 32) hx hb dX8_strayedRow_32 (lv_at hl 4 rfl) ?_
        refine lv_sipush (pc := 34) (v := 2693) hx hb dX8_strayedRow_34 (by decide) ?_
        refine lv_imul (pc := 37) hx hb dX8_strayedRow_37 ?_
        refine lv_sipush (pc := 38) (v := 10007) hx hb dX8_strayedRow_38 (by decide) ?_
        refine lv_iadd (pc := 41) hx hb dX8_strayedRow_41 ?_
        refine sx_ldc (pc := 42) (v := 65536) B w_1191 dX8_strayedRow_42 ?_
        refine lv_irem (pc := 44) hx hb dX8_strayedRow_44 (by decide) ?_
        refine W.eq (g2 := F0 m 45 ls [.int (irm ((x4_7 * 2693) + 10007) 65536)]) rfl ?_
        refine lv_topi (fun v_14 ev_14 => ?_)
        have hp := hp v_14 ev_14
        refine lv_istore (pc := 45) (lv' := [(4, .int v_14), (6, .int v_13), (0, .ref th), (2, .int p1), (3, .int x3_6), (5, .int x5_8)]) hx hb dX8_strayedRow_45 hl (by decide) rfl (fun ls hl => ?_)
        refine lv_iload (pc := 47) hx hb dX8_strayedRow_47 (lv_at hl 0 rfl) ?_
        refine lv_bipush (pc := 49) (v := 8) hx hb dX8_strayedRow_49 (by decide) ?_
        refine lv_idiv (pc := 51) hx hb dX8_strayedRow_51 (by decide) ?_
        refine lv_bipush (pc := 52) (v := 16) hx hb dX8_strayedRow_52 (by decide) ?_
        refine lv_irem (pc := 54) hx hb dX8_strayedRow_54 (by decide) ?_
        refine W.eq (g2 := F0 m 55 ls [.int (irm (v_14 / 8) 16)]) rfl ?_
        refine lv_iload_n (pc := 55) hx hb dX8_strayedRow_55 rfl (lv_at hl 3 rfl) ?_
        obtain ⟨J_16, hj_16, hp⟩ := hp
        have kj_16 : ∀ (x6_17 : Int32) (H : Heap) (locs : List Loc) (ls : Array Slot), J_16 x6_17 → Hp G (FA S s.heap.size) s.heap S H locs → lv_has ls 8 [(0, .ref th), (2, .int p1), (3, .int x3_6), (4, .int v_14), (5, .int x5_8), (6, .int x6_17)] → Wm G p l e { frames := 1, cells := 0, slots := 0, locals := 21 } s m args below meth c S QQ 0 0 H locs 0 0 (F0 m 79 ls []) := by
          intro x6_17 H locs ls hq9 hH hl
          have hp := hj_16 x6_17 hq9
          refine lv_iload_n (pc := 79) hx hb dX8_strayedRow_79 rfl (lv_at hl 2 rfl) ?_
          refine lv_iload (pc := 80) hx hb dX8_strayedRow_80 (lv_at hl 5 rfl) ?_
          refine sx_S (pc := 82) (As := [.int x3_6, .int x6_17]) (rest := []) B hH hl.1 (C_X4_moved G l x3_6 x6_17 _ _ hp) mi_X4_moved w_710 w_820 rfl rfl ⟨Nat.le_of_ble_eq_true rfl, Nat.le_of_ble_eq_true rfl⟩ (Nat.le_of_ble_eq_true rfl) ⟨Nat.le_of_ble_eq_true rfl, Nat.le_of_ble_eq_true rfl⟩ dX8_strayedRow_82 (fun v S1 H locs hq hH => ?_)
          obtain ⟨r_18, rfl, e9, hp⟩ := hq
          rw [e9] at hH
          refine W.eq (g2 := F0 m 85 ls [.int r_18]) rfl ?_
          refine lv_istore_n (pc := 85) (lv' := [(3, .int r_18), (0, .ref th), (2, .int p1), (4, .int v_14), (5, .int x5_8), (6, .int x6_17)]) hx hb dX8_strayedRow_85 rfl hl (by decide) rfl (fun ls hl => ?_)
          obtain ⟨v_19, ev_19⟩ : ∃ y : Int32, y = x5_8 + 1 := ⟨_, rfl⟩
          have hp := hp v_19 ev_19
          refine lv_iinc (pc := 86) (v := v_19) (lv' := [(5, .int v_19), (3, .int r_18), (0, .ref th), (2, .int p1), (4, .int v_14), (6, .int x6_17)]) hx hb dX8_strayedRow_86 hl (k := 4) rfl (by rw [ev_19]; rfl) (by decide) rfl (fun ls hl => ?_)
          refine lv_goto (pc := 89) (tgt := 13) hx hb dX8_strayedRow_89 (by decide) ?_
          obtain ⟨k9, hlt9, hp⟩ := hp
          exact ih_5 k9 hlt9 _ _ _ _ _ _ hp hH (lv_sub hl [2, 3, 1, 4, 0] rfl)
        refine lv_icmp_ge (pc := 56) (tgt := 79) hx hb dX8_strayedRow_56 (by decide) (fun cc_15 => ?_) (fun cc_15 => ?_)
        · have hp := hp.1 cc_15
          exact kj_16 _ _ _ _ hp hH (lv_sub hl [2, 3, 4, 0, 5, 1] rfl)
        · have hp := hp.2 cc_15
          refine lv_iload (pc := 59) hx hb dX8_strayedRow_59 (lv_at hl 1 rfl) ?_
          refine lv_iload (pc := 61) hx hb dX8_strayedRow_61 (lv_at hl 1 rfl) ?_
          refine lv_ineg (pc := 63) hx hb dX8_strayedRow_63 ?_
          refine lv_iand (pc := 64) hx hb dX8_strayedRow_64 ?_
          refine lv_topi (fun v_20 ev_20 => ?_)
          have hp := hp v_20 ev_20
          refine lv_istore (pc := 65) (lv' := [(7, .int v_20), (4, .int v_14), (6, .int v_13), (0, .ref th), (2, .int p1), (3, .int x3_6), (5, .int x5_8)]) hx hb dX8_strayedRow_65 hl (by decide) rfl (fun ls hl => ?_)
          refine lv_iload (pc := 67) hx hb dX8_strayedRow_67 (lv_at hl 2 rfl) ?_
          refine lv_iload (pc := 69) hx hb dX8_strayedRow_69 (lv_at hl 0 rfl) ?_
          refine lv_bipush (pc := 71) (v := 15) hx hb dX8_strayedRow_71 (by decide) ?_
          refine lv_imul (pc := 73) hx hb dX8_strayedRow_73 ?_
          refine lv_iconst (pc := 74) (v := (-1)) hx hb dX8_strayedRow_74 (by decide) ?_
          refine lv_ixor (pc := 75) hx hb dX8_strayedRow_75 ?_
          refine lv_iand (pc := 76) hx hb dX8_strayedRow_76 ?_
          refine lv_topi (fun v_21 ev_21 => ?_)
          have hp := hp v_21 ev_21
          refine lv_istore (pc := 77) (lv' := [(6, .int v_21), (7, .int v_20), (4, .int v_14), (0, .ref th), (2, .int p1), (3, .int x3_6), (5, .int x5_8)]) hx hb dX8_strayedRow_77 hl (by decide) rfl (fun ls hl => ?_)
          exact kj_16 _ _ _ _ hp hH (lv_sub hl [3, 4, 5, 2, 6, 0] rfl)
  exact kl_5 k0_5 _ _ _ _ _ _ h0_5 hH (lv_sub hl [3, 5, 2, 1, 0] rfl)
theorem dX5_isTried_0 : decode cX5_isTried 0 = .ok (.iconst 0, 1) := by decide +kernel
theorem dX5_isTried_1 : decode cX5_isTried 1 = .ok (.istore_n 2, 1) := by decide +kernel
theorem dX5_isTried_2 : decode cX5_isTried 2 = .ok (.iload_n 2, 1) := by decide +kernel
theorem dX5_isTried_3 : decode cX5_isTried 3 = .ok (.aload_n 0, 1) := by decide +kernel
theorem dX5_isTried_4 : decode cX5_isTried 4 = .ok (.getfield 28, 3) := by decide +kernel
theorem dX5_isTried_7 : decode cX5_isTried 7 = .ok (.if_icmp .ge 21, 3) := by decide +kernel
theorem dX5_isTried_10 : decode cX5_isTried 10 = .ok (.aload_n 0, 1) := by decide +kernel
theorem dX5_isTried_11 : decode cX5_isTried 11 = .ok (.getfield 22, 3) := by decide +kernel
theorem dX5_isTried_14 : decode cX5_isTried 14 = .ok (.iload_n 2, 1) := by decide +kernel
theorem dX5_isTried_15 : decode cX5_isTried 15 = .ok (.iaload, 1) := by decide +kernel
theorem dX5_isTried_16 : decode cX5_isTried 16 = .ok (.iload_n 1, 1) := by decide +kernel
theorem dX5_isTried_17 : decode cX5_isTried 17 = .ok (.if_icmp .ne 5, 3) := by decide +kernel
theorem dX5_isTried_20 : decode cX5_isTried 20 = .ok (.iconst 1, 1) := by decide +kernel
theorem dX5_isTried_21 : decode cX5_isTried 21 = .ok (.ireturn, 1) := by decide +kernel
theorem dX5_isTried_22 : decode cX5_isTried 22 = .ok (.iinc 2 1, 3) := by decide +kernel
theorem dX5_isTried_25 : decode cX5_isTried 25 = .ok (.goto (-23), 3) := by decide +kernel
theorem dX5_isTried_28 : decode cX5_isTried 28 = .ok (.iconst 0, 1) := by decide +kernel
theorem dX5_isTried_29 : decode cX5_isTried 29 = .ok (.ireturn, 1) := by decide +kernel
theorem mi_X5_isTried : MI yX5_isTried cX5_isTried 3 (some FieldType.boolean) 1 := ⟨w_1215, w_116, by decide +kernel, by decide +kernel, by decide +kernel⟩
set_option maxRecDepth 100000 in
set_option maxHeartbeats 4000000 in
theorem C_X5_isTried (G : GG) (l : Launch) (th : Nat) (p0 : Int32) (S : St) (Q : Int32 → Prop) (hp : P_X5_isTried th p0 S Q) : Ctr G l yX5_isTried cX5_isTried 3 (some FieldType.boolean) 0 0 0 0 [.ref th, .int p0] S (fun (v : Option Value) (S9 : St) => ∃ (r : Int32), v = some (.int r) ∧ S9 = S ∧ Q r ) := by
  generalize hQQ : (fun (v : Option Value) (S9 : St) => ∃ (r : Int32), v = some (.int r) ∧ S9 = S ∧ Q r ) = QQ
  unfold P_X5_isTried at hp
  refine Ctr.of (by decide) (Nat.le_of_ble_eq_true rfl) ?_
  intro p e s m args below meth c ls B hr hlk hin hl hH
  generalize hlocs0 : ([] : List Loc) = locs at hH ⊢
  have hx := B.1
  have hb := B.2.1
  have hl : lv_has ls 3 [(0, .ref th), (1, .int p0)] := hl
  obtain ⟨hk_th, hp⟩ := hp
  refine lv_iconst (pc := 0) (v := 0) hx hb dX5_isTried_0 (by decide) ?_
  refine lv_istore_n (pc := 1) (lv' := [(2, .int 0), (0, .ref th), (1, .int p0)]) hx hb dX5_isTried_1 rfl hl (by decide) rfl (fun ls hl => ?_)
  obtain ⟨I_1, ⟨k0_1, h0_1⟩, hst_1⟩ := hp
  have kl_1 : ∀ (n_1 : Nat) (x2_2 : Int32) (H : Heap) (locs : List Loc) (ls : Array Slot), I_1 n_1 x2_2 → Hp G (FA S s.heap.size) s.heap S H locs → lv_has ls 3 [(0, .ref th), (1, .int p0), (2, .int x2_2)] → Wm G p l e { frames := 0, cells := 0, slots := 0, locals := 0 } s m args below meth c S QQ 0 0 H locs 0 0 (F0 m 2 ls []) := by
    intro n_1
    induction n_1 using Nat.strongRecOn with
    | ind n_1 ih_1 =>
      intro x2_2 H locs ls hq9 hH hl
      have hp := hst_1 n_1 x2_2 hq9
      refine lv_iload_n (pc := 2) hx hb dX5_isTried_2 rfl (lv_at hl 2 rfl) ?_
      refine lv_aload_n (pc := 3) hx hb dX5_isTried_3 rfl (lv_at hl 0 rfl) ?_
      refine sx_getI (pc := 4) (j := 5) B hH hk_th coX5 rfl w_403 rfl dX5_isTried_4 ?_
      refine W.eq (g2 := F0 m 7 ls [.int (gI S th 5), .int x2_2]) rfl ?_
      refine lv_icmp_ge (pc := 7) (tgt := 28) hx hb dX5_isTried_7 (by decide) (fun cc_3 => ?_) (fun cc_3 => ?_)
      · have hp := hp.1 cc_3
        refine lv_iconst (pc := 28) (v := 0) hx hb dX5_isTried_28 (by decide) ?_
        exact sx_zret (pc := 29) B hH hr hlk (Or.inl rfl) (by rw [← hQQ]; exact ⟨_, rfl, rfl, hp⟩) (Nat.le_of_ble_eq_true rfl) (Nat.le_of_ble_eq_true rfl) dX5_isTried_29
      · have hp := hp.2 cc_3
        refine lv_aload_n (pc := 10) hx hb dX5_isTried_10 rfl (lv_at hl 0 rfl) ?_
        refine sx_getR (pc := 11) (j := 3) B hH hk_th coX5 rfl w_401 rfl dX5_isTried_11 ?_
        refine W.eq (g2 := F0 m 14 ls [va_rf (gR S th 3)]) rfl ?_
        obtain ⟨a_4, ha_4, hp⟩ := hp
        refine sx_nonnull (x := a_4) ha_4 ?_
        refine lv_iload_n (pc := 14) hx hb dX5_isTried_14 rfl (lv_at hl 2 rfl) ?_
        obtain ⟨hk_5, hp⟩ := hp
        obtain ⟨hn_6, hp⟩ := hp
        refine sx_iald (pc := 15) B hH hk_5 hn_6 dX5_isTried_15 ?_
        refine W.eq (g2 := F0 m 16 ls [.int (gI S a_4 x2_2.toNatClampNeg)]) rfl ?_
        refine lv_iload_n (pc := 16) hx hb dX5_isTried_16 rfl (lv_at hl 1 rfl) ?_
        refine lv_icmp_ne (pc := 17) (tgt := 22) hx hb dX5_isTried_17 (by decide) (fun cc_7 => ?_) (fun cc_7 => ?_)
        · have hp := hp.1 cc_7
          obtain ⟨v_8, ev_8⟩ : ∃ y : Int32, y = x2_2 + 1 := ⟨_, rfl⟩
          have hp := hp v_8 ev_8
          refine lv_iinc (pc := 22) (v := v_8) (lv' := [(2, .int v_8), (0, .ref th), (1, .int p0)]) hx hb dX5_isTried_22 hl (k := 2) rfl (by rw [ev_8]; rfl) (by decide) rfl (fun ls hl => ?_)
          refine lv_goto (pc := 25) (tgt := 2) hx hb dX5_isTried_25 (by decide) ?_
          obtain ⟨k9, hlt9, hp⟩ := hp
          exact ih_1 k9 hlt9 _ _ _ _ hp hH (lv_sub hl [1, 2, 0] rfl)
        · have hp := hp.2 cc_7
          refine lv_iconst (pc := 20) (v := 1) hx hb dX5_isTried_20 (by decide) ?_
          exact sx_zret (pc := 21) B hH hr hlk (Or.inr rfl) (by rw [← hQQ]; exact ⟨_, rfl, rfl, hp⟩) (Nat.le_of_ble_eq_true rfl) (Nat.le_of_ble_eq_true rfl) dX5_isTried_21
  exact kl_1 k0_1 _ _ _ _ h0_1 hH (lv_sub hl [1, 2, 0] rfl)
theorem dX5_gatherHeads_0 : decode cX5_gatherHeads 0 = .ok (.aload_n 0, 1) := by decide +kernel
theorem dX5_gatherHeads_1 : decode cX5_gatherHeads 1 = .ok (.iconst 0, 1) := by decide +kernel
theorem dX5_gatherHeads_2 : decode cX5_gatherHeads 2 = .ok (.putfield 28, 3) := by decide +kernel
theorem dX5_gatherHeads_5 : decode cX5_gatherHeads 5 = .ok (.aload_n 0, 1) := by decide +kernel
theorem dX5_gatherHeads_6 : decode cX5_gatherHeads 6 = .ok (.iconst 0, 1) := by decide +kernel
theorem dX5_gatherHeads_7 : decode cX5_gatherHeads 7 = .ok (.putfield 32, 3) := by decide +kernel
theorem dX5_gatherHeads_10 : decode cX5_gatherHeads 10 = .ok (.iconst 0, 1) := by decide +kernel
theorem dX5_gatherHeads_11 : decode cX5_gatherHeads 11 = .ok (.istore_n 2, 1) := by decide +kernel
theorem dX5_gatherHeads_12 : decode cX5_gatherHeads 12 = .ok (.iload_n 2, 1) := by decide +kernel
theorem dX5_gatherHeads_13 : decode cX5_gatherHeads 13 = .ok (.aload_n 1, 1) := by decide +kernel
theorem dX5_gatherHeads_14 : decode cX5_gatherHeads 14 = .ok (.getfield 73, 3) := by decide +kernel
theorem dX5_gatherHeads_17 : decode cX5_gatherHeads 17 = .ok (.arraylength, 1) := by decide +kernel
theorem dX5_gatherHeads_18 : decode cX5_gatherHeads 18 = .ok (.if_icmp .ge 100, 3) := by decide +kernel
theorem dX5_gatherHeads_21 : decode cX5_gatherHeads 21 = .ok (.iconst 0, 1) := by decide +kernel
theorem dX5_gatherHeads_22 : decode cX5_gatherHeads 22 = .ok (.istore_n 3, 1) := by decide +kernel
theorem dX5_gatherHeads_23 : decode cX5_gatherHeads 23 = .ok (.iload_n 3, 1) := by decide +kernel
theorem dX5_gatherHeads_24 : decode cX5_gatherHeads 24 = .ok (.iconst 3, 1) := by decide +kernel
theorem dX5_gatherHeads_25 : decode cX5_gatherHeads 25 = .ok (.if_icmp .ge 87, 3) := by decide +kernel
theorem dX5_gatherHeads_28 : decode cX5_gatherHeads 28 = .ok (.aload_n 1, 1) := by decide +kernel
theorem dX5_gatherHeads_29 : decode cX5_gatherHeads 29 = .ok (.getfield 73, 3) := by decide +kernel
theorem dX5_gatherHeads_32 : decode cX5_gatherHeads 32 = .ok (.iload_n 2, 1) := by decide +kernel
theorem dX5_gatherHeads_33 : decode cX5_gatherHeads 33 = .ok (.aaload, 1) := by decide +kernel
theorem dX5_gatherHeads_34 : decode cX5_gatherHeads 34 = .ok (.getfield 77, 3) := by decide +kernel
theorem dX5_gatherHeads_37 : decode cX5_gatherHeads 37 = .ok (.iload_n 3, 1) := by decide +kernel
theorem dX5_gatherHeads_38 : decode cX5_gatherHeads 38 = .ok (.iaload, 1) := by decide +kernel
theorem dX5_gatherHeads_39 : decode cX5_gatherHeads 39 = .ok (.istore 4, 2) := by decide +kernel
theorem dX5_gatherHeads_41 : decode cX5_gatherHeads 41 = .ok (.aload_n 0, 1) := by decide +kernel
theorem dX5_gatherHeads_42 : decode cX5_gatherHeads 42 = .ok (.getfield 28, 3) := by decide +kernel
theorem dX5_gatherHeads_45 : decode cX5_gatherHeads 45 = .ok (.bipush 12, 2) := by decide +kernel
theorem dX5_gatherHeads_47 : decode cX5_gatherHeads 47 = .ok (.if_icmp .ge 59, 3) := by decide +kernel
theorem dX5_gatherHeads_50 : decode cX5_gatherHeads 50 = .ok (.iload 4, 2) := by decide +kernel
theorem dX5_gatherHeads_52 : decode cX5_gatherHeads 52 = .ok (.aload_n 1, 1) := by decide +kernel
theorem dX5_gatherHeads_53 : decode cX5_gatherHeads 53 = .ok (.getfield 56, 3) := by decide +kernel
theorem dX5_gatherHeads_56 : decode cX5_gatherHeads 56 = .ok (.invokestatic 59, 3) := by decide +kernel
theorem dX5_gatherHeads_59 : decode cX5_gatherHeads 59 = .ok (.if_icmp .eq 47, 3) := by decide +kernel
theorem dX5_gatherHeads_62 : decode cX5_gatherHeads 62 = .ok (.aload_n 0, 1) := by decide +kernel
theorem dX5_gatherHeads_63 : decode cX5_gatherHeads 63 = .ok (.iload 4, 2) := by decide +kernel
theorem dX5_gatherHeads_65 : decode cX5_gatherHeads 65 = .ok (.invokevirtual 80, 3) := by decide +kernel
theorem dX5_gatherHeads_68 : decode cX5_gatherHeads 68 = .ok (.ifCond .ne 38, 3) := by decide +kernel
theorem dX5_gatherHeads_71 : decode cX5_gatherHeads 71 = .ok (.aload_n 0, 1) := by decide +kernel
theorem dX5_gatherHeads_72 : decode cX5_gatherHeads 72 = .ok (.getfield 22, 3) := by decide +kernel
theorem dX5_gatherHeads_75 : decode cX5_gatherHeads 75 = .ok (.aload_n 0, 1) := by decide +kernel
theorem dX5_gatherHeads_76 : decode cX5_gatherHeads 76 = .ok (.getfield 28, 3) := by decide +kernel
theorem dX5_gatherHeads_79 : decode cX5_gatherHeads 79 = .ok (.iload 4, 2) := by decide +kernel
theorem dX5_gatherHeads_81 : decode cX5_gatherHeads 81 = .ok (.iastore, 1) := by decide +kernel
theorem dX5_gatherHeads_82 : decode cX5_gatherHeads 82 = .ok (.aload_n 0, 1) := by decide +kernel
theorem dX5_gatherHeads_83 : decode cX5_gatherHeads 83 = .ok (.getfield 25, 3) := by decide +kernel
theorem dX5_gatherHeads_86 : decode cX5_gatherHeads 86 = .ok (.aload_n 0, 1) := by decide +kernel
theorem dX5_gatherHeads_87 : decode cX5_gatherHeads 87 = .ok (.getfield 28, 3) := by decide +kernel
theorem dX5_gatherHeads_90 : decode cX5_gatherHeads 90 = .ok (.iload_n 2, 1) := by decide +kernel
theorem dX5_gatherHeads_91 : decode cX5_gatherHeads 91 = .ok (.iconst 3, 1) := by decide +kernel
theorem dX5_gatherHeads_92 : decode cX5_gatherHeads 92 = .ok (.imul, 1) := by decide +kernel
theorem dX5_gatherHeads_93 : decode cX5_gatherHeads 93 = .ok (.iload_n 3, 1) := by decide +kernel
theorem dX5_gatherHeads_94 : decode cX5_gatherHeads 94 = .ok (.iadd, 1) := by decide +kernel
theorem dX5_gatherHeads_95 : decode cX5_gatherHeads 95 = .ok (.iastore, 1) := by decide +kernel
theorem dX5_gatherHeads_96 : decode cX5_gatherHeads 96 = .ok (.aload_n 0, 1) := by decide +kernel
theorem dX5_gatherHeads_97 : decode cX5_gatherHeads 97 = .ok (.dup, 1) := by decide +kernel
theorem dX5_gatherHeads_98 : decode cX5_gatherHeads 98 = .ok (.getfield 28, 3) := by decide +kernel
theorem dX5_gatherHeads_101 : decode cX5_gatherHeads 101 = .ok (.iconst 1, 1) := by decide +kernel
theorem dX5_gatherHeads_102 : decode cX5_gatherHeads 102 = .ok (.iadd, 1) := by decide +kernel
theorem dX5_gatherHeads_103 : decode cX5_gatherHeads 103 = .ok (.putfield 28, 3) := by decide +kernel
theorem dX5_gatherHeads_106 : decode cX5_gatherHeads 106 = .ok (.iinc 3 1, 3) := by decide +kernel
theorem dX5_gatherHeads_109 : decode cX5_gatherHeads 109 = .ok (.goto (-86), 3) := by decide +kernel
theorem dX5_gatherHeads_112 : decode cX5_gatherHeads 112 = .ok (.iinc 2 1, 3) := by decide +kernel
theorem dX5_gatherHeads_115 : decode cX5_gatherHeads 115 = .ok (.goto (-103), 3) := by decide +kernel
theorem dX5_gatherHeads_118 : decode cX5_gatherHeads 118 = .ok (.return_, 1) := by decide +kernel
theorem mi_X5_gatherHeads : MI yX5_gatherHeads cX5_gatherHeads 5 (none : Option Jvm.ClassFile.FieldType) 1 := ⟨w_1210, w_116, by decide +kernel, by decide +kernel, by decide +kernel⟩
set_option maxRecDepth 100000 in
set_option maxHeartbeats 4000000 in
theorem C_X5_gatherHeads (G : GG) (l : Launch) (th : Nat) (p0 : Nat) (S : St) (Q : (Nat → Nat → Int32) → Prop) (hp : P_X5_gatherHeads th p0 S Q) : Ctr G l yX5_gatherHeads cX5_gatherHeads 5 (none : Option Jvm.ClassFile.FieldType) 1 22 0 0 [.ref th, .ref p0] S (fun (v : Option Value) (S9 : St) => ∃ (I9 : Nat → Nat → Int32), v = none ∧ S9 = wI S I9 ∧ Q I9) := by
  generalize hQQ : (fun (v : Option Value) (S9 : St) => ∃ (I9 : Nat → Nat → Int32), v = none ∧ S9 = wI S I9 ∧ Q I9) = QQ
  unfold P_X5_gatherHeads at hp
  refine Ctr.of (by decide) (Nat.le_of_ble_eq_true rfl) ?_
  intro p e s m args below meth c ls B hr hlk hin hl hH
  generalize hlocs0 : ([] : List Loc) = locs at hH ⊢
  have hx := B.1
  have hb := B.2.1
  have hl : lv_has ls 5 [(0, .ref th), (1, .ref p0)] := hl
  obtain ⟨hk_th, hp⟩ := hp
  refine lv_aload_n (pc := 0) hx hb dX5_gatherHeads_0 rfl (lv_at hl 0 rfl) ?_
  refine lv_iconst (pc := 1) (v := 0) hx hb dX5_gatherHeads_1 (by decide) ?_
  obtain ⟨F_1, eF_1⟩ : ∃ z : Nat → Nat → Int32, z = upI (gI S) th 5 0 := ⟨_, rfl⟩
  have hp := hp F_1 eF_1
  refine sx_putI (pc := 2) (j := 5) B hH hk_th coX5 rfl w_403 rfl (Or.inl rfl) rfl dX5_gatherHeads_2 (fun H locs hH => ?_)
  have hH : Hp G (FA S s.heap.size) s.heap (wI S F_1) H locs := by rw [eF_1]; exact hH
  refine lv_aload_n (pc := 5) hx hb dX5_gatherHeads_5 rfl (lv_at hl 0 rfl) ?_
  refine lv_iconst (pc := 6) (v := 0) hx hb dX5_gatherHeads_6 (by decide) ?_
  obtain ⟨F_2, eF_2⟩ : ∃ z : Nat → Nat → Int32, z = upI F_1 th 6 0 := ⟨_, rfl⟩
  have hp := hp F_2 eF_2
  refine sx_putI (pc := 7) (j := 6) B hH hk_th coX5 rfl w_404 rfl (Or.inl rfl) rfl dX5_gatherHeads_7 (fun H locs hH => ?_)
  have hH : Hp G (FA S s.heap.size) s.heap (wI S F_2) H locs := by rw [eF_2]; exact hH
  refine lv_iconst (pc := 10) (v := 0) hx hb dX5_gatherHeads_10 (by decide) ?_
  refine lv_istore_n (pc := 11) (lv' := [(2, .int 0), (0, .ref th), (1, .ref p0)]) hx hb dX5_gatherHeads_11 rfl hl (by decide) rfl (fun ls hl => ?_)
  obtain ⟨I_3, ⟨k0_3, h0_3⟩, hst_3⟩ := hp
  have kl_3 : ∀ (n_3 : Nat) (x2_4 : Int32) (F_5 : Nat → Nat → Int32) (H : Heap) (locs : List Loc) (ls : Array Slot), I_3 n_3 x2_4 F_5 → Hp G (FA S s.heap.size) s.heap (wI S F_5) H locs → lv_has ls 5 [(0, .ref th), (1, .ref p0), (2, .int x2_4)] → Wm G p l e { frames := 1, cells := 0, slots := 0, locals := 22 } s m args below meth c S QQ 0 0 H locs 0 0 (F0 m 12 ls []) := by
    intro n_3
    induction n_3 using Nat.strongRecOn with
    | ind n_3 ih_3 =>
      intro x2_4 F_5 H locs ls hq9 hH hl
      have hp := hst_3 n_3 x2_4 F_5 hq9
      refine lv_iload_n (pc := 12) hx hb dX5_gatherHeads_12 rfl (lv_at hl 2 rfl) ?_
      refine lv_aload_n (pc := 13) hx hb dX5_gatherHeads_13 rfl (lv_at hl 1 rfl) ?_
      obtain ⟨hk_6, hp⟩ := hp
      refine sx_getR (pc := 14) (j := 3) B hH hk_6 coX0 rfl w_365 rfl dX5_gatherHeads_14 ?_
      refine W.eq (g2 := F0 m 17 ls [va_rf (gR S p0 3), .int x2_4]) rfl ?_
      obtain ⟨a_7, ha_7, hp⟩ := hp
      refine sx_nonnull (x := a_7) ha_7 ?_
      obtain ⟨hk_8, hp⟩ := hp
      refine sx_alen (pc := 17) B hH hk_8 (by decide) (by decide) dX5_gatherHeads_17 ?_
      refine W.eq (g2 := F0 m 18 ls [.int (nI (ln S a_7)), .int x2_4]) rfl ?_
      refine lv_icmp_ge (pc := 18) (tgt := 118) hx hb dX5_gatherHeads_18 (by decide) (fun cc_9 => ?_) (fun cc_9 => ?_)
      · have hp := hp.1 cc_9
        exact sx_vret (pc := 118) B hH hr hlk (by rw [← hQQ]; exact ⟨F_5, rfl, rfl, hp⟩) (Nat.le_of_ble_eq_true rfl) (Nat.le_of_ble_eq_true rfl) dX5_gatherHeads_118
      · have hp := hp.2 cc_9
        refine lv_iconst (pc := 21) (v := 0) hx hb dX5_gatherHeads_21 (by decide) ?_
        refine lv_istore_n (pc := 22) (lv' := [(3, .int 0), (0, .ref th), (1, .ref p0), (2, .int x2_4)]) hx hb dX5_gatherHeads_22 rfl hl (by decide) rfl (fun ls hl => ?_)
        obtain ⟨I_10, ⟨k0_10, h0_10⟩, hst_10⟩ := hp
        have kl_10 : ∀ (n_10 : Nat) (x3_11 : Int32) (F_12 : Nat → Nat → Int32) (H : Heap) (locs : List Loc) (ls : Array Slot), I_10 n_10 x3_11 F_12 → Hp G (FA S s.heap.size) s.heap (wI S F_12) H locs → lv_has ls 5 [(0, .ref th), (1, .ref p0), (2, .int x2_4), (3, .int x3_11)] → Wm G p l e { frames := 1, cells := 0, slots := 0, locals := 22 } s m args below meth c S QQ 0 0 H locs 0 0 (F0 m 23 ls []) := by
          intro n_10
          induction n_10 using Nat.strongRecOn with
          | ind n_10 ih_10 =>
            intro x3_11 F_12 H locs ls hq9 hH hl
            have hp := hst_10 n_10 x3_11 F_12 hq9
            refine lv_iload_n (pc := 23) hx hb dX5_gatherHeads_23 rfl (lv_at hl 3 rfl) ?_
            refine lv_iconst (pc := 24) (v := 3) hx hb dX5_gatherHeads_24 (by decide) ?_
            refine lv_icmp_ge (pc := 25) (tgt := 112) hx hb dX5_gatherHeads_25 (by decide) (fun cc_13 => ?_) (fun cc_13 => ?_)
            · have hp := hp.1 cc_13
              obtain ⟨v_14, ev_14⟩ : ∃ y : Int32, y = x2_4 + 1 := ⟨_, rfl⟩
              have hp := hp v_14 ev_14
              refine lv_iinc (pc := 112) (v := v_14) (lv' := [(2, .int v_14), (0, .ref th), (1, .ref p0), (3, .int x3_11)]) hx hb dX5_gatherHeads_112 hl (k := 2) rfl (by rw [ev_14]; rfl) (by decide) rfl (fun ls hl => ?_)
              refine lv_goto (pc := 115) (tgt := 12) hx hb dX5_gatherHeads_115 (by decide) ?_
              obtain ⟨k9, hlt9, hp⟩ := hp
              exact ih_3 k9 hlt9 _ _ _ _ _ hp hH (lv_sub hl [1, 2, 0] rfl)
            · have hp := hp.2 cc_13
              refine lv_aload_n (pc := 28) hx hb dX5_gatherHeads_28 rfl (lv_at hl 1 rfl) ?_
              refine sx_getR (pc := 29) (j := 3) B hH hk_6 coX0 rfl w_365 rfl dX5_gatherHeads_29 ?_
              refine W.eq (g2 := F0 m 32 ls [va_rf (gR S p0 3)]) rfl ?_
              refine sx_nonnull (x := a_7) ha_7 ?_
              refine lv_iload_n (pc := 32) hx hb dX5_gatherHeads_32 rfl (lv_at hl 2 rfl) ?_
              obtain ⟨hn_15, hp⟩ := hp
              refine sx_aald (pc := 33) B hH hk_8 (by decide) (by decide) hn_15 dX5_gatherHeads_33 ?_
              refine W.eq (g2 := F0 m 34 ls [va_rf (gR S a_7 x2_4.toNatClampNeg)]) rfl ?_
              obtain ⟨a_16, ha_16, hp⟩ := hp
              refine sx_nonnull (x := a_16) ha_16 ?_
              obtain ⟨hk_17, hp⟩ := hp
              refine sx_getR (pc := 34) (j := 4) B hH hk_17 coX3 rfl w_721 rfl dX5_gatherHeads_34 ?_
              refine W.eq (g2 := F0 m 37 ls [va_rf (gR S a_16 4)]) rfl ?_
              obtain ⟨a_18, ha_18, hp⟩ := hp
              refine sx_nonnull (x := a_18) ha_18 ?_
              refine lv_iload_n (pc := 37) hx hb dX5_gatherHeads_37 rfl (lv_at hl 3 rfl) ?_
              obtain ⟨hk_19, hp⟩ := hp
              obtain ⟨hn_20, hp⟩ := hp
              refine sx_iald (pc := 38) B hH hk_19 hn_20 dX5_gatherHeads_38 ?_
              refine W.eq (g2 := F0 m 39 ls [.int (F_12 a_18 x3_11.toNatClampNeg)]) rfl ?_
              refine lv_topi (fun v_21 ev_21 => ?_)
              have hp := hp v_21 ev_21
              refine lv_istore (pc := 39) (lv' := [(4, .int v_21), (0, .ref th), (1, .ref p0), (2, .int x2_4), (3, .int x3_11)]) hx hb dX5_gatherHeads_39 hl (by decide) rfl (fun ls hl => ?_)
              refine lv_aload_n (pc := 41) hx hb dX5_gatherHeads_41 rfl (lv_at hl 1 rfl) ?_
              refine sx_getI (pc := 42) (j := 5) B hH hk_th coX5 rfl w_403 rfl dX5_gatherHeads_42 ?_
              refine W.eq (g2 := F0 m 45 ls [.int (F_12 th 5)]) rfl ?_
              refine lv_bipush (pc := 45) (v := 12) hx hb dX5_gatherHeads_45 (by decide) ?_
              refine lv_icmp_ge (pc := 47) (tgt := 106) hx hb dX5_gatherHeads_47 (by decide) (fun cc_22 => ?_) (fun cc_22 => ?_)
              · have hp := hp.1 cc_22
                obtain ⟨v_23, ev_23⟩ : ∃ y : Int32, y = x3_11 + 1 := ⟨_, rfl⟩
                have hp := hp v_23 ev_23
                refine lv_iinc (pc := 106) (v := v_23) (lv' := [(3, .int v_23), (4, .int v_21), (0, .ref th), (1, .ref p0), (2, .int x2_4)]) hx hb dX5_gatherHeads_106 hl (k := 4) rfl (by rw [ev_23]; rfl) (by decide) rfl (fun ls hl => ?_)
                refine lv_goto (pc := 109) (tgt := 23) hx hb dX5_gatherHeads_109 (by decide) ?_
                obtain ⟨k9, hlt9, hp⟩ := hp
                exact ih_10 k9 hlt9 _ _ _ _ _ hp hH (lv_sub hl [2, 3, 4, 0] rfl)
              · have hp := hp.2 cc_22
                refine lv_iload (pc := 50) hx hb dX5_gatherHeads_50 (lv_at hl 0 rfl) ?_
                refine lv_aload_n (pc := 52) hx hb dX5_gatherHeads_52 rfl (lv_at hl 2 rfl) ?_
                refine sx_getI (pc := 53) (j := 0) B hH hk_6 coX0 rfl w_354 rfl dX5_gatherHeads_53 ?_
                refine W.eq (g2 := F0 m 56 ls [.int (F_12 p0 0), .int v_21]) rfl ?_
                refine sx_S (pc := 56) (As := [.int (F_12 p0 0)]) (rest := [.int v_21]) B hH hl.1 (C_X4_roundsOf G l (F_12 p0 0) _ _ hp) mi_X4_roundsOf w_706 w_1211 rfl rfl ⟨Nat.le_of_ble_eq_true rfl, Nat.le_of_ble_eq_true rfl⟩ (Nat.le_of_ble_eq_true rfl) ⟨Nat.le_of_ble_eq_true rfl, Nat.le_of_ble_eq_true rfl⟩ dX5_gatherHeads_56 (fun v S1 H locs hq hH => ?_)
                obtain ⟨r_24, rfl, e9, hp⟩ := hq
                rw [e9] at hH
                refine W.eq (g2 := F0 m 59 ls [.int r_24, .int v_21]) rfl ?_
                refine lv_icmp_eq (pc := 59) (tgt := 106) hx hb dX5_gatherHeads_59 (by decide) (fun cc_25 => ?_) (fun cc_25 => ?_)
                · have hp := hp.1 cc_25
                  obtain ⟨v_26, ev_26⟩ : ∃ y : Int32, y = x3_11 + 1 := ⟨_, rfl⟩
                  have hp := hp v_26 ev_26
                  refine lv_iinc (pc := 106) (v := v_26) (lv' := [(3, .int v_26), (4, .int v_21), (0, .ref th), (1, .ref p0), (2, .int x2_4)]) hx hb dX5_gatherHeads_106 hl (k := 4) rfl (by rw [ev_26]; rfl) (by decide) rfl (fun ls hl => ?_)
                  refine lv_goto (pc := 109) (tgt := 23) hx hb dX5_gatherHeads_109 (by decide) ?_
                  obtain ⟨k9, hlt9, hp⟩ := hp
                  exact ih_10 k9 hlt9 _ _ _ _ _ hp hH (lv_sub hl [2, 3, 4, 0] rfl)
                · have hp := hp.2 cc_25
                  refine lv_aload_n (pc := 62) hx hb dX5_gatherHeads_62 rfl (lv_at hl 1 rfl) ?_
                  refine lv_iload (pc := 63) hx hb dX5_gatherHeads_63 (lv_at hl 0 rfl) ?_
                  refine sx_V (pc := 65) (As := [.int v_21]) (rest := []) B hH hl.1 (C_X5_isTried G l th v_21 _ _ hp) mi_X5_isTried coX5 hk_th w_1214 w_37 w_1212 rfl rfl ⟨Nat.le_of_ble_eq_true rfl, Nat.le_of_ble_eq_true rfl⟩ (Nat.le_of_ble_eq_true rfl) ⟨Nat.le_of_ble_eq_true rfl, Nat.le_of_ble_eq_true rfl⟩ dX5_gatherHeads_65 (fun v S1 H locs hq hH => ?_)
                  obtain ⟨r_27, rfl, e9, hp⟩ := hq
                  rw [e9] at hH
                  refine W.eq (g2 := F0 m 68 ls [.int r_27]) rfl ?_
                  refine lv_if_ne (pc := 68) (tgt := 106) hx hb dX5_gatherHeads_68 (by decide) (fun cc_28 => ?_) (fun cc_28 => ?_)
                  · have hp := hp.1 cc_28
                    obtain ⟨v_29, ev_29⟩ : ∃ y : Int32, y = x3_11 + 1 := ⟨_, rfl⟩
                    have hp := hp v_29 ev_29
                    refine lv_iinc (pc := 106) (v := v_29) (lv' := [(3, .int v_29), (4, .int v_21), (0, .ref th), (1, .ref p0), (2, .int x2_4)]) hx hb dX5_gatherHeads_106 hl (k := 4) rfl (by rw [ev_29]; rfl) (by decide) rfl (fun ls hl => ?_)
                    refine lv_goto (pc := 109) (tgt := 23) hx hb dX5_gatherHeads_109 (by decide) ?_
                    obtain ⟨k9, hlt9, hp⟩ := hp
                    exact ih_10 k9 hlt9 _ _ _ _ _ hp hH (lv_sub hl [2, 3, 4, 0] rfl)
                  · have hp := hp.2 cc_28
                    refine lv_aload_n (pc := 71) hx hb dX5_gatherHeads_71 rfl (lv_at hl 1 rfl) ?_
                    refine sx_getR (pc := 72) (j := 3) B hH hk_th coX5 rfl w_401 rfl dX5_gatherHeads_72 ?_
                    refine W.eq (g2 := F0 m 75 ls [va_rf (gR S th 3)]) rfl ?_
                    obtain ⟨a_30, ha_30, hp⟩ := hp
                    refine sx_nonnull (x := a_30) ha_30 ?_
                    refine lv_aload_n (pc := 75) hx hb dX5_gatherHeads_75 rfl (lv_at hl 1 rfl) ?_
                    refine sx_getI (pc := 76) (j := 5) B hH hk_th coX5 rfl w_403 rfl dX5_gatherHeads_76 ?_
                    refine W.eq (g2 := F0 m 79 ls [.int (F_12 th 5), .ref a_30]) rfl ?_
                    refine lv_iload (pc := 79) hx hb dX5_gatherHeads_79 (lv_at hl 0 rfl) ?_
                    obtain ⟨hk_31, hp⟩ := hp
                    obtain ⟨hn_32, hp⟩ := hp
                    obtain ⟨F_33, eF_33⟩ : ∃ z : Nat → Nat → Int32, z = upI F_12 a_30 ((F_12 th 5).toNatClampNeg) v_21 := ⟨_, rfl⟩
                    have hp := hp F_33 eF_33
                    refine sx_iast (pc := 81) B hH hk_31 hn_32 dX5_gatherHeads_81 (fun H locs hH => ?_)
                    have hH : Hp G (FA S s.heap.size) s.heap (wI S F_33) H locs := by rw [eF_33]; exact hH
                    refine lv_aload_n (pc := 82) hx hb dX5_gatherHeads_82 rfl (lv_at hl 1 rfl) ?_
                    refine sx_getR (pc := 83) (j := 4) B hH hk_th coX5 rfl w_402 rfl dX5_gatherHeads_83 ?_
                    refine W.eq (g2 := F0 m 86 ls [va_rf (gR S th 4)]) rfl ?_
                    obtain ⟨a_34, ha_34, hp⟩ := hp
                    refine sx_nonnull (x := a_34) ha_34 ?_
                    refine lv_aload_n (pc := 86) hx hb dX5_gatherHeads_86 rfl (lv_at hl 1 rfl) ?_
                    refine sx_getI (pc := 87) (j := 5) B hH hk_th coX5 rfl w_403 rfl dX5_gatherHeads_87 ?_
                    refine W.eq (g2 := F0 m 90 ls [.int (F_33 th 5), .ref a_34]) rfl ?_
                    refine lv_iload_n (pc := 90) hx hb dX5_gatherHeads_90 rfl (lv_at hl 3 rfl) ?_
                    refine lv_iconst (pc := 91) (v := 3) hx hb dX5_gatherHeads_91 (by decide) ?_
                    refine lv_imul (pc := 92) hx hb dX5_gatherHeads_92 ?_
                    refine lv_iload_n (pc := 93) hx hb dX5_gatherHeads_93 rfl (lv_at hl 4 rfl) ?_
                    refine lv_iadd (pc := 94) hx hb dX5_gatherHeads_94 ?_
                    obtain ⟨hk_35, hp⟩ := hp
                    obtain ⟨hn_36, hp⟩ := hp
                    refine lv_topi (fun v_37 ev_37 => ?_)
                    have hp := hp v_37 ev_37
                    obtain ⟨F_38, eF_38⟩ : ∃ z : Nat → Nat → Int32, z = upI F_33 a_34 ((F_33 th 5).toNatClampNeg) v_37 := ⟨_, rfl⟩
                    have hp := hp F_38 eF_38
                    refine sx_iast (pc := 95) B hH hk_35 hn_36 dX5_gatherHeads_95 (fun H locs hH => ?_)
                    have hH : Hp G (FA S s.heap.size) s.heap (wI S F_38) H locs := by rw [eF_38]; exact hH
                    refine lv_aload_n (pc := 96) hx hb dX5_gatherHeads_96 rfl (lv_at hl 1 rfl) ?_
                    refine lv_dup (pc := 97) hx hb dX5_gatherHeads_97 rfl ?_
                    refine sx_getI (pc := 98) (j := 5) B hH hk_th coX5 rfl w_403 rfl dX5_gatherHeads_98 ?_
                    refine W.eq (g2 := F0 m 101 ls [.int (F_38 th 5), .ref th]) rfl ?_
                    refine lv_iconst (pc := 101) (v := 1) hx hb dX5_gatherHeads_101 (by decide) ?_
                    refine lv_iadd (pc := 102) hx hb dX5_gatherHeads_102 ?_
                    refine lv_topi (fun v_39 ev_39 => ?_)
                    have hp := hp v_39 ev_39
                    obtain ⟨F_40, eF_40⟩ : ∃ z : Nat → Nat → Int32, z = upI F_38 th 5 v_39 := ⟨_, rfl⟩
                    have hp := hp F_40 eF_40
                    refine sx_putI (pc := 103) (j := 5) B hH hk_th coX5 rfl w_403 rfl (Or.inl rfl) rfl dX5_gatherHeads_103 (fun H locs hH => ?_)
                    have hH : Hp G (FA S s.heap.size) s.heap (wI S F_40) H locs := by rw [eF_40]; exact hH
                    obtain ⟨v_41, ev_41⟩ : ∃ y : Int32, y = x3_11 + 1 := ⟨_, rfl⟩
                    have hp := hp v_41 ev_41
                    refine lv_iinc (pc := 106) (v := v_41) (lv' := [(3, .int v_41), (4, .int v_21), (0, .ref th), (1, .ref p0), (2, .int x2_4)]) hx hb dX5_gatherHeads_106 hl (k := 4) rfl (by rw [ev_41]; rfl) (by decide) rfl (fun ls hl => ?_)
                    refine lv_goto (pc := 109) (tgt := 23) hx hb dX5_gatherHeads_109 (by decide) ?_
                    obtain ⟨k9, hlt9, hp⟩ := hp
                    exact ih_10 k9 hlt9 _ _ _ _ _ hp hH (lv_sub hl [2, 3, 4, 0] rfl)
        exact kl_10 k0_10 _ _ _ _ _ h0_10 hH (lv_sub hl [1, 2, 3, 0] rfl)
  exact kl_3 k0_3 _ _ _ _ _ h0_3 hH (lv_sub hl [1, 2, 0] rfl)
theorem dX5_keepFound_0 : decode cX5_keepFound 0 = .ok (.aload_n 0, 1) := by decide +kernel
theorem dX5_keepFound_1 : decode cX5_keepFound 1 = .ok (.getfield 32, 3) := by decide +kernel
theorem dX5_keepFound_4 : decode cX5_keepFound 4 = .ok (.aload_n 0, 1) := by decide +kernel
theorem dX5_keepFound_5 : decode cX5_keepFound 5 = .ok (.getfield 15, 3) := by decide +kernel
theorem dX5_keepFound_8 : decode cX5_keepFound 8 = .ok (.arraylength, 1) := by decide +kernel
theorem dX5_keepFound_9 : decode cX5_keepFound 9 = .ok (.if_icmp .ge 42, 3) := by decide +kernel
theorem dX5_keepFound_12 : decode cX5_keepFound 12 = .ok (.iload_n 2, 1) := by decide +kernel
theorem dX5_keepFound_13 : decode cX5_keepFound 13 = .ok (.aload_n 0, 1) := by decide +kernel
theorem dX5_keepFound_14 : decode cX5_keepFound 14 = .ok (.getfield 19, 3) := by decide +kernel
theorem dX5_keepFound_17 : decode cX5_keepFound 17 = .ok (.arraylength, 1) := by decide +kernel
theorem dX5_keepFound_18 : decode cX5_keepFound 18 = .ok (.if_icmp .ge 33, 3) := by decide +kernel
theorem dX5_keepFound_21 : decode cX5_keepFound 21 = .ok (.aload_n 0, 1) := by decide +kernel
theorem dX5_keepFound_22 : decode cX5_keepFound 22 = .ok (.getfield 15, 3) := by decide +kernel
theorem dX5_keepFound_25 : decode cX5_keepFound 25 = .ok (.aload_n 0, 1) := by decide +kernel
theorem dX5_keepFound_26 : decode cX5_keepFound 26 = .ok (.getfield 32, 3) := by decide +kernel
theorem dX5_keepFound_29 : decode cX5_keepFound 29 = .ok (.iload_n 1, 1) := by decide +kernel
theorem dX5_keepFound_30 : decode cX5_keepFound 30 = .ok (.iastore, 1) := by decide +kernel
theorem dX5_keepFound_31 : decode cX5_keepFound 31 = .ok (.aload_n 0, 1) := by decide +kernel
theorem dX5_keepFound_32 : decode cX5_keepFound 32 = .ok (.getfield 19, 3) := by decide +kernel
theorem dX5_keepFound_35 : decode cX5_keepFound 35 = .ok (.iload_n 2, 1) := by decide +kernel
theorem dX5_keepFound_36 : decode cX5_keepFound 36 = .ok (.iload 4, 2) := by decide +kernel
theorem dX5_keepFound_38 : decode cX5_keepFound 38 = .ok (.iload_n 3, 1) := by decide +kernel
theorem dX5_keepFound_39 : decode cX5_keepFound 39 = .ok (.iadd, 1) := by decide +kernel
theorem dX5_keepFound_40 : decode cX5_keepFound 40 = .ok (.iastore, 1) := by decide +kernel
theorem dX5_keepFound_41 : decode cX5_keepFound 41 = .ok (.aload_n 0, 1) := by decide +kernel
theorem dX5_keepFound_42 : decode cX5_keepFound 42 = .ok (.dup, 1) := by decide +kernel
theorem dX5_keepFound_43 : decode cX5_keepFound 43 = .ok (.getfield 32, 3) := by decide +kernel
theorem dX5_keepFound_46 : decode cX5_keepFound 46 = .ok (.iconst 1, 1) := by decide +kernel
theorem dX5_keepFound_47 : decode cX5_keepFound 47 = .ok (.iadd, 1) := by decide +kernel
theorem dX5_keepFound_48 : decode cX5_keepFound 48 = .ok (.putfield 32, 3) := by decide +kernel
theorem dX5_keepFound_51 : decode cX5_keepFound 51 = .ok (.return_, 1) := by decide +kernel
theorem mi_X5_keepFound : MI yX5_keepFound cX5_keepFound 5 (none : Option Jvm.ClassFile.FieldType) 4 := ⟨w_1219, w_116, by decide +kernel, by decide +kernel, by decide +kernel⟩
set_option maxRecDepth 100000 in
set_option maxHeartbeats 4000000 in
theorem C_X5_keepFound (G : GG) (l : Launch) (th : Nat) (p0 : Int32) (p1 : Int32) (p2 : Int32) (p3 : Int32) (S : St) (Q : (Nat → Nat → Int32) → Prop) (hp : P_X5_keepFound th p0 p1 p2 p3 S Q) : Ctr G l yX5_keepFound cX5_keepFound 5 (none : Option Jvm.ClassFile.FieldType) 0 0 0 0 [.ref th, .int p0, .int p1, .int p2, .int p3] S (fun (v : Option Value) (S9 : St) => ∃ (I9 : Nat → Nat → Int32), v = none ∧ S9 = wI S I9 ∧ Q I9) := by
  generalize hQQ : (fun (v : Option Value) (S9 : St) => ∃ (I9 : Nat → Nat → Int32), v = none ∧ S9 = wI S I9 ∧ Q I9) = QQ
  unfold P_X5_keepFound at hp
  refine Ctr.of (by decide) (Nat.le_of_ble_eq_true rfl) ?_
  intro p e s m args below meth c ls B hr hlk hin hl hH
  generalize hlocs0 : ([] : List Loc) = locs at hH ⊢
  have hx := B.1
  have hb := B.2.1
  have hl : lv_has ls 5 [(0, .ref th), (1, .int p0), (2, .int p1), (3, .int p2), (4, .int p3)] := hl
  obtain ⟨hk_th, hp⟩ := hp
  refine lv_aload_n (pc := 0) hx hb dX5_keepFound_0 rfl (lv_at hl 0 rfl) ?_
  refine sx_getI (pc := 1) (j := 6) B hH hk_th coX5 rfl w_404 rfl dX5_keepFound_1 ?_
  refine W.eq (g2 := F0 m 4 ls [.int (gI S th 6)]) rfl ?_
  refine lv_aload_n (pc := 4) hx hb dX5_keepFound_4 rfl (lv_at hl 0 rfl) ?_
  refine sx_getR (pc := 5) (j := 1) B hH hk_th coX5 rfl w_399 rfl dX5_keepFound_5 ?_
  refine W.eq (g2 := F0 m 8 ls [va_rf (gR S th 1), .int (gI S th 6)]) rfl ?_
  obtain ⟨a_1, ha_1, hp⟩ := hp
  refine sx_nonnull (x := a_1) ha_1 ?_
  obtain ⟨hk_2, hp⟩ := hp
  refine sx_alen (pc := 8) B hH hk_2 (by decide) (by decide) dX5_keepFound_8 ?_
  refine W.eq (g2 := F0 m 9 ls [.int (nI (ln S a_1)), .int (gI S th 6)]) rfl ?_
  refine lv_icmp_ge (pc := 9) (tgt := 51) hx hb dX5_keepFound_9 (by decide) (fun cc_3 => ?_) (fun cc_3 => ?_)
  · have hp := hp.1 cc_3
    exact sx_vret (pc := 51) B hH hr hlk (by rw [← hQQ]; exact ⟨(gI S), rfl, rfl, hp⟩) (Nat.le_of_ble_eq_true rfl) (Nat.le_of_ble_eq_true rfl) dX5_keepFound_51
  · have hp := hp.2 cc_3
    refine lv_iload_n (pc := 12) hx hb dX5_keepFound_12 rfl (lv_at hl 2 rfl) ?_
    refine lv_aload_n (pc := 13) hx hb dX5_keepFound_13 rfl (lv_at hl 0 rfl) ?_
    refine sx_getR (pc := 14) (j := 2) B hH hk_th coX5 rfl w_400 rfl dX5_keepFound_14 ?_
    refine W.eq (g2 := F0 m 17 ls [va_rf (gR S th 2), .int p1]) rfl ?_
    obtain ⟨a_4, ha_4, hp⟩ := hp
    refine sx_nonnull (x := a_4) ha_4 ?_
    obtain ⟨hk_5, hp⟩ := hp
    refine sx_alen (pc := 17) B hH hk_5 (by decide) (by decide) dX5_keepFound_17 ?_
    refine W.eq (g2 := F0 m 18 ls [.int (nI (ln S a_4)), .int p1]) rfl ?_
    refine lv_icmp_ge (pc := 18) (tgt := 51) hx hb dX5_keepFound_18 (by decide) (fun cc_6 => ?_) (fun cc_6 => ?_)
    · have hp := hp.1 cc_6
      exact sx_vret (pc := 51) B hH hr hlk (by rw [← hQQ]; exact ⟨(gI S), rfl, rfl, hp⟩) (Nat.le_of_ble_eq_true rfl) (Nat.le_of_ble_eq_true rfl) dX5_keepFound_51
    · have hp := hp.2 cc_6
      refine lv_aload_n (pc := 21) hx hb dX5_keepFound_21 rfl (lv_at hl 0 rfl) ?_
      refine sx_getR (pc := 22) (j := 1) B hH hk_th coX5 rfl w_399 rfl dX5_keepFound_22 ?_
      refine W.eq (g2 := F0 m 25 ls [va_rf (gR S th 1)]) rfl ?_
      refine sx_nonnull (x := a_1) ha_1 ?_
      refine lv_aload_n (pc := 25) hx hb dX5_keepFound_25 rfl (lv_at hl 0 rfl) ?_
      refine sx_getI (pc := 26) (j := 6) B hH hk_th coX5 rfl w_404 rfl dX5_keepFound_26 ?_
      refine W.eq (g2 := F0 m 29 ls [.int (gI S th 6), .ref a_1]) rfl ?_
      refine lv_iload_n (pc := 29) hx hb dX5_keepFound_29 rfl (lv_at hl 1 rfl) ?_
      obtain ⟨hn_7, hp⟩ := hp
      obtain ⟨F_8, eF_8⟩ : ∃ z : Nat → Nat → Int32, z = upI (gI S) a_1 ((gI S th 6).toNatClampNeg) p0 := ⟨_, rfl⟩
      have hp := hp F_8 eF_8
      refine sx_iast (pc := 30) B hH hk_2 hn_7 dX5_keepFound_30 (fun H locs hH => ?_)
      have hH : Hp G (FA S s.heap.size) s.heap (wI S F_8) H locs := by rw [eF_8]; exact hH
      refine lv_aload_n (pc := 31) hx hb dX5_keepFound_31 rfl (lv_at hl 0 rfl) ?_
      refine sx_getR (pc := 32) (j := 2) B hH hk_th coX5 rfl w_400 rfl dX5_keepFound_32 ?_
      refine W.eq (g2 := F0 m 35 ls [va_rf (gR S th 2)]) rfl ?_
      refine sx_nonnull (x := a_4) ha_4 ?_
      refine lv_iload_n (pc := 35) hx hb dX5_keepFound_35 rfl (lv_at hl 2 rfl) ?_
      refine lv_iload (pc := 36) hx hb dX5_keepFound_36 (lv_at hl 4 rfl) ?_
      refine lv_iload_n (pc := 38) hx hb dX5_keepFound_38 rfl (lv_at hl 3 rfl) ?_
      refine lv_iadd (pc := 39) hx hb dX5_keepFound_39 ?_
      obtain ⟨hn_9, hp⟩ := hp
      refine lv_topi (fun v_10 ev_10 => ?_)
      have hp := hp v_10 ev_10
      obtain ⟨F_11, eF_11⟩ : ∃ z : Nat → Nat → Int32, z = upI F_8 a_4 p1.toNatClampNeg v_10 := ⟨_, rfl⟩
      have hp := hp F_11 eF_11
      refine sx_iast (pc := 40) B hH hk_5 hn_9 dX5_keepFound_40 (fun H locs hH => ?_)
      have hH : Hp G (FA S s.heap.size) s.heap (wI S F_11) H locs := by rw [eF_11]; exact hH
      refine lv_aload_n (pc := 41) hx hb dX5_keepFound_41 rfl (lv_at hl 0 rfl) ?_
      refine lv_dup (pc := 42) hx hb dX5_keepFound_42 rfl ?_
      refine sx_getI (pc := 43) (j := 6) B hH hk_th coX5 rfl w_404 rfl dX5_keepFound_43 ?_
      refine W.eq (g2 := F0 m 46 ls [.int (F_11 th 6), .ref th]) rfl ?_
      refine lv_iconst (pc := 46) (v := 1) hx hb dX5_keepFound_46 (by decide) ?_
      refine lv_iadd (pc := 47) hx hb dX5_keepFound_47 ?_
      refine lv_topi (fun v_12 ev_12 => ?_)
      have hp := hp v_12 ev_12
      obtain ⟨F_13, eF_13⟩ : ∃ z : Nat → Nat → Int32, z = upI F_11 th 6 v_12 := ⟨_, rfl⟩
      have hp := hp F_13 eF_13
      refine sx_putI (pc := 48) (j := 6) B hH hk_th coX5 rfl w_404 rfl (Or.inl rfl) rfl dX5_keepFound_48 (fun H locs hH => ?_)
      have hH : Hp G (FA S s.heap.size) s.heap (wI S F_13) H locs := by rw [eF_13]; exact hH
      exact sx_vret (pc := 51) B hH hr hlk (by rw [← hQQ]; exact ⟨F_13, rfl, rfl, hp⟩) (Nat.le_of_ble_eq_true rfl) (Nat.le_of_ble_eq_true rfl) dX5_keepFound_51
theorem dX5_spread_0 : decode cX5_spread 0 = .ok (.iload_n 1, 1) := by decide +kernel
theorem dX5_spread_1 : decode cX5_spread 1 = .ok (.iload_n 2, 1) := by decide +kernel
theorem dX5_spread_2 : decode cX5_spread 2 = .ok (.invokestatic 84, 3) := by decide +kernel
theorem dX5_spread_5 : decode cX5_spread 5 = .ok (.bipush 12, 2) := by decide +kernel
theorem dX5_spread_7 : decode cX5_spread 7 = .ok (.imul, 1) := by decide +kernel
theorem dX5_spread_8 : decode cX5_spread 8 = .ok (.istore_n 3, 1) := by decide +kernel
theorem dX5_spread_9 : decode cX5_spread 9 = .ok (.iconst 0, 1) := by decide +kernel
theorem dX5_spread_10 : decode cX5_spread 10 = .ok (.istore 4, 2) := by decide +kernel
theorem dX5_spread_12 : decode cX5_spread 12 = .ok (.iload 4, 2) := by decide +kernel
theorem dX5_spread_14 : decode cX5_spread 14 = .ok (.aload_n 0, 1) := by decide +kernel
theorem dX5_spread_15 : decode cX5_spread 15 = .ok (.getfield 28, 3) := by decide +kernel
theorem dX5_spread_18 : decode cX5_spread 18 = .ok (.if_icmp .ge 71, 3) := by decide +kernel
theorem dX5_spread_21 : decode cX5_spread 21 = .ok (.iload_n 1, 1) := by decide +kernel
theorem dX5_spread_22 : decode cX5_spread 22 = .ok (.aload_n 0, 1) := by decide +kernel
theorem dX5_spread_23 : decode cX5_spread 23 = .ok (.getfield 22, 3) := by decide +kernel
theorem dX5_spread_26 : decode cX5_spread 26 = .ok (.iload 4, 2) := by decide +kernel
theorem dX5_spread_28 : decode cX5_spread 28 = .ok (.iaload, 1) := by decide +kernel
theorem dX5_spread_29 : decode cX5_spread 29 = .ok (.iload_n 2, 1) := by decide +kernel
theorem dX5_spread_30 : decode cX5_spread 30 = .ok (.invokestatic 88, 3) := by decide +kernel
theorem dX5_spread_33 : decode cX5_spread 33 = .ok (.istore 5, 2) := by decide +kernel
theorem dX5_spread_35 : decode cX5_spread 35 = .ok (.iload 5, 2) := by decide +kernel
theorem dX5_spread_37 : decode cX5_spread 37 = .ok (.aload_n 0, 1) := by decide +kernel
theorem dX5_spread_38 : decode cX5_spread 38 = .ok (.getfield 19, 3) := by decide +kernel
theorem dX5_spread_41 : decode cX5_spread 41 = .ok (.arraylength, 1) := by decide +kernel
theorem dX5_spread_42 : decode cX5_spread 42 = .ok (.if_icmp .ge 41, 3) := by decide +kernel
theorem dX5_spread_45 : decode cX5_spread 45 = .ok (.aload_n 0, 1) := by decide +kernel
theorem dX5_spread_46 : decode cX5_spread 46 = .ok (.getfield 19, 3) := by decide +kernel
theorem dX5_spread_49 : decode cX5_spread 49 = .ok (.iload 5, 2) := by decide +kernel
theorem dX5_spread_51 : decode cX5_spread 51 = .ok (.iaload, 1) := by decide +kernel
theorem dX5_spread_52 : decode cX5_spread 52 = .ok (.ifCond .ne 31, 3) := by decide +kernel
theorem dX5_spread_55 : decode cX5_spread 55 = .ok (.aload_n 0, 1) := by decide +kernel
theorem dX5_spread_56 : decode cX5_spread 56 = .ok (.iload_n 1, 1) := by decide +kernel
theorem dX5_spread_57 : decode cX5_spread 57 = .ok (.aload_n 0, 1) := by decide +kernel
theorem dX5_spread_58 : decode cX5_spread 58 = .ok (.getfield 22, 3) := by decide +kernel
theorem dX5_spread_61 : decode cX5_spread 61 = .ok (.iload 4, 2) := by decide +kernel
theorem dX5_spread_63 : decode cX5_spread 63 = .ok (.iaload, 1) := by decide +kernel
theorem dX5_spread_64 : decode cX5_spread 64 = .ok (.iload_n 2, 1) := by decide +kernel
theorem dX5_spread_65 : decode cX5_spread 65 = .ok (.invokestatic 92, 3) := by decide +kernel
theorem dX5_spread_68 : decode cX5_spread 68 = .ok (.iload 5, 2) := by decide +kernel
theorem dX5_spread_70 : decode cX5_spread 70 = .ok (.aload_n 0, 1) := by decide +kernel
theorem dX5_spread_71 : decode cX5_spread 71 = .ok (.getfield 25, 3) := by decide +kernel
theorem dX5_spread_74 : decode cX5_spread 74 = .ok (.iload 4, 2) := by decide +kernel
theorem dX5_spread_76 : decode cX5_spread 76 = .ok (.iaload, 1) := by decide +kernel
theorem dX5_spread_77 : decode cX5_spread 77 = .ok (.iconst 1, 1) := by decide +kernel
theorem dX5_spread_78 : decode cX5_spread 78 = .ok (.iadd, 1) := by decide +kernel
theorem dX5_spread_79 : decode cX5_spread 79 = .ok (.iload_n 3, 1) := by decide +kernel
theorem dX5_spread_80 : decode cX5_spread 80 = .ok (.invokevirtual 65, 3) := by decide +kernel
theorem dX5_spread_83 : decode cX5_spread 83 = .ok (.iinc 4 1, 3) := by decide +kernel
theorem dX5_spread_86 : decode cX5_spread 86 = .ok (.goto (-74), 3) := by decide +kernel
theorem dX5_spread_89 : decode cX5_spread 89 = .ok (.return_, 1) := by decide +kernel
theorem mi_X5_spread : MI yX5_spread cX5_spread 6 (none : Option Jvm.ClassFile.FieldType) 2 := ⟨w_1223, w_116, by decide +kernel, by decide +kernel, by decide +kernel⟩
set_option maxRecDepth 100000 in
set_option maxHeartbeats 4000000 in
theorem C_X5_spread (G : GG) (l : Launch) (th : Nat) (p0 : Int32) (p1 : Int32) (S : St) (Q : (Nat → Nat → Int32) → Prop) (hp : P_X5_spread th p0 p1 S Q) : Ctr G l yX5_spread cX5_spread 6 (none : Option Jvm.ClassFile.FieldType) 1 26 0 0 [.ref th, .int p0, .int p1] S (fun (v : Option Value) (S9 : St) => ∃ (I9 : Nat → Nat → Int32), v = none ∧ S9 = wI S I9 ∧ Q I9) := by
  generalize hQQ : (fun (v : Option Value) (S9 : St) => ∃ (I9 : Nat → Nat → Int32), v = none ∧ S9 = wI S I9 ∧ Q I9) = QQ
  unfold P_X5_spread at hp
  refine Ctr.of (by decide) (Nat.le_of_ble_eq_true rfl) ?_
  intro p e s m args below meth c ls B hr hlk hin hl hH
  generalize hlocs0 : ([] : List Loc) = locs at hH ⊢
  have hx := B.1
  have hb := B.2.1
  have hl : lv_has ls 6 [(0, .ref th), (1, .int p0), (2, .int p1)] := hl
  obtain ⟨hk_th, hp⟩ := hp
  refine lv_iload_n (pc := 0) hx hb dX5_spread_0 rfl (lv_at hl 1 rfl) ?_
  refine lv_iload_n (pc := 1) hx hb dX5_spread_1 rfl (lv_at hl 2 rfl) ?_
  refine sx_S (pc := 2) (As := [.int p0, .int p1]) (rest := []) B hH hl.1 (C_X4_rank G l p0 p1 _ _ hp) mi_X4_rank w_888 w_1224 rfl rfl ⟨Nat.le_of_ble_eq_true rfl, Nat.le_of_ble_eq_true rfl⟩ (Nat.le_of_ble_eq_true rfl) ⟨Nat.le_of_ble_eq_true rfl, Nat.le_of_ble_eq_true rfl⟩ dX5_spread_2 (fun v S1 H locs hq hH => ?_)
  obtain ⟨r_1, rfl, e9, hp⟩ := hq
  rw [e9] at hH
  refine W.eq (g2 := F0 m 5 ls [.int r_1]) rfl ?_
  refine lv_bipush (pc := 5) (v := 12) hx hb dX5_spread_5 (by decide) ?_
  refine lv_imul (pc := 7) hx hb dX5_spread_7 ?_
  refine lv_topi (fun v_2 ev_2 => ?_)
  have hp := hp v_2 ev_2
  refine lv_istore_n (pc := 8) (lv' := [(3, .int v_2), (0, .ref th), (1, .int p0), (2, .int p1)]) hx hb dX5_spread_8 rfl hl (by decide) rfl (fun ls hl => ?_)
  refine lv_iconst (pc := 9) (v := 0) hx hb dX5_spread_9 (by decide) ?_
  refine lv_istore (pc := 10) (lv' := [(4, .int 0), (3, .int v_2), (0, .ref th), (1, .int p0), (2, .int p1)]) hx hb dX5_spread_10 hl (by decide) rfl (fun ls hl => ?_)
  obtain ⟨I_3, ⟨k0_3, h0_3⟩, hst_3⟩ := hp
  have kl_3 : ∀ (n_3 : Nat) (x4_4 : Int32) (F_5 : Nat → Nat → Int32) (H : Heap) (locs : List Loc) (ls : Array Slot), I_3 n_3 x4_4 F_5 → Hp G (FA S s.heap.size) s.heap (wI S F_5) H locs → lv_has ls 6 [(0, .ref th), (1, .int p0), (2, .int p1), (3, .int v_2), (4, .int x4_4)] → Wm G p l e { frames := 1, cells := 0, slots := 0, locals := 26 } s m args below meth c S QQ 0 0 H locs 0 0 (F0 m 12 ls []) := by
    intro n_3
    induction n_3 using Nat.strongRecOn with
    | ind n_3 ih_3 =>
      intro x4_4 F_5 H locs ls hq9 hH hl
      have hp := hst_3 n_3 x4_4 F_5 hq9
      refine lv_iload (pc := 12) hx hb dX5_spread_12 (lv_at hl 4 rfl) ?_
      refine lv_aload_n (pc := 14) hx hb dX5_spread_14 rfl (lv_at hl 0 rfl) ?_
      refine sx_getI (pc := 15) (j := 5) B hH hk_th coX5 rfl w_403 rfl dX5_spread_15 ?_
      refine W.eq (g2 := F0 m 18 ls [.int (F_5 th 5), .int x4_4]) rfl ?_
      refine lv_icmp_ge (pc := 18) (tgt := 89) hx hb dX5_spread_18 (by decide) (fun cc_6 => ?_) (fun cc_6 => ?_)
      · have hp := hp.1 cc_6
        exact sx_vret (pc := 89) B hH hr hlk (by rw [← hQQ]; exact ⟨F_5, rfl, rfl, hp⟩) (Nat.le_of_ble_eq_true rfl) (Nat.le_of_ble_eq_true rfl) dX5_spread_89
      · have hp := hp.2 cc_6
        refine lv_iload_n (pc := 21) hx hb dX5_spread_21 rfl (lv_at hl 1 rfl) ?_
        refine lv_aload_n (pc := 22) hx hb dX5_spread_22 rfl (lv_at hl 0 rfl) ?_
        refine sx_getR (pc := 23) (j := 3) B hH hk_th coX5 rfl w_401 rfl dX5_spread_23 ?_
        refine W.eq (g2 := F0 m 26 ls [va_rf (gR S th 3), .int p0]) rfl ?_
        obtain ⟨a_7, ha_7, hp⟩ := hp
        refine sx_nonnull (x := a_7) ha_7 ?_
        refine lv_iload (pc := 26) hx hb dX5_spread_26 (lv_at hl 4 rfl) ?_
        obtain ⟨hk_8, hp⟩ := hp
        obtain ⟨hn_9, hp⟩ := hp
        refine sx_iald (pc := 28) B hH hk_8 hn_9 dX5_spread_28 ?_
        refine W.eq (g2 := F0 m 29 ls [.int (F_5 a_7 x4_4.toNatClampNeg), .int p0]) rfl ?_
        refine lv_iload_n (pc := 29) hx hb dX5_spread_29 rfl (lv_at hl 2 rfl) ?_
        refine sx_S (pc := 30) (As := [.int p0, .int (F_5 a_7 x4_4.toNatClampNeg), .int p1]) (rest := []) B hH hl.1 (C_X4_rankMultiplied G l p0 (F_5 a_7 x4_4.toNatClampNeg) p1 _ _ hp) mi_X4_rankMultiplied w_896 w_1225 rfl rfl ⟨Nat.le_of_ble_eq_true rfl, Nat.le_of_ble_eq_true rfl⟩ (Nat.le_of_ble_eq_true rfl) ⟨Nat.le_of_ble_eq_true rfl, Nat.le_of_ble_eq_true rfl⟩ dX5_spread_30 (fun v S1 H locs hq hH => ?_)
        obtain ⟨r_10, rfl, e9, hp⟩ := hq
        rw [e9] at hH
        refine W.eq (g2 := F0 m 33 ls [.int r_10]) rfl ?_
        refine lv_istore (pc := 33) (lv' := [(5, .int r_10), (0, .ref th), (1, .int p0), (2, .int p1), (3, .int v_2), (4, .int x4_4)]) hx hb dX5_spread_33 hl (by decide) rfl (fun ls hl => ?_)
        refine lv_iload (pc := 35) hx hb dX5_spread_35 (lv_at hl 0 rfl) ?_
        refine lv_aload_n (pc := 37) hx hb dX5_spread_37 rfl (lv_at hl 1 rfl) ?_
        refine sx_getR (pc := 38) (j := 2) B hH hk_th coX5 rfl w_400 rfl dX5_spread_38 ?_
        refine W.eq (g2 := F0 m 41 ls [va_rf (gR S th 2), .int r_10]) rfl ?_
        obtain ⟨a_11, ha_11, hp⟩ := hp
        refine sx_nonnull (x := a_11) ha_11 ?_
        obtain ⟨hk_12, hp⟩ := hp
        refine sx_alen (pc := 41) B hH hk_12 (by decide) (by decide) dX5_spread_41 ?_
        refine W.eq (g2 := F0 m 42 ls [.int (nI (ln S a_11)), .int r_10]) rfl ?_
        refine lv_icmp_ge (pc := 42) (tgt := 83) hx hb dX5_spread_42 (by decide) (fun cc_13 => ?_) (fun cc_13 => ?_)
        · have hp := hp.1 cc_13
          obtain ⟨v_14, ev_14⟩ : ∃ y : Int32, y = x4_4 + 1 := ⟨_, rfl⟩
          have hp := hp v_14 ev_14
          refine lv_iinc (pc := 83) (v := v_14) (lv' := [(4, .int v_14), (5, .int r_10), (0, .ref th), (1, .int p0), (2, .int p1), (3, .int v_2)]) hx hb dX5_spread_83 hl (k := 5) rfl (by rw [ev_14]; rfl) (by decide) rfl (fun ls hl => ?_)
          refine lv_goto (pc := 86) (tgt := 12) hx hb dX5_spread_86 (by decide) ?_
          obtain ⟨k9, hlt9, hp⟩ := hp
          exact ih_3 k9 hlt9 _ _ _ _ _ hp hH (lv_sub hl [2, 3, 4, 5, 0] rfl)
        · have hp := hp.2 cc_13
          refine lv_aload_n (pc := 45) hx hb dX5_spread_45 rfl (lv_at hl 1 rfl) ?_
          refine sx_getR (pc := 46) (j := 2) B hH hk_th coX5 rfl w_400 rfl dX5_spread_46 ?_
          refine W.eq (g2 := F0 m 49 ls [va_rf (gR S th 2)]) rfl ?_
          refine sx_nonnull (x := a_11) ha_11 ?_
          refine lv_iload (pc := 49) hx hb dX5_spread_49 (lv_at hl 0 rfl) ?_
          obtain ⟨hn_15, hp⟩ := hp
          refine sx_iald (pc := 51) B hH hk_12 hn_15 dX5_spread_51 ?_
          refine W.eq (g2 := F0 m 52 ls [.int (F_5 a_11 r_10.toNatClampNeg)]) rfl ?_
          refine lv_if_ne (pc := 52) (tgt := 83) hx hb dX5_spread_52 (by decide) (fun cc_16 => ?_) (fun cc_16 => ?_)
          · have hp := hp.1 cc_16
            obtain ⟨v_17, ev_17⟩ : ∃ y : Int32, y = x4_4 + 1 := ⟨_, rfl⟩
            have hp := hp v_17 ev_17
            refine lv_iinc (pc := 83) (v := v_17) (lv' := [(4, .int v_17), (5, .int r_10), (0, .ref th), (1, .int p0), (2, .int p1), (3, .int v_2)]) hx hb dX5_spread_83 hl (k := 5) rfl (by rw [ev_17]; rfl) (by decide) rfl (fun ls hl => ?_)
            refine lv_goto (pc := 86) (tgt := 12) hx hb dX5_spread_86 (by decide) ?_
            obtain ⟨k9, hlt9, hp⟩ := hp
            exact ih_3 k9 hlt9 _ _ _ _ _ hp hH (lv_sub hl [2, 3, 4, 5, 0] rfl)
          · have hp := hp.2 cc_16
            refine lv_aload_n (pc := 55) hx hb dX5_spread_55 rfl (lv_at hl 1 rfl) ?_
            refine lv_iload_n (pc := 56) hx hb dX5_spread_56 rfl (lv_at hl 2 rfl) ?_
            refine lv_aload_n (pc := 57) hx hb dX5_spread_57 rfl (lv_at hl 1 rfl) ?_
            refine sx_getR (pc := 58) (j := 3) B hH hk_th coX5 rfl w_401 rfl dX5_spread_58 ?_
            refine W.eq (g2 := F0 m 61 ls [va_rf (gR S th 3), .int p0, .ref th]) rfl ?_
            refine sx_nonnull (x := a_7) ha_7 ?_
            refine lv_iload (pc := 61) hx hb dX5_spread_61 (lv_at hl 5 rfl) ?_
            refine sx_iald (pc := 63) B hH hk_8 hn_9 dX5_spread_63 ?_
            refine W.eq (g2 := F0 m 64 ls [.int (F_5 a_7 x4_4.toNatClampNeg), .int p0, .ref th]) rfl ?_
            refine lv_iload_n (pc := 64) hx hb dX5_spread_64 rfl (lv_at hl 3 rfl) ?_
            refine sx_S (pc := 65) (As := [.int p0, .int (F_5 a_7 x4_4.toNatClampNeg), .int p1]) (rest := [.ref th]) B hH hl.1 (C_X4_multiply G l p0 (F_5 a_7 x4_4.toNatClampNeg) p1 _ _ hp) mi_X4_multiply w_914 w_1226 rfl rfl ⟨Nat.le_of_ble_eq_true rfl, Nat.le_of_ble_eq_true rfl⟩ (Nat.le_of_ble_eq_true rfl) ⟨Nat.le_of_ble_eq_true rfl, Nat.le_of_ble_eq_true rfl⟩ dX5_spread_65 (fun v S1 H locs hq hH => ?_)
            obtain ⟨r_18, rfl, e9, hp⟩ := hq
            rw [e9] at hH
            refine W.eq (g2 := F0 m 68 ls [.int r_18, .ref th]) rfl ?_
            refine lv_iload (pc := 68) hx hb dX5_spread_68 (lv_at hl 0 rfl) ?_
            refine lv_aload_n (pc := 70) hx hb dX5_spread_70 rfl (lv_at hl 1 rfl) ?_
            refine sx_getR (pc := 71) (j := 4) B hH hk_th coX5 rfl w_402 rfl dX5_spread_71 ?_
            refine W.eq (g2 := F0 m 74 ls [va_rf (gR S th 4), .int r_10, .int r_18, .ref th]) rfl ?_
            obtain ⟨a_19, ha_19, hp⟩ := hp
            refine sx_nonnull (x := a_19) ha_19 ?_
            refine lv_iload (pc := 74) hx hb dX5_spread_74 (lv_at hl 5 rfl) ?_
            obtain ⟨hk_20, hp⟩ := hp
            obtain ⟨hn_21, hp⟩ := hp
            refine sx_iald (pc := 76) B hH hk_20 hn_21 dX5_spread_76 ?_
            refine W.eq (g2 := F0 m 77 ls [.int (F_5 a_19 x4_4.toNatClampNeg), .int r_10, .int r_18, .ref th]) rfl ?_
            refine lv_iconst (pc := 77) (v := 1) hx hb dX5_spread_77 (by decide) ?_
            refine lv_iadd (pc := 78) hx hb dX5_spread_78 ?_
            refine lv_iload_n (pc := 79) hx hb dX5_spread_79 rfl (lv_at hl 4 rfl) ?_
            refine sx_V (pc := 80) (As := [.int r_18, .int r_10, .int ((F_5 a_19 x4_4.toNatClampNeg) + 1), .int v_2]) (rest := []) B hH hl.1 (C_X5_keepFound G l th r_18 r_10 ((F_5 a_19 x4_4.toNatClampNeg) + 1) v_2 _ _ hp) mi_X5_keepFound coX5 hk_th w_1218 w_38 w_1216 rfl rfl ⟨Nat.le_of_ble_eq_true rfl, Nat.le_of_ble_eq_true rfl⟩ (Nat.le_of_ble_eq_true rfl) ⟨Nat.le_of_ble_eq_true rfl, Nat.le_of_ble_eq_true rfl⟩ dX5_spread_80 (fun v S1 H locs hq hH => ?_)
            obtain ⟨F_22, rfl, e9, hp⟩ := hq
            rw [e9] at hH
            have hH : Hp G (FA S s.heap.size) s.heap (wI S F_22) H locs := hH
            refine W.eq (g2 := F0 m 83 ls []) rfl ?_
            obtain ⟨v_23, ev_23⟩ : ∃ y : Int32, y = x4_4 + 1 := ⟨_, rfl⟩
            have hp := hp v_23 ev_23
            refine lv_iinc (pc := 83) (v := v_23) (lv' := [(4, .int v_23), (5, .int r_10), (0, .ref th), (1, .int p0), (2, .int p1), (3, .int v_2)]) hx hb dX5_spread_83 hl (k := 5) rfl (by rw [ev_23]; rfl) (by decide) rfl (fun ls hl => ?_)
            refine lv_goto (pc := 86) (tgt := 12) hx hb dX5_spread_86 (by decide) ?_
            obtain ⟨k9, hlt9, hp⟩ := hp
            exact ih_3 k9 hlt9 _ _ _ _ _ hp hH (lv_sub hl [2, 3, 4, 5, 0] rfl)
  exact kl_3 k0_3 _ _ _ _ _ h0_3 hH (lv_sub hl [2, 3, 4, 1, 0] rfl)
theorem dX5_over_0 : decode cX5_over 0 = .ok (.aload_n 0, 1) := by decide +kernel
theorem dX5_over_1 : decode cX5_over 1 = .ok (.getfield 9, 3) := by decide +kernel
theorem dX5_over_4 : decode cX5_over 4 = .ok (.aload_n 1, 1) := by decide +kernel
theorem dX5_over_5 : decode cX5_over 5 = .ok (.if_acmp .ne 4, 3) := by decide +kernel
theorem dX5_over_8 : decode cX5_over 8 = .ok (.return_, 1) := by decide +kernel
theorem dX5_over_9 : decode cX5_over 9 = .ok (.aload_n 0, 1) := by decide +kernel
theorem dX5_over_10 : decode cX5_over 10 = .ok (.aload_n 1, 1) := by decide +kernel
theorem dX5_over_11 : decode cX5_over 11 = .ok (.putfield 9, 3) := by decide +kernel
theorem dX5_over_14 : decode cX5_over 14 = .ok (.aload_n 0, 1) := by decide +kernel
theorem dX5_over_15 : decode cX5_over 15 = .ok (.getfield 15, 3) := by decide +kernel
theorem dX5_over_18 : decode cX5_over 18 = .ok (.arraylength, 1) := by decide +kernel
theorem dX5_over_19 : decode cX5_over 19 = .ok (.aload_n 1, 1) := by decide +kernel
theorem dX5_over_20 : decode cX5_over 20 = .ok (.getfield 41, 3) := by decide +kernel
theorem dX5_over_23 : decode cX5_over 23 = .ok (.if_icmp .ge 26, 3) := by decide +kernel
theorem dX5_over_26 : decode cX5_over 26 = .ok (.aload_n 0, 1) := by decide +kernel
theorem dX5_over_27 : decode cX5_over 27 = .ok (.aload_n 1, 1) := by decide +kernel
theorem dX5_over_28 : decode cX5_over 28 = .ok (.getfield 41, 3) := by decide +kernel
theorem dX5_over_31 : decode cX5_over 31 = .ok (.newarray .int, 2) := by decide +kernel
theorem dX5_over_33 : decode cX5_over 33 = .ok (.putfield 15, 3) := by decide +kernel
theorem dX5_over_36 : decode cX5_over 36 = .ok (.aload_n 0, 1) := by decide +kernel
theorem dX5_over_37 : decode cX5_over 37 = .ok (.aload_n 1, 1) := by decide +kernel
theorem dX5_over_38 : decode cX5_over 38 = .ok (.getfield 41, 3) := by decide +kernel
theorem dX5_over_41 : decode cX5_over 41 = .ok (.newarray .int, 2) := by decide +kernel
theorem dX5_over_43 : decode cX5_over 43 = .ok (.putfield 19, 3) := by decide +kernel
theorem dX5_over_46 : decode cX5_over 46 = .ok (.goto 11, 3) := by decide +kernel
theorem dX5_over_49 : decode cX5_over 49 = .ok (.aload_n 0, 1) := by decide +kernel
theorem dX5_over_50 : decode cX5_over 50 = .ok (.getfield 19, 3) := by decide +kernel
theorem dX5_over_53 : decode cX5_over 53 = .ok (.iconst 0, 1) := by decide +kernel
theorem dX5_over_54 : decode cX5_over 54 = .ok (.invokestatic 46, 3) := by decide +kernel
theorem dX5_over_57 : decode cX5_over 57 = .ok (.aload_n 0, 1) := by decide +kernel
theorem dX5_over_58 : decode cX5_over 58 = .ok (.aload_n 1, 1) := by decide +kernel
theorem dX5_over_59 : decode cX5_over 59 = .ok (.invokevirtual 52, 3) := by decide +kernel
theorem dX5_over_62 : decode cX5_over 62 = .ok (.aload_n 0, 1) := by decide +kernel
theorem dX5_over_63 : decode cX5_over 63 = .ok (.aload_n 1, 1) := by decide +kernel
theorem dX5_over_64 : decode cX5_over 64 = .ok (.getfield 56, 3) := by decide +kernel
theorem dX5_over_67 : decode cX5_over 67 = .ok (.invokestatic 59, 3) := by decide +kernel
theorem dX5_over_70 : decode cX5_over 70 = .ok (.iconst 0, 1) := by decide +kernel
theorem dX5_over_71 : decode cX5_over 71 = .ok (.iconst 1, 1) := by decide +kernel
theorem dX5_over_72 : decode cX5_over 72 = .ok (.iconst 0, 1) := by decide +kernel
theorem dX5_over_73 : decode cX5_over 73 = .ok (.invokevirtual 65, 3) := by decide +kernel
theorem dX5_over_76 : decode cX5_over 76 = .ok (.iconst 0, 1) := by decide +kernel
theorem dX5_over_77 : decode cX5_over 77 = .ok (.istore_n 2, 1) := by decide +kernel
theorem dX5_over_78 : decode cX5_over 78 = .ok (.iload_n 2, 1) := by decide +kernel
theorem dX5_over_79 : decode cX5_over 79 = .ok (.aload_n 0, 1) := by decide +kernel
theorem dX5_over_80 : decode cX5_over 80 = .ok (.getfield 32, 3) := by decide +kernel
theorem dX5_over_83 : decode cX5_over 83 = .ok (.if_icmp .ge 32, 3) := by decide +kernel
theorem dX5_over_86 : decode cX5_over 86 = .ok (.iload_n 2, 1) := by decide +kernel
theorem dX5_over_87 : decode cX5_over 87 = .ok (.aload_n 0, 1) := by decide +kernel
theorem dX5_over_88 : decode cX5_over 88 = .ok (.getfield 15, 3) := by decide +kernel
theorem dX5_over_91 : decode cX5_over 91 = .ok (.arraylength, 1) := by decide +kernel
theorem dX5_over_92 : decode cX5_over 92 = .ok (.if_icmp .ge 23, 3) := by decide +kernel
theorem dX5_over_95 : decode cX5_over 95 = .ok (.aload_n 0, 1) := by decide +kernel
theorem dX5_over_96 : decode cX5_over 96 = .ok (.aload_n 0, 1) := by decide +kernel
theorem dX5_over_97 : decode cX5_over 97 = .ok (.getfield 15, 3) := by decide +kernel
theorem dX5_over_100 : decode cX5_over 100 = .ok (.iload_n 2, 1) := by decide +kernel
theorem dX5_over_101 : decode cX5_over 101 = .ok (.iaload, 1) := by decide +kernel
theorem dX5_over_102 : decode cX5_over 102 = .ok (.aload_n 1, 1) := by decide +kernel
theorem dX5_over_103 : decode cX5_over 103 = .ok (.getfield 56, 3) := by decide +kernel
theorem dX5_over_106 : decode cX5_over 106 = .ok (.invokevirtual 69, 3) := by decide +kernel
theorem dX5_over_109 : decode cX5_over 109 = .ok (.iinc 2 1, 3) := by decide +kernel
theorem dX5_over_112 : decode cX5_over 112 = .ok (.goto (-34), 3) := by decide +kernel
theorem dX5_over_115 : decode cX5_over 115 = .ok (.return_, 1) := by decide +kernel
theorem mi_X5_over : MI yX5_over cX5_over 3 (none : Option Jvm.ClassFile.FieldType) 1 := ⟨w_1203, w_116, by decide +kernel, by decide +kernel, by decide +kernel⟩
set_option maxRecDepth 100000 in
set_option maxHeartbeats 4000000 in
theorem C_X5_over (G : GG) (l : Launch) (th : Nat) (p0 : Nat) (S : St) (bc bs : Nat) (Q : St → Prop) (hp : P_X5_over th p0 S bc bs Q) : Ctr G l yX5_over cX5_over 3 (none : Option Jvm.ClassFile.FieldType) 2 51 bc bs [.ref th, .ref p0] S (fun (v : Option Value) (S9 : St) => v = none ∧ Q S9) := by
  generalize hQQ : (fun (v : Option Value) (S9 : St) => v = none ∧ Q S9) = QQ
  unfold P_X5_over at hp
  refine Ctr.of (by decide) (Nat.le_of_ble_eq_true rfl) ?_
  intro p e s m args below meth c ls B hr hlk hin hl hH
  generalize hlocs0 : ([] : List Loc) = locs at hH ⊢
  have hx := B.1
  have hb := B.2.1
  have hl : lv_has ls 3 [(0, .ref th), (1, .ref p0)] := hl
  obtain ⟨hk_th, hp⟩ := hp
  refine lv_aload_n (pc := 0) hx hb dX5_over_0 rfl (lv_at hl 0 rfl) ?_
  refine sx_getR (pc := 1) (j := 0) B hH hk_th coX5 rfl w_398 rfl dX5_over_1 ?_
  refine W.eq (g2 := F0 m 4 ls [va_rf (gR S th 0)]) rfl ?_
  refine lv_aload_n (pc := 4) hx hb dX5_over_4 rfl (lv_at hl 1 rfl) ?_
  refine lv_acmp_ne (pc := 5) (rx := gR S th 0) (ry := (some p0)) (tgt := 9) hx hb dX5_over_5 (by decide) (fun cc_1 => ?_) (fun cc_1 => ?_)
  · have hp := hp.1 cc_1
    refine lv_aload_n (pc := 9) hx hb dX5_over_9 rfl (lv_at hl 0 rfl) ?_
    refine lv_aload_n (pc := 10) hx hb dX5_over_10 rfl (lv_at hl 1 rfl) ?_
    obtain ⟨R_2, eR_2⟩ : ∃ z : Nat → Nat → Option Nat, z = upR (gR S) th 0 (some p0) := ⟨_, rfl⟩
    have hp := hp R_2 eR_2
    refine sx_putR (pc := 11) (j := 0) (x := (some p0)) B hH hk_th coX5 rfl w_398 rfl (Or.inl rfl) rfl dX5_over_11 (fun H locs hH => ?_)
    have hH : Hp G (FA S s.heap.size) s.heap (wA S (gI S) (gJ S) R_2) H locs := by rw [eR_2]; exact hH
    refine lv_aload_n (pc := 14) hx hb dX5_over_14 rfl (lv_at hl 0 rfl) ?_
    refine sx_getR (pc := 15) (j := 1) B hH hk_th coX5 rfl w_399 rfl dX5_over_15 ?_
    refine W.eq (g2 := F0 m 18 ls [va_rf (R_2 th 1)]) rfl ?_
    obtain ⟨a_3, ha_3, hp⟩ := hp
    refine sx_nonnull (x := a_3) ha_3 ?_
    obtain ⟨hk_4, hp⟩ := hp
    refine sx_alen (pc := 18) B hH hk_4 (by decide) (by decide) dX5_over_18 ?_
    refine W.eq (g2 := F0 m 19 ls [.int (nI (ln S a_3))]) rfl ?_
    refine lv_aload_n (pc := 19) hx hb dX5_over_19 rfl (lv_at hl 1 rfl) ?_
    obtain ⟨hk_5, hp⟩ := hp
    refine sx_getI (pc := 20) (j := 1) B hH hk_5 coX0 rfl w_359 rfl dX5_over_20 ?_
    refine W.eq (g2 := F0 m 23 ls [.int (gI S p0 1), .int (nI (ln S a_3))]) rfl ?_
    obtain ⟨J_7, hj_7, hp⟩ := hp
    have kj_7 : ∀ (S_8 : St) (b_9 : Nat) (d_9 : Nat) (H : Heap) (locs : List Loc) (ls : Array Slot) (cells slots : Nat), J_7 S_8 b_9 d_9 → cells + b_9 ≤ bc → slots + d_9 ≤ bs → Hp G (FA S s.heap.size) s.heap S_8 H locs → lv_has ls 3 [(0, .ref th), (1, .ref p0)] → Wm G p l e { frames := 2, cells := bc, slots := bs, locals := 51 } s m args below meth c S QQ bc bs H locs cells slots (F0 m 57 ls []) := by
      intro S_8 b_9 d_9 H locs ls cells slots hq9 hcc_7 hss_7 hH hl
      have hp := hj_7 S_8 b_9 d_9 hq9
      refine lv_aload_n (pc := 57) hx hb dX5_over_57 rfl (lv_at hl 0 rfl) ?_
      refine lv_aload_n (pc := 58) hx hb dX5_over_58 rfl (lv_at hl 1 rfl) ?_
      obtain ⟨hk_10, hp⟩ := hp
      refine sx_V (pc := 59) (As := [.ref p0]) (rest := []) B hH hl.1 (C_X5_gatherHeads G l th p0 _ _ hp) mi_X5_gatherHeads coX5 hk_10 w_1209 w_36 w_1207 rfl rfl ⟨Nat.le_of_ble_eq_true rfl, Nat.le_of_ble_eq_true rfl⟩ (Nat.le_of_ble_eq_true rfl) ⟨(show _ + 0 ≤ bc by omega), (show _ + 0 ≤ bs by omega)⟩ dX5_over_59 (fun v S1 H locs hq hH => ?_)
      obtain ⟨F_11, rfl, e9, hp⟩ := hq
      rw [e9] at hH
      have hH : Hp G (FA S s.heap.size) s.heap (wI S_8 F_11) H locs := hH
      refine W.eq (g2 := F0 m 62 ls []) rfl ?_
      refine lv_aload_n (pc := 62) hx hb dX5_over_62 rfl (lv_at hl 0 rfl) ?_
      refine lv_aload_n (pc := 63) hx hb dX5_over_63 rfl (lv_at hl 1 rfl) ?_
      obtain ⟨hk_12, hp⟩ := hp
      refine sx_getI (pc := 64) (j := 0) B hH hk_12 coX0 rfl w_354 rfl dX5_over_64 ?_
      refine W.eq (g2 := F0 m 67 ls [.int (F_11 p0 0), .ref th]) rfl ?_
      refine sx_S (pc := 67) (As := [.int (F_11 p0 0)]) (rest := [.ref th]) B hH hl.1 (C_X4_roundsOf G l (F_11 p0 0) _ _ hp) mi_X4_roundsOf w_706 w_1211 rfl rfl ⟨Nat.le_of_ble_eq_true rfl, Nat.le_of_ble_eq_true rfl⟩ (Nat.le_of_ble_eq_true rfl) ⟨(show _ + 0 ≤ bc by omega), (show _ + 0 ≤ bs by omega)⟩ dX5_over_67 (fun v S1 H locs hq hH => ?_)
      obtain ⟨r_13, rfl, e9, hp⟩ := hq
      rw [e9] at hH
      refine W.eq (g2 := F0 m 70 ls [.int r_13, .ref th]) rfl ?_
      refine lv_iconst (pc := 70) (v := 0) hx hb dX5_over_70 (by decide) ?_
      refine lv_iconst (pc := 71) (v := 1) hx hb dX5_over_71 (by decide) ?_
      refine lv_iconst (pc := 72) (v := 0) hx hb dX5_over_72 (by decide) ?_
      refine sx_V (pc := 73) (As := [.int r_13, .int 0, .int 1, .int 0]) (rest := []) B hH hl.1 (C_X5_keepFound G l th r_13 0 1 0 _ _ hp) mi_X5_keepFound coX5 hk_10 w_1218 w_38 w_1216 rfl rfl ⟨Nat.le_of_ble_eq_true rfl, Nat.le_of_ble_eq_true rfl⟩ (Nat.le_of_ble_eq_true rfl) ⟨(show _ + 0 ≤ bc by omega), (show _ + 0 ≤ bs by omega)⟩ dX5_over_73 (fun v S1 H locs hq hH => ?_)
      obtain ⟨F_14, rfl, e9, hp⟩ := hq
      rw [e9] at hH
      have hH : Hp G (FA S s.heap.size) s.heap (wI S_8 F_14) H locs := hH
      refine W.eq (g2 := F0 m 76 ls []) rfl ?_
      refine lv_iconst (pc := 76) (v := 0) hx hb dX5_over_76 (by decide) ?_
      refine lv_istore_n (pc := 77) (lv' := [(2, .int 0), (0, .ref th), (1, .ref p0)]) hx hb dX5_over_77 rfl hl (by decide) rfl (fun ls hl => ?_)
      obtain ⟨I_15, ⟨k0_15, h0_15⟩, hst_15⟩ := hp
      have kl_15 : ∀ (n_15 : Nat) (x2_16 : Int32) (F_17 : Nat → Nat → Int32) (H : Heap) (locs : List Loc) (ls : Array Slot) (cells slots : Nat), I_15 n_15 x2_16 F_17 → cells + b_9 ≤ bc → slots + d_9 ≤ bs → Hp G (FA S s.heap.size) s.heap (wI S_8 F_17) H locs → lv_has ls 3 [(0, .ref th), (1, .ref p0), (2, .int x2_16)] → Wm G p l e { frames := 2, cells := bc, slots := bs, locals := 51 } s m args below meth c S QQ bc bs H locs cells slots (F0 m 78 ls []) := by
        intro n_15
        induction n_15 using Nat.strongRecOn with
        | ind n_15 ih_15 =>
          intro x2_16 F_17 H locs ls cells slots hq9 hcc_15 hss_15 hH hl
          have hp := hst_15 n_15 x2_16 F_17 hq9
          refine lv_iload_n (pc := 78) hx hb dX5_over_78 rfl (lv_at hl 2 rfl) ?_
          refine lv_aload_n (pc := 79) hx hb dX5_over_79 rfl (lv_at hl 0 rfl) ?_
          refine sx_getI (pc := 80) (j := 6) B hH hk_10 coX5 rfl w_404 rfl dX5_over_80 ?_
          refine W.eq (g2 := F0 m 83 ls [.int (F_17 th 6), .int x2_16]) rfl ?_
          refine lv_icmp_ge (pc := 83) (tgt := 115) hx hb dX5_over_83 (by decide) (fun cc_18 => ?_) (fun cc_18 => ?_)
          · have hp := hp.1 cc_18
            exact sx_vret (pc := 115) B hH hr hlk (by rw [← hQQ]; exact ⟨rfl, hp⟩) (show _ ≤ bc by omega) (show _ ≤ bs by omega) dX5_over_115
          · have hp := hp.2 cc_18
            refine lv_iload_n (pc := 86) hx hb dX5_over_86 rfl (lv_at hl 2 rfl) ?_
            refine lv_aload_n (pc := 87) hx hb dX5_over_87 rfl (lv_at hl 0 rfl) ?_
            refine sx_getR (pc := 88) (j := 1) B hH hk_10 coX5 rfl w_399 rfl dX5_over_88 ?_
            refine W.eq (g2 := F0 m 91 ls [va_rf (gR S_8 th 1), .int x2_16]) rfl ?_
            obtain ⟨a_19, ha_19, hp⟩ := hp
            refine sx_nonnull (x := a_19) ha_19 ?_
            obtain ⟨hk_20, hp⟩ := hp
            refine sx_alen (pc := 91) B hH hk_20 (by decide) (by decide) dX5_over_91 ?_
            refine W.eq (g2 := F0 m 92 ls [.int (nI (ln S_8 a_19)), .int x2_16]) rfl ?_
            refine lv_icmp_ge (pc := 92) (tgt := 115) hx hb dX5_over_92 (by decide) (fun cc_21 => ?_) (fun cc_21 => ?_)
            · have hp := hp.1 cc_21
              exact sx_vret (pc := 115) B hH hr hlk (by rw [← hQQ]; exact ⟨rfl, hp⟩) (show _ ≤ bc by omega) (show _ ≤ bs by omega) dX5_over_115
            · have hp := hp.2 cc_21
              refine lv_aload_n (pc := 95) hx hb dX5_over_95 rfl (lv_at hl 0 rfl) ?_
              refine lv_aload_n (pc := 96) hx hb dX5_over_96 rfl (lv_at hl 0 rfl) ?_
              refine sx_getR (pc := 97) (j := 1) B hH hk_10 coX5 rfl w_399 rfl dX5_over_97 ?_
              refine W.eq (g2 := F0 m 100 ls [va_rf (gR S_8 th 1), .ref th]) rfl ?_
              refine sx_nonnull (x := a_19) ha_19 ?_
              refine lv_iload_n (pc := 100) hx hb dX5_over_100 rfl (lv_at hl 2 rfl) ?_
              obtain ⟨hn_22, hp⟩ := hp
              refine sx_iald (pc := 101) B hH hk_20 hn_22 dX5_over_101 ?_
              refine W.eq (g2 := F0 m 102 ls [.int (F_17 a_19 x2_16.toNatClampNeg), .ref th]) rfl ?_
              refine lv_aload_n (pc := 102) hx hb dX5_over_102 rfl (lv_at hl 1 rfl) ?_
              refine sx_getI (pc := 103) (j := 0) B hH hk_12 coX0 rfl w_354 rfl dX5_over_103 ?_
              refine W.eq (g2 := F0 m 106 ls [.int (F_17 p0 0), .int (F_17 a_19 x2_16.toNatClampNeg), .ref th]) rfl ?_
              refine sx_V (pc := 106) (As := [.int (F_17 a_19 x2_16.toNatClampNeg), .int (F_17 p0 0)]) (rest := []) B hH hl.1 (C_X5_spread G l th (F_17 a_19 x2_16.toNatClampNeg) (F_17 p0 0) _ _ hp) mi_X5_spread coX5 hk_10 w_1222 w_39 w_1220 rfl rfl ⟨Nat.le_of_ble_eq_true rfl, Nat.le_of_ble_eq_true rfl⟩ (Nat.le_of_ble_eq_true rfl) ⟨(show _ + 0 ≤ bc by omega), (show _ + 0 ≤ bs by omega)⟩ dX5_over_106 (fun v S1 H locs hq hH => ?_)
              obtain ⟨F_23, rfl, e9, hp⟩ := hq
              rw [e9] at hH
              have hH : Hp G (FA S s.heap.size) s.heap (wI S_8 F_23) H locs := hH
              refine W.eq (g2 := F0 m 109 ls []) rfl ?_
              obtain ⟨v_24, ev_24⟩ : ∃ y : Int32, y = x2_16 + 1 := ⟨_, rfl⟩
              have hp := hp v_24 ev_24
              refine lv_iinc (pc := 109) (v := v_24) (lv' := [(2, .int v_24), (0, .ref th), (1, .ref p0)]) hx hb dX5_over_109 hl (k := 2) rfl (by rw [ev_24]; rfl) (by decide) rfl (fun ls hl => ?_)
              refine lv_goto (pc := 112) (tgt := 78) hx hb dX5_over_112 (by decide) ?_
              obtain ⟨k9, hlt9, hp⟩ := hp
              exact ih_15 k9 hlt9 _ _ _ _ _ _ _ hp (show _ + b_9 ≤ bc by omega) (show _ + d_9 ≤ bs by omega) hH (lv_sub hl [1, 2, 0] rfl)
      exact kl_15 k0_15 _ _ _ _ _ _ _ h0_15 (show _ + b_9 ≤ bc by omega) (show _ + d_9 ≤ bs by omega) hH (lv_sub hl [1, 2, 0] rfl)
    refine lv_icmp_ge (pc := 23) (tgt := 49) hx hb dX5_over_23 (by decide) (fun cc_6 => ?_) (fun cc_6 => ?_)
    · have hp := hp.1 cc_6
      refine lv_aload_n (pc := 49) hx hb dX5_over_49 rfl (lv_at hl 0 rfl) ?_
      refine sx_getR (pc := 50) (j := 2) B hH hk_th coX5 rfl w_400 rfl dX5_over_50 ?_
      refine W.eq (g2 := F0 m 53 ls [va_rf (R_2 th 2)]) rfl ?_
      obtain ⟨a_25, ha_25, hp⟩ := hp
      refine sx_nonnull (x := a_25) ha_25 ?_
      refine lv_iconst (pc := 53) (v := 0) hx hb dX5_over_53 (by decide) ?_
      refine sx_S (pc := 54) (As := [.ref a_25, .int 0]) (rest := []) B hH hl.1 (C_J7_fill_53178 G l a_25 0 _ _ hp) mi_J7_fill_53178 w_1205 w_1204 rfl rfl ⟨Nat.le_of_ble_eq_true rfl, Nat.le_of_ble_eq_true rfl⟩ (Nat.le_of_ble_eq_true rfl) ⟨(show _ + 0 ≤ bc by omega), (show _ + 0 ≤ bs by omega)⟩ dX5_over_54 (fun v S1 H locs hq hH => ?_)
      obtain ⟨F_26, rfl, e9, hp⟩ := hq
      rw [e9] at hH
      have hH : Hp G (FA S s.heap.size) s.heap (wA S F_26 (gJ S) R_2) H locs := hH
      refine W.eq (g2 := F0 m 57 ls []) rfl ?_
      exact kj_7 _ _ _ _ _ _ _ _ hp (show _ + bc ≤ bc by omega) (show _ + bs ≤ bs by omega) hH (lv_sub hl [0, 1] rfl)
    · have hp := hp.2 cc_6
      refine lv_aload_n (pc := 26) hx hb dX5_over_26 rfl (lv_at hl 0 rfl) ?_
      refine lv_aload_n (pc := 27) hx hb dX5_over_27 rfl (lv_at hl 1 rfl) ?_
      refine sx_getI (pc := 28) (j := 1) B hH hk_5 coX0 rfl w_359 rfl dX5_over_28 ?_
      refine W.eq (g2 := F0 m 31 ls [.int (gI S p0 1), .ref th]) rfl ?_
      refine lv_topi (fun v_28 ev_28 => ?_)
      have hp := hp v_28 ev_28
      obtain ⟨hc_29, hp⟩ := hp
      obtain ⟨hc_30, hp⟩ := hp
      obtain ⟨hc_31, hp⟩ := hp
      obtain ⟨hc_32, hp⟩ := hp
      refine sx_newi (pc := 31) (S := (wA S (gI S) (gJ S) R_2)) B hH w_294 rfl hc_29 hc_30 (show _ + 1 ≤ bc by omega) (show _ + v_28.toNatClampNeg ≤ bs by first | omega | exact (by omega : _ + v_28.toNatClampNeg ≤ bs)) dX5_over_31 (fun q_27 H hq_27 hH => ?_)
      obtain ⟨S_27, eS_27⟩ : ∃ z : St, z = alo (wA S (gI S) (gJ S) R_2) q_27 21 v_28.toNatClampNeg := ⟨_, rfl⟩
      have hp := hp q_27 hq_27 S_27 eS_27
      have hH : Hp G (FA S s.heap.size) s.heap S_27 H locs := by rw [eS_27]; exact hH
      have hk_27 : kd S_27 q_27 = 21 := by rw [eS_27]; exact kd_alo
      refine W.eq (g2 := F0 m 33 ls [.ref q_27, .ref th]) rfl ?_
      obtain ⟨hk_33, hp⟩ := hp
      obtain ⟨R_34, eR_34⟩ : ∃ z : Nat → Nat → Option Nat, z = upR (gR S_27) th 1 (some q_27) := ⟨_, rfl⟩
      have hp := hp R_34 eR_34
      refine sx_putR (pc := 33) (j := 1) (x := (some q_27)) B hH hk_33 coX5 rfl w_399 rfl (Or.inl rfl) rfl dX5_over_33 (fun H locs hH => ?_)
      have hH : Hp G (FA S s.heap.size) s.heap (wA S_27 (gI S_27) (gJ S_27) R_34) H locs := by rw [eR_34]; exact hH
      refine lv_aload_n (pc := 36) hx hb dX5_over_36 rfl (lv_at hl 0 rfl) ?_
      refine lv_aload_n (pc := 37) hx hb dX5_over_37 rfl (lv_at hl 1 rfl) ?_
      obtain ⟨hk_35, hp⟩ := hp
      refine sx_getI (pc := 38) (j := 1) B hH hk_35 coX0 rfl w_359 rfl dX5_over_38 ?_
      refine W.eq (g2 := F0 m 41 ls [.int (gI S_27 p0 1), .ref th]) rfl ?_
      refine lv_topi (fun v_37 ev_37 => ?_)
      have hp := hp v_37 ev_37
      obtain ⟨hc_38, hp⟩ := hp
      obtain ⟨hc_39, hp⟩ := hp
      obtain ⟨hc_40, hp⟩ := hp
      obtain ⟨hc_41, hp⟩ := hp
      refine sx_newi (pc := 41) (S := (wA S_27 (gI S_27) (gJ S_27) R_34)) B hH w_294 rfl hc_38 hc_39 (show _ + 1 ≤ bc by omega) (show _ + v_37.toNatClampNeg ≤ bs by first | omega | exact (by omega : _ + v_37.toNatClampNeg ≤ bs)) dX5_over_41 (fun q_36 H hq_36 hH => ?_)
      obtain ⟨S_36, eS_36⟩ : ∃ z : St, z = alo (wA S_27 (gI S_27) (gJ S_27) R_34) q_36 21 v_37.toNatClampNeg := ⟨_, rfl⟩
      have hp := hp q_36 hq_36 S_36 eS_36
      have hH : Hp G (FA S s.heap.size) s.heap S_36 H locs := by rw [eS_36]; exact hH
      have hk_36 : kd S_36 q_36 = 21 := by rw [eS_36]; exact kd_alo
      refine W.eq (g2 := F0 m 43 ls [.ref q_36, .ref th]) rfl ?_
      obtain ⟨hk_42, hp⟩ := hp
      obtain ⟨R_43, eR_43⟩ : ∃ z : Nat → Nat → Option Nat, z = upR (gR S_36) th 2 (some q_36) := ⟨_, rfl⟩
      have hp := hp R_43 eR_43
      refine sx_putR (pc := 43) (j := 2) (x := (some q_36)) B hH hk_42 coX5 rfl w_400 rfl (Or.inl rfl) rfl dX5_over_43 (fun H locs hH => ?_)
      have hH : Hp G (FA S s.heap.size) s.heap (wA S_36 (gI S_36) (gJ S_36) R_43) H locs := by rw [eR_43]; exact hH
      refine lv_goto (pc := 46) (tgt := 57) hx hb dX5_over_46 (by decide) ?_
      exact kj_7 _ _ _ _ _ _ _ _ hp (show _ + (bc - 2) ≤ bc by omega) (show _ + (bs - v_28.toNatClampNeg - v_37.toNatClampNeg) ≤ bs by omega) hH (lv_sub hl [0, 1] rfl)
  · have hp := hp.2 cc_1
    exact sx_vret (pc := 8) B hH hr hlk (by rw [← hQQ]; exact ⟨rfl, hp⟩) (show _ ≤ bc by omega) (show _ ≤ bs by omega) dX5_over_8
theorem dX5_isFound_0 : decode cX5_isFound 0 = .ok (.iload_n 1, 1) := by decide +kernel
theorem dX5_isFound_1 : decode cX5_isFound 1 = .ok (.ifCond .lt 25, 3) := by decide +kernel
theorem dX5_isFound_4 : decode cX5_isFound 4 = .ok (.iload_n 1, 1) := by decide +kernel
theorem dX5_isFound_5 : decode cX5_isFound 5 = .ok (.aload_n 0, 1) := by decide +kernel
theorem dX5_isFound_6 : decode cX5_isFound 6 = .ok (.getfield 19, 3) := by decide +kernel
theorem dX5_isFound_9 : decode cX5_isFound 9 = .ok (.arraylength, 1) := by decide +kernel
theorem dX5_isFound_10 : decode cX5_isFound 10 = .ok (.if_icmp .ge 16, 3) := by decide +kernel
theorem dX5_isFound_13 : decode cX5_isFound 13 = .ok (.aload_n 0, 1) := by decide +kernel
theorem dX5_isFound_14 : decode cX5_isFound 14 = .ok (.getfield 19, 3) := by decide +kernel
theorem dX5_isFound_17 : decode cX5_isFound 17 = .ok (.iload_n 1, 1) := by decide +kernel
theorem dX5_isFound_18 : decode cX5_isFound 18 = .ok (.iaload, 1) := by decide +kernel
theorem dX5_isFound_19 : decode cX5_isFound 19 = .ok (.ifCond .eq 7, 3) := by decide +kernel
theorem dX5_isFound_22 : decode cX5_isFound 22 = .ok (.iconst 1, 1) := by decide +kernel
theorem dX5_isFound_23 : decode cX5_isFound 23 = .ok (.goto 4, 3) := by decide +kernel
theorem dX5_isFound_26 : decode cX5_isFound 26 = .ok (.iconst 0, 1) := by decide +kernel
theorem dX5_isFound_27 : decode cX5_isFound 27 = .ok (.ireturn, 1) := by decide +kernel
theorem mi_X5_isFound : MI yX5_isFound cX5_isFound 2 (some FieldType.boolean) 1 := ⟨w_1230, w_116, by decide +kernel, by decide +kernel, by decide +kernel⟩
set_option maxRecDepth 100000 in
set_option maxHeartbeats 4000000 in
theorem C_X5_isFound (G : GG) (l : Launch) (th : Nat) (p0 : Int32) (S : St) (Q : Int32 → Prop) (hp : P_X5_isFound th p0 S Q) : Ctr G l yX5_isFound cX5_isFound 2 (some FieldType.boolean) 0 0 0 0 [.ref th, .int p0] S (fun (v : Option Value) (S9 : St) => ∃ (r : Int32), v = some (.int r) ∧ S9 = S ∧ Q r ) := by
  generalize hQQ : (fun (v : Option Value) (S9 : St) => ∃ (r : Int32), v = some (.int r) ∧ S9 = S ∧ Q r ) = QQ
  unfold P_X5_isFound at hp
  refine Ctr.of (by decide) (Nat.le_of_ble_eq_true rfl) ?_
  intro p e s m args below meth c ls B hr hlk hin hl hH
  generalize hlocs0 : ([] : List Loc) = locs at hH ⊢
  have hx := B.1
  have hb := B.2.1
  have hl : lv_has ls 2 [(0, .ref th), (1, .int p0)] := hl
  obtain ⟨hk_th, hp⟩ := hp
  refine lv_iload_n (pc := 0) hx hb dX5_isFound_0 rfl (lv_at hl 1 rfl) ?_
  refine lv_if_lt (pc := 1) (tgt := 26) hx hb dX5_isFound_1 (by decide) (fun cc_1 => ?_) (fun cc_1 => ?_)
  · have hp := hp.1 cc_1
    refine lv_iconst (pc := 26) (v := 0) hx hb dX5_isFound_26 (by decide) ?_
    exact sx_zret (pc := 27) B hH hr hlk (Or.inl rfl) (by rw [← hQQ]; exact ⟨_, rfl, rfl, hp⟩) (Nat.le_of_ble_eq_true rfl) (Nat.le_of_ble_eq_true rfl) dX5_isFound_27
  · have hp := hp.2 cc_1
    refine lv_iload_n (pc := 4) hx hb dX5_isFound_4 rfl (lv_at hl 1 rfl) ?_
    refine lv_aload_n (pc := 5) hx hb dX5_isFound_5 rfl (lv_at hl 0 rfl) ?_
    refine sx_getR (pc := 6) (j := 2) B hH hk_th coX5 rfl w_400 rfl dX5_isFound_6 ?_
    refine W.eq (g2 := F0 m 9 ls [va_rf (gR S th 2), .int p0]) rfl ?_
    obtain ⟨a_2, ha_2, hp⟩ := hp
    refine sx_nonnull (x := a_2) ha_2 ?_
    obtain ⟨hk_3, hp⟩ := hp
    refine sx_alen (pc := 9) B hH hk_3 (by decide) (by decide) dX5_isFound_9 ?_
    refine W.eq (g2 := F0 m 10 ls [.int (nI (ln S a_2)), .int p0]) rfl ?_
    refine lv_icmp_ge (pc := 10) (tgt := 26) hx hb dX5_isFound_10 (by decide) (fun cc_4 => ?_) (fun cc_4 => ?_)
    · have hp := hp.1 cc_4
      refine lv_iconst (pc := 26) (v := 0) hx hb dX5_isFound_26 (by decide) ?_
      exact sx_zret (pc := 27) B hH hr hlk (Or.inl rfl) (by rw [← hQQ]; exact ⟨_, rfl, rfl, hp⟩) (Nat.le_of_ble_eq_true rfl) (Nat.le_of_ble_eq_true rfl) dX5_isFound_27
    · have hp := hp.2 cc_4
      refine lv_aload_n (pc := 13) hx hb dX5_isFound_13 rfl (lv_at hl 0 rfl) ?_
      refine sx_getR (pc := 14) (j := 2) B hH hk_th coX5 rfl w_400 rfl dX5_isFound_14 ?_
      refine W.eq (g2 := F0 m 17 ls [va_rf (gR S th 2)]) rfl ?_
      refine sx_nonnull (x := a_2) ha_2 ?_
      refine lv_iload_n (pc := 17) hx hb dX5_isFound_17 rfl (lv_at hl 1 rfl) ?_
      obtain ⟨hn_5, hp⟩ := hp
      refine sx_iald (pc := 18) B hH hk_3 hn_5 dX5_isFound_18 ?_
      refine W.eq (g2 := F0 m 19 ls [.int (gI S a_2 p0.toNatClampNeg)]) rfl ?_
      refine lv_if_eq (pc := 19) (tgt := 26) hx hb dX5_isFound_19 (by decide) (fun cc_6 => ?_) (fun cc_6 => ?_)
      · have hp := hp.1 cc_6
        refine lv_iconst (pc := 26) (v := 0) hx hb dX5_isFound_26 (by decide) ?_
        exact sx_zret (pc := 27) B hH hr hlk (Or.inl rfl) (by rw [← hQQ]; exact ⟨_, rfl, rfl, hp⟩) (Nat.le_of_ble_eq_true rfl) (Nat.le_of_ble_eq_true rfl) dX5_isFound_27
      · have hp := hp.2 cc_6
        refine lv_iconst (pc := 22) (v := 1) hx hb dX5_isFound_22 (by decide) ?_
        refine lv_goto (pc := 23) (tgt := 27) hx hb dX5_isFound_23 (by decide) ?_
        exact sx_zret (pc := 27) B hH hr hlk (Or.inr rfl) (by rw [← hQQ]; exact ⟨_, rfl, rfl, hp⟩) (Nat.le_of_ble_eq_true rfl) (Nat.le_of_ble_eq_true rfl) dX5_isFound_27
theorem dX5_rowAhead_0 : decode cX5_rowAhead 0 = .ok (.aload_n 0, 1) := by decide +kernel
theorem dX5_rowAhead_1 : decode cX5_rowAhead 1 = .ok (.iload_n 1, 1) := by decide +kernel
theorem dX5_rowAhead_2 : decode cX5_rowAhead 2 = .ok (.invokevirtual 98, 3) := by decide +kernel
theorem dX5_rowAhead_5 : decode cX5_rowAhead 5 = .ok (.ifCond .eq 17, 3) := by decide +kernel
theorem dX5_rowAhead_8 : decode cX5_rowAhead 8 = .ok (.aload_n 0, 1) := by decide +kernel
theorem dX5_rowAhead_9 : decode cX5_rowAhead 9 = .ok (.getfield 19, 3) := by decide +kernel
theorem dX5_rowAhead_12 : decode cX5_rowAhead 12 = .ok (.iload_n 1, 1) := by decide +kernel
theorem dX5_rowAhead_13 : decode cX5_rowAhead 13 = .ok (.iaload, 1) := by decide +kernel
theorem dX5_rowAhead_14 : decode cX5_rowAhead 14 = .ok (.iconst 1, 1) := by decide +kernel
theorem dX5_rowAhead_15 : decode cX5_rowAhead 15 = .ok (.isub, 1) := by decide +kernel
theorem dX5_rowAhead_16 : decode cX5_rowAhead 16 = .ok (.bipush 12, 2) := by decide +kernel
theorem dX5_rowAhead_18 : decode cX5_rowAhead 18 = .ok (.idiv, 1) := by decide +kernel
theorem dX5_rowAhead_19 : decode cX5_rowAhead 19 = .ok (.goto 4, 3) := by decide +kernel
theorem dX5_rowAhead_22 : decode cX5_rowAhead 22 = .ok (.iconst 0, 1) := by decide +kernel
theorem dX5_rowAhead_23 : decode cX5_rowAhead 23 = .ok (.ireturn, 1) := by decide +kernel
theorem mi_X5_rowAhead : MI yX5_rowAhead cX5_rowAhead 2 (some FieldType.int) 1 := ⟨w_1238, w_116, by decide +kernel, by decide +kernel, by decide +kernel⟩
set_option maxRecDepth 100000 in
set_option maxHeartbeats 4000000 in
theorem C_X5_rowAhead (G : GG) (l : Launch) (th : Nat) (p0 : Int32) (S : St) (Q : Int32 → Prop) (hp : P_X5_rowAhead th p0 S Q) : Ctr G l yX5_rowAhead cX5_rowAhead 2 (some FieldType.int) 1 21 0 0 [.ref th, .int p0] S (fun (v : Option Value) (S9 : St) => ∃ (r : Int32), v = some (.int r) ∧ S9 = S ∧ Q r ) := by
  generalize hQQ : (fun (v : Option Value) (S9 : St) => ∃ (r : Int32), v = some (.int r) ∧ S9 = S ∧ Q r ) = QQ
  unfold P_X5_rowAhead at hp
  refine Ctr.of (by decide) (Nat.le_of_ble_eq_true rfl) ?_
  intro p e s m args below meth c ls B hr hlk hin hl hH
  generalize hlocs0 : ([] : List Loc) = locs at hH ⊢
  have hx := B.1
  have hb := B.2.1
  have hl : lv_has ls 2 [(0, .ref th), (1, .int p0)] := hl
  obtain ⟨hk_th, hp⟩ := hp
  refine lv_aload_n (pc := 0) hx hb dX5_rowAhead_0 rfl (lv_at hl 0 rfl) ?_
  refine lv_iload_n (pc := 1) hx hb dX5_rowAhead_1 rfl (lv_at hl 1 rfl) ?_
  refine sx_V (pc := 2) (As := [.int p0]) (rest := []) B hH hl.1 (C_X5_isFound G l th p0 _ _ hp) mi_X5_isFound coX5 hk_th w_1228 w_1229 w_1239 rfl rfl ⟨Nat.le_of_ble_eq_true rfl, Nat.le_of_ble_eq_true rfl⟩ (Nat.le_of_ble_eq_true rfl) ⟨Nat.le_of_ble_eq_true rfl, Nat.le_of_ble_eq_true rfl⟩ dX5_rowAhead_2 (fun v S1 H locs hq hH => ?_)
  obtain ⟨r_1, rfl, e9, hp⟩ := hq
  rw [e9] at hH
  refine W.eq (g2 := F0 m 5 ls [.int r_1]) rfl ?_
  refine lv_if_eq (pc := 5) (tgt := 22) hx hb dX5_rowAhead_5 (by decide) (fun cc_2 => ?_) (fun cc_2 => ?_)
  · have hp := hp.1 cc_2
    refine lv_iconst (pc := 22) (v := 0) hx hb dX5_rowAhead_22 (by decide) ?_
    exact sx_iret (pc := 23) B hH hr hlk (by rw [← hQQ]; exact ⟨_, rfl, rfl, hp⟩) (Nat.le_of_ble_eq_true rfl) (Nat.le_of_ble_eq_true rfl) dX5_rowAhead_23
  · have hp := hp.2 cc_2
    refine lv_aload_n (pc := 8) hx hb dX5_rowAhead_8 rfl (lv_at hl 0 rfl) ?_
    refine sx_getR (pc := 9) (j := 2) B hH hk_th coX5 rfl w_400 rfl dX5_rowAhead_9 ?_
    refine W.eq (g2 := F0 m 12 ls [va_rf (gR S th 2)]) rfl ?_
    obtain ⟨a_3, ha_3, hp⟩ := hp
    refine sx_nonnull (x := a_3) ha_3 ?_
    refine lv_iload_n (pc := 12) hx hb dX5_rowAhead_12 rfl (lv_at hl 1 rfl) ?_
    obtain ⟨hk_4, hp⟩ := hp
    obtain ⟨hn_5, hp⟩ := hp
    refine sx_iald (pc := 13) B hH hk_4 hn_5 dX5_rowAhead_13 ?_
    refine W.eq (g2 := F0 m 14 ls [.int (gI S a_3 p0.toNatClampNeg)]) rfl ?_
    refine lv_iconst (pc := 14) (v := 1) hx hb dX5_rowAhead_14 (by decide) ?_
    refine lv_isub (pc := 15) hx hb dX5_rowAhead_15 ?_
    refine lv_bipush (pc := 16) (v := 12) hx hb dX5_rowAhead_16 (by decide) ?_
    refine lv_idiv (pc := 18) hx hb dX5_rowAhead_18 (by decide) ?_
    refine lv_goto (pc := 19) (tgt := 23) hx hb dX5_rowAhead_19 (by decide) ?_
    exact sx_iret (pc := 23) B hH hr hlk (by rw [← hQQ]; exact ⟨_, rfl, rfl, hp⟩) (Nat.le_of_ble_eq_true rfl) (Nat.le_of_ble_eq_true rfl) dX5_rowAhead_23
theorem dX5_keepWay_0 : decode cX5_keepWay 0 = .ok (.iconst 0, 1) := by decide +kernel
theorem dX5_keepWay_1 : decode cX5_keepWay 1 = .ok (.istore_n 2, 1) := by decide +kernel
theorem dX5_keepWay_2 : decode cX5_keepWay 2 = .ok (.iload_n 1, 1) := by decide +kernel
theorem dX5_keepWay_3 : decode cX5_keepWay 3 = .ok (.istore_n 3, 1) := by decide +kernel
theorem dX5_keepWay_4 : decode cX5_keepWay 4 = .ok (.iload_n 3, 1) := by decide +kernel
theorem dX5_keepWay_5 : decode cX5_keepWay 5 = .ok (.ifCond .eq 24, 3) := by decide +kernel
theorem dX5_keepWay_8 : decode cX5_keepWay 8 = .ok (.iload_n 2, 1) := by decide +kernel
theorem dX5_keepWay_9 : decode cX5_keepWay 9 = .ok (.aload_n 0, 1) := by decide +kernel
theorem dX5_keepWay_10 : decode cX5_keepWay 10 = .ok (.getfield 19, 3) := by decide +kernel
theorem dX5_keepWay_13 : decode cX5_keepWay 13 = .ok (.arraylength, 1) := by decide +kernel
theorem dX5_keepWay_14 : decode cX5_keepWay 14 = .ok (.if_icmp .ge 15, 3) := by decide +kernel
theorem dX5_keepWay_17 : decode cX5_keepWay 17 = .ok (.iinc 2 1, 3) := by decide +kernel
theorem dX5_keepWay_20 : decode cX5_keepWay 20 = .ok (.aload_n 0, 1) := by decide +kernel
theorem dX5_keepWay_21 : decode cX5_keepWay 21 = .ok (.iload_n 3, 1) := by decide +kernel
theorem dX5_keepWay_22 : decode cX5_keepWay 22 = .ok (.invokevirtual 95, 3) := by decide +kernel
theorem dX5_keepWay_25 : decode cX5_keepWay 25 = .ok (.istore_n 3, 1) := by decide +kernel
theorem dX5_keepWay_26 : decode cX5_keepWay 26 = .ok (.goto (-22), 3) := by decide +kernel
theorem dX5_keepWay_29 : decode cX5_keepWay 29 = .ok (.aload_n 0, 1) := by decide +kernel
theorem dX5_keepWay_30 : decode cX5_keepWay 30 = .ok (.getfield 35, 3) := by decide +kernel
theorem dX5_keepWay_33 : decode cX5_keepWay 33 = .ok (.arraylength, 1) := by decide +kernel
theorem dX5_keepWay_34 : decode cX5_keepWay 34 = .ok (.iload_n 2, 1) := by decide +kernel
theorem dX5_keepWay_35 : decode cX5_keepWay 35 = .ok (.if_icmp .ge 10, 3) := by decide +kernel
theorem dX5_keepWay_38 : decode cX5_keepWay 38 = .ok (.aload_n 0, 1) := by decide +kernel
theorem dX5_keepWay_39 : decode cX5_keepWay 39 = .ok (.iload_n 2, 1) := by decide +kernel
theorem dX5_keepWay_40 : decode cX5_keepWay 40 = .ok (.newarray .int, 2) := by decide +kernel
theorem dX5_keepWay_42 : decode cX5_keepWay 42 = .ok (.putfield 35, 3) := by decide +kernel
theorem dX5_keepWay_45 : decode cX5_keepWay 45 = .ok (.aload_n 0, 1) := by decide +kernel
theorem dX5_keepWay_46 : decode cX5_keepWay 46 = .ok (.iload_n 2, 1) := by decide +kernel
theorem dX5_keepWay_47 : decode cX5_keepWay 47 = .ok (.putfield 38, 3) := by decide +kernel
theorem dX5_keepWay_50 : decode cX5_keepWay 50 = .ok (.iload_n 1, 1) := by decide +kernel
theorem dX5_keepWay_51 : decode cX5_keepWay 51 = .ok (.istore_n 3, 1) := by decide +kernel
theorem dX5_keepWay_52 : decode cX5_keepWay 52 = .ok (.iload_n 2, 1) := by decide +kernel
theorem dX5_keepWay_53 : decode cX5_keepWay 53 = .ok (.iconst 1, 1) := by decide +kernel
theorem dX5_keepWay_54 : decode cX5_keepWay 54 = .ok (.isub, 1) := by decide +kernel
theorem dX5_keepWay_55 : decode cX5_keepWay 55 = .ok (.istore 4, 2) := by decide +kernel
theorem dX5_keepWay_57 : decode cX5_keepWay 57 = .ok (.iload 4, 2) := by decide +kernel
theorem dX5_keepWay_59 : decode cX5_keepWay 59 = .ok (.ifCond .lt 45, 3) := by decide +kernel
theorem dX5_keepWay_62 : decode cX5_keepWay 62 = .ok (.aload_n 0, 1) := by decide +kernel
theorem dX5_keepWay_63 : decode cX5_keepWay 63 = .ok (.getfield 35, 3) := by decide +kernel
theorem dX5_keepWay_66 : decode cX5_keepWay 66 = .ok (.iload 4, 2) := by decide +kernel
theorem dX5_keepWay_68 : decode cX5_keepWay 68 = .ok (.aload_n 0, 1) := by decide +kernel
theorem dX5_keepWay_69 : decode cX5_keepWay 69 = .ok (.iload_n 3, 1) := by decide +kernel
theorem dX5_keepWay_70 : decode cX5_keepWay 70 = .ok (.invokevirtual 98, 3) := by decide +kernel
theorem dX5_keepWay_73 : decode cX5_keepWay 73 = .ok (.ifCond .eq 17, 3) := by decide +kernel
theorem dX5_keepWay_76 : decode cX5_keepWay 76 = .ok (.aload_n 0, 1) := by decide +kernel
theorem dX5_keepWay_77 : decode cX5_keepWay 77 = .ok (.getfield 19, 3) := by decide +kernel
theorem dX5_keepWay_80 : decode cX5_keepWay 80 = .ok (.iload_n 3, 1) := by decide +kernel
theorem dX5_keepWay_81 : decode cX5_keepWay 81 = .ok (.iaload, 1) := by decide +kernel
theorem dX5_keepWay_82 : decode cX5_keepWay 82 = .ok (.iconst 1, 1) := by decide +kernel
theorem dX5_keepWay_83 : decode cX5_keepWay 83 = .ok (.isub, 1) := by decide +kernel
theorem dX5_keepWay_84 : decode cX5_keepWay 84 = .ok (.bipush 12, 2) := by decide +kernel
theorem dX5_keepWay_86 : decode cX5_keepWay 86 = .ok (.irem, 1) := by decide +kernel
theorem dX5_keepWay_87 : decode cX5_keepWay 87 = .ok (.goto 4, 3) := by decide +kernel
theorem dX5_keepWay_90 : decode cX5_keepWay 90 = .ok (.iconst 0, 1) := by decide +kernel
theorem dX5_keepWay_91 : decode cX5_keepWay 91 = .ok (.iastore, 1) := by decide +kernel
theorem dX5_keepWay_92 : decode cX5_keepWay 92 = .ok (.aload_n 0, 1) := by decide +kernel
theorem dX5_keepWay_93 : decode cX5_keepWay 93 = .ok (.iload_n 3, 1) := by decide +kernel
theorem dX5_keepWay_94 : decode cX5_keepWay 94 = .ok (.invokevirtual 95, 3) := by decide +kernel
theorem dX5_keepWay_97 : decode cX5_keepWay 97 = .ok (.istore_n 3, 1) := by decide +kernel
theorem dX5_keepWay_98 : decode cX5_keepWay 98 = .ok (.iinc 4 (-1), 3) := by decide +kernel
theorem dX5_keepWay_101 : decode cX5_keepWay 101 = .ok (.goto (-44), 3) := by decide +kernel
theorem dX5_keepWay_104 : decode cX5_keepWay 104 = .ok (.return_, 1) := by decide +kernel
theorem mi_X5_keepWay : MI yX5_keepWay cX5_keepWay 5 (none : Option Jvm.ClassFile.FieldType) 1 := ⟨w_1234, w_116, by decide +kernel, by decide +kernel, by decide +kernel⟩
set_option maxRecDepth 100000 in
set_option maxHeartbeats 4000000 in
theorem C_X5_keepWay (G : GG) (l : Launch) (th : Nat) (p0 : Int32) (S : St) (bc bs : Nat) (Q : St → Prop) (hp : P_X5_keepWay th p0 S bc bs Q) : Ctr G l yX5_keepWay cX5_keepWay 5 (none : Option Jvm.ClassFile.FieldType) 2 42 bc bs [.ref th, .int p0] S (fun (v : Option Value) (S9 : St) => v = none ∧ Q S9) := by
  generalize hQQ : (fun (v : Option Value) (S9 : St) => v = none ∧ Q S9) = QQ
  unfold P_X5_keepWay at hp
  refine Ctr.of (by decide) (Nat.le_of_ble_eq_true rfl) ?_
  intro p e s m args below meth c ls B hr hlk hin hl hH
  generalize hlocs0 : ([] : List Loc) = locs at hH ⊢
  have hx := B.1
  have hb := B.2.1
  have hl : lv_has ls 5 [(0, .ref th), (1, .int p0)] := hl
  obtain ⟨hk_th, hp⟩ := hp
  refine lv_iconst (pc := 0) (v := 0) hx hb dX5_keepWay_0 (by decide) ?_
  refine lv_istore_n (pc := 1) (lv' := [(2, .int 0), (0, .ref th), (1, .int p0)]) hx hb dX5_keepWay_1 rfl hl (by decide) rfl (fun ls hl => ?_)
  refine lv_iload_n (pc := 2) hx hb dX5_keepWay_2 rfl (lv_at hl 2 rfl) ?_
  refine lv_istore_n (pc := 3) (lv' := [(3, .int p0), (2, .int 0), (0, .ref th), (1, .int p0)]) hx hb dX5_keepWay_3 rfl hl (by decide) rfl (fun ls hl => ?_)
  obtain ⟨I_1, ⟨k0_1, h0_1⟩, hst_1⟩ := hp
  have kl_1 : ∀ (n_1 : Nat) (x2_2 : Int32) (x3_3 : Int32) (H : Heap) (locs : List Loc) (ls : Array Slot) (cells slots : Nat), I_1 n_1 x2_2 x3_3 → cells + bc ≤ bc → slots + bs ≤ bs → Hp G (FA S s.heap.size) s.heap S H locs → lv_has ls 5 [(0, .ref th), (1, .int p0), (2, .int x2_2), (3, .int x3_3)] → Wm G p l e { frames := 2, cells := bc, slots := bs, locals := 42 } s m args below meth c S QQ bc bs H locs cells slots (F0 m 4 ls []) := by
    intro n_1
    induction n_1 using Nat.strongRecOn with
    | ind n_1 ih_1 =>
      intro x2_2 x3_3 H locs ls cells slots hq9 hcc_1 hss_1 hH hl
      have hp := hst_1 n_1 x2_2 x3_3 hq9
      refine lv_iload_n (pc := 4) hx hb dX5_keepWay_4 rfl (lv_at hl 3 rfl) ?_
      obtain ⟨J_5, hj_5, hp⟩ := hp
      have kj_5 : ∀  (H : Heap) (locs : List Loc) (ls : Array Slot) (cells slots : Nat), J_5  → cells + bc ≤ bc → slots + bs ≤ bs → Hp G (FA S s.heap.size) s.heap S H locs → lv_has ls 5 [(0, .ref th), (1, .int p0), (2, .int x2_2)] → Wm G p l e { frames := 2, cells := bc, slots := bs, locals := 42 } s m args below meth c S QQ bc bs H locs cells slots (F0 m 29 ls []) := by
        intro  H locs ls cells slots hq9 hcc_5 hss_5 hH hl
        have hp := hj_5  hq9
        refine lv_aload_n (pc := 29) hx hb dX5_keepWay_29 rfl (lv_at hl 0 rfl) ?_
        refine sx_getR (pc := 30) (j := 7) B hH hk_th coX5 rfl w_406 rfl dX5_keepWay_30 ?_
        refine W.eq (g2 := F0 m 33 ls [va_rf (gR S th 7)]) rfl ?_
        obtain ⟨a_6, ha_6, hp⟩ := hp
        refine sx_nonnull (x := a_6) ha_6 ?_
        obtain ⟨hk_7, hp⟩ := hp
        refine sx_alen (pc := 33) B hH hk_7 (by decide) (by decide) dX5_keepWay_33 ?_
        refine W.eq (g2 := F0 m 34 ls [.int (nI (ln S a_6))]) rfl ?_
        refine lv_iload_n (pc := 34) hx hb dX5_keepWay_34 rfl (lv_at hl 2 rfl) ?_
        obtain ⟨J_9, hj_9, hp⟩ := hp
        have kj_9 : ∀ (S_10 : St) (b_11 : Nat) (d_11 : Nat) (H : Heap) (locs : List Loc) (ls : Array Slot) (cells slots : Nat), J_9 S_10 b_11 d_11 → cells + b_11 ≤ bc → slots + d_11 ≤ bs → Hp G (FA S s.heap.size) s.heap S_10 H locs → lv_has ls 5 [(0, .ref th), (1, .int p0), (2, .int x2_2)] → Wm G p l e { frames := 2, cells := bc, slots := bs, locals := 42 } s m args below meth c S QQ bc bs H locs cells slots (F0 m 45 ls []) := by
          intro S_10 b_11 d_11 H locs ls cells slots hq9 hcc_9 hss_9 hH hl
          have hp := hj_9 S_10 b_11 d_11 hq9
          refine lv_aload_n (pc := 45) hx hb dX5_keepWay_45 rfl (lv_at hl 0 rfl) ?_
          refine lv_iload_n (pc := 46) hx hb dX5_keepWay_46 rfl (lv_at hl 2 rfl) ?_
          obtain ⟨hk_12, hp⟩ := hp
          obtain ⟨F_13, eF_13⟩ : ∃ z : Nat → Nat → Int32, z = upI (gI S_10) th 8 x2_2 := ⟨_, rfl⟩
          have hp := hp F_13 eF_13
          refine sx_putI (pc := 47) (j := 8) B hH hk_12 coX5 rfl w_408 rfl (Or.inl rfl) rfl dX5_keepWay_47 (fun H locs hH => ?_)
          have hH : Hp G (FA S s.heap.size) s.heap (wI S_10 F_13) H locs := by rw [eF_13]; exact hH
          refine lv_iload_n (pc := 50) hx hb dX5_keepWay_50 rfl (lv_at hl 1 rfl) ?_
          refine lv_istore_n (pc := 51) (lv' := [(3, .int p0), (0, .ref th), (1, .int p0), (2, .int x2_2)]) hx hb dX5_keepWay_51 rfl hl (by decide) rfl (fun ls hl => ?_)
          refine lv_iload_n (pc := 52) hx hb dX5_keepWay_52 rfl (lv_at hl 3 rfl) ?_
          refine lv_iconst (pc := 53) (v := 1) hx hb dX5_keepWay_53 (by decide) ?_
          refine lv_isub (pc := 54) hx hb dX5_keepWay_54 ?_
          refine lv_topi (fun v_14 ev_14 => ?_)
          have hp := hp v_14 ev_14
          refine lv_istore (pc := 55) (lv' := [(4, .int v_14), (3, .int p0), (0, .ref th), (1, .int p0), (2, .int x2_2)]) hx hb dX5_keepWay_55 hl (by decide) rfl (fun ls hl => ?_)
          obtain ⟨I_15, ⟨k0_15, h0_15⟩, hst_15⟩ := hp
          have kl_15 : ∀ (n_15 : Nat) (x3_16 : Int32) (x4_17 : Int32) (F_18 : Nat → Nat → Int32) (H : Heap) (locs : List Loc) (ls : Array Slot) (cells slots : Nat), I_15 n_15 x3_16 x4_17 F_18 → cells + b_11 ≤ bc → slots + d_11 ≤ bs → Hp G (FA S s.heap.size) s.heap (wI S_10 F_18) H locs → lv_has ls 5 [(0, .ref th), (3, .int x3_16), (4, .int x4_17)] → Wm G p l e { frames := 2, cells := bc, slots := bs, locals := 42 } s m args below meth c S QQ bc bs H locs cells slots (F0 m 57 ls []) := by
            intro n_15
            induction n_15 using Nat.strongRecOn with
            | ind n_15 ih_15 =>
              intro x3_16 x4_17 F_18 H locs ls cells slots hq9 hcc_15 hss_15 hH hl
              have hp := hst_15 n_15 x3_16 x4_17 F_18 hq9
              refine lv_iload (pc := 57) hx hb dX5_keepWay_57 (lv_at hl 2 rfl) ?_
              refine lv_if_lt (pc := 59) (tgt := 104) hx hb dX5_keepWay_59 (by decide) (fun cc_19 => ?_) (fun cc_19 => ?_)
              · have hp := hp.1 cc_19
                exact sx_vret (pc := 104) B hH hr hlk (by rw [← hQQ]; exact ⟨rfl, hp⟩) (show _ ≤ bc by omega) (show _ ≤ bs by omega) dX5_keepWay_104
              · have hp := hp.2 cc_19
                refine lv_aload_n (pc := 62) hx hb dX5_keepWay_62 rfl (lv_at hl 0 rfl) ?_
                refine sx_getR (pc := 63) (j := 7) B hH hk_12 coX5 rfl w_406 rfl dX5_keepWay_63 ?_
                refine W.eq (g2 := F0 m 66 ls [va_rf (gR S_10 th 7)]) rfl ?_
                obtain ⟨a_20, ha_20, hp⟩ := hp
                refine sx_nonnull (x := a_20) ha_20 ?_
                refine lv_iload (pc := 66) hx hb dX5_keepWay_66 (lv_at hl 2 rfl) ?_
                refine lv_aload_n (pc := 68) hx hb dX5_keepWay_68 rfl (lv_at hl 0 rfl) ?_
                refine lv_iload_n (pc := 69) hx hb dX5_keepWay_69 rfl (lv_at hl 1 rfl) ?_
                refine sx_V (pc := 70) (As := [.int x3_16]) (rest := [.int x4_17, .ref a_20]) B hH hl.1 (C_X5_isFound G l th x3_16 _ _ hp) mi_X5_isFound coX5 hk_12 w_1228 w_1229 w_1239 rfl rfl ⟨Nat.le_of_ble_eq_true rfl, Nat.le_of_ble_eq_true rfl⟩ (Nat.le_of_ble_eq_true rfl) ⟨(show _ + 0 ≤ bc by omega), (show _ + 0 ≤ bs by omega)⟩ dX5_keepWay_70 (fun v S1 H locs hq hH => ?_)
                obtain ⟨r_21, rfl, e9, hp⟩ := hq
                rw [e9] at hH
                refine W.eq (g2 := F0 m 73 ls [.int r_21, .int x4_17, .ref a_20]) rfl ?_
                obtain ⟨J_23, hj_23, hp⟩ := hp
                have kj_23 : ∀ (t_24 : Int32) (H : Heap) (locs : List Loc) (ls : Array Slot) (cells slots : Nat), J_23 t_24 → cells + b_11 ≤ bc → slots + d_11 ≤ bs → Hp G (FA S s.heap.size) s.heap (wI S_10 F_18) H locs → lv_has ls 5 [(0, .ref th), (3, .int x3_16), (4, .int x4_17)] → Wm G p l e { frames := 2, cells := bc, slots := bs, locals := 42 } s m args below meth c S QQ bc bs H locs cells slots (F0 m 91 ls [.int t_24, .int x4_17, .ref a_20]) := by
                  intro t_24 H locs ls cells slots hq9 hcc_23 hss_23 hH hl
                  have hp := hj_23 t_24 hq9
                  obtain ⟨hk_25, hp⟩ := hp
                  obtain ⟨hn_26, hp⟩ := hp
                  obtain ⟨F_27, eF_27⟩ : ∃ z : Nat → Nat → Int32, z = upI F_18 a_20 x4_17.toNatClampNeg t_24 := ⟨_, rfl⟩
                  have hp := hp F_27 eF_27
                  refine sx_iast (pc := 91) B hH hk_25 hn_26 dX5_keepWay_91 (fun H locs hH => ?_)
                  have hH : Hp G (FA S s.heap.size) s.heap (wI S_10 F_27) H locs := by rw [eF_27]; exact hH
                  refine lv_aload_n (pc := 92) hx hb dX5_keepWay_92 rfl (lv_at hl 0 rfl) ?_
                  refine lv_iload_n (pc := 93) hx hb dX5_keepWay_93 rfl (lv_at hl 1 rfl) ?_
                  refine sx_V (pc := 94) (As := [.int x3_16]) (rest := []) B hH hl.1 (C_X5_rowAhead G l th x3_16 _ _ hp) mi_X5_rowAhead coX5 hk_12 w_1237 w_40 w_1235 rfl rfl ⟨Nat.le_of_ble_eq_true rfl, Nat.le_of_ble_eq_true rfl⟩ (Nat.le_of_ble_eq_true rfl) ⟨(show _ + 0 ≤ bc by omega), (show _ + 0 ≤ bs by omega)⟩ dX5_keepWay_94 (fun v S1 H locs hq hH => ?_)
                  obtain ⟨r_28, rfl, e9, hp⟩ := hq
                  rw [e9] at hH
                  refine W.eq (g2 := F0 m 97 ls [.int r_28]) rfl ?_
                  refine lv_istore_n (pc := 97) (lv' := [(3, .int r_28), (0, .ref th), (4, .int x4_17)]) hx hb dX5_keepWay_97 rfl hl (by decide) rfl (fun ls hl => ?_)
                  obtain ⟨v_29, ev_29⟩ : ∃ y : Int32, y = x4_17 + (-1) := ⟨_, rfl⟩
                  have hp := hp v_29 ev_29
                  refine lv_iinc (pc := 98) (v := v_29) (lv' := [(4, .int v_29), (3, .int r_28), (0, .ref th)]) hx hb dX5_keepWay_98 hl (k := 2) rfl (by rw [ev_29]; rfl) (by decide) rfl (fun ls hl => ?_)
                  refine lv_goto (pc := 101) (tgt := 57) hx hb dX5_keepWay_101 (by decide) ?_
                  obtain ⟨k9, hlt9, hp⟩ := hp
                  exact ih_15 k9 hlt9 _ _ _ _ _ _ _ _ hp (show _ + b_11 ≤ bc by omega) (show _ + d_11 ≤ bs by omega) hH (lv_sub hl [2, 1, 0] rfl)
                refine lv_if_eq (pc := 73) (tgt := 90) hx hb dX5_keepWay_73 (by decide) (fun cc_22 => ?_) (fun cc_22 => ?_)
                · have hp := hp.1 cc_22
                  refine lv_iconst (pc := 90) (v := 0) hx hb dX5_keepWay_90 (by decide) ?_
                  exact kj_23 _ _ _ _ _ _ hp (show _ + b_11 ≤ bc by omega) (show _ + d_11 ≤ bs by omega) hH (lv_sub hl [0, 1, 2] rfl)
                · have hp := hp.2 cc_22
                  refine lv_aload_n (pc := 76) hx hb dX5_keepWay_76 rfl (lv_at hl 0 rfl) ?_
                  refine sx_getR (pc := 77) (j := 2) B hH hk_12 coX5 rfl w_400 rfl dX5_keepWay_77 ?_
                  refine W.eq (g2 := F0 m 80 ls [va_rf (gR S_10 th 2), .int x4_17, .ref a_20]) rfl ?_
                  obtain ⟨a_30, ha_30, hp⟩ := hp
                  refine sx_nonnull (x := a_30) ha_30 ?_
                  refine lv_iload_n (pc := 80) hx hb dX5_keepWay_80 rfl (lv_at hl 1 rfl) ?_
                  obtain ⟨hk_31, hp⟩ := hp
                  obtain ⟨hn_32, hp⟩ := hp
                  refine sx_iald (pc := 81) B hH hk_31 hn_32 dX5_keepWay_81 ?_
                  refine W.eq (g2 := F0 m 82 ls [.int (F_18 a_30 x3_16.toNatClampNeg), .int x4_17, .ref a_20]) rfl ?_
                  refine lv_iconst (pc := 82) (v := 1) hx hb dX5_keepWay_82 (by decide) ?_
                  refine lv_isub (pc := 83) hx hb dX5_keepWay_83 ?_
                  refine lv_bipush (pc := 84) (v := 12) hx hb dX5_keepWay_84 (by decide) ?_
                  refine lv_irem (pc := 86) hx hb dX5_keepWay_86 (by decide) ?_
                  refine W.eq (g2 := F0 m 87 ls [.int (irm ((F_18 a_30 x3_16.toNatClampNeg) - 1) 12), .int x4_17, .ref a_20]) rfl ?_
                  refine lv_goto (pc := 87) (tgt := 91) hx hb dX5_keepWay_87 (by decide) ?_
                  exact kj_23 _ _ _ _ _ _ hp (show _ + b_11 ≤ bc by omega) (show _ + d_11 ≤ bs by omega) hH (lv_sub hl [0, 1, 2] rfl)
          exact kl_15 k0_15 _ _ _ _ _ _ _ _ h0_15 (show _ + b_11 ≤ bc by omega) (show _ + d_11 ≤ bs by omega) hH (lv_sub hl [2, 1, 0] rfl)
        refine lv_icmp_ge (pc := 35) (tgt := 45) hx hb dX5_keepWay_35 (by decide) (fun cc_8 => ?_) (fun cc_8 => ?_)
        · have hp := hp.1 cc_8
          exact kj_9 _ _ _ _ _ _ _ _ hp (show _ + bc ≤ bc by omega) (show _ + bs ≤ bs by omega) hH (lv_sub hl [0, 1, 2] rfl)
        · have hp := hp.2 cc_8
          refine lv_aload_n (pc := 38) hx hb dX5_keepWay_38 rfl (lv_at hl 0 rfl) ?_
          refine lv_iload_n (pc := 39) hx hb dX5_keepWay_39 rfl (lv_at hl 2 rfl) ?_
          obtain ⟨hc_34, hp⟩ := hp
          obtain ⟨hc_35, hp⟩ := hp
          obtain ⟨hc_36, hp⟩ := hp
          obtain ⟨hc_37, hp⟩ := hp
          refine sx_newi (pc := 40) (S := S) B hH w_294 rfl hc_34 hc_35 (show _ + 1 ≤ bc by omega) (show _ + x2_2.toNatClampNeg ≤ bs by first | omega | exact (by omega : _ + x2_2.toNatClampNeg ≤ bs)) dX5_keepWay_40 (fun q_33 H hq_33 hH => ?_)
          obtain ⟨S_33, eS_33⟩ : ∃ z : St, z = alo S q_33 21 x2_2.toNatClampNeg := ⟨_, rfl⟩
          have hp := hp q_33 hq_33 S_33 eS_33
          have hH : Hp G (FA S s.heap.size) s.heap S_33 H locs := by rw [eS_33]; exact hH
          have hk_33 : kd S_33 q_33 = 21 := by rw [eS_33]; exact kd_alo
          refine W.eq (g2 := F0 m 42 ls [.ref q_33, .ref th]) rfl ?_
          obtain ⟨hk_38, hp⟩ := hp
          obtain ⟨R_39, eR_39⟩ : ∃ z : Nat → Nat → Option Nat, z = upR (gR S_33) th 7 (some q_33) := ⟨_, rfl⟩
          have hp := hp R_39 eR_39
          refine sx_putR (pc := 42) (j := 7) (x := (some q_33)) B hH hk_38 coX5 rfl w_406 rfl (Or.inl rfl) rfl dX5_keepWay_42 (fun H locs hH => ?_)
          have hH : Hp G (FA S s.heap.size) s.heap (wA S_33 (gI S_33) (gJ S_33) R_39) H locs := by rw [eR_39]; exact hH
          exact kj_9 _ _ _ _ _ _ _ _ hp (show _ + (bc - 1) ≤ bc by omega) (show _ + (bs - x2_2.toNatClampNeg) ≤ bs by omega) hH (lv_sub hl [0, 1, 2] rfl)
      refine lv_if_eq (pc := 5) (tgt := 29) hx hb dX5_keepWay_5 (by decide) (fun cc_4 => ?_) (fun cc_4 => ?_)
      · have hp := hp.1 cc_4
        exact kj_5  _ _ _ _ _ hp (show _ + bc ≤ bc by omega) (show _ + bs ≤ bs by omega) hH (lv_sub hl [0, 1, 2] rfl)
      · have hp := hp.2 cc_4
        refine lv_iload_n (pc := 8) hx hb dX5_keepWay_8 rfl (lv_at hl 2 rfl) ?_
        refine lv_aload_n (pc := 9) hx hb dX5_keepWay_9 rfl (lv_at hl 0 rfl) ?_
        refine sx_getR (pc := 10) (j := 2) B hH hk_th coX5 rfl w_400 rfl dX5_keepWay_10 ?_
        refine W.eq (g2 := F0 m 13 ls [va_rf (gR S th 2), .int x2_2]) rfl ?_
        obtain ⟨a_40, ha_40, hp⟩ := hp
        refine sx_nonnull (x := a_40) ha_40 ?_
        obtain ⟨hk_41, hp⟩ := hp
        refine sx_alen (pc := 13) B hH hk_41 (by decide) (by decide) dX5_keepWay_13 ?_
        refine W.eq (g2 := F0 m 14 ls [.int (nI (ln S a_40)), .int x2_2]) rfl ?_
        refine lv_icmp_ge (pc := 14) (tgt := 29) hx hb dX5_keepWay_14 (by decide) (fun cc_42 => ?_) (fun cc_42 => ?_)
        · have hp := hp.1 cc_42
          exact kj_5  _ _ _ _ _ hp (show _ + bc ≤ bc by omega) (show _ + bs ≤ bs by omega) hH (lv_sub hl [0, 1, 2] rfl)
        · have hp := hp.2 cc_42
          obtain ⟨v_43, ev_43⟩ : ∃ y : Int32, y = x2_2 + 1 := ⟨_, rfl⟩
          have hp := hp v_43 ev_43
          refine lv_iinc (pc := 17) (v := v_43) (lv' := [(2, .int v_43), (0, .ref th), (1, .int p0), (3, .int x3_3)]) hx hb dX5_keepWay_17 hl (k := 2) rfl (by rw [ev_43]; rfl) (by decide) rfl (fun ls hl => ?_)
          refine lv_aload_n (pc := 20) hx hb dX5_keepWay_20 rfl (lv_at hl 1 rfl) ?_
          refine lv_iload_n (pc := 21) hx hb dX5_keepWay_21 rfl (lv_at hl 3 rfl) ?_
          refine sx_V (pc := 22) (As := [.int x3_3]) (rest := []) B hH hl.1 (C_X5_rowAhead G l th x3_3 _ _ hp) mi_X5_rowAhead coX5 hk_th w_1237 w_40 w_1235 rfl rfl ⟨Nat.le_of_ble_eq_true rfl, Nat.le_of_ble_eq_true rfl⟩ (Nat.le_of_ble_eq_true rfl) ⟨(show _ + 0 ≤ bc by omega), (show _ + 0 ≤ bs by omega)⟩ dX5_keepWay_22 (fun v S1 H locs hq hH => ?_)
          obtain ⟨r_44, rfl, e9, hp⟩ := hq
          rw [e9] at hH
          refine W.eq (g2 := F0 m 25 ls [.int r_44]) rfl ?_
          refine lv_istore_n (pc := 25) (lv' := [(3, .int r_44), (2, .int v_43), (0, .ref th), (1, .int p0)]) hx hb dX5_keepWay_25 rfl hl (by decide) rfl (fun ls hl => ?_)
          refine lv_goto (pc := 26) (tgt := 4) hx hb dX5_keepWay_26 (by decide) ?_
          obtain ⟨k9, hlt9, hp⟩ := hp
          exact ih_1 k9 hlt9 _ _ _ _ _ _ _ hp (show _ + bc ≤ bc by omega) (show _ + bs ≤ bs by omega) hH (lv_sub hl [2, 3, 1, 0] rfl)
  exact kl_1 k0_1 _ _ _ _ _ _ _ h0_1 (show _ + bc ≤ bc by omega) (show _ + bs ≤ bs by omega) hH (lv_sub hl [2, 3, 1, 0] rfl)
theorem dX2_begin_0 : decode cX2_begin 0 = .ok (.aload_n 0, 1) := by decide +kernel
theorem dX2_begin_1 : decode cX2_begin 1 = .ok (.getfield 15, 3) := by decide +kernel
theorem dX2_begin_4 : decode cX2_begin 4 = .ok (.iload_n 1, 1) := by decide +kernel
theorem dX2_begin_5 : decode cX2_begin 5 = .ok (.iload_n 2, 1) := by decide +kernel
theorem dX2_begin_6 : decode cX2_begin 6 = .ok (.iastore, 1) := by decide +kernel
theorem dX2_begin_7 : decode cX2_begin 7 = .ok (.aload_n 0, 1) := by decide +kernel
theorem dX2_begin_8 : decode cX2_begin 8 = .ok (.getfield 18, 3) := by decide +kernel
theorem dX2_begin_11 : decode cX2_begin 11 = .ok (.iload_n 1, 1) := by decide +kernel
theorem dX2_begin_12 : decode cX2_begin 12 = .ok (.iload_n 2, 1) := by decide +kernel
theorem dX2_begin_13 : decode cX2_begin 13 = .ok (.iload_n 3, 1) := by decide +kernel
theorem dX2_begin_14 : decode cX2_begin 14 = .ok (.invokestatic 84, 3) := by decide +kernel
theorem dX2_begin_17 : decode cX2_begin 17 = .ok (.iastore, 1) := by decide +kernel
theorem dX2_begin_18 : decode cX2_begin 18 = .ok (.aload_n 0, 1) := by decide +kernel
theorem dX2_begin_19 : decode cX2_begin 19 = .ok (.getfield 9, 3) := by decide +kernel
theorem dX2_begin_22 : decode cX2_begin 22 = .ok (.iload_n 1, 1) := by decide +kernel
theorem dX2_begin_23 : decode cX2_begin 23 = .ok (.iconst (-1), 1) := by decide +kernel
theorem dX2_begin_24 : decode cX2_begin 24 = .ok (.iastore, 1) := by decide +kernel
theorem dX2_begin_25 : decode cX2_begin 25 = .ok (.return_, 1) := by decide +kernel
theorem mi_X2_begin : MI yX2_begin cX2_begin 4 (none : Option Jvm.ClassFile.FieldType) 3 := ⟨w_1267, w_117, by decide +kernel, by decide +kernel, by decide +kernel⟩
set_option maxRecDepth 100000 in
set_option maxHeartbeats 4000000 in
theorem C_X2_begin (G : GG) (l : Launch) (th : Nat) (p0 : Int32) (p1 : Int32) (p2 : Int32) (S : St) (Q : (Nat → Nat → Int32) → Prop) (hp : P_X2_begin th p0 p1 p2 S Q) : Ctr G l yX2_begin cX2_begin 4 (none : Option Jvm.ClassFile.FieldType) 1 23 0 0 [.ref th, .int p0, .int p1, .int p2] S (fun (v : Option Value) (S9 : St) => ∃ (I9 : Nat → Nat → Int32), v = none ∧ S9 = wI S I9 ∧ Q I9) := by
  generalize hQQ : (fun (v : Option Value) (S9 : St) => ∃ (I9 : Nat → Nat → Int32), v = none ∧ S9 = wI S I9 ∧ Q I9) = QQ
  unfold P_X2_begin at hp
  refine Ctr.of (by decide) (Nat.le_of_ble_eq_true rfl) ?_
  intro p e s m args below meth c ls B hr hlk hin hl hH
  generalize hlocs0 : ([] : List Loc) = locs at hH ⊢
  have hx := B.1
  have hb := B.2.1
  have hl : lv_has ls 4 [(0, .ref th), (1, .int p0), (2, .int p1), (3, .int p2)] := hl
  obtain ⟨hk_th, hp⟩ := hp
  refine lv_aload_n (pc := 0) hx hb dX2_begin_0 rfl (lv_at hl 0 rfl) ?_
  refine sx_getR (pc := 1) (j := 1) B hH hk_th coX2 rfl w_436 rfl dX2_begin_1 ?_
  refine W.eq (g2 := F0 m 4 ls [va_rf (gR S th 1)]) rfl ?_
  obtain ⟨a_1, ha_1, hp⟩ := hp
  refine sx_nonnull (x := a_1) ha_1 ?_
  refine lv_iload_n (pc := 4) hx hb dX2_begin_4 rfl (lv_at hl 1 rfl) ?_
  refine lv_iload_n (pc := 5) hx hb dX2_begin_5 rfl (lv_at hl 2 rfl) ?_
  obtain ⟨hk_2, hp⟩ := hp
  obtain ⟨hn_3, hp⟩ := hp
  obtain ⟨F_4, eF_4⟩ : ∃ z : Nat → Nat → Int32, z = upI (gI S) a_1 p0.toNatClampNeg p1 := ⟨_, rfl⟩
  have hp := hp F_4 eF_4
  refine sx_iast (pc := 6) B hH hk_2 hn_3 dX2_begin_6 (fun H locs hH => ?_)
  have hH : Hp G (FA S s.heap.size) s.heap (wI S F_4) H locs := by rw [eF_4]; exact hH
  refine lv_aload_n (pc := 7) hx hb dX2_begin_7 rfl (lv_at hl 0 rfl) ?_
  refine sx_getR (pc := 8) (j := 2) B hH hk_th coX2 rfl w_437 rfl dX2_begin_8 ?_
  refine W.eq (g2 := F0 m 11 ls [va_rf (gR S th 2)]) rfl ?_
  obtain ⟨a_5, ha_5, hp⟩ := hp
  refine sx_nonnull (x := a_5) ha_5 ?_
  refine lv_iload_n (pc := 11) hx hb dX2_begin_11 rfl (lv_at hl 1 rfl) ?_
  refine lv_iload_n (pc := 12) hx hb dX2_begin_12 rfl (lv_at hl 2 rfl) ?_
  refine lv_iload_n (pc := 13) hx hb dX2_begin_13 rfl (lv_at hl 3 rfl) ?_
  refine sx_S (pc := 14) (As := [.int p1, .int p2]) (rest := [.int p0, .ref a_5]) B hH hl.1 (C_X4_invert G l p1 p2 _ _ hp) mi_X4_invert w_903 w_1268 rfl rfl ⟨Nat.le_of_ble_eq_true rfl, Nat.le_of_ble_eq_true rfl⟩ (Nat.le_of_ble_eq_true rfl) ⟨Nat.le_of_ble_eq_true rfl, Nat.le_of_ble_eq_true rfl⟩ dX2_begin_14 (fun v S1 H locs hq hH => ?_)
  obtain ⟨r_6, rfl, e9, hp⟩ := hq
  rw [e9] at hH
  refine W.eq (g2 := F0 m 17 ls [.int r_6, .int p0, .ref a_5]) rfl ?_
  obtain ⟨hk_7, hp⟩ := hp
  obtain ⟨hn_8, hp⟩ := hp
  obtain ⟨F_9, eF_9⟩ : ∃ z : Nat → Nat → Int32, z = upI F_4 a_5 p0.toNatClampNeg r_6 := ⟨_, rfl⟩
  have hp := hp F_9 eF_9
  refine sx_iast (pc := 17) B hH hk_7 hn_8 dX2_begin_17 (fun H locs hH => ?_)
  have hH : Hp G (FA S s.heap.size) s.heap (wI S F_9) H locs := by rw [eF_9]; exact hH
  refine lv_aload_n (pc := 18) hx hb dX2_begin_18 rfl (lv_at hl 0 rfl) ?_
  refine sx_getR (pc := 19) (j := 0) B hH hk_th coX2 rfl w_435 rfl dX2_begin_19 ?_
  refine W.eq (g2 := F0 m 22 ls [va_rf (gR S th 0)]) rfl ?_
  obtain ⟨a_10, ha_10, hp⟩ := hp
  refine sx_nonnull (x := a_10) ha_10 ?_
  refine lv_iload_n (pc := 22) hx hb dX2_begin_22 rfl (lv_at hl 1 rfl) ?_
  refine lv_iconst (pc := 23) (v := (-1)) hx hb dX2_begin_23 (by decide) ?_
  obtain ⟨hk_11, hp⟩ := hp
  obtain ⟨hn_12, hp⟩ := hp
  obtain ⟨F_13, eF_13⟩ : ∃ z : Nat → Nat → Int32, z = upI F_9 a_10 p0.toNatClampNeg (-1) := ⟨_, rfl⟩
  have hp := hp F_13 eF_13
  refine sx_iast (pc := 24) B hH hk_11 hn_12 dX2_begin_24 (fun H locs hH => ?_)
  have hH : Hp G (FA S s.heap.size) s.heap (wI S F_13) H locs := by rw [eF_13]; exact hH
  exact sx_vret (pc := 25) B hH hr hlk (by rw [← hQQ]; exact ⟨F_13, rfl, rfl, hp⟩) (Nat.le_of_ble_eq_true rfl) (Nat.le_of_ble_eq_true rfl) dX2_begin_25
theorem dX6_has_0 : decode cX6_has 0 = .ok (.iload_n 1, 1) := by decide +kernel
theorem dX6_has_1 : decode cX6_has 1 = .ok (.ifCond .lt 29, 3) := by decide +kernel
theorem dX6_has_4 : decode cX6_has 4 = .ok (.iload_n 1, 1) := by decide +kernel
theorem dX6_has_5 : decode cX6_has 5 = .ok (.aload_n 0, 1) := by decide +kernel
theorem dX6_has_6 : decode cX6_has 6 = .ok (.getfield 7, 3) := by decide +kernel
theorem dX6_has_9 : decode cX6_has 9 = .ok (.arraylength, 1) := by decide +kernel
theorem dX6_has_10 : decode cX6_has 10 = .ok (.if_icmp .ge 20, 3) := by decide +kernel
theorem dX6_has_13 : decode cX6_has 13 = .ok (.aload_n 0, 1) := by decide +kernel
theorem dX6_has_14 : decode cX6_has 14 = .ok (.getfield 7, 3) := by decide +kernel
theorem dX6_has_17 : decode cX6_has 17 = .ok (.iload_n 1, 1) := by decide +kernel
theorem dX6_has_18 : decode cX6_has 18 = .ok (.iaload, 1) := by decide +kernel
theorem dX6_has_19 : decode cX6_has 19 = .ok (.aload_n 0, 1) := by decide +kernel
theorem dX6_has_20 : decode cX6_has 20 = .ok (.getfield 13, 3) := by decide +kernel
theorem dX6_has_23 : decode cX6_has 23 = .ok (.if_icmp .ne 7, 3) := by decide +kernel
theorem dX6_has_26 : decode cX6_has 26 = .ok (.iconst 1, 1) := by decide +kernel
theorem dX6_has_27 : decode cX6_has 27 = .ok (.goto 4, 3) := by decide +kernel
theorem dX6_has_30 : decode cX6_has 30 = .ok (.iconst 0, 1) := by decide +kernel
theorem dX6_has_31 : decode cX6_has 31 = .ok (.ireturn, 1) := by decide +kernel
theorem mi_X6_has : MI yX6_has cX6_has 2 (some FieldType.boolean) 1 := ⟨w_1279, w_115, by decide +kernel, by decide +kernel, by decide +kernel⟩
set_option maxRecDepth 100000 in
set_option maxHeartbeats 4000000 in
theorem C_X6_has (G : GG) (l : Launch) (th : Nat) (p0 : Int32) (S : St) (Q : Int32 → Prop) (hp : P_X6_has th p0 S Q) : Ctr G l yX6_has cX6_has 2 (some FieldType.boolean) 0 0 0 0 [.ref th, .int p0] S (fun (v : Option Value) (S9 : St) => ∃ (r : Int32), v = some (.int r) ∧ S9 = S ∧ Q r ) := by
  generalize hQQ : (fun (v : Option Value) (S9 : St) => ∃ (r : Int32), v = some (.int r) ∧ S9 = S ∧ Q r ) = QQ
  unfold P_X6_has at hp
  refine Ctr.of (by decide) (Nat.le_of_ble_eq_true rfl) ?_
  intro p e s m args below meth c ls B hr hlk hin hl hH
  generalize hlocs0 : ([] : List Loc) = locs at hH ⊢
  have hx := B.1
  have hb := B.2.1
  have hl : lv_has ls 2 [(0, .ref th), (1, .int p0)] := hl
  obtain ⟨hk_th, hp⟩ := hp
  refine lv_iload_n (pc := 0) hx hb dX6_has_0 rfl (lv_at hl 1 rfl) ?_
  refine lv_if_lt (pc := 1) (tgt := 30) hx hb dX6_has_1 (by decide) (fun cc_1 => ?_) (fun cc_1 => ?_)
  · have hp := hp.1 cc_1
    refine lv_iconst (pc := 30) (v := 0) hx hb dX6_has_30 (by decide) ?_
    exact sx_zret (pc := 31) B hH hr hlk (Or.inl rfl) (by rw [← hQQ]; exact ⟨_, rfl, rfl, hp⟩) (Nat.le_of_ble_eq_true rfl) (Nat.le_of_ble_eq_true rfl) dX6_has_31
  · have hp := hp.2 cc_1
    refine lv_iload_n (pc := 4) hx hb dX6_has_4 rfl (lv_at hl 1 rfl) ?_
    refine lv_aload_n (pc := 5) hx hb dX6_has_5 rfl (lv_at hl 0 rfl) ?_
    refine sx_getR (pc := 6) (j := 0) B hH hk_th coX6 rfl w_385 rfl dX6_has_6 ?_
    refine W.eq (g2 := F0 m 9 ls [va_rf (gR S th 0), .int p0]) rfl ?_
    obtain ⟨a_2, ha_2, hp⟩ := hp
    refine sx_nonnull (x := a_2) ha_2 ?_
    obtain ⟨hk_3, hp⟩ := hp
    refine sx_alen (pc := 9) B hH hk_3 (by decide) (by decide) dX6_has_9 ?_
    refine W.eq (g2 := F0 m 10 ls [.int (nI (ln S a_2)), .int p0]) rfl ?_
    refine lv_icmp_ge (pc := 10) (tgt := 30) hx hb dX6_has_10 (by decide) (fun cc_4 => ?_) (fun cc_4 => ?_)
    · have hp := hp.1 cc_4
      refine lv_iconst (pc := 30) (v := 0) hx hb dX6_has_30 (by decide) ?_
      exact sx_zret (pc := 31) B hH hr hlk (Or.inl rfl) (by rw [← hQQ]; exact ⟨_, rfl, rfl, hp⟩) (Nat.le_of_ble_eq_true rfl) (Nat.le_of_ble_eq_true rfl) dX6_has_31
    · have hp := hp.2 cc_4
      refine lv_aload_n (pc := 13) hx hb dX6_has_13 rfl (lv_at hl 0 rfl) ?_
      refine sx_getR (pc := 14) (j := 0) B hH hk_th coX6 rfl w_385 rfl dX6_has_14 ?_
      refine W.eq (g2 := F0 m 17 ls [va_rf (gR S th 0)]) rfl ?_
      refine sx_nonnull (x := a_2) ha_2 ?_
      refine lv_iload_n (pc := 17) hx hb dX6_has_17 rfl (lv_at hl 1 rfl) ?_
      obtain ⟨hn_5, hp⟩ := hp
      refine sx_iald (pc := 18) B hH hk_3 hn_5 dX6_has_18 ?_
      refine W.eq (g2 := F0 m 19 ls [.int (gI S a_2 p0.toNatClampNeg)]) rfl ?_
      refine lv_aload_n (pc := 19) hx hb dX6_has_19 rfl (lv_at hl 0 rfl) ?_
      refine sx_getI (pc := 20) (j := 1) B hH hk_th coX6 rfl w_386 rfl dX6_has_20 ?_
      refine W.eq (g2 := F0 m 23 ls [.int (gI S th 1), .int (gI S a_2 p0.toNatClampNeg)]) rfl ?_
      refine lv_icmp_ne (pc := 23) (tgt := 30) hx hb dX6_has_23 (by decide) (fun cc_6 => ?_) (fun cc_6 => ?_)
      · have hp := hp.1 cc_6
        refine lv_iconst (pc := 30) (v := 0) hx hb dX6_has_30 (by decide) ?_
        exact sx_zret (pc := 31) B hH hr hlk (Or.inl rfl) (by rw [← hQQ]; exact ⟨_, rfl, rfl, hp⟩) (Nat.le_of_ble_eq_true rfl) (Nat.le_of_ble_eq_true rfl) dX6_has_31
      · have hp := hp.2 cc_6
        refine lv_iconst (pc := 26) (v := 1) hx hb dX6_has_26 (by decide) ?_
        refine lv_goto (pc := 27) (tgt := 31) hx hb dX6_has_27 (by decide) ?_
        exact sx_zret (pc := 31) B hH hr hlk (Or.inr rfl) (by rw [← hQQ]; exact ⟨_, rfl, rfl, hp⟩) (Nat.le_of_ble_eq_true rfl) (Nat.le_of_ble_eq_true rfl) dX6_has_31
theorem dX2_isFalse_0 : decode cX2_isFalse 0 = .ok (.iconst 0, 1) := by decide +kernel
theorem dX2_isFalse_1 : decode cX2_isFalse 1 = .ok (.istore 5, 2) := by decide +kernel
theorem dX2_isFalse_3 : decode cX2_isFalse 3 = .ok (.iload 5, 2) := by decide +kernel
theorem dX2_isFalse_5 : decode cX2_isFalse 5 = .ok (.iload_n 1, 1) := by decide +kernel
theorem dX2_isFalse_6 : decode cX2_isFalse 6 = .ok (.if_icmp .ge 31, 3) := by decide +kernel
theorem dX2_isFalse_9 : decode cX2_isFalse 9 = .ok (.aload 4, 2) := by decide +kernel
theorem dX2_isFalse_11 : decode cX2_isFalse 11 = .ok (.aload_n 0, 1) := by decide +kernel
theorem dX2_isFalse_12 : decode cX2_isFalse 12 = .ok (.getfield 18, 3) := by decide +kernel
theorem dX2_isFalse_15 : decode cX2_isFalse 15 = .ok (.iload 5, 2) := by decide +kernel
theorem dX2_isFalse_17 : decode cX2_isFalse 17 = .ok (.iaload, 1) := by decide +kernel
theorem dX2_isFalse_18 : decode cX2_isFalse 18 = .ok (.iload_n 2, 1) := by decide +kernel
theorem dX2_isFalse_19 : decode cX2_isFalse 19 = .ok (.iload_n 3, 1) := by decide +kernel
theorem dX2_isFalse_20 : decode cX2_isFalse 20 = .ok (.invokestatic 87, 3) := by decide +kernel
theorem dX2_isFalse_23 : decode cX2_isFalse 23 = .ok (.invokevirtual 90, 3) := by decide +kernel
theorem dX2_isFalse_26 : decode cX2_isFalse 26 = .ok (.ifCond .eq 5, 3) := by decide +kernel
theorem dX2_isFalse_29 : decode cX2_isFalse 29 = .ok (.iconst 1, 1) := by decide +kernel
theorem dX2_isFalse_30 : decode cX2_isFalse 30 = .ok (.ireturn, 1) := by decide +kernel
theorem dX2_isFalse_31 : decode cX2_isFalse 31 = .ok (.iinc 5 1, 3) := by decide +kernel
theorem dX2_isFalse_34 : decode cX2_isFalse 34 = .ok (.goto (-31), 3) := by decide +kernel
theorem dX2_isFalse_37 : decode cX2_isFalse 37 = .ok (.iconst 0, 1) := by decide +kernel
theorem dX2_isFalse_38 : decode cX2_isFalse 38 = .ok (.ireturn, 1) := by decide +kernel
theorem mi_X2_isFalse : MI yX2_isFalse cX2_isFalse 6 (some FieldType.boolean) 4 := ⟨w_1274, w_117, by decide +kernel, by decide +kernel, by decide +kernel⟩
set_option maxRecDepth 100000 in
set_option maxHeartbeats 4000000 in
theorem C_X2_isFalse (G : GG) (l : Launch) (th : Nat) (p0 : Int32) (p1 : Int32) (p2 : Int32) (p3 : Nat) (S : St) (Q : Int32 → Prop) (hp : P_X2_isFalse th p0 p1 p2 p3 S Q) : Ctr G l yX2_isFalse cX2_isFalse 6 (some FieldType.boolean) 1 26 0 0 [.ref th, .int p0, .int p1, .int p2, .ref p3] S (fun (v : Option Value) (S9 : St) => ∃ (r : Int32), v = some (.int r) ∧ S9 = S ∧ Q r ) := by
  generalize hQQ : (fun (v : Option Value) (S9 : St) => ∃ (r : Int32), v = some (.int r) ∧ S9 = S ∧ Q r ) = QQ
  unfold P_X2_isFalse at hp
  refine Ctr.of (by decide) (Nat.le_of_ble_eq_true rfl) ?_
  intro p e s m args below meth c ls B hr hlk hin hl hH
  generalize hlocs0 : ([] : List Loc) = locs at hH ⊢
  have hx := B.1
  have hb := B.2.1
  have hl : lv_has ls 6 [(0, .ref th), (1, .int p0), (2, .int p1), (3, .int p2), (4, .ref p3)] := hl
  obtain ⟨hk_th, hp⟩ := hp
  refine lv_iconst (pc := 0) (v := 0) hx hb dX2_isFalse_0 (by decide) ?_
  refine lv_istore (pc := 1) (lv' := [(5, .int 0), (0, .ref th), (1, .int p0), (2, .int p1), (3, .int p2), (4, .ref p3)]) hx hb dX2_isFalse_1 hl (by decide) rfl (fun ls hl => ?_)
  obtain ⟨I_1, ⟨k0_1, h0_1⟩, hst_1⟩ := hp
  have kl_1 : ∀ (n_1 : Nat) (x5_2 : Int32) (H : Heap) (locs : List Loc) (ls : Array Slot), I_1 n_1 x5_2 → Hp G (FA S s.heap.size) s.heap S H locs → lv_has ls 6 [(0, .ref th), (1, .int p0), (2, .int p1), (3, .int p2), (4, .ref p3), (5, .int x5_2)] → Wm G p l e { frames := 1, cells := 0, slots := 0, locals := 26 } s m args below meth c S QQ 0 0 H locs 0 0 (F0 m 3 ls []) := by
    intro n_1
    induction n_1 using Nat.strongRecOn with
    | ind n_1 ih_1 =>
      intro x5_2 H locs ls hq9 hH hl
      have hp := hst_1 n_1 x5_2 hq9
      refine lv_iload (pc := 3) hx hb dX2_isFalse_3 (lv_at hl 5 rfl) ?_
      refine lv_iload_n (pc := 5) hx hb dX2_isFalse_5 rfl (lv_at hl 1 rfl) ?_
      refine lv_icmp_ge (pc := 6) (tgt := 37) hx hb dX2_isFalse_6 (by decide) (fun cc_3 => ?_) (fun cc_3 => ?_)
      · have hp := hp.1 cc_3
        refine lv_iconst (pc := 37) (v := 0) hx hb dX2_isFalse_37 (by decide) ?_
        exact sx_zret (pc := 38) B hH hr hlk (Or.inl rfl) (by rw [← hQQ]; exact ⟨_, rfl, rfl, hp⟩) (Nat.le_of_ble_eq_true rfl) (Nat.le_of_ble_eq_true rfl) dX2_isFalse_38
      · have hp := hp.2 cc_3
        refine lv_aload (pc := 9) hx hb dX2_isFalse_9 (lv_at hl 4 rfl) ?_
        refine lv_aload_n (pc := 11) hx hb dX2_isFalse_11 rfl (lv_at hl 0 rfl) ?_
        refine sx_getR (pc := 12) (j := 2) B hH hk_th coX2 rfl w_437 rfl dX2_isFalse_12 ?_
        refine W.eq (g2 := F0 m 15 ls [va_rf (gR S th 2), .ref p3]) rfl ?_
        obtain ⟨a_4, ha_4, hp⟩ := hp
        refine sx_nonnull (x := a_4) ha_4 ?_
        refine lv_iload (pc := 15) hx hb dX2_isFalse_15 (lv_at hl 5 rfl) ?_
        obtain ⟨hk_5, hp⟩ := hp
        obtain ⟨hn_6, hp⟩ := hp
        refine sx_iald (pc := 17) B hH hk_5 hn_6 dX2_isFalse_17 ?_
        refine W.eq (g2 := F0 m 18 ls [.int (gI S a_4 x5_2.toNatClampNeg), .ref p3]) rfl ?_
        refine lv_iload_n (pc := 18) hx hb dX2_isFalse_18 rfl (lv_at hl 2 rfl) ?_
        refine lv_iload_n (pc := 19) hx hb dX2_isFalse_19 rfl (lv_at hl 3 rfl) ?_
        refine sx_S (pc := 20) (As := [.int (gI S a_4 x5_2.toNatClampNeg), .int p1, .int p2]) (rest := [.ref p3]) B hH hl.1 (C_X4_rankMultiplied G l (gI S a_4 x5_2.toNatClampNeg) p1 p2 _ _ hp) mi_X4_rankMultiplied w_896 w_1275 rfl rfl ⟨Nat.le_of_ble_eq_true rfl, Nat.le_of_ble_eq_true rfl⟩ (Nat.le_of_ble_eq_true rfl) ⟨Nat.le_of_ble_eq_true rfl, Nat.le_of_ble_eq_true rfl⟩ dX2_isFalse_20 (fun v S1 H locs hq hH => ?_)
        obtain ⟨r_7, rfl, e9, hp⟩ := hq
        rw [e9] at hH
        refine W.eq (g2 := F0 m 23 ls [.int r_7, .ref p3]) rfl ?_
        obtain ⟨hk_8, hp⟩ := hp
        refine sx_V (pc := 23) (As := [.int r_7]) (rest := []) B hH hl.1 (C_X6_has G l p3 r_7 _ _ hp) mi_X6_has coX6 hk_8 w_1277 w_1278 w_1276 rfl rfl ⟨Nat.le_of_ble_eq_true rfl, Nat.le_of_ble_eq_true rfl⟩ (Nat.le_of_ble_eq_true rfl) ⟨Nat.le_of_ble_eq_true rfl, Nat.le_of_ble_eq_true rfl⟩ dX2_isFalse_23 (fun v S1 H locs hq hH => ?_)
        obtain ⟨r_9, rfl, e9, hp⟩ := hq
        rw [e9] at hH
        refine W.eq (g2 := F0 m 26 ls [.int r_9]) rfl ?_
        refine lv_if_eq (pc := 26) (tgt := 31) hx hb dX2_isFalse_26 (by decide) (fun cc_10 => ?_) (fun cc_10 => ?_)
        · have hp := hp.1 cc_10
          obtain ⟨v_11, ev_11⟩ : ∃ y : Int32, y = x5_2 + 1 := ⟨_, rfl⟩
          have hp := hp v_11 ev_11
          refine lv_iinc (pc := 31) (v := v_11) (lv' := [(5, .int v_11), (0, .ref th), (1, .int p0), (2, .int p1), (3, .int p2), (4, .ref p3)]) hx hb dX2_isFalse_31 hl (k := 5) rfl (by rw [ev_11]; rfl) (by decide) rfl (fun ls hl => ?_)
          refine lv_goto (pc := 34) (tgt := 3) hx hb dX2_isFalse_34 (by decide) ?_
          obtain ⟨k9, hlt9, hp⟩ := hp
          exact ih_1 k9 hlt9 _ _ _ _ hp hH (lv_sub hl [1, 2, 3, 4, 5, 0] rfl)
        · have hp := hp.2 cc_10
          refine lv_iconst (pc := 29) (v := 1) hx hb dX2_isFalse_29 (by decide) ?_
          exact sx_zret (pc := 30) B hH hr hlk (Or.inr rfl) (by rw [← hQQ]; exact ⟨_, rfl, rfl, hp⟩) (Nat.le_of_ble_eq_true rfl) (Nat.le_of_ble_eq_true rfl) dX2_isFalse_30
  exact kl_1 k0_1 _ _ _ _ h0_1 hH (lv_sub hl [1, 2, 3, 4, 5, 0] rfl)
theorem dX2_keep_0 : decode cX2_keep 0 = .ok (.aload_n 0, 1) := by decide +kernel
theorem dX2_keep_1 : decode cX2_keep 1 = .ok (.getfield 28, 3) := by decide +kernel
theorem dX2_keep_4 : decode cX2_keep 4 = .ok (.ifCond .ne 22, 3) := by decide +kernel
theorem dX2_keep_7 : decode cX2_keep 7 = .ok (.aload_n 0, 1) := by decide +kernel
theorem dX2_keep_8 : decode cX2_keep 8 = .ok (.getfield 9, 3) := by decide +kernel
theorem dX2_keep_11 : decode cX2_keep 11 = .ok (.iconst 0, 1) := by decide +kernel
theorem dX2_keep_12 : decode cX2_keep 12 = .ok (.aload_n 0, 1) := by decide +kernel
theorem dX2_keep_13 : decode cX2_keep 13 = .ok (.getfield 21, 3) := by decide +kernel
theorem dX2_keep_16 : decode cX2_keep 16 = .ok (.iconst 0, 1) := by decide +kernel
theorem dX2_keep_17 : decode cX2_keep 17 = .ok (.iload_n 1, 1) := by decide +kernel
theorem dX2_keep_18 : decode cX2_keep 18 = .ok (.invokestatic 93, 3) := by decide +kernel
theorem dX2_keep_21 : decode cX2_keep 21 = .ok (.aload_n 0, 1) := by decide +kernel
theorem dX2_keep_22 : decode cX2_keep 22 = .ok (.iload_n 1, 1) := by decide +kernel
theorem dX2_keep_23 : decode cX2_keep 23 = .ok (.putfield 24, 3) := by decide +kernel
theorem dX2_keep_26 : decode cX2_keep 26 = .ok (.aload_n 0, 1) := by decide +kernel
theorem dX2_keep_27 : decode cX2_keep 27 = .ok (.dup, 1) := by decide +kernel
theorem dX2_keep_28 : decode cX2_keep 28 = .ok (.getfield 28, 3) := by decide +kernel
theorem dX2_keep_31 : decode cX2_keep 31 = .ok (.iconst 1, 1) := by decide +kernel
theorem dX2_keep_32 : decode cX2_keep 32 = .ok (.iadd, 1) := by decide +kernel
theorem dX2_keep_33 : decode cX2_keep 33 = .ok (.putfield 28, 3) := by decide +kernel
theorem dX2_keep_36 : decode cX2_keep 36 = .ok (.return_, 1) := by decide +kernel
theorem mi_X2_keep : MI yX2_keep cX2_keep 2 (none : Option Jvm.ClassFile.FieldType) 1 := ⟨w_1283, w_117, by decide +kernel, by decide +kernel, by decide +kernel⟩
set_option maxRecDepth 100000 in
set_option maxHeartbeats 4000000 in
theorem C_X2_keep (G : GG) (l : Launch) (th : Nat) (p0 : Int32) (S : St) (Q : (Nat → Nat → Int32) → Prop) (hp : P_X2_keep th p0 S Q) : Ctr G l yX2_keep cX2_keep 2 (none : Option Jvm.ClassFile.FieldType) 1 26 0 0 [.ref th, .int p0] S (fun (v : Option Value) (S9 : St) => ∃ (I9 : Nat → Nat → Int32), v = none ∧ S9 = wI S I9 ∧ Q I9) := by
  generalize hQQ : (fun (v : Option Value) (S9 : St) => ∃ (I9 : Nat → Nat → Int32), v = none ∧ S9 = wI S I9 ∧ Q I9) = QQ
  unfold P_X2_keep at hp
  refine Ctr.of (by decide) (Nat.le_of_ble_eq_true rfl) ?_
  intro p e s m args below meth c ls B hr hlk hin hl hH
  generalize hlocs0 : ([] : List Loc) = locs at hH ⊢
  have hx := B.1
  have hb := B.2.1
  have hl : lv_has ls 2 [(0, .ref th), (1, .int p0)] := hl
  obtain ⟨hk_th, hp⟩ := hp
  refine lv_aload_n (pc := 0) hx hb dX2_keep_0 rfl (lv_at hl 0 rfl) ?_
  refine sx_getI (pc := 1) (j := 5) B hH hk_th coX2 rfl w_442 rfl dX2_keep_1 ?_
  refine W.eq (g2 := F0 m 4 ls [.int (gI S th 5)]) rfl ?_
  obtain ⟨J_2, hj_2, hp⟩ := hp
  have kj_2 : ∀ (F_3 : Nat → Nat → Int32) (H : Heap) (locs : List Loc) (ls : Array Slot), J_2 F_3 → Hp G (FA S s.heap.size) s.heap (wI S F_3) H locs → lv_has ls 2 [(0, .ref th)] → Wm G p l e { frames := 1, cells := 0, slots := 0, locals := 26 } s m args below meth c S QQ 0 0 H locs 0 0 (F0 m 26 ls []) := by
    intro F_3 H locs ls hq9 hH hl
    have hp := hj_2 F_3 hq9
    refine lv_aload_n (pc := 26) hx hb dX2_keep_26 rfl (lv_at hl 0 rfl) ?_
    refine lv_dup (pc := 27) hx hb dX2_keep_27 rfl ?_
    refine sx_getI (pc := 28) (j := 5) B hH hk_th coX2 rfl w_442 rfl dX2_keep_28 ?_
    refine W.eq (g2 := F0 m 31 ls [.int (F_3 th 5), .ref th]) rfl ?_
    refine lv_iconst (pc := 31) (v := 1) hx hb dX2_keep_31 (by decide) ?_
    refine lv_iadd (pc := 32) hx hb dX2_keep_32 ?_
    refine lv_topi (fun v_4 ev_4 => ?_)
    have hp := hp v_4 ev_4
    obtain ⟨F_5, eF_5⟩ : ∃ z : Nat → Nat → Int32, z = upI F_3 th 5 v_4 := ⟨_, rfl⟩
    have hp := hp F_5 eF_5
    refine sx_putI (pc := 33) (j := 5) B hH hk_th coX2 rfl w_442 rfl (Or.inl rfl) rfl dX2_keep_33 (fun H locs hH => ?_)
    have hH : Hp G (FA S s.heap.size) s.heap (wI S F_5) H locs := by rw [eF_5]; exact hH
    exact sx_vret (pc := 36) B hH hr hlk (by rw [← hQQ]; exact ⟨F_5, rfl, rfl, hp⟩) (Nat.le_of_ble_eq_true rfl) (Nat.le_of_ble_eq_true rfl) dX2_keep_36
  refine lv_if_ne (pc := 4) (tgt := 26) hx hb dX2_keep_4 (by decide) (fun cc_1 => ?_) (fun cc_1 => ?_)
  · have hp := hp.1 cc_1
    exact kj_2 _ _ _ _ hp hH (lv_sub hl [0] rfl)
  · have hp := hp.2 cc_1
    refine lv_aload_n (pc := 7) hx hb dX2_keep_7 rfl (lv_at hl 0 rfl) ?_
    refine sx_getR (pc := 8) (j := 0) B hH hk_th coX2 rfl w_435 rfl dX2_keep_8 ?_
    refine W.eq (g2 := F0 m 11 ls [va_rf (gR S th 0)]) rfl ?_
    obtain ⟨a_6, ha_6, hp⟩ := hp
    refine sx_nonnull (x := a_6) ha_6 ?_
    refine lv_iconst (pc := 11) (v := 0) hx hb dX2_keep_11 (by decide) ?_
    refine lv_aload_n (pc := 12) hx hb dX2_keep_12 rfl (lv_at hl 0 rfl) ?_
    refine sx_getR (pc := 13) (j := 3) B hH hk_th coX2 rfl w_438 rfl dX2_keep_13 ?_
    refine W.eq (g2 := F0 m 16 ls [va_rf (gR S th 3), .int 0, .ref a_6]) rfl ?_
    obtain ⟨a_7, ha_7, hp⟩ := hp
    refine sx_nonnull (x := a_7) ha_7 ?_
    refine lv_iconst (pc := 16) (v := 0) hx hb dX2_keep_16 (by decide) ?_
    refine lv_iload_n (pc := 17) hx hb dX2_keep_17 rfl (lv_at hl 1 rfl) ?_
    obtain ⟨hk_8, hp⟩ := hp
    obtain ⟨hk_9, hp⟩ := hp
    obtain ⟨hc_10, hp⟩ := hp
    obtain ⟨hc_11, hp⟩ := hp
    obtain ⟨hc_12, hp⟩ := hp
    obtain ⟨F_13, eF_13⟩ : ∃ z : Nat → Nat → Int32, z = cpIf (gI S) a_6 a_7 0 0 p0.toNatClampNeg := ⟨_, rfl⟩
    have hp := hp F_13 eF_13
    refine sx_copyI (pc := 18) (rest := []) B hH hl.1 w_1284 w_578 w_577 w_120 hk_8 hk_9 (by decide) (by decide) hc_10 hc_11 hc_12 (Nat.le_of_ble_eq_true rfl) (Nat.le_of_ble_eq_true rfl) dX2_keep_18 (fun H locs hH => ?_)
    have hH : Hp G (FA S s.heap.size) s.heap (wI S F_13) H locs := by rw [eF_13]; exact hH
    refine W.eq (g2 := F0 m 21 ls []) rfl ?_
    refine lv_aload_n (pc := 21) hx hb dX2_keep_21 rfl (lv_at hl 0 rfl) ?_
    refine lv_iload_n (pc := 22) hx hb dX2_keep_22 rfl (lv_at hl 1 rfl) ?_
    obtain ⟨F_14, eF_14⟩ : ∃ z : Nat → Nat → Int32, z = upI F_13 th 4 p0 := ⟨_, rfl⟩
    have hp := hp F_14 eF_14
    refine sx_putI (pc := 23) (j := 4) B hH hk_th coX2 rfl w_440 rfl (Or.inl rfl) rfl dX2_keep_23 (fun H locs hH => ?_)
    have hH : Hp G (FA S s.heap.size) s.heap (wI S F_14) H locs := by rw [eF_14]; exact hH
    exact kj_2 _ _ _ _ hp hH (lv_sub hl [0] rfl)
theorem dX2_tryCalls_0 : decode cX2_tryCalls 0 = .ok (.iload_n 1, 1) := by decide +kernel
theorem dX2_tryCalls_1 : decode cX2_tryCalls 1 = .ok (.invokestatic 58, 3) := by decide +kernel
theorem dX2_tryCalls_4 : decode cX2_tryCalls 4 = .ok (.istore 6, 2) := by decide +kernel
theorem dX2_tryCalls_6 : decode cX2_tryCalls 6 = .ok (.iconst 0, 1) := by decide +kernel
theorem dX2_tryCalls_7 : decode cX2_tryCalls 7 = .ok (.istore 7, 2) := by decide +kernel
theorem dX2_tryCalls_9 : decode cX2_tryCalls 9 = .ok (.aload_n 0, 1) := by decide +kernel
theorem dX2_tryCalls_10 : decode cX2_tryCalls 10 = .ok (.iconst 0, 1) := by decide +kernel
theorem dX2_tryCalls_11 : decode cX2_tryCalls 11 = .ok (.iload 6, 2) := by decide +kernel
theorem dX2_tryCalls_13 : decode cX2_tryCalls 13 = .ok (.iload_n 1, 1) := by decide +kernel
theorem dX2_tryCalls_14 : decode cX2_tryCalls 14 = .ok (.invokevirtual 64, 3) := by decide +kernel
theorem dX2_tryCalls_17 : decode cX2_tryCalls 17 = .ok (.iconst 0, 1) := by decide +kernel
theorem dX2_tryCalls_18 : decode cX2_tryCalls 18 = .ok (.istore 8, 2) := by decide +kernel
theorem dX2_tryCalls_20 : decode cX2_tryCalls 20 = .ok (.iload 8, 2) := by decide +kernel
theorem dX2_tryCalls_22 : decode cX2_tryCalls 22 = .ok (.ldc 68, 2) := by decide +kernel
theorem dX2_tryCalls_24 : decode cX2_tryCalls 24 = .ok (.if_icmp .ge 133, 3) := by decide +kernel
theorem dX2_tryCalls_27 : decode cX2_tryCalls 27 = .ok (.iload 7, 2) := by decide +kernel
theorem dX2_tryCalls_29 : decode cX2_tryCalls 29 = .ok (.ifCond .lt 128, 3) := by decide +kernel
theorem dX2_tryCalls_32 : decode cX2_tryCalls 32 = .ok (.aload_n 0, 1) := by decide +kernel
theorem dX2_tryCalls_33 : decode cX2_tryCalls 33 = .ok (.getfield 9, 3) := by decide +kernel
theorem dX2_tryCalls_36 : decode cX2_tryCalls 36 = .ok (.iload 7, 2) := by decide +kernel
theorem dX2_tryCalls_38 : decode cX2_tryCalls 38 = .ok (.dup2, 1) := by decide +kernel
theorem dX2_tryCalls_39 : decode cX2_tryCalls 39 = .ok (.iaload, 1) := by decide +kernel
theorem dX2_tryCalls_40 : decode cX2_tryCalls 40 = .ok (.iconst 1, 1) := by decide +kernel
theorem dX2_tryCalls_41 : decode cX2_tryCalls 41 = .ok (.iadd, 1) := by decide +kernel
theorem dX2_tryCalls_42 : decode cX2_tryCalls 42 = .ok (.iastore, 1) := by decide +kernel
theorem dX2_tryCalls_43 : decode cX2_tryCalls 43 = .ok (.aload_n 0, 1) := by decide +kernel
theorem dX2_tryCalls_44 : decode cX2_tryCalls 44 = .ok (.getfield 9, 3) := by decide +kernel
theorem dX2_tryCalls_47 : decode cX2_tryCalls 47 = .ok (.iload 7, 2) := by decide +kernel
theorem dX2_tryCalls_49 : decode cX2_tryCalls 49 = .ok (.iaload, 1) := by decide +kernel
theorem dX2_tryCalls_50 : decode cX2_tryCalls 50 = .ok (.iconst 3, 1) := by decide +kernel
theorem dX2_tryCalls_51 : decode cX2_tryCalls 51 = .ok (.if_icmp .lt 9, 3) := by decide +kernel
theorem dX2_tryCalls_54 : decode cX2_tryCalls 54 = .ok (.iinc 7 (-1), 3) := by decide +kernel
theorem dX2_tryCalls_57 : decode cX2_tryCalls 57 = .ok (.goto 94, 3) := by decide +kernel
theorem dX2_tryCalls_60 : decode cX2_tryCalls 60 = .ok (.iload 4, 2) := by decide +kernel
theorem dX2_tryCalls_62 : decode cX2_tryCalls 62 = .ok (.iconst 1, 1) := by decide +kernel
theorem dX2_tryCalls_63 : decode cX2_tryCalls 63 = .ok (.aload_n 0, 1) := by decide +kernel
theorem dX2_tryCalls_64 : decode cX2_tryCalls 64 = .ok (.getfield 9, 3) := by decide +kernel
theorem dX2_tryCalls_67 : decode cX2_tryCalls 67 = .ok (.iload 7, 2) := by decide +kernel
theorem dX2_tryCalls_69 : decode cX2_tryCalls 69 = .ok (.iaload, 1) := by decide +kernel
theorem dX2_tryCalls_70 : decode cX2_tryCalls 70 = .ok (.ishl, 1) := by decide +kernel
theorem dX2_tryCalls_71 : decode cX2_tryCalls 71 = .ok (.iand, 1) := by decide +kernel
theorem dX2_tryCalls_72 : decode cX2_tryCalls 72 = .ok (.ifCond .eq 79, 3) := by decide +kernel
theorem dX2_tryCalls_75 : decode cX2_tryCalls 75 = .ok (.aload_n 0, 1) := by decide +kernel
theorem dX2_tryCalls_76 : decode cX2_tryCalls 76 = .ok (.getfield 15, 3) := by decide +kernel
theorem dX2_tryCalls_79 : decode cX2_tryCalls 79 = .ok (.iload 7, 2) := by decide +kernel
theorem dX2_tryCalls_81 : decode cX2_tryCalls 81 = .ok (.iaload, 1) := by decide +kernel
theorem dX2_tryCalls_82 : decode cX2_tryCalls 82 = .ok (.aload_n 2, 1) := by decide +kernel
theorem dX2_tryCalls_83 : decode cX2_tryCalls 83 = .ok (.getfield 69, 3) := by decide +kernel
theorem dX2_tryCalls_86 : decode cX2_tryCalls 86 = .ok (.aload_n 0, 1) := by decide +kernel
theorem dX2_tryCalls_87 : decode cX2_tryCalls 87 = .ok (.getfield 9, 3) := by decide +kernel
theorem dX2_tryCalls_90 : decode cX2_tryCalls 90 = .ok (.iload 7, 2) := by decide +kernel
theorem dX2_tryCalls_92 : decode cX2_tryCalls 92 = .ok (.iaload, 1) := by decide +kernel
theorem dX2_tryCalls_93 : decode cX2_tryCalls 93 = .ok (.iaload, 1) := by decide +kernel
theorem dX2_tryCalls_94 : decode cX2_tryCalls 94 = .ok (.iload_n 1, 1) := by decide +kernel
theorem dX2_tryCalls_95 : decode cX2_tryCalls 95 = .ok (.invokestatic 72, 3) := by decide +kernel
theorem dX2_tryCalls_98 : decode cX2_tryCalls 98 = .ok (.istore 9, 2) := by decide +kernel
theorem dX2_tryCalls_100 : decode cX2_tryCalls 100 = .ok (.iload 7, 2) := by decide +kernel
theorem dX2_tryCalls_102 : decode cX2_tryCalls 102 = .ok (.iconst 1, 1) := by decide +kernel
theorem dX2_tryCalls_103 : decode cX2_tryCalls 103 = .ok (.iadd, 1) := by decide +kernel
theorem dX2_tryCalls_104 : decode cX2_tryCalls 104 = .ok (.iload_n 3, 1) := by decide +kernel
theorem dX2_tryCalls_105 : decode cX2_tryCalls 105 = .ok (.if_icmp .ge 34, 3) := by decide +kernel
theorem dX2_tryCalls_108 : decode cX2_tryCalls 108 = .ok (.aload_n 0, 1) := by decide +kernel
theorem dX2_tryCalls_109 : decode cX2_tryCalls 109 = .ok (.iload 7, 2) := by decide +kernel
theorem dX2_tryCalls_111 : decode cX2_tryCalls 111 = .ok (.iconst 1, 1) := by decide +kernel
theorem dX2_tryCalls_112 : decode cX2_tryCalls 112 = .ok (.iadd, 1) := by decide +kernel
theorem dX2_tryCalls_113 : decode cX2_tryCalls 113 = .ok (.iload 9, 2) := by decide +kernel
theorem dX2_tryCalls_115 : decode cX2_tryCalls 115 = .ok (.iload_n 1, 1) := by decide +kernel
theorem dX2_tryCalls_116 : decode cX2_tryCalls 116 = .ok (.aload 5, 2) := by decide +kernel
theorem dX2_tryCalls_118 : decode cX2_tryCalls 118 = .ok (.invokevirtual 76, 3) := by decide +kernel
theorem dX2_tryCalls_121 : decode cX2_tryCalls 121 = .ok (.ifCond .ne 30, 3) := by decide +kernel
theorem dX2_tryCalls_124 : decode cX2_tryCalls 124 = .ok (.iinc 7 1, 3) := by decide +kernel
theorem dX2_tryCalls_127 : decode cX2_tryCalls 127 = .ok (.aload_n 0, 1) := by decide +kernel
theorem dX2_tryCalls_128 : decode cX2_tryCalls 128 = .ok (.iload 7, 2) := by decide +kernel
theorem dX2_tryCalls_130 : decode cX2_tryCalls 130 = .ok (.iload 9, 2) := by decide +kernel
theorem dX2_tryCalls_132 : decode cX2_tryCalls 132 = .ok (.iload_n 1, 1) := by decide +kernel
theorem dX2_tryCalls_133 : decode cX2_tryCalls 133 = .ok (.invokevirtual 64, 3) := by decide +kernel
theorem dX2_tryCalls_136 : decode cX2_tryCalls 136 = .ok (.goto 15, 3) := by decide +kernel
theorem dX2_tryCalls_139 : decode cX2_tryCalls 139 = .ok (.iload 9, 2) := by decide +kernel
theorem dX2_tryCalls_141 : decode cX2_tryCalls 141 = .ok (.iload 6, 2) := by decide +kernel
theorem dX2_tryCalls_143 : decode cX2_tryCalls 143 = .ok (.if_icmp .ne 8, 3) := by decide +kernel
theorem dX2_tryCalls_146 : decode cX2_tryCalls 146 = .ok (.aload_n 0, 1) := by decide +kernel
theorem dX2_tryCalls_147 : decode cX2_tryCalls 147 = .ok (.iload_n 3, 1) := by decide +kernel
theorem dX2_tryCalls_148 : decode cX2_tryCalls 148 = .ok (.invokevirtual 80, 3) := by decide +kernel
theorem dX2_tryCalls_151 : decode cX2_tryCalls 151 = .ok (.iinc 8 1, 3) := by decide +kernel
theorem dX2_tryCalls_154 : decode cX2_tryCalls 154 = .ok (.goto (-134), 3) := by decide +kernel
theorem dX2_tryCalls_157 : decode cX2_tryCalls 157 = .ok (.return_, 1) := by decide +kernel
theorem mi_X2_tryCalls : MI yX2_tryCalls cX2_tryCalls 10 (none : Option Jvm.ClassFile.FieldType) 5 := ⟨w_1262, w_117, by decide +kernel, by decide +kernel, by decide +kernel⟩
set_option maxRecDepth 100000 in
set_option maxHeartbeats 4000000 in
theorem C_X2_tryCalls (G : GG) (l : Launch) (th : Nat) (p0 : Int32) (p1 : Nat) (p2 : Int32) (p3 : Int32) (p4 : Nat) (S : St) (Q : (Nat → Nat → Int32) → Prop) (hp : P_X2_tryCalls th p0 p1 p2 p3 p4 S Q) : Ctr G l yX2_tryCalls cX2_tryCalls 10 (none : Option Jvm.ClassFile.FieldType) 2 51 0 0 [.ref th, .int p0, .ref p1, .int p2, .int p3, .ref p4] S (fun (v : Option Value) (S9 : St) => ∃ (I9 : Nat → Nat → Int32), v = none ∧ S9 = wI S I9 ∧ Q I9) := by
  generalize hQQ : (fun (v : Option Value) (S9 : St) => ∃ (I9 : Nat → Nat → Int32), v = none ∧ S9 = wI S I9 ∧ Q I9) = QQ
  unfold P_X2_tryCalls at hp
  refine Ctr.of (by decide) (Nat.le_of_ble_eq_true rfl) ?_
  intro p e s m args below meth c ls B hr hlk hin hl hH
  generalize hlocs0 : ([] : List Loc) = locs at hH ⊢
  have hx := B.1
  have hb := B.2.1
  have hl : lv_has ls 10 [(0, .ref th), (1, .int p0), (2, .ref p1), (3, .int p2), (4, .int p3), (5, .ref p4)] := hl
  obtain ⟨hk_th, hp⟩ := hp
  refine lv_iload_n (pc := 0) hx hb dX2_tryCalls_0 rfl (lv_at hl 1 rfl) ?_
  refine sx_S (pc := 1) (As := [.int p0]) (rest := []) B hH hl.1 (C_X4_roundsOf G l p0 _ _ hp) mi_X4_roundsOf w_706 w_1263 rfl rfl ⟨Nat.le_of_ble_eq_true rfl, Nat.le_of_ble_eq_true rfl⟩ (Nat.le_of_ble_eq_true rfl) ⟨Nat.le_of_ble_eq_true rfl, Nat.le_of_ble_eq_true rfl⟩ dX2_tryCalls_1 (fun v S1 H locs hq hH => ?_)
  obtain ⟨r_1, rfl, e9, hp⟩ := hq
  rw [e9] at hH
  refine W.eq (g2 := F0 m 4 ls [.int r_1]) rfl ?_
  refine lv_istore (pc := 4) (lv' := [(6, .int r_1), (0, .ref th), (1, .int p0), (2, .ref p1), (3, .int p2), (4, .int p3), (5, .ref p4)]) hx hb dX2_tryCalls_4 hl (by decide) rfl (fun ls hl => ?_)
  refine lv_iconst (pc := 6) (v := 0) hx hb dX2_tryCalls_6 (by decide) ?_
  refine lv_istore (pc := 7) (lv' := [(7, .int 0), (6, .int r_1), (0, .ref th), (1, .int p0), (2, .ref p1), (3, .int p2), (4, .int p3), (5, .ref p4)]) hx hb dX2_tryCalls_7 hl (by decide) rfl (fun ls hl => ?_)
  refine lv_aload_n (pc := 9) hx hb dX2_tryCalls_9 rfl (lv_at hl 2 rfl) ?_
  refine lv_iconst (pc := 10) (v := 0) hx hb dX2_tryCalls_10 (by decide) ?_
  refine lv_iload (pc := 11) hx hb dX2_tryCalls_11 (lv_at hl 1 rfl) ?_
  refine lv_iload_n (pc := 13) hx hb dX2_tryCalls_13 rfl (lv_at hl 3 rfl) ?_
  refine sx_V (pc := 14) (As := [.int 0, .int r_1, .int p0]) (rest := []) B hH hl.1 (C_X2_begin G l th 0 r_1 p0 _ _ hp) mi_X2_begin coX2 hk_th w_1266 w_42 w_1264 rfl rfl ⟨Nat.le_of_ble_eq_true rfl, Nat.le_of_ble_eq_true rfl⟩ (Nat.le_of_ble_eq_true rfl) ⟨Nat.le_of_ble_eq_true rfl, Nat.le_of_ble_eq_true rfl⟩ dX2_tryCalls_14 (fun v S1 H locs hq hH => ?_)
  obtain ⟨F_2, rfl, e9, hp⟩ := hq
  rw [e9] at hH
  have hH : Hp G (FA S s.heap.size) s.heap (wI S F_2) H locs := hH
  refine W.eq (g2 := F0 m 17 ls []) rfl ?_
  refine lv_iconst (pc := 17) (v := 0) hx hb dX2_tryCalls_17 (by decide) ?_
  refine lv_istore (pc := 18) (lv' := [(8, .int 0), (7, .int 0), (6, .int r_1), (0, .ref th), (1, .int p0), (2, .ref p1), (3, .int p2), (4, .int p3), (5, .ref p4)]) hx hb dX2_tryCalls_18 hl (by decide) rfl (fun ls hl => ?_)
  obtain ⟨I_3, ⟨k0_3, h0_3⟩, hst_3⟩ := hp
  have kl_3 : ∀ (n_3 : Nat) (x7_4 : Int32) (x8_5 : Int32) (F_6 : Nat → Nat → Int32) (H : Heap) (locs : List Loc) (ls : Array Slot), I_3 n_3 x7_4 x8_5 F_6 → Hp G (FA S s.heap.size) s.heap (wI S F_6) H locs → lv_has ls 10 [(0, .ref th), (1, .int p0), (2, .ref p1), (3, .int p2), (4, .int p3), (5, .ref p4), (6, .int r_1), (7, .int x7_4), (8, .int x8_5)] → Wm G p l e { frames := 2, cells := 0, slots := 0, locals := 51 } s m args below meth c S QQ 0 0 H locs 0 0 (F0 m 20 ls []) := by
    intro n_3
    induction n_3 using Nat.strongRecOn with
    | ind n_3 ih_3 =>
      intro x7_4 x8_5 F_6 H locs ls hq9 hH hl
      have hp := hst_3 n_3 x7_4 x8_5 F_6 hq9
      refine lv_iload (pc := 20) hx hb dX2_tryCalls_20 (lv_at hl 8 rfl) ?_
      refine sx_ldc (pc := 22) (v := 1000000) B w_1269 dX2_tryCalls_22 ?_
      refine lv_icmp_ge (pc := 24) (tgt := 157) hx hb dX2_tryCalls_24 (by decide) (fun cc_7 => ?_) (fun cc_7 => ?_)
      · have hp := hp.1 cc_7
        exact sx_vret (pc := 157) B hH hr hlk (by rw [← hQQ]; exact ⟨F_6, rfl, rfl, hp⟩) (Nat.le_of_ble_eq_true rfl) (Nat.le_of_ble_eq_true rfl) dX2_tryCalls_157
      · have hp := hp.2 cc_7
        refine lv_iload (pc := 27) hx hb dX2_tryCalls_27 (lv_at hl 7 rfl) ?_
        refine lv_if_lt (pc := 29) (tgt := 157) hx hb dX2_tryCalls_29 (by decide) (fun cc_8 => ?_) (fun cc_8 => ?_)
        · have hp := hp.1 cc_8
          exact sx_vret (pc := 157) B hH hr hlk (by rw [← hQQ]; exact ⟨F_6, rfl, rfl, hp⟩) (Nat.le_of_ble_eq_true rfl) (Nat.le_of_ble_eq_true rfl) dX2_tryCalls_157
        · have hp := hp.2 cc_8
          refine lv_aload_n (pc := 32) hx hb dX2_tryCalls_32 rfl (lv_at hl 0 rfl) ?_
          refine sx_getR (pc := 33) (j := 0) B hH hk_th coX2 rfl w_435 rfl dX2_tryCalls_33 ?_
          refine W.eq (g2 := F0 m 36 ls [va_rf (gR S th 0)]) rfl ?_
          obtain ⟨a_9, ha_9, hp⟩ := hp
          refine sx_nonnull (x := a_9) ha_9 ?_
          refine lv_iload (pc := 36) hx hb dX2_tryCalls_36 (lv_at hl 7 rfl) ?_
          refine lv_dup2_11 (pc := 38) hx hb dX2_tryCalls_38 rfl rfl ?_
          obtain ⟨hk_10, hp⟩ := hp
          obtain ⟨hn_11, hp⟩ := hp
          refine sx_iald (pc := 39) B hH hk_10 hn_11 dX2_tryCalls_39 ?_
          refine W.eq (g2 := F0 m 40 ls [.int (F_6 a_9 x7_4.toNatClampNeg), .int x7_4, .ref a_9]) rfl ?_
          refine lv_iconst (pc := 40) (v := 1) hx hb dX2_tryCalls_40 (by decide) ?_
          refine lv_iadd (pc := 41) hx hb dX2_tryCalls_41 ?_
          refine lv_topi (fun v_12 ev_12 => ?_)
          have hp := hp v_12 ev_12
          obtain ⟨F_13, eF_13⟩ : ∃ z : Nat → Nat → Int32, z = upI F_6 a_9 x7_4.toNatClampNeg v_12 := ⟨_, rfl⟩
          have hp := hp F_13 eF_13
          refine sx_iast (pc := 42) B hH hk_10 hn_11 dX2_tryCalls_42 (fun H locs hH => ?_)
          have hH : Hp G (FA S s.heap.size) s.heap (wI S F_13) H locs := by rw [eF_13]; exact hH
          refine lv_aload_n (pc := 43) hx hb dX2_tryCalls_43 rfl (lv_at hl 0 rfl) ?_
          refine sx_getR (pc := 44) (j := 0) B hH hk_th coX2 rfl w_435 rfl dX2_tryCalls_44 ?_
          refine W.eq (g2 := F0 m 47 ls [va_rf (gR S th 0)]) rfl ?_
          refine sx_nonnull (x := a_9) ha_9 ?_
          refine lv_iload (pc := 47) hx hb dX2_tryCalls_47 (lv_at hl 7 rfl) ?_
          refine sx_iald (pc := 49) B hH hk_10 hn_11 dX2_tryCalls_49 ?_
          refine W.eq (g2 := F0 m 50 ls [.int (F_13 a_9 x7_4.toNatClampNeg)]) rfl ?_
          refine lv_iconst (pc := 50) (v := 3) hx hb dX2_tryCalls_50 (by decide) ?_
          refine lv_icmp_lt (pc := 51) (tgt := 60) hx hb dX2_tryCalls_51 (by decide) (fun cc_14 => ?_) (fun cc_14 => ?_)
          · have hp := hp.1 cc_14
            refine lv_iload (pc := 60) hx hb dX2_tryCalls_60 (lv_at hl 4 rfl) ?_
            refine lv_iconst (pc := 62) (v := 1) hx hb dX2_tryCalls_62 (by decide) ?_
            refine lv_aload_n (pc := 63) hx hb dX2_tryCalls_63 rfl (lv_at hl 0 rfl) ?_
            refine sx_getR (pc := 64) (j := 0) B hH hk_th coX2 rfl w_435 rfl dX2_tryCalls_64 ?_
            refine W.eq (g2 := F0 m 67 ls [va_rf (gR S th 0), .int 1, .int p3]) rfl ?_
            refine sx_nonnull (x := a_9) ha_9 ?_
            refine lv_iload (pc := 67) hx hb dX2_tryCalls_67 (lv_at hl 7 rfl) ?_
            refine sx_iald (pc := 69) B hH hk_10 hn_11 dX2_tryCalls_69 ?_
            refine W.eq (g2 := F0 m 70 ls [.int (F_13 a_9 x7_4.toNatClampNeg), .int 1, .int p3]) rfl ?_
            refine lv_ishl (pc := 70) hx hb dX2_tryCalls_70 ?_
            refine W.eq (g2 := F0 m 71 ls [.int (shl 1 (F_13 a_9 x7_4.toNatClampNeg)), .int p3]) rfl ?_
            refine lv_iand (pc := 71) hx hb dX2_tryCalls_71 ?_
            refine lv_if_eq (pc := 72) (tgt := 151) hx hb dX2_tryCalls_72 (by decide) (fun cc_15 => ?_) (fun cc_15 => ?_)
            · have hp := hp.1 cc_15
              obtain ⟨v_16, ev_16⟩ : ∃ y : Int32, y = x8_5 + 1 := ⟨_, rfl⟩
              have hp := hp v_16 ev_16
              refine lv_iinc (pc := 151) (v := v_16) (lv' := [(8, .int v_16), (0, .ref th), (1, .int p0), (2, .ref p1), (3, .int p2), (4, .int p3), (5, .ref p4), (6, .int r_1), (7, .int x7_4)]) hx hb dX2_tryCalls_151 hl (k := 8) rfl (by rw [ev_16]; rfl) (by decide) rfl (fun ls hl => ?_)
              refine lv_goto (pc := 154) (tgt := 20) hx hb dX2_tryCalls_154 (by decide) ?_
              obtain ⟨k9, hlt9, hp⟩ := hp
              exact ih_3 k9 hlt9 _ _ _ _ _ _ hp hH (lv_sub hl [1, 2, 3, 4, 5, 6, 7, 8, 0] rfl)
            · have hp := hp.2 cc_15
              refine lv_aload_n (pc := 75) hx hb dX2_tryCalls_75 rfl (lv_at hl 0 rfl) ?_
              refine sx_getR (pc := 76) (j := 1) B hH hk_th coX2 rfl w_436 rfl dX2_tryCalls_76 ?_
              refine W.eq (g2 := F0 m 79 ls [va_rf (gR S th 1)]) rfl ?_
              obtain ⟨a_17, ha_17, hp⟩ := hp
              refine sx_nonnull (x := a_17) ha_17 ?_
              refine lv_iload (pc := 79) hx hb dX2_tryCalls_79 (lv_at hl 7 rfl) ?_
              obtain ⟨hk_18, hp⟩ := hp
              obtain ⟨hn_19, hp⟩ := hp
              refine sx_iald (pc := 81) B hH hk_18 hn_19 dX2_tryCalls_81 ?_
              refine W.eq (g2 := F0 m 82 ls [.int (F_13 a_17 x7_4.toNatClampNeg)]) rfl ?_
              refine lv_aload_n (pc := 82) hx hb dX2_tryCalls_82 rfl (lv_at hl 2 rfl) ?_
              obtain ⟨hk_20, hp⟩ := hp
              refine sx_getR (pc := 83) (j := 4) B hH hk_20 coX3 rfl w_722 rfl dX2_tryCalls_83 ?_
              refine W.eq (g2 := F0 m 86 ls [va_rf (gR S p1 4), .int (F_13 a_17 x7_4.toNatClampNeg)]) rfl ?_
              obtain ⟨a_21, ha_21, hp⟩ := hp
              refine sx_nonnull (x := a_21) ha_21 ?_
              refine lv_aload_n (pc := 86) hx hb dX2_tryCalls_86 rfl (lv_at hl 0 rfl) ?_
              refine sx_getR (pc := 87) (j := 0) B hH hk_th coX2 rfl w_435 rfl dX2_tryCalls_87 ?_
              refine W.eq (g2 := F0 m 90 ls [va_rf (gR S th 0), .ref a_21, .int (F_13 a_17 x7_4.toNatClampNeg)]) rfl ?_
              refine sx_nonnull (x := a_9) ha_9 ?_
              refine lv_iload (pc := 90) hx hb dX2_tryCalls_90 (lv_at hl 7 rfl) ?_
              refine sx_iald (pc := 92) B hH hk_10 hn_11 dX2_tryCalls_92 ?_
              refine W.eq (g2 := F0 m 93 ls [.int (F_13 a_9 x7_4.toNatClampNeg), .ref a_21, .int (F_13 a_17 x7_4.toNatClampNeg)]) rfl ?_
              obtain ⟨hk_22, hp⟩ := hp
              obtain ⟨hn_23, hp⟩ := hp
              refine sx_iald (pc := 93) B hH hk_22 hn_23 dX2_tryCalls_93 ?_
              refine W.eq (g2 := F0 m 94 ls [.int (F_13 a_21 ((F_13 a_9 x7_4.toNatClampNeg).toNatClampNeg)), .int (F_13 a_17 x7_4.toNatClampNeg)]) rfl ?_
              refine lv_iload_n (pc := 94) hx hb dX2_tryCalls_94 rfl (lv_at hl 1 rfl) ?_
              refine sx_S (pc := 95) (As := [.int (F_13 a_17 x7_4.toNatClampNeg), .int (F_13 a_21 ((F_13 a_9 x7_4.toNatClampNeg).toNatClampNeg)), .int p0]) (rest := []) B hH hl.1 (C_X4_multiply G l (F_13 a_17 x7_4.toNatClampNeg) (F_13 a_21 ((F_13 a_9 x7_4.toNatClampNeg).toNatClampNeg)) p0 _ _ hp) mi_X4_multiply w_914 w_1270 rfl rfl ⟨Nat.le_of_ble_eq_true rfl, Nat.le_of_ble_eq_true rfl⟩ (Nat.le_of_ble_eq_true rfl) ⟨Nat.le_of_ble_eq_true rfl, Nat.le_of_ble_eq_true rfl⟩ dX2_tryCalls_95 (fun v S1 H locs hq hH => ?_)
              obtain ⟨r_24, rfl, e9, hp⟩ := hq
              rw [e9] at hH
              refine W.eq (g2 := F0 m 98 ls [.int r_24]) rfl ?_
              refine lv_istore (pc := 98) (lv' := [(9, .int r_24), (0, .ref th), (1, .int p0), (2, .ref p1), (3, .int p2), (4, .int p3), (5, .ref p4), (6, .int r_1), (7, .int x7_4), (8, .int x8_5)]) hx hb dX2_tryCalls_98 hl (by decide) rfl (fun ls hl => ?_)
              refine lv_iload (pc := 100) hx hb dX2_tryCalls_100 (lv_at hl 8 rfl) ?_
              refine lv_iconst (pc := 102) (v := 1) hx hb dX2_tryCalls_102 (by decide) ?_
              refine lv_iadd (pc := 103) hx hb dX2_tryCalls_103 ?_
              refine lv_iload_n (pc := 104) hx hb dX2_tryCalls_104 rfl (lv_at hl 4 rfl) ?_
              refine lv_icmp_ge (pc := 105) (tgt := 139) hx hb dX2_tryCalls_105 (by decide) (fun cc_25 => ?_) (fun cc_25 => ?_)
              · have hp := hp.1 cc_25
                refine lv_iload (pc := 139) hx hb dX2_tryCalls_139 (lv_at hl 0 rfl) ?_
                refine lv_iload (pc := 141) hx hb dX2_tryCalls_141 (lv_at hl 7 rfl) ?_
                refine lv_icmp_ne (pc := 143) (tgt := 151) hx hb dX2_tryCalls_143 (by decide) (fun cc_26 => ?_) (fun cc_26 => ?_)
                · have hp := hp.1 cc_26
                  obtain ⟨v_27, ev_27⟩ : ∃ y : Int32, y = x8_5 + 1 := ⟨_, rfl⟩
                  have hp := hp v_27 ev_27
                  refine lv_iinc (pc := 151) (v := v_27) (lv' := [(8, .int v_27), (9, .int r_24), (0, .ref th), (1, .int p0), (2, .ref p1), (3, .int p2), (4, .int p3), (5, .ref p4), (6, .int r_1), (7, .int x7_4)]) hx hb dX2_tryCalls_151 hl (k := 9) rfl (by rw [ev_27]; rfl) (by decide) rfl (fun ls hl => ?_)
                  refine lv_goto (pc := 154) (tgt := 20) hx hb dX2_tryCalls_154 (by decide) ?_
                  obtain ⟨k9, hlt9, hp⟩ := hp
                  exact ih_3 k9 hlt9 _ _ _ _ _ _ hp hH (lv_sub hl [2, 3, 4, 5, 6, 7, 8, 9, 0] rfl)
                · have hp := hp.2 cc_26
                  refine lv_aload_n (pc := 146) hx hb dX2_tryCalls_146 rfl (lv_at hl 1 rfl) ?_
                  refine lv_iload_n (pc := 147) hx hb dX2_tryCalls_147 rfl (lv_at hl 4 rfl) ?_
                  refine sx_V (pc := 148) (As := [.int p2]) (rest := []) B hH hl.1 (C_X2_keep G l th p2 _ _ hp) mi_X2_keep coX2 hk_th w_1282 w_44 w_1280 rfl rfl ⟨Nat.le_of_ble_eq_true rfl, Nat.le_of_ble_eq_true rfl⟩ (Nat.le_of_ble_eq_true rfl) ⟨Nat.le_of_ble_eq_true rfl, Nat.le_of_ble_eq_true rfl⟩ dX2_tryCalls_148 (fun v S1 H locs hq hH => ?_)
                  obtain ⟨F_28, rfl, e9, hp⟩ := hq
                  rw [e9] at hH
                  have hH : Hp G (FA S s.heap.size) s.heap (wI S F_28) H locs := hH
                  refine W.eq (g2 := F0 m 151 ls []) rfl ?_
                  obtain ⟨v_29, ev_29⟩ : ∃ y : Int32, y = x8_5 + 1 := ⟨_, rfl⟩
                  have hp := hp v_29 ev_29
                  refine lv_iinc (pc := 151) (v := v_29) (lv' := [(8, .int v_29), (9, .int r_24), (0, .ref th), (1, .int p0), (2, .ref p1), (3, .int p2), (4, .int p3), (5, .ref p4), (6, .int r_1), (7, .int x7_4)]) hx hb dX2_tryCalls_151 hl (k := 9) rfl (by rw [ev_29]; rfl) (by decide) rfl (fun ls hl => ?_)
                  refine lv_goto (pc := 154) (tgt := 20) hx hb dX2_tryCalls_154 (by decide) ?_
                  obtain ⟨k9, hlt9, hp⟩ := hp
                  exact ih_3 k9 hlt9 _ _ _ _ _ _ hp hH (lv_sub hl [2, 3, 4, 5, 6, 7, 8, 9, 0] rfl)
              · have hp := hp.2 cc_25
                refine lv_aload_n (pc := 108) hx hb dX2_tryCalls_108 rfl (lv_at hl 1 rfl) ?_
                refine lv_iload (pc := 109) hx hb dX2_tryCalls_109 (lv_at hl 8 rfl) ?_
                refine lv_iconst (pc := 111) (v := 1) hx hb dX2_tryCalls_111 (by decide) ?_
                refine lv_iadd (pc := 112) hx hb dX2_tryCalls_112 ?_
                refine lv_iload (pc := 113) hx hb dX2_tryCalls_113 (lv_at hl 0 rfl) ?_
                refine lv_iload_n (pc := 115) hx hb dX2_tryCalls_115 rfl (lv_at hl 2 rfl) ?_
                refine lv_aload (pc := 116) hx hb dX2_tryCalls_116 (lv_at hl 6 rfl) ?_
                refine sx_V (pc := 118) (As := [.int (x7_4 + 1), .int r_24, .int p0, .ref p4]) (rest := []) B hH hl.1 (C_X2_isFalse G l th (x7_4 + 1) r_24 p0 p4 _ _ hp) mi_X2_isFalse coX2 hk_th w_1273 w_43 w_1271 rfl rfl ⟨Nat.le_of_ble_eq_true rfl, Nat.le_of_ble_eq_true rfl⟩ (Nat.le_of_ble_eq_true rfl) ⟨Nat.le_of_ble_eq_true rfl, Nat.le_of_ble_eq_true rfl⟩ dX2_tryCalls_118 (fun v S1 H locs hq hH => ?_)
                obtain ⟨r_30, rfl, e9, hp⟩ := hq
                rw [e9] at hH
                refine W.eq (g2 := F0 m 121 ls [.int r_30]) rfl ?_
                refine lv_if_ne (pc := 121) (tgt := 151) hx hb dX2_tryCalls_121 (by decide) (fun cc_31 => ?_) (fun cc_31 => ?_)
                · have hp := hp.1 cc_31
                  obtain ⟨v_32, ev_32⟩ : ∃ y : Int32, y = x8_5 + 1 := ⟨_, rfl⟩
                  have hp := hp v_32 ev_32
                  refine lv_iinc (pc := 151) (v := v_32) (lv' := [(8, .int v_32), (9, .int r_24), (0, .ref th), (1, .int p0), (2, .ref p1), (3, .int p2), (4, .int p3), (5, .ref p4), (6, .int r_1), (7, .int x7_4)]) hx hb dX2_tryCalls_151 hl (k := 9) rfl (by rw [ev_32]; rfl) (by decide) rfl (fun ls hl => ?_)
                  refine lv_goto (pc := 154) (tgt := 20) hx hb dX2_tryCalls_154 (by decide) ?_
                  obtain ⟨k9, hlt9, hp⟩ := hp
                  exact ih_3 k9 hlt9 _ _ _ _ _ _ hp hH (lv_sub hl [2, 3, 4, 5, 6, 7, 8, 9, 0] rfl)
                · have hp := hp.2 cc_31
                  obtain ⟨v_33, ev_33⟩ : ∃ y : Int32, y = x7_4 + 1 := ⟨_, rfl⟩
                  have hp := hp v_33 ev_33
                  refine lv_iinc (pc := 124) (v := v_33) (lv' := [(7, .int v_33), (9, .int r_24), (0, .ref th), (1, .int p0), (2, .ref p1), (3, .int p2), (4, .int p3), (5, .ref p4), (6, .int r_1), (8, .int x8_5)]) hx hb dX2_tryCalls_124 hl (k := 8) rfl (by rw [ev_33]; rfl) (by decide) rfl (fun ls hl => ?_)
                  refine lv_aload_n (pc := 127) hx hb dX2_tryCalls_127 rfl (lv_at hl 2 rfl) ?_
                  refine lv_iload (pc := 128) hx hb dX2_tryCalls_128 (lv_at hl 0 rfl) ?_
                  refine lv_iload (pc := 130) hx hb dX2_tryCalls_130 (lv_at hl 1 rfl) ?_
                  refine lv_iload_n (pc := 132) hx hb dX2_tryCalls_132 rfl (lv_at hl 3 rfl) ?_
                  refine sx_V (pc := 133) (As := [.int v_33, .int r_24, .int p0]) (rest := []) B hH hl.1 (C_X2_begin G l th v_33 r_24 p0 _ _ hp) mi_X2_begin coX2 hk_th w_1266 w_42 w_1264 rfl rfl ⟨Nat.le_of_ble_eq_true rfl, Nat.le_of_ble_eq_true rfl⟩ (Nat.le_of_ble_eq_true rfl) ⟨Nat.le_of_ble_eq_true rfl, Nat.le_of_ble_eq_true rfl⟩ dX2_tryCalls_133 (fun v S1 H locs hq hH => ?_)
                  obtain ⟨F_34, rfl, e9, hp⟩ := hq
                  rw [e9] at hH
                  have hH : Hp G (FA S s.heap.size) s.heap (wI S F_34) H locs := hH
                  refine W.eq (g2 := F0 m 136 ls []) rfl ?_
                  refine lv_goto (pc := 136) (tgt := 151) hx hb dX2_tryCalls_136 (by decide) ?_
                  obtain ⟨v_35, ev_35⟩ : ∃ y : Int32, y = x8_5 + 1 := ⟨_, rfl⟩
                  have hp := hp v_35 ev_35
                  refine lv_iinc (pc := 151) (v := v_35) (lv' := [(8, .int v_35), (7, .int v_33), (9, .int r_24), (0, .ref th), (1, .int p0), (2, .ref p1), (3, .int p2), (4, .int p3), (5, .ref p4), (6, .int r_1)]) hx hb dX2_tryCalls_151 hl (k := 9) rfl (by rw [ev_35]; rfl) (by decide) rfl (fun ls hl => ?_)
                  refine lv_goto (pc := 154) (tgt := 20) hx hb dX2_tryCalls_154 (by decide) ?_
                  obtain ⟨k9, hlt9, hp⟩ := hp
                  exact ih_3 k9 hlt9 _ _ _ _ _ _ hp hH (lv_sub hl [3, 4, 5, 6, 7, 8, 9, 1, 0] rfl)
          · have hp := hp.2 cc_14
            obtain ⟨v_36, ev_36⟩ : ∃ y : Int32, y = x7_4 + (-1) := ⟨_, rfl⟩
            have hp := hp v_36 ev_36
            refine lv_iinc (pc := 54) (v := v_36) (lv' := [(7, .int v_36), (0, .ref th), (1, .int p0), (2, .ref p1), (3, .int p2), (4, .int p3), (5, .ref p4), (6, .int r_1), (8, .int x8_5)]) hx hb dX2_tryCalls_54 hl (k := 7) rfl (by rw [ev_36]; rfl) (by decide) rfl (fun ls hl => ?_)
            refine lv_goto (pc := 57) (tgt := 151) hx hb dX2_tryCalls_57 (by decide) ?_
            obtain ⟨v_37, ev_37⟩ : ∃ y : Int32, y = x8_5 + 1 := ⟨_, rfl⟩
            have hp := hp v_37 ev_37
            refine lv_iinc (pc := 151) (v := v_37) (lv' := [(8, .int v_37), (7, .int v_36), (0, .ref th), (1, .int p0), (2, .ref p1), (3, .int p2), (4, .int p3), (5, .ref p4), (6, .int r_1)]) hx hb dX2_tryCalls_151 hl (k := 8) rfl (by rw [ev_37]; rfl) (by decide) rfl (fun ls hl => ?_)
            refine lv_goto (pc := 154) (tgt := 20) hx hb dX2_tryCalls_154 (by decide) ?_
            obtain ⟨k9, hlt9, hp⟩ := hp
            exact ih_3 k9 hlt9 _ _ _ _ _ _ hp hH (lv_sub hl [2, 3, 4, 5, 6, 7, 8, 1, 0] rfl)
  exact kl_3 k0_3 _ _ _ _ _ _ h0_3 hH (lv_sub hl [3, 4, 5, 6, 7, 8, 2, 1, 0] rfl)
theorem dX2_composed_0 : decode cX2_composed 0 = .ok (.aload_n 0, 1) := by decide +kernel
theorem dX2_composed_1 : decode cX2_composed 1 = .ok (.iconst 0, 1) := by decide +kernel
theorem dX2_composed_2 : decode cX2_composed 2 = .ok (.putfield 28, 3) := by decide +kernel
theorem dX2_composed_5 : decode cX2_composed 5 = .ok (.aload_n 0, 1) := by decide +kernel
theorem dX2_composed_6 : decode cX2_composed 6 = .ok (.iconst 0, 1) := by decide +kernel
theorem dX2_composed_7 : decode cX2_composed 7 = .ok (.putfield 24, 3) := by decide +kernel
theorem dX2_composed_10 : decode cX2_composed 10 = .ok (.aload_n 2, 1) := by decide +kernel
theorem dX2_composed_11 : decode cX2_composed 11 = .ok (.iconst 0, 1) := by decide +kernel
theorem dX2_composed_12 : decode cX2_composed 12 = .ok (.invokevirtual 31, 3) := by decide +kernel
theorem dX2_composed_15 : decode cX2_composed 15 = .ok (.ifCond .eq 31, 3) := by decide +kernel
theorem dX2_composed_18 : decode cX2_composed 18 = .ok (.aload 5, 2) := by decide +kernel
theorem dX2_composed_20 : decode cX2_composed 20 = .ok (.aload_n 1, 1) := by decide +kernel
theorem dX2_composed_21 : decode cX2_composed 21 = .ok (.aload_n 2, 1) := by decide +kernel
theorem dX2_composed_22 : decode cX2_composed 22 = .ok (.iconst 0, 1) := by decide +kernel
theorem dX2_composed_23 : decode cX2_composed 23 = .ok (.invokevirtual 37, 3) := by decide +kernel
theorem dX2_composed_26 : decode cX2_composed 26 = .ok (.pop, 1) := by decide +kernel
theorem dX2_composed_27 : decode cX2_composed 27 = .ok (.aload_n 0, 1) := by decide +kernel
theorem dX2_composed_28 : decode cX2_composed 28 = .ok (.aload_n 1, 1) := by decide +kernel
theorem dX2_composed_29 : decode cX2_composed 29 = .ok (.getfield 43, 3) := by decide +kernel
theorem dX2_composed_32 : decode cX2_composed 32 = .ok (.aload_n 2, 1) := by decide +kernel
theorem dX2_composed_33 : decode cX2_composed 33 = .ok (.iload_n 3, 1) := by decide +kernel
theorem dX2_composed_34 : decode cX2_composed 34 = .ok (.bipush 8, 2) := by decide +kernel
theorem dX2_composed_36 : decode cX2_composed 36 = .ok (.invokestatic 48, 3) := by decide +kernel
theorem dX2_composed_39 : decode cX2_composed 39 = .ok (.iload 4, 2) := by decide +kernel
theorem dX2_composed_41 : decode cX2_composed 41 = .ok (.aload 5, 2) := by decide +kernel
theorem dX2_composed_43 : decode cX2_composed 43 = .ok (.invokevirtual 54, 3) := by decide +kernel
theorem dX2_composed_46 : decode cX2_composed 46 = .ok (.aload_n 0, 1) := by decide +kernel
theorem dX2_composed_47 : decode cX2_composed 47 = .ok (.getfield 28, 3) := by decide +kernel
theorem dX2_composed_50 : decode cX2_composed 50 = .ok (.ireturn, 1) := by decide +kernel
theorem mi_X2_composed : MI yX2_composed cX2_composed 6 (some FieldType.int) 5 := ⟨w_1255, w_117, by decide +kernel, by decide +kernel, by decide +kernel⟩
set_option maxRecDepth 100000 in
set_option maxHeartbeats 4000000 in
theorem C_X2_composed (G : GG) (l : Launch) (th : Nat) (p0 : Nat) (p1 : Nat) (p2 : Int32) (p3 : Int32) (p4 : Nat) (S : St) (bc bs : Nat) (Q : Int32 → St → Prop) (hp : P_X2_composed th p0 p1 p2 p3 p4 S bc bs Q) : Ctr G l yX2_composed cX2_composed 6 (some FieldType.int) 3 80 bc bs [.ref th, .ref p0, .ref p1, .int p2, .int p3, .ref p4] S (fun (v : Option Value) (S9 : St) => ∃ r : Int32, v = some (.int r) ∧ Q r S9) := by
  generalize hQQ : (fun (v : Option Value) (S9 : St) => ∃ r : Int32, v = some (.int r) ∧ Q r S9) = QQ
  unfold P_X2_composed at hp
  refine Ctr.of (by decide) (Nat.le_of_ble_eq_true rfl) ?_
  intro p e s m args below meth c ls B hr hlk hin hl hH
  generalize hlocs0 : ([] : List Loc) = locs at hH ⊢
  have hx := B.1
  have hb := B.2.1
  have hl : lv_has ls 6 [(0, .ref th), (1, .ref p0), (2, .ref p1), (3, .int p2), (4, .int p3), (5, .ref p4)] := hl
  obtain ⟨hk_th, hp⟩ := hp
  refine lv_aload_n (pc := 0) hx hb dX2_composed_0 rfl (lv_at hl 0 rfl) ?_
  refine lv_iconst (pc := 1) (v := 0) hx hb dX2_composed_1 (by decide) ?_
  obtain ⟨F_1, eF_1⟩ : ∃ z : Nat → Nat → Int32, z = upI (gI S) th 5 0 := ⟨_, rfl⟩
  have hp := hp F_1 eF_1
  refine sx_putI (pc := 2) (j := 5) B hH hk_th coX2 rfl w_442 rfl (Or.inl rfl) rfl dX2_composed_2 (fun H locs hH => ?_)
  have hH : Hp G (FA S s.heap.size) s.heap (wI S F_1) H locs := by rw [eF_1]; exact hH
  refine lv_aload_n (pc := 5) hx hb dX2_composed_5 rfl (lv_at hl 0 rfl) ?_
  refine lv_iconst (pc := 6) (v := 0) hx hb dX2_composed_6 (by decide) ?_
  obtain ⟨F_2, eF_2⟩ : ∃ z : Nat → Nat → Int32, z = upI F_1 th 4 0 := ⟨_, rfl⟩
  have hp := hp F_2 eF_2
  refine sx_putI (pc := 7) (j := 4) B hH hk_th coX2 rfl w_440 rfl (Or.inl rfl) rfl dX2_composed_7 (fun H locs hH => ?_)
  have hH : Hp G (FA S s.heap.size) s.heap (wI S F_2) H locs := by rw [eF_2]; exact hH
  refine lv_aload_n (pc := 10) hx hb dX2_composed_10 rfl (lv_at hl 2 rfl) ?_
  refine lv_iconst (pc := 11) (v := 0) hx hb dX2_composed_11 (by decide) ?_
  obtain ⟨hk_3, hp⟩ := hp
  refine sx_V (pc := 12) (As := [.int 0]) (rest := []) B hH hl.1 (C_X3_isUnlike G l p1 0 _ _ hp) mi_X3_isUnlike coX3 hk_3 w_1006 w_1007 w_1256 rfl rfl ⟨Nat.le_of_ble_eq_true rfl, Nat.le_of_ble_eq_true rfl⟩ (Nat.le_of_ble_eq_true rfl) ⟨(show _ + 0 ≤ bc by omega), (show _ + 0 ≤ bs by omega)⟩ dX2_composed_12 (fun v S1 H locs hq hH => ?_)
  obtain ⟨r_4, rfl, e9, hp⟩ := hq
  rw [e9] at hH
  refine W.eq (g2 := F0 m 15 ls [.int r_4]) rfl ?_
  refine lv_if_eq (pc := 15) (tgt := 46) hx hb dX2_composed_15 (by decide) (fun cc_5 => ?_) (fun cc_5 => ?_)
  · have hp := hp.1 cc_5
    refine lv_aload_n (pc := 46) hx hb dX2_composed_46 rfl (lv_at hl 0 rfl) ?_
    refine sx_getI (pc := 47) (j := 5) B hH hk_th coX2 rfl w_442 rfl dX2_composed_47 ?_
    refine W.eq (g2 := F0 m 50 ls [.int (F_2 th 5)]) rfl ?_
    exact sx_iret (pc := 50) B hH hr hlk (by rw [← hQQ]; exact ⟨_, rfl, hp⟩) (show _ ≤ bc by omega) (show _ ≤ bs by omega) dX2_composed_50
  · have hp := hp.2 cc_5
    refine lv_aload (pc := 18) hx hb dX2_composed_18 (lv_at hl 5 rfl) ?_
    refine lv_aload_n (pc := 20) hx hb dX2_composed_20 rfl (lv_at hl 1 rfl) ?_
    refine lv_aload_n (pc := 21) hx hb dX2_composed_21 rfl (lv_at hl 2 rfl) ?_
    refine lv_iconst (pc := 22) (v := 0) hx hb dX2_composed_22 (by decide) ?_
    obtain ⟨hk_6, hp⟩ := hp
    obtain ⟨c_7, s_7, hb_7, hs_7, hp⟩ := hp
    refine sx_V (pc := 23) (As := [.ref p0, .ref p1, .int 0]) (rest := []) B hH hl.1 (C_X6_stampFalse G l p4 p0 p1 0 _ c_7 s_7 _ hp) mi_X6_stampFalse coX6 hk_6 w_1023 w_1024 w_1257 rfl rfl ⟨Nat.le_of_ble_eq_true rfl, Nat.le_of_ble_eq_true rfl⟩ (Nat.le_of_ble_eq_true rfl) ⟨(show _ + c_7 ≤ bc by omega), (show _ + s_7 ≤ bs by omega)⟩ dX2_composed_23 (fun v S1 H locs hq hH => ?_)
    obtain ⟨r_8, rfl, hp⟩ := hq
    obtain ⟨S_8, eS_8⟩ : ∃ z : St, z = S1 := ⟨_, rfl⟩
    rw [← eS_8] at hp hH
    refine W.eq (g2 := F0 m 26 ls [.int r_8]) rfl ?_
    refine lv_pop (pc := 26) (va := .int r_8) hx hb dX2_composed_26 rfl ?_
    refine lv_aload_n (pc := 27) hx hb dX2_composed_27 rfl (lv_at hl 0 rfl) ?_
    refine lv_aload_n (pc := 28) hx hb dX2_composed_28 rfl (lv_at hl 1 rfl) ?_
    obtain ⟨hk_9, hp⟩ := hp
    refine sx_getI (pc := 29) (j := 0) B hH hk_9 coX0 rfl w_353 rfl dX2_composed_29 ?_
    refine W.eq (g2 := F0 m 32 ls [.int (gI S_8 p0 0), .ref th]) rfl ?_
    refine lv_aload_n (pc := 32) hx hb dX2_composed_32 rfl (lv_at hl 2 rfl) ?_
    refine lv_iload_n (pc := 33) hx hb dX2_composed_33 rfl (lv_at hl 3 rfl) ?_
    refine lv_bipush (pc := 34) (v := 8) hx hb dX2_composed_34 (by decide) ?_
    refine sx_min (pc := 36) B hl.1 w_1258 w_600 w_121 w_min (Nat.le_of_ble_eq_true rfl) (Nat.le_of_ble_eq_true rfl) (show _ ≤ bc by omega) (show _ ≤ bs by omega) dX2_composed_36 ?_
    refine W.eq (g2 := F0 m 39 ls [.int (imin p2 8), .ref p1, .int (gI S_8 p0 0), .ref th]) rfl ?_
    refine lv_iload (pc := 39) hx hb dX2_composed_39 (lv_at hl 4 rfl) ?_
    refine lv_aload (pc := 41) hx hb dX2_composed_41 (lv_at hl 5 rfl) ?_
    obtain ⟨hk_10, hp⟩ := hp
    refine sx_V (pc := 43) (As := [.int (gI S_8 p0 0), .ref p1, .int (imin p2 8), .int p3, .ref p4]) (rest := []) B hH hl.1 (C_X2_tryCalls G l th (gI S_8 p0 0) p1 (imin p2 8) p3 p4 _ _ hp) mi_X2_tryCalls coX2 hk_10 w_1261 w_41 w_1259 rfl rfl ⟨Nat.le_of_ble_eq_true rfl, Nat.le_of_ble_eq_true rfl⟩ (Nat.le_of_ble_eq_true rfl) ⟨(show _ + 0 ≤ bc by omega), (show _ + 0 ≤ bs by omega)⟩ dX2_composed_43 (fun v S1 H locs hq hH => ?_)
    obtain ⟨F_11, rfl, e9, hp⟩ := hq
    rw [e9] at hH
    have hH : Hp G (FA S s.heap.size) s.heap (wI S_8 F_11) H locs := hH
    refine W.eq (g2 := F0 m 46 ls []) rfl ?_
    refine lv_aload_n (pc := 46) hx hb dX2_composed_46 rfl (lv_at hl 0 rfl) ?_
    refine sx_getI (pc := 47) (j := 5) B hH hk_10 coX2 rfl w_442 rfl dX2_composed_47 ?_
    refine W.eq (g2 := F0 m 50 ls [.int (F_11 th 5)]) rfl ?_
    exact sx_iret (pc := 50) B hH hr hlk (by rw [← hQQ]; exact ⟨_, rfl, hp⟩) (show _ ≤ bc by omega) (show _ ≤ bs by omega) dX2_composed_50
