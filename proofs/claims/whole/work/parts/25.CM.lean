theorem dX12_nameHere_0 : decode cX12_nameHere 0 = .ok (.lconst 0, 1) := by decide +kernel
theorem dX12_nameHere_1 : decode cX12_nameHere 1 = .ok (.lstore_n 1, 1) := by decide +kernel
theorem dX12_nameHere_2 : decode cX12_nameHere 2 = .ok (.aload_n 0, 1) := by decide +kernel
theorem dX12_nameHere_3 : decode cX12_nameHere 3 = .ok (.getfield 145, 3) := by decide +kernel
theorem dX12_nameHere_6 : decode cX12_nameHere 6 = .ok (.istore_n 3, 1) := by decide +kernel
theorem dX12_nameHere_7 : decode cX12_nameHere 7 = .ok (.iload_n 3, 1) := by decide +kernel
theorem dX12_nameHere_8 : decode cX12_nameHere 8 = .ok (.aload_n 0, 1) := by decide +kernel
theorem dX12_nameHere_9 : decode cX12_nameHere 9 = .ok (.getfield 139, 3) := by decide +kernel
theorem dX12_nameHere_12 : decode cX12_nameHere 12 = .ok (.if_icmp .ge 21, 3) := by decide +kernel
theorem dX12_nameHere_15 : decode cX12_nameHere 15 = .ok (.lload_n 1, 1) := by decide +kernel
theorem dX12_nameHere_16 : decode cX12_nameHere 16 = .ok (.bipush 8, 2) := by decide +kernel
theorem dX12_nameHere_18 : decode cX12_nameHere 18 = .ok (.lshl, 1) := by decide +kernel
theorem dX12_nameHere_19 : decode cX12_nameHere 19 = .ok (.aload_n 0, 1) := by decide +kernel
theorem dX12_nameHere_20 : decode cX12_nameHere 20 = .ok (.iload_n 3, 1) := by decide +kernel
theorem dX12_nameHere_21 : decode cX12_nameHere 21 = .ok (.invokevirtual 142, 3) := by decide +kernel
theorem dX12_nameHere_24 : decode cX12_nameHere 24 = .ok (.i2l, 1) := by decide +kernel
theorem dX12_nameHere_25 : decode cX12_nameHere 25 = .ok (.lor, 1) := by decide +kernel
theorem dX12_nameHere_26 : decode cX12_nameHere 26 = .ok (.lstore_n 1, 1) := by decide +kernel
theorem dX12_nameHere_27 : decode cX12_nameHere 27 = .ok (.iinc 3 1, 3) := by decide +kernel
theorem dX12_nameHere_30 : decode cX12_nameHere 30 = .ok (.goto (-23), 3) := by decide +kernel
theorem dX12_nameHere_33 : decode cX12_nameHere 33 = .ok (.lload_n 1, 1) := by decide +kernel
theorem dX12_nameHere_34 : decode cX12_nameHere 34 = .ok (.lreturn, 1) := by decide +kernel
theorem mi_X12_nameHere : MI yX12_nameHere cX12_nameHere 4 (some FieldType.long) 0 := ⟨w_1591, w_118, by decide +kernel, by decide +kernel, by decide +kernel⟩
set_option maxRecDepth 100000 in
set_option maxHeartbeats 4000000 in
theorem C_X12_nameHere (G : GG) (l : Launch) (th : Nat) (S : St) (Q : Int64 → Prop) (hp : P_X12_nameHere th S Q) : Ctr G l yX12_nameHere cX12_nameHere 4 (some FieldType.long) 1 21 0 0 [.ref th] S (fun (v : Option Value) (S9 : St) => ∃ (r : Int64), v = some (.long r) ∧ S9 = S ∧ Q r ) := by
  generalize hQQ : (fun (v : Option Value) (S9 : St) => ∃ (r : Int64), v = some (.long r) ∧ S9 = S ∧ Q r ) = QQ
  unfold P_X12_nameHere at hp
  refine Ctr.of (by decide) (Nat.le_of_ble_eq_true rfl) ?_
  intro p e s m args below meth c ls B hr hlk hin hl hH
  generalize hlocs0 : ([] : List Loc) = locs at hH ⊢
  have hx := B.1
  have hb := B.2.1
  have hl : lv_has ls 4 [(0, .ref th)] := hl
  obtain ⟨hk_th, hp⟩ := hp
  refine lv_lconst (pc := 0) (v := 0) hx hb dX12_nameHere_0 (by decide) ?_
  refine lv_lstore_n (pc := 1) (lv' := [(1, .long 0), (0, .ref th)]) hx hb dX12_nameHere_1 rfl hl (by decide) rfl (fun ls hl => ?_)
  refine lv_aload_n (pc := 2) hx hb dX12_nameHere_2 rfl (lv_at hl 1 rfl) ?_
  refine sx_getI (pc := 3) (j := 13) B hH hk_th coX12 rfl w_1317 rfl dX12_nameHere_3 ?_
  refine W.eq (g2 := F0 m 6 ls [.int (gI S th 13)]) rfl ?_
  refine lv_topi (fun v_1 ev_1 => ?_)
  have hp := hp v_1 ev_1
  refine lv_istore_n (pc := 6) (lv' := [(3, .int v_1), (1, .long 0), (0, .ref th)]) hx hb dX12_nameHere_6 rfl hl (by decide) rfl (fun ls hl => ?_)
  obtain ⟨I_2, ⟨k0_2, h0_2⟩, hst_2⟩ := hp
  have kl_2 : ∀ (n_2 : Nat) (x1_3 : Int64) (x3_4 : Int32) (H : Heap) (locs : List Loc) (ls : Array Slot), I_2 n_2 x1_3 x3_4 → Hp G (FA S s.heap.size) s.heap S H locs → lv_has ls 4 [(0, .ref th), (1, .long x1_3), (3, .int x3_4)] → Wm G p l e { frames := 1, cells := 0, slots := 0, locals := 21 } s m args below meth c S QQ 0 0 H locs 0 0 (F0 m 7 ls []) := by
    intro n_2
    induction n_2 using Nat.strongRecOn with
    | ind n_2 ih_2 =>
      intro x1_3 x3_4 H locs ls hq9 hH hl
      have hp := hst_2 n_2 x1_3 x3_4 hq9
      refine lv_iload_n (pc := 7) hx hb dX12_nameHere_7 rfl (lv_at hl 2 rfl) ?_
      refine lv_aload_n (pc := 8) hx hb dX12_nameHere_8 rfl (lv_at hl 0 rfl) ?_
      refine sx_getI (pc := 9) (j := 14) B hH hk_th coX12 rfl w_1318 rfl dX12_nameHere_9 ?_
      refine W.eq (g2 := F0 m 12 ls [.int (gI S th 14), .int x3_4]) rfl ?_
      refine lv_icmp_ge (pc := 12) (tgt := 33) hx hb dX12_nameHere_12 (by decide) (fun cc_5 => ?_) (fun cc_5 => ?_)
      · have hp := hp.1 cc_5
        refine lv_lload_n (pc := 33) hx hb dX12_nameHere_33 rfl (lv_at hl 1 rfl) ?_
        exact sx_lret (pc := 34) B hH hr hlk (by rw [← hQQ]; exact ⟨_, rfl, rfl, hp⟩) (Nat.le_of_ble_eq_true rfl) (Nat.le_of_ble_eq_true rfl) dX12_nameHere_34
      · have hp := hp.2 cc_5
        refine lv_lload_n (pc := 15) hx hb dX12_nameHere_15 rfl (lv_at hl 1 rfl) ?_
        refine lv_bipush (pc := 16) (v := 8) hx hb dX12_nameHere_16 (by decide) ?_
        refine lv_lshl (pc := 18) (v := lshl x1_3 8) hx hb dX12_nameHere_18 rfl ?_
        refine lv_aload_n (pc := 19) hx hb dX12_nameHere_19 rfl (lv_at hl 0 rfl) ?_
        refine lv_iload_n (pc := 20) hx hb dX12_nameHere_20 rfl (lv_at hl 2 rfl) ?_
        refine sx_V (pc := 21) (As := [.int x3_4]) (rest := [.long (lshl x1_3 8)]) B hH hl.1 (C_X12_byteAt G l th x3_4 _ _ hp) mi_X12_byteAt coX12 hk_th w_1527 w_50 w_1525 rfl rfl ⟨Nat.le_of_ble_eq_true rfl, Nat.le_of_ble_eq_true rfl⟩ (Nat.le_of_ble_eq_true rfl) ⟨Nat.le_of_ble_eq_true rfl, Nat.le_of_ble_eq_true rfl⟩ dX12_nameHere_21 (fun v S1 H locs hq hH => ?_)
        obtain ⟨r_6, rfl, e9, hp⟩ := hq
        rw [e9] at hH
        refine W.eq (g2 := F0 m 24 ls [.int r_6, .long (lshl x1_3 8)]) rfl ?_
        refine lv_i2l (pc := 24) (v := r_6.toInt64) hx hb dX12_nameHere_24 rfl ?_
        refine lv_lor (pc := 25) hx hb dX12_nameHere_25 ?_
        refine lv_topl (fun v_7 ev_7 => ?_)
        have hp := hp v_7 ev_7
        refine lv_lstore_n (pc := 26) (lv' := [(1, .long v_7), (0, .ref th), (3, .int x3_4)]) hx hb dX12_nameHere_26 rfl hl (by decide) rfl (fun ls hl => ?_)
        obtain ⟨v_8, ev_8⟩ : ∃ y : Int32, y = x3_4 + 1 := ⟨_, rfl⟩
        have hp := hp v_8 ev_8
        refine lv_iinc (pc := 27) (v := v_8) (lv' := [(3, .int v_8), (1, .long v_7), (0, .ref th)]) hx hb dX12_nameHere_27 hl (k := 2) rfl (by rw [ev_8]; rfl) (by decide) rfl (fun ls hl => ?_)
        refine lv_goto (pc := 30) (tgt := 7) hx hb dX12_nameHere_30 (by decide) ?_
        obtain ⟨k9, hlt9, hp⟩ := hp
        exact ih_2 k9 hlt9 _ _ _ _ _ hp hH (lv_sub hl [2, 1, 0] rfl)
  exact kl_2 k0_2 _ _ _ _ _ h0_2 hH (lv_sub hl [2, 1, 0] rfl)
theorem dX12_findHere_0 : decode cX12_findHere 0 = .ok (.iconst 0, 1) := by decide +kernel
theorem dX12_findHere_1 : decode cX12_findHere 1 = .ok (.istore_n 3, 1) := by decide +kernel
theorem dX12_findHere_2 : decode cX12_findHere 2 = .ok (.iload_n 3, 1) := by decide +kernel
theorem dX12_findHere_3 : decode cX12_findHere 3 = .ok (.iload_n 2, 1) := by decide +kernel
theorem dX12_findHere_4 : decode cX12_findHere 4 = .ok (.if_icmp .ge 27, 3) := by decide +kernel
theorem dX12_findHere_7 : decode cX12_findHere 7 = .ok (.aload_n 0, 1) := by decide +kernel
theorem dX12_findHere_8 : decode cX12_findHere 8 = .ok (.getfield 13, 3) := by decide +kernel
theorem dX12_findHere_11 : decode cX12_findHere 11 = .ok (.iload_n 1, 1) := by decide +kernel
theorem dX12_findHere_12 : decode cX12_findHere 12 = .ok (.iload_n 3, 1) := by decide +kernel
theorem dX12_findHere_13 : decode cX12_findHere 13 = .ok (.iadd, 1) := by decide +kernel
theorem dX12_findHere_14 : decode cX12_findHere 14 = .ok (.laload, 1) := by decide +kernel
theorem dX12_findHere_15 : decode cX12_findHere 15 = .ok (.aload_n 0, 1) := by decide +kernel
theorem dX12_findHere_16 : decode cX12_findHere 16 = .ok (.invokevirtual 195, 3) := by decide +kernel
theorem dX12_findHere_19 : decode cX12_findHere 19 = .ok (.lcmp, 1) := by decide +kernel
theorem dX12_findHere_20 : decode cX12_findHere 20 = .ok (.ifCond .ne 5, 3) := by decide +kernel
theorem dX12_findHere_23 : decode cX12_findHere 23 = .ok (.iload_n 3, 1) := by decide +kernel
theorem dX12_findHere_24 : decode cX12_findHere 24 = .ok (.ireturn, 1) := by decide +kernel
theorem dX12_findHere_25 : decode cX12_findHere 25 = .ok (.iinc 3 1, 3) := by decide +kernel
theorem dX12_findHere_28 : decode cX12_findHere 28 = .ok (.goto (-26), 3) := by decide +kernel
theorem dX12_findHere_31 : decode cX12_findHere 31 = .ok (.iconst (-1), 1) := by decide +kernel
theorem dX12_findHere_32 : decode cX12_findHere 32 = .ok (.ireturn, 1) := by decide +kernel
theorem mi_X12_findHere : MI yX12_findHere cX12_findHere 4 (some FieldType.int) 2 := ⟨w_1587, w_118, by decide +kernel, by decide +kernel, by decide +kernel⟩
set_option maxRecDepth 100000 in
set_option maxHeartbeats 4000000 in
theorem C_X12_findHere (G : GG) (l : Launch) (th : Nat) (p0 : Int32) (p1 : Int32) (S : St) (Q : Int32 → Prop) (hp : P_X12_findHere th p0 p1 S Q) : Ctr G l yX12_findHere cX12_findHere 4 (some FieldType.int) 2 44 0 0 [.ref th, .int p0, .int p1] S (fun (v : Option Value) (S9 : St) => ∃ (r : Int32), v = some (.int r) ∧ S9 = S ∧ Q r ) := by
  generalize hQQ : (fun (v : Option Value) (S9 : St) => ∃ (r : Int32), v = some (.int r) ∧ S9 = S ∧ Q r ) = QQ
  unfold P_X12_findHere at hp
  refine Ctr.of (by decide) (Nat.le_of_ble_eq_true rfl) ?_
  intro p e s m args below meth c ls B hr hlk hin hl hH
  generalize hlocs0 : ([] : List Loc) = locs at hH ⊢
  have hx := B.1
  have hb := B.2.1
  have hl : lv_has ls 4 [(0, .ref th), (1, .int p0), (2, .int p1)] := hl
  obtain ⟨hk_th, hp⟩ := hp
  refine lv_iconst (pc := 0) (v := 0) hx hb dX12_findHere_0 (by decide) ?_
  refine lv_istore_n (pc := 1) (lv' := [(3, .int 0), (0, .ref th), (1, .int p0), (2, .int p1)]) hx hb dX12_findHere_1 rfl hl (by decide) rfl (fun ls hl => ?_)
  obtain ⟨I_1, ⟨k0_1, h0_1⟩, hst_1⟩ := hp
  have kl_1 : ∀ (n_1 : Nat) (x3_2 : Int32) (H : Heap) (locs : List Loc) (ls : Array Slot), I_1 n_1 x3_2 → Hp G (FA S s.heap.size) s.heap S H locs → lv_has ls 4 [(0, .ref th), (1, .int p0), (2, .int p1), (3, .int x3_2)] → Wm G p l e { frames := 2, cells := 0, slots := 0, locals := 44 } s m args below meth c S QQ 0 0 H locs 0 0 (F0 m 2 ls []) := by
    intro n_1
    induction n_1 using Nat.strongRecOn with
    | ind n_1 ih_1 =>
      intro x3_2 H locs ls hq9 hH hl
      have hp := hst_1 n_1 x3_2 hq9
      refine lv_iload_n (pc := 2) hx hb dX12_findHere_2 rfl (lv_at hl 3 rfl) ?_
      refine lv_iload_n (pc := 3) hx hb dX12_findHere_3 rfl (lv_at hl 2 rfl) ?_
      refine lv_icmp_ge (pc := 4) (tgt := 31) hx hb dX12_findHere_4 (by decide) (fun cc_3 => ?_) (fun cc_3 => ?_)
      · have hp := hp.1 cc_3
        refine lv_iconst (pc := 31) (v := (-1)) hx hb dX12_findHere_31 (by decide) ?_
        exact sx_iret (pc := 32) B hH hr hlk (by rw [← hQQ]; exact ⟨_, rfl, rfl, hp⟩) (Nat.le_of_ble_eq_true rfl) (Nat.le_of_ble_eq_true rfl) dX12_findHere_32
      · have hp := hp.2 cc_3
        refine lv_aload_n (pc := 7) hx hb dX12_findHere_7 rfl (lv_at hl 0 rfl) ?_
        refine sx_getR (pc := 8) (j := 1) B hH hk_th coX12 rfl w_1305 rfl dX12_findHere_8 ?_
        refine W.eq (g2 := F0 m 11 ls [va_rf (gR S th 1)]) rfl ?_
        obtain ⟨a_4, ha_4, hp⟩ := hp
        refine sx_nonnull (x := a_4) ha_4 ?_
        refine lv_iload_n (pc := 11) hx hb dX12_findHere_11 rfl (lv_at hl 1 rfl) ?_
        refine lv_iload_n (pc := 12) hx hb dX12_findHere_12 rfl (lv_at hl 3 rfl) ?_
        refine lv_iadd (pc := 13) hx hb dX12_findHere_13 ?_
        obtain ⟨hk_5, hp⟩ := hp
        obtain ⟨hn_6, hp⟩ := hp
        refine sx_lald (pc := 14) B hH hk_5 hn_6 dX12_findHere_14 ?_
        refine W.eq (g2 := F0 m 15 ls [.long (gJ S a_4 ((p0 + x3_2).toNatClampNeg))]) rfl ?_
        refine lv_aload_n (pc := 15) hx hb dX12_findHere_15 rfl (lv_at hl 0 rfl) ?_
        refine sx_V (pc := 16) (As := []) (rest := [.long (gJ S a_4 ((p0 + x3_2).toNatClampNeg))]) B hH hl.1 (C_X12_nameHere G l th _ _ hp) mi_X12_nameHere coX12 hk_th w_1590 w_63 w_1588 rfl rfl ⟨Nat.le_of_ble_eq_true rfl, Nat.le_of_ble_eq_true rfl⟩ (Nat.le_of_ble_eq_true rfl) ⟨Nat.le_of_ble_eq_true rfl, Nat.le_of_ble_eq_true rfl⟩ dX12_findHere_16 (fun v S1 H locs hq hH => ?_)
        obtain ⟨r_7, rfl, e9, hp⟩ := hq
        rw [e9] at hH
        refine W.eq (g2 := F0 m 19 ls [.long r_7, .long (gJ S a_4 ((p0 + x3_2).toNatClampNeg))]) rfl ?_
        refine W.lcmp (pc := 19) hx hb dX12_findHere_19 ?_
        refine lv_if_ne (pc := 20) (tgt := 25) hx hb dX12_findHere_20 (by decide) (fun cc_8 => ?_) (fun cc_8 => ?_)
        · have hp := hp.1 cc_8
          obtain ⟨v_9, ev_9⟩ : ∃ y : Int32, y = x3_2 + 1 := ⟨_, rfl⟩
          have hp := hp v_9 ev_9
          refine lv_iinc (pc := 25) (v := v_9) (lv' := [(3, .int v_9), (0, .ref th), (1, .int p0), (2, .int p1)]) hx hb dX12_findHere_25 hl (k := 3) rfl (by rw [ev_9]; rfl) (by decide) rfl (fun ls hl => ?_)
          refine lv_goto (pc := 28) (tgt := 2) hx hb dX12_findHere_28 (by decide) ?_
          obtain ⟨k9, hlt9, hp⟩ := hp
          exact ih_1 k9 hlt9 _ _ _ _ hp hH (lv_sub hl [1, 2, 3, 0] rfl)
        · have hp := hp.2 cc_8
          refine lv_iload_n (pc := 23) hx hb dX12_findHere_23 rfl (lv_at hl 3 rfl) ?_
          exact sx_iret (pc := 24) B hH hr hlk (by rw [← hQQ]; exact ⟨_, rfl, rfl, hp⟩) (Nat.le_of_ble_eq_true rfl) (Nat.le_of_ble_eq_true rfl) dX12_findHere_24
  exact kl_1 k0_1 _ _ _ _ h0_1 hH (lv_sub hl [1, 2, 3, 0] rfl)
theorem dX12_fault_0 : decode cX12_fault 0 = .ok (.iload_n 1, 1) := by decide +kernel
theorem dX12_fault_1 : decode cX12_fault 1 = .ok (.ifCond .ne 10, 3) := by decide +kernel
theorem dX12_fault_4 : decode cX12_fault 4 = .ok (.aload_n 0, 1) := by decide +kernel
theorem dX12_fault_5 : decode cX12_fault 5 = .ok (.getfield 37, 3) := by decide +kernel
theorem dX12_fault_8 : decode cX12_fault 8 = .ok (.goto 16, 3) := by decide +kernel
theorem dX12_fault_11 : decode cX12_fault 11 = .ok (.iload_n 1, 1) := by decide +kernel
theorem dX12_fault_12 : decode cX12_fault 12 = .ok (.iconst 1, 1) := by decide +kernel
theorem dX12_fault_13 : decode cX12_fault 13 = .ok (.if_icmp .ne 10, 3) := by decide +kernel
theorem dX12_fault_16 : decode cX12_fault 16 = .ok (.aload_n 0, 1) := by decide +kernel
theorem dX12_fault_17 : decode cX12_fault 17 = .ok (.getfield 41, 3) := by decide +kernel
theorem dX12_fault_20 : decode cX12_fault 20 = .ok (.goto 4, 3) := by decide +kernel
theorem dX12_fault_23 : decode cX12_fault 23 = .ok (.iconst (-1), 1) := by decide +kernel
theorem dX12_fault_24 : decode cX12_fault 24 = .ok (.ireturn, 1) := by decide +kernel
theorem mi_X12_fault : MI yX12_fault cX12_fault 2 (some FieldType.int) 1 := ⟨w_1512, w_118, by decide +kernel, by decide +kernel, by decide +kernel⟩
set_option maxRecDepth 100000 in
set_option maxHeartbeats 4000000 in
theorem C_X12_fault (G : GG) (l : Launch) (th : Nat) (p0 : Int32) (S : St) (Q : Int32 → Prop) (hp : P_X12_fault th p0 S Q) : Ctr G l yX12_fault cX12_fault 2 (some FieldType.int) 0 0 0 0 [.ref th, .int p0] S (fun (v : Option Value) (S9 : St) => ∃ (r : Int32), v = some (.int r) ∧ S9 = S ∧ Q r ) := by
  generalize hQQ : (fun (v : Option Value) (S9 : St) => ∃ (r : Int32), v = some (.int r) ∧ S9 = S ∧ Q r ) = QQ
  unfold P_X12_fault at hp
  refine Ctr.of (by decide) (Nat.le_of_ble_eq_true rfl) ?_
  intro p e s m args below meth c ls B hr hlk hin hl hH
  generalize hlocs0 : ([] : List Loc) = locs at hH ⊢
  have hx := B.1
  have hb := B.2.1
  have hl : lv_has ls 2 [(0, .ref th), (1, .int p0)] := hl
  obtain ⟨hk_th, hp⟩ := hp
  refine lv_iload_n (pc := 0) hx hb dX12_fault_0 rfl (lv_at hl 1 rfl) ?_
  refine lv_if_ne (pc := 1) (tgt := 11) hx hb dX12_fault_1 (by decide) (fun cc_1 => ?_) (fun cc_1 => ?_)
  · have hp := hp.1 cc_1
    refine lv_iload_n (pc := 11) hx hb dX12_fault_11 rfl (lv_at hl 1 rfl) ?_
    refine lv_iconst (pc := 12) (v := 1) hx hb dX12_fault_12 (by decide) ?_
    refine lv_icmp_ne (pc := 13) (tgt := 23) hx hb dX12_fault_13 (by decide) (fun cc_2 => ?_) (fun cc_2 => ?_)
    · have hp := hp.1 cc_2
      refine lv_iconst (pc := 23) (v := (-1)) hx hb dX12_fault_23 (by decide) ?_
      exact sx_iret (pc := 24) B hH hr hlk (by rw [← hQQ]; exact ⟨_, rfl, rfl, hp⟩) (Nat.le_of_ble_eq_true rfl) (Nat.le_of_ble_eq_true rfl) dX12_fault_24
    · have hp := hp.2 cc_2
      refine lv_aload_n (pc := 16) hx hb dX12_fault_16 rfl (lv_at hl 0 rfl) ?_
      refine sx_getI (pc := 17) (j := 17) B hH hk_th coX12 rfl w_1321 rfl dX12_fault_17 ?_
      refine W.eq (g2 := F0 m 20 ls [.int (gI S th 17)]) rfl ?_
      refine lv_goto (pc := 20) (tgt := 24) hx hb dX12_fault_20 (by decide) ?_
      exact sx_iret (pc := 24) B hH hr hlk (by rw [← hQQ]; exact ⟨_, rfl, rfl, hp⟩) (Nat.le_of_ble_eq_true rfl) (Nat.le_of_ble_eq_true rfl) dX12_fault_24
  · have hp := hp.2 cc_1
    refine lv_aload_n (pc := 4) hx hb dX12_fault_4 rfl (lv_at hl 0 rfl) ?_
    refine sx_getI (pc := 5) (j := 16) B hH hk_th coX12 rfl w_1320 rfl dX12_fault_5 ?_
    refine W.eq (g2 := F0 m 8 ls [.int (gI S th 16)]) rfl ?_
    refine lv_goto (pc := 8) (tgt := 24) hx hb dX12_fault_8 (by decide) ?_
    exact sx_iret (pc := 24) B hH hr hlk (by rw [← hQQ]; exact ⟨_, rfl, rfl, hp⟩) (Nat.le_of_ble_eq_true rfl) (Nat.le_of_ble_eq_true rfl) dX12_fault_24
theorem dX12_taken_0 : decode cX12_taken 0 = .ok (.aload_n 0, 1) := by decide +kernel
theorem dX12_taken_1 : decode cX12_taken 1 = .ok (.aload_n 0, 1) := by decide +kernel
theorem dX12_taken_2 : decode cX12_taken 2 = .ok (.getfield 176, 3) := by decide +kernel
theorem dX12_taken_5 : decode cX12_taken 5 = .ok (.putfield 37, 3) := by decide +kernel
theorem dX12_taken_8 : decode cX12_taken 8 = .ok (.aload_n 0, 1) := by decide +kernel
theorem dX12_taken_9 : decode cX12_taken 9 = .ok (.getfield 176, 3) := by decide +kernel
theorem dX12_taken_12 : decode cX12_taken 12 = .ok (.ifCond .le 12, 3) := by decide +kernel
theorem dX12_taken_15 : decode cX12_taken 15 = .ok (.aload_n 0, 1) := by decide +kernel
theorem dX12_taken_16 : decode cX12_taken 16 = .ok (.bipush 9, 2) := by decide +kernel
theorem dX12_taken_18 : decode cX12_taken 18 = .ok (.invokevirtual 105, 3) := by decide +kernel
theorem dX12_taken_21 : decode cX12_taken 21 = .ok (.goto 8, 3) := by decide +kernel
theorem dX12_taken_24 : decode cX12_taken 24 = .ok (.aload_n 0, 1) := by decide +kernel
theorem dX12_taken_25 : decode cX12_taken 25 = .ok (.iload_n 1, 1) := by decide +kernel
theorem dX12_taken_26 : decode cX12_taken 26 = .ok (.invokevirtual 109, 3) := by decide +kernel
theorem dX12_taken_29 : decode cX12_taken 29 = .ok (.ireturn, 1) := by decide +kernel
theorem mi_X12_taken : MI yX12_taken cX12_taken 2 (some FieldType.int) 1 := ⟨w_1614, w_118, by decide +kernel, by decide +kernel, by decide +kernel⟩
set_option maxRecDepth 100000 in
set_option maxHeartbeats 4000000 in
theorem C_X12_taken (G : GG) (l : Launch) (th : Nat) (p0 : Int32) (S : St) (Q : Int32 → (Nat → Nat → Int32) → Prop) (hp : P_X12_taken th p0 S Q) : Ctr G l yX12_taken cX12_taken 2 (some FieldType.int) 1 21 0 0 [.ref th, .int p0] S (fun (v : Option Value) (S9 : St) => ∃ (r : Int32) (I9 : Nat → Nat → Int32), v = some (.int r) ∧ S9 = wI S I9 ∧ Q r I9) := by
  generalize hQQ : (fun (v : Option Value) (S9 : St) => ∃ (r : Int32) (I9 : Nat → Nat → Int32), v = some (.int r) ∧ S9 = wI S I9 ∧ Q r I9) = QQ
  unfold P_X12_taken at hp
  refine Ctr.of (by decide) (Nat.le_of_ble_eq_true rfl) ?_
  intro p e s m args below meth c ls B hr hlk hin hl hH
  generalize hlocs0 : ([] : List Loc) = locs at hH ⊢
  have hx := B.1
  have hb := B.2.1
  have hl : lv_has ls 2 [(0, .ref th), (1, .int p0)] := hl
  obtain ⟨hk_th, hp⟩ := hp
  refine lv_aload_n (pc := 0) hx hb dX12_taken_0 rfl (lv_at hl 0 rfl) ?_
  refine lv_aload_n (pc := 1) hx hb dX12_taken_1 rfl (lv_at hl 0 rfl) ?_
  refine sx_getI (pc := 2) (j := 18) B hH hk_th coX12 rfl w_1322 rfl dX12_taken_2 ?_
  refine W.eq (g2 := F0 m 5 ls [.int (gI S th 18), .ref th]) rfl ?_
  refine lv_topi (fun v_1 ev_1 => ?_)
  have hp := hp v_1 ev_1
  obtain ⟨F_2, eF_2⟩ : ∃ z : Nat → Nat → Int32, z = upI (gI S) th 16 v_1 := ⟨_, rfl⟩
  have hp := hp F_2 eF_2
  refine sx_putI (pc := 5) (j := 16) B hH hk_th coX12 rfl w_1320 rfl (Or.inl rfl) rfl dX12_taken_5 (fun H locs hH => ?_)
  have hH : Hp G (FA S s.heap.size) s.heap (wI S F_2) H locs := by rw [eF_2]; exact hH
  refine lv_aload_n (pc := 8) hx hb dX12_taken_8 rfl (lv_at hl 0 rfl) ?_
  refine sx_getI (pc := 9) (j := 18) B hH hk_th coX12 rfl w_1322 rfl dX12_taken_9 ?_
  refine W.eq (g2 := F0 m 12 ls [.int (F_2 th 18)]) rfl ?_
  refine lv_if_le (pc := 12) (tgt := 24) hx hb dX12_taken_12 (by decide) (fun cc_3 => ?_) (fun cc_3 => ?_)
  · have hp := hp.1 cc_3
    refine lv_aload_n (pc := 24) hx hb dX12_taken_24 rfl (lv_at hl 0 rfl) ?_
    refine lv_iload_n (pc := 25) hx hb dX12_taken_25 rfl (lv_at hl 1 rfl) ?_
    refine sx_V (pc := 26) (As := [.int p0]) (rest := []) B hH hl.1 (C_X12_gives G l th p0 _ _ hp) mi_X12_gives coX12 hk_th w_1617 w_69 w_1615 rfl rfl ⟨Nat.le_of_ble_eq_true rfl, Nat.le_of_ble_eq_true rfl⟩ (Nat.le_of_ble_eq_true rfl) ⟨Nat.le_of_ble_eq_true rfl, Nat.le_of_ble_eq_true rfl⟩ dX12_taken_26 (fun v S1 H locs hq hH => ?_)
    obtain ⟨r_4, F_4, rfl, e9, hp⟩ := hq
    rw [e9] at hH
    have hH : Hp G (FA S s.heap.size) s.heap (wI S F_4) H locs := hH
    refine W.eq (g2 := F0 m 29 ls [.int r_4]) rfl ?_
    exact sx_iret (pc := 29) B hH hr hlk (by rw [← hQQ]; exact ⟨_, F_4, rfl, rfl, hp⟩) (Nat.le_of_ble_eq_true rfl) (Nat.le_of_ble_eq_true rfl) dX12_taken_29
  · have hp := hp.2 cc_3
    refine lv_aload_n (pc := 15) hx hb dX12_taken_15 rfl (lv_at hl 0 rfl) ?_
    refine lv_bipush (pc := 16) (v := 9) hx hb dX12_taken_16 (by decide) ?_
    refine sx_V (pc := 18) (As := [.int 9]) (rest := []) B hH hl.1 (C_X12_refuse G l th 9 _ _ hp) mi_X12_refuse coX12 hk_th w_1539 w_51 w_1537 rfl rfl ⟨Nat.le_of_ble_eq_true rfl, Nat.le_of_ble_eq_true rfl⟩ (Nat.le_of_ble_eq_true rfl) ⟨Nat.le_of_ble_eq_true rfl, Nat.le_of_ble_eq_true rfl⟩ dX12_taken_18 (fun v S1 H locs hq hH => ?_)
    obtain ⟨r_5, F_5, rfl, e9, hp⟩ := hq
    rw [e9] at hH
    have hH : Hp G (FA S s.heap.size) s.heap (wI S F_5) H locs := hH
    refine W.eq (g2 := F0 m 21 ls [.int r_5]) rfl ?_
    refine lv_goto (pc := 21) (tgt := 29) hx hb dX12_taken_21 (by decide) ?_
    exact sx_iret (pc := 29) B hH hr hlk (by rw [← hQQ]; exact ⟨_, F_5, rfl, rfl, hp⟩) (Nat.le_of_ble_eq_true rfl) (Nat.le_of_ble_eq_true rfl) dX12_taken_29
theorem dX12_canChange_0 : decode cX12_canChange 0 = .ok (.iconst 0, 1) := by decide +kernel
theorem dX12_canChange_1 : decode cX12_canChange 1 = .ok (.istore_n 2, 1) := by decide +kernel
theorem dX12_canChange_2 : decode cX12_canChange 2 = .ok (.iload_n 2, 1) := by decide +kernel
theorem dX12_canChange_3 : decode cX12_canChange 3 = .ok (.iload_n 1, 1) := by decide +kernel
theorem dX12_canChange_4 : decode cX12_canChange 4 = .ok (.if_icmp .ge 44, 3) := by decide +kernel
theorem dX12_canChange_7 : decode cX12_canChange 7 = .ok (.iload_n 0, 1) := by decide +kernel
theorem dX12_canChange_8 : decode cX12_canChange 8 = .ok (.iload_n 2, 1) := by decide +kernel
theorem dX12_canChange_9 : decode cX12_canChange 9 = .ok (.ishr, 1) := by decide +kernel
theorem dX12_canChange_10 : decode cX12_canChange 10 = .ok (.iconst 1, 1) := by decide +kernel
theorem dX12_canChange_11 : decode cX12_canChange 11 = .ok (.iand, 1) := by decide +kernel
theorem dX12_canChange_12 : decode cX12_canChange 12 = .ok (.iconst 1, 1) := by decide +kernel
theorem dX12_canChange_13 : decode cX12_canChange 13 = .ok (.if_icmp .ne 9, 3) := by decide +kernel
theorem dX12_canChange_16 : decode cX12_canChange 16 = .ok (.iinc 2 1, 3) := by decide +kernel
theorem dX12_canChange_19 : decode cX12_canChange 19 = .ok (.goto (-17), 3) := by decide +kernel
theorem dX12_canChange_22 : decode cX12_canChange 22 = .ok (.iload_n 2, 1) := by decide +kernel
theorem dX12_canChange_23 : decode cX12_canChange 23 = .ok (.iconst 1, 1) := by decide +kernel
theorem dX12_canChange_24 : decode cX12_canChange 24 = .ok (.iadd, 1) := by decide +kernel
theorem dX12_canChange_25 : decode cX12_canChange 25 = .ok (.iload_n 1, 1) := by decide +kernel
theorem dX12_canChange_26 : decode cX12_canChange 26 = .ok (.if_icmp .eq 14, 3) := by decide +kernel
theorem dX12_canChange_29 : decode cX12_canChange 29 = .ok (.iload_n 0, 1) := by decide +kernel
theorem dX12_canChange_30 : decode cX12_canChange 30 = .ok (.iload_n 2, 1) := by decide +kernel
theorem dX12_canChange_31 : decode cX12_canChange 31 = .ok (.iconst 1, 1) := by decide +kernel
theorem dX12_canChange_32 : decode cX12_canChange 32 = .ok (.iadd, 1) := by decide +kernel
theorem dX12_canChange_33 : decode cX12_canChange 33 = .ok (.ishr, 1) := by decide +kernel
theorem dX12_canChange_34 : decode cX12_canChange 34 = .ok (.iconst 1, 1) := by decide +kernel
theorem dX12_canChange_35 : decode cX12_canChange 35 = .ok (.iand, 1) := by decide +kernel
theorem dX12_canChange_36 : decode cX12_canChange 36 = .ok (.iconst 1, 1) := by decide +kernel
theorem dX12_canChange_37 : decode cX12_canChange 37 = .ok (.if_icmp .ne 5, 3) := by decide +kernel
theorem dX12_canChange_40 : decode cX12_canChange 40 = .ok (.iconst 0, 1) := by decide +kernel
theorem dX12_canChange_41 : decode cX12_canChange 41 = .ok (.ireturn, 1) := by decide +kernel
theorem dX12_canChange_42 : decode cX12_canChange 42 = .ok (.iinc 2 2, 3) := by decide +kernel
theorem dX12_canChange_45 : decode cX12_canChange 45 = .ok (.goto (-43), 3) := by decide +kernel
theorem dX12_canChange_48 : decode cX12_canChange 48 = .ok (.iconst 1, 1) := by decide +kernel
theorem dX12_canChange_49 : decode cX12_canChange 49 = .ok (.ireturn, 1) := by decide +kernel
theorem mi_X12_canChange : MI yX12_canChange cX12_canChange 3 (some FieldType.boolean) 2 := ⟨w_1602, w_118, by decide +kernel, by decide +kernel, by decide +kernel⟩
set_option maxRecDepth 100000 in
set_option maxHeartbeats 4000000 in
theorem C_X12_canChange (G : GG) (l : Launch) (p0 : Int32) (p1 : Int32) (S : St) (Q : Int32 → Prop) (hp : P_X12_canChange p0 p1 Q) : Ctr G l yX12_canChange cX12_canChange 3 (some FieldType.boolean) 0 0 0 0 [.int p0, .int p1] S (fun (v : Option Value) (S9 : St) => ∃ (r : Int32), v = some (.int r) ∧ S9 = S ∧ Q r ) := by
  generalize hQQ : (fun (v : Option Value) (S9 : St) => ∃ (r : Int32), v = some (.int r) ∧ S9 = S ∧ Q r ) = QQ
  unfold P_X12_canChange at hp
  refine Ctr.of (by decide) (Nat.le_of_ble_eq_true rfl) ?_
  intro p e s m args below meth c ls B hr hlk hin hl hH
  generalize hlocs0 : ([] : List Loc) = locs at hH ⊢
  have hx := B.1
  have hb := B.2.1
  have hl : lv_has ls 3 [(0, .int p0), (1, .int p1)] := hl
  refine lv_iconst (pc := 0) (v := 0) hx hb dX12_canChange_0 (by decide) ?_
  refine lv_istore_n (pc := 1) (lv' := [(2, .int 0), (0, .int p0), (1, .int p1)]) hx hb dX12_canChange_1 rfl hl (by decide) rfl (fun ls hl => ?_)
  obtain ⟨I_1, ⟨k0_1, h0_1⟩, hst_1⟩ := hp
  have kl_1 : ∀ (n_1 : Nat) (x2_2 : Int32) (H : Heap) (locs : List Loc) (ls : Array Slot), I_1 n_1 x2_2 → Hp G (FA S s.heap.size) s.heap S H locs → lv_has ls 3 [(0, .int p0), (1, .int p1), (2, .int x2_2)] → Wm G p l e { frames := 0, cells := 0, slots := 0, locals := 0 } s m args below meth c S QQ 0 0 H locs 0 0 (F0 m 2 ls []) := by
    intro n_1
    induction n_1 using Nat.strongRecOn with
    | ind n_1 ih_1 =>
      intro x2_2 H locs ls hq9 hH hl
      have hp := hst_1 n_1 x2_2 hq9
      refine lv_iload_n (pc := 2) hx hb dX12_canChange_2 rfl (lv_at hl 2 rfl) ?_
      refine lv_iload_n (pc := 3) hx hb dX12_canChange_3 rfl (lv_at hl 1 rfl) ?_
      refine lv_icmp_ge (pc := 4) (tgt := 48) hx hb dX12_canChange_4 (by decide) (fun cc_3 => ?_) (fun cc_3 => ?_)
      · have hp := hp.1 cc_3
        refine lv_iconst (pc := 48) (v := 1) hx hb dX12_canChange_48 (by decide) ?_
        exact sx_zret (pc := 49) B hH hr hlk (Or.inr rfl) (by rw [← hQQ]; exact ⟨_, rfl, rfl, hp⟩) (Nat.le_of_ble_eq_true rfl) (Nat.le_of_ble_eq_true rfl) dX12_canChange_49
      · have hp := hp.2 cc_3
        refine lv_iload_n (pc := 7) hx hb dX12_canChange_7 rfl (lv_at hl 0 rfl) ?_
        refine lv_iload_n (pc := 8) hx hb dX12_canChange_8 rfl (lv_at hl 2 rfl) ?_
        refine lv_ishr (pc := 9) hx hb dX12_canChange_9 ?_
        refine W.eq (g2 := F0 m 10 ls [.int (shr p0 x2_2)]) rfl ?_
        refine lv_iconst (pc := 10) (v := 1) hx hb dX12_canChange_10 (by decide) ?_
        refine lv_iand (pc := 11) hx hb dX12_canChange_11 ?_
        refine lv_iconst (pc := 12) (v := 1) hx hb dX12_canChange_12 (by decide) ?_
        refine lv_icmp_ne (pc := 13) (tgt := 22) hx hb dX12_canChange_13 (by decide) (fun cc_4 => ?_) (fun cc_4 => ?_)
        · have hp := hp.1 cc_4
          refine lv_iload_n (pc := 22) hx hb dX12_canChange_22 rfl (lv_at hl 2 rfl) ?_
          refine lv_iconst (pc := 23) (v := 1) hx hb dX12_canChange_23 (by decide) ?_
          refine lv_iadd (pc := 24) hx hb dX12_canChange_24 ?_
          refine lv_iload_n (pc := 25) hx hb dX12_canChange_25 rfl (lv_at hl 1 rfl) ?_
          refine lv_icmp_eq (pc := 26) (tgt := 40) hx hb dX12_canChange_26 (by decide) (fun cc_5 => ?_) (fun cc_5 => ?_)
          · have hp := hp.1 cc_5
            refine lv_iconst (pc := 40) (v := 0) hx hb dX12_canChange_40 (by decide) ?_
            exact sx_zret (pc := 41) B hH hr hlk (Or.inl rfl) (by rw [← hQQ]; exact ⟨_, rfl, rfl, hp⟩) (Nat.le_of_ble_eq_true rfl) (Nat.le_of_ble_eq_true rfl) dX12_canChange_41
          · have hp := hp.2 cc_5
            refine lv_iload_n (pc := 29) hx hb dX12_canChange_29 rfl (lv_at hl 0 rfl) ?_
            refine lv_iload_n (pc := 30) hx hb dX12_canChange_30 rfl (lv_at hl 2 rfl) ?_
            refine lv_iconst (pc := 31) (v := 1) hx hb dX12_canChange_31 (by decide) ?_
            refine lv_iadd (pc := 32) hx hb dX12_canChange_32 ?_
            refine lv_ishr (pc := 33) hx hb dX12_canChange_33 ?_
            refine W.eq (g2 := F0 m 34 ls [.int (shr p0 (x2_2 + 1))]) rfl ?_
            refine lv_iconst (pc := 34) (v := 1) hx hb dX12_canChange_34 (by decide) ?_
            refine lv_iand (pc := 35) hx hb dX12_canChange_35 ?_
            refine lv_iconst (pc := 36) (v := 1) hx hb dX12_canChange_36 (by decide) ?_
            refine lv_icmp_ne (pc := 37) (tgt := 42) hx hb dX12_canChange_37 (by decide) (fun cc_6 => ?_) (fun cc_6 => ?_)
            · have hp := hp.1 cc_6
              obtain ⟨v_7, ev_7⟩ : ∃ y : Int32, y = x2_2 + 2 := ⟨_, rfl⟩
              have hp := hp v_7 ev_7
              refine lv_iinc (pc := 42) (v := v_7) (lv' := [(2, .int v_7), (0, .int p0), (1, .int p1)]) hx hb dX12_canChange_42 hl (k := 2) rfl (by rw [ev_7]; rfl) (by decide) rfl (fun ls hl => ?_)
              refine lv_goto (pc := 45) (tgt := 2) hx hb dX12_canChange_45 (by decide) ?_
              obtain ⟨k9, hlt9, hp⟩ := hp
              exact ih_1 k9 hlt9 _ _ _ _ hp hH (lv_sub hl [1, 2, 0] rfl)
            · have hp := hp.2 cc_6
              refine lv_iconst (pc := 40) (v := 0) hx hb dX12_canChange_40 (by decide) ?_
              exact sx_zret (pc := 41) B hH hr hlk (Or.inl rfl) (by rw [← hQQ]; exact ⟨_, rfl, rfl, hp⟩) (Nat.le_of_ble_eq_true rfl) (Nat.le_of_ble_eq_true rfl) dX12_canChange_41
        · have hp := hp.2 cc_4
          obtain ⟨v_8, ev_8⟩ : ∃ y : Int32, y = x2_2 + 1 := ⟨_, rfl⟩
          have hp := hp v_8 ev_8
          refine lv_iinc (pc := 16) (v := v_8) (lv' := [(2, .int v_8), (0, .int p0), (1, .int p1)]) hx hb dX12_canChange_16 hl (k := 2) rfl (by rw [ev_8]; rfl) (by decide) rfl (fun ls hl => ?_)
          refine lv_goto (pc := 19) (tgt := 2) hx hb dX12_canChange_19 (by decide) ?_
          obtain ⟨k9, hlt9, hp⟩ := hp
          exact ih_1 k9 hlt9 _ _ _ _ hp hH (lv_sub hl [1, 2, 0] rfl)
  exact kl_1 k0_1 _ _ _ _ h0_1 hH (lv_sub hl [1, 2, 0] rfl)
theorem dX12_isPlaces_0 : decode cX12_isPlaces 0 = .ok (.aload_n 0, 1) := by decide +kernel
theorem dX12_isPlaces_1 : decode cX12_isPlaces 1 = .ok (.getfield 151, 3) := by decide +kernel
theorem dX12_isPlaces_4 : decode cX12_isPlaces 4 = .ok (.iconst 3, 1) := by decide +kernel
theorem dX12_isPlaces_5 : decode cX12_isPlaces 5 = .ok (.if_icmp .eq 13, 3) := by decide +kernel
theorem dX12_isPlaces_8 : decode cX12_isPlaces 8 = .ok (.aload_n 0, 1) := by decide +kernel
theorem dX12_isPlaces_9 : decode cX12_isPlaces 9 = .ok (.ldc 199, 2) := by decide +kernel
theorem dX12_isPlaces_11 : decode cX12_isPlaces 11 = .ok (.invokevirtual 191, 3) := by decide +kernel
theorem dX12_isPlaces_14 : decode cX12_isPlaces 14 = .ok (.iconst 3, 1) := by decide +kernel
theorem dX12_isPlaces_15 : decode cX12_isPlaces 15 = .ok (.if_icmp .ne 7, 3) := by decide +kernel
theorem dX12_isPlaces_18 : decode cX12_isPlaces 18 = .ok (.iconst 1, 1) := by decide +kernel
theorem dX12_isPlaces_19 : decode cX12_isPlaces 19 = .ok (.goto 4, 3) := by decide +kernel
theorem dX12_isPlaces_22 : decode cX12_isPlaces 22 = .ok (.iconst 0, 1) := by decide +kernel
theorem dX12_isPlaces_23 : decode cX12_isPlaces 23 = .ok (.ireturn, 1) := by decide +kernel
theorem mi_X12_isPlaces : MI yX12_isPlaces cX12_isPlaces 1 (some FieldType.boolean) 0 := ⟨w_1595, w_118, by decide +kernel, by decide +kernel, by decide +kernel⟩
set_option maxRecDepth 100000 in
set_option maxHeartbeats 4000000 in
theorem C_X12_isPlaces (G : GG) (l : Launch) (th : Nat) (S : St) (Q : Int32 → Prop) (hp : P_X12_isPlaces th S Q) : Ctr G l yX12_isPlaces cX12_isPlaces 1 (some FieldType.boolean) 5 111 0 0 [.ref th] S (fun (v : Option Value) (S9 : St) => ∃ (r : Int32), v = some (.int r) ∧ S9 = S ∧ Q r ) := by
  generalize hQQ : (fun (v : Option Value) (S9 : St) => ∃ (r : Int32), v = some (.int r) ∧ S9 = S ∧ Q r ) = QQ
  unfold P_X12_isPlaces at hp
  refine Ctr.of (by decide) (Nat.le_of_ble_eq_true rfl) ?_
  intro p e s m args below meth c ls B hr hlk hin hl hH
  generalize hlocs0 : ([] : List Loc) = locs at hH ⊢
  have hx := B.1
  have hb := B.2.1
  have hl : lv_has ls 1 [(0, .ref th)] := hl
  obtain ⟨hk_th, hp⟩ := hp
  refine lv_aload_n (pc := 0) hx hb dX12_isPlaces_0 rfl (lv_at hl 0 rfl) ?_
  refine sx_getI (pc := 1) (j := 12) B hH hk_th coX12 rfl w_1316 rfl dX12_isPlaces_1 ?_
  refine W.eq (g2 := F0 m 4 ls [.int (gI S th 12)]) rfl ?_
  refine lv_iconst (pc := 4) (v := 3) hx hb dX12_isPlaces_4 (by decide) ?_
  refine lv_icmp_eq (pc := 5) (tgt := 18) hx hb dX12_isPlaces_5 (by decide) (fun cc_1 => ?_) (fun cc_1 => ?_)
  · have hp := hp.1 cc_1
    refine lv_iconst (pc := 18) (v := 1) hx hb dX12_isPlaces_18 (by decide) ?_
    refine lv_goto (pc := 19) (tgt := 23) hx hb dX12_isPlaces_19 (by decide) ?_
    exact sx_zret (pc := 23) B hH hr hlk (Or.inr rfl) (by rw [← hQQ]; exact ⟨_, rfl, rfl, hp⟩) (Nat.le_of_ble_eq_true rfl) (Nat.le_of_ble_eq_true rfl) dX12_isPlaces_23
  · have hp := hp.2 cc_1
    refine lv_aload_n (pc := 8) hx hb dX12_isPlaces_8 rfl (lv_at hl 0 rfl) ?_
    refine sx_ldcS (pc := 9) 12 B (by decide) rfl rfl dX12_isPlaces_9 ?_
    refine sx_V (pc := 11) (As := [.ref (G.2.2.1 12)]) (rest := []) B hH hl.1 (C_X12_inWords G l th 12 _ _ hp) mi_X12_inWords coX12 hk_th w_1548 w_53 w_1546 rfl rfl ⟨Nat.le_of_ble_eq_true rfl, Nat.le_of_ble_eq_true rfl⟩ (Nat.le_of_ble_eq_true rfl) ⟨Nat.le_of_ble_eq_true rfl, Nat.le_of_ble_eq_true rfl⟩ dX12_isPlaces_11 (fun v S1 H locs hq hH => ?_)
    obtain ⟨r_2, rfl, e9, hp⟩ := hq
    rw [e9] at hH
    refine W.eq (g2 := F0 m 14 ls [.int r_2]) rfl ?_
    refine lv_iconst (pc := 14) (v := 3) hx hb dX12_isPlaces_14 (by decide) ?_
    refine lv_icmp_ne (pc := 15) (tgt := 22) hx hb dX12_isPlaces_15 (by decide) (fun cc_3 => ?_) (fun cc_3 => ?_)
    · have hp := hp.1 cc_3
      refine lv_iconst (pc := 22) (v := 0) hx hb dX12_isPlaces_22 (by decide) ?_
      exact sx_zret (pc := 23) B hH hr hlk (Or.inl rfl) (by rw [← hQQ]; exact ⟨_, rfl, rfl, hp⟩) (Nat.le_of_ble_eq_true rfl) (Nat.le_of_ble_eq_true rfl) dX12_isPlaces_23
    · have hp := hp.2 cc_3
      refine lv_iconst (pc := 18) (v := 1) hx hb dX12_isPlaces_18 (by decide) ?_
      refine lv_goto (pc := 19) (tgt := 23) hx hb dX12_isPlaces_19 (by decide) ?_
      exact sx_zret (pc := 23) B hH hr hlk (Or.inr rfl) (by rw [← hQQ]; exact ⟨_, rfl, rfl, hp⟩) (Nat.le_of_ble_eq_true rfl) (Nat.le_of_ble_eq_true rfl) dX12_isPlaces_23
theorem dX12_placesHere_0 : decode cX12_placesHere 0 = .ok (.iconst 0, 1) := by decide +kernel
theorem dX12_placesHere_1 : decode cX12_placesHere 1 = .ok (.istore_n 1, 1) := by decide +kernel
theorem dX12_placesHere_2 : decode cX12_placesHere 2 = .ok (.iconst 0, 1) := by decide +kernel
theorem dX12_placesHere_3 : decode cX12_placesHere 3 = .ok (.istore_n 2, 1) := by decide +kernel
theorem dX12_placesHere_4 : decode cX12_placesHere 4 = .ok (.aload_n 0, 1) := by decide +kernel
theorem dX12_placesHere_5 : decode cX12_placesHere 5 = .ok (.getfield 145, 3) := by decide +kernel
theorem dX12_placesHere_8 : decode cX12_placesHere 8 = .ok (.istore_n 3, 1) := by decide +kernel
theorem dX12_placesHere_9 : decode cX12_placesHere 9 = .ok (.iload_n 3, 1) := by decide +kernel
theorem dX12_placesHere_10 : decode cX12_placesHere 10 = .ok (.aload_n 0, 1) := by decide +kernel
theorem dX12_placesHere_11 : decode cX12_placesHere 11 = .ok (.getfield 139, 3) := by decide +kernel
theorem dX12_placesHere_14 : decode cX12_placesHere 14 = .ok (.if_icmp .ge 60, 3) := by decide +kernel
theorem dX12_placesHere_17 : decode cX12_placesHere 17 = .ok (.aload_n 0, 1) := by decide +kernel
theorem dX12_placesHere_18 : decode cX12_placesHere 18 = .ok (.getfield 151, 3) := by decide +kernel
theorem dX12_placesHere_21 : decode cX12_placesHere 21 = .ok (.iconst 3, 1) := by decide +kernel
theorem dX12_placesHere_22 : decode cX12_placesHere 22 = .ok (.if_icmp .ne 52, 3) := by decide +kernel
theorem dX12_placesHere_25 : decode cX12_placesHere 25 = .ok (.aload_n 0, 1) := by decide +kernel
theorem dX12_placesHere_26 : decode cX12_placesHere 26 = .ok (.iload_n 3, 1) := by decide +kernel
theorem dX12_placesHere_27 : decode cX12_placesHere 27 = .ok (.invokevirtual 142, 3) := by decide +kernel
theorem dX12_placesHere_30 : decode cX12_placesHere 30 = .ok (.bipush 48, 2) := by decide +kernel
theorem dX12_placesHere_32 : decode cX12_placesHere 32 = .ok (.isub, 1) := by decide +kernel
theorem dX12_placesHere_33 : decode cX12_placesHere 33 = .ok (.istore 4, 2) := by decide +kernel
theorem dX12_placesHere_35 : decode cX12_placesHere 35 = .ok (.iload 4, 2) := by decide +kernel
theorem dX12_placesHere_37 : decode cX12_placesHere 37 = .ok (.iload_n 2, 1) := by decide +kernel
theorem dX12_placesHere_38 : decode cX12_placesHere 38 = .ok (.if_icmp .le 16, 3) := by decide +kernel
theorem dX12_placesHere_41 : decode cX12_placesHere 41 = .ok (.iload 4, 2) := by decide +kernel
theorem dX12_placesHere_43 : decode cX12_placesHere 43 = .ok (.aload_n 0, 1) := by decide +kernel
theorem dX12_placesHere_44 : decode cX12_placesHere 44 = .ok (.getfield 7, 3) := by decide +kernel
theorem dX12_placesHere_47 : decode cX12_placesHere 47 = .ok (.sipush 9680, 3) := by decide +kernel
theorem dX12_placesHere_50 : decode cX12_placesHere 50 = .ok (.iaload, 1) := by decide +kernel
theorem dX12_placesHere_51 : decode cX12_placesHere 51 = .ok (.if_icmp .le 5, 3) := by decide +kernel
theorem dX12_placesHere_54 : decode cX12_placesHere 54 = .ok (.iconst (-1), 1) := by decide +kernel
theorem dX12_placesHere_55 : decode cX12_placesHere 55 = .ok (.ireturn, 1) := by decide +kernel
theorem dX12_placesHere_56 : decode cX12_placesHere 56 = .ok (.iload_n 1, 1) := by decide +kernel
theorem dX12_placesHere_57 : decode cX12_placesHere 57 = .ok (.iconst 1, 1) := by decide +kernel
theorem dX12_placesHere_58 : decode cX12_placesHere 58 = .ok (.iload 4, 2) := by decide +kernel
theorem dX12_placesHere_60 : decode cX12_placesHere 60 = .ok (.iconst 1, 1) := by decide +kernel
theorem dX12_placesHere_61 : decode cX12_placesHere 61 = .ok (.isub, 1) := by decide +kernel
theorem dX12_placesHere_62 : decode cX12_placesHere 62 = .ok (.ishl, 1) := by decide +kernel
theorem dX12_placesHere_63 : decode cX12_placesHere 63 = .ok (.ior, 1) := by decide +kernel
theorem dX12_placesHere_64 : decode cX12_placesHere 64 = .ok (.istore_n 1, 1) := by decide +kernel
theorem dX12_placesHere_65 : decode cX12_placesHere 65 = .ok (.iload 4, 2) := by decide +kernel
theorem dX12_placesHere_67 : decode cX12_placesHere 67 = .ok (.istore_n 2, 1) := by decide +kernel
theorem dX12_placesHere_68 : decode cX12_placesHere 68 = .ok (.iinc 3 1, 3) := by decide +kernel
theorem dX12_placesHere_71 : decode cX12_placesHere 71 = .ok (.goto (-62), 3) := by decide +kernel
theorem dX12_placesHere_74 : decode cX12_placesHere 74 = .ok (.iload_n 1, 1) := by decide +kernel
theorem dX12_placesHere_75 : decode cX12_placesHere 75 = .ok (.aload_n 0, 1) := by decide +kernel
theorem dX12_placesHere_76 : decode cX12_placesHere 76 = .ok (.getfield 7, 3) := by decide +kernel
theorem dX12_placesHere_79 : decode cX12_placesHere 79 = .ok (.sipush 9680, 3) := by decide +kernel
theorem dX12_placesHere_82 : decode cX12_placesHere 82 = .ok (.iaload, 1) := by decide +kernel
theorem dX12_placesHere_83 : decode cX12_placesHere 83 = .ok (.invokestatic 201, 3) := by decide +kernel
theorem dX12_placesHere_86 : decode cX12_placesHere 86 = .ok (.ifCond .eq 7, 3) := by decide +kernel
theorem dX12_placesHere_89 : decode cX12_placesHere 89 = .ok (.iload_n 1, 1) := by decide +kernel
theorem dX12_placesHere_90 : decode cX12_placesHere 90 = .ok (.goto 4, 3) := by decide +kernel
theorem dX12_placesHere_93 : decode cX12_placesHere 93 = .ok (.iconst (-1), 1) := by decide +kernel
theorem dX12_placesHere_94 : decode cX12_placesHere 94 = .ok (.ireturn, 1) := by decide +kernel
theorem mi_X12_placesHere : MI yX12_placesHere cX12_placesHere 5 (some FieldType.int) 0 := ⟨w_1599, w_118, by decide +kernel, by decide +kernel, by decide +kernel⟩
set_option maxRecDepth 100000 in
set_option maxHeartbeats 4000000 in
theorem C_X12_placesHere (G : GG) (l : Launch) (th : Nat) (S : St) (Q : Int32 → Prop) (hp : P_X12_placesHere th S Q) : Ctr G l yX12_placesHere cX12_placesHere 5 (some FieldType.int) 1 22 0 0 [.ref th] S (fun (v : Option Value) (S9 : St) => ∃ (r : Int32), v = some (.int r) ∧ S9 = S ∧ Q r ) := by
  generalize hQQ : (fun (v : Option Value) (S9 : St) => ∃ (r : Int32), v = some (.int r) ∧ S9 = S ∧ Q r ) = QQ
  unfold P_X12_placesHere at hp
  refine Ctr.of (by decide) (Nat.le_of_ble_eq_true rfl) ?_
  intro p e s m args below meth c ls B hr hlk hin hl hH
  generalize hlocs0 : ([] : List Loc) = locs at hH ⊢
  have hx := B.1
  have hb := B.2.1
  have hl : lv_has ls 5 [(0, .ref th)] := hl
  obtain ⟨hk_th, hp⟩ := hp
  refine lv_iconst (pc := 0) (v := 0) hx hb dX12_placesHere_0 (by decide) ?_
  refine lv_istore_n (pc := 1) (lv' := [(1, .int 0), (0, .ref th)]) hx hb dX12_placesHere_1 rfl hl (by decide) rfl (fun ls hl => ?_)
  refine lv_iconst (pc := 2) (v := 0) hx hb dX12_placesHere_2 (by decide) ?_
  refine lv_istore_n (pc := 3) (lv' := [(2, .int 0), (1, .int 0), (0, .ref th)]) hx hb dX12_placesHere_3 rfl hl (by decide) rfl (fun ls hl => ?_)
  refine lv_aload_n (pc := 4) hx hb dX12_placesHere_4 rfl (lv_at hl 2 rfl) ?_
  refine sx_getI (pc := 5) (j := 13) B hH hk_th coX12 rfl w_1317 rfl dX12_placesHere_5 ?_
  refine W.eq (g2 := F0 m 8 ls [.int (gI S th 13)]) rfl ?_
  refine lv_topi (fun v_1 ev_1 => ?_)
  have hp := hp v_1 ev_1
  refine lv_istore_n (pc := 8) (lv' := [(3, .int v_1), (2, .int 0), (1, .int 0), (0, .ref th)]) hx hb dX12_placesHere_8 rfl hl (by decide) rfl (fun ls hl => ?_)
  obtain ⟨I_2, ⟨k0_2, h0_2⟩, hst_2⟩ := hp
  have kl_2 : ∀ (n_2 : Nat) (x1_3 : Int32) (x2_4 : Int32) (x3_5 : Int32) (H : Heap) (locs : List Loc) (ls : Array Slot), I_2 n_2 x1_3 x2_4 x3_5 → Hp G (FA S s.heap.size) s.heap S H locs → lv_has ls 5 [(0, .ref th), (1, .int x1_3), (2, .int x2_4), (3, .int x3_5)] → Wm G p l e { frames := 1, cells := 0, slots := 0, locals := 22 } s m args below meth c S QQ 0 0 H locs 0 0 (F0 m 9 ls []) := by
    intro n_2
    induction n_2 using Nat.strongRecOn with
    | ind n_2 ih_2 =>
      intro x1_3 x2_4 x3_5 H locs ls hq9 hH hl
      have hp := hst_2 n_2 x1_3 x2_4 x3_5 hq9
      refine lv_iload_n (pc := 9) hx hb dX12_placesHere_9 rfl (lv_at hl 3 rfl) ?_
      refine lv_aload_n (pc := 10) hx hb dX12_placesHere_10 rfl (lv_at hl 0 rfl) ?_
      refine sx_getI (pc := 11) (j := 14) B hH hk_th coX12 rfl w_1318 rfl dX12_placesHere_11 ?_
      refine W.eq (g2 := F0 m 14 ls [.int (gI S th 14), .int x3_5]) rfl ?_
      obtain ⟨J_7, hj_7, hp⟩ := hp
      have kj_7 : ∀  (H : Heap) (locs : List Loc) (ls : Array Slot), J_7  → Hp G (FA S s.heap.size) s.heap S H locs → lv_has ls 5 [(0, .ref th), (1, .int x1_3)] → Wm G p l e { frames := 1, cells := 0, slots := 0, locals := 22 } s m args below meth c S QQ 0 0 H locs 0 0 (F0 m 74 ls []) := by
        intro  H locs ls hq9 hH hl
        have hp := hj_7  hq9
        refine lv_iload_n (pc := 74) hx hb dX12_placesHere_74 rfl (lv_at hl 1 rfl) ?_
        refine lv_aload_n (pc := 75) hx hb dX12_placesHere_75 rfl (lv_at hl 0 rfl) ?_
        refine sx_getR (pc := 76) (j := 0) B hH hk_th coX12 rfl w_1304 rfl dX12_placesHere_76 ?_
        refine W.eq (g2 := F0 m 79 ls [va_rf (gR S th 0), .int x1_3]) rfl ?_
        obtain ⟨a_8, ha_8, hp⟩ := hp
        refine sx_nonnull (x := a_8) ha_8 ?_
        refine lv_sipush (pc := 79) (v := 9680) hx hb dX12_placesHere_79 (by decide) ?_
        obtain ⟨hk_9, hp⟩ := hp
        obtain ⟨hn_10, hp⟩ := hp
        refine sx_iald (pc := 82) B hH hk_9 hn_10 dX12_placesHere_82 ?_
        refine W.eq (g2 := F0 m 83 ls [.int (gI S a_8 9680), .int x1_3]) rfl ?_
        refine sx_S (pc := 83) (As := [.int x1_3, .int (gI S a_8 9680)]) (rest := []) B hH hl.1 (C_X12_canChange G l x1_3 (gI S a_8 9680) _ _ hp) mi_X12_canChange w_1601 w_1600 rfl rfl ⟨Nat.le_of_ble_eq_true rfl, Nat.le_of_ble_eq_true rfl⟩ (Nat.le_of_ble_eq_true rfl) ⟨Nat.le_of_ble_eq_true rfl, Nat.le_of_ble_eq_true rfl⟩ dX12_placesHere_83 (fun v S1 H locs hq hH => ?_)
        obtain ⟨r_11, rfl, e9, hp⟩ := hq
        rw [e9] at hH
        refine W.eq (g2 := F0 m 86 ls [.int r_11]) rfl ?_
        refine lv_if_eq (pc := 86) (tgt := 93) hx hb dX12_placesHere_86 (by decide) (fun cc_12 => ?_) (fun cc_12 => ?_)
        · have hp := hp.1 cc_12
          refine lv_iconst (pc := 93) (v := (-1)) hx hb dX12_placesHere_93 (by decide) ?_
          exact sx_iret (pc := 94) B hH hr hlk (by rw [← hQQ]; exact ⟨_, rfl, rfl, hp⟩) (Nat.le_of_ble_eq_true rfl) (Nat.le_of_ble_eq_true rfl) dX12_placesHere_94
        · have hp := hp.2 cc_12
          refine lv_iload_n (pc := 89) hx hb dX12_placesHere_89 rfl (lv_at hl 1 rfl) ?_
          refine lv_goto (pc := 90) (tgt := 94) hx hb dX12_placesHere_90 (by decide) ?_
          exact sx_iret (pc := 94) B hH hr hlk (by rw [← hQQ]; exact ⟨_, rfl, rfl, hp⟩) (Nat.le_of_ble_eq_true rfl) (Nat.le_of_ble_eq_true rfl) dX12_placesHere_94
      refine lv_icmp_ge (pc := 14) (tgt := 74) hx hb dX12_placesHere_14 (by decide) (fun cc_6 => ?_) (fun cc_6 => ?_)
      · have hp := hp.1 cc_6
        exact kj_7  _ _ _ hp hH (lv_sub hl [0, 1] rfl)
      · have hp := hp.2 cc_6
        refine lv_aload_n (pc := 17) hx hb dX12_placesHere_17 rfl (lv_at hl 0 rfl) ?_
        refine sx_getI (pc := 18) (j := 12) B hH hk_th coX12 rfl w_1316 rfl dX12_placesHere_18 ?_
        refine W.eq (g2 := F0 m 21 ls [.int (gI S th 12)]) rfl ?_
        refine lv_iconst (pc := 21) (v := 3) hx hb dX12_placesHere_21 (by decide) ?_
        refine lv_icmp_ne (pc := 22) (tgt := 74) hx hb dX12_placesHere_22 (by decide) (fun cc_13 => ?_) (fun cc_13 => ?_)
        · have hp := hp.1 cc_13
          exact kj_7  _ _ _ hp hH (lv_sub hl [0, 1] rfl)
        · have hp := hp.2 cc_13
          refine lv_aload_n (pc := 25) hx hb dX12_placesHere_25 rfl (lv_at hl 0 rfl) ?_
          refine lv_iload_n (pc := 26) hx hb dX12_placesHere_26 rfl (lv_at hl 3 rfl) ?_
          refine sx_V (pc := 27) (As := [.int x3_5]) (rest := []) B hH hl.1 (C_X12_byteAt G l th x3_5 _ _ hp) mi_X12_byteAt coX12 hk_th w_1527 w_50 w_1525 rfl rfl ⟨Nat.le_of_ble_eq_true rfl, Nat.le_of_ble_eq_true rfl⟩ (Nat.le_of_ble_eq_true rfl) ⟨Nat.le_of_ble_eq_true rfl, Nat.le_of_ble_eq_true rfl⟩ dX12_placesHere_27 (fun v S1 H locs hq hH => ?_)
          obtain ⟨r_14, rfl, e9, hp⟩ := hq
          rw [e9] at hH
          refine W.eq (g2 := F0 m 30 ls [.int r_14]) rfl ?_
          refine lv_bipush (pc := 30) (v := 48) hx hb dX12_placesHere_30 (by decide) ?_
          refine lv_isub (pc := 32) hx hb dX12_placesHere_32 ?_
          refine lv_topi (fun v_15 ev_15 => ?_)
          have hp := hp v_15 ev_15
          refine lv_istore (pc := 33) (lv' := [(4, .int v_15), (0, .ref th), (1, .int x1_3), (2, .int x2_4), (3, .int x3_5)]) hx hb dX12_placesHere_33 hl (by decide) rfl (fun ls hl => ?_)
          refine lv_iload (pc := 35) hx hb dX12_placesHere_35 (lv_at hl 0 rfl) ?_
          refine lv_iload_n (pc := 37) hx hb dX12_placesHere_37 rfl (lv_at hl 3 rfl) ?_
          refine lv_icmp_le (pc := 38) (tgt := 54) hx hb dX12_placesHere_38 (by decide) (fun cc_16 => ?_) (fun cc_16 => ?_)
          · have hp := hp.1 cc_16
            refine lv_iconst (pc := 54) (v := (-1)) hx hb dX12_placesHere_54 (by decide) ?_
            exact sx_iret (pc := 55) B hH hr hlk (by rw [← hQQ]; exact ⟨_, rfl, rfl, hp⟩) (Nat.le_of_ble_eq_true rfl) (Nat.le_of_ble_eq_true rfl) dX12_placesHere_55
          · have hp := hp.2 cc_16
            refine lv_iload (pc := 41) hx hb dX12_placesHere_41 (lv_at hl 0 rfl) ?_
            refine lv_aload_n (pc := 43) hx hb dX12_placesHere_43 rfl (lv_at hl 1 rfl) ?_
            refine sx_getR (pc := 44) (j := 0) B hH hk_th coX12 rfl w_1304 rfl dX12_placesHere_44 ?_
            refine W.eq (g2 := F0 m 47 ls [va_rf (gR S th 0), .int v_15]) rfl ?_
            obtain ⟨a_17, ha_17, hp⟩ := hp
            refine sx_nonnull (x := a_17) ha_17 ?_
            refine lv_sipush (pc := 47) (v := 9680) hx hb dX12_placesHere_47 (by decide) ?_
            obtain ⟨hk_18, hp⟩ := hp
            obtain ⟨hn_19, hp⟩ := hp
            refine sx_iald (pc := 50) B hH hk_18 hn_19 dX12_placesHere_50 ?_
            refine W.eq (g2 := F0 m 51 ls [.int (gI S a_17 9680), .int v_15]) rfl ?_
            refine lv_icmp_le (pc := 51) (tgt := 56) hx hb dX12_placesHere_51 (by decide) (fun cc_20 => ?_) (fun cc_20 => ?_)
            · have hp := hp.1 cc_20
              refine lv_iload_n (pc := 56) hx hb dX12_placesHere_56 rfl (lv_at hl 2 rfl) ?_
              refine lv_iconst (pc := 57) (v := 1) hx hb dX12_placesHere_57 (by decide) ?_
              refine lv_iload (pc := 58) hx hb dX12_placesHere_58 (lv_at hl 0 rfl) ?_
              refine lv_iconst (pc := 60) (v := 1) hx hb dX12_placesHere_60 (by decide) ?_
              refine lv_isub (pc := 61) hx hb dX12_placesHere_61 ?_
              refine lv_ishl (pc := 62) hx hb dX12_placesHere_62 ?_
              refine W.eq (g2 := F0 m 63 ls [.int (shl 1 (v_15 - 1)), .int x1_3]) rfl ?_
              refine lv_ior (pc := 63) hx hb dX12_placesHere_63 ?_
              refine lv_topi (fun v_21 ev_21 => ?_)
              have hp := hp v_21 ev_21
              refine lv_istore_n (pc := 64) (lv' := [(1, .int v_21), (4, .int v_15), (0, .ref th), (2, .int x2_4), (3, .int x3_5)]) hx hb dX12_placesHere_64 rfl hl (by decide) rfl (fun ls hl => ?_)
              refine lv_iload (pc := 65) hx hb dX12_placesHere_65 (lv_at hl 1 rfl) ?_
              refine lv_istore_n (pc := 67) (lv' := [(2, .int v_15), (1, .int v_21), (4, .int v_15), (0, .ref th), (3, .int x3_5)]) hx hb dX12_placesHere_67 rfl hl (by decide) rfl (fun ls hl => ?_)
              obtain ⟨v_22, ev_22⟩ : ∃ y : Int32, y = x3_5 + 1 := ⟨_, rfl⟩
              have hp := hp v_22 ev_22
              refine lv_iinc (pc := 68) (v := v_22) (lv' := [(3, .int v_22), (2, .int v_15), (1, .int v_21), (4, .int v_15), (0, .ref th)]) hx hb dX12_placesHere_68 hl (k := 4) rfl (by rw [ev_22]; rfl) (by decide) rfl (fun ls hl => ?_)
              refine lv_goto (pc := 71) (tgt := 9) hx hb dX12_placesHere_71 (by decide) ?_
              obtain ⟨k9, hlt9, hp⟩ := hp
              exact ih_2 k9 hlt9 _ _ _ _ _ _ hp hH (lv_sub hl [4, 2, 1, 0] rfl)
            · have hp := hp.2 cc_20
              refine lv_iconst (pc := 54) (v := (-1)) hx hb dX12_placesHere_54 (by decide) ?_
              exact sx_iret (pc := 55) B hH hr hlk (by rw [← hQQ]; exact ⟨_, rfl, rfl, hp⟩) (Nat.le_of_ble_eq_true rfl) (Nat.le_of_ble_eq_true rfl) dX12_placesHere_55
  exact kl_2 k0_2 _ _ _ _ _ _ h0_2 hH (lv_sub hl [3, 2, 1, 0] rfl)
theorem dX12_placesTo_0 : decode cX12_placesTo 0 = .ok (.aload_n 0, 1) := by decide +kernel
theorem dX12_placesTo_1 : decode cX12_placesTo 1 = .ok (.invokevirtual 205, 3) := by decide +kernel
theorem dX12_placesTo_4 : decode cX12_placesTo 4 = .ok (.ifCond .ne 9, 3) := by decide +kernel
theorem dX12_placesTo_7 : decode cX12_placesTo 7 = .ok (.aload_n 0, 1) := by decide +kernel
theorem dX12_placesTo_8 : decode cX12_placesTo 8 = .ok (.iconst 2, 1) := by decide +kernel
theorem dX12_placesTo_9 : decode cX12_placesTo 9 = .ok (.invokevirtual 188, 3) := by decide +kernel
theorem dX12_placesTo_12 : decode cX12_placesTo 12 = .ok (.ireturn, 1) := by decide +kernel
theorem dX12_placesTo_13 : decode cX12_placesTo 13 = .ok (.aload_n 0, 1) := by decide +kernel
theorem dX12_placesTo_14 : decode cX12_placesTo 14 = .ok (.invokevirtual 209, 3) := by decide +kernel
theorem dX12_placesTo_17 : decode cX12_placesTo 17 = .ok (.istore_n 2, 1) := by decide +kernel
theorem dX12_placesTo_18 : decode cX12_placesTo 18 = .ok (.iload_n 2, 1) := by decide +kernel
theorem dX12_placesTo_19 : decode cX12_placesTo 19 = .ok (.iconst (-1), 1) := by decide +kernel
theorem dX12_placesTo_20 : decode cX12_placesTo 20 = .ok (.if_icmp .ne 9, 3) := by decide +kernel
theorem dX12_placesTo_23 : decode cX12_placesTo 23 = .ok (.aload_n 0, 1) := by decide +kernel
theorem dX12_placesTo_24 : decode cX12_placesTo 24 = .ok (.iconst 4, 1) := by decide +kernel
theorem dX12_placesTo_25 : decode cX12_placesTo 25 = .ok (.invokevirtual 188, 3) := by decide +kernel
theorem dX12_placesTo_28 : decode cX12_placesTo 28 = .ok (.ireturn, 1) := by decide +kernel
theorem dX12_placesTo_29 : decode cX12_placesTo 29 = .ok (.aload_n 0, 1) := by decide +kernel
theorem dX12_placesTo_30 : decode cX12_placesTo 30 = .ok (.getfield 7, 3) := by decide +kernel
theorem dX12_placesTo_33 : decode cX12_placesTo 33 = .ok (.iload_n 1, 1) := by decide +kernel
theorem dX12_placesTo_34 : decode cX12_placesTo 34 = .ok (.iload_n 2, 1) := by decide +kernel
theorem dX12_placesTo_35 : decode cX12_placesTo 35 = .ok (.iastore, 1) := by decide +kernel
theorem dX12_placesTo_36 : decode cX12_placesTo 36 = .ok (.aload_n 0, 1) := by decide +kernel
theorem dX12_placesTo_37 : decode cX12_placesTo 37 = .ok (.invokevirtual 182, 3) := by decide +kernel
theorem dX12_placesTo_40 : decode cX12_placesTo 40 = .ok (.iconst 1, 1) := by decide +kernel
theorem dX12_placesTo_41 : decode cX12_placesTo 41 = .ok (.ireturn, 1) := by decide +kernel
theorem mi_X12_placesTo : MI yX12_placesTo cX12_placesTo 3 (some FieldType.boolean) 1 := ⟨w_1606, w_118, by decide +kernel, by decide +kernel, by decide +kernel⟩
set_option maxRecDepth 100000 in
set_option maxHeartbeats 4000000 in
theorem C_X12_placesTo (G : GG) (l : Launch) (th : Nat) (p0 : Int32) (S : St) (Q : Int32 → (Nat → Nat → Int32) → Prop) (hp : P_X12_placesTo th p0 S Q) : Ctr G l yX12_placesTo cX12_placesTo 3 (some FieldType.boolean) 6 131 0 0 [.ref th, .int p0] S (fun (v : Option Value) (S9 : St) => ∃ (r : Int32) (I9 : Nat → Nat → Int32), v = some (.int r) ∧ S9 = wI S I9 ∧ Q r I9) := by
  generalize hQQ : (fun (v : Option Value) (S9 : St) => ∃ (r : Int32) (I9 : Nat → Nat → Int32), v = some (.int r) ∧ S9 = wI S I9 ∧ Q r I9) = QQ
  unfold P_X12_placesTo at hp
  refine Ctr.of (by decide) (Nat.le_of_ble_eq_true rfl) ?_
  intro p e s m args below meth c ls B hr hlk hin hl hH
  generalize hlocs0 : ([] : List Loc) = locs at hH ⊢
  have hx := B.1
  have hb := B.2.1
  have hl : lv_has ls 3 [(0, .ref th), (1, .int p0)] := hl
  obtain ⟨hk_th, hp⟩ := hp
  refine lv_aload_n (pc := 0) hx hb dX12_placesTo_0 rfl (lv_at hl 0 rfl) ?_
  refine sx_V (pc := 1) (As := []) (rest := []) B hH hl.1 (C_X12_isPlaces G l th _ _ hp) mi_X12_isPlaces coX12 hk_th w_1594 w_64 w_1592 rfl rfl ⟨Nat.le_of_ble_eq_true rfl, Nat.le_of_ble_eq_true rfl⟩ (Nat.le_of_ble_eq_true rfl) ⟨Nat.le_of_ble_eq_true rfl, Nat.le_of_ble_eq_true rfl⟩ dX12_placesTo_1 (fun v S1 H locs hq hH => ?_)
  obtain ⟨r_1, rfl, e9, hp⟩ := hq
  rw [e9] at hH
  refine W.eq (g2 := F0 m 4 ls [.int r_1]) rfl ?_
  refine lv_if_ne (pc := 4) (tgt := 13) hx hb dX12_placesTo_4 (by decide) (fun cc_2 => ?_) (fun cc_2 => ?_)
  · have hp := hp.1 cc_2
    refine lv_aload_n (pc := 13) hx hb dX12_placesTo_13 rfl (lv_at hl 0 rfl) ?_
    refine sx_V (pc := 14) (As := []) (rest := []) B hH hl.1 (C_X12_placesHere G l th _ _ hp) mi_X12_placesHere coX12 hk_th w_1598 w_65 w_1596 rfl rfl ⟨Nat.le_of_ble_eq_true rfl, Nat.le_of_ble_eq_true rfl⟩ (Nat.le_of_ble_eq_true rfl) ⟨Nat.le_of_ble_eq_true rfl, Nat.le_of_ble_eq_true rfl⟩ dX12_placesTo_14 (fun v S1 H locs hq hH => ?_)
    obtain ⟨r_3, rfl, e9, hp⟩ := hq
    rw [e9] at hH
    refine W.eq (g2 := F0 m 17 ls [.int r_3]) rfl ?_
    refine lv_istore_n (pc := 17) (lv' := [(2, .int r_3), (0, .ref th), (1, .int p0)]) hx hb dX12_placesTo_17 rfl hl (by decide) rfl (fun ls hl => ?_)
    refine lv_iload_n (pc := 18) hx hb dX12_placesTo_18 rfl (lv_at hl 0 rfl) ?_
    refine lv_iconst (pc := 19) (v := (-1)) hx hb dX12_placesTo_19 (by decide) ?_
    refine lv_icmp_ne (pc := 20) (tgt := 29) hx hb dX12_placesTo_20 (by decide) (fun cc_4 => ?_) (fun cc_4 => ?_)
    · have hp := hp.1 cc_4
      refine lv_aload_n (pc := 29) hx hb dX12_placesTo_29 rfl (lv_at hl 1 rfl) ?_
      refine sx_getR (pc := 30) (j := 0) B hH hk_th coX12 rfl w_1304 rfl dX12_placesTo_30 ?_
      refine W.eq (g2 := F0 m 33 ls [va_rf (gR S th 0)]) rfl ?_
      obtain ⟨a_5, ha_5, hp⟩ := hp
      refine sx_nonnull (x := a_5) ha_5 ?_
      refine lv_iload_n (pc := 33) hx hb dX12_placesTo_33 rfl (lv_at hl 2 rfl) ?_
      refine lv_iload_n (pc := 34) hx hb dX12_placesTo_34 rfl (lv_at hl 0 rfl) ?_
      obtain ⟨hk_6, hp⟩ := hp
      obtain ⟨hn_7, hp⟩ := hp
      obtain ⟨F_8, eF_8⟩ : ∃ z : Nat → Nat → Int32, z = upI (gI S) a_5 p0.toNatClampNeg r_3 := ⟨_, rfl⟩
      have hp := hp F_8 eF_8
      refine sx_iast (pc := 35) B hH hk_6 hn_7 dX12_placesTo_35 (fun H locs hH => ?_)
      have hH : Hp G (FA S s.heap.size) s.heap (wI S F_8) H locs := by rw [eF_8]; exact hH
      refine lv_aload_n (pc := 36) hx hb dX12_placesTo_36 rfl (lv_at hl 1 rfl) ?_
      refine sx_V (pc := 37) (As := []) (rest := []) B hH hl.1 (C_X12_ahead G l th _ _ hp) mi_X12_ahead coX12 hk_th w_1523 w_49 w_1521 rfl rfl ⟨Nat.le_of_ble_eq_true rfl, Nat.le_of_ble_eq_true rfl⟩ (Nat.le_of_ble_eq_true rfl) ⟨Nat.le_of_ble_eq_true rfl, Nat.le_of_ble_eq_true rfl⟩ dX12_placesTo_37 (fun v S1 H locs hq hH => ?_)
      obtain ⟨F_9, rfl, e9, hp⟩ := hq
      rw [e9] at hH
      have hH : Hp G (FA S s.heap.size) s.heap (wI S F_9) H locs := hH
      refine W.eq (g2 := F0 m 40 ls []) rfl ?_
      refine lv_iconst (pc := 40) (v := 1) hx hb dX12_placesTo_40 (by decide) ?_
      exact sx_zret (pc := 41) B hH hr hlk (Or.inr rfl) (by rw [← hQQ]; exact ⟨_, F_9, rfl, rfl, hp⟩) (Nat.le_of_ble_eq_true rfl) (Nat.le_of_ble_eq_true rfl) dX12_placesTo_41
    · have hp := hp.2 cc_4
      refine lv_aload_n (pc := 23) hx hb dX12_placesTo_23 rfl (lv_at hl 1 rfl) ?_
      refine lv_iconst (pc := 24) (v := 4) hx hb dX12_placesTo_24 (by decide) ?_
      refine sx_V (pc := 25) (As := [.int 4]) (rest := []) B hH hl.1 (C_X12_fails G l th 4 _ _ hp) mi_X12_fails coX12 hk_th w_1554 w_54 w_1552 rfl rfl ⟨Nat.le_of_ble_eq_true rfl, Nat.le_of_ble_eq_true rfl⟩ (Nat.le_of_ble_eq_true rfl) ⟨Nat.le_of_ble_eq_true rfl, Nat.le_of_ble_eq_true rfl⟩ dX12_placesTo_25 (fun v S1 H locs hq hH => ?_)
      obtain ⟨r_10, F_10, rfl, e9, hp⟩ := hq
      rw [e9] at hH
      have hH : Hp G (FA S s.heap.size) s.heap (wI S F_10) H locs := hH
      refine W.eq (g2 := F0 m 28 ls [.int r_10]) rfl ?_
      obtain ⟨hz, hp⟩ := hp
      exact sx_zret (pc := 28) B hH hr hlk hz (by rw [← hQQ]; exact ⟨_, F_10, rfl, rfl, hp⟩) (Nat.le_of_ble_eq_true rfl) (Nat.le_of_ble_eq_true rfl) dX12_placesTo_28
  · have hp := hp.2 cc_2
    refine lv_aload_n (pc := 7) hx hb dX12_placesTo_7 rfl (lv_at hl 0 rfl) ?_
    refine lv_iconst (pc := 8) (v := 2) hx hb dX12_placesTo_8 (by decide) ?_
    refine sx_V (pc := 9) (As := [.int 2]) (rest := []) B hH hl.1 (C_X12_fails G l th 2 _ _ hp) mi_X12_fails coX12 hk_th w_1554 w_54 w_1552 rfl rfl ⟨Nat.le_of_ble_eq_true rfl, Nat.le_of_ble_eq_true rfl⟩ (Nat.le_of_ble_eq_true rfl) ⟨Nat.le_of_ble_eq_true rfl, Nat.le_of_ble_eq_true rfl⟩ dX12_placesTo_9 (fun v S1 H locs hq hH => ?_)
    obtain ⟨r_11, F_11, rfl, e9, hp⟩ := hq
    rw [e9] at hH
    have hH : Hp G (FA S s.heap.size) s.heap (wI S F_11) H locs := hH
    refine W.eq (g2 := F0 m 12 ls [.int r_11]) rfl ?_
    obtain ⟨hz, hp⟩ := hp
    exact sx_zret (pc := 12) B hH hr hlk hz (by rw [← hQQ]; exact ⟨_, F_11, rfl, rfl, hp⟩) (Nat.le_of_ble_eq_true rfl) (Nat.le_of_ble_eq_true rfl) dX12_placesTo_12
theorem dX12_newName_0 : decode cX12_newName 0 = .ok (.aload_n 0, 1) := by decide +kernel
theorem dX12_newName_1 : decode cX12_newName 1 = .ok (.invokevirtual 182, 3) := by decide +kernel
theorem dX12_newName_4 : decode cX12_newName 4 = .ok (.aload_n 0, 1) := by decide +kernel
theorem dX12_newName_5 : decode cX12_newName 5 = .ok (.ldc 199, 2) := by decide +kernel
theorem dX12_newName_7 : decode cX12_newName 7 = .ok (.invokevirtual 212, 3) := by decide +kernel
theorem dX12_newName_10 : decode cX12_newName 10 = .ok (.ifCond .ne 9, 3) := by decide +kernel
theorem dX12_newName_13 : decode cX12_newName 13 = .ok (.aload_n 0, 1) := by decide +kernel
theorem dX12_newName_14 : decode cX12_newName 14 = .ok (.iconst 2, 1) := by decide +kernel
theorem dX12_newName_15 : decode cX12_newName 15 = .ok (.invokevirtual 188, 3) := by decide +kernel
theorem dX12_newName_18 : decode cX12_newName 18 = .ok (.ireturn, 1) := by decide +kernel
theorem dX12_newName_19 : decode cX12_newName 19 = .ok (.aload_n 0, 1) := by decide +kernel
theorem dX12_newName_20 : decode cX12_newName 20 = .ok (.bipush 48, 2) := by decide +kernel
theorem dX12_newName_22 : decode cX12_newName 22 = .ok (.aload_n 0, 1) := by decide +kernel
theorem dX12_newName_23 : decode cX12_newName 23 = .ok (.getfield 7, 3) := by decide +kernel
theorem dX12_newName_26 : decode cX12_newName 26 = .ok (.sipush 9681, 3) := by decide +kernel
theorem dX12_newName_29 : decode cX12_newName 29 = .ok (.iaload, 1) := by decide +kernel
theorem dX12_newName_30 : decode cX12_newName 30 = .ok (.invokevirtual 216, 3) := by decide +kernel
theorem dX12_newName_33 : decode cX12_newName 33 = .ok (.iconst (-1), 1) := by decide +kernel
theorem dX12_newName_34 : decode cX12_newName 34 = .ok (.if_icmp .ne 21, 3) := by decide +kernel
theorem dX12_newName_37 : decode cX12_newName 37 = .ok (.aload_n 0, 1) := by decide +kernel
theorem dX12_newName_38 : decode cX12_newName 38 = .ok (.bipush 52, 2) := by decide +kernel
theorem dX12_newName_40 : decode cX12_newName 40 = .ok (.aload_n 0, 1) := by decide +kernel
theorem dX12_newName_41 : decode cX12_newName 41 = .ok (.getfield 7, 3) := by decide +kernel
theorem dX12_newName_44 : decode cX12_newName 44 = .ok (.sipush 9682, 3) := by decide +kernel
theorem dX12_newName_47 : decode cX12_newName 47 = .ok (.iaload, 1) := by decide +kernel
theorem dX12_newName_48 : decode cX12_newName 48 = .ok (.invokevirtual 216, 3) := by decide +kernel
theorem dX12_newName_51 : decode cX12_newName 51 = .ok (.iconst (-1), 1) := by decide +kernel
theorem dX12_newName_52 : decode cX12_newName 52 = .ok (.if_icmp .eq 9, 3) := by decide +kernel
theorem dX12_newName_55 : decode cX12_newName 55 = .ok (.aload_n 0, 1) := by decide +kernel
theorem dX12_newName_56 : decode cX12_newName 56 = .ok (.iconst 3, 1) := by decide +kernel
theorem dX12_newName_57 : decode cX12_newName 57 = .ok (.invokevirtual 188, 3) := by decide +kernel
theorem dX12_newName_60 : decode cX12_newName 60 = .ok (.ireturn, 1) := by decide +kernel
theorem dX12_newName_61 : decode cX12_newName 61 = .ok (.aload_n 0, 1) := by decide +kernel
theorem dX12_newName_62 : decode cX12_newName 62 = .ok (.getfield 13, 3) := by decide +kernel
theorem dX12_newName_65 : decode cX12_newName 65 = .ok (.bipush 48, 2) := by decide +kernel
theorem dX12_newName_67 : decode cX12_newName 67 = .ok (.iload_n 1, 1) := by decide +kernel
theorem dX12_newName_68 : decode cX12_newName 68 = .ok (.iadd, 1) := by decide +kernel
theorem dX12_newName_69 : decode cX12_newName 69 = .ok (.aload_n 0, 1) := by decide +kernel
theorem dX12_newName_70 : decode cX12_newName 70 = .ok (.invokevirtual 195, 3) := by decide +kernel
theorem dX12_newName_73 : decode cX12_newName 73 = .ok (.lastore, 1) := by decide +kernel
theorem dX12_newName_74 : decode cX12_newName 74 = .ok (.aload_n 0, 1) := by decide +kernel
theorem dX12_newName_75 : decode cX12_newName 75 = .ok (.invokevirtual 182, 3) := by decide +kernel
theorem dX12_newName_78 : decode cX12_newName 78 = .ok (.iconst 1, 1) := by decide +kernel
theorem dX12_newName_79 : decode cX12_newName 79 = .ok (.ireturn, 1) := by decide +kernel
theorem mi_X12_newName : MI yX12_newName cX12_newName 2 (some FieldType.boolean) 1 := ⟨w_1579, w_118, by decide +kernel, by decide +kernel, by decide +kernel⟩
set_option maxRecDepth 100000 in
set_option maxHeartbeats 4000000 in
theorem C_X12_newName (G : GG) (l : Launch) (th : Nat) (p0 : Int32) (S : St) (Q : Int32 → (Nat → Nat → Int32) → (Nat → Nat → Int64) → Prop) (hp : P_X12_newName th p0 S Q) : Ctr G l yX12_newName cX12_newName 2 (some FieldType.boolean) 6 132 0 0 [.ref th, .int p0] S (fun (v : Option Value) (S9 : St) => ∃ (r : Int32) (I9 : Nat → Nat → Int32) (J9 : Nat → Nat → Int64), v = some (.int r) ∧ S9 = wA S I9 J9 (gR S) ∧ Q r I9 J9) := by
  generalize hQQ : (fun (v : Option Value) (S9 : St) => ∃ (r : Int32) (I9 : Nat → Nat → Int32) (J9 : Nat → Nat → Int64), v = some (.int r) ∧ S9 = wA S I9 J9 (gR S) ∧ Q r I9 J9) = QQ
  unfold P_X12_newName at hp
  refine Ctr.of (by decide) (Nat.le_of_ble_eq_true rfl) ?_
  intro p e s m args below meth c ls B hr hlk hin hl hH
  generalize hlocs0 : ([] : List Loc) = locs at hH ⊢
  have hx := B.1
  have hb := B.2.1
  have hl : lv_has ls 2 [(0, .ref th), (1, .int p0)] := hl
  obtain ⟨hk_th, hp⟩ := hp
  refine lv_aload_n (pc := 0) hx hb dX12_newName_0 rfl (lv_at hl 0 rfl) ?_
  refine sx_V (pc := 1) (As := []) (rest := []) B hH hl.1 (C_X12_ahead G l th _ _ hp) mi_X12_ahead coX12 hk_th w_1523 w_49 w_1521 rfl rfl ⟨Nat.le_of_ble_eq_true rfl, Nat.le_of_ble_eq_true rfl⟩ (Nat.le_of_ble_eq_true rfl) ⟨Nat.le_of_ble_eq_true rfl, Nat.le_of_ble_eq_true rfl⟩ dX12_newName_1 (fun v S1 H locs hq hH => ?_)
  obtain ⟨F_1, rfl, e9, hp⟩ := hq
  rw [e9] at hH
  have hH : Hp G (FA S s.heap.size) s.heap (wI S F_1) H locs := hH
  refine W.eq (g2 := F0 m 4 ls []) rfl ?_
  refine lv_aload_n (pc := 4) hx hb dX12_newName_4 rfl (lv_at hl 0 rfl) ?_
  refine sx_ldcS (pc := 5) 12 B (by decide) rfl rfl dX12_newName_5 ?_
  refine sx_V (pc := 7) (As := [.ref (G.2.2.1 12)]) (rest := []) B hH hl.1 (C_X12_isName G l th 12 _ _ hp) mi_X12_isName coX12 hk_th w_1582 w_61 w_1580 rfl rfl ⟨Nat.le_of_ble_eq_true rfl, Nat.le_of_ble_eq_true rfl⟩ (Nat.le_of_ble_eq_true rfl) ⟨Nat.le_of_ble_eq_true rfl, Nat.le_of_ble_eq_true rfl⟩ dX12_newName_7 (fun v S1 H locs hq hH => ?_)
  obtain ⟨r_2, rfl, e9, hp⟩ := hq
  rw [e9] at hH
  refine W.eq (g2 := F0 m 10 ls [.int r_2]) rfl ?_
  refine lv_if_ne (pc := 10) (tgt := 19) hx hb dX12_newName_10 (by decide) (fun cc_3 => ?_) (fun cc_3 => ?_)
  · have hp := hp.1 cc_3
    refine lv_aload_n (pc := 19) hx hb dX12_newName_19 rfl (lv_at hl 0 rfl) ?_
    refine lv_bipush (pc := 20) (v := 48) hx hb dX12_newName_20 (by decide) ?_
    refine lv_aload_n (pc := 22) hx hb dX12_newName_22 rfl (lv_at hl 0 rfl) ?_
    refine sx_getR (pc := 23) (j := 0) B hH hk_th coX12 rfl w_1304 rfl dX12_newName_23 ?_
    refine W.eq (g2 := F0 m 26 ls [va_rf (gR S th 0), .int 48, .ref th]) rfl ?_
    obtain ⟨a_4, ha_4, hp⟩ := hp
    refine sx_nonnull (x := a_4) ha_4 ?_
    refine lv_sipush (pc := 26) (v := 9681) hx hb dX12_newName_26 (by decide) ?_
    obtain ⟨hk_5, hp⟩ := hp
    obtain ⟨hn_6, hp⟩ := hp
    refine sx_iald (pc := 29) B hH hk_5 hn_6 dX12_newName_29 ?_
    refine W.eq (g2 := F0 m 30 ls [.int (F_1 a_4 9681), .int 48, .ref th]) rfl ?_
    refine sx_V (pc := 30) (As := [.int 48, .int (F_1 a_4 9681)]) (rest := []) B hH hl.1 (C_X12_findHere G l th 48 (F_1 a_4 9681) _ _ hp) mi_X12_findHere coX12 hk_th w_1586 w_62 w_1584 rfl rfl ⟨Nat.le_of_ble_eq_true rfl, Nat.le_of_ble_eq_true rfl⟩ (Nat.le_of_ble_eq_true rfl) ⟨Nat.le_of_ble_eq_true rfl, Nat.le_of_ble_eq_true rfl⟩ dX12_newName_30 (fun v S1 H locs hq hH => ?_)
    obtain ⟨r_7, rfl, e9, hp⟩ := hq
    rw [e9] at hH
    refine W.eq (g2 := F0 m 33 ls [.int r_7]) rfl ?_
    refine lv_iconst (pc := 33) (v := (-1)) hx hb dX12_newName_33 (by decide) ?_
    obtain ⟨J_9, hj_9, hp⟩ := hp
    have kj_9 : ∀  (H : Heap) (locs : List Loc) (ls : Array Slot), J_9  → Hp G (FA S s.heap.size) s.heap (wI S F_1) H locs → lv_has ls 2 [(0, .ref th)] → Wm G p l e { frames := 6, cells := 0, slots := 0, locals := 132 } s m args below meth c S QQ 0 0 H locs 0 0 (F0 m 55 ls []) := by
      intro  H locs ls hq9 hH hl
      have hp := hj_9  hq9
      refine lv_aload_n (pc := 55) hx hb dX12_newName_55 rfl (lv_at hl 0 rfl) ?_
      refine lv_iconst (pc := 56) (v := 3) hx hb dX12_newName_56 (by decide) ?_
      refine sx_V (pc := 57) (As := [.int 3]) (rest := []) B hH hl.1 (C_X12_fails G l th 3 _ _ hp) mi_X12_fails coX12 hk_th w_1554 w_54 w_1552 rfl rfl ⟨Nat.le_of_ble_eq_true rfl, Nat.le_of_ble_eq_true rfl⟩ (Nat.le_of_ble_eq_true rfl) ⟨Nat.le_of_ble_eq_true rfl, Nat.le_of_ble_eq_true rfl⟩ dX12_newName_57 (fun v S1 H locs hq hH => ?_)
      obtain ⟨r_10, F_10, rfl, e9, hp⟩ := hq
      rw [e9] at hH
      have hH : Hp G (FA S s.heap.size) s.heap (wI S F_10) H locs := hH
      refine W.eq (g2 := F0 m 60 ls [.int r_10]) rfl ?_
      obtain ⟨hz, hp⟩ := hp
      exact sx_zret (pc := 60) B hH hr hlk hz (by rw [← hQQ]; exact ⟨_, F_10, (gJ S), rfl, rfl, hp⟩) (Nat.le_of_ble_eq_true rfl) (Nat.le_of_ble_eq_true rfl) dX12_newName_60
    refine lv_icmp_ne (pc := 34) (tgt := 55) hx hb dX12_newName_34 (by decide) (fun cc_8 => ?_) (fun cc_8 => ?_)
    · have hp := hp.1 cc_8
      exact kj_9  _ _ _ hp hH (lv_sub hl [0] rfl)
    · have hp := hp.2 cc_8
      refine lv_aload_n (pc := 37) hx hb dX12_newName_37 rfl (lv_at hl 0 rfl) ?_
      refine lv_bipush (pc := 38) (v := 52) hx hb dX12_newName_38 (by decide) ?_
      refine lv_aload_n (pc := 40) hx hb dX12_newName_40 rfl (lv_at hl 0 rfl) ?_
      refine sx_getR (pc := 41) (j := 0) B hH hk_th coX12 rfl w_1304 rfl dX12_newName_41 ?_
      refine W.eq (g2 := F0 m 44 ls [va_rf (gR S th 0), .int 52, .ref th]) rfl ?_
      refine sx_nonnull (x := a_4) ha_4 ?_
      refine lv_sipush (pc := 44) (v := 9682) hx hb dX12_newName_44 (by decide) ?_
      obtain ⟨hn_11, hp⟩ := hp
      refine sx_iald (pc := 47) B hH hk_5 hn_11 dX12_newName_47 ?_
      refine W.eq (g2 := F0 m 48 ls [.int (F_1 a_4 9682), .int 52, .ref th]) rfl ?_
      refine sx_V (pc := 48) (As := [.int 52, .int (F_1 a_4 9682)]) (rest := []) B hH hl.1 (C_X12_findHere G l th 52 (F_1 a_4 9682) _ _ hp) mi_X12_findHere coX12 hk_th w_1586 w_62 w_1584 rfl rfl ⟨Nat.le_of_ble_eq_true rfl, Nat.le_of_ble_eq_true rfl⟩ (Nat.le_of_ble_eq_true rfl) ⟨Nat.le_of_ble_eq_true rfl, Nat.le_of_ble_eq_true rfl⟩ dX12_newName_48 (fun v S1 H locs hq hH => ?_)
      obtain ⟨r_12, rfl, e9, hp⟩ := hq
      rw [e9] at hH
      refine W.eq (g2 := F0 m 51 ls [.int r_12]) rfl ?_
      refine lv_iconst (pc := 51) (v := (-1)) hx hb dX12_newName_51 (by decide) ?_
      refine lv_icmp_eq (pc := 52) (tgt := 61) hx hb dX12_newName_52 (by decide) (fun cc_13 => ?_) (fun cc_13 => ?_)
      · have hp := hp.1 cc_13
        refine lv_aload_n (pc := 61) hx hb dX12_newName_61 rfl (lv_at hl 0 rfl) ?_
        refine sx_getR (pc := 62) (j := 1) B hH hk_th coX12 rfl w_1305 rfl dX12_newName_62 ?_
        refine W.eq (g2 := F0 m 65 ls [va_rf (gR S th 1)]) rfl ?_
        obtain ⟨a_14, ha_14, hp⟩ := hp
        refine sx_nonnull (x := a_14) ha_14 ?_
        refine lv_bipush (pc := 65) (v := 48) hx hb dX12_newName_65 (by decide) ?_
        refine lv_iload_n (pc := 67) hx hb dX12_newName_67 rfl (lv_at hl 1 rfl) ?_
        refine lv_iadd (pc := 68) hx hb dX12_newName_68 ?_
        refine lv_aload_n (pc := 69) hx hb dX12_newName_69 rfl (lv_at hl 0 rfl) ?_
        refine sx_V (pc := 70) (As := []) (rest := [.int (48 + p0), .ref a_14]) B hH hl.1 (C_X12_nameHere G l th _ _ hp) mi_X12_nameHere coX12 hk_th w_1590 w_63 w_1588 rfl rfl ⟨Nat.le_of_ble_eq_true rfl, Nat.le_of_ble_eq_true rfl⟩ (Nat.le_of_ble_eq_true rfl) ⟨Nat.le_of_ble_eq_true rfl, Nat.le_of_ble_eq_true rfl⟩ dX12_newName_70 (fun v S1 H locs hq hH => ?_)
        obtain ⟨r_15, rfl, e9, hp⟩ := hq
        rw [e9] at hH
        refine W.eq (g2 := F0 m 73 ls [.long r_15, .int (48 + p0), .ref a_14]) rfl ?_
        obtain ⟨hk_16, hp⟩ := hp
        obtain ⟨hn_17, hp⟩ := hp
        obtain ⟨J_18, eJ_18⟩ : ∃ z : Nat → Nat → Int64, z = upJ (gJ S) a_14 ((48 + p0).toNatClampNeg) r_15 := ⟨_, rfl⟩
        have hp := hp J_18 eJ_18
        refine sx_last (pc := 73) B hH hk_16 hn_17 dX12_newName_73 (fun H locs hH => ?_)
        have hH : Hp G (FA S s.heap.size) s.heap (wA S F_1 J_18 (gR S)) H locs := by rw [eJ_18]; exact hH
        refine lv_aload_n (pc := 74) hx hb dX12_newName_74 rfl (lv_at hl 0 rfl) ?_
        refine sx_V (pc := 75) (As := []) (rest := []) B hH hl.1 (C_X12_ahead G l th _ _ hp) mi_X12_ahead coX12 hk_th w_1523 w_49 w_1521 rfl rfl ⟨Nat.le_of_ble_eq_true rfl, Nat.le_of_ble_eq_true rfl⟩ (Nat.le_of_ble_eq_true rfl) ⟨Nat.le_of_ble_eq_true rfl, Nat.le_of_ble_eq_true rfl⟩ dX12_newName_75 (fun v S1 H locs hq hH => ?_)
        obtain ⟨F_19, rfl, e9, hp⟩ := hq
        rw [e9] at hH
        have hH : Hp G (FA S s.heap.size) s.heap (wA S F_19 J_18 (gR S)) H locs := hH
        refine W.eq (g2 := F0 m 78 ls []) rfl ?_
        refine lv_iconst (pc := 78) (v := 1) hx hb dX12_newName_78 (by decide) ?_
        exact sx_zret (pc := 79) B hH hr hlk (Or.inr rfl) (by rw [← hQQ]; exact ⟨_, F_19, J_18, rfl, rfl, hp⟩) (Nat.le_of_ble_eq_true rfl) (Nat.le_of_ble_eq_true rfl) dX12_newName_79
      · have hp := hp.2 cc_13
        exact kj_9  _ _ _ hp hH (lv_sub hl [0] rfl)
  · have hp := hp.2 cc_3
    refine lv_aload_n (pc := 13) hx hb dX12_newName_13 rfl (lv_at hl 0 rfl) ?_
    refine lv_iconst (pc := 14) (v := 2) hx hb dX12_newName_14 (by decide) ?_
    refine sx_V (pc := 15) (As := [.int 2]) (rest := []) B hH hl.1 (C_X12_fails G l th 2 _ _ hp) mi_X12_fails coX12 hk_th w_1554 w_54 w_1552 rfl rfl ⟨Nat.le_of_ble_eq_true rfl, Nat.le_of_ble_eq_true rfl⟩ (Nat.le_of_ble_eq_true rfl) ⟨Nat.le_of_ble_eq_true rfl, Nat.le_of_ble_eq_true rfl⟩ dX12_newName_15 (fun v S1 H locs hq hH => ?_)
    obtain ⟨r_20, F_20, rfl, e9, hp⟩ := hq
    rw [e9] at hH
    have hH : Hp G (FA S s.heap.size) s.heap (wI S F_20) H locs := hH
    refine W.eq (g2 := F0 m 18 ls [.int r_20]) rfl ?_
    obtain ⟨hz, hp⟩ := hp
    exact sx_zret (pc := 18) B hH hr hlk hz (by rw [← hQQ]; exact ⟨_, F_20, (gJ S), rfl, rfl, hp⟩) (Nat.le_of_ble_eq_true rfl) (Nat.le_of_ble_eq_true rfl) dX12_newName_18
theorem dX12_aMethod_0 : decode cX12_aMethod 0 = .ok (.sipush 9690, 3) := by decide +kernel
theorem dX12_aMethod_3 : decode cX12_aMethod 3 = .ok (.bipush 40, 2) := by decide +kernel
theorem dX12_aMethod_5 : decode cX12_aMethod 5 = .ok (.aload_n 0, 1) := by decide +kernel
theorem dX12_aMethod_6 : decode cX12_aMethod 6 = .ok (.getfield 7, 3) := by decide +kernel
theorem dX12_aMethod_9 : decode cX12_aMethod 9 = .ok (.sipush 9681, 3) := by decide +kernel
theorem dX12_aMethod_12 : decode cX12_aMethod 12 = .ok (.iaload, 1) := by decide +kernel
theorem dX12_aMethod_13 : decode cX12_aMethod 13 = .ok (.imul, 1) := by decide +kernel
theorem dX12_aMethod_14 : decode cX12_aMethod 14 = .ok (.iadd, 1) := by decide +kernel
theorem dX12_aMethod_15 : decode cX12_aMethod 15 = .ok (.istore_n 1, 1) := by decide +kernel
theorem dX12_aMethod_16 : decode cX12_aMethod 16 = .ok (.aload_n 0, 1) := by decide +kernel
theorem dX12_aMethod_17 : decode cX12_aMethod 17 = .ok (.getfield 7, 3) := by decide +kernel
theorem dX12_aMethod_20 : decode cX12_aMethod 20 = .ok (.sipush 9681, 3) := by decide +kernel
theorem dX12_aMethod_23 : decode cX12_aMethod 23 = .ok (.iaload, 1) := by decide +kernel
theorem dX12_aMethod_24 : decode cX12_aMethod 24 = .ok (.iconst 4, 1) := by decide +kernel
theorem dX12_aMethod_25 : decode cX12_aMethod 25 = .ok (.if_icmp .ne 10, 3) := by decide +kernel
theorem dX12_aMethod_28 : decode cX12_aMethod 28 = .ok (.aload_n 0, 1) := by decide +kernel
theorem dX12_aMethod_29 : decode cX12_aMethod 29 = .ok (.bipush 6, 2) := by decide +kernel
theorem dX12_aMethod_31 : decode cX12_aMethod 31 = .ok (.invokevirtual 188, 3) := by decide +kernel
theorem dX12_aMethod_34 : decode cX12_aMethod 34 = .ok (.ireturn, 1) := by decide +kernel
theorem dX12_aMethod_35 : decode cX12_aMethod 35 = .ok (.aload_n 0, 1) := by decide +kernel
theorem dX12_aMethod_36 : decode cX12_aMethod 36 = .ok (.aload_n 0, 1) := by decide +kernel
theorem dX12_aMethod_37 : decode cX12_aMethod 37 = .ok (.getfield 7, 3) := by decide +kernel
theorem dX12_aMethod_40 : decode cX12_aMethod 40 = .ok (.sipush 9681, 3) := by decide +kernel
theorem dX12_aMethod_43 : decode cX12_aMethod 43 = .ok (.iaload, 1) := by decide +kernel
theorem dX12_aMethod_44 : decode cX12_aMethod 44 = .ok (.invokevirtual 219, 3) := by decide +kernel
theorem dX12_aMethod_47 : decode cX12_aMethod 47 = .ok (.ifCond .ne 5, 3) := by decide +kernel
theorem dX12_aMethod_50 : decode cX12_aMethod 50 = .ok (.iconst 0, 1) := by decide +kernel
theorem dX12_aMethod_51 : decode cX12_aMethod 51 = .ok (.ireturn, 1) := by decide +kernel
theorem dX12_aMethod_52 : decode cX12_aMethod 52 = .ok (.aload_n 0, 1) := by decide +kernel
theorem dX12_aMethod_53 : decode cX12_aMethod 53 = .ok (.invokevirtual 205, 3) := by decide +kernel
theorem dX12_aMethod_56 : decode cX12_aMethod 56 = .ok (.ifCond .ne 9, 3) := by decide +kernel
theorem dX12_aMethod_59 : decode cX12_aMethod 59 = .ok (.aload_n 0, 1) := by decide +kernel
theorem dX12_aMethod_60 : decode cX12_aMethod 60 = .ok (.iconst 2, 1) := by decide +kernel
theorem dX12_aMethod_61 : decode cX12_aMethod 61 = .ok (.invokevirtual 188, 3) := by decide +kernel
theorem dX12_aMethod_64 : decode cX12_aMethod 64 = .ok (.ireturn, 1) := by decide +kernel
theorem dX12_aMethod_65 : decode cX12_aMethod 65 = .ok (.iconst 0, 1) := by decide +kernel
theorem dX12_aMethod_66 : decode cX12_aMethod 66 = .ok (.istore_n 2, 1) := by decide +kernel
theorem dX12_aMethod_67 : decode cX12_aMethod 67 = .ok (.aload_n 0, 1) := by decide +kernel
theorem dX12_aMethod_68 : decode cX12_aMethod 68 = .ok (.invokevirtual 205, 3) := by decide +kernel
theorem dX12_aMethod_71 : decode cX12_aMethod 71 = .ok (.ifCond .eq 53, 3) := by decide +kernel
theorem dX12_aMethod_74 : decode cX12_aMethod 74 = .ok (.aload_n 0, 1) := by decide +kernel
theorem dX12_aMethod_75 : decode cX12_aMethod 75 = .ok (.invokevirtual 209, 3) := by decide +kernel
theorem dX12_aMethod_78 : decode cX12_aMethod 78 = .ok (.istore_n 3, 1) := by decide +kernel
theorem dX12_aMethod_79 : decode cX12_aMethod 79 = .ok (.iload_n 3, 1) := by decide +kernel
theorem dX12_aMethod_80 : decode cX12_aMethod 80 = .ok (.iconst (-1), 1) := by decide +kernel
theorem dX12_aMethod_81 : decode cX12_aMethod 81 = .ok (.if_icmp .ne 9, 3) := by decide +kernel
theorem dX12_aMethod_84 : decode cX12_aMethod 84 = .ok (.aload_n 0, 1) := by decide +kernel
theorem dX12_aMethod_85 : decode cX12_aMethod 85 = .ok (.iconst 4, 1) := by decide +kernel
theorem dX12_aMethod_86 : decode cX12_aMethod 86 = .ok (.invokevirtual 188, 3) := by decide +kernel
theorem dX12_aMethod_89 : decode cX12_aMethod 89 = .ok (.ireturn, 1) := by decide +kernel
theorem dX12_aMethod_90 : decode cX12_aMethod 90 = .ok (.iload_n 2, 1) := by decide +kernel
theorem dX12_aMethod_91 : decode cX12_aMethod 91 = .ok (.bipush 32, 2) := by decide +kernel
theorem dX12_aMethod_93 : decode cX12_aMethod 93 = .ok (.if_icmp .ne 10, 3) := by decide +kernel
theorem dX12_aMethod_96 : decode cX12_aMethod 96 = .ok (.aload_n 0, 1) := by decide +kernel
theorem dX12_aMethod_97 : decode cX12_aMethod 97 = .ok (.bipush 6, 2) := by decide +kernel
theorem dX12_aMethod_99 : decode cX12_aMethod 99 = .ok (.invokevirtual 188, 3) := by decide +kernel
theorem dX12_aMethod_102 : decode cX12_aMethod 102 = .ok (.ireturn, 1) := by decide +kernel
theorem dX12_aMethod_103 : decode cX12_aMethod 103 = .ok (.aload_n 0, 1) := by decide +kernel
theorem dX12_aMethod_104 : decode cX12_aMethod 104 = .ok (.getfield 7, 3) := by decide +kernel
theorem dX12_aMethod_107 : decode cX12_aMethod 107 = .ok (.iload_n 1, 1) := by decide +kernel
theorem dX12_aMethod_108 : decode cX12_aMethod 108 = .ok (.iconst 1, 1) := by decide +kernel
theorem dX12_aMethod_109 : decode cX12_aMethod 109 = .ok (.iadd, 1) := by decide +kernel
theorem dX12_aMethod_110 : decode cX12_aMethod 110 = .ok (.iload_n 2, 1) := by decide +kernel
theorem dX12_aMethod_111 : decode cX12_aMethod 111 = .ok (.iadd, 1) := by decide +kernel
theorem dX12_aMethod_112 : decode cX12_aMethod 112 = .ok (.iload_n 3, 1) := by decide +kernel
theorem dX12_aMethod_113 : decode cX12_aMethod 113 = .ok (.iastore, 1) := by decide +kernel
theorem dX12_aMethod_114 : decode cX12_aMethod 114 = .ok (.iinc 2 1, 3) := by decide +kernel
theorem dX12_aMethod_117 : decode cX12_aMethod 117 = .ok (.aload_n 0, 1) := by decide +kernel
theorem dX12_aMethod_118 : decode cX12_aMethod 118 = .ok (.invokevirtual 182, 3) := by decide +kernel
theorem dX12_aMethod_121 : decode cX12_aMethod 121 = .ok (.goto (-54), 3) := by decide +kernel
theorem dX12_aMethod_124 : decode cX12_aMethod 124 = .ok (.aload_n 0, 1) := by decide +kernel
theorem dX12_aMethod_125 : decode cX12_aMethod 125 = .ok (.ldc 199, 2) := by decide +kernel
theorem dX12_aMethod_127 : decode cX12_aMethod 127 = .ok (.invokevirtual 191, 3) := by decide +kernel
theorem dX12_aMethod_130 : decode cX12_aMethod 130 = .ok (.iconst 4, 1) := by decide +kernel
theorem dX12_aMethod_131 : decode cX12_aMethod 131 = .ok (.if_icmp .ne 77, 3) := by decide +kernel
theorem dX12_aMethod_134 : decode cX12_aMethod 134 = .ok (.iconst 2, 1) := by decide +kernel
theorem dX12_aMethod_135 : decode cX12_aMethod 135 = .ok (.iload_n 2, 1) := by decide +kernel
theorem dX12_aMethod_136 : decode cX12_aMethod 136 = .ok (.imul, 1) := by decide +kernel
theorem dX12_aMethod_137 : decode cX12_aMethod 137 = .ok (.bipush 32, 2) := by decide +kernel
theorem dX12_aMethod_139 : decode cX12_aMethod 139 = .ok (.if_icmp .le 10, 3) := by decide +kernel
theorem dX12_aMethod_142 : decode cX12_aMethod 142 = .ok (.aload_n 0, 1) := by decide +kernel
theorem dX12_aMethod_143 : decode cX12_aMethod 143 = .ok (.bipush 6, 2) := by decide +kernel
theorem dX12_aMethod_145 : decode cX12_aMethod 145 = .ok (.invokevirtual 188, 3) := by decide +kernel
theorem dX12_aMethod_148 : decode cX12_aMethod 148 = .ok (.ireturn, 1) := by decide +kernel
theorem dX12_aMethod_149 : decode cX12_aMethod 149 = .ok (.aload_n 0, 1) := by decide +kernel
theorem dX12_aMethod_150 : decode cX12_aMethod 150 = .ok (.invokevirtual 182, 3) := by decide +kernel
theorem dX12_aMethod_153 : decode cX12_aMethod 153 = .ok (.iconst 0, 1) := by decide +kernel
theorem dX12_aMethod_154 : decode cX12_aMethod 154 = .ok (.istore_n 3, 1) := by decide +kernel
theorem dX12_aMethod_155 : decode cX12_aMethod 155 = .ok (.iload_n 3, 1) := by decide +kernel
theorem dX12_aMethod_156 : decode cX12_aMethod 156 = .ok (.iload_n 2, 1) := by decide +kernel
theorem dX12_aMethod_157 : decode cX12_aMethod 157 = .ok (.iconst 1, 1) := by decide +kernel
theorem dX12_aMethod_158 : decode cX12_aMethod 158 = .ok (.isub, 1) := by decide +kernel
theorem dX12_aMethod_159 : decode cX12_aMethod 159 = .ok (.if_icmp .ge 33, 3) := by decide +kernel
theorem dX12_aMethod_162 : decode cX12_aMethod 162 = .ok (.aload_n 0, 1) := by decide +kernel
theorem dX12_aMethod_163 : decode cX12_aMethod 163 = .ok (.getfield 7, 3) := by decide +kernel
theorem dX12_aMethod_166 : decode cX12_aMethod 166 = .ok (.iload_n 1, 1) := by decide +kernel
theorem dX12_aMethod_167 : decode cX12_aMethod 167 = .ok (.iconst 1, 1) := by decide +kernel
theorem dX12_aMethod_168 : decode cX12_aMethod 168 = .ok (.iadd, 1) := by decide +kernel
theorem dX12_aMethod_169 : decode cX12_aMethod 169 = .ok (.iload_n 2, 1) := by decide +kernel
theorem dX12_aMethod_170 : decode cX12_aMethod 170 = .ok (.iadd, 1) := by decide +kernel
theorem dX12_aMethod_171 : decode cX12_aMethod 171 = .ok (.iload_n 3, 1) := by decide +kernel
theorem dX12_aMethod_172 : decode cX12_aMethod 172 = .ok (.iadd, 1) := by decide +kernel
theorem dX12_aMethod_173 : decode cX12_aMethod 173 = .ok (.aload_n 0, 1) := by decide +kernel
theorem dX12_aMethod_174 : decode cX12_aMethod 174 = .ok (.getfield 7, 3) := by decide +kernel
theorem dX12_aMethod_177 : decode cX12_aMethod 177 = .ok (.iload_n 1, 1) := by decide +kernel
theorem dX12_aMethod_178 : decode cX12_aMethod 178 = .ok (.iload_n 2, 1) := by decide +kernel
theorem dX12_aMethod_179 : decode cX12_aMethod 179 = .ok (.iadd, 1) := by decide +kernel
theorem dX12_aMethod_180 : decode cX12_aMethod 180 = .ok (.iconst 1, 1) := by decide +kernel
theorem dX12_aMethod_181 : decode cX12_aMethod 181 = .ok (.isub, 1) := by decide +kernel
theorem dX12_aMethod_182 : decode cX12_aMethod 182 = .ok (.iload_n 3, 1) := by decide +kernel
theorem dX12_aMethod_183 : decode cX12_aMethod 183 = .ok (.isub, 1) := by decide +kernel
theorem dX12_aMethod_184 : decode cX12_aMethod 184 = .ok (.iaload, 1) := by decide +kernel
theorem dX12_aMethod_185 : decode cX12_aMethod 185 = .ok (.iastore, 1) := by decide +kernel
theorem dX12_aMethod_186 : decode cX12_aMethod 186 = .ok (.iinc 3 1, 3) := by decide +kernel
theorem dX12_aMethod_189 : decode cX12_aMethod 189 = .ok (.goto (-34), 3) := by decide +kernel
theorem dX12_aMethod_192 : decode cX12_aMethod 192 = .ok (.iconst 2, 1) := by decide +kernel
theorem dX12_aMethod_193 : decode cX12_aMethod 193 = .ok (.iload_n 2, 1) := by decide +kernel
theorem dX12_aMethod_194 : decode cX12_aMethod 194 = .ok (.imul, 1) := by decide +kernel
theorem dX12_aMethod_195 : decode cX12_aMethod 195 = .ok (.istore_n 2, 1) := by decide +kernel
theorem dX12_aMethod_196 : decode cX12_aMethod 196 = .ok (.aload_n 0, 1) := by decide +kernel
theorem dX12_aMethod_197 : decode cX12_aMethod 197 = .ok (.iload_n 1, 1) := by decide +kernel
theorem dX12_aMethod_198 : decode cX12_aMethod 198 = .ok (.iload_n 2, 1) := by decide +kernel
theorem dX12_aMethod_199 : decode cX12_aMethod 199 = .ok (.iadd, 1) := by decide +kernel
theorem dX12_aMethod_200 : decode cX12_aMethod 200 = .ok (.invokevirtual 222, 3) := by decide +kernel
theorem dX12_aMethod_203 : decode cX12_aMethod 203 = .ok (.ifCond .ne 5, 3) := by decide +kernel
theorem dX12_aMethod_206 : decode cX12_aMethod 206 = .ok (.iconst 0, 1) := by decide +kernel
theorem dX12_aMethod_207 : decode cX12_aMethod 207 = .ok (.ireturn, 1) := by decide +kernel
theorem dX12_aMethod_208 : decode cX12_aMethod 208 = .ok (.aload_n 0, 1) := by decide +kernel
theorem dX12_aMethod_209 : decode cX12_aMethod 209 = .ok (.getfield 7, 3) := by decide +kernel
theorem dX12_aMethod_212 : decode cX12_aMethod 212 = .ok (.iload_n 1, 1) := by decide +kernel
theorem dX12_aMethod_213 : decode cX12_aMethod 213 = .ok (.iload_n 2, 1) := by decide +kernel
theorem dX12_aMethod_214 : decode cX12_aMethod 214 = .ok (.iastore, 1) := by decide +kernel
theorem dX12_aMethod_215 : decode cX12_aMethod 215 = .ok (.aload_n 0, 1) := by decide +kernel
theorem dX12_aMethod_216 : decode cX12_aMethod 216 = .ok (.getfield 7, 3) := by decide +kernel
theorem dX12_aMethod_219 : decode cX12_aMethod 219 = .ok (.iload_n 1, 1) := by decide +kernel
theorem dX12_aMethod_220 : decode cX12_aMethod 220 = .ok (.bipush 33, 2) := by decide +kernel
theorem dX12_aMethod_222 : decode cX12_aMethod 222 = .ok (.iadd, 1) := by decide +kernel
theorem dX12_aMethod_223 : decode cX12_aMethod 223 = .ok (.aload_n 0, 1) := by decide +kernel
theorem dX12_aMethod_224 : decode cX12_aMethod 224 = .ok (.getfield 7, 3) := by decide +kernel
theorem dX12_aMethod_227 : decode cX12_aMethod 227 = .ok (.iload_n 1, 1) := by decide +kernel
theorem dX12_aMethod_228 : decode cX12_aMethod 228 = .ok (.iload_n 2, 1) := by decide +kernel
theorem dX12_aMethod_229 : decode cX12_aMethod 229 = .ok (.iadd, 1) := by decide +kernel
theorem dX12_aMethod_230 : decode cX12_aMethod 230 = .ok (.iaload, 1) := by decide +kernel
theorem dX12_aMethod_231 : decode cX12_aMethod 231 = .ok (.iastore, 1) := by decide +kernel
theorem dX12_aMethod_232 : decode cX12_aMethod 232 = .ok (.aload_n 0, 1) := by decide +kernel
theorem dX12_aMethod_233 : decode cX12_aMethod 233 = .ok (.getfield 7, 3) := by decide +kernel
theorem dX12_aMethod_236 : decode cX12_aMethod 236 = .ok (.iload_n 1, 1) := by decide +kernel
theorem dX12_aMethod_237 : decode cX12_aMethod 237 = .ok (.bipush 34, 2) := by decide +kernel
theorem dX12_aMethod_239 : decode cX12_aMethod 239 = .ok (.iadd, 1) := by decide +kernel
theorem dX12_aMethod_240 : decode cX12_aMethod 240 = .ok (.aload_n 0, 1) := by decide +kernel
theorem dX12_aMethod_241 : decode cX12_aMethod 241 = .ok (.getfield 7, 3) := by decide +kernel
theorem dX12_aMethod_244 : decode cX12_aMethod 244 = .ok (.iload_n 1, 1) := by decide +kernel
theorem dX12_aMethod_245 : decode cX12_aMethod 245 = .ok (.iload_n 2, 1) := by decide +kernel
theorem dX12_aMethod_246 : decode cX12_aMethod 246 = .ok (.iadd, 1) := by decide +kernel
theorem dX12_aMethod_247 : decode cX12_aMethod 247 = .ok (.iaload, 1) := by decide +kernel
theorem dX12_aMethod_248 : decode cX12_aMethod 248 = .ok (.iastore, 1) := by decide +kernel
theorem dX12_aMethod_249 : decode cX12_aMethod 249 = .ok (.aload_n 0, 1) := by decide +kernel
theorem dX12_aMethod_250 : decode cX12_aMethod 250 = .ok (.ldc 199, 2) := by decide +kernel
theorem dX12_aMethod_252 : decode cX12_aMethod 252 = .ok (.invokevirtual 191, 3) := by decide +kernel
theorem dX12_aMethod_255 : decode cX12_aMethod 255 = .ok (.iconst 5, 1) := by decide +kernel
theorem dX12_aMethod_256 : decode cX12_aMethod 256 = .ok (.if_icmp .ne 20, 3) := by decide +kernel
theorem dX12_aMethod_259 : decode cX12_aMethod 259 = .ok (.aload_n 0, 1) := by decide +kernel
theorem dX12_aMethod_260 : decode cX12_aMethod 260 = .ok (.invokevirtual 182, 3) := by decide +kernel
theorem dX12_aMethod_263 : decode cX12_aMethod 263 = .ok (.aload_n 0, 1) := by decide +kernel
theorem dX12_aMethod_264 : decode cX12_aMethod 264 = .ok (.iload_n 1, 1) := by decide +kernel
theorem dX12_aMethod_265 : decode cX12_aMethod 265 = .ok (.bipush 33, 2) := by decide +kernel
theorem dX12_aMethod_267 : decode cX12_aMethod 267 = .ok (.iadd, 1) := by decide +kernel
theorem dX12_aMethod_268 : decode cX12_aMethod 268 = .ok (.invokevirtual 222, 3) := by decide +kernel
theorem dX12_aMethod_271 : decode cX12_aMethod 271 = .ok (.ifCond .ne 5, 3) := by decide +kernel
theorem dX12_aMethod_274 : decode cX12_aMethod 274 = .ok (.iconst 0, 1) := by decide +kernel
theorem dX12_aMethod_275 : decode cX12_aMethod 275 = .ok (.ireturn, 1) := by decide +kernel
theorem dX12_aMethod_276 : decode cX12_aMethod 276 = .ok (.aload_n 0, 1) := by decide +kernel
theorem dX12_aMethod_277 : decode cX12_aMethod 277 = .ok (.ldc 199, 2) := by decide +kernel
theorem dX12_aMethod_279 : decode cX12_aMethod 279 = .ok (.invokevirtual 191, 3) := by decide +kernel
theorem dX12_aMethod_282 : decode cX12_aMethod 282 = .ok (.bipush 6, 2) := by decide +kernel
theorem dX12_aMethod_284 : decode cX12_aMethod 284 = .ok (.if_icmp .ne 20, 3) := by decide +kernel
theorem dX12_aMethod_287 : decode cX12_aMethod 287 = .ok (.aload_n 0, 1) := by decide +kernel
theorem dX12_aMethod_288 : decode cX12_aMethod 288 = .ok (.invokevirtual 182, 3) := by decide +kernel
theorem dX12_aMethod_291 : decode cX12_aMethod 291 = .ok (.aload_n 0, 1) := by decide +kernel
theorem dX12_aMethod_292 : decode cX12_aMethod 292 = .ok (.iload_n 1, 1) := by decide +kernel
theorem dX12_aMethod_293 : decode cX12_aMethod 293 = .ok (.bipush 34, 2) := by decide +kernel
theorem dX12_aMethod_295 : decode cX12_aMethod 295 = .ok (.iadd, 1) := by decide +kernel
theorem dX12_aMethod_296 : decode cX12_aMethod 296 = .ok (.invokevirtual 222, 3) := by decide +kernel
theorem dX12_aMethod_299 : decode cX12_aMethod 299 = .ok (.ifCond .ne 5, 3) := by decide +kernel
theorem dX12_aMethod_302 : decode cX12_aMethod 302 = .ok (.iconst 0, 1) := by decide +kernel
theorem dX12_aMethod_303 : decode cX12_aMethod 303 = .ok (.ireturn, 1) := by decide +kernel
theorem dX12_aMethod_304 : decode cX12_aMethod 304 = .ok (.aload_n 0, 1) := by decide +kernel
theorem dX12_aMethod_305 : decode cX12_aMethod 305 = .ok (.getfield 7, 3) := by decide +kernel
theorem dX12_aMethod_308 : decode cX12_aMethod 308 = .ok (.sipush 9681, 3) := by decide +kernel
theorem dX12_aMethod_311 : decode cX12_aMethod 311 = .ok (.dup2, 1) := by decide +kernel
theorem dX12_aMethod_312 : decode cX12_aMethod 312 = .ok (.iaload, 1) := by decide +kernel
theorem dX12_aMethod_313 : decode cX12_aMethod 313 = .ok (.iconst 1, 1) := by decide +kernel
theorem dX12_aMethod_314 : decode cX12_aMethod 314 = .ok (.iadd, 1) := by decide +kernel
theorem dX12_aMethod_315 : decode cX12_aMethod 315 = .ok (.iastore, 1) := by decide +kernel
theorem dX12_aMethod_316 : decode cX12_aMethod 316 = .ok (.iconst 1, 1) := by decide +kernel
theorem dX12_aMethod_317 : decode cX12_aMethod 317 = .ok (.ireturn, 1) := by decide +kernel
theorem mi_X12_aMethod : MI yX12_aMethod cX12_aMethod 4 (some FieldType.boolean) 0 := ⟨w_1575, w_118, by decide +kernel, by decide +kernel, by decide +kernel⟩
set_option maxRecDepth 100000 in
set_option maxHeartbeats 4000000 in
theorem C_X12_aMethod (G : GG) (l : Launch) (th : Nat) (S : St) (Q : Int32 → (Nat → Nat → Int32) → (Nat → Nat → Int64) → Prop) (hp : P_X12_aMethod th S Q) : Ctr G l yX12_aMethod cX12_aMethod 4 (some FieldType.boolean) 7 153 0 0 [.ref th] S (fun (v : Option Value) (S9 : St) => ∃ (r : Int32) (I9 : Nat → Nat → Int32) (J9 : Nat → Nat → Int64), v = some (.int r) ∧ S9 = wA S I9 J9 (gR S) ∧ Q r I9 J9) := by
  generalize hQQ : (fun (v : Option Value) (S9 : St) => ∃ (r : Int32) (I9 : Nat → Nat → Int32) (J9 : Nat → Nat → Int64), v = some (.int r) ∧ S9 = wA S I9 J9 (gR S) ∧ Q r I9 J9) = QQ
  unfold P_X12_aMethod at hp
  refine Ctr.of (by decide) (Nat.le_of_ble_eq_true rfl) ?_
  intro p e s m args below meth c ls B hr hlk hin hl hH
  generalize hlocs0 : ([] : List Loc) = locs at hH ⊢
  have hx := B.1
  have hb := B.2.1
  have hl : lv_has ls 4 [(0, .ref th)] := hl
  obtain ⟨hk_th, hp⟩ := hp
  refine lv_sipush (pc := 0) (v := 9690) hx hb dX12_aMethod_0 (by decide) ?_
  refine lv_bipush (pc := 3) (v := 40) hx hb dX12_aMethod_3 (by decide) ?_
  refine lv_aload_n (pc := 5) hx hb dX12_aMethod_5 rfl (lv_at hl 0 rfl) ?_
  refine sx_getR (pc := 6) (j := 0) B hH hk_th coX12 rfl w_1304 rfl dX12_aMethod_6 ?_
  refine W.eq (g2 := F0 m 9 ls [va_rf (gR S th 0), .int 40, .int 9690]) rfl ?_
  obtain ⟨a_1, ha_1, hp⟩ := hp
  refine sx_nonnull (x := a_1) ha_1 ?_
  refine lv_sipush (pc := 9) (v := 9681) hx hb dX12_aMethod_9 (by decide) ?_
  obtain ⟨hk_2, hp⟩ := hp
  obtain ⟨hn_3, hp⟩ := hp
  refine sx_iald (pc := 12) B hH hk_2 hn_3 dX12_aMethod_12 ?_
  refine W.eq (g2 := F0 m 13 ls [.int (gI S a_1 9681), .int 40, .int 9690]) rfl ?_
  refine lv_imul (pc := 13) hx hb dX12_aMethod_13 ?_
  refine lv_iadd (pc := 14) hx hb dX12_aMethod_14 ?_
  refine lv_topi (fun v_4 ev_4 => ?_)
  have hp := hp v_4 ev_4
  refine lv_istore_n (pc := 15) (lv' := [(1, .int v_4), (0, .ref th)]) hx hb dX12_aMethod_15 rfl hl (by decide) rfl (fun ls hl => ?_)
  refine lv_aload_n (pc := 16) hx hb dX12_aMethod_16 rfl (lv_at hl 1 rfl) ?_
  refine sx_getR (pc := 17) (j := 0) B hH hk_th coX12 rfl w_1304 rfl dX12_aMethod_17 ?_
  refine W.eq (g2 := F0 m 20 ls [va_rf (gR S th 0)]) rfl ?_
  refine sx_nonnull (x := a_1) ha_1 ?_
  refine lv_sipush (pc := 20) (v := 9681) hx hb dX12_aMethod_20 (by decide) ?_
  refine sx_iald (pc := 23) B hH hk_2 hn_3 dX12_aMethod_23 ?_
  refine W.eq (g2 := F0 m 24 ls [.int (gI S a_1 9681)]) rfl ?_
  refine lv_iconst (pc := 24) (v := 4) hx hb dX12_aMethod_24 (by decide) ?_
  refine lv_icmp_ne (pc := 25) (tgt := 35) hx hb dX12_aMethod_25 (by decide) (fun cc_5 => ?_) (fun cc_5 => ?_)
  · have hp := hp.1 cc_5
    refine lv_aload_n (pc := 35) hx hb dX12_aMethod_35 rfl (lv_at hl 1 rfl) ?_
    refine lv_aload_n (pc := 36) hx hb dX12_aMethod_36 rfl (lv_at hl 1 rfl) ?_
    refine sx_getR (pc := 37) (j := 0) B hH hk_th coX12 rfl w_1304 rfl dX12_aMethod_37 ?_
    refine W.eq (g2 := F0 m 40 ls [va_rf (gR S th 0), .ref th]) rfl ?_
    refine sx_nonnull (x := a_1) ha_1 ?_
    refine lv_sipush (pc := 40) (v := 9681) hx hb dX12_aMethod_40 (by decide) ?_
    refine sx_iald (pc := 43) B hH hk_2 hn_3 dX12_aMethod_43 ?_
    refine W.eq (g2 := F0 m 44 ls [.int (gI S a_1 9681), .ref th]) rfl ?_
    refine sx_V (pc := 44) (As := [.int (gI S a_1 9681)]) (rest := []) B hH hl.1 (C_X12_newName G l th (gI S a_1 9681) _ _ hp) mi_X12_newName coX12 hk_th w_1578 w_60 w_1576 rfl rfl ⟨Nat.le_of_ble_eq_true rfl, Nat.le_of_ble_eq_true rfl⟩ (Nat.le_of_ble_eq_true rfl) ⟨Nat.le_of_ble_eq_true rfl, Nat.le_of_ble_eq_true rfl⟩ dX12_aMethod_44 (fun v S1 H locs hq hH => ?_)
    obtain ⟨r_6, F_6, J_6, rfl, e9, hp⟩ := hq
    rw [e9] at hH
    have hH : Hp G (FA S s.heap.size) s.heap (wA S F_6 J_6 (gR S)) H locs := hH
    refine W.eq (g2 := F0 m 47 ls [.int r_6]) rfl ?_
    refine lv_if_ne (pc := 47) (tgt := 52) hx hb dX12_aMethod_47 (by decide) (fun cc_7 => ?_) (fun cc_7 => ?_)
    · have hp := hp.1 cc_7
      refine lv_aload_n (pc := 52) hx hb dX12_aMethod_52 rfl (lv_at hl 1 rfl) ?_
      refine sx_V (pc := 53) (As := []) (rest := []) B hH hl.1 (C_X12_isPlaces G l th _ _ hp) mi_X12_isPlaces coX12 hk_th w_1594 w_64 w_1592 rfl rfl ⟨Nat.le_of_ble_eq_true rfl, Nat.le_of_ble_eq_true rfl⟩ (Nat.le_of_ble_eq_true rfl) ⟨Nat.le_of_ble_eq_true rfl, Nat.le_of_ble_eq_true rfl⟩ dX12_aMethod_53 (fun v S1 H locs hq hH => ?_)
      obtain ⟨r_8, rfl, e9, hp⟩ := hq
      rw [e9] at hH
      refine W.eq (g2 := F0 m 56 ls [.int r_8]) rfl ?_
      refine lv_if_ne (pc := 56) (tgt := 65) hx hb dX12_aMethod_56 (by decide) (fun cc_9 => ?_) (fun cc_9 => ?_)
      · have hp := hp.1 cc_9
        refine lv_iconst (pc := 65) (v := 0) hx hb dX12_aMethod_65 (by decide) ?_
        refine lv_istore_n (pc := 66) (lv' := [(2, .int 0), (1, .int v_4), (0, .ref th)]) hx hb dX12_aMethod_66 rfl hl (by decide) rfl (fun ls hl => ?_)
        obtain ⟨I_10, ⟨k0_10, h0_10⟩, hst_10⟩ := hp
        have kl_10 : ∀ (n_10 : Nat) (x2_11 : Int32) (F_12 : Nat → Nat → Int32) (H : Heap) (locs : List Loc) (ls : Array Slot), I_10 n_10 x2_11 F_12 → Hp G (FA S s.heap.size) s.heap (wA S F_12 J_6 (gR S)) H locs → lv_has ls 4 [(0, .ref th), (1, .int v_4), (2, .int x2_11)] → Wm G p l e { frames := 7, cells := 0, slots := 0, locals := 153 } s m args below meth c S QQ 0 0 H locs 0 0 (F0 m 67 ls []) := by
          intro n_10
          induction n_10 using Nat.strongRecOn with
          | ind n_10 ih_10 =>
            intro x2_11 F_12 H locs ls hq9 hH hl
            have hp := hst_10 n_10 x2_11 F_12 hq9
            refine lv_aload_n (pc := 67) hx hb dX12_aMethod_67 rfl (lv_at hl 0 rfl) ?_
            refine sx_V (pc := 68) (As := []) (rest := []) B hH hl.1 (C_X12_isPlaces G l th _ _ hp) mi_X12_isPlaces coX12 hk_th w_1594 w_64 w_1592 rfl rfl ⟨Nat.le_of_ble_eq_true rfl, Nat.le_of_ble_eq_true rfl⟩ (Nat.le_of_ble_eq_true rfl) ⟨Nat.le_of_ble_eq_true rfl, Nat.le_of_ble_eq_true rfl⟩ dX12_aMethod_68 (fun v S1 H locs hq hH => ?_)
            obtain ⟨r_13, rfl, e9, hp⟩ := hq
            rw [e9] at hH
            refine W.eq (g2 := F0 m 71 ls [.int r_13]) rfl ?_
            refine lv_if_eq (pc := 71) (tgt := 124) hx hb dX12_aMethod_71 (by decide) (fun cc_14 => ?_) (fun cc_14 => ?_)
            · have hp := hp.1 cc_14
              refine lv_aload_n (pc := 124) hx hb dX12_aMethod_124 rfl (lv_at hl 0 rfl) ?_
              refine sx_ldcS (pc := 125) 12 B (by decide) rfl rfl dX12_aMethod_125 ?_
              refine sx_V (pc := 127) (As := [.ref (G.2.2.1 12)]) (rest := []) B hH hl.1 (C_X12_inWords G l th 12 _ _ hp) mi_X12_inWords coX12 hk_th w_1548 w_53 w_1546 rfl rfl ⟨Nat.le_of_ble_eq_true rfl, Nat.le_of_ble_eq_true rfl⟩ (Nat.le_of_ble_eq_true rfl) ⟨Nat.le_of_ble_eq_true rfl, Nat.le_of_ble_eq_true rfl⟩ dX12_aMethod_127 (fun v S1 H locs hq hH => ?_)
              obtain ⟨r_15, rfl, e9, hp⟩ := hq
              rw [e9] at hH
              refine W.eq (g2 := F0 m 130 ls [.int r_15]) rfl ?_
              refine lv_iconst (pc := 130) (v := 4) hx hb dX12_aMethod_130 (by decide) ?_
              obtain ⟨J_17, hj_17, hp⟩ := hp
              have kj_17 : ∀ (x2_18 : Int32) (F_19 : Nat → Nat → Int32) (H : Heap) (locs : List Loc) (ls : Array Slot), J_17 x2_18 F_19 → Hp G (FA S s.heap.size) s.heap (wA S F_19 J_6 (gR S)) H locs → lv_has ls 4 [(0, .ref th), (1, .int v_4), (2, .int x2_18)] → Wm G p l e { frames := 7, cells := 0, slots := 0, locals := 153 } s m args below meth c S QQ 0 0 H locs 0 0 (F0 m 208 ls []) := by
                intro x2_18 F_19 H locs ls hq9 hH hl
                have hp := hj_17 x2_18 F_19 hq9
                refine lv_aload_n (pc := 208) hx hb dX12_aMethod_208 rfl (lv_at hl 0 rfl) ?_
                refine sx_getR (pc := 209) (j := 0) B hH hk_th coX12 rfl w_1304 rfl dX12_aMethod_209 ?_
                refine W.eq (g2 := F0 m 212 ls [va_rf (gR S th 0)]) rfl ?_
                refine sx_nonnull (x := a_1) ha_1 ?_
                refine lv_iload_n (pc := 212) hx hb dX12_aMethod_212 rfl (lv_at hl 1 rfl) ?_
                refine lv_iload_n (pc := 213) hx hb dX12_aMethod_213 rfl (lv_at hl 2 rfl) ?_
                obtain ⟨hn_20, hp⟩ := hp
                obtain ⟨F_21, eF_21⟩ : ∃ z : Nat → Nat → Int32, z = upI F_19 a_1 v_4.toNatClampNeg x2_18 := ⟨_, rfl⟩
                have hp := hp F_21 eF_21
                refine sx_iast (pc := 214) B hH hk_2 hn_20 dX12_aMethod_214 (fun H locs hH => ?_)
                have hH : Hp G (FA S s.heap.size) s.heap (wA S F_21 J_6 (gR S)) H locs := by rw [eF_21]; exact hH
                refine lv_aload_n (pc := 215) hx hb dX12_aMethod_215 rfl (lv_at hl 0 rfl) ?_
                refine sx_getR (pc := 216) (j := 0) B hH hk_th coX12 rfl w_1304 rfl dX12_aMethod_216 ?_
                refine W.eq (g2 := F0 m 219 ls [va_rf (gR S th 0)]) rfl ?_
                refine sx_nonnull (x := a_1) ha_1 ?_
                refine lv_iload_n (pc := 219) hx hb dX12_aMethod_219 rfl (lv_at hl 1 rfl) ?_
                refine lv_bipush (pc := 220) (v := 33) hx hb dX12_aMethod_220 (by decide) ?_
                refine lv_iadd (pc := 222) hx hb dX12_aMethod_222 ?_
                refine lv_aload_n (pc := 223) hx hb dX12_aMethod_223 rfl (lv_at hl 0 rfl) ?_
                refine sx_getR (pc := 224) (j := 0) B hH hk_th coX12 rfl w_1304 rfl dX12_aMethod_224 ?_
                refine W.eq (g2 := F0 m 227 ls [va_rf (gR S th 0), .int (v_4 + 33), .ref a_1]) rfl ?_
                refine sx_nonnull (x := a_1) ha_1 ?_
                refine lv_iload_n (pc := 227) hx hb dX12_aMethod_227 rfl (lv_at hl 1 rfl) ?_
                refine lv_iload_n (pc := 228) hx hb dX12_aMethod_228 rfl (lv_at hl 2 rfl) ?_
                refine lv_iadd (pc := 229) hx hb dX12_aMethod_229 ?_
                obtain ⟨hn_22, hp⟩ := hp
                refine sx_iald (pc := 230) B hH hk_2 hn_22 dX12_aMethod_230 ?_
                refine W.eq (g2 := F0 m 231 ls [.int (F_21 a_1 ((v_4 + x2_18).toNatClampNeg)), .int (v_4 + 33), .ref a_1]) rfl ?_
                obtain ⟨hn_23, hp⟩ := hp
                refine lv_topi (fun v_24 ev_24 => ?_)
                have hp := hp v_24 ev_24
                obtain ⟨F_25, eF_25⟩ : ∃ z : Nat → Nat → Int32, z = upI F_21 a_1 ((v_4 + 33).toNatClampNeg) v_24 := ⟨_, rfl⟩
                have hp := hp F_25 eF_25
                refine sx_iast (pc := 231) B hH hk_2 hn_23 dX12_aMethod_231 (fun H locs hH => ?_)
                have hH : Hp G (FA S s.heap.size) s.heap (wA S F_25 J_6 (gR S)) H locs := by rw [eF_25]; exact hH
                refine lv_aload_n (pc := 232) hx hb dX12_aMethod_232 rfl (lv_at hl 0 rfl) ?_
                refine sx_getR (pc := 233) (j := 0) B hH hk_th coX12 rfl w_1304 rfl dX12_aMethod_233 ?_
                refine W.eq (g2 := F0 m 236 ls [va_rf (gR S th 0)]) rfl ?_
                refine sx_nonnull (x := a_1) ha_1 ?_
                refine lv_iload_n (pc := 236) hx hb dX12_aMethod_236 rfl (lv_at hl 1 rfl) ?_
                refine lv_bipush (pc := 237) (v := 34) hx hb dX12_aMethod_237 (by decide) ?_
                refine lv_iadd (pc := 239) hx hb dX12_aMethod_239 ?_
                refine lv_aload_n (pc := 240) hx hb dX12_aMethod_240 rfl (lv_at hl 0 rfl) ?_
                refine sx_getR (pc := 241) (j := 0) B hH hk_th coX12 rfl w_1304 rfl dX12_aMethod_241 ?_
                refine W.eq (g2 := F0 m 244 ls [va_rf (gR S th 0), .int (v_4 + 34), .ref a_1]) rfl ?_
                refine sx_nonnull (x := a_1) ha_1 ?_
                refine lv_iload_n (pc := 244) hx hb dX12_aMethod_244 rfl (lv_at hl 1 rfl) ?_
                refine lv_iload_n (pc := 245) hx hb dX12_aMethod_245 rfl (lv_at hl 2 rfl) ?_
                refine lv_iadd (pc := 246) hx hb dX12_aMethod_246 ?_
                refine sx_iald (pc := 247) B hH hk_2 hn_22 dX12_aMethod_247 ?_
                refine W.eq (g2 := F0 m 248 ls [.int (F_25 a_1 ((v_4 + x2_18).toNatClampNeg)), .int (v_4 + 34), .ref a_1]) rfl ?_
                obtain ⟨hn_26, hp⟩ := hp
                refine lv_topi (fun v_27 ev_27 => ?_)
                have hp := hp v_27 ev_27
                obtain ⟨F_28, eF_28⟩ : ∃ z : Nat → Nat → Int32, z = upI F_25 a_1 ((v_4 + 34).toNatClampNeg) v_27 := ⟨_, rfl⟩
                have hp := hp F_28 eF_28
                refine sx_iast (pc := 248) B hH hk_2 hn_26 dX12_aMethod_248 (fun H locs hH => ?_)
                have hH : Hp G (FA S s.heap.size) s.heap (wA S F_28 J_6 (gR S)) H locs := by rw [eF_28]; exact hH
                refine lv_aload_n (pc := 249) hx hb dX12_aMethod_249 rfl (lv_at hl 0 rfl) ?_
                refine sx_ldcS (pc := 250) 12 B (by decide) rfl rfl dX12_aMethod_250 ?_
                refine sx_V (pc := 252) (As := [.ref (G.2.2.1 12)]) (rest := []) B hH hl.1 (C_X12_inWords G l th 12 _ _ hp) mi_X12_inWords coX12 hk_th w_1548 w_53 w_1546 rfl rfl ⟨Nat.le_of_ble_eq_true rfl, Nat.le_of_ble_eq_true rfl⟩ (Nat.le_of_ble_eq_true rfl) ⟨Nat.le_of_ble_eq_true rfl, Nat.le_of_ble_eq_true rfl⟩ dX12_aMethod_252 (fun v S1 H locs hq hH => ?_)
                obtain ⟨r_29, rfl, e9, hp⟩ := hq
                rw [e9] at hH
                refine W.eq (g2 := F0 m 255 ls [.int r_29]) rfl ?_
                refine lv_iconst (pc := 255) (v := 5) hx hb dX12_aMethod_255 (by decide) ?_
                obtain ⟨J_31, hj_31, hp⟩ := hp
                have kj_31 : ∀ (F_32 : Nat → Nat → Int32) (H : Heap) (locs : List Loc) (ls : Array Slot), J_31 F_32 → Hp G (FA S s.heap.size) s.heap (wA S F_32 J_6 (gR S)) H locs → lv_has ls 4 [(0, .ref th), (1, .int v_4)] → Wm G p l e { frames := 7, cells := 0, slots := 0, locals := 153 } s m args below meth c S QQ 0 0 H locs 0 0 (F0 m 276 ls []) := by
                  intro F_32 H locs ls hq9 hH hl
                  have hp := hj_31 F_32 hq9
                  refine lv_aload_n (pc := 276) hx hb dX12_aMethod_276 rfl (lv_at hl 0 rfl) ?_
                  refine sx_ldcS (pc := 277) 12 B (by decide) rfl rfl dX12_aMethod_277 ?_
                  refine sx_V (pc := 279) (As := [.ref (G.2.2.1 12)]) (rest := []) B hH hl.1 (C_X12_inWords G l th 12 _ _ hp) mi_X12_inWords coX12 hk_th w_1548 w_53 w_1546 rfl rfl ⟨Nat.le_of_ble_eq_true rfl, Nat.le_of_ble_eq_true rfl⟩ (Nat.le_of_ble_eq_true rfl) ⟨Nat.le_of_ble_eq_true rfl, Nat.le_of_ble_eq_true rfl⟩ dX12_aMethod_279 (fun v S1 H locs hq hH => ?_)
                  obtain ⟨r_33, rfl, e9, hp⟩ := hq
                  rw [e9] at hH
                  refine W.eq (g2 := F0 m 282 ls [.int r_33]) rfl ?_
                  refine lv_bipush (pc := 282) (v := 6) hx hb dX12_aMethod_282 (by decide) ?_
                  obtain ⟨J_35, hj_35, hp⟩ := hp
                  have kj_35 : ∀ (F_36 : Nat → Nat → Int32) (H : Heap) (locs : List Loc) (ls : Array Slot), J_35 F_36 → Hp G (FA S s.heap.size) s.heap (wA S F_36 J_6 (gR S)) H locs → lv_has ls 4 [(0, .ref th)] → Wm G p l e { frames := 7, cells := 0, slots := 0, locals := 153 } s m args below meth c S QQ 0 0 H locs 0 0 (F0 m 304 ls []) := by
                    intro F_36 H locs ls hq9 hH hl
                    have hp := hj_35 F_36 hq9
                    refine lv_aload_n (pc := 304) hx hb dX12_aMethod_304 rfl (lv_at hl 0 rfl) ?_
                    refine sx_getR (pc := 305) (j := 0) B hH hk_th coX12 rfl w_1304 rfl dX12_aMethod_305 ?_
                    refine W.eq (g2 := F0 m 308 ls [va_rf (gR S th 0)]) rfl ?_
                    refine sx_nonnull (x := a_1) ha_1 ?_
                    refine lv_sipush (pc := 308) (v := 9681) hx hb dX12_aMethod_308 (by decide) ?_
                    refine lv_dup2_11 (pc := 311) hx hb dX12_aMethod_311 rfl rfl ?_
                    refine sx_iald (pc := 312) B hH hk_2 hn_3 dX12_aMethod_312 ?_
                    refine W.eq (g2 := F0 m 313 ls [.int (F_36 a_1 9681), .int 9681, .ref a_1]) rfl ?_
                    refine lv_iconst (pc := 313) (v := 1) hx hb dX12_aMethod_313 (by decide) ?_
                    refine lv_iadd (pc := 314) hx hb dX12_aMethod_314 ?_
                    refine lv_topi (fun v_37 ev_37 => ?_)
                    have hp := hp v_37 ev_37
                    obtain ⟨F_38, eF_38⟩ : ∃ z : Nat → Nat → Int32, z = upI F_36 a_1 9681 v_37 := ⟨_, rfl⟩
                    have hp := hp F_38 eF_38
                    refine sx_iast (pc := 315) B hH hk_2 hn_3 dX12_aMethod_315 (fun H locs hH => ?_)
                    have hH : Hp G (FA S s.heap.size) s.heap (wA S F_38 J_6 (gR S)) H locs := by rw [eF_38]; exact hH
                    refine lv_iconst (pc := 316) (v := 1) hx hb dX12_aMethod_316 (by decide) ?_
                    exact sx_zret (pc := 317) B hH hr hlk (Or.inr rfl) (by rw [← hQQ]; exact ⟨_, F_38, J_6, rfl, rfl, hp⟩) (Nat.le_of_ble_eq_true rfl) (Nat.le_of_ble_eq_true rfl) dX12_aMethod_317
                  refine lv_icmp_ne (pc := 284) (tgt := 304) hx hb dX12_aMethod_284 (by decide) (fun cc_34 => ?_) (fun cc_34 => ?_)
                  · have hp := hp.1 cc_34
                    exact kj_35 _ _ _ _ hp hH (lv_sub hl [0] rfl)
                  · have hp := hp.2 cc_34
                    refine lv_aload_n (pc := 287) hx hb dX12_aMethod_287 rfl (lv_at hl 0 rfl) ?_
                    refine sx_V (pc := 288) (As := []) (rest := []) B hH hl.1 (C_X12_ahead G l th _ _ hp) mi_X12_ahead coX12 hk_th w_1523 w_49 w_1521 rfl rfl ⟨Nat.le_of_ble_eq_true rfl, Nat.le_of_ble_eq_true rfl⟩ (Nat.le_of_ble_eq_true rfl) ⟨Nat.le_of_ble_eq_true rfl, Nat.le_of_ble_eq_true rfl⟩ dX12_aMethod_288 (fun v S1 H locs hq hH => ?_)
                    obtain ⟨F_39, rfl, e9, hp⟩ := hq
                    rw [e9] at hH
                    have hH : Hp G (FA S s.heap.size) s.heap (wA S F_39 J_6 (gR S)) H locs := hH
                    refine W.eq (g2 := F0 m 291 ls []) rfl ?_
                    refine lv_aload_n (pc := 291) hx hb dX12_aMethod_291 rfl (lv_at hl 0 rfl) ?_
                    refine lv_iload_n (pc := 292) hx hb dX12_aMethod_292 rfl (lv_at hl 1 rfl) ?_
                    refine lv_bipush (pc := 293) (v := 34) hx hb dX12_aMethod_293 (by decide) ?_
                    refine lv_iadd (pc := 295) hx hb dX12_aMethod_295 ?_
                    refine sx_V (pc := 296) (As := [.int (v_4 + 34)]) (rest := []) B hH hl.1 (C_X12_placesTo G l th (v_4 + 34) _ _ hp) mi_X12_placesTo coX12 hk_th w_1605 w_66 w_1603 rfl rfl ⟨Nat.le_of_ble_eq_true rfl, Nat.le_of_ble_eq_true rfl⟩ (Nat.le_of_ble_eq_true rfl) ⟨Nat.le_of_ble_eq_true rfl, Nat.le_of_ble_eq_true rfl⟩ dX12_aMethod_296 (fun v S1 H locs hq hH => ?_)
                    obtain ⟨r_40, F_40, rfl, e9, hp⟩ := hq
                    rw [e9] at hH
                    have hH : Hp G (FA S s.heap.size) s.heap (wA S F_40 J_6 (gR S)) H locs := hH
                    refine W.eq (g2 := F0 m 299 ls [.int r_40]) rfl ?_
                    refine lv_if_ne (pc := 299) (tgt := 304) hx hb dX12_aMethod_299 (by decide) (fun cc_41 => ?_) (fun cc_41 => ?_)
                    · have hp := hp.1 cc_41
                      exact kj_35 _ _ _ _ hp hH (lv_sub hl [0] rfl)
                    · have hp := hp.2 cc_41
                      refine lv_iconst (pc := 302) (v := 0) hx hb dX12_aMethod_302 (by decide) ?_
                      exact sx_zret (pc := 303) B hH hr hlk (Or.inl rfl) (by rw [← hQQ]; exact ⟨_, F_40, J_6, rfl, rfl, hp⟩) (Nat.le_of_ble_eq_true rfl) (Nat.le_of_ble_eq_true rfl) dX12_aMethod_303
                refine lv_icmp_ne (pc := 256) (tgt := 276) hx hb dX12_aMethod_256 (by decide) (fun cc_30 => ?_) (fun cc_30 => ?_)
                · have hp := hp.1 cc_30
                  exact kj_31 _ _ _ _ hp hH (lv_sub hl [0, 1] rfl)
                · have hp := hp.2 cc_30
                  refine lv_aload_n (pc := 259) hx hb dX12_aMethod_259 rfl (lv_at hl 0 rfl) ?_
                  refine sx_V (pc := 260) (As := []) (rest := []) B hH hl.1 (C_X12_ahead G l th _ _ hp) mi_X12_ahead coX12 hk_th w_1523 w_49 w_1521 rfl rfl ⟨Nat.le_of_ble_eq_true rfl, Nat.le_of_ble_eq_true rfl⟩ (Nat.le_of_ble_eq_true rfl) ⟨Nat.le_of_ble_eq_true rfl, Nat.le_of_ble_eq_true rfl⟩ dX12_aMethod_260 (fun v S1 H locs hq hH => ?_)
                  obtain ⟨F_42, rfl, e9, hp⟩ := hq
                  rw [e9] at hH
                  have hH : Hp G (FA S s.heap.size) s.heap (wA S F_42 J_6 (gR S)) H locs := hH
                  refine W.eq (g2 := F0 m 263 ls []) rfl ?_
                  refine lv_aload_n (pc := 263) hx hb dX12_aMethod_263 rfl (lv_at hl 0 rfl) ?_
                  refine lv_iload_n (pc := 264) hx hb dX12_aMethod_264 rfl (lv_at hl 1 rfl) ?_
                  refine lv_bipush (pc := 265) (v := 33) hx hb dX12_aMethod_265 (by decide) ?_
                  refine lv_iadd (pc := 267) hx hb dX12_aMethod_267 ?_
                  refine sx_V (pc := 268) (As := [.int (v_4 + 33)]) (rest := []) B hH hl.1 (C_X12_placesTo G l th (v_4 + 33) _ _ hp) mi_X12_placesTo coX12 hk_th w_1605 w_66 w_1603 rfl rfl ⟨Nat.le_of_ble_eq_true rfl, Nat.le_of_ble_eq_true rfl⟩ (Nat.le_of_ble_eq_true rfl) ⟨Nat.le_of_ble_eq_true rfl, Nat.le_of_ble_eq_true rfl⟩ dX12_aMethod_268 (fun v S1 H locs hq hH => ?_)
                  obtain ⟨r_43, F_43, rfl, e9, hp⟩ := hq
                  rw [e9] at hH
                  have hH : Hp G (FA S s.heap.size) s.heap (wA S F_43 J_6 (gR S)) H locs := hH
                  refine W.eq (g2 := F0 m 271 ls [.int r_43]) rfl ?_
                  refine lv_if_ne (pc := 271) (tgt := 276) hx hb dX12_aMethod_271 (by decide) (fun cc_44 => ?_) (fun cc_44 => ?_)
                  · have hp := hp.1 cc_44
                    exact kj_31 _ _ _ _ hp hH (lv_sub hl [0, 1] rfl)
                  · have hp := hp.2 cc_44
                    refine lv_iconst (pc := 274) (v := 0) hx hb dX12_aMethod_274 (by decide) ?_
                    exact sx_zret (pc := 275) B hH hr hlk (Or.inl rfl) (by rw [← hQQ]; exact ⟨_, F_43, J_6, rfl, rfl, hp⟩) (Nat.le_of_ble_eq_true rfl) (Nat.le_of_ble_eq_true rfl) dX12_aMethod_275
              refine lv_icmp_ne (pc := 131) (tgt := 208) hx hb dX12_aMethod_131 (by decide) (fun cc_16 => ?_) (fun cc_16 => ?_)
              · have hp := hp.1 cc_16
                exact kj_17 _ _ _ _ _ hp hH (lv_sub hl [0, 1, 2] rfl)
              · have hp := hp.2 cc_16
                refine lv_iconst (pc := 134) (v := 2) hx hb dX12_aMethod_134 (by decide) ?_
                refine lv_iload_n (pc := 135) hx hb dX12_aMethod_135 rfl (lv_at hl 2 rfl) ?_
                refine lv_imul (pc := 136) hx hb dX12_aMethod_136 ?_
                refine lv_bipush (pc := 137) (v := 32) hx hb dX12_aMethod_137 (by decide) ?_
                refine lv_icmp_le (pc := 139) (tgt := 149) hx hb dX12_aMethod_139 (by decide) (fun cc_45 => ?_) (fun cc_45 => ?_)
                · have hp := hp.1 cc_45
                  refine lv_aload_n (pc := 149) hx hb dX12_aMethod_149 rfl (lv_at hl 0 rfl) ?_
                  refine sx_V (pc := 150) (As := []) (rest := []) B hH hl.1 (C_X12_ahead G l th _ _ hp) mi_X12_ahead coX12 hk_th w_1523 w_49 w_1521 rfl rfl ⟨Nat.le_of_ble_eq_true rfl, Nat.le_of_ble_eq_true rfl⟩ (Nat.le_of_ble_eq_true rfl) ⟨Nat.le_of_ble_eq_true rfl, Nat.le_of_ble_eq_true rfl⟩ dX12_aMethod_150 (fun v S1 H locs hq hH => ?_)
                  obtain ⟨F_46, rfl, e9, hp⟩ := hq
                  rw [e9] at hH
                  have hH : Hp G (FA S s.heap.size) s.heap (wA S F_46 J_6 (gR S)) H locs := hH
                  refine W.eq (g2 := F0 m 153 ls []) rfl ?_
                  refine lv_iconst (pc := 153) (v := 0) hx hb dX12_aMethod_153 (by decide) ?_
                  refine lv_istore_n (pc := 154) (lv' := [(3, .int 0), (0, .ref th), (1, .int v_4), (2, .int x2_11)]) hx hb dX12_aMethod_154 rfl hl (by decide) rfl (fun ls hl => ?_)
                  obtain ⟨I_47, ⟨k0_47, h0_47⟩, hst_47⟩ := hp
                  have kl_47 : ∀ (n_47 : Nat) (x3_48 : Int32) (F_49 : Nat → Nat → Int32) (H : Heap) (locs : List Loc) (ls : Array Slot), I_47 n_47 x3_48 F_49 → Hp G (FA S s.heap.size) s.heap (wA S F_49 J_6 (gR S)) H locs → lv_has ls 4 [(0, .ref th), (1, .int v_4), (2, .int x2_11), (3, .int x3_48)] → Wm G p l e { frames := 7, cells := 0, slots := 0, locals := 153 } s m args below meth c S QQ 0 0 H locs 0 0 (F0 m 155 ls []) := by
                    intro n_47
                    induction n_47 using Nat.strongRecOn with
                    | ind n_47 ih_47 =>
                      intro x3_48 F_49 H locs ls hq9 hH hl
                      have hp := hst_47 n_47 x3_48 F_49 hq9
                      refine lv_iload_n (pc := 155) hx hb dX12_aMethod_155 rfl (lv_at hl 3 rfl) ?_
                      refine lv_iload_n (pc := 156) hx hb dX12_aMethod_156 rfl (lv_at hl 2 rfl) ?_
                      refine lv_iconst (pc := 157) (v := 1) hx hb dX12_aMethod_157 (by decide) ?_
                      refine lv_isub (pc := 158) hx hb dX12_aMethod_158 ?_
                      refine lv_icmp_ge (pc := 159) (tgt := 192) hx hb dX12_aMethod_159 (by decide) (fun cc_50 => ?_) (fun cc_50 => ?_)
                      · have hp := hp.1 cc_50
                        refine lv_iconst (pc := 192) (v := 2) hx hb dX12_aMethod_192 (by decide) ?_
                        refine lv_iload_n (pc := 193) hx hb dX12_aMethod_193 rfl (lv_at hl 2 rfl) ?_
                        refine lv_imul (pc := 194) hx hb dX12_aMethod_194 ?_
                        refine lv_topi (fun v_51 ev_51 => ?_)
                        have hp := hp v_51 ev_51
                        refine lv_istore_n (pc := 195) (lv' := [(2, .int v_51), (0, .ref th), (1, .int v_4), (3, .int x3_48)]) hx hb dX12_aMethod_195 rfl hl (by decide) rfl (fun ls hl => ?_)
                        refine lv_aload_n (pc := 196) hx hb dX12_aMethod_196 rfl (lv_at hl 1 rfl) ?_
                        refine lv_iload_n (pc := 197) hx hb dX12_aMethod_197 rfl (lv_at hl 2 rfl) ?_
                        refine lv_iload_n (pc := 198) hx hb dX12_aMethod_198 rfl (lv_at hl 0 rfl) ?_
                        refine lv_iadd (pc := 199) hx hb dX12_aMethod_199 ?_
                        refine sx_V (pc := 200) (As := [.int (v_4 + v_51)]) (rest := []) B hH hl.1 (C_X12_placesTo G l th (v_4 + v_51) _ _ hp) mi_X12_placesTo coX12 hk_th w_1605 w_66 w_1603 rfl rfl ⟨Nat.le_of_ble_eq_true rfl, Nat.le_of_ble_eq_true rfl⟩ (Nat.le_of_ble_eq_true rfl) ⟨Nat.le_of_ble_eq_true rfl, Nat.le_of_ble_eq_true rfl⟩ dX12_aMethod_200 (fun v S1 H locs hq hH => ?_)
                        obtain ⟨r_52, F_52, rfl, e9, hp⟩ := hq
                        rw [e9] at hH
                        have hH : Hp G (FA S s.heap.size) s.heap (wA S F_52 J_6 (gR S)) H locs := hH
                        refine W.eq (g2 := F0 m 203 ls [.int r_52]) rfl ?_
                        refine lv_if_ne (pc := 203) (tgt := 208) hx hb dX12_aMethod_203 (by decide) (fun cc_53 => ?_) (fun cc_53 => ?_)
                        · have hp := hp.1 cc_53
                          exact kj_17 _ _ _ _ _ hp hH (lv_sub hl [1, 2, 0] rfl)
                        · have hp := hp.2 cc_53
                          refine lv_iconst (pc := 206) (v := 0) hx hb dX12_aMethod_206 (by decide) ?_
                          exact sx_zret (pc := 207) B hH hr hlk (Or.inl rfl) (by rw [← hQQ]; exact ⟨_, F_52, J_6, rfl, rfl, hp⟩) (Nat.le_of_ble_eq_true rfl) (Nat.le_of_ble_eq_true rfl) dX12_aMethod_207
                      · have hp := hp.2 cc_50
                        refine lv_aload_n (pc := 162) hx hb dX12_aMethod_162 rfl (lv_at hl 0 rfl) ?_
                        refine sx_getR (pc := 163) (j := 0) B hH hk_th coX12 rfl w_1304 rfl dX12_aMethod_163 ?_
                        refine W.eq (g2 := F0 m 166 ls [va_rf (gR S th 0)]) rfl ?_
                        refine sx_nonnull (x := a_1) ha_1 ?_
                        refine lv_iload_n (pc := 166) hx hb dX12_aMethod_166 rfl (lv_at hl 1 rfl) ?_
                        refine lv_iconst (pc := 167) (v := 1) hx hb dX12_aMethod_167 (by decide) ?_
                        refine lv_iadd (pc := 168) hx hb dX12_aMethod_168 ?_
                        refine lv_iload_n (pc := 169) hx hb dX12_aMethod_169 rfl (lv_at hl 2 rfl) ?_
                        refine lv_iadd (pc := 170) hx hb dX12_aMethod_170 ?_
                        refine lv_iload_n (pc := 171) hx hb dX12_aMethod_171 rfl (lv_at hl 3 rfl) ?_
                        refine lv_iadd (pc := 172) hx hb dX12_aMethod_172 ?_
                        refine lv_aload_n (pc := 173) hx hb dX12_aMethod_173 rfl (lv_at hl 0 rfl) ?_
                        refine sx_getR (pc := 174) (j := 0) B hH hk_th coX12 rfl w_1304 rfl dX12_aMethod_174 ?_
                        refine W.eq (g2 := F0 m 177 ls [va_rf (gR S th 0), .int (((v_4 + 1) + x2_11) + x3_48), .ref a_1]) rfl ?_
                        refine sx_nonnull (x := a_1) ha_1 ?_
                        refine lv_iload_n (pc := 177) hx hb dX12_aMethod_177 rfl (lv_at hl 1 rfl) ?_
                        refine lv_iload_n (pc := 178) hx hb dX12_aMethod_178 rfl (lv_at hl 2 rfl) ?_
                        refine lv_iadd (pc := 179) hx hb dX12_aMethod_179 ?_
                        refine lv_iconst (pc := 180) (v := 1) hx hb dX12_aMethod_180 (by decide) ?_
                        refine lv_isub (pc := 181) hx hb dX12_aMethod_181 ?_
                        refine lv_iload_n (pc := 182) hx hb dX12_aMethod_182 rfl (lv_at hl 3 rfl) ?_
                        refine lv_isub (pc := 183) hx hb dX12_aMethod_183 ?_
                        obtain ⟨hn_54, hp⟩ := hp
                        refine sx_iald (pc := 184) B hH hk_2 hn_54 dX12_aMethod_184 ?_
                        refine W.eq (g2 := F0 m 185 ls [.int (F_49 a_1 ((((v_4 + x2_11) - 1) - x3_48).toNatClampNeg)), .int (((v_4 + 1) + x2_11) + x3_48), .ref a_1]) rfl ?_
                        obtain ⟨hn_55, hp⟩ := hp
                        refine lv_topi (fun v_56 ev_56 => ?_)
                        have hp := hp v_56 ev_56
                        obtain ⟨F_57, eF_57⟩ : ∃ z : Nat → Nat → Int32, z = upI F_49 a_1 ((((v_4 + 1) + x2_11) + x3_48).toNatClampNeg) v_56 := ⟨_, rfl⟩
                        have hp := hp F_57 eF_57
                        refine sx_iast (pc := 185) B hH hk_2 hn_55 dX12_aMethod_185 (fun H locs hH => ?_)
                        have hH : Hp G (FA S s.heap.size) s.heap (wA S F_57 J_6 (gR S)) H locs := by rw [eF_57]; exact hH
                        obtain ⟨v_58, ev_58⟩ : ∃ y : Int32, y = x3_48 + 1 := ⟨_, rfl⟩
                        have hp := hp v_58 ev_58
                        refine lv_iinc (pc := 186) (v := v_58) (lv' := [(3, .int v_58), (0, .ref th), (1, .int v_4), (2, .int x2_11)]) hx hb dX12_aMethod_186 hl (k := 3) rfl (by rw [ev_58]; rfl) (by decide) rfl (fun ls hl => ?_)
                        refine lv_goto (pc := 189) (tgt := 155) hx hb dX12_aMethod_189 (by decide) ?_
                        obtain ⟨k9, hlt9, hp⟩ := hp
                        exact ih_47 k9 hlt9 _ _ _ _ _ hp hH (lv_sub hl [1, 2, 3, 0] rfl)
                  exact kl_47 k0_47 _ _ _ _ _ h0_47 hH (lv_sub hl [1, 2, 3, 0] rfl)
                · have hp := hp.2 cc_45
                  refine lv_aload_n (pc := 142) hx hb dX12_aMethod_142 rfl (lv_at hl 0 rfl) ?_
                  refine lv_bipush (pc := 143) (v := 6) hx hb dX12_aMethod_143 (by decide) ?_
                  refine sx_V (pc := 145) (As := [.int 6]) (rest := []) B hH hl.1 (C_X12_fails G l th 6 _ _ hp) mi_X12_fails coX12 hk_th w_1554 w_54 w_1552 rfl rfl ⟨Nat.le_of_ble_eq_true rfl, Nat.le_of_ble_eq_true rfl⟩ (Nat.le_of_ble_eq_true rfl) ⟨Nat.le_of_ble_eq_true rfl, Nat.le_of_ble_eq_true rfl⟩ dX12_aMethod_145 (fun v S1 H locs hq hH => ?_)
                  obtain ⟨r_59, F_59, rfl, e9, hp⟩ := hq
                  rw [e9] at hH
                  have hH : Hp G (FA S s.heap.size) s.heap (wA S F_59 J_6 (gR S)) H locs := hH
                  refine W.eq (g2 := F0 m 148 ls [.int r_59]) rfl ?_
                  obtain ⟨hz, hp⟩ := hp
                  exact sx_zret (pc := 148) B hH hr hlk hz (by rw [← hQQ]; exact ⟨_, F_59, J_6, rfl, rfl, hp⟩) (Nat.le_of_ble_eq_true rfl) (Nat.le_of_ble_eq_true rfl) dX12_aMethod_148
            · have hp := hp.2 cc_14
              refine lv_aload_n (pc := 74) hx hb dX12_aMethod_74 rfl (lv_at hl 0 rfl) ?_
              refine sx_V (pc := 75) (As := []) (rest := []) B hH hl.1 (C_X12_placesHere G l th _ _ hp) mi_X12_placesHere coX12 hk_th w_1598 w_65 w_1596 rfl rfl ⟨Nat.le_of_ble_eq_true rfl, Nat.le_of_ble_eq_true rfl⟩ (Nat.le_of_ble_eq_true rfl) ⟨Nat.le_of_ble_eq_true rfl, Nat.le_of_ble_eq_true rfl⟩ dX12_aMethod_75 (fun v S1 H locs hq hH => ?_)
              obtain ⟨r_60, rfl, e9, hp⟩ := hq
              rw [e9] at hH
              refine W.eq (g2 := F0 m 78 ls [.int r_60]) rfl ?_
              refine lv_istore_n (pc := 78) (lv' := [(3, .int r_60), (0, .ref th), (1, .int v_4), (2, .int x2_11)]) hx hb dX12_aMethod_78 rfl hl (by decide) rfl (fun ls hl => ?_)
              refine lv_iload_n (pc := 79) hx hb dX12_aMethod_79 rfl (lv_at hl 0 rfl) ?_
              refine lv_iconst (pc := 80) (v := (-1)) hx hb dX12_aMethod_80 (by decide) ?_
              refine lv_icmp_ne (pc := 81) (tgt := 90) hx hb dX12_aMethod_81 (by decide) (fun cc_61 => ?_) (fun cc_61 => ?_)
              · have hp := hp.1 cc_61
                refine lv_iload_n (pc := 90) hx hb dX12_aMethod_90 rfl (lv_at hl 3 rfl) ?_
                refine lv_bipush (pc := 91) (v := 32) hx hb dX12_aMethod_91 (by decide) ?_
                refine lv_icmp_ne (pc := 93) (tgt := 103) hx hb dX12_aMethod_93 (by decide) (fun cc_62 => ?_) (fun cc_62 => ?_)
                · have hp := hp.1 cc_62
                  refine lv_aload_n (pc := 103) hx hb dX12_aMethod_103 rfl (lv_at hl 1 rfl) ?_
                  refine sx_getR (pc := 104) (j := 0) B hH hk_th coX12 rfl w_1304 rfl dX12_aMethod_104 ?_
                  refine W.eq (g2 := F0 m 107 ls [va_rf (gR S th 0)]) rfl ?_
                  refine sx_nonnull (x := a_1) ha_1 ?_
                  refine lv_iload_n (pc := 107) hx hb dX12_aMethod_107 rfl (lv_at hl 2 rfl) ?_
                  refine lv_iconst (pc := 108) (v := 1) hx hb dX12_aMethod_108 (by decide) ?_
                  refine lv_iadd (pc := 109) hx hb dX12_aMethod_109 ?_
                  refine lv_iload_n (pc := 110) hx hb dX12_aMethod_110 rfl (lv_at hl 3 rfl) ?_
                  refine lv_iadd (pc := 111) hx hb dX12_aMethod_111 ?_
                  refine lv_iload_n (pc := 112) hx hb dX12_aMethod_112 rfl (lv_at hl 0 rfl) ?_
                  obtain ⟨hn_63, hp⟩ := hp
                  obtain ⟨F_64, eF_64⟩ : ∃ z : Nat → Nat → Int32, z = upI F_12 a_1 (((v_4 + 1) + x2_11).toNatClampNeg) r_60 := ⟨_, rfl⟩
                  have hp := hp F_64 eF_64
                  refine sx_iast (pc := 113) B hH hk_2 hn_63 dX12_aMethod_113 (fun H locs hH => ?_)
                  have hH : Hp G (FA S s.heap.size) s.heap (wA S F_64 J_6 (gR S)) H locs := by rw [eF_64]; exact hH
                  obtain ⟨v_65, ev_65⟩ : ∃ y : Int32, y = x2_11 + 1 := ⟨_, rfl⟩
                  have hp := hp v_65 ev_65
                  refine lv_iinc (pc := 114) (v := v_65) (lv' := [(2, .int v_65), (3, .int r_60), (0, .ref th), (1, .int v_4)]) hx hb dX12_aMethod_114 hl (k := 3) rfl (by rw [ev_65]; rfl) (by decide) rfl (fun ls hl => ?_)
                  refine lv_aload_n (pc := 117) hx hb dX12_aMethod_117 rfl (lv_at hl 2 rfl) ?_
                  refine sx_V (pc := 118) (As := []) (rest := []) B hH hl.1 (C_X12_ahead G l th _ _ hp) mi_X12_ahead coX12 hk_th w_1523 w_49 w_1521 rfl rfl ⟨Nat.le_of_ble_eq_true rfl, Nat.le_of_ble_eq_true rfl⟩ (Nat.le_of_ble_eq_true rfl) ⟨Nat.le_of_ble_eq_true rfl, Nat.le_of_ble_eq_true rfl⟩ dX12_aMethod_118 (fun v S1 H locs hq hH => ?_)
                  obtain ⟨F_66, rfl, e9, hp⟩ := hq
                  rw [e9] at hH
                  have hH : Hp G (FA S s.heap.size) s.heap (wA S F_66 J_6 (gR S)) H locs := hH
                  refine W.eq (g2 := F0 m 121 ls []) rfl ?_
                  refine lv_goto (pc := 121) (tgt := 67) hx hb dX12_aMethod_121 (by decide) ?_
                  obtain ⟨k9, hlt9, hp⟩ := hp
                  exact ih_10 k9 hlt9 _ _ _ _ _ hp hH (lv_sub hl [2, 3, 0] rfl)
                · have hp := hp.2 cc_62
                  refine lv_aload_n (pc := 96) hx hb dX12_aMethod_96 rfl (lv_at hl 1 rfl) ?_
                  refine lv_bipush (pc := 97) (v := 6) hx hb dX12_aMethod_97 (by decide) ?_
                  refine sx_V (pc := 99) (As := [.int 6]) (rest := []) B hH hl.1 (C_X12_fails G l th 6 _ _ hp) mi_X12_fails coX12 hk_th w_1554 w_54 w_1552 rfl rfl ⟨Nat.le_of_ble_eq_true rfl, Nat.le_of_ble_eq_true rfl⟩ (Nat.le_of_ble_eq_true rfl) ⟨Nat.le_of_ble_eq_true rfl, Nat.le_of_ble_eq_true rfl⟩ dX12_aMethod_99 (fun v S1 H locs hq hH => ?_)
                  obtain ⟨r_67, F_67, rfl, e9, hp⟩ := hq
                  rw [e9] at hH
                  have hH : Hp G (FA S s.heap.size) s.heap (wA S F_67 J_6 (gR S)) H locs := hH
                  refine W.eq (g2 := F0 m 102 ls [.int r_67]) rfl ?_
                  obtain ⟨hz, hp⟩ := hp
                  exact sx_zret (pc := 102) B hH hr hlk hz (by rw [← hQQ]; exact ⟨_, F_67, J_6, rfl, rfl, hp⟩) (Nat.le_of_ble_eq_true rfl) (Nat.le_of_ble_eq_true rfl) dX12_aMethod_102
              · have hp := hp.2 cc_61
                refine lv_aload_n (pc := 84) hx hb dX12_aMethod_84 rfl (lv_at hl 1 rfl) ?_
                refine lv_iconst (pc := 85) (v := 4) hx hb dX12_aMethod_85 (by decide) ?_
                refine sx_V (pc := 86) (As := [.int 4]) (rest := []) B hH hl.1 (C_X12_fails G l th 4 _ _ hp) mi_X12_fails coX12 hk_th w_1554 w_54 w_1552 rfl rfl ⟨Nat.le_of_ble_eq_true rfl, Nat.le_of_ble_eq_true rfl⟩ (Nat.le_of_ble_eq_true rfl) ⟨Nat.le_of_ble_eq_true rfl, Nat.le_of_ble_eq_true rfl⟩ dX12_aMethod_86 (fun v S1 H locs hq hH => ?_)
                obtain ⟨r_68, F_68, rfl, e9, hp⟩ := hq
                rw [e9] at hH
                have hH : Hp G (FA S s.heap.size) s.heap (wA S F_68 J_6 (gR S)) H locs := hH
                refine W.eq (g2 := F0 m 89 ls [.int r_68]) rfl ?_
                obtain ⟨hz, hp⟩ := hp
                exact sx_zret (pc := 89) B hH hr hlk hz (by rw [← hQQ]; exact ⟨_, F_68, J_6, rfl, rfl, hp⟩) (Nat.le_of_ble_eq_true rfl) (Nat.le_of_ble_eq_true rfl) dX12_aMethod_89
        exact kl_10 k0_10 _ _ _ _ _ h0_10 hH (lv_sub hl [2, 1, 0] rfl)
      · have hp := hp.2 cc_9
        refine lv_aload_n (pc := 59) hx hb dX12_aMethod_59 rfl (lv_at hl 1 rfl) ?_
        refine lv_iconst (pc := 60) (v := 2) hx hb dX12_aMethod_60 (by decide) ?_
        refine sx_V (pc := 61) (As := [.int 2]) (rest := []) B hH hl.1 (C_X12_fails G l th 2 _ _ hp) mi_X12_fails coX12 hk_th w_1554 w_54 w_1552 rfl rfl ⟨Nat.le_of_ble_eq_true rfl, Nat.le_of_ble_eq_true rfl⟩ (Nat.le_of_ble_eq_true rfl) ⟨Nat.le_of_ble_eq_true rfl, Nat.le_of_ble_eq_true rfl⟩ dX12_aMethod_61 (fun v S1 H locs hq hH => ?_)
        obtain ⟨r_69, F_69, rfl, e9, hp⟩ := hq
        rw [e9] at hH
        have hH : Hp G (FA S s.heap.size) s.heap (wA S F_69 J_6 (gR S)) H locs := hH
        refine W.eq (g2 := F0 m 64 ls [.int r_69]) rfl ?_
        obtain ⟨hz, hp⟩ := hp
        exact sx_zret (pc := 64) B hH hr hlk hz (by rw [← hQQ]; exact ⟨_, F_69, J_6, rfl, rfl, hp⟩) (Nat.le_of_ble_eq_true rfl) (Nat.le_of_ble_eq_true rfl) dX12_aMethod_64
    · have hp := hp.2 cc_7
      refine lv_iconst (pc := 50) (v := 0) hx hb dX12_aMethod_50 (by decide) ?_
      exact sx_zret (pc := 51) B hH hr hlk (Or.inl rfl) (by rw [← hQQ]; exact ⟨_, F_6, J_6, rfl, rfl, hp⟩) (Nat.le_of_ble_eq_true rfl) (Nat.le_of_ble_eq_true rfl) dX12_aMethod_51
  · have hp := hp.2 cc_5
    refine lv_aload_n (pc := 28) hx hb dX12_aMethod_28 rfl (lv_at hl 1 rfl) ?_
    refine lv_bipush (pc := 29) (v := 6) hx hb dX12_aMethod_29 (by decide) ?_
    refine sx_V (pc := 31) (As := [.int 6]) (rest := []) B hH hl.1 (C_X12_fails G l th 6 _ _ hp) mi_X12_fails coX12 hk_th w_1554 w_54 w_1552 rfl rfl ⟨Nat.le_of_ble_eq_true rfl, Nat.le_of_ble_eq_true rfl⟩ (Nat.le_of_ble_eq_true rfl) ⟨Nat.le_of_ble_eq_true rfl, Nat.le_of_ble_eq_true rfl⟩ dX12_aMethod_31 (fun v S1 H locs hq hH => ?_)
    obtain ⟨r_70, F_70, rfl, e9, hp⟩ := hq
    rw [e9] at hH
    have hH : Hp G (FA S s.heap.size) s.heap (wI S F_70) H locs := hH
    refine W.eq (g2 := F0 m 34 ls [.int r_70]) rfl ?_
    obtain ⟨hz, hp⟩ := hp
    exact sx_zret (pc := 34) B hH hr hlk hz (by rw [← hQQ]; exact ⟨_, F_70, (gJ S), rfl, rfl, hp⟩) (Nat.le_of_ble_eq_true rfl) (Nat.le_of_ble_eq_true rfl) dX12_aMethod_34
theorem dX12_aRinger_0 : decode cX12_aRinger 0 = .ok (.aload_n 0, 1) := by decide +kernel
theorem dX12_aRinger_1 : decode cX12_aRinger 1 = .ok (.getfield 7, 3) := by decide +kernel
theorem dX12_aRinger_4 : decode cX12_aRinger 4 = .ok (.sipush 9682, 3) := by decide +kernel
theorem dX12_aRinger_7 : decode cX12_aRinger 7 = .ok (.iaload, 1) := by decide +kernel
theorem dX12_aRinger_8 : decode cX12_aRinger 8 = .ok (.bipush 8, 2) := by decide +kernel
theorem dX12_aRinger_10 : decode cX12_aRinger 10 = .ok (.if_icmp .ne 10, 3) := by decide +kernel
theorem dX12_aRinger_13 : decode cX12_aRinger 13 = .ok (.aload_n 0, 1) := by decide +kernel
theorem dX12_aRinger_14 : decode cX12_aRinger 14 = .ok (.bipush 6, 2) := by decide +kernel
theorem dX12_aRinger_16 : decode cX12_aRinger 16 = .ok (.invokevirtual 188, 3) := by decide +kernel
theorem dX12_aRinger_19 : decode cX12_aRinger 19 = .ok (.ireturn, 1) := by decide +kernel
theorem dX12_aRinger_20 : decode cX12_aRinger 20 = .ok (.aload_n 0, 1) := by decide +kernel
theorem dX12_aRinger_21 : decode cX12_aRinger 21 = .ok (.iconst 4, 1) := by decide +kernel
theorem dX12_aRinger_22 : decode cX12_aRinger 22 = .ok (.aload_n 0, 1) := by decide +kernel
theorem dX12_aRinger_23 : decode cX12_aRinger 23 = .ok (.getfield 7, 3) := by decide +kernel
theorem dX12_aRinger_26 : decode cX12_aRinger 26 = .ok (.sipush 9682, 3) := by decide +kernel
theorem dX12_aRinger_29 : decode cX12_aRinger 29 = .ok (.iaload, 1) := by decide +kernel
theorem dX12_aRinger_30 : decode cX12_aRinger 30 = .ok (.iadd, 1) := by decide +kernel
theorem dX12_aRinger_31 : decode cX12_aRinger 31 = .ok (.invokevirtual 219, 3) := by decide +kernel
theorem dX12_aRinger_34 : decode cX12_aRinger 34 = .ok (.ifCond .ne 5, 3) := by decide +kernel
theorem dX12_aRinger_37 : decode cX12_aRinger 37 = .ok (.iconst 0, 1) := by decide +kernel
theorem dX12_aRinger_38 : decode cX12_aRinger 38 = .ok (.ireturn, 1) := by decide +kernel
theorem dX12_aRinger_39 : decode cX12_aRinger 39 = .ok (.aload_n 0, 1) := by decide +kernel
theorem dX12_aRinger_40 : decode cX12_aRinger 40 = .ok (.getfield 151, 3) := by decide +kernel
theorem dX12_aRinger_43 : decode cX12_aRinger 43 = .ok (.iconst 3, 1) := by decide +kernel
theorem dX12_aRinger_44 : decode cX12_aRinger 44 = .ok (.if_icmp .eq 9, 3) := by decide +kernel
theorem dX12_aRinger_47 : decode cX12_aRinger 47 = .ok (.aload_n 0, 1) := by decide +kernel
theorem dX12_aRinger_48 : decode cX12_aRinger 48 = .ok (.iconst 2, 1) := by decide +kernel
theorem dX12_aRinger_49 : decode cX12_aRinger 49 = .ok (.invokevirtual 188, 3) := by decide +kernel
theorem dX12_aRinger_52 : decode cX12_aRinger 52 = .ok (.ireturn, 1) := by decide +kernel
theorem dX12_aRinger_53 : decode cX12_aRinger 53 = .ok (.aload_n 0, 1) := by decide +kernel
theorem dX12_aRinger_54 : decode cX12_aRinger 54 = .ok (.getfield 148, 3) := by decide +kernel
theorem dX12_aRinger_57 : decode cX12_aRinger 57 = .ok (.iconst 1, 1) := by decide +kernel
theorem dX12_aRinger_58 : decode cX12_aRinger 58 = .ok (.if_icmp .lt 18, 3) := by decide +kernel
theorem dX12_aRinger_61 : decode cX12_aRinger 61 = .ok (.aload_n 0, 1) := by decide +kernel
theorem dX12_aRinger_62 : decode cX12_aRinger 62 = .ok (.getfield 148, 3) := by decide +kernel
theorem dX12_aRinger_65 : decode cX12_aRinger 65 = .ok (.aload_n 0, 1) := by decide +kernel
theorem dX12_aRinger_66 : decode cX12_aRinger 66 = .ok (.getfield 7, 3) := by decide +kernel
theorem dX12_aRinger_69 : decode cX12_aRinger 69 = .ok (.sipush 9680, 3) := by decide +kernel
theorem dX12_aRinger_72 : decode cX12_aRinger 72 = .ok (.iaload, 1) := by decide +kernel
theorem dX12_aRinger_73 : decode cX12_aRinger 73 = .ok (.if_icmp .le 9, 3) := by decide +kernel
theorem dX12_aRinger_76 : decode cX12_aRinger 76 = .ok (.aload_n 0, 1) := by decide +kernel
theorem dX12_aRinger_77 : decode cX12_aRinger 77 = .ok (.iconst 4, 1) := by decide +kernel
theorem dX12_aRinger_78 : decode cX12_aRinger 78 = .ok (.invokevirtual 188, 3) := by decide +kernel
theorem dX12_aRinger_81 : decode cX12_aRinger 81 = .ok (.ireturn, 1) := by decide +kernel
theorem dX12_aRinger_82 : decode cX12_aRinger 82 = .ok (.aload_n 0, 1) := by decide +kernel
theorem dX12_aRinger_83 : decode cX12_aRinger 83 = .ok (.getfield 7, 3) := by decide +kernel
theorem dX12_aRinger_86 : decode cX12_aRinger 86 = .ok (.sipush 9683, 3) := by decide +kernel
theorem dX12_aRinger_89 : decode cX12_aRinger 89 = .ok (.iaload, 1) := by decide +kernel
theorem dX12_aRinger_90 : decode cX12_aRinger 90 = .ok (.aload_n 0, 1) := by decide +kernel
theorem dX12_aRinger_91 : decode cX12_aRinger 91 = .ok (.getfield 148, 3) := by decide +kernel
theorem dX12_aRinger_94 : decode cX12_aRinger 94 = .ok (.iconst 1, 1) := by decide +kernel
theorem dX12_aRinger_95 : decode cX12_aRinger 95 = .ok (.isub, 1) := by decide +kernel
theorem dX12_aRinger_96 : decode cX12_aRinger 96 = .ok (.ishr, 1) := by decide +kernel
theorem dX12_aRinger_97 : decode cX12_aRinger 97 = .ok (.iconst 1, 1) := by decide +kernel
theorem dX12_aRinger_98 : decode cX12_aRinger 98 = .ok (.iand, 1) := by decide +kernel
theorem dX12_aRinger_99 : decode cX12_aRinger 99 = .ok (.iconst 1, 1) := by decide +kernel
theorem dX12_aRinger_100 : decode cX12_aRinger 100 = .ok (.if_icmp .ne 9, 3) := by decide +kernel
theorem dX12_aRinger_103 : decode cX12_aRinger 103 = .ok (.aload_n 0, 1) := by decide +kernel
theorem dX12_aRinger_104 : decode cX12_aRinger 104 = .ok (.iconst 5, 1) := by decide +kernel
theorem dX12_aRinger_105 : decode cX12_aRinger 105 = .ok (.invokevirtual 188, 3) := by decide +kernel
theorem dX12_aRinger_108 : decode cX12_aRinger 108 = .ok (.ireturn, 1) := by decide +kernel
theorem dX12_aRinger_109 : decode cX12_aRinger 109 = .ok (.aload_n 0, 1) := by decide +kernel
theorem dX12_aRinger_110 : decode cX12_aRinger 110 = .ok (.getfield 7, 3) := by decide +kernel
theorem dX12_aRinger_113 : decode cX12_aRinger 113 = .ok (.sipush 9683, 3) := by decide +kernel
theorem dX12_aRinger_116 : decode cX12_aRinger 116 = .ok (.dup2, 1) := by decide +kernel
theorem dX12_aRinger_117 : decode cX12_aRinger 117 = .ok (.iaload, 1) := by decide +kernel
theorem dX12_aRinger_118 : decode cX12_aRinger 118 = .ok (.iconst 1, 1) := by decide +kernel
theorem dX12_aRinger_119 : decode cX12_aRinger 119 = .ok (.aload_n 0, 1) := by decide +kernel
theorem dX12_aRinger_120 : decode cX12_aRinger 120 = .ok (.getfield 148, 3) := by decide +kernel
theorem dX12_aRinger_123 : decode cX12_aRinger 123 = .ok (.iconst 1, 1) := by decide +kernel
theorem dX12_aRinger_124 : decode cX12_aRinger 124 = .ok (.isub, 1) := by decide +kernel
theorem dX12_aRinger_125 : decode cX12_aRinger 125 = .ok (.ishl, 1) := by decide +kernel
theorem dX12_aRinger_126 : decode cX12_aRinger 126 = .ok (.ior, 1) := by decide +kernel
theorem dX12_aRinger_127 : decode cX12_aRinger 127 = .ok (.iastore, 1) := by decide +kernel
theorem dX12_aRinger_128 : decode cX12_aRinger 128 = .ok (.aload_n 0, 1) := by decide +kernel
theorem dX12_aRinger_129 : decode cX12_aRinger 129 = .ok (.invokevirtual 182, 3) := by decide +kernel
theorem dX12_aRinger_132 : decode cX12_aRinger 132 = .ok (.aload_n 0, 1) := by decide +kernel
theorem dX12_aRinger_133 : decode cX12_aRinger 133 = .ok (.getfield 7, 3) := by decide +kernel
theorem dX12_aRinger_136 : decode cX12_aRinger 136 = .ok (.sipush 9682, 3) := by decide +kernel
theorem dX12_aRinger_139 : decode cX12_aRinger 139 = .ok (.dup2, 1) := by decide +kernel
theorem dX12_aRinger_140 : decode cX12_aRinger 140 = .ok (.iaload, 1) := by decide +kernel
theorem dX12_aRinger_141 : decode cX12_aRinger 141 = .ok (.iconst 1, 1) := by decide +kernel
theorem dX12_aRinger_142 : decode cX12_aRinger 142 = .ok (.iadd, 1) := by decide +kernel
theorem dX12_aRinger_143 : decode cX12_aRinger 143 = .ok (.iastore, 1) := by decide +kernel
theorem dX12_aRinger_144 : decode cX12_aRinger 144 = .ok (.iconst 1, 1) := by decide +kernel
theorem dX12_aRinger_145 : decode cX12_aRinger 145 = .ok (.ireturn, 1) := by decide +kernel
theorem mi_X12_aRinger : MI yX12_aRinger cX12_aRinger 1 (some FieldType.boolean) 0 := ⟨w_1610, w_118, by decide +kernel, by decide +kernel, by decide +kernel⟩
set_option maxRecDepth 100000 in
set_option maxHeartbeats 4000000 in
theorem C_X12_aRinger (G : GG) (l : Launch) (th : Nat) (S : St) (Q : Int32 → (Nat → Nat → Int32) → (Nat → Nat → Int64) → Prop) (hp : P_X12_aRinger th S Q) : Ctr G l yX12_aRinger cX12_aRinger 1 (some FieldType.boolean) 7 153 0 0 [.ref th] S (fun (v : Option Value) (S9 : St) => ∃ (r : Int32) (I9 : Nat → Nat → Int32) (J9 : Nat → Nat → Int64), v = some (.int r) ∧ S9 = wA S I9 J9 (gR S) ∧ Q r I9 J9) := by
  generalize hQQ : (fun (v : Option Value) (S9 : St) => ∃ (r : Int32) (I9 : Nat → Nat → Int32) (J9 : Nat → Nat → Int64), v = some (.int r) ∧ S9 = wA S I9 J9 (gR S) ∧ Q r I9 J9) = QQ
  unfold P_X12_aRinger at hp
  refine Ctr.of (by decide) (Nat.le_of_ble_eq_true rfl) ?_
  intro p e s m args below meth c ls B hr hlk hin hl hH
  generalize hlocs0 : ([] : List Loc) = locs at hH ⊢
  have hx := B.1
  have hb := B.2.1
  have hl : lv_has ls 1 [(0, .ref th)] := hl
  obtain ⟨hk_th, hp⟩ := hp
  refine lv_aload_n (pc := 0) hx hb dX12_aRinger_0 rfl (lv_at hl 0 rfl) ?_
  refine sx_getR (pc := 1) (j := 0) B hH hk_th coX12 rfl w_1304 rfl dX12_aRinger_1 ?_
  refine W.eq (g2 := F0 m 4 ls [va_rf (gR S th 0)]) rfl ?_
  obtain ⟨a_1, ha_1, hp⟩ := hp
  refine sx_nonnull (x := a_1) ha_1 ?_
  refine lv_sipush (pc := 4) (v := 9682) hx hb dX12_aRinger_4 (by decide) ?_
  obtain ⟨hk_2, hp⟩ := hp
  obtain ⟨hn_3, hp⟩ := hp
  refine sx_iald (pc := 7) B hH hk_2 hn_3 dX12_aRinger_7 ?_
  refine W.eq (g2 := F0 m 8 ls [.int (gI S a_1 9682)]) rfl ?_
  refine lv_bipush (pc := 8) (v := 8) hx hb dX12_aRinger_8 (by decide) ?_
  refine lv_icmp_ne (pc := 10) (tgt := 20) hx hb dX12_aRinger_10 (by decide) (fun cc_4 => ?_) (fun cc_4 => ?_)
  · have hp := hp.1 cc_4
    refine lv_aload_n (pc := 20) hx hb dX12_aRinger_20 rfl (lv_at hl 0 rfl) ?_
    refine lv_iconst (pc := 21) (v := 4) hx hb dX12_aRinger_21 (by decide) ?_
    refine lv_aload_n (pc := 22) hx hb dX12_aRinger_22 rfl (lv_at hl 0 rfl) ?_
    refine sx_getR (pc := 23) (j := 0) B hH hk_th coX12 rfl w_1304 rfl dX12_aRinger_23 ?_
    refine W.eq (g2 := F0 m 26 ls [va_rf (gR S th 0), .int 4, .ref th]) rfl ?_
    refine sx_nonnull (x := a_1) ha_1 ?_
    refine lv_sipush (pc := 26) (v := 9682) hx hb dX12_aRinger_26 (by decide) ?_
    refine sx_iald (pc := 29) B hH hk_2 hn_3 dX12_aRinger_29 ?_
    refine W.eq (g2 := F0 m 30 ls [.int (gI S a_1 9682), .int 4, .ref th]) rfl ?_
    refine lv_iadd (pc := 30) hx hb dX12_aRinger_30 ?_
    refine sx_V (pc := 31) (As := [.int (4 + (gI S a_1 9682))]) (rest := []) B hH hl.1 (C_X12_newName G l th (4 + (gI S a_1 9682)) _ _ hp) mi_X12_newName coX12 hk_th w_1578 w_60 w_1576 rfl rfl ⟨Nat.le_of_ble_eq_true rfl, Nat.le_of_ble_eq_true rfl⟩ (Nat.le_of_ble_eq_true rfl) ⟨Nat.le_of_ble_eq_true rfl, Nat.le_of_ble_eq_true rfl⟩ dX12_aRinger_31 (fun v S1 H locs hq hH => ?_)
    obtain ⟨r_5, F_5, J_5, rfl, e9, hp⟩ := hq
    rw [e9] at hH
    have hH : Hp G (FA S s.heap.size) s.heap (wA S F_5 J_5 (gR S)) H locs := hH
    refine W.eq (g2 := F0 m 34 ls [.int r_5]) rfl ?_
    refine lv_if_ne (pc := 34) (tgt := 39) hx hb dX12_aRinger_34 (by decide) (fun cc_6 => ?_) (fun cc_6 => ?_)
    · have hp := hp.1 cc_6
      refine lv_aload_n (pc := 39) hx hb dX12_aRinger_39 rfl (lv_at hl 0 rfl) ?_
      refine sx_getI (pc := 40) (j := 12) B hH hk_th coX12 rfl w_1316 rfl dX12_aRinger_40 ?_
      refine W.eq (g2 := F0 m 43 ls [.int (F_5 th 12)]) rfl ?_
      refine lv_iconst (pc := 43) (v := 3) hx hb dX12_aRinger_43 (by decide) ?_
      refine lv_icmp_eq (pc := 44) (tgt := 53) hx hb dX12_aRinger_44 (by decide) (fun cc_7 => ?_) (fun cc_7 => ?_)
      · have hp := hp.1 cc_7
        refine lv_aload_n (pc := 53) hx hb dX12_aRinger_53 rfl (lv_at hl 0 rfl) ?_
        refine sx_getI (pc := 54) (j := 15) B hH hk_th coX12 rfl w_1319 rfl dX12_aRinger_54 ?_
        refine W.eq (g2 := F0 m 57 ls [.int (F_5 th 15)]) rfl ?_
        refine lv_iconst (pc := 57) (v := 1) hx hb dX12_aRinger_57 (by decide) ?_
        obtain ⟨J_9, hj_9, hp⟩ := hp
        have kj_9 : ∀  (H : Heap) (locs : List Loc) (ls : Array Slot), J_9  → Hp G (FA S s.heap.size) s.heap (wA S F_5 J_5 (gR S)) H locs → lv_has ls 1 [(0, .ref th)] → Wm G p l e { frames := 7, cells := 0, slots := 0, locals := 153 } s m args below meth c S QQ 0 0 H locs 0 0 (F0 m 76 ls []) := by
          intro  H locs ls hq9 hH hl
          have hp := hj_9  hq9
          refine lv_aload_n (pc := 76) hx hb dX12_aRinger_76 rfl (lv_at hl 0 rfl) ?_
          refine lv_iconst (pc := 77) (v := 4) hx hb dX12_aRinger_77 (by decide) ?_
          refine sx_V (pc := 78) (As := [.int 4]) (rest := []) B hH hl.1 (C_X12_fails G l th 4 _ _ hp) mi_X12_fails coX12 hk_th w_1554 w_54 w_1552 rfl rfl ⟨Nat.le_of_ble_eq_true rfl, Nat.le_of_ble_eq_true rfl⟩ (Nat.le_of_ble_eq_true rfl) ⟨Nat.le_of_ble_eq_true rfl, Nat.le_of_ble_eq_true rfl⟩ dX12_aRinger_78 (fun v S1 H locs hq hH => ?_)
          obtain ⟨r_10, F_10, rfl, e9, hp⟩ := hq
          rw [e9] at hH
          have hH : Hp G (FA S s.heap.size) s.heap (wA S F_10 J_5 (gR S)) H locs := hH
          refine W.eq (g2 := F0 m 81 ls [.int r_10]) rfl ?_
          obtain ⟨hz, hp⟩ := hp
          exact sx_zret (pc := 81) B hH hr hlk hz (by rw [← hQQ]; exact ⟨_, F_10, J_5, rfl, rfl, hp⟩) (Nat.le_of_ble_eq_true rfl) (Nat.le_of_ble_eq_true rfl) dX12_aRinger_81
        refine lv_icmp_lt (pc := 58) (tgt := 76) hx hb dX12_aRinger_58 (by decide) (fun cc_8 => ?_) (fun cc_8 => ?_)
        · have hp := hp.1 cc_8
          exact kj_9  _ _ _ hp hH (lv_sub hl [0] rfl)
        · have hp := hp.2 cc_8
          refine lv_aload_n (pc := 61) hx hb dX12_aRinger_61 rfl (lv_at hl 0 rfl) ?_
          refine sx_getI (pc := 62) (j := 15) B hH hk_th coX12 rfl w_1319 rfl dX12_aRinger_62 ?_
          refine W.eq (g2 := F0 m 65 ls [.int (F_5 th 15)]) rfl ?_
          refine lv_aload_n (pc := 65) hx hb dX12_aRinger_65 rfl (lv_at hl 0 rfl) ?_
          refine sx_getR (pc := 66) (j := 0) B hH hk_th coX12 rfl w_1304 rfl dX12_aRinger_66 ?_
          refine W.eq (g2 := F0 m 69 ls [va_rf (gR S th 0), .int (F_5 th 15)]) rfl ?_
          refine sx_nonnull (x := a_1) ha_1 ?_
          refine lv_sipush (pc := 69) (v := 9680) hx hb dX12_aRinger_69 (by decide) ?_
          obtain ⟨hn_11, hp⟩ := hp
          refine sx_iald (pc := 72) B hH hk_2 hn_11 dX12_aRinger_72 ?_
          refine W.eq (g2 := F0 m 73 ls [.int (F_5 a_1 9680), .int (F_5 th 15)]) rfl ?_
          refine lv_icmp_le (pc := 73) (tgt := 82) hx hb dX12_aRinger_73 (by decide) (fun cc_12 => ?_) (fun cc_12 => ?_)
          · have hp := hp.1 cc_12
            refine lv_aload_n (pc := 82) hx hb dX12_aRinger_82 rfl (lv_at hl 0 rfl) ?_
            refine sx_getR (pc := 83) (j := 0) B hH hk_th coX12 rfl w_1304 rfl dX12_aRinger_83 ?_
            refine W.eq (g2 := F0 m 86 ls [va_rf (gR S th 0)]) rfl ?_
            refine sx_nonnull (x := a_1) ha_1 ?_
            refine lv_sipush (pc := 86) (v := 9683) hx hb dX12_aRinger_86 (by decide) ?_
            obtain ⟨hn_13, hp⟩ := hp
            refine sx_iald (pc := 89) B hH hk_2 hn_13 dX12_aRinger_89 ?_
            refine W.eq (g2 := F0 m 90 ls [.int (F_5 a_1 9683)]) rfl ?_
            refine lv_aload_n (pc := 90) hx hb dX12_aRinger_90 rfl (lv_at hl 0 rfl) ?_
            refine sx_getI (pc := 91) (j := 15) B hH hk_th coX12 rfl w_1319 rfl dX12_aRinger_91 ?_
            refine W.eq (g2 := F0 m 94 ls [.int (F_5 th 15), .int (F_5 a_1 9683)]) rfl ?_
            refine lv_iconst (pc := 94) (v := 1) hx hb dX12_aRinger_94 (by decide) ?_
            refine lv_isub (pc := 95) hx hb dX12_aRinger_95 ?_
            refine lv_ishr (pc := 96) hx hb dX12_aRinger_96 ?_
            refine W.eq (g2 := F0 m 97 ls [.int (shr (F_5 a_1 9683) ((F_5 th 15) - 1))]) rfl ?_
            refine lv_iconst (pc := 97) (v := 1) hx hb dX12_aRinger_97 (by decide) ?_
            refine lv_iand (pc := 98) hx hb dX12_aRinger_98 ?_
            refine lv_iconst (pc := 99) (v := 1) hx hb dX12_aRinger_99 (by decide) ?_
            refine lv_icmp_ne (pc := 100) (tgt := 109) hx hb dX12_aRinger_100 (by decide) (fun cc_14 => ?_) (fun cc_14 => ?_)
            · have hp := hp.1 cc_14
              refine lv_aload_n (pc := 109) hx hb dX12_aRinger_109 rfl (lv_at hl 0 rfl) ?_
              refine sx_getR (pc := 110) (j := 0) B hH hk_th coX12 rfl w_1304 rfl dX12_aRinger_110 ?_
              refine W.eq (g2 := F0 m 113 ls [va_rf (gR S th 0)]) rfl ?_
              refine sx_nonnull (x := a_1) ha_1 ?_
              refine lv_sipush (pc := 113) (v := 9683) hx hb dX12_aRinger_113 (by decide) ?_
              refine lv_dup2_11 (pc := 116) hx hb dX12_aRinger_116 rfl rfl ?_
              refine sx_iald (pc := 117) B hH hk_2 hn_13 dX12_aRinger_117 ?_
              refine W.eq (g2 := F0 m 118 ls [.int (F_5 a_1 9683), .int 9683, .ref a_1]) rfl ?_
              refine lv_iconst (pc := 118) (v := 1) hx hb dX12_aRinger_118 (by decide) ?_
              refine lv_aload_n (pc := 119) hx hb dX12_aRinger_119 rfl (lv_at hl 0 rfl) ?_
              refine sx_getI (pc := 120) (j := 15) B hH hk_th coX12 rfl w_1319 rfl dX12_aRinger_120 ?_
              refine W.eq (g2 := F0 m 123 ls [.int (F_5 th 15), .int 1, .int (F_5 a_1 9683), .int 9683, .ref a_1]) rfl ?_
              refine lv_iconst (pc := 123) (v := 1) hx hb dX12_aRinger_123 (by decide) ?_
              refine lv_isub (pc := 124) hx hb dX12_aRinger_124 ?_
              refine lv_ishl (pc := 125) hx hb dX12_aRinger_125 ?_
              refine W.eq (g2 := F0 m 126 ls [.int (shl 1 ((F_5 th 15) - 1)), .int (F_5 a_1 9683), .int 9683, .ref a_1]) rfl ?_
              refine lv_ior (pc := 126) hx hb dX12_aRinger_126 ?_
              refine lv_topi (fun v_15 ev_15 => ?_)
              have hp := hp v_15 ev_15
              obtain ⟨F_16, eF_16⟩ : ∃ z : Nat → Nat → Int32, z = upI F_5 a_1 9683 v_15 := ⟨_, rfl⟩
              have hp := hp F_16 eF_16
              refine sx_iast (pc := 127) B hH hk_2 hn_13 dX12_aRinger_127 (fun H locs hH => ?_)
              have hH : Hp G (FA S s.heap.size) s.heap (wA S F_16 J_5 (gR S)) H locs := by rw [eF_16]; exact hH
              refine lv_aload_n (pc := 128) hx hb dX12_aRinger_128 rfl (lv_at hl 0 rfl) ?_
              refine sx_V (pc := 129) (As := []) (rest := []) B hH hl.1 (C_X12_ahead G l th _ _ hp) mi_X12_ahead coX12 hk_th w_1523 w_49 w_1521 rfl rfl ⟨Nat.le_of_ble_eq_true rfl, Nat.le_of_ble_eq_true rfl⟩ (Nat.le_of_ble_eq_true rfl) ⟨Nat.le_of_ble_eq_true rfl, Nat.le_of_ble_eq_true rfl⟩ dX12_aRinger_129 (fun v S1 H locs hq hH => ?_)
              obtain ⟨F_17, rfl, e9, hp⟩ := hq
              rw [e9] at hH
              have hH : Hp G (FA S s.heap.size) s.heap (wA S F_17 J_5 (gR S)) H locs := hH
              refine W.eq (g2 := F0 m 132 ls []) rfl ?_
              refine lv_aload_n (pc := 132) hx hb dX12_aRinger_132 rfl (lv_at hl 0 rfl) ?_
              refine sx_getR (pc := 133) (j := 0) B hH hk_th coX12 rfl w_1304 rfl dX12_aRinger_133 ?_
              refine W.eq (g2 := F0 m 136 ls [va_rf (gR S th 0)]) rfl ?_
              refine sx_nonnull (x := a_1) ha_1 ?_
              refine lv_sipush (pc := 136) (v := 9682) hx hb dX12_aRinger_136 (by decide) ?_
              refine lv_dup2_11 (pc := 139) hx hb dX12_aRinger_139 rfl rfl ?_
              refine sx_iald (pc := 140) B hH hk_2 hn_3 dX12_aRinger_140 ?_
              refine W.eq (g2 := F0 m 141 ls [.int (F_17 a_1 9682), .int 9682, .ref a_1]) rfl ?_
              refine lv_iconst (pc := 141) (v := 1) hx hb dX12_aRinger_141 (by decide) ?_
              refine lv_iadd (pc := 142) hx hb dX12_aRinger_142 ?_
              refine lv_topi (fun v_18 ev_18 => ?_)
              have hp := hp v_18 ev_18
              obtain ⟨F_19, eF_19⟩ : ∃ z : Nat → Nat → Int32, z = upI F_17 a_1 9682 v_18 := ⟨_, rfl⟩
              have hp := hp F_19 eF_19
              refine sx_iast (pc := 143) B hH hk_2 hn_3 dX12_aRinger_143 (fun H locs hH => ?_)
              have hH : Hp G (FA S s.heap.size) s.heap (wA S F_19 J_5 (gR S)) H locs := by rw [eF_19]; exact hH
              refine lv_iconst (pc := 144) (v := 1) hx hb dX12_aRinger_144 (by decide) ?_
              exact sx_zret (pc := 145) B hH hr hlk (Or.inr rfl) (by rw [← hQQ]; exact ⟨_, F_19, J_5, rfl, rfl, hp⟩) (Nat.le_of_ble_eq_true rfl) (Nat.le_of_ble_eq_true rfl) dX12_aRinger_145
            · have hp := hp.2 cc_14
              refine lv_aload_n (pc := 103) hx hb dX12_aRinger_103 rfl (lv_at hl 0 rfl) ?_
              refine lv_iconst (pc := 104) (v := 5) hx hb dX12_aRinger_104 (by decide) ?_
              refine sx_V (pc := 105) (As := [.int 5]) (rest := []) B hH hl.1 (C_X12_fails G l th 5 _ _ hp) mi_X12_fails coX12 hk_th w_1554 w_54 w_1552 rfl rfl ⟨Nat.le_of_ble_eq_true rfl, Nat.le_of_ble_eq_true rfl⟩ (Nat.le_of_ble_eq_true rfl) ⟨Nat.le_of_ble_eq_true rfl, Nat.le_of_ble_eq_true rfl⟩ dX12_aRinger_105 (fun v S1 H locs hq hH => ?_)
              obtain ⟨r_20, F_20, rfl, e9, hp⟩ := hq
              rw [e9] at hH
              have hH : Hp G (FA S s.heap.size) s.heap (wA S F_20 J_5 (gR S)) H locs := hH
              refine W.eq (g2 := F0 m 108 ls [.int r_20]) rfl ?_
              obtain ⟨hz, hp⟩ := hp
              exact sx_zret (pc := 108) B hH hr hlk hz (by rw [← hQQ]; exact ⟨_, F_20, J_5, rfl, rfl, hp⟩) (Nat.le_of_ble_eq_true rfl) (Nat.le_of_ble_eq_true rfl) dX12_aRinger_108
          · have hp := hp.2 cc_12
            exact kj_9  _ _ _ hp hH (lv_sub hl [0] rfl)
      · have hp := hp.2 cc_7
        refine lv_aload_n (pc := 47) hx hb dX12_aRinger_47 rfl (lv_at hl 0 rfl) ?_
        refine lv_iconst (pc := 48) (v := 2) hx hb dX12_aRinger_48 (by decide) ?_
        refine sx_V (pc := 49) (As := [.int 2]) (rest := []) B hH hl.1 (C_X12_fails G l th 2 _ _ hp) mi_X12_fails coX12 hk_th w_1554 w_54 w_1552 rfl rfl ⟨Nat.le_of_ble_eq_true rfl, Nat.le_of_ble_eq_true rfl⟩ (Nat.le_of_ble_eq_true rfl) ⟨Nat.le_of_ble_eq_true rfl, Nat.le_of_ble_eq_true rfl⟩ dX12_aRinger_49 (fun v S1 H locs hq hH => ?_)
        obtain ⟨r_21, F_21, rfl, e9, hp⟩ := hq
        rw [e9] at hH
        have hH : Hp G (FA S s.heap.size) s.heap (wA S F_21 J_5 (gR S)) H locs := hH
        refine W.eq (g2 := F0 m 52 ls [.int r_21]) rfl ?_
        obtain ⟨hz, hp⟩ := hp
        exact sx_zret (pc := 52) B hH hr hlk hz (by rw [← hQQ]; exact ⟨_, F_21, J_5, rfl, rfl, hp⟩) (Nat.le_of_ble_eq_true rfl) (Nat.le_of_ble_eq_true rfl) dX12_aRinger_52
    · have hp := hp.2 cc_6
      refine lv_iconst (pc := 37) (v := 0) hx hb dX12_aRinger_37 (by decide) ?_
      exact sx_zret (pc := 38) B hH hr hlk (Or.inl rfl) (by rw [← hQQ]; exact ⟨_, F_5, J_5, rfl, rfl, hp⟩) (Nat.le_of_ble_eq_true rfl) (Nat.le_of_ble_eq_true rfl) dX12_aRinger_38
  · have hp := hp.2 cc_4
    refine lv_aload_n (pc := 13) hx hb dX12_aRinger_13 rfl (lv_at hl 0 rfl) ?_
    refine lv_bipush (pc := 14) (v := 6) hx hb dX12_aRinger_14 (by decide) ?_
    refine sx_V (pc := 16) (As := [.int 6]) (rest := []) B hH hl.1 (C_X12_fails G l th 6 _ _ hp) mi_X12_fails coX12 hk_th w_1554 w_54 w_1552 rfl rfl ⟨Nat.le_of_ble_eq_true rfl, Nat.le_of_ble_eq_true rfl⟩ (Nat.le_of_ble_eq_true rfl) ⟨Nat.le_of_ble_eq_true rfl, Nat.le_of_ble_eq_true rfl⟩ dX12_aRinger_16 (fun v S1 H locs hq hH => ?_)
    obtain ⟨r_22, F_22, rfl, e9, hp⟩ := hq
    rw [e9] at hH
    have hH : Hp G (FA S s.heap.size) s.heap (wI S F_22) H locs := hH
    refine W.eq (g2 := F0 m 19 ls [.int r_22]) rfl ?_
    obtain ⟨hz, hp⟩ := hp
    exact sx_zret (pc := 19) B hH hr hlk hz (by rw [← hQQ]; exact ⟨_, F_22, (gJ S), rfl, rfl, hp⟩) (Nat.le_of_ble_eq_true rfl) (Nat.le_of_ble_eq_true rfl) dX12_aRinger_19
theorem dX12_bookPart_0 : decode cX12_bookPart 0 = .ok (.aload_n 0, 1) := by decide +kernel
theorem dX12_bookPart_1 : decode cX12_bookPart 1 = .ok (.ldc 199, 2) := by decide +kernel
theorem dX12_bookPart_3 : decode cX12_bookPart 3 = .ok (.invokevirtual 191, 3) := by decide +kernel
theorem dX12_bookPart_6 : decode cX12_bookPart 6 = .ok (.istore_n 1, 1) := by decide +kernel
theorem dX12_bookPart_7 : decode cX12_bookPart 7 = .ok (.iload_n 1, 1) := by decide +kernel
theorem dX12_bookPart_8 : decode cX12_bookPart 8 = .ok (.iconst 1, 1) := by decide +kernel
theorem dX12_bookPart_9 : decode cX12_bookPart 9 = .ok (.if_icmp .eq 14, 3) := by decide +kernel
theorem dX12_bookPart_12 : decode cX12_bookPart 12 = .ok (.iload_n 1, 1) := by decide +kernel
theorem dX12_bookPart_13 : decode cX12_bookPart 13 = .ok (.iconst 2, 1) := by decide +kernel
theorem dX12_bookPart_14 : decode cX12_bookPart 14 = .ok (.if_icmp .eq 9, 3) := by decide +kernel
theorem dX12_bookPart_17 : decode cX12_bookPart 17 = .ok (.aload_n 0, 1) := by decide +kernel
theorem dX12_bookPart_18 : decode cX12_bookPart 18 = .ok (.iconst 2, 1) := by decide +kernel
theorem dX12_bookPart_19 : decode cX12_bookPart 19 = .ok (.invokevirtual 188, 3) := by decide +kernel
theorem dX12_bookPart_22 : decode cX12_bookPart 22 = .ok (.ireturn, 1) := by decide +kernel
theorem dX12_bookPart_23 : decode cX12_bookPart 23 = .ok (.iload_n 1, 1) := by decide +kernel
theorem dX12_bookPart_24 : decode cX12_bookPart 24 = .ok (.iconst 1, 1) := by decide +kernel
theorem dX12_bookPart_25 : decode cX12_bookPart 25 = .ok (.if_icmp .ne 13, 3) := by decide +kernel
theorem dX12_bookPart_28 : decode cX12_bookPart 28 = .ok (.aload_n 0, 1) := by decide +kernel
theorem dX12_bookPart_29 : decode cX12_bookPart 29 = .ok (.invokevirtual 225, 3) := by decide +kernel
theorem dX12_bookPart_32 : decode cX12_bookPart 32 = .ok (.ifCond .eq 26, 3) := by decide +kernel
theorem dX12_bookPart_35 : decode cX12_bookPart 35 = .ok (.goto 10, 3) := by decide +kernel
theorem dX12_bookPart_38 : decode cX12_bookPart 38 = .ok (.aload_n 0, 1) := by decide +kernel
theorem dX12_bookPart_39 : decode cX12_bookPart 39 = .ok (.invokevirtual 228, 3) := by decide +kernel
theorem dX12_bookPart_42 : decode cX12_bookPart 42 = .ok (.ifCond .eq 16, 3) := by decide +kernel
theorem dX12_bookPart_45 : decode cX12_bookPart 45 = .ok (.aload_n 0, 1) := by decide +kernel
theorem dX12_bookPart_46 : decode cX12_bookPart 46 = .ok (.bipush 59, 2) := by decide +kernel
theorem dX12_bookPart_48 : decode cX12_bookPart 48 = .ok (.invokevirtual 231, 3) := by decide +kernel
theorem dX12_bookPart_51 : decode cX12_bookPart 51 = .ok (.ifCond .eq 7, 3) := by decide +kernel
theorem dX12_bookPart_54 : decode cX12_bookPart 54 = .ok (.iconst 1, 1) := by decide +kernel
theorem dX12_bookPart_55 : decode cX12_bookPart 55 = .ok (.goto 4, 3) := by decide +kernel
theorem dX12_bookPart_58 : decode cX12_bookPart 58 = .ok (.iconst 0, 1) := by decide +kernel
theorem dX12_bookPart_59 : decode cX12_bookPart 59 = .ok (.ireturn, 1) := by decide +kernel
theorem mi_X12_bookPart : MI yX12_bookPart cX12_bookPart 2 (some FieldType.boolean) 0 := ⟨w_1571, w_118, by decide +kernel, by decide +kernel, by decide +kernel⟩
set_option maxRecDepth 100000 in
set_option maxHeartbeats 4000000 in
theorem C_X12_bookPart (G : GG) (l : Launch) (th : Nat) (S : St) (Q : Int32 → (Nat → Nat → Int32) → (Nat → Nat → Int64) → Prop) (hp : P_X12_bookPart th S Q) : Ctr G l yX12_bookPart cX12_bookPart 2 (some FieldType.boolean) 8 176 0 0 [.ref th] S (fun (v : Option Value) (S9 : St) => ∃ (r : Int32) (I9 : Nat → Nat → Int32) (J9 : Nat → Nat → Int64), v = some (.int r) ∧ S9 = wA S I9 J9 (gR S) ∧ Q r I9 J9) := by
  generalize hQQ : (fun (v : Option Value) (S9 : St) => ∃ (r : Int32) (I9 : Nat → Nat → Int32) (J9 : Nat → Nat → Int64), v = some (.int r) ∧ S9 = wA S I9 J9 (gR S) ∧ Q r I9 J9) = QQ
  unfold P_X12_bookPart at hp
  refine Ctr.of (by decide) (Nat.le_of_ble_eq_true rfl) ?_
  intro p e s m args below meth c ls B hr hlk hin hl hH
  generalize hlocs0 : ([] : List Loc) = locs at hH ⊢
  have hx := B.1
  have hb := B.2.1
  have hl : lv_has ls 2 [(0, .ref th)] := hl
  obtain ⟨hk_th, hp⟩ := hp
  refine lv_aload_n (pc := 0) hx hb dX12_bookPart_0 rfl (lv_at hl 0 rfl) ?_
  refine sx_ldcS (pc := 1) 12 B (by decide) rfl rfl dX12_bookPart_1 ?_
  refine sx_V (pc := 3) (As := [.ref (G.2.2.1 12)]) (rest := []) B hH hl.1 (C_X12_inWords G l th 12 _ _ hp) mi_X12_inWords coX12 hk_th w_1548 w_53 w_1546 rfl rfl ⟨Nat.le_of_ble_eq_true rfl, Nat.le_of_ble_eq_true rfl⟩ (Nat.le_of_ble_eq_true rfl) ⟨Nat.le_of_ble_eq_true rfl, Nat.le_of_ble_eq_true rfl⟩ dX12_bookPart_3 (fun v S1 H locs hq hH => ?_)
  obtain ⟨r_1, rfl, e9, hp⟩ := hq
  rw [e9] at hH
  refine W.eq (g2 := F0 m 6 ls [.int r_1]) rfl ?_
  refine lv_istore_n (pc := 6) (lv' := [(1, .int r_1), (0, .ref th)]) hx hb dX12_bookPart_6 rfl hl (by decide) rfl (fun ls hl => ?_)
  refine lv_iload_n (pc := 7) hx hb dX12_bookPart_7 rfl (lv_at hl 0 rfl) ?_
  refine lv_iconst (pc := 8) (v := 1) hx hb dX12_bookPart_8 (by decide) ?_
  obtain ⟨J_3, hj_3, hp⟩ := hp
  have kj_3 : ∀  (H : Heap) (locs : List Loc) (ls : Array Slot), J_3  → Hp G (FA S s.heap.size) s.heap S H locs → lv_has ls 2 [(0, .ref th), (1, .int r_1)] → Wm G p l e { frames := 8, cells := 0, slots := 0, locals := 176 } s m args below meth c S QQ 0 0 H locs 0 0 (F0 m 23 ls []) := by
    intro  H locs ls hq9 hH hl
    have hp := hj_3  hq9
    refine lv_iload_n (pc := 23) hx hb dX12_bookPart_23 rfl (lv_at hl 1 rfl) ?_
    refine lv_iconst (pc := 24) (v := 1) hx hb dX12_bookPart_24 (by decide) ?_
    obtain ⟨J_5, hj_5, hp⟩ := hp
    have kj_5 : ∀ (F_6 : Nat → Nat → Int32) (J_7 : Nat → Nat → Int64) (H : Heap) (locs : List Loc) (ls : Array Slot), J_5 F_6 J_7 → Hp G (FA S s.heap.size) s.heap (wA S F_6 J_7 (gR S)) H locs → lv_has ls 2 [(0, .ref th)] → Wm G p l e { frames := 8, cells := 0, slots := 0, locals := 176 } s m args below meth c S QQ 0 0 H locs 0 0 (F0 m 45 ls []) := by
      intro F_6 J_7 H locs ls hq9 hH hl
      have hp := hj_5 F_6 J_7 hq9
      refine lv_aload_n (pc := 45) hx hb dX12_bookPart_45 rfl (lv_at hl 0 rfl) ?_
      refine lv_bipush (pc := 46) (v := 59) hx hb dX12_bookPart_46 (by decide) ?_
      refine sx_V (pc := 48) (As := [.int 59]) (rest := []) B hH hl.1 (C_X12_wantSign G l th 59 _ _ hp) mi_X12_wantSign coX12 hk_th w_1562 w_56 w_1560 rfl rfl ⟨Nat.le_of_ble_eq_true rfl, Nat.le_of_ble_eq_true rfl⟩ (Nat.le_of_ble_eq_true rfl) ⟨Nat.le_of_ble_eq_true rfl, Nat.le_of_ble_eq_true rfl⟩ dX12_bookPart_48 (fun v S1 H locs hq hH => ?_)
      obtain ⟨r_8, F_8, rfl, e9, hp⟩ := hq
      rw [e9] at hH
      have hH : Hp G (FA S s.heap.size) s.heap (wA S F_8 J_7 (gR S)) H locs := hH
      refine W.eq (g2 := F0 m 51 ls [.int r_8]) rfl ?_
      refine lv_if_eq (pc := 51) (tgt := 58) hx hb dX12_bookPart_51 (by decide) (fun cc_9 => ?_) (fun cc_9 => ?_)
      · have hp := hp.1 cc_9
        refine lv_iconst (pc := 58) (v := 0) hx hb dX12_bookPart_58 (by decide) ?_
        exact sx_zret (pc := 59) B hH hr hlk (Or.inl rfl) (by rw [← hQQ]; exact ⟨_, F_8, J_7, rfl, rfl, hp⟩) (Nat.le_of_ble_eq_true rfl) (Nat.le_of_ble_eq_true rfl) dX12_bookPart_59
      · have hp := hp.2 cc_9
        refine lv_iconst (pc := 54) (v := 1) hx hb dX12_bookPart_54 (by decide) ?_
        refine lv_goto (pc := 55) (tgt := 59) hx hb dX12_bookPart_55 (by decide) ?_
        exact sx_zret (pc := 59) B hH hr hlk (Or.inr rfl) (by rw [← hQQ]; exact ⟨_, F_8, J_7, rfl, rfl, hp⟩) (Nat.le_of_ble_eq_true rfl) (Nat.le_of_ble_eq_true rfl) dX12_bookPart_59
    refine lv_icmp_ne (pc := 25) (tgt := 38) hx hb dX12_bookPart_25 (by decide) (fun cc_4 => ?_) (fun cc_4 => ?_)
    · have hp := hp.1 cc_4
      refine lv_aload_n (pc := 38) hx hb dX12_bookPart_38 rfl (lv_at hl 0 rfl) ?_
      refine sx_V (pc := 39) (As := []) (rest := []) B hH hl.1 (C_X12_aRinger G l th _ _ hp) mi_X12_aRinger coX12 hk_th w_1609 w_67 w_1607 rfl rfl ⟨Nat.le_of_ble_eq_true rfl, Nat.le_of_ble_eq_true rfl⟩ (Nat.le_of_ble_eq_true rfl) ⟨Nat.le_of_ble_eq_true rfl, Nat.le_of_ble_eq_true rfl⟩ dX12_bookPart_39 (fun v S1 H locs hq hH => ?_)
      obtain ⟨r_10, F_10, J_10, rfl, e9, hp⟩ := hq
      rw [e9] at hH
      have hH : Hp G (FA S s.heap.size) s.heap (wA S F_10 J_10 (gR S)) H locs := hH
      refine W.eq (g2 := F0 m 42 ls [.int r_10]) rfl ?_
      refine lv_if_eq (pc := 42) (tgt := 58) hx hb dX12_bookPart_42 (by decide) (fun cc_11 => ?_) (fun cc_11 => ?_)
      · have hp := hp.1 cc_11
        refine lv_iconst (pc := 58) (v := 0) hx hb dX12_bookPart_58 (by decide) ?_
        exact sx_zret (pc := 59) B hH hr hlk (Or.inl rfl) (by rw [← hQQ]; exact ⟨_, F_10, J_10, rfl, rfl, hp⟩) (Nat.le_of_ble_eq_true rfl) (Nat.le_of_ble_eq_true rfl) dX12_bookPart_59
      · have hp := hp.2 cc_11
        exact kj_5 _ _ _ _ _ hp hH (lv_sub hl [0] rfl)
    · have hp := hp.2 cc_4
      refine lv_aload_n (pc := 28) hx hb dX12_bookPart_28 rfl (lv_at hl 0 rfl) ?_
      refine sx_V (pc := 29) (As := []) (rest := []) B hH hl.1 (C_X12_aMethod G l th _ _ hp) mi_X12_aMethod coX12 hk_th w_1574 w_59 w_1572 rfl rfl ⟨Nat.le_of_ble_eq_true rfl, Nat.le_of_ble_eq_true rfl⟩ (Nat.le_of_ble_eq_true rfl) ⟨Nat.le_of_ble_eq_true rfl, Nat.le_of_ble_eq_true rfl⟩ dX12_bookPart_29 (fun v S1 H locs hq hH => ?_)
      obtain ⟨r_12, F_12, J_12, rfl, e9, hp⟩ := hq
      rw [e9] at hH
      have hH : Hp G (FA S s.heap.size) s.heap (wA S F_12 J_12 (gR S)) H locs := hH
      refine W.eq (g2 := F0 m 32 ls [.int r_12]) rfl ?_
      refine lv_if_eq (pc := 32) (tgt := 58) hx hb dX12_bookPart_32 (by decide) (fun cc_13 => ?_) (fun cc_13 => ?_)
      · have hp := hp.1 cc_13
        refine lv_iconst (pc := 58) (v := 0) hx hb dX12_bookPart_58 (by decide) ?_
        exact sx_zret (pc := 59) B hH hr hlk (Or.inl rfl) (by rw [← hQQ]; exact ⟨_, F_12, J_12, rfl, rfl, hp⟩) (Nat.le_of_ble_eq_true rfl) (Nat.le_of_ble_eq_true rfl) dX12_bookPart_59
      · have hp := hp.2 cc_13
        refine lv_goto (pc := 35) (tgt := 45) hx hb dX12_bookPart_35 (by decide) ?_
        exact kj_5 _ _ _ _ _ hp hH (lv_sub hl [0] rfl)
  refine lv_icmp_eq (pc := 9) (tgt := 23) hx hb dX12_bookPart_9 (by decide) (fun cc_2 => ?_) (fun cc_2 => ?_)
  · have hp := hp.1 cc_2
    exact kj_3  _ _ _ hp hH (lv_sub hl [1, 0] rfl)
  · have hp := hp.2 cc_2
    refine lv_iload_n (pc := 12) hx hb dX12_bookPart_12 rfl (lv_at hl 0 rfl) ?_
    refine lv_iconst (pc := 13) (v := 2) hx hb dX12_bookPart_13 (by decide) ?_
    refine lv_icmp_eq (pc := 14) (tgt := 23) hx hb dX12_bookPart_14 (by decide) (fun cc_14 => ?_) (fun cc_14 => ?_)
    · have hp := hp.1 cc_14
      exact kj_3  _ _ _ hp hH (lv_sub hl [1, 0] rfl)
    · have hp := hp.2 cc_14
      refine lv_aload_n (pc := 17) hx hb dX12_bookPart_17 rfl (lv_at hl 1 rfl) ?_
      refine lv_iconst (pc := 18) (v := 2) hx hb dX12_bookPart_18 (by decide) ?_
      refine sx_V (pc := 19) (As := [.int 2]) (rest := []) B hH hl.1 (C_X12_fails G l th 2 _ _ hp) mi_X12_fails coX12 hk_th w_1554 w_54 w_1552 rfl rfl ⟨Nat.le_of_ble_eq_true rfl, Nat.le_of_ble_eq_true rfl⟩ (Nat.le_of_ble_eq_true rfl) ⟨Nat.le_of_ble_eq_true rfl, Nat.le_of_ble_eq_true rfl⟩ dX12_bookPart_19 (fun v S1 H locs hq hH => ?_)
      obtain ⟨r_15, F_15, rfl, e9, hp⟩ := hq
      rw [e9] at hH
      have hH : Hp G (FA S s.heap.size) s.heap (wI S F_15) H locs := hH
      refine W.eq (g2 := F0 m 22 ls [.int r_15]) rfl ?_
      obtain ⟨hz, hp⟩ := hp
      exact sx_zret (pc := 22) B hH hr hlk hz (by rw [← hQQ]; exact ⟨_, F_15, (gJ S), rfl, rfl, hp⟩) (Nat.le_of_ble_eq_true rfl) (Nat.le_of_ble_eq_true rfl) dX12_bookPart_22
theorem dX12_book_0 : decode cX12_book 0 = .ok (.aload_n 0, 1) := by decide +kernel
theorem dX12_book_1 : decode cX12_book 1 = .ok (.iload_n 1, 1) := by decide +kernel
theorem dX12_book_2 : decode cX12_book 2 = .ok (.sipush 900, 3) := by decide +kernel
theorem dX12_book_5 : decode cX12_book 5 = .ok (.invokevirtual 234, 3) := by decide +kernel
theorem dX12_book_8 : decode cX12_book 8 = .ok (.ifCond .ne 9, 3) := by decide +kernel
theorem dX12_book_11 : decode cX12_book 11 = .ok (.aload_n 0, 1) := by decide +kernel
theorem dX12_book_12 : decode cX12_book 12 = .ok (.iconst 1, 1) := by decide +kernel
theorem dX12_book_13 : decode cX12_book 13 = .ok (.invokevirtual 105, 3) := by decide +kernel
theorem dX12_book_16 : decode cX12_book 16 = .ok (.ireturn, 1) := by decide +kernel
theorem dX12_book_17 : decode cX12_book 17 = .ok (.iconst 0, 1) := by decide +kernel
theorem dX12_book_18 : decode cX12_book 18 = .ok (.istore_n 2, 1) := by decide +kernel
theorem dX12_book_19 : decode cX12_book 19 = .ok (.iload_n 2, 1) := by decide +kernel
theorem dX12_book_20 : decode cX12_book 20 = .ok (.sipush 2420, 3) := by decide +kernel
theorem dX12_book_23 : decode cX12_book 23 = .ok (.if_icmp .ge 20, 3) := by decide +kernel
theorem dX12_book_26 : decode cX12_book 26 = .ok (.aload_n 0, 1) := by decide +kernel
theorem dX12_book_27 : decode cX12_book 27 = .ok (.getfield 7, 3) := by decide +kernel
theorem dX12_book_30 : decode cX12_book 30 = .ok (.sipush 9680, 3) := by decide +kernel
theorem dX12_book_33 : decode cX12_book 33 = .ok (.iload_n 2, 1) := by decide +kernel
theorem dX12_book_34 : decode cX12_book 34 = .ok (.iadd, 1) := by decide +kernel
theorem dX12_book_35 : decode cX12_book 35 = .ok (.iconst 0, 1) := by decide +kernel
theorem dX12_book_36 : decode cX12_book 36 = .ok (.iastore, 1) := by decide +kernel
theorem dX12_book_37 : decode cX12_book 37 = .ok (.iinc 2 1, 3) := by decide +kernel
theorem dX12_book_40 : decode cX12_book 40 = .ok (.goto (-21), 3) := by decide +kernel
theorem dX12_book_43 : decode cX12_book 43 = .ok (.aload_n 0, 1) := by decide +kernel
theorem dX12_book_44 : decode cX12_book 44 = .ok (.getfield 7, 3) := by decide +kernel
theorem dX12_book_47 : decode cX12_book 47 = .ok (.sipush 9684, 3) := by decide +kernel
theorem dX12_book_50 : decode cX12_book 50 = .ok (.iconst (-1), 1) := by decide +kernel
theorem dX12_book_51 : decode cX12_book 51 = .ok (.iastore, 1) := by decide +kernel
theorem dX12_book_52 : decode cX12_book 52 = .ok (.aload_n 0, 1) := by decide +kernel
theorem dX12_book_53 : decode cX12_book 53 = .ok (.getfield 7, 3) := by decide +kernel
theorem dX12_book_56 : decode cX12_book 56 = .ok (.sipush 9686, 3) := by decide +kernel
theorem dX12_book_59 : decode cX12_book 59 = .ok (.iconst (-1), 1) := by decide +kernel
theorem dX12_book_60 : decode cX12_book 60 = .ok (.iastore, 1) := by decide +kernel
theorem dX12_book_61 : decode cX12_book 61 = .ok (.aload_n 0, 1) := by decide +kernel
theorem dX12_book_62 : decode cX12_book 62 = .ok (.ldc 199, 2) := by decide +kernel
theorem dX12_book_64 : decode cX12_book 64 = .ok (.iconst 0, 1) := by decide +kernel
theorem dX12_book_65 : decode cX12_book 65 = .ok (.invokevirtual 237, 3) := by decide +kernel
theorem dX12_book_68 : decode cX12_book 68 = .ok (.ifCond .eq 29, 3) := by decide +kernel
theorem dX12_book_71 : decode cX12_book 71 = .ok (.aload_n 0, 1) := by decide +kernel
theorem dX12_book_72 : decode cX12_book 72 = .ok (.sipush 9680, 3) := by decide +kernel
theorem dX12_book_75 : decode cX12_book 75 = .ok (.iconst 4, 1) := by decide +kernel
theorem dX12_book_76 : decode cX12_book 76 = .ok (.bipush 8, 2) := by decide +kernel
theorem dX12_book_78 : decode cX12_book 78 = .ok (.invokevirtual 241, 3) := by decide +kernel
theorem dX12_book_81 : decode cX12_book 81 = .ok (.ifCond .eq 16, 3) := by decide +kernel
theorem dX12_book_84 : decode cX12_book 84 = .ok (.aload_n 0, 1) := by decide +kernel
theorem dX12_book_85 : decode cX12_book 85 = .ok (.bipush 59, 2) := by decide +kernel
theorem dX12_book_87 : decode cX12_book 87 = .ok (.invokevirtual 231, 3) := by decide +kernel
theorem dX12_book_90 : decode cX12_book 90 = .ok (.ifCond .eq 7, 3) := by decide +kernel
theorem dX12_book_93 : decode cX12_book 93 = .ok (.iconst 1, 1) := by decide +kernel
theorem dX12_book_94 : decode cX12_book 94 = .ok (.goto 4, 3) := by decide +kernel
theorem dX12_book_97 : decode cX12_book 97 = .ok (.iconst 0, 1) := by decide +kernel
theorem dX12_book_98 : decode cX12_book 98 = .ok (.istore_n 2, 1) := by decide +kernel
theorem dX12_book_99 : decode cX12_book 99 = .ok (.iload_n 2, 1) := by decide +kernel
theorem dX12_book_100 : decode cX12_book 100 = .ok (.ifCond .eq 18, 3) := by decide +kernel
theorem dX12_book_103 : decode cX12_book 103 = .ok (.aload_n 0, 1) := by decide +kernel
theorem dX12_book_104 : decode cX12_book 104 = .ok (.getfield 151, 3) := by decide +kernel
theorem dX12_book_107 : decode cX12_book 107 = .ok (.ifCond .eq 11, 3) := by decide +kernel
theorem dX12_book_110 : decode cX12_book 110 = .ok (.aload_n 0, 1) := by decide +kernel
theorem dX12_book_111 : decode cX12_book 111 = .ok (.invokevirtual 245, 3) := by decide +kernel
theorem dX12_book_114 : decode cX12_book 114 = .ok (.istore_n 2, 1) := by decide +kernel
theorem dX12_book_115 : decode cX12_book 115 = .ok (.goto (-16), 3) := by decide +kernel
theorem dX12_book_118 : decode cX12_book 118 = .ok (.aload_n 0, 1) := by decide +kernel
theorem dX12_book_119 : decode cX12_book 119 = .ok (.getfield 176, 3) := by decide +kernel
theorem dX12_book_122 : decode cX12_book 122 = .ok (.ifCond .ne 63, 3) := by decide +kernel
theorem dX12_book_125 : decode cX12_book 125 = .ok (.iconst 0, 1) := by decide +kernel
theorem dX12_book_126 : decode cX12_book 126 = .ok (.istore_n 3, 1) := by decide +kernel
theorem dX12_book_127 : decode cX12_book 127 = .ok (.iload_n 3, 1) := by decide +kernel
theorem dX12_book_128 : decode cX12_book 128 = .ok (.sipush 2420, 3) := by decide +kernel
theorem dX12_book_131 : decode cX12_book 131 = .ok (.if_icmp .ge 25, 3) := by decide +kernel
theorem dX12_book_134 : decode cX12_book 134 = .ok (.aload_n 0, 1) := by decide +kernel
theorem dX12_book_135 : decode cX12_book 135 = .ok (.getfield 7, 3) := by decide +kernel
theorem dX12_book_138 : decode cX12_book 138 = .ok (.iload_n 3, 1) := by decide +kernel
theorem dX12_book_139 : decode cX12_book 139 = .ok (.aload_n 0, 1) := by decide +kernel
theorem dX12_book_140 : decode cX12_book 140 = .ok (.getfield 7, 3) := by decide +kernel
theorem dX12_book_143 : decode cX12_book 143 = .ok (.sipush 9680, 3) := by decide +kernel
theorem dX12_book_146 : decode cX12_book 146 = .ok (.iload_n 3, 1) := by decide +kernel
theorem dX12_book_147 : decode cX12_book 147 = .ok (.iadd, 1) := by decide +kernel
theorem dX12_book_148 : decode cX12_book 148 = .ok (.iaload, 1) := by decide +kernel
theorem dX12_book_149 : decode cX12_book 149 = .ok (.iastore, 1) := by decide +kernel
theorem dX12_book_150 : decode cX12_book 150 = .ok (.iinc 3 1, 3) := by decide +kernel
theorem dX12_book_153 : decode cX12_book 153 = .ok (.goto (-26), 3) := by decide +kernel
theorem dX12_book_156 : decode cX12_book 156 = .ok (.iconst 0, 1) := by decide +kernel
theorem dX12_book_157 : decode cX12_book 157 = .ok (.istore_n 3, 1) := by decide +kernel
theorem dX12_book_158 : decode cX12_book 158 = .ok (.iload_n 3, 1) := by decide +kernel
theorem dX12_book_159 : decode cX12_book 159 = .ok (.bipush 12, 2) := by decide +kernel
theorem dX12_book_161 : decode cX12_book 161 = .ok (.if_icmp .ge 24, 3) := by decide +kernel
theorem dX12_book_164 : decode cX12_book 164 = .ok (.aload_n 0, 1) := by decide +kernel
theorem dX12_book_165 : decode cX12_book 165 = .ok (.getfield 13, 3) := by decide +kernel
theorem dX12_book_168 : decode cX12_book 168 = .ok (.iload_n 3, 1) := by decide +kernel
theorem dX12_book_169 : decode cX12_book 169 = .ok (.aload_n 0, 1) := by decide +kernel
theorem dX12_book_170 : decode cX12_book 170 = .ok (.getfield 13, 3) := by decide +kernel
theorem dX12_book_173 : decode cX12_book 173 = .ok (.bipush 48, 2) := by decide +kernel
theorem dX12_book_175 : decode cX12_book 175 = .ok (.iload_n 3, 1) := by decide +kernel
theorem dX12_book_176 : decode cX12_book 176 = .ok (.iadd, 1) := by decide +kernel
theorem dX12_book_177 : decode cX12_book 177 = .ok (.laload, 1) := by decide +kernel
theorem dX12_book_178 : decode cX12_book 178 = .ok (.lastore, 1) := by decide +kernel
theorem dX12_book_179 : decode cX12_book 179 = .ok (.iinc 3 1, 3) := by decide +kernel
theorem dX12_book_182 : decode cX12_book 182 = .ok (.goto (-24), 3) := by decide +kernel
theorem dX12_book_185 : decode cX12_book 185 = .ok (.aload_n 0, 1) := by decide +kernel
theorem dX12_book_186 : decode cX12_book 186 = .ok (.aload_n 0, 1) := by decide +kernel
theorem dX12_book_187 : decode cX12_book 187 = .ok (.getfield 7, 3) := by decide +kernel
theorem dX12_book_190 : decode cX12_book 190 = .ok (.iconst 1, 1) := by decide +kernel
theorem dX12_book_191 : decode cX12_book 191 = .ok (.iaload, 1) := by decide +kernel
theorem dX12_book_192 : decode cX12_book 192 = .ok (.invokevirtual 248, 3) := by decide +kernel
theorem dX12_book_195 : decode cX12_book 195 = .ok (.ireturn, 1) := by decide +kernel
theorem mi_X12_book : MI yX12_book cX12_book 4 (some FieldType.int) 1 := ⟨w_1516, w_118, by decide +kernel, by decide +kernel, by decide +kernel⟩
set_option maxRecDepth 100000 in
set_option maxHeartbeats 4000000 in
theorem C_X12_book (G : GG) (l : Launch) (th : Nat) (p0 : Int32) (S : St) (Q : Int32 → (Nat → Nat → Int32) → (Nat → Nat → Int64) → Prop) (hp : P_X12_book th p0 S Q) : Ctr G l yX12_book cX12_book 4 (some FieldType.int) 9 197 0 0 [.ref th, .int p0] S (fun (v : Option Value) (S9 : St) => ∃ (r : Int32) (I9 : Nat → Nat → Int32) (J9 : Nat → Nat → Int64), v = some (.int r) ∧ S9 = wA S I9 J9 (gR S) ∧ Q r I9 J9) := by
  generalize hQQ : (fun (v : Option Value) (S9 : St) => ∃ (r : Int32) (I9 : Nat → Nat → Int32) (J9 : Nat → Nat → Int64), v = some (.int r) ∧ S9 = wA S I9 J9 (gR S) ∧ Q r I9 J9) = QQ
  unfold P_X12_book at hp
  refine Ctr.of (by decide) (Nat.le_of_ble_eq_true rfl) ?_
  intro p e s m args below meth c ls B hr hlk hin hl hH
  generalize hlocs0 : ([] : List Loc) = locs at hH ⊢
  have hx := B.1
  have hb := B.2.1
  have hl : lv_has ls 4 [(0, .ref th), (1, .int p0)] := hl
  obtain ⟨hk_th, hp⟩ := hp
  refine lv_aload_n (pc := 0) hx hb dX12_book_0 rfl (lv_at hl 0 rfl) ?_
  refine lv_iload_n (pc := 1) hx hb dX12_book_1 rfl (lv_at hl 1 rfl) ?_
  refine lv_sipush (pc := 2) (v := 900) hx hb dX12_book_2 (by decide) ?_
  refine sx_V (pc := 5) (As := [.int p0, .int 900]) (rest := []) B hH hl.1 (C_X12_begins G l th p0 900 _ _ hp) mi_X12_begins coX12 hk_th w_1519 w_48 w_1517 rfl rfl ⟨Nat.le_of_ble_eq_true rfl, Nat.le_of_ble_eq_true rfl⟩ (Nat.le_of_ble_eq_true rfl) ⟨Nat.le_of_ble_eq_true rfl, Nat.le_of_ble_eq_true rfl⟩ dX12_book_5 (fun v S1 H locs hq hH => ?_)
  obtain ⟨r_1, F_1, rfl, e9, hp⟩ := hq
  rw [e9] at hH
  have hH : Hp G (FA S s.heap.size) s.heap (wI S F_1) H locs := hH
  refine W.eq (g2 := F0 m 8 ls [.int r_1]) rfl ?_
  refine lv_if_ne (pc := 8) (tgt := 17) hx hb dX12_book_8 (by decide) (fun cc_2 => ?_) (fun cc_2 => ?_)
  · have hp := hp.1 cc_2
    refine lv_iconst (pc := 17) (v := 0) hx hb dX12_book_17 (by decide) ?_
    refine lv_istore_n (pc := 18) (lv' := [(2, .int 0), (0, .ref th), (1, .int p0)]) hx hb dX12_book_18 rfl hl (by decide) rfl (fun ls hl => ?_)
    obtain ⟨I_3, ⟨k0_3, h0_3⟩, hst_3⟩ := hp
    have kl_3 : ∀ (n_3 : Nat) (x2_4 : Int32) (F_5 : Nat → Nat → Int32) (H : Heap) (locs : List Loc) (ls : Array Slot), I_3 n_3 x2_4 F_5 → Hp G (FA S s.heap.size) s.heap (wI S F_5) H locs → lv_has ls 4 [(0, .ref th), (2, .int x2_4)] → Wm G p l e { frames := 9, cells := 0, slots := 0, locals := 197 } s m args below meth c S QQ 0 0 H locs 0 0 (F0 m 19 ls []) := by
      intro n_3
      induction n_3 using Nat.strongRecOn with
      | ind n_3 ih_3 =>
        intro x2_4 F_5 H locs ls hq9 hH hl
        have hp := hst_3 n_3 x2_4 F_5 hq9
        refine lv_iload_n (pc := 19) hx hb dX12_book_19 rfl (lv_at hl 1 rfl) ?_
        refine lv_sipush (pc := 20) (v := 2420) hx hb dX12_book_20 (by decide) ?_
        refine lv_icmp_ge (pc := 23) (tgt := 43) hx hb dX12_book_23 (by decide) (fun cc_6 => ?_) (fun cc_6 => ?_)
        · have hp := hp.1 cc_6
          refine lv_aload_n (pc := 43) hx hb dX12_book_43 rfl (lv_at hl 0 rfl) ?_
          refine sx_getR (pc := 44) (j := 0) B hH hk_th coX12 rfl w_1304 rfl dX12_book_44 ?_
          refine W.eq (g2 := F0 m 47 ls [va_rf (gR S th 0)]) rfl ?_
          obtain ⟨a_7, ha_7, hp⟩ := hp
          refine sx_nonnull (x := a_7) ha_7 ?_
          refine lv_sipush (pc := 47) (v := 9684) hx hb dX12_book_47 (by decide) ?_
          refine lv_iconst (pc := 50) (v := (-1)) hx hb dX12_book_50 (by decide) ?_
          obtain ⟨hk_8, hp⟩ := hp
          obtain ⟨hn_9, hp⟩ := hp
          obtain ⟨F_10, eF_10⟩ : ∃ z : Nat → Nat → Int32, z = upI F_5 a_7 9684 (-1) := ⟨_, rfl⟩
          have hp := hp F_10 eF_10
          refine sx_iast (pc := 51) B hH hk_8 hn_9 dX12_book_51 (fun H locs hH => ?_)
          have hH : Hp G (FA S s.heap.size) s.heap (wI S F_10) H locs := by rw [eF_10]; exact hH
          refine lv_aload_n (pc := 52) hx hb dX12_book_52 rfl (lv_at hl 0 rfl) ?_
          refine sx_getR (pc := 53) (j := 0) B hH hk_th coX12 rfl w_1304 rfl dX12_book_53 ?_
          refine W.eq (g2 := F0 m 56 ls [va_rf (gR S th 0)]) rfl ?_
          refine sx_nonnull (x := a_7) ha_7 ?_
          refine lv_sipush (pc := 56) (v := 9686) hx hb dX12_book_56 (by decide) ?_
          refine lv_iconst (pc := 59) (v := (-1)) hx hb dX12_book_59 (by decide) ?_
          obtain ⟨hn_11, hp⟩ := hp
          obtain ⟨F_12, eF_12⟩ : ∃ z : Nat → Nat → Int32, z = upI F_10 a_7 9686 (-1) := ⟨_, rfl⟩
          have hp := hp F_12 eF_12
          refine sx_iast (pc := 60) B hH hk_8 hn_11 dX12_book_60 (fun H locs hH => ?_)
          have hH : Hp G (FA S s.heap.size) s.heap (wI S F_12) H locs := by rw [eF_12]; exact hH
          refine lv_aload_n (pc := 61) hx hb dX12_book_61 rfl (lv_at hl 0 rfl) ?_
          refine sx_ldcS (pc := 62) 12 B (by decide) rfl rfl dX12_book_62 ?_
          refine lv_iconst (pc := 64) (v := 0) hx hb dX12_book_64 (by decide) ?_
          refine sx_V (pc := 65) (As := [.ref (G.2.2.1 12), .int 0]) (rest := []) B hH hl.1 (C_X12_wantWord G l th 12 0 _ _ hp) mi_X12_wantWord coX12 hk_th w_1544 w_52 w_1542 rfl rfl ⟨Nat.le_of_ble_eq_true rfl, Nat.le_of_ble_eq_true rfl⟩ (Nat.le_of_ble_eq_true rfl) ⟨Nat.le_of_ble_eq_true rfl, Nat.le_of_ble_eq_true rfl⟩ dX12_book_65 (fun v S1 H locs hq hH => ?_)
          obtain ⟨r_13, F_13, rfl, e9, hp⟩ := hq
          rw [e9] at hH
          have hH : Hp G (FA S s.heap.size) s.heap (wI S F_13) H locs := hH
          refine W.eq (g2 := F0 m 68 ls [.int r_13]) rfl ?_
          refine lv_if_eq (pc := 68) (tgt := 97) hx hb dX12_book_68 (by decide) (fun cc_14 => ?_) (fun cc_14 => ?_)
          · have hp := hp.1 cc_14
            refine lv_iconst (pc := 97) (v := 0) hx hb dX12_book_97 (by decide) ?_
            refine lv_istore_n (pc := 98) (lv' := [(2, .int 0), (0, .ref th)]) hx hb dX12_book_98 rfl hl (by decide) rfl (fun ls hl => ?_)
            obtain ⟨I_15, ⟨k0_15, h0_15⟩, hst_15⟩ := hp
            have kl_15 : ∀ (n_15 : Nat) (x2_16 : Int32) (F_17 : Nat → Nat → Int32) (J_18 : Nat → Nat → Int64) (H : Heap) (locs : List Loc) (ls : Array Slot), I_15 n_15 x2_16 F_17 J_18 → Hp G (FA S s.heap.size) s.heap (wA S F_17 J_18 (gR S)) H locs → lv_has ls 4 [(0, .ref th), (2, .int x2_16)] → Wm G p l e { frames := 9, cells := 0, slots := 0, locals := 197 } s m args below meth c S QQ 0 0 H locs 0 0 (F0 m 99 ls []) := by
              intro n_15
              induction n_15 using Nat.strongRecOn with
              | ind n_15 ih_15 =>
                intro x2_16 F_17 J_18 H locs ls hq9 hH hl
                have hp := hst_15 n_15 x2_16 F_17 J_18 hq9
                refine lv_iload_n (pc := 99) hx hb dX12_book_99 rfl (lv_at hl 1 rfl) ?_
                obtain ⟨J_20, hj_20, hp⟩ := hp
                have kj_20 : ∀  (H : Heap) (locs : List Loc) (ls : Array Slot), J_20  → Hp G (FA S s.heap.size) s.heap (wA S F_17 J_18 (gR S)) H locs → lv_has ls 4 [(0, .ref th)] → Wm G p l e { frames := 9, cells := 0, slots := 0, locals := 197 } s m args below meth c S QQ 0 0 H locs 0 0 (F0 m 118 ls []) := by
                  intro  H locs ls hq9 hH hl
                  have hp := hj_20  hq9
                  refine lv_aload_n (pc := 118) hx hb dX12_book_118 rfl (lv_at hl 0 rfl) ?_
                  refine sx_getI (pc := 119) (j := 18) B hH hk_th coX12 rfl w_1322 rfl dX12_book_119 ?_
                  refine W.eq (g2 := F0 m 122 ls [.int (F_17 th 18)]) rfl ?_
                  obtain ⟨J_22, hj_22, hp⟩ := hp
                  have kj_22 : ∀ (F_23 : Nat → Nat → Int32) (J_24 : Nat → Nat → Int64) (H : Heap) (locs : List Loc) (ls : Array Slot), J_22 F_23 J_24 → Hp G (FA S s.heap.size) s.heap (wA S F_23 J_24 (gR S)) H locs → lv_has ls 4 [(0, .ref th)] → Wm G p l e { frames := 9, cells := 0, slots := 0, locals := 197 } s m args below meth c S QQ 0 0 H locs 0 0 (F0 m 185 ls []) := by
                    intro F_23 J_24 H locs ls hq9 hH hl
                    have hp := hj_22 F_23 J_24 hq9
                    refine lv_aload_n (pc := 185) hx hb dX12_book_185 rfl (lv_at hl 0 rfl) ?_
                    refine lv_aload_n (pc := 186) hx hb dX12_book_186 rfl (lv_at hl 0 rfl) ?_
                    refine sx_getR (pc := 187) (j := 0) B hH hk_th coX12 rfl w_1304 rfl dX12_book_187 ?_
                    refine W.eq (g2 := F0 m 190 ls [va_rf (gR S th 0), .ref th]) rfl ?_
                    refine sx_nonnull (x := a_7) ha_7 ?_
                    refine lv_iconst (pc := 190) (v := 1) hx hb dX12_book_190 (by decide) ?_
                    obtain ⟨hn_25, hp⟩ := hp
                    refine sx_iald (pc := 191) B hH hk_8 hn_25 dX12_book_191 ?_
                    refine W.eq (g2 := F0 m 192 ls [.int (F_23 a_7 1), .ref th]) rfl ?_
                    refine sx_V (pc := 192) (As := [.int (F_23 a_7 1)]) (rest := []) B hH hl.1 (C_X12_taken G l th (F_23 a_7 1) _ _ hp) mi_X12_taken coX12 hk_th w_1613 w_68 w_1611 rfl rfl ⟨Nat.le_of_ble_eq_true rfl, Nat.le_of_ble_eq_true rfl⟩ (Nat.le_of_ble_eq_true rfl) ⟨Nat.le_of_ble_eq_true rfl, Nat.le_of_ble_eq_true rfl⟩ dX12_book_192 (fun v S1 H locs hq hH => ?_)
                    obtain ⟨r_26, F_26, rfl, e9, hp⟩ := hq
                    rw [e9] at hH
                    have hH : Hp G (FA S s.heap.size) s.heap (wA S F_26 J_24 (gR S)) H locs := hH
                    refine W.eq (g2 := F0 m 195 ls [.int r_26]) rfl ?_
                    exact sx_iret (pc := 195) B hH hr hlk (by rw [← hQQ]; exact ⟨_, F_26, J_24, rfl, rfl, hp⟩) (Nat.le_of_ble_eq_true rfl) (Nat.le_of_ble_eq_true rfl) dX12_book_195
                  refine lv_if_ne (pc := 122) (tgt := 185) hx hb dX12_book_122 (by decide) (fun cc_21 => ?_) (fun cc_21 => ?_)
                  · have hp := hp.1 cc_21
                    exact kj_22 _ _ _ _ _ hp hH (lv_sub hl [0] rfl)
                  · have hp := hp.2 cc_21
                    refine lv_iconst (pc := 125) (v := 0) hx hb dX12_book_125 (by decide) ?_
                    refine lv_istore_n (pc := 126) (lv' := [(3, .int 0), (0, .ref th)]) hx hb dX12_book_126 rfl hl (by decide) rfl (fun ls hl => ?_)
                    obtain ⟨I_27, ⟨k0_27, h0_27⟩, hst_27⟩ := hp
                    have kl_27 : ∀ (n_27 : Nat) (x3_28 : Int32) (F_29 : Nat → Nat → Int32) (H : Heap) (locs : List Loc) (ls : Array Slot), I_27 n_27 x3_28 F_29 → Hp G (FA S s.heap.size) s.heap (wA S F_29 J_18 (gR S)) H locs → lv_has ls 4 [(0, .ref th), (3, .int x3_28)] → Wm G p l e { frames := 9, cells := 0, slots := 0, locals := 197 } s m args below meth c S QQ 0 0 H locs 0 0 (F0 m 127 ls []) := by
                      intro n_27
                      induction n_27 using Nat.strongRecOn with
                      | ind n_27 ih_27 =>
                        intro x3_28 F_29 H locs ls hq9 hH hl
                        have hp := hst_27 n_27 x3_28 F_29 hq9
                        refine lv_iload_n (pc := 127) hx hb dX12_book_127 rfl (lv_at hl 1 rfl) ?_
                        refine lv_sipush (pc := 128) (v := 2420) hx hb dX12_book_128 (by decide) ?_
                        refine lv_icmp_ge (pc := 131) (tgt := 156) hx hb dX12_book_131 (by decide) (fun cc_30 => ?_) (fun cc_30 => ?_)
                        · have hp := hp.1 cc_30
                          refine lv_iconst (pc := 156) (v := 0) hx hb dX12_book_156 (by decide) ?_
                          refine lv_istore_n (pc := 157) (lv' := [(3, .int 0), (0, .ref th)]) hx hb dX12_book_157 rfl hl (by decide) rfl (fun ls hl => ?_)
                          obtain ⟨I_31, ⟨k0_31, h0_31⟩, hst_31⟩ := hp
                          have kl_31 : ∀ (n_31 : Nat) (x3_32 : Int32) (J_33 : Nat → Nat → Int64) (H : Heap) (locs : List Loc) (ls : Array Slot), I_31 n_31 x3_32 J_33 → Hp G (FA S s.heap.size) s.heap (wA S F_29 J_33 (gR S)) H locs → lv_has ls 4 [(0, .ref th), (3, .int x3_32)] → Wm G p l e { frames := 9, cells := 0, slots := 0, locals := 197 } s m args below meth c S QQ 0 0 H locs 0 0 (F0 m 158 ls []) := by
                            intro n_31
                            induction n_31 using Nat.strongRecOn with
                            | ind n_31 ih_31 =>
                              intro x3_32 J_33 H locs ls hq9 hH hl
                              have hp := hst_31 n_31 x3_32 J_33 hq9
                              refine lv_iload_n (pc := 158) hx hb dX12_book_158 rfl (lv_at hl 1 rfl) ?_
                              refine lv_bipush (pc := 159) (v := 12) hx hb dX12_book_159 (by decide) ?_
                              refine lv_icmp_ge (pc := 161) (tgt := 185) hx hb dX12_book_161 (by decide) (fun cc_34 => ?_) (fun cc_34 => ?_)
                              · have hp := hp.1 cc_34
                                exact kj_22 _ _ _ _ _ hp hH (lv_sub hl [0] rfl)
                              · have hp := hp.2 cc_34
                                refine lv_aload_n (pc := 164) hx hb dX12_book_164 rfl (lv_at hl 0 rfl) ?_
                                refine sx_getR (pc := 165) (j := 1) B hH hk_th coX12 rfl w_1305 rfl dX12_book_165 ?_
                                refine W.eq (g2 := F0 m 168 ls [va_rf (gR S th 1)]) rfl ?_
                                obtain ⟨a_35, ha_35, hp⟩ := hp
                                refine sx_nonnull (x := a_35) ha_35 ?_
                                refine lv_iload_n (pc := 168) hx hb dX12_book_168 rfl (lv_at hl 1 rfl) ?_
                                refine lv_aload_n (pc := 169) hx hb dX12_book_169 rfl (lv_at hl 0 rfl) ?_
                                refine sx_getR (pc := 170) (j := 1) B hH hk_th coX12 rfl w_1305 rfl dX12_book_170 ?_
                                refine W.eq (g2 := F0 m 173 ls [va_rf (gR S th 1), .int x3_32, .ref a_35]) rfl ?_
                                refine sx_nonnull (x := a_35) ha_35 ?_
                                refine lv_bipush (pc := 173) (v := 48) hx hb dX12_book_173 (by decide) ?_
                                refine lv_iload_n (pc := 175) hx hb dX12_book_175 rfl (lv_at hl 1 rfl) ?_
                                refine lv_iadd (pc := 176) hx hb dX12_book_176 ?_
                                obtain ⟨hk_36, hp⟩ := hp
                                obtain ⟨hn_37, hp⟩ := hp
                                refine sx_lald (pc := 177) B hH hk_36 hn_37 dX12_book_177 ?_
                                refine W.eq (g2 := F0 m 178 ls [.long (J_33 a_35 ((48 + x3_32).toNatClampNeg)), .int x3_32, .ref a_35]) rfl ?_
                                obtain ⟨hn_38, hp⟩ := hp
                                refine lv_topl (fun v_39 ev_39 => ?_)
                                have hp := hp v_39 ev_39
                                obtain ⟨J_40, eJ_40⟩ : ∃ z : Nat → Nat → Int64, z = upJ J_33 a_35 x3_32.toNatClampNeg v_39 := ⟨_, rfl⟩
                                have hp := hp J_40 eJ_40
                                refine sx_last (pc := 178) B hH hk_36 hn_38 dX12_book_178 (fun H locs hH => ?_)
                                have hH : Hp G (FA S s.heap.size) s.heap (wA S F_29 J_40 (gR S)) H locs := by rw [eJ_40]; exact hH
                                obtain ⟨v_41, ev_41⟩ : ∃ y : Int32, y = x3_32 + 1 := ⟨_, rfl⟩
                                have hp := hp v_41 ev_41
                                refine lv_iinc (pc := 179) (v := v_41) (lv' := [(3, .int v_41), (0, .ref th)]) hx hb dX12_book_179 hl (k := 1) rfl (by rw [ev_41]; rfl) (by decide) rfl (fun ls hl => ?_)
                                refine lv_goto (pc := 182) (tgt := 158) hx hb dX12_book_182 (by decide) ?_
                                obtain ⟨k9, hlt9, hp⟩ := hp
                                exact ih_31 k9 hlt9 _ _ _ _ _ hp hH (lv_sub hl [1, 0] rfl)
                          exact kl_31 k0_31 _ _ _ _ _ h0_31 hH (lv_sub hl [1, 0] rfl)
                        · have hp := hp.2 cc_30
                          refine lv_aload_n (pc := 134) hx hb dX12_book_134 rfl (lv_at hl 0 rfl) ?_
                          refine sx_getR (pc := 135) (j := 0) B hH hk_th coX12 rfl w_1304 rfl dX12_book_135 ?_
                          refine W.eq (g2 := F0 m 138 ls [va_rf (gR S th 0)]) rfl ?_
                          refine sx_nonnull (x := a_7) ha_7 ?_
                          refine lv_iload_n (pc := 138) hx hb dX12_book_138 rfl (lv_at hl 1 rfl) ?_
                          refine lv_aload_n (pc := 139) hx hb dX12_book_139 rfl (lv_at hl 0 rfl) ?_
                          refine sx_getR (pc := 140) (j := 0) B hH hk_th coX12 rfl w_1304 rfl dX12_book_140 ?_
                          refine W.eq (g2 := F0 m 143 ls [va_rf (gR S th 0), .int x3_28, .ref a_7]) rfl ?_
                          refine sx_nonnull (x := a_7) ha_7 ?_
                          refine lv_sipush (pc := 143) (v := 9680) hx hb dX12_book_143 (by decide) ?_
                          refine lv_iload_n (pc := 146) hx hb dX12_book_146 rfl (lv_at hl 1 rfl) ?_
                          refine lv_iadd (pc := 147) hx hb dX12_book_147 ?_
                          obtain ⟨hn_42, hp⟩ := hp
                          refine sx_iald (pc := 148) B hH hk_8 hn_42 dX12_book_148 ?_
                          refine W.eq (g2 := F0 m 149 ls [.int (F_29 a_7 ((9680 + x3_28).toNatClampNeg)), .int x3_28, .ref a_7]) rfl ?_
                          obtain ⟨hn_43, hp⟩ := hp
                          refine lv_topi (fun v_44 ev_44 => ?_)
                          have hp := hp v_44 ev_44
                          obtain ⟨F_45, eF_45⟩ : ∃ z : Nat → Nat → Int32, z = upI F_29 a_7 x3_28.toNatClampNeg v_44 := ⟨_, rfl⟩
                          have hp := hp F_45 eF_45
                          refine sx_iast (pc := 149) B hH hk_8 hn_43 dX12_book_149 (fun H locs hH => ?_)
                          have hH : Hp G (FA S s.heap.size) s.heap (wA S F_45 J_18 (gR S)) H locs := by rw [eF_45]; exact hH
                          obtain ⟨v_46, ev_46⟩ : ∃ y : Int32, y = x3_28 + 1 := ⟨_, rfl⟩
                          have hp := hp v_46 ev_46
                          refine lv_iinc (pc := 150) (v := v_46) (lv' := [(3, .int v_46), (0, .ref th)]) hx hb dX12_book_150 hl (k := 1) rfl (by rw [ev_46]; rfl) (by decide) rfl (fun ls hl => ?_)
                          refine lv_goto (pc := 153) (tgt := 127) hx hb dX12_book_153 (by decide) ?_
                          obtain ⟨k9, hlt9, hp⟩ := hp
                          exact ih_27 k9 hlt9 _ _ _ _ _ hp hH (lv_sub hl [1, 0] rfl)
                    exact kl_27 k0_27 _ _ _ _ _ h0_27 hH (lv_sub hl [1, 0] rfl)
                refine lv_if_eq (pc := 100) (tgt := 118) hx hb dX12_book_100 (by decide) (fun cc_19 => ?_) (fun cc_19 => ?_)
                · have hp := hp.1 cc_19
                  exact kj_20  _ _ _ hp hH (lv_sub hl [0] rfl)
                · have hp := hp.2 cc_19
                  refine lv_aload_n (pc := 103) hx hb dX12_book_103 rfl (lv_at hl 0 rfl) ?_
                  refine sx_getI (pc := 104) (j := 12) B hH hk_th coX12 rfl w_1316 rfl dX12_book_104 ?_
                  refine W.eq (g2 := F0 m 107 ls [.int (F_17 th 12)]) rfl ?_
                  refine lv_if_eq (pc := 107) (tgt := 118) hx hb dX12_book_107 (by decide) (fun cc_47 => ?_) (fun cc_47 => ?_)
                  · have hp := hp.1 cc_47
                    exact kj_20  _ _ _ hp hH (lv_sub hl [0] rfl)
                  · have hp := hp.2 cc_47
                    refine lv_aload_n (pc := 110) hx hb dX12_book_110 rfl (lv_at hl 0 rfl) ?_
                    refine sx_V (pc := 111) (As := []) (rest := []) B hH hl.1 (C_X12_bookPart G l th _ _ hp) mi_X12_bookPart coX12 hk_th w_1570 w_58 w_1568 rfl rfl ⟨Nat.le_of_ble_eq_true rfl, Nat.le_of_ble_eq_true rfl⟩ (Nat.le_of_ble_eq_true rfl) ⟨Nat.le_of_ble_eq_true rfl, Nat.le_of_ble_eq_true rfl⟩ dX12_book_111 (fun v S1 H locs hq hH => ?_)
                    obtain ⟨r_48, F_48, J_48, rfl, e9, hp⟩ := hq
                    rw [e9] at hH
                    have hH : Hp G (FA S s.heap.size) s.heap (wA S F_48 J_48 (gR S)) H locs := hH
                    refine W.eq (g2 := F0 m 114 ls [.int r_48]) rfl ?_
                    refine lv_istore_n (pc := 114) (lv' := [(2, .int r_48), (0, .ref th)]) hx hb dX12_book_114 rfl hl (by decide) rfl (fun ls hl => ?_)
                    refine lv_goto (pc := 115) (tgt := 99) hx hb dX12_book_115 (by decide) ?_
                    obtain ⟨k9, hlt9, hp⟩ := hp
                    exact ih_15 k9 hlt9 _ _ _ _ _ _ hp hH (lv_sub hl [1, 0] rfl)
            exact kl_15 k0_15 _ _ _ _ _ _ h0_15 hH (lv_sub hl [1, 0] rfl)
          · have hp := hp.2 cc_14
            refine lv_aload_n (pc := 71) hx hb dX12_book_71 rfl (lv_at hl 0 rfl) ?_
            refine lv_sipush (pc := 72) (v := 9680) hx hb dX12_book_72 (by decide) ?_
            refine lv_iconst (pc := 75) (v := 4) hx hb dX12_book_75 (by decide) ?_
            refine lv_bipush (pc := 76) (v := 8) hx hb dX12_book_76 (by decide) ?_
            refine sx_V (pc := 78) (As := [.int 9680, .int 4, .int 8]) (rest := []) B hH hl.1 (C_X12_numberTo G l th 9680 4 8 _ _ hp) mi_X12_numberTo coX12 hk_th w_1558 w_55 w_1556 rfl rfl ⟨Nat.le_of_ble_eq_true rfl, Nat.le_of_ble_eq_true rfl⟩ (Nat.le_of_ble_eq_true rfl) ⟨Nat.le_of_ble_eq_true rfl, Nat.le_of_ble_eq_true rfl⟩ dX12_book_78 (fun v S1 H locs hq hH => ?_)
            obtain ⟨r_49, F_49, rfl, e9, hp⟩ := hq
            rw [e9] at hH
            have hH : Hp G (FA S s.heap.size) s.heap (wI S F_49) H locs := hH
            refine W.eq (g2 := F0 m 81 ls [.int r_49]) rfl ?_
            refine lv_if_eq (pc := 81) (tgt := 97) hx hb dX12_book_81 (by decide) (fun cc_50 => ?_) (fun cc_50 => ?_)
            · have hp := hp.1 cc_50
              refine lv_iconst (pc := 97) (v := 0) hx hb dX12_book_97 (by decide) ?_
              refine lv_istore_n (pc := 98) (lv' := [(2, .int 0), (0, .ref th)]) hx hb dX12_book_98 rfl hl (by decide) rfl (fun ls hl => ?_)
              obtain ⟨I_51, ⟨k0_51, h0_51⟩, hst_51⟩ := hp
              have kl_51 : ∀ (n_51 : Nat) (x2_52 : Int32) (F_53 : Nat → Nat → Int32) (J_54 : Nat → Nat → Int64) (H : Heap) (locs : List Loc) (ls : Array Slot), I_51 n_51 x2_52 F_53 J_54 → Hp G (FA S s.heap.size) s.heap (wA S F_53 J_54 (gR S)) H locs → lv_has ls 4 [(0, .ref th), (2, .int x2_52)] → Wm G p l e { frames := 9, cells := 0, slots := 0, locals := 197 } s m args below meth c S QQ 0 0 H locs 0 0 (F0 m 99 ls []) := by
                intro n_51
                induction n_51 using Nat.strongRecOn with
                | ind n_51 ih_51 =>
                  intro x2_52 F_53 J_54 H locs ls hq9 hH hl
                  have hp := hst_51 n_51 x2_52 F_53 J_54 hq9
                  refine lv_iload_n (pc := 99) hx hb dX12_book_99 rfl (lv_at hl 1 rfl) ?_
                  obtain ⟨J_56, hj_56, hp⟩ := hp
                  have kj_56 : ∀  (H : Heap) (locs : List Loc) (ls : Array Slot), J_56  → Hp G (FA S s.heap.size) s.heap (wA S F_53 J_54 (gR S)) H locs → lv_has ls 4 [(0, .ref th)] → Wm G p l e { frames := 9, cells := 0, slots := 0, locals := 197 } s m args below meth c S QQ 0 0 H locs 0 0 (F0 m 118 ls []) := by
                    intro  H locs ls hq9 hH hl
                    have hp := hj_56  hq9
                    refine lv_aload_n (pc := 118) hx hb dX12_book_118 rfl (lv_at hl 0 rfl) ?_
                    refine sx_getI (pc := 119) (j := 18) B hH hk_th coX12 rfl w_1322 rfl dX12_book_119 ?_
                    refine W.eq (g2 := F0 m 122 ls [.int (F_53 th 18)]) rfl ?_
                    obtain ⟨J_58, hj_58, hp⟩ := hp
                    have kj_58 : ∀ (F_59 : Nat → Nat → Int32) (J_60 : Nat → Nat → Int64) (H : Heap) (locs : List Loc) (ls : Array Slot), J_58 F_59 J_60 → Hp G (FA S s.heap.size) s.heap (wA S F_59 J_60 (gR S)) H locs → lv_has ls 4 [(0, .ref th)] → Wm G p l e { frames := 9, cells := 0, slots := 0, locals := 197 } s m args below meth c S QQ 0 0 H locs 0 0 (F0 m 185 ls []) := by
                      intro F_59 J_60 H locs ls hq9 hH hl
                      have hp := hj_58 F_59 J_60 hq9
                      refine lv_aload_n (pc := 185) hx hb dX12_book_185 rfl (lv_at hl 0 rfl) ?_
                      refine lv_aload_n (pc := 186) hx hb dX12_book_186 rfl (lv_at hl 0 rfl) ?_
                      refine sx_getR (pc := 187) (j := 0) B hH hk_th coX12 rfl w_1304 rfl dX12_book_187 ?_
                      refine W.eq (g2 := F0 m 190 ls [va_rf (gR S th 0), .ref th]) rfl ?_
                      refine sx_nonnull (x := a_7) ha_7 ?_
                      refine lv_iconst (pc := 190) (v := 1) hx hb dX12_book_190 (by decide) ?_
                      obtain ⟨hn_61, hp⟩ := hp
                      refine sx_iald (pc := 191) B hH hk_8 hn_61 dX12_book_191 ?_
                      refine W.eq (g2 := F0 m 192 ls [.int (F_59 a_7 1), .ref th]) rfl ?_
                      refine sx_V (pc := 192) (As := [.int (F_59 a_7 1)]) (rest := []) B hH hl.1 (C_X12_taken G l th (F_59 a_7 1) _ _ hp) mi_X12_taken coX12 hk_th w_1613 w_68 w_1611 rfl rfl ⟨Nat.le_of_ble_eq_true rfl, Nat.le_of_ble_eq_true rfl⟩ (Nat.le_of_ble_eq_true rfl) ⟨Nat.le_of_ble_eq_true rfl, Nat.le_of_ble_eq_true rfl⟩ dX12_book_192 (fun v S1 H locs hq hH => ?_)
                      obtain ⟨r_62, F_62, rfl, e9, hp⟩ := hq
                      rw [e9] at hH
                      have hH : Hp G (FA S s.heap.size) s.heap (wA S F_62 J_60 (gR S)) H locs := hH
                      refine W.eq (g2 := F0 m 195 ls [.int r_62]) rfl ?_
                      exact sx_iret (pc := 195) B hH hr hlk (by rw [← hQQ]; exact ⟨_, F_62, J_60, rfl, rfl, hp⟩) (Nat.le_of_ble_eq_true rfl) (Nat.le_of_ble_eq_true rfl) dX12_book_195
                    refine lv_if_ne (pc := 122) (tgt := 185) hx hb dX12_book_122 (by decide) (fun cc_57 => ?_) (fun cc_57 => ?_)
                    · have hp := hp.1 cc_57
                      exact kj_58 _ _ _ _ _ hp hH (lv_sub hl [0] rfl)
                    · have hp := hp.2 cc_57
                      refine lv_iconst (pc := 125) (v := 0) hx hb dX12_book_125 (by decide) ?_
                      refine lv_istore_n (pc := 126) (lv' := [(3, .int 0), (0, .ref th)]) hx hb dX12_book_126 rfl hl (by decide) rfl (fun ls hl => ?_)
                      obtain ⟨I_63, ⟨k0_63, h0_63⟩, hst_63⟩ := hp
                      have kl_63 : ∀ (n_63 : Nat) (x3_64 : Int32) (F_65 : Nat → Nat → Int32) (H : Heap) (locs : List Loc) (ls : Array Slot), I_63 n_63 x3_64 F_65 → Hp G (FA S s.heap.size) s.heap (wA S F_65 J_54 (gR S)) H locs → lv_has ls 4 [(0, .ref th), (3, .int x3_64)] → Wm G p l e { frames := 9, cells := 0, slots := 0, locals := 197 } s m args below meth c S QQ 0 0 H locs 0 0 (F0 m 127 ls []) := by
                        intro n_63
                        induction n_63 using Nat.strongRecOn with
                        | ind n_63 ih_63 =>
                          intro x3_64 F_65 H locs ls hq9 hH hl
                          have hp := hst_63 n_63 x3_64 F_65 hq9
                          refine lv_iload_n (pc := 127) hx hb dX12_book_127 rfl (lv_at hl 1 rfl) ?_
                          refine lv_sipush (pc := 128) (v := 2420) hx hb dX12_book_128 (by decide) ?_
                          refine lv_icmp_ge (pc := 131) (tgt := 156) hx hb dX12_book_131 (by decide) (fun cc_66 => ?_) (fun cc_66 => ?_)
                          · have hp := hp.1 cc_66
                            refine lv_iconst (pc := 156) (v := 0) hx hb dX12_book_156 (by decide) ?_
                            refine lv_istore_n (pc := 157) (lv' := [(3, .int 0), (0, .ref th)]) hx hb dX12_book_157 rfl hl (by decide) rfl (fun ls hl => ?_)
                            obtain ⟨I_67, ⟨k0_67, h0_67⟩, hst_67⟩ := hp
                            have kl_67 : ∀ (n_67 : Nat) (x3_68 : Int32) (J_69 : Nat → Nat → Int64) (H : Heap) (locs : List Loc) (ls : Array Slot), I_67 n_67 x3_68 J_69 → Hp G (FA S s.heap.size) s.heap (wA S F_65 J_69 (gR S)) H locs → lv_has ls 4 [(0, .ref th), (3, .int x3_68)] → Wm G p l e { frames := 9, cells := 0, slots := 0, locals := 197 } s m args below meth c S QQ 0 0 H locs 0 0 (F0 m 158 ls []) := by
                              intro n_67
                              induction n_67 using Nat.strongRecOn with
                              | ind n_67 ih_67 =>
                                intro x3_68 J_69 H locs ls hq9 hH hl
                                have hp := hst_67 n_67 x3_68 J_69 hq9
                                refine lv_iload_n (pc := 158) hx hb dX12_book_158 rfl (lv_at hl 1 rfl) ?_
                                refine lv_bipush (pc := 159) (v := 12) hx hb dX12_book_159 (by decide) ?_
                                refine lv_icmp_ge (pc := 161) (tgt := 185) hx hb dX12_book_161 (by decide) (fun cc_70 => ?_) (fun cc_70 => ?_)
                                · have hp := hp.1 cc_70
                                  exact kj_58 _ _ _ _ _ hp hH (lv_sub hl [0] rfl)
                                · have hp := hp.2 cc_70
                                  refine lv_aload_n (pc := 164) hx hb dX12_book_164 rfl (lv_at hl 0 rfl) ?_
                                  refine sx_getR (pc := 165) (j := 1) B hH hk_th coX12 rfl w_1305 rfl dX12_book_165 ?_
                                  refine W.eq (g2 := F0 m 168 ls [va_rf (gR S th 1)]) rfl ?_
                                  obtain ⟨a_71, ha_71, hp⟩ := hp
                                  refine sx_nonnull (x := a_71) ha_71 ?_
                                  refine lv_iload_n (pc := 168) hx hb dX12_book_168 rfl (lv_at hl 1 rfl) ?_
                                  refine lv_aload_n (pc := 169) hx hb dX12_book_169 rfl (lv_at hl 0 rfl) ?_
                                  refine sx_getR (pc := 170) (j := 1) B hH hk_th coX12 rfl w_1305 rfl dX12_book_170 ?_
                                  refine W.eq (g2 := F0 m 173 ls [va_rf (gR S th 1), .int x3_68, .ref a_71]) rfl ?_
                                  refine sx_nonnull (x := a_71) ha_71 ?_
                                  refine lv_bipush (pc := 173) (v := 48) hx hb dX12_book_173 (by decide) ?_
                                  refine lv_iload_n (pc := 175) hx hb dX12_book_175 rfl (lv_at hl 1 rfl) ?_
                                  refine lv_iadd (pc := 176) hx hb dX12_book_176 ?_
                                  obtain ⟨hk_72, hp⟩ := hp
                                  obtain ⟨hn_73, hp⟩ := hp
                                  refine sx_lald (pc := 177) B hH hk_72 hn_73 dX12_book_177 ?_
                                  refine W.eq (g2 := F0 m 178 ls [.long (J_69 a_71 ((48 + x3_68).toNatClampNeg)), .int x3_68, .ref a_71]) rfl ?_
                                  obtain ⟨hn_74, hp⟩ := hp
                                  refine lv_topl (fun v_75 ev_75 => ?_)
                                  have hp := hp v_75 ev_75
                                  obtain ⟨J_76, eJ_76⟩ : ∃ z : Nat → Nat → Int64, z = upJ J_69 a_71 x3_68.toNatClampNeg v_75 := ⟨_, rfl⟩
                                  have hp := hp J_76 eJ_76
                                  refine sx_last (pc := 178) B hH hk_72 hn_74 dX12_book_178 (fun H locs hH => ?_)
                                  have hH : Hp G (FA S s.heap.size) s.heap (wA S F_65 J_76 (gR S)) H locs := by rw [eJ_76]; exact hH
                                  obtain ⟨v_77, ev_77⟩ : ∃ y : Int32, y = x3_68 + 1 := ⟨_, rfl⟩
                                  have hp := hp v_77 ev_77
                                  refine lv_iinc (pc := 179) (v := v_77) (lv' := [(3, .int v_77), (0, .ref th)]) hx hb dX12_book_179 hl (k := 1) rfl (by rw [ev_77]; rfl) (by decide) rfl (fun ls hl => ?_)
                                  refine lv_goto (pc := 182) (tgt := 158) hx hb dX12_book_182 (by decide) ?_
                                  obtain ⟨k9, hlt9, hp⟩ := hp
                                  exact ih_67 k9 hlt9 _ _ _ _ _ hp hH (lv_sub hl [1, 0] rfl)
                            exact kl_67 k0_67 _ _ _ _ _ h0_67 hH (lv_sub hl [1, 0] rfl)
                          · have hp := hp.2 cc_66
                            refine lv_aload_n (pc := 134) hx hb dX12_book_134 rfl (lv_at hl 0 rfl) ?_
                            refine sx_getR (pc := 135) (j := 0) B hH hk_th coX12 rfl w_1304 rfl dX12_book_135 ?_
                            refine W.eq (g2 := F0 m 138 ls [va_rf (gR S th 0)]) rfl ?_
                            refine sx_nonnull (x := a_7) ha_7 ?_
                            refine lv_iload_n (pc := 138) hx hb dX12_book_138 rfl (lv_at hl 1 rfl) ?_
                            refine lv_aload_n (pc := 139) hx hb dX12_book_139 rfl (lv_at hl 0 rfl) ?_
                            refine sx_getR (pc := 140) (j := 0) B hH hk_th coX12 rfl w_1304 rfl dX12_book_140 ?_
                            refine W.eq (g2 := F0 m 143 ls [va_rf (gR S th 0), .int x3_64, .ref a_7]) rfl ?_
                            refine sx_nonnull (x := a_7) ha_7 ?_
                            refine lv_sipush (pc := 143) (v := 9680) hx hb dX12_book_143 (by decide) ?_
                            refine lv_iload_n (pc := 146) hx hb dX12_book_146 rfl (lv_at hl 1 rfl) ?_
                            refine lv_iadd (pc := 147) hx hb dX12_book_147 ?_
                            obtain ⟨hn_78, hp⟩ := hp
                            refine sx_iald (pc := 148) B hH hk_8 hn_78 dX12_book_148 ?_
                            refine W.eq (g2 := F0 m 149 ls [.int (F_65 a_7 ((9680 + x3_64).toNatClampNeg)), .int x3_64, .ref a_7]) rfl ?_
                            obtain ⟨hn_79, hp⟩ := hp
                            refine lv_topi (fun v_80 ev_80 => ?_)
                            have hp := hp v_80 ev_80
                            obtain ⟨F_81, eF_81⟩ : ∃ z : Nat → Nat → Int32, z = upI F_65 a_7 x3_64.toNatClampNeg v_80 := ⟨_, rfl⟩
                            have hp := hp F_81 eF_81
                            refine sx_iast (pc := 149) B hH hk_8 hn_79 dX12_book_149 (fun H locs hH => ?_)
                            have hH : Hp G (FA S s.heap.size) s.heap (wA S F_81 J_54 (gR S)) H locs := by rw [eF_81]; exact hH
                            obtain ⟨v_82, ev_82⟩ : ∃ y : Int32, y = x3_64 + 1 := ⟨_, rfl⟩
                            have hp := hp v_82 ev_82
                            refine lv_iinc (pc := 150) (v := v_82) (lv' := [(3, .int v_82), (0, .ref th)]) hx hb dX12_book_150 hl (k := 1) rfl (by rw [ev_82]; rfl) (by decide) rfl (fun ls hl => ?_)
                            refine lv_goto (pc := 153) (tgt := 127) hx hb dX12_book_153 (by decide) ?_
                            obtain ⟨k9, hlt9, hp⟩ := hp
                            exact ih_63 k9 hlt9 _ _ _ _ _ hp hH (lv_sub hl [1, 0] rfl)
                      exact kl_63 k0_63 _ _ _ _ _ h0_63 hH (lv_sub hl [1, 0] rfl)
                  refine lv_if_eq (pc := 100) (tgt := 118) hx hb dX12_book_100 (by decide) (fun cc_55 => ?_) (fun cc_55 => ?_)
                  · have hp := hp.1 cc_55
                    exact kj_56  _ _ _ hp hH (lv_sub hl [0] rfl)
                  · have hp := hp.2 cc_55
                    refine lv_aload_n (pc := 103) hx hb dX12_book_103 rfl (lv_at hl 0 rfl) ?_
                    refine sx_getI (pc := 104) (j := 12) B hH hk_th coX12 rfl w_1316 rfl dX12_book_104 ?_
                    refine W.eq (g2 := F0 m 107 ls [.int (F_53 th 12)]) rfl ?_
                    refine lv_if_eq (pc := 107) (tgt := 118) hx hb dX12_book_107 (by decide) (fun cc_83 => ?_) (fun cc_83 => ?_)
                    · have hp := hp.1 cc_83
                      exact kj_56  _ _ _ hp hH (lv_sub hl [0] rfl)
                    · have hp := hp.2 cc_83
                      refine lv_aload_n (pc := 110) hx hb dX12_book_110 rfl (lv_at hl 0 rfl) ?_
                      refine sx_V (pc := 111) (As := []) (rest := []) B hH hl.1 (C_X12_bookPart G l th _ _ hp) mi_X12_bookPart coX12 hk_th w_1570 w_58 w_1568 rfl rfl ⟨Nat.le_of_ble_eq_true rfl, Nat.le_of_ble_eq_true rfl⟩ (Nat.le_of_ble_eq_true rfl) ⟨Nat.le_of_ble_eq_true rfl, Nat.le_of_ble_eq_true rfl⟩ dX12_book_111 (fun v S1 H locs hq hH => ?_)
                      obtain ⟨r_84, F_84, J_84, rfl, e9, hp⟩ := hq
                      rw [e9] at hH
                      have hH : Hp G (FA S s.heap.size) s.heap (wA S F_84 J_84 (gR S)) H locs := hH
                      refine W.eq (g2 := F0 m 114 ls [.int r_84]) rfl ?_
                      refine lv_istore_n (pc := 114) (lv' := [(2, .int r_84), (0, .ref th)]) hx hb dX12_book_114 rfl hl (by decide) rfl (fun ls hl => ?_)
                      refine lv_goto (pc := 115) (tgt := 99) hx hb dX12_book_115 (by decide) ?_
                      obtain ⟨k9, hlt9, hp⟩ := hp
                      exact ih_51 k9 hlt9 _ _ _ _ _ _ hp hH (lv_sub hl [1, 0] rfl)
              exact kl_51 k0_51 _ _ _ _ _ _ h0_51 hH (lv_sub hl [1, 0] rfl)
            · have hp := hp.2 cc_50
              refine lv_aload_n (pc := 84) hx hb dX12_book_84 rfl (lv_at hl 0 rfl) ?_
              refine lv_bipush (pc := 85) (v := 59) hx hb dX12_book_85 (by decide) ?_
              refine sx_V (pc := 87) (As := [.int 59]) (rest := []) B hH hl.1 (C_X12_wantSign G l th 59 _ _ hp) mi_X12_wantSign coX12 hk_th w_1562 w_56 w_1560 rfl rfl ⟨Nat.le_of_ble_eq_true rfl, Nat.le_of_ble_eq_true rfl⟩ (Nat.le_of_ble_eq_true rfl) ⟨Nat.le_of_ble_eq_true rfl, Nat.le_of_ble_eq_true rfl⟩ dX12_book_87 (fun v S1 H locs hq hH => ?_)
              obtain ⟨r_85, F_85, rfl, e9, hp⟩ := hq
              rw [e9] at hH
              have hH : Hp G (FA S s.heap.size) s.heap (wI S F_85) H locs := hH
              refine W.eq (g2 := F0 m 90 ls [.int r_85]) rfl ?_
              refine lv_if_eq (pc := 90) (tgt := 97) hx hb dX12_book_90 (by decide) (fun cc_86 => ?_) (fun cc_86 => ?_)
              · have hp := hp.1 cc_86
                refine lv_iconst (pc := 97) (v := 0) hx hb dX12_book_97 (by decide) ?_
                refine lv_istore_n (pc := 98) (lv' := [(2, .int 0), (0, .ref th)]) hx hb dX12_book_98 rfl hl (by decide) rfl (fun ls hl => ?_)
                obtain ⟨I_87, ⟨k0_87, h0_87⟩, hst_87⟩ := hp
                have kl_87 : ∀ (n_87 : Nat) (x2_88 : Int32) (F_89 : Nat → Nat → Int32) (J_90 : Nat → Nat → Int64) (H : Heap) (locs : List Loc) (ls : Array Slot), I_87 n_87 x2_88 F_89 J_90 → Hp G (FA S s.heap.size) s.heap (wA S F_89 J_90 (gR S)) H locs → lv_has ls 4 [(0, .ref th), (2, .int x2_88)] → Wm G p l e { frames := 9, cells := 0, slots := 0, locals := 197 } s m args below meth c S QQ 0 0 H locs 0 0 (F0 m 99 ls []) := by
                  intro n_87
                  induction n_87 using Nat.strongRecOn with
                  | ind n_87 ih_87 =>
                    intro x2_88 F_89 J_90 H locs ls hq9 hH hl
                    have hp := hst_87 n_87 x2_88 F_89 J_90 hq9
                    refine lv_iload_n (pc := 99) hx hb dX12_book_99 rfl (lv_at hl 1 rfl) ?_
                    obtain ⟨J_92, hj_92, hp⟩ := hp
                    have kj_92 : ∀  (H : Heap) (locs : List Loc) (ls : Array Slot), J_92  → Hp G (FA S s.heap.size) s.heap (wA S F_89 J_90 (gR S)) H locs → lv_has ls 4 [(0, .ref th)] → Wm G p l e { frames := 9, cells := 0, slots := 0, locals := 197 } s m args below meth c S QQ 0 0 H locs 0 0 (F0 m 118 ls []) := by
                      intro  H locs ls hq9 hH hl
                      have hp := hj_92  hq9
                      refine lv_aload_n (pc := 118) hx hb dX12_book_118 rfl (lv_at hl 0 rfl) ?_
                      refine sx_getI (pc := 119) (j := 18) B hH hk_th coX12 rfl w_1322 rfl dX12_book_119 ?_
                      refine W.eq (g2 := F0 m 122 ls [.int (F_89 th 18)]) rfl ?_
                      obtain ⟨J_94, hj_94, hp⟩ := hp
                      have kj_94 : ∀ (F_95 : Nat → Nat → Int32) (J_96 : Nat → Nat → Int64) (H : Heap) (locs : List Loc) (ls : Array Slot), J_94 F_95 J_96 → Hp G (FA S s.heap.size) s.heap (wA S F_95 J_96 (gR S)) H locs → lv_has ls 4 [(0, .ref th)] → Wm G p l e { frames := 9, cells := 0, slots := 0, locals := 197 } s m args below meth c S QQ 0 0 H locs 0 0 (F0 m 185 ls []) := by
                        intro F_95 J_96 H locs ls hq9 hH hl
                        have hp := hj_94 F_95 J_96 hq9
                        refine lv_aload_n (pc := 185) hx hb dX12_book_185 rfl (lv_at hl 0 rfl) ?_
                        refine lv_aload_n (pc := 186) hx hb dX12_book_186 rfl (lv_at hl 0 rfl) ?_
                        refine sx_getR (pc := 187) (j := 0) B hH hk_th coX12 rfl w_1304 rfl dX12_book_187 ?_
                        refine W.eq (g2 := F0 m 190 ls [va_rf (gR S th 0), .ref th]) rfl ?_
                        refine sx_nonnull (x := a_7) ha_7 ?_
                        refine lv_iconst (pc := 190) (v := 1) hx hb dX12_book_190 (by decide) ?_
                        obtain ⟨hn_97, hp⟩ := hp
                        refine sx_iald (pc := 191) B hH hk_8 hn_97 dX12_book_191 ?_
                        refine W.eq (g2 := F0 m 192 ls [.int (F_95 a_7 1), .ref th]) rfl ?_
                        refine sx_V (pc := 192) (As := [.int (F_95 a_7 1)]) (rest := []) B hH hl.1 (C_X12_taken G l th (F_95 a_7 1) _ _ hp) mi_X12_taken coX12 hk_th w_1613 w_68 w_1611 rfl rfl ⟨Nat.le_of_ble_eq_true rfl, Nat.le_of_ble_eq_true rfl⟩ (Nat.le_of_ble_eq_true rfl) ⟨Nat.le_of_ble_eq_true rfl, Nat.le_of_ble_eq_true rfl⟩ dX12_book_192 (fun v S1 H locs hq hH => ?_)
                        obtain ⟨r_98, F_98, rfl, e9, hp⟩ := hq
                        rw [e9] at hH
                        have hH : Hp G (FA S s.heap.size) s.heap (wA S F_98 J_96 (gR S)) H locs := hH
                        refine W.eq (g2 := F0 m 195 ls [.int r_98]) rfl ?_
                        exact sx_iret (pc := 195) B hH hr hlk (by rw [← hQQ]; exact ⟨_, F_98, J_96, rfl, rfl, hp⟩) (Nat.le_of_ble_eq_true rfl) (Nat.le_of_ble_eq_true rfl) dX12_book_195
                      refine lv_if_ne (pc := 122) (tgt := 185) hx hb dX12_book_122 (by decide) (fun cc_93 => ?_) (fun cc_93 => ?_)
                      · have hp := hp.1 cc_93
                        exact kj_94 _ _ _ _ _ hp hH (lv_sub hl [0] rfl)
                      · have hp := hp.2 cc_93
                        refine lv_iconst (pc := 125) (v := 0) hx hb dX12_book_125 (by decide) ?_
                        refine lv_istore_n (pc := 126) (lv' := [(3, .int 0), (0, .ref th)]) hx hb dX12_book_126 rfl hl (by decide) rfl (fun ls hl => ?_)
                        obtain ⟨I_99, ⟨k0_99, h0_99⟩, hst_99⟩ := hp
                        have kl_99 : ∀ (n_99 : Nat) (x3_100 : Int32) (F_101 : Nat → Nat → Int32) (H : Heap) (locs : List Loc) (ls : Array Slot), I_99 n_99 x3_100 F_101 → Hp G (FA S s.heap.size) s.heap (wA S F_101 J_90 (gR S)) H locs → lv_has ls 4 [(0, .ref th), (3, .int x3_100)] → Wm G p l e { frames := 9, cells := 0, slots := 0, locals := 197 } s m args below meth c S QQ 0 0 H locs 0 0 (F0 m 127 ls []) := by
                          intro n_99
                          induction n_99 using Nat.strongRecOn with
                          | ind n_99 ih_99 =>
                            intro x3_100 F_101 H locs ls hq9 hH hl
                            have hp := hst_99 n_99 x3_100 F_101 hq9
                            refine lv_iload_n (pc := 127) hx hb dX12_book_127 rfl (lv_at hl 1 rfl) ?_
                            refine lv_sipush (pc := 128) (v := 2420) hx hb dX12_book_128 (by decide) ?_
                            refine lv_icmp_ge (pc := 131) (tgt := 156) hx hb dX12_book_131 (by decide) (fun cc_102 => ?_) (fun cc_102 => ?_)
                            · have hp := hp.1 cc_102
                              refine lv_iconst (pc := 156) (v := 0) hx hb dX12_book_156 (by decide) ?_
                              refine lv_istore_n (pc := 157) (lv' := [(3, .int 0), (0, .ref th)]) hx hb dX12_book_157 rfl hl (by decide) rfl (fun ls hl => ?_)
                              obtain ⟨I_103, ⟨k0_103, h0_103⟩, hst_103⟩ := hp
                              have kl_103 : ∀ (n_103 : Nat) (x3_104 : Int32) (J_105 : Nat → Nat → Int64) (H : Heap) (locs : List Loc) (ls : Array Slot), I_103 n_103 x3_104 J_105 → Hp G (FA S s.heap.size) s.heap (wA S F_101 J_105 (gR S)) H locs → lv_has ls 4 [(0, .ref th), (3, .int x3_104)] → Wm G p l e { frames := 9, cells := 0, slots := 0, locals := 197 } s m args below meth c S QQ 0 0 H locs 0 0 (F0 m 158 ls []) := by
                                intro n_103
                                induction n_103 using Nat.strongRecOn with
                                | ind n_103 ih_103 =>
                                  intro x3_104 J_105 H locs ls hq9 hH hl
                                  have hp := hst_103 n_103 x3_104 J_105 hq9
                                  refine lv_iload_n (pc := 158) hx hb dX12_book_158 rfl (lv_at hl 1 rfl) ?_
                                  refine lv_bipush (pc := 159) (v := 12) hx hb dX12_book_159 (by decide) ?_
                                  refine lv_icmp_ge (pc := 161) (tgt := 185) hx hb dX12_book_161 (by decide) (fun cc_106 => ?_) (fun cc_106 => ?_)
                                  · have hp := hp.1 cc_106
                                    exact kj_94 _ _ _ _ _ hp hH (lv_sub hl [0] rfl)
                                  · have hp := hp.2 cc_106
                                    refine lv_aload_n (pc := 164) hx hb dX12_book_164 rfl (lv_at hl 0 rfl) ?_
                                    refine sx_getR (pc := 165) (j := 1) B hH hk_th coX12 rfl w_1305 rfl dX12_book_165 ?_
                                    refine W.eq (g2 := F0 m 168 ls [va_rf (gR S th 1)]) rfl ?_
                                    obtain ⟨a_107, ha_107, hp⟩ := hp
                                    refine sx_nonnull (x := a_107) ha_107 ?_
                                    refine lv_iload_n (pc := 168) hx hb dX12_book_168 rfl (lv_at hl 1 rfl) ?_
                                    refine lv_aload_n (pc := 169) hx hb dX12_book_169 rfl (lv_at hl 0 rfl) ?_
                                    refine sx_getR (pc := 170) (j := 1) B hH hk_th coX12 rfl w_1305 rfl dX12_book_170 ?_
                                    refine W.eq (g2 := F0 m 173 ls [va_rf (gR S th 1), .int x3_104, .ref a_107]) rfl ?_
                                    refine sx_nonnull (x := a_107) ha_107 ?_
                                    refine lv_bipush (pc := 173) (v := 48) hx hb dX12_book_173 (by decide) ?_
                                    refine lv_iload_n (pc := 175) hx hb dX12_book_175 rfl (lv_at hl 1 rfl) ?_
                                    refine lv_iadd (pc := 176) hx hb dX12_book_176 ?_
                                    obtain ⟨hk_108, hp⟩ := hp
                                    obtain ⟨hn_109, hp⟩ := hp
                                    refine sx_lald (pc := 177) B hH hk_108 hn_109 dX12_book_177 ?_
                                    refine W.eq (g2 := F0 m 178 ls [.long (J_105 a_107 ((48 + x3_104).toNatClampNeg)), .int x3_104, .ref a_107]) rfl ?_
                                    obtain ⟨hn_110, hp⟩ := hp
                                    refine lv_topl (fun v_111 ev_111 => ?_)
                                    have hp := hp v_111 ev_111
                                    obtain ⟨J_112, eJ_112⟩ : ∃ z : Nat → Nat → Int64, z = upJ J_105 a_107 x3_104.toNatClampNeg v_111 := ⟨_, rfl⟩
                                    have hp := hp J_112 eJ_112
                                    refine sx_last (pc := 178) B hH hk_108 hn_110 dX12_book_178 (fun H locs hH => ?_)
                                    have hH : Hp G (FA S s.heap.size) s.heap (wA S F_101 J_112 (gR S)) H locs := by rw [eJ_112]; exact hH
                                    obtain ⟨v_113, ev_113⟩ : ∃ y : Int32, y = x3_104 + 1 := ⟨_, rfl⟩
                                    have hp := hp v_113 ev_113
                                    refine lv_iinc (pc := 179) (v := v_113) (lv' := [(3, .int v_113), (0, .ref th)]) hx hb dX12_book_179 hl (k := 1) rfl (by rw [ev_113]; rfl) (by decide) rfl (fun ls hl => ?_)
                                    refine lv_goto (pc := 182) (tgt := 158) hx hb dX12_book_182 (by decide) ?_
                                    obtain ⟨k9, hlt9, hp⟩ := hp
                                    exact ih_103 k9 hlt9 _ _ _ _ _ hp hH (lv_sub hl [1, 0] rfl)
                              exact kl_103 k0_103 _ _ _ _ _ h0_103 hH (lv_sub hl [1, 0] rfl)
                            · have hp := hp.2 cc_102
                              refine lv_aload_n (pc := 134) hx hb dX12_book_134 rfl (lv_at hl 0 rfl) ?_
                              refine sx_getR (pc := 135) (j := 0) B hH hk_th coX12 rfl w_1304 rfl dX12_book_135 ?_
                              refine W.eq (g2 := F0 m 138 ls [va_rf (gR S th 0)]) rfl ?_
                              refine sx_nonnull (x := a_7) ha_7 ?_
                              refine lv_iload_n (pc := 138) hx hb dX12_book_138 rfl (lv_at hl 1 rfl) ?_
                              refine lv_aload_n (pc := 139) hx hb dX12_book_139 rfl (lv_at hl 0 rfl) ?_
                              refine sx_getR (pc := 140) (j := 0) B hH hk_th coX12 rfl w_1304 rfl dX12_book_140 ?_
                              refine W.eq (g2 := F0 m 143 ls [va_rf (gR S th 0), .int x3_100, .ref a_7]) rfl ?_
                              refine sx_nonnull (x := a_7) ha_7 ?_
                              refine lv_sipush (pc := 143) (v := 9680) hx hb dX12_book_143 (by decide) ?_
                              refine lv_iload_n (pc := 146) hx hb dX12_book_146 rfl (lv_at hl 1 rfl) ?_
                              refine lv_iadd (pc := 147) hx hb dX12_book_147 ?_
                              obtain ⟨hn_114, hp⟩ := hp
                              refine sx_iald (pc := 148) B hH hk_8 hn_114 dX12_book_148 ?_
                              refine W.eq (g2 := F0 m 149 ls [.int (F_101 a_7 ((9680 + x3_100).toNatClampNeg)), .int x3_100, .ref a_7]) rfl ?_
                              obtain ⟨hn_115, hp⟩ := hp
                              refine lv_topi (fun v_116 ev_116 => ?_)
                              have hp := hp v_116 ev_116
                              obtain ⟨F_117, eF_117⟩ : ∃ z : Nat → Nat → Int32, z = upI F_101 a_7 x3_100.toNatClampNeg v_116 := ⟨_, rfl⟩
                              have hp := hp F_117 eF_117
                              refine sx_iast (pc := 149) B hH hk_8 hn_115 dX12_book_149 (fun H locs hH => ?_)
                              have hH : Hp G (FA S s.heap.size) s.heap (wA S F_117 J_90 (gR S)) H locs := by rw [eF_117]; exact hH
                              obtain ⟨v_118, ev_118⟩ : ∃ y : Int32, y = x3_100 + 1 := ⟨_, rfl⟩
                              have hp := hp v_118 ev_118
                              refine lv_iinc (pc := 150) (v := v_118) (lv' := [(3, .int v_118), (0, .ref th)]) hx hb dX12_book_150 hl (k := 1) rfl (by rw [ev_118]; rfl) (by decide) rfl (fun ls hl => ?_)
                              refine lv_goto (pc := 153) (tgt := 127) hx hb dX12_book_153 (by decide) ?_
                              obtain ⟨k9, hlt9, hp⟩ := hp
                              exact ih_99 k9 hlt9 _ _ _ _ _ hp hH (lv_sub hl [1, 0] rfl)
                        exact kl_99 k0_99 _ _ _ _ _ h0_99 hH (lv_sub hl [1, 0] rfl)
                    refine lv_if_eq (pc := 100) (tgt := 118) hx hb dX12_book_100 (by decide) (fun cc_91 => ?_) (fun cc_91 => ?_)
                    · have hp := hp.1 cc_91
                      exact kj_92  _ _ _ hp hH (lv_sub hl [0] rfl)
                    · have hp := hp.2 cc_91
                      refine lv_aload_n (pc := 103) hx hb dX12_book_103 rfl (lv_at hl 0 rfl) ?_
                      refine sx_getI (pc := 104) (j := 12) B hH hk_th coX12 rfl w_1316 rfl dX12_book_104 ?_
                      refine W.eq (g2 := F0 m 107 ls [.int (F_89 th 12)]) rfl ?_
                      refine lv_if_eq (pc := 107) (tgt := 118) hx hb dX12_book_107 (by decide) (fun cc_119 => ?_) (fun cc_119 => ?_)
                      · have hp := hp.1 cc_119
                        exact kj_92  _ _ _ hp hH (lv_sub hl [0] rfl)
                      · have hp := hp.2 cc_119
                        refine lv_aload_n (pc := 110) hx hb dX12_book_110 rfl (lv_at hl 0 rfl) ?_
                        refine sx_V (pc := 111) (As := []) (rest := []) B hH hl.1 (C_X12_bookPart G l th _ _ hp) mi_X12_bookPart coX12 hk_th w_1570 w_58 w_1568 rfl rfl ⟨Nat.le_of_ble_eq_true rfl, Nat.le_of_ble_eq_true rfl⟩ (Nat.le_of_ble_eq_true rfl) ⟨Nat.le_of_ble_eq_true rfl, Nat.le_of_ble_eq_true rfl⟩ dX12_book_111 (fun v S1 H locs hq hH => ?_)
                        obtain ⟨r_120, F_120, J_120, rfl, e9, hp⟩ := hq
                        rw [e9] at hH
                        have hH : Hp G (FA S s.heap.size) s.heap (wA S F_120 J_120 (gR S)) H locs := hH
                        refine W.eq (g2 := F0 m 114 ls [.int r_120]) rfl ?_
                        refine lv_istore_n (pc := 114) (lv' := [(2, .int r_120), (0, .ref th)]) hx hb dX12_book_114 rfl hl (by decide) rfl (fun ls hl => ?_)
                        refine lv_goto (pc := 115) (tgt := 99) hx hb dX12_book_115 (by decide) ?_
                        obtain ⟨k9, hlt9, hp⟩ := hp
                        exact ih_87 k9 hlt9 _ _ _ _ _ _ hp hH (lv_sub hl [1, 0] rfl)
                exact kl_87 k0_87 _ _ _ _ _ _ h0_87 hH (lv_sub hl [1, 0] rfl)
              · have hp := hp.2 cc_86
                refine lv_iconst (pc := 93) (v := 1) hx hb dX12_book_93 (by decide) ?_
                refine lv_goto (pc := 94) (tgt := 98) hx hb dX12_book_94 (by decide) ?_
                refine lv_istore_n (pc := 98) (lv' := [(2, .int 1), (0, .ref th)]) hx hb dX12_book_98 rfl hl (by decide) rfl (fun ls hl => ?_)
                obtain ⟨I_121, ⟨k0_121, h0_121⟩, hst_121⟩ := hp
                have kl_121 : ∀ (n_121 : Nat) (x2_122 : Int32) (F_123 : Nat → Nat → Int32) (J_124 : Nat → Nat → Int64) (H : Heap) (locs : List Loc) (ls : Array Slot), I_121 n_121 x2_122 F_123 J_124 → Hp G (FA S s.heap.size) s.heap (wA S F_123 J_124 (gR S)) H locs → lv_has ls 4 [(0, .ref th), (2, .int x2_122)] → Wm G p l e { frames := 9, cells := 0, slots := 0, locals := 197 } s m args below meth c S QQ 0 0 H locs 0 0 (F0 m 99 ls []) := by
                  intro n_121
                  induction n_121 using Nat.strongRecOn with
                  | ind n_121 ih_121 =>
                    intro x2_122 F_123 J_124 H locs ls hq9 hH hl
                    have hp := hst_121 n_121 x2_122 F_123 J_124 hq9
                    refine lv_iload_n (pc := 99) hx hb dX12_book_99 rfl (lv_at hl 1 rfl) ?_
                    obtain ⟨J_126, hj_126, hp⟩ := hp
                    have kj_126 : ∀  (H : Heap) (locs : List Loc) (ls : Array Slot), J_126  → Hp G (FA S s.heap.size) s.heap (wA S F_123 J_124 (gR S)) H locs → lv_has ls 4 [(0, .ref th)] → Wm G p l e { frames := 9, cells := 0, slots := 0, locals := 197 } s m args below meth c S QQ 0 0 H locs 0 0 (F0 m 118 ls []) := by
                      intro  H locs ls hq9 hH hl
                      have hp := hj_126  hq9
                      refine lv_aload_n (pc := 118) hx hb dX12_book_118 rfl (lv_at hl 0 rfl) ?_
                      refine sx_getI (pc := 119) (j := 18) B hH hk_th coX12 rfl w_1322 rfl dX12_book_119 ?_
                      refine W.eq (g2 := F0 m 122 ls [.int (F_123 th 18)]) rfl ?_
                      obtain ⟨J_128, hj_128, hp⟩ := hp
                      have kj_128 : ∀ (F_129 : Nat → Nat → Int32) (J_130 : Nat → Nat → Int64) (H : Heap) (locs : List Loc) (ls : Array Slot), J_128 F_129 J_130 → Hp G (FA S s.heap.size) s.heap (wA S F_129 J_130 (gR S)) H locs → lv_has ls 4 [(0, .ref th)] → Wm G p l e { frames := 9, cells := 0, slots := 0, locals := 197 } s m args below meth c S QQ 0 0 H locs 0 0 (F0 m 185 ls []) := by
                        intro F_129 J_130 H locs ls hq9 hH hl
                        have hp := hj_128 F_129 J_130 hq9
                        refine lv_aload_n (pc := 185) hx hb dX12_book_185 rfl (lv_at hl 0 rfl) ?_
                        refine lv_aload_n (pc := 186) hx hb dX12_book_186 rfl (lv_at hl 0 rfl) ?_
                        refine sx_getR (pc := 187) (j := 0) B hH hk_th coX12 rfl w_1304 rfl dX12_book_187 ?_
                        refine W.eq (g2 := F0 m 190 ls [va_rf (gR S th 0), .ref th]) rfl ?_
                        refine sx_nonnull (x := a_7) ha_7 ?_
                        refine lv_iconst (pc := 190) (v := 1) hx hb dX12_book_190 (by decide) ?_
                        obtain ⟨hn_131, hp⟩ := hp
                        refine sx_iald (pc := 191) B hH hk_8 hn_131 dX12_book_191 ?_
                        refine W.eq (g2 := F0 m 192 ls [.int (F_129 a_7 1), .ref th]) rfl ?_
                        refine sx_V (pc := 192) (As := [.int (F_129 a_7 1)]) (rest := []) B hH hl.1 (C_X12_taken G l th (F_129 a_7 1) _ _ hp) mi_X12_taken coX12 hk_th w_1613 w_68 w_1611 rfl rfl ⟨Nat.le_of_ble_eq_true rfl, Nat.le_of_ble_eq_true rfl⟩ (Nat.le_of_ble_eq_true rfl) ⟨Nat.le_of_ble_eq_true rfl, Nat.le_of_ble_eq_true rfl⟩ dX12_book_192 (fun v S1 H locs hq hH => ?_)
                        obtain ⟨r_132, F_132, rfl, e9, hp⟩ := hq
                        rw [e9] at hH
                        have hH : Hp G (FA S s.heap.size) s.heap (wA S F_132 J_130 (gR S)) H locs := hH
                        refine W.eq (g2 := F0 m 195 ls [.int r_132]) rfl ?_
                        exact sx_iret (pc := 195) B hH hr hlk (by rw [← hQQ]; exact ⟨_, F_132, J_130, rfl, rfl, hp⟩) (Nat.le_of_ble_eq_true rfl) (Nat.le_of_ble_eq_true rfl) dX12_book_195
                      refine lv_if_ne (pc := 122) (tgt := 185) hx hb dX12_book_122 (by decide) (fun cc_127 => ?_) (fun cc_127 => ?_)
                      · have hp := hp.1 cc_127
                        exact kj_128 _ _ _ _ _ hp hH (lv_sub hl [0] rfl)
                      · have hp := hp.2 cc_127
                        refine lv_iconst (pc := 125) (v := 0) hx hb dX12_book_125 (by decide) ?_
                        refine lv_istore_n (pc := 126) (lv' := [(3, .int 0), (0, .ref th)]) hx hb dX12_book_126 rfl hl (by decide) rfl (fun ls hl => ?_)
                        obtain ⟨I_133, ⟨k0_133, h0_133⟩, hst_133⟩ := hp
                        have kl_133 : ∀ (n_133 : Nat) (x3_134 : Int32) (F_135 : Nat → Nat → Int32) (H : Heap) (locs : List Loc) (ls : Array Slot), I_133 n_133 x3_134 F_135 → Hp G (FA S s.heap.size) s.heap (wA S F_135 J_124 (gR S)) H locs → lv_has ls 4 [(0, .ref th), (3, .int x3_134)] → Wm G p l e { frames := 9, cells := 0, slots := 0, locals := 197 } s m args below meth c S QQ 0 0 H locs 0 0 (F0 m 127 ls []) := by
                          intro n_133
                          induction n_133 using Nat.strongRecOn with
                          | ind n_133 ih_133 =>
                            intro x3_134 F_135 H locs ls hq9 hH hl
                            have hp := hst_133 n_133 x3_134 F_135 hq9
                            refine lv_iload_n (pc := 127) hx hb dX12_book_127 rfl (lv_at hl 1 rfl) ?_
                            refine lv_sipush (pc := 128) (v := 2420) hx hb dX12_book_128 (by decide) ?_
                            refine lv_icmp_ge (pc := 131) (tgt := 156) hx hb dX12_book_131 (by decide) (fun cc_136 => ?_) (fun cc_136 => ?_)
                            · have hp := hp.1 cc_136
                              refine lv_iconst (pc := 156) (v := 0) hx hb dX12_book_156 (by decide) ?_
                              refine lv_istore_n (pc := 157) (lv' := [(3, .int 0), (0, .ref th)]) hx hb dX12_book_157 rfl hl (by decide) rfl (fun ls hl => ?_)
                              obtain ⟨I_137, ⟨k0_137, h0_137⟩, hst_137⟩ := hp
                              have kl_137 : ∀ (n_137 : Nat) (x3_138 : Int32) (J_139 : Nat → Nat → Int64) (H : Heap) (locs : List Loc) (ls : Array Slot), I_137 n_137 x3_138 J_139 → Hp G (FA S s.heap.size) s.heap (wA S F_135 J_139 (gR S)) H locs → lv_has ls 4 [(0, .ref th), (3, .int x3_138)] → Wm G p l e { frames := 9, cells := 0, slots := 0, locals := 197 } s m args below meth c S QQ 0 0 H locs 0 0 (F0 m 158 ls []) := by
                                intro n_137
                                induction n_137 using Nat.strongRecOn with
                                | ind n_137 ih_137 =>
                                  intro x3_138 J_139 H locs ls hq9 hH hl
                                  have hp := hst_137 n_137 x3_138 J_139 hq9
                                  refine lv_iload_n (pc := 158) hx hb dX12_book_158 rfl (lv_at hl 1 rfl) ?_
                                  refine lv_bipush (pc := 159) (v := 12) hx hb dX12_book_159 (by decide) ?_
                                  refine lv_icmp_ge (pc := 161) (tgt := 185) hx hb dX12_book_161 (by decide) (fun cc_140 => ?_) (fun cc_140 => ?_)
                                  · have hp := hp.1 cc_140
                                    exact kj_128 _ _ _ _ _ hp hH (lv_sub hl [0] rfl)
                                  · have hp := hp.2 cc_140
                                    refine lv_aload_n (pc := 164) hx hb dX12_book_164 rfl (lv_at hl 0 rfl) ?_
                                    refine sx_getR (pc := 165) (j := 1) B hH hk_th coX12 rfl w_1305 rfl dX12_book_165 ?_
                                    refine W.eq (g2 := F0 m 168 ls [va_rf (gR S th 1)]) rfl ?_
                                    obtain ⟨a_141, ha_141, hp⟩ := hp
                                    refine sx_nonnull (x := a_141) ha_141 ?_
                                    refine lv_iload_n (pc := 168) hx hb dX12_book_168 rfl (lv_at hl 1 rfl) ?_
                                    refine lv_aload_n (pc := 169) hx hb dX12_book_169 rfl (lv_at hl 0 rfl) ?_
                                    refine sx_getR (pc := 170) (j := 1) B hH hk_th coX12 rfl w_1305 rfl dX12_book_170 ?_
                                    refine W.eq (g2 := F0 m 173 ls [va_rf (gR S th 1), .int x3_138, .ref a_141]) rfl ?_
                                    refine sx_nonnull (x := a_141) ha_141 ?_
                                    refine lv_bipush (pc := 173) (v := 48) hx hb dX12_book_173 (by decide) ?_
                                    refine lv_iload_n (pc := 175) hx hb dX12_book_175 rfl (lv_at hl 1 rfl) ?_
                                    refine lv_iadd (pc := 176) hx hb dX12_book_176 ?_
                                    obtain ⟨hk_142, hp⟩ := hp
                                    obtain ⟨hn_143, hp⟩ := hp
                                    refine sx_lald (pc := 177) B hH hk_142 hn_143 dX12_book_177 ?_
                                    refine W.eq (g2 := F0 m 178 ls [.long (J_139 a_141 ((48 + x3_138).toNatClampNeg)), .int x3_138, .ref a_141]) rfl ?_
                                    obtain ⟨hn_144, hp⟩ := hp
                                    refine lv_topl (fun v_145 ev_145 => ?_)
                                    have hp := hp v_145 ev_145
                                    obtain ⟨J_146, eJ_146⟩ : ∃ z : Nat → Nat → Int64, z = upJ J_139 a_141 x3_138.toNatClampNeg v_145 := ⟨_, rfl⟩
                                    have hp := hp J_146 eJ_146
                                    refine sx_last (pc := 178) B hH hk_142 hn_144 dX12_book_178 (fun H locs hH => ?_)
                                    have hH : Hp G (FA S s.heap.size) s.heap (wA S F_135 J_146 (gR S)) H locs := by rw [eJ_146]; exact hH
                                    obtain ⟨v_147, ev_147⟩ : ∃ y : Int32, y = x3_138 + 1 := ⟨_, rfl⟩
                                    have hp := hp v_147 ev_147
                                    refine lv_iinc (pc := 179) (v := v_147) (lv' := [(3, .int v_147), (0, .ref th)]) hx hb dX12_book_179 hl (k := 1) rfl (by rw [ev_147]; rfl) (by decide) rfl (fun ls hl => ?_)
                                    refine lv_goto (pc := 182) (tgt := 158) hx hb dX12_book_182 (by decide) ?_
                                    obtain ⟨k9, hlt9, hp⟩ := hp
                                    exact ih_137 k9 hlt9 _ _ _ _ _ hp hH (lv_sub hl [1, 0] rfl)
                              exact kl_137 k0_137 _ _ _ _ _ h0_137 hH (lv_sub hl [1, 0] rfl)
                            · have hp := hp.2 cc_136
                              refine lv_aload_n (pc := 134) hx hb dX12_book_134 rfl (lv_at hl 0 rfl) ?_
                              refine sx_getR (pc := 135) (j := 0) B hH hk_th coX12 rfl w_1304 rfl dX12_book_135 ?_
                              refine W.eq (g2 := F0 m 138 ls [va_rf (gR S th 0)]) rfl ?_
                              refine sx_nonnull (x := a_7) ha_7 ?_
                              refine lv_iload_n (pc := 138) hx hb dX12_book_138 rfl (lv_at hl 1 rfl) ?_
                              refine lv_aload_n (pc := 139) hx hb dX12_book_139 rfl (lv_at hl 0 rfl) ?_
                              refine sx_getR (pc := 140) (j := 0) B hH hk_th coX12 rfl w_1304 rfl dX12_book_140 ?_
                              refine W.eq (g2 := F0 m 143 ls [va_rf (gR S th 0), .int x3_134, .ref a_7]) rfl ?_
                              refine sx_nonnull (x := a_7) ha_7 ?_
                              refine lv_sipush (pc := 143) (v := 9680) hx hb dX12_book_143 (by decide) ?_
                              refine lv_iload_n (pc := 146) hx hb dX12_book_146 rfl (lv_at hl 1 rfl) ?_
                              refine lv_iadd (pc := 147) hx hb dX12_book_147 ?_
                              obtain ⟨hn_148, hp⟩ := hp
                              refine sx_iald (pc := 148) B hH hk_8 hn_148 dX12_book_148 ?_
                              refine W.eq (g2 := F0 m 149 ls [.int (F_135 a_7 ((9680 + x3_134).toNatClampNeg)), .int x3_134, .ref a_7]) rfl ?_
                              obtain ⟨hn_149, hp⟩ := hp
                              refine lv_topi (fun v_150 ev_150 => ?_)
                              have hp := hp v_150 ev_150
                              obtain ⟨F_151, eF_151⟩ : ∃ z : Nat → Nat → Int32, z = upI F_135 a_7 x3_134.toNatClampNeg v_150 := ⟨_, rfl⟩
                              have hp := hp F_151 eF_151
                              refine sx_iast (pc := 149) B hH hk_8 hn_149 dX12_book_149 (fun H locs hH => ?_)
                              have hH : Hp G (FA S s.heap.size) s.heap (wA S F_151 J_124 (gR S)) H locs := by rw [eF_151]; exact hH
                              obtain ⟨v_152, ev_152⟩ : ∃ y : Int32, y = x3_134 + 1 := ⟨_, rfl⟩
                              have hp := hp v_152 ev_152
                              refine lv_iinc (pc := 150) (v := v_152) (lv' := [(3, .int v_152), (0, .ref th)]) hx hb dX12_book_150 hl (k := 1) rfl (by rw [ev_152]; rfl) (by decide) rfl (fun ls hl => ?_)
                              refine lv_goto (pc := 153) (tgt := 127) hx hb dX12_book_153 (by decide) ?_
                              obtain ⟨k9, hlt9, hp⟩ := hp
                              exact ih_133 k9 hlt9 _ _ _ _ _ hp hH (lv_sub hl [1, 0] rfl)
                        exact kl_133 k0_133 _ _ _ _ _ h0_133 hH (lv_sub hl [1, 0] rfl)
                    refine lv_if_eq (pc := 100) (tgt := 118) hx hb dX12_book_100 (by decide) (fun cc_125 => ?_) (fun cc_125 => ?_)
                    · have hp := hp.1 cc_125
                      exact kj_126  _ _ _ hp hH (lv_sub hl [0] rfl)
                    · have hp := hp.2 cc_125
                      refine lv_aload_n (pc := 103) hx hb dX12_book_103 rfl (lv_at hl 0 rfl) ?_
                      refine sx_getI (pc := 104) (j := 12) B hH hk_th coX12 rfl w_1316 rfl dX12_book_104 ?_
                      refine W.eq (g2 := F0 m 107 ls [.int (F_123 th 12)]) rfl ?_
                      refine lv_if_eq (pc := 107) (tgt := 118) hx hb dX12_book_107 (by decide) (fun cc_153 => ?_) (fun cc_153 => ?_)
                      · have hp := hp.1 cc_153
                        exact kj_126  _ _ _ hp hH (lv_sub hl [0] rfl)
                      · have hp := hp.2 cc_153
                        refine lv_aload_n (pc := 110) hx hb dX12_book_110 rfl (lv_at hl 0 rfl) ?_
                        refine sx_V (pc := 111) (As := []) (rest := []) B hH hl.1 (C_X12_bookPart G l th _ _ hp) mi_X12_bookPart coX12 hk_th w_1570 w_58 w_1568 rfl rfl ⟨Nat.le_of_ble_eq_true rfl, Nat.le_of_ble_eq_true rfl⟩ (Nat.le_of_ble_eq_true rfl) ⟨Nat.le_of_ble_eq_true rfl, Nat.le_of_ble_eq_true rfl⟩ dX12_book_111 (fun v S1 H locs hq hH => ?_)
                        obtain ⟨r_154, F_154, J_154, rfl, e9, hp⟩ := hq
                        rw [e9] at hH
                        have hH : Hp G (FA S s.heap.size) s.heap (wA S F_154 J_154 (gR S)) H locs := hH
                        refine W.eq (g2 := F0 m 114 ls [.int r_154]) rfl ?_
                        refine lv_istore_n (pc := 114) (lv' := [(2, .int r_154), (0, .ref th)]) hx hb dX12_book_114 rfl hl (by decide) rfl (fun ls hl => ?_)
                        refine lv_goto (pc := 115) (tgt := 99) hx hb dX12_book_115 (by decide) ?_
                        obtain ⟨k9, hlt9, hp⟩ := hp
                        exact ih_121 k9 hlt9 _ _ _ _ _ _ hp hH (lv_sub hl [1, 0] rfl)
                exact kl_121 k0_121 _ _ _ _ _ _ h0_121 hH (lv_sub hl [1, 0] rfl)
        · have hp := hp.2 cc_6
          refine lv_aload_n (pc := 26) hx hb dX12_book_26 rfl (lv_at hl 0 rfl) ?_
          refine sx_getR (pc := 27) (j := 0) B hH hk_th coX12 rfl w_1304 rfl dX12_book_27 ?_
          refine W.eq (g2 := F0 m 30 ls [va_rf (gR S th 0)]) rfl ?_
          obtain ⟨a_155, ha_155, hp⟩ := hp
          refine sx_nonnull (x := a_155) ha_155 ?_
          refine lv_sipush (pc := 30) (v := 9680) hx hb dX12_book_30 (by decide) ?_
          refine lv_iload_n (pc := 33) hx hb dX12_book_33 rfl (lv_at hl 1 rfl) ?_
          refine lv_iadd (pc := 34) hx hb dX12_book_34 ?_
          refine lv_iconst (pc := 35) (v := 0) hx hb dX12_book_35 (by decide) ?_
          obtain ⟨hk_156, hp⟩ := hp
          obtain ⟨hn_157, hp⟩ := hp
          obtain ⟨F_158, eF_158⟩ : ∃ z : Nat → Nat → Int32, z = upI F_5 a_155 ((9680 + x2_4).toNatClampNeg) 0 := ⟨_, rfl⟩
          have hp := hp F_158 eF_158
          refine sx_iast (pc := 36) B hH hk_156 hn_157 dX12_book_36 (fun H locs hH => ?_)
          have hH : Hp G (FA S s.heap.size) s.heap (wI S F_158) H locs := by rw [eF_158]; exact hH
          obtain ⟨v_159, ev_159⟩ : ∃ y : Int32, y = x2_4 + 1 := ⟨_, rfl⟩
          have hp := hp v_159 ev_159
          refine lv_iinc (pc := 37) (v := v_159) (lv' := [(2, .int v_159), (0, .ref th)]) hx hb dX12_book_37 hl (k := 1) rfl (by rw [ev_159]; rfl) (by decide) rfl (fun ls hl => ?_)
          refine lv_goto (pc := 40) (tgt := 19) hx hb dX12_book_40 (by decide) ?_
          obtain ⟨k9, hlt9, hp⟩ := hp
          exact ih_3 k9 hlt9 _ _ _ _ _ hp hH (lv_sub hl [1, 0] rfl)
    exact kl_3 k0_3 _ _ _ _ _ h0_3 hH (lv_sub hl [1, 0] rfl)
  · have hp := hp.2 cc_2
    refine lv_aload_n (pc := 11) hx hb dX12_book_11 rfl (lv_at hl 0 rfl) ?_
    refine lv_iconst (pc := 12) (v := 1) hx hb dX12_book_12 (by decide) ?_
    refine sx_V (pc := 13) (As := [.int 1]) (rest := []) B hH hl.1 (C_X12_refuse G l th 1 _ _ hp) mi_X12_refuse coX12 hk_th w_1539 w_51 w_1537 rfl rfl ⟨Nat.le_of_ble_eq_true rfl, Nat.le_of_ble_eq_true rfl⟩ (Nat.le_of_ble_eq_true rfl) ⟨Nat.le_of_ble_eq_true rfl, Nat.le_of_ble_eq_true rfl⟩ dX12_book_13 (fun v S1 H locs hq hH => ?_)
    obtain ⟨r_160, F_160, rfl, e9, hp⟩ := hq
    rw [e9] at hH
    have hH : Hp G (FA S s.heap.size) s.heap (wI S F_160) H locs := hH
    refine W.eq (g2 := F0 m 16 ls [.int r_160]) rfl ?_
    exact sx_iret (pc := 16) B hH hr hlk (by rw [← hQQ]; exact ⟨_, F_160, (gJ S), rfl, rfl, hp⟩) (Nat.le_of_ble_eq_true rfl) (Nat.le_of_ble_eq_true rfl) dX12_book_16
theorem dX12_aLead_0 : decode cX12_aLead 0 = .ok (.aload_n 0, 1) := by decide +kernel
theorem dX12_aLead_1 : decode cX12_aLead 1 = .ok (.ldc 199, 2) := by decide +kernel
theorem dX12_aLead_3 : decode cX12_aLead 3 = .ok (.invokevirtual 212, 3) := by decide +kernel
theorem dX12_aLead_6 : decode cX12_aLead 6 = .ok (.ifCond .ne 9, 3) := by decide +kernel
theorem dX12_aLead_9 : decode cX12_aLead 9 = .ok (.aload_n 0, 1) := by decide +kernel
theorem dX12_aLead_10 : decode cX12_aLead 10 = .ok (.iconst 2, 1) := by decide +kernel
theorem dX12_aLead_11 : decode cX12_aLead 11 = .ok (.invokevirtual 188, 3) := by decide +kernel
theorem dX12_aLead_14 : decode cX12_aLead 14 = .ok (.ireturn, 1) := by decide +kernel
theorem dX12_aLead_15 : decode cX12_aLead 15 = .ok (.aload_n 0, 1) := by decide +kernel
theorem dX12_aLead_16 : decode cX12_aLead 16 = .ok (.iconst 0, 1) := by decide +kernel
theorem dX12_aLead_17 : decode cX12_aLead 17 = .ok (.aload_n 0, 1) := by decide +kernel
theorem dX12_aLead_18 : decode cX12_aLead 18 = .ok (.getfield 7, 3) := by decide +kernel
theorem dX12_aLead_21 : decode cX12_aLead 21 = .ok (.iconst 1, 1) := by decide +kernel
theorem dX12_aLead_22 : decode cX12_aLead 22 = .ok (.iaload, 1) := by decide +kernel
theorem dX12_aLead_23 : decode cX12_aLead 23 = .ok (.invokevirtual 216, 3) := by decide +kernel
theorem dX12_aLead_26 : decode cX12_aLead 26 = .ok (.istore_n 2, 1) := by decide +kernel
theorem dX12_aLead_27 : decode cX12_aLead 27 = .ok (.iload_n 2, 1) := by decide +kernel
theorem dX12_aLead_28 : decode cX12_aLead 28 = .ok (.iconst (-1), 1) := by decide +kernel
theorem dX12_aLead_29 : decode cX12_aLead 29 = .ok (.if_icmp .ne 9, 3) := by decide +kernel
theorem dX12_aLead_32 : decode cX12_aLead 32 = .ok (.aload_n 0, 1) := by decide +kernel
theorem dX12_aLead_33 : decode cX12_aLead 33 = .ok (.iconst 3, 1) := by decide +kernel
theorem dX12_aLead_34 : decode cX12_aLead 34 = .ok (.invokevirtual 188, 3) := by decide +kernel
theorem dX12_aLead_37 : decode cX12_aLead 37 = .ok (.ireturn, 1) := by decide +kernel
theorem dX12_aLead_38 : decode cX12_aLead 38 = .ok (.aload_n 0, 1) := by decide +kernel
theorem dX12_aLead_39 : decode cX12_aLead 39 = .ok (.getfield 7, 3) := by decide +kernel
theorem dX12_aLead_42 : decode cX12_aLead 42 = .ok (.iload_n 1, 1) := by decide +kernel
theorem dX12_aLead_43 : decode cX12_aLead 43 = .ok (.iconst 1, 1) := by decide +kernel
theorem dX12_aLead_44 : decode cX12_aLead 44 = .ok (.iadd, 1) := by decide +kernel
theorem dX12_aLead_45 : decode cX12_aLead 45 = .ok (.iload_n 2, 1) := by decide +kernel
theorem dX12_aLead_46 : decode cX12_aLead 46 = .ok (.iastore, 1) := by decide +kernel
theorem dX12_aLead_47 : decode cX12_aLead 47 = .ok (.aload_n 0, 1) := by decide +kernel
theorem dX12_aLead_48 : decode cX12_aLead 48 = .ok (.invokevirtual 182, 3) := by decide +kernel
theorem dX12_aLead_51 : decode cX12_aLead 51 = .ok (.iconst 1, 1) := by decide +kernel
theorem dX12_aLead_52 : decode cX12_aLead 52 = .ok (.ireturn, 1) := by decide +kernel
theorem mi_X12_aLead : MI yX12_aLead cX12_aLead 3 (some FieldType.boolean) 1 := ⟨w_1630, w_118, by decide +kernel, by decide +kernel, by decide +kernel⟩
set_option maxRecDepth 100000 in
set_option maxHeartbeats 4000000 in
theorem C_X12_aLead (G : GG) (l : Launch) (th : Nat) (p0 : Int32) (S : St) (Q : Int32 → (Nat → Nat → Int32) → Prop) (hp : P_X12_aLead th p0 S Q) : Ctr G l yX12_aLead cX12_aLead 3 (some FieldType.boolean) 6 132 0 0 [.ref th, .int p0] S (fun (v : Option Value) (S9 : St) => ∃ (r : Int32) (I9 : Nat → Nat → Int32), v = some (.int r) ∧ S9 = wI S I9 ∧ Q r I9) := by
  generalize hQQ : (fun (v : Option Value) (S9 : St) => ∃ (r : Int32) (I9 : Nat → Nat → Int32), v = some (.int r) ∧ S9 = wI S I9 ∧ Q r I9) = QQ
  unfold P_X12_aLead at hp
  refine Ctr.of (by decide) (Nat.le_of_ble_eq_true rfl) ?_
  intro p e s m args below meth c ls B hr hlk hin hl hH
  generalize hlocs0 : ([] : List Loc) = locs at hH ⊢
  have hx := B.1
  have hb := B.2.1
  have hl : lv_has ls 3 [(0, .ref th), (1, .int p0)] := hl
  obtain ⟨hk_th, hp⟩ := hp
  refine lv_aload_n (pc := 0) hx hb dX12_aLead_0 rfl (lv_at hl 0 rfl) ?_
  refine sx_ldcS (pc := 1) 12 B (by decide) rfl rfl dX12_aLead_1 ?_
  refine sx_V (pc := 3) (As := [.ref (G.2.2.1 12)]) (rest := []) B hH hl.1 (C_X12_isName G l th 12 _ _ hp) mi_X12_isName coX12 hk_th w_1582 w_61 w_1580 rfl rfl ⟨Nat.le_of_ble_eq_true rfl, Nat.le_of_ble_eq_true rfl⟩ (Nat.le_of_ble_eq_true rfl) ⟨Nat.le_of_ble_eq_true rfl, Nat.le_of_ble_eq_true rfl⟩ dX12_aLead_3 (fun v S1 H locs hq hH => ?_)
  obtain ⟨r_1, rfl, e9, hp⟩ := hq
  rw [e9] at hH
  refine W.eq (g2 := F0 m 6 ls [.int r_1]) rfl ?_
  refine lv_if_ne (pc := 6) (tgt := 15) hx hb dX12_aLead_6 (by decide) (fun cc_2 => ?_) (fun cc_2 => ?_)
  · have hp := hp.1 cc_2
    refine lv_aload_n (pc := 15) hx hb dX12_aLead_15 rfl (lv_at hl 0 rfl) ?_
    refine lv_iconst (pc := 16) (v := 0) hx hb dX12_aLead_16 (by decide) ?_
    refine lv_aload_n (pc := 17) hx hb dX12_aLead_17 rfl (lv_at hl 0 rfl) ?_
    refine sx_getR (pc := 18) (j := 0) B hH hk_th coX12 rfl w_1304 rfl dX12_aLead_18 ?_
    refine W.eq (g2 := F0 m 21 ls [va_rf (gR S th 0), .int 0, .ref th]) rfl ?_
    obtain ⟨a_3, ha_3, hp⟩ := hp
    refine sx_nonnull (x := a_3) ha_3 ?_
    refine lv_iconst (pc := 21) (v := 1) hx hb dX12_aLead_21 (by decide) ?_
    obtain ⟨hk_4, hp⟩ := hp
    obtain ⟨hn_5, hp⟩ := hp
    refine sx_iald (pc := 22) B hH hk_4 hn_5 dX12_aLead_22 ?_
    refine W.eq (g2 := F0 m 23 ls [.int (gI S a_3 1), .int 0, .ref th]) rfl ?_
    refine sx_V (pc := 23) (As := [.int 0, .int (gI S a_3 1)]) (rest := []) B hH hl.1 (C_X12_findHere G l th 0 (gI S a_3 1) _ _ hp) mi_X12_findHere coX12 hk_th w_1586 w_62 w_1584 rfl rfl ⟨Nat.le_of_ble_eq_true rfl, Nat.le_of_ble_eq_true rfl⟩ (Nat.le_of_ble_eq_true rfl) ⟨Nat.le_of_ble_eq_true rfl, Nat.le_of_ble_eq_true rfl⟩ dX12_aLead_23 (fun v S1 H locs hq hH => ?_)
    obtain ⟨r_6, rfl, e9, hp⟩ := hq
    rw [e9] at hH
    refine W.eq (g2 := F0 m 26 ls [.int r_6]) rfl ?_
    refine lv_istore_n (pc := 26) (lv' := [(2, .int r_6), (0, .ref th), (1, .int p0)]) hx hb dX12_aLead_26 rfl hl (by decide) rfl (fun ls hl => ?_)
    refine lv_iload_n (pc := 27) hx hb dX12_aLead_27 rfl (lv_at hl 0 rfl) ?_
    refine lv_iconst (pc := 28) (v := (-1)) hx hb dX12_aLead_28 (by decide) ?_
    refine lv_icmp_ne (pc := 29) (tgt := 38) hx hb dX12_aLead_29 (by decide) (fun cc_7 => ?_) (fun cc_7 => ?_)
    · have hp := hp.1 cc_7
      refine lv_aload_n (pc := 38) hx hb dX12_aLead_38 rfl (lv_at hl 1 rfl) ?_
      refine sx_getR (pc := 39) (j := 0) B hH hk_th coX12 rfl w_1304 rfl dX12_aLead_39 ?_
      refine W.eq (g2 := F0 m 42 ls [va_rf (gR S th 0)]) rfl ?_
      refine sx_nonnull (x := a_3) ha_3 ?_
      refine lv_iload_n (pc := 42) hx hb dX12_aLead_42 rfl (lv_at hl 2 rfl) ?_
      refine lv_iconst (pc := 43) (v := 1) hx hb dX12_aLead_43 (by decide) ?_
      refine lv_iadd (pc := 44) hx hb dX12_aLead_44 ?_
      refine lv_iload_n (pc := 45) hx hb dX12_aLead_45 rfl (lv_at hl 0 rfl) ?_
      obtain ⟨hn_8, hp⟩ := hp
      obtain ⟨F_9, eF_9⟩ : ∃ z : Nat → Nat → Int32, z = upI (gI S) a_3 ((p0 + 1).toNatClampNeg) r_6 := ⟨_, rfl⟩
      have hp := hp F_9 eF_9
      refine sx_iast (pc := 46) B hH hk_4 hn_8 dX12_aLead_46 (fun H locs hH => ?_)
      have hH : Hp G (FA S s.heap.size) s.heap (wI S F_9) H locs := by rw [eF_9]; exact hH
      refine lv_aload_n (pc := 47) hx hb dX12_aLead_47 rfl (lv_at hl 1 rfl) ?_
      refine sx_V (pc := 48) (As := []) (rest := []) B hH hl.1 (C_X12_ahead G l th _ _ hp) mi_X12_ahead coX12 hk_th w_1523 w_49 w_1521 rfl rfl ⟨Nat.le_of_ble_eq_true rfl, Nat.le_of_ble_eq_true rfl⟩ (Nat.le_of_ble_eq_true rfl) ⟨Nat.le_of_ble_eq_true rfl, Nat.le_of_ble_eq_true rfl⟩ dX12_aLead_48 (fun v S1 H locs hq hH => ?_)
      obtain ⟨F_10, rfl, e9, hp⟩ := hq
      rw [e9] at hH
      have hH : Hp G (FA S s.heap.size) s.heap (wI S F_10) H locs := hH
      refine W.eq (g2 := F0 m 51 ls []) rfl ?_
      refine lv_iconst (pc := 51) (v := 1) hx hb dX12_aLead_51 (by decide) ?_
      exact sx_zret (pc := 52) B hH hr hlk (Or.inr rfl) (by rw [← hQQ]; exact ⟨_, F_10, rfl, rfl, hp⟩) (Nat.le_of_ble_eq_true rfl) (Nat.le_of_ble_eq_true rfl) dX12_aLead_52
    · have hp := hp.2 cc_7
      refine lv_aload_n (pc := 32) hx hb dX12_aLead_32 rfl (lv_at hl 1 rfl) ?_
      refine lv_iconst (pc := 33) (v := 3) hx hb dX12_aLead_33 (by decide) ?_
      refine sx_V (pc := 34) (As := [.int 3]) (rest := []) B hH hl.1 (C_X12_fails G l th 3 _ _ hp) mi_X12_fails coX12 hk_th w_1554 w_54 w_1552 rfl rfl ⟨Nat.le_of_ble_eq_true rfl, Nat.le_of_ble_eq_true rfl⟩ (Nat.le_of_ble_eq_true rfl) ⟨Nat.le_of_ble_eq_true rfl, Nat.le_of_ble_eq_true rfl⟩ dX12_aLead_34 (fun v S1 H locs hq hH => ?_)
      obtain ⟨r_11, F_11, rfl, e9, hp⟩ := hq
      rw [e9] at hH
      have hH : Hp G (FA S s.heap.size) s.heap (wI S F_11) H locs := hH
      refine W.eq (g2 := F0 m 37 ls [.int r_11]) rfl ?_
      obtain ⟨hz, hp⟩ := hp
      exact sx_zret (pc := 37) B hH hr hlk hz (by rw [← hQQ]; exact ⟨_, F_11, rfl, rfl, hp⟩) (Nat.le_of_ble_eq_true rfl) (Nat.le_of_ble_eq_true rfl) dX12_aLead_37
  · have hp := hp.2 cc_2
    refine lv_aload_n (pc := 9) hx hb dX12_aLead_9 rfl (lv_at hl 0 rfl) ?_
    refine lv_iconst (pc := 10) (v := 2) hx hb dX12_aLead_10 (by decide) ?_
    refine sx_V (pc := 11) (As := [.int 2]) (rest := []) B hH hl.1 (C_X12_fails G l th 2 _ _ hp) mi_X12_fails coX12 hk_th w_1554 w_54 w_1552 rfl rfl ⟨Nat.le_of_ble_eq_true rfl, Nat.le_of_ble_eq_true rfl⟩ (Nat.le_of_ble_eq_true rfl) ⟨Nat.le_of_ble_eq_true rfl, Nat.le_of_ble_eq_true rfl⟩ dX12_aLead_11 (fun v S1 H locs hq hH => ?_)
    obtain ⟨r_12, F_12, rfl, e9, hp⟩ := hq
    rw [e9] at hH
    have hH : Hp G (FA S s.heap.size) s.heap (wI S F_12) H locs := hH
    refine W.eq (g2 := F0 m 14 ls [.int r_12]) rfl ?_
    obtain ⟨hz, hp⟩ := hp
    exact sx_zret (pc := 14) B hH hr hlk hz (by rw [← hQQ]; exact ⟨_, F_12, rfl, rfl, hp⟩) (Nat.le_of_ble_eq_true rfl) (Nat.le_of_ble_eq_true rfl) dX12_aLead_14
theorem dX12_step_0 : decode cX12_step 0 = .ok (.aload_n 0, 1) := by decide +kernel
theorem dX12_step_1 : decode cX12_step 1 = .ok (.ldc 199, 2) := by decide +kernel
theorem dX12_step_3 : decode cX12_step 3 = .ok (.invokevirtual 191, 3) := by decide +kernel
theorem dX12_step_6 : decode cX12_step 6 = .ok (.istore_n 1, 1) := by decide +kernel
theorem dX12_step_7 : decode cX12_step 7 = .ok (.aload_n 0, 1) := by decide +kernel
theorem dX12_step_8 : decode cX12_step 8 = .ok (.getfield 7, 3) := by decide +kernel
theorem dX12_step_11 : decode cX12_step 11 = .ok (.sipush 9684, 3) := by decide +kernel
theorem dX12_step_14 : decode cX12_step 14 = .ok (.iaload, 1) := by decide +kernel
theorem dX12_step_15 : decode cX12_step 15 = .ok (.istore_n 2, 1) := by decide +kernel
theorem dX12_step_16 : decode cX12_step 16 = .ok (.sipush 9850, 3) := by decide +kernel
theorem dX12_step_19 : decode cX12_step 19 = .ok (.iconst 4, 1) := by decide +kernel
theorem dX12_step_20 : decode cX12_step 20 = .ok (.iload_n 2, 1) := by decide +kernel
theorem dX12_step_21 : decode cX12_step 21 = .ok (.imul, 1) := by decide +kernel
theorem dX12_step_22 : decode cX12_step 22 = .ok (.iadd, 1) := by decide +kernel
theorem dX12_step_23 : decode cX12_step 23 = .ok (.istore_n 3, 1) := by decide +kernel
theorem dX12_step_24 : decode cX12_step 24 = .ok (.iload_n 1, 1) := by decide +kernel
theorem dX12_step_25 : decode cX12_step 25 = .ok (.bipush 7, 2) := by decide +kernel
theorem dX12_step_27 : decode cX12_step 27 = .ok (.if_icmp .eq 20, 3) := by decide +kernel
theorem dX12_step_30 : decode cX12_step 30 = .ok (.iload_n 1, 1) := by decide +kernel
theorem dX12_step_31 : decode cX12_step 31 = .ok (.iconst 5, 1) := by decide +kernel
theorem dX12_step_32 : decode cX12_step 32 = .ok (.if_icmp .eq 15, 3) := by decide +kernel
theorem dX12_step_35 : decode cX12_step 35 = .ok (.iload_n 1, 1) := by decide +kernel
theorem dX12_step_36 : decode cX12_step 36 = .ok (.bipush 6, 2) := by decide +kernel
theorem dX12_step_38 : decode cX12_step 38 = .ok (.if_icmp .eq 9, 3) := by decide +kernel
theorem dX12_step_41 : decode cX12_step 41 = .ok (.iload_n 1, 1) := by decide +kernel
theorem dX12_step_42 : decode cX12_step 42 = .ok (.bipush 8, 2) := by decide +kernel
theorem dX12_step_44 : decode cX12_step 44 = .ok (.if_icmp .ne 7, 3) := by decide +kernel
theorem dX12_step_47 : decode cX12_step 47 = .ok (.iconst 1, 1) := by decide +kernel
theorem dX12_step_48 : decode cX12_step 48 = .ok (.goto 4, 3) := by decide +kernel
theorem dX12_step_51 : decode cX12_step 51 = .ok (.iconst 0, 1) := by decide +kernel
theorem dX12_step_52 : decode cX12_step 52 = .ok (.istore 4, 2) := by decide +kernel
theorem dX12_step_54 : decode cX12_step 54 = .ok (.iload 4, 2) := by decide +kernel
theorem dX12_step_56 : decode cX12_step 56 = .ok (.ifCond .ne 34, 3) := by decide +kernel
theorem dX12_step_59 : decode cX12_step 59 = .ok (.iload_n 1, 1) := by decide +kernel
theorem dX12_step_60 : decode cX12_step 60 = .ok (.bipush 9, 2) := by decide +kernel
theorem dX12_step_62 : decode cX12_step 62 = .ok (.if_icmp .eq 28, 3) := by decide +kernel
theorem dX12_step_65 : decode cX12_step 65 = .ok (.iload_n 1, 1) := by decide +kernel
theorem dX12_step_66 : decode cX12_step 66 = .ok (.bipush 11, 2) := by decide +kernel
theorem dX12_step_68 : decode cX12_step 68 = .ok (.if_icmp .eq 22, 3) := by decide +kernel
theorem dX12_step_71 : decode cX12_step 71 = .ok (.iload_n 1, 1) := by decide +kernel
theorem dX12_step_72 : decode cX12_step 72 = .ok (.bipush 10, 2) := by decide +kernel
theorem dX12_step_74 : decode cX12_step 74 = .ok (.if_icmp .ne 10, 3) := by decide +kernel
theorem dX12_step_77 : decode cX12_step 77 = .ok (.aload_n 0, 1) := by decide +kernel
theorem dX12_step_78 : decode cX12_step 78 = .ok (.getfield 251, 3) := by decide +kernel
theorem dX12_step_81 : decode cX12_step 81 = .ok (.ifCond .ne 9, 3) := by decide +kernel
theorem dX12_step_84 : decode cX12_step 84 = .ok (.aload_n 0, 1) := by decide +kernel
theorem dX12_step_85 : decode cX12_step 85 = .ok (.iconst 2, 1) := by decide +kernel
theorem dX12_step_86 : decode cX12_step 86 = .ok (.invokevirtual 188, 3) := by decide +kernel
theorem dX12_step_89 : decode cX12_step 89 = .ok (.ireturn, 1) := by decide +kernel
theorem dX12_step_90 : decode cX12_step 90 = .ok (.iload_n 1, 1) := by decide +kernel
theorem dX12_step_91 : decode cX12_step 91 = .ok (.bipush 10, 2) := by decide +kernel
theorem dX12_step_93 : decode cX12_step 93 = .ok (.if_icmp .eq 19, 3) := by decide +kernel
theorem dX12_step_96 : decode cX12_step 96 = .ok (.aload_n 0, 1) := by decide +kernel
theorem dX12_step_97 : decode cX12_step 97 = .ok (.getfield 254, 3) := by decide +kernel
theorem dX12_step_100 : decode cX12_step 100 = .ok (.bipush 30, 2) := by decide +kernel
theorem dX12_step_102 : decode cX12_step 102 = .ok (.if_icmp .ne 10, 3) := by decide +kernel
theorem dX12_step_105 : decode cX12_step 105 = .ok (.aload_n 0, 1) := by decide +kernel
theorem dX12_step_106 : decode cX12_step 106 = .ok (.bipush 6, 2) := by decide +kernel
theorem dX12_step_108 : decode cX12_step 108 = .ok (.invokevirtual 188, 3) := by decide +kernel
theorem dX12_step_111 : decode cX12_step 111 = .ok (.ireturn, 1) := by decide +kernel
theorem dX12_step_112 : decode cX12_step 112 = .ok (.iload_n 1, 1) := by decide +kernel
theorem dX12_step_113 : decode cX12_step 113 = .ok (.bipush 9, 2) := by decide +kernel
theorem dX12_step_115 : decode cX12_step 115 = .ok (.if_icmp .ne 18, 3) := by decide +kernel
theorem dX12_step_118 : decode cX12_step 118 = .ok (.aload_n 0, 1) := by decide +kernel
theorem dX12_step_119 : decode cX12_step 119 = .ok (.getfield 251, 3) := by decide +kernel
theorem dX12_step_122 : decode cX12_step 122 = .ok (.iconst 3, 1) := by decide +kernel
theorem dX12_step_123 : decode cX12_step 123 = .ok (.if_icmp .ne 10, 3) := by decide +kernel
theorem dX12_step_126 : decode cX12_step 126 = .ok (.aload_n 0, 1) := by decide +kernel
theorem dX12_step_127 : decode cX12_step 127 = .ok (.bipush 7, 2) := by decide +kernel
theorem dX12_step_129 : decode cX12_step 129 = .ok (.invokevirtual 188, 3) := by decide +kernel
theorem dX12_step_132 : decode cX12_step 132 = .ok (.ireturn, 1) := by decide +kernel
theorem dX12_step_133 : decode cX12_step 133 = .ok (.aload_n 0, 1) := by decide +kernel
theorem dX12_step_134 : decode cX12_step 134 = .ok (.dup, 1) := by decide +kernel
theorem dX12_step_135 : decode cX12_step 135 = .ok (.getfield 254, 3) := by decide +kernel
theorem dX12_step_138 : decode cX12_step 138 = .ok (.iload_n 1, 1) := by decide +kernel
theorem dX12_step_139 : decode cX12_step 139 = .ok (.bipush 10, 2) := by decide +kernel
theorem dX12_step_141 : decode cX12_step 141 = .ok (.if_icmp .ne 7, 3) := by decide +kernel
theorem dX12_step_144 : decode cX12_step 144 = .ok (.iconst 0, 1) := by decide +kernel
theorem dX12_step_145 : decode cX12_step 145 = .ok (.goto 4, 3) := by decide +kernel
theorem dX12_step_148 : decode cX12_step 148 = .ok (.iconst 1, 1) := by decide +kernel
theorem dX12_step_149 : decode cX12_step 149 = .ok (.iadd, 1) := by decide +kernel
theorem dX12_step_150 : decode cX12_step 150 = .ok (.putfield 254, 3) := by decide +kernel
theorem dX12_step_153 : decode cX12_step 153 = .ok (.aload_n 0, 1) := by decide +kernel
theorem dX12_step_154 : decode cX12_step 154 = .ok (.getfield 7, 3) := by decide +kernel
theorem dX12_step_157 : decode cX12_step 157 = .ok (.iload_n 3, 1) := by decide +kernel
theorem dX12_step_158 : decode cX12_step 158 = .ok (.iload_n 1, 1) := by decide +kernel
theorem dX12_step_159 : decode cX12_step 159 = .ok (.iastore, 1) := by decide +kernel
theorem dX12_step_160 : decode cX12_step 160 = .ok (.iconst 1, 1) := by decide +kernel
theorem dX12_step_161 : decode cX12_step 161 = .ok (.istore 5, 2) := by decide +kernel
theorem dX12_step_163 : decode cX12_step 163 = .ok (.iload 5, 2) := by decide +kernel
theorem dX12_step_165 : decode cX12_step 165 = .ok (.iconst 4, 1) := by decide +kernel
theorem dX12_step_166 : decode cX12_step 166 = .ok (.if_icmp .ge 19, 3) := by decide +kernel
theorem dX12_step_169 : decode cX12_step 169 = .ok (.aload_n 0, 1) := by decide +kernel
theorem dX12_step_170 : decode cX12_step 170 = .ok (.getfield 7, 3) := by decide +kernel
theorem dX12_step_173 : decode cX12_step 173 = .ok (.iload_n 3, 1) := by decide +kernel
theorem dX12_step_174 : decode cX12_step 174 = .ok (.iload 5, 2) := by decide +kernel
theorem dX12_step_176 : decode cX12_step 176 = .ok (.iadd, 1) := by decide +kernel
theorem dX12_step_177 : decode cX12_step 177 = .ok (.iconst 0, 1) := by decide +kernel
theorem dX12_step_178 : decode cX12_step 178 = .ok (.iastore, 1) := by decide +kernel
theorem dX12_step_179 : decode cX12_step 179 = .ok (.iinc 5 1, 3) := by decide +kernel
theorem dX12_step_182 : decode cX12_step 182 = .ok (.goto (-19), 3) := by decide +kernel
theorem dX12_step_185 : decode cX12_step 185 = .ok (.aload_n 0, 1) := by decide +kernel
theorem dX12_step_186 : decode cX12_step 186 = .ok (.getfield 7, 3) := by decide +kernel
theorem dX12_step_189 : decode cX12_step 189 = .ok (.sipush 9684, 3) := by decide +kernel
theorem dX12_step_192 : decode cX12_step 192 = .ok (.dup2, 1) := by decide +kernel
theorem dX12_step_193 : decode cX12_step 193 = .ok (.iaload, 1) := by decide +kernel
theorem dX12_step_194 : decode cX12_step 194 = .ok (.iconst 1, 1) := by decide +kernel
theorem dX12_step_195 : decode cX12_step 195 = .ok (.iadd, 1) := by decide +kernel
theorem dX12_step_196 : decode cX12_step 196 = .ok (.iastore, 1) := by decide +kernel
theorem dX12_step_197 : decode cX12_step 197 = .ok (.aload_n 0, 1) := by decide +kernel
theorem dX12_step_198 : decode cX12_step 198 = .ok (.invokevirtual 182, 3) := by decide +kernel
theorem dX12_step_201 : decode cX12_step 201 = .ok (.iload 4, 2) := by decide +kernel
theorem dX12_step_203 : decode cX12_step 203 = .ok (.ifCond .eq 13, 3) := by decide +kernel
theorem dX12_step_206 : decode cX12_step 206 = .ok (.aload_n 0, 1) := by decide +kernel
theorem dX12_step_207 : decode cX12_step 207 = .ok (.iload_n 3, 1) := by decide +kernel
theorem dX12_step_208 : decode cX12_step 208 = .ok (.invokevirtual 257, 3) := by decide +kernel
theorem dX12_step_211 : decode cX12_step 211 = .ok (.ifCond .ne 5, 3) := by decide +kernel
theorem dX12_step_214 : decode cX12_step 214 = .ok (.iconst 0, 1) := by decide +kernel
theorem dX12_step_215 : decode cX12_step 215 = .ok (.ireturn, 1) := by decide +kernel
theorem dX12_step_216 : decode cX12_step 216 = .ok (.iload_n 1, 1) := by decide +kernel
theorem dX12_step_217 : decode cX12_step 217 = .ok (.bipush 8, 2) := by decide +kernel
theorem dX12_step_219 : decode cX12_step 219 = .ok (.if_icmp .ne 35, 3) := by decide +kernel
theorem dX12_step_222 : decode cX12_step 222 = .ok (.aload_n 0, 1) := by decide +kernel
theorem dX12_step_223 : decode cX12_step 223 = .ok (.iload_n 3, 1) := by decide +kernel
theorem dX12_step_224 : decode cX12_step 224 = .ok (.iconst 2, 1) := by decide +kernel
theorem dX12_step_225 : decode cX12_step 225 = .ok (.iadd, 1) := by decide +kernel
theorem dX12_step_226 : decode cX12_step 226 = .ok (.iconst 1, 1) := by decide +kernel
theorem dX12_step_227 : decode cX12_step 227 = .ok (.aload_n 0, 1) := by decide +kernel
theorem dX12_step_228 : decode cX12_step 228 = .ok (.getfield 7, 3) := by decide +kernel
theorem dX12_step_231 : decode cX12_step 231 = .ok (.bipush 10, 2) := by decide +kernel
theorem dX12_step_233 : decode cX12_step 233 = .ok (.bipush 40, 2) := by decide +kernel
theorem dX12_step_235 : decode cX12_step 235 = .ok (.aload_n 0, 1) := by decide +kernel
theorem dX12_step_236 : decode cX12_step 236 = .ok (.getfield 7, 3) := by decide +kernel
theorem dX12_step_239 : decode cX12_step 239 = .ok (.iload_n 3, 1) := by decide +kernel
theorem dX12_step_240 : decode cX12_step 240 = .ok (.iconst 1, 1) := by decide +kernel
theorem dX12_step_241 : decode cX12_step 241 = .ok (.iadd, 1) := by decide +kernel
theorem dX12_step_242 : decode cX12_step 242 = .ok (.iaload, 1) := by decide +kernel
theorem dX12_step_243 : decode cX12_step 243 = .ok (.imul, 1) := by decide +kernel
theorem dX12_step_244 : decode cX12_step 244 = .ok (.iadd, 1) := by decide +kernel
theorem dX12_step_245 : decode cX12_step 245 = .ok (.iaload, 1) := by decide +kernel
theorem dX12_step_246 : decode cX12_step 246 = .ok (.invokevirtual 241, 3) := by decide +kernel
theorem dX12_step_249 : decode cX12_step 249 = .ok (.ifCond .ne 5, 3) := by decide +kernel
theorem dX12_step_252 : decode cX12_step 252 = .ok (.iconst 0, 1) := by decide +kernel
theorem dX12_step_253 : decode cX12_step 253 = .ok (.ireturn, 1) := by decide +kernel
theorem dX12_step_254 : decode cX12_step 254 = .ok (.iload_n 1, 1) := by decide +kernel
theorem dX12_step_255 : decode cX12_step 255 = .ok (.bipush 9, 2) := by decide +kernel
theorem dX12_step_257 : decode cX12_step 257 = .ok (.if_icmp .ne 38, 3) := by decide +kernel
theorem dX12_step_260 : decode cX12_step 260 = .ok (.aload_n 0, 1) := by decide +kernel
theorem dX12_step_261 : decode cX12_step 261 = .ok (.iload_n 3, 1) := by decide +kernel
theorem dX12_step_262 : decode cX12_step 262 = .ok (.iconst 2, 1) := by decide +kernel
theorem dX12_step_263 : decode cX12_step 263 = .ok (.iadd, 1) := by decide +kernel
theorem dX12_step_264 : decode cX12_step 264 = .ok (.iconst 1, 1) := by decide +kernel
theorem dX12_step_265 : decode cX12_step 265 = .ok (.bipush 99, 2) := by decide +kernel
theorem dX12_step_267 : decode cX12_step 267 = .ok (.invokevirtual 241, 3) := by decide +kernel
theorem dX12_step_270 : decode cX12_step 270 = .ok (.ifCond .ne 5, 3) := by decide +kernel
theorem dX12_step_273 : decode cX12_step 273 = .ok (.iconst 0, 1) := by decide +kernel
theorem dX12_step_274 : decode cX12_step 274 = .ok (.ireturn, 1) := by decide +kernel
theorem dX12_step_275 : decode cX12_step 275 = .ok (.aload_n 0, 1) := by decide +kernel
theorem dX12_step_276 : decode cX12_step 276 = .ok (.getfield 44, 3) := by decide +kernel
theorem dX12_step_279 : decode cX12_step 279 = .ok (.aload_n 0, 1) := by decide +kernel
theorem dX12_step_280 : decode cX12_step 280 = .ok (.getfield 251, 3) := by decide +kernel
theorem dX12_step_283 : decode cX12_step 283 = .ok (.iload_n 2, 1) := by decide +kernel
theorem dX12_step_284 : decode cX12_step 284 = .ok (.iastore, 1) := by decide +kernel
theorem dX12_step_285 : decode cX12_step 285 = .ok (.aload_n 0, 1) := by decide +kernel
theorem dX12_step_286 : decode cX12_step 286 = .ok (.dup, 1) := by decide +kernel
theorem dX12_step_287 : decode cX12_step 287 = .ok (.getfield 251, 3) := by decide +kernel
theorem dX12_step_290 : decode cX12_step 290 = .ok (.iconst 1, 1) := by decide +kernel
theorem dX12_step_291 : decode cX12_step 291 = .ok (.iadd, 1) := by decide +kernel
theorem dX12_step_292 : decode cX12_step 292 = .ok (.putfield 251, 3) := by decide +kernel
theorem dX12_step_295 : decode cX12_step 295 = .ok (.iload_n 1, 1) := by decide +kernel
theorem dX12_step_296 : decode cX12_step 296 = .ok (.bipush 10, 2) := by decide +kernel
theorem dX12_step_298 : decode cX12_step 298 = .ok (.if_icmp .ne 30, 3) := by decide +kernel
theorem dX12_step_301 : decode cX12_step 301 = .ok (.aload_n 0, 1) := by decide +kernel
theorem dX12_step_302 : decode cX12_step 302 = .ok (.dup, 1) := by decide +kernel
theorem dX12_step_303 : decode cX12_step 303 = .ok (.getfield 251, 3) := by decide +kernel
theorem dX12_step_306 : decode cX12_step 306 = .ok (.iconst 1, 1) := by decide +kernel
theorem dX12_step_307 : decode cX12_step 307 = .ok (.isub, 1) := by decide +kernel
theorem dX12_step_308 : decode cX12_step 308 = .ok (.putfield 251, 3) := by decide +kernel
theorem dX12_step_311 : decode cX12_step 311 = .ok (.aload_n 0, 1) := by decide +kernel
theorem dX12_step_312 : decode cX12_step 312 = .ok (.getfield 7, 3) := by decide +kernel
theorem dX12_step_315 : decode cX12_step 315 = .ok (.iload_n 3, 1) := by decide +kernel
theorem dX12_step_316 : decode cX12_step 316 = .ok (.iconst 3, 1) := by decide +kernel
theorem dX12_step_317 : decode cX12_step 317 = .ok (.iadd, 1) := by decide +kernel
theorem dX12_step_318 : decode cX12_step 318 = .ok (.aload_n 0, 1) := by decide +kernel
theorem dX12_step_319 : decode cX12_step 319 = .ok (.getfield 44, 3) := by decide +kernel
theorem dX12_step_322 : decode cX12_step 322 = .ok (.aload_n 0, 1) := by decide +kernel
theorem dX12_step_323 : decode cX12_step 323 = .ok (.getfield 251, 3) := by decide +kernel
theorem dX12_step_326 : decode cX12_step 326 = .ok (.iaload, 1) := by decide +kernel
theorem dX12_step_327 : decode cX12_step 327 = .ok (.iastore, 1) := by decide +kernel
theorem dX12_step_328 : decode cX12_step 328 = .ok (.aload_n 0, 1) := by decide +kernel
theorem dX12_step_329 : decode cX12_step 329 = .ok (.bipush 59, 2) := by decide +kernel
theorem dX12_step_331 : decode cX12_step 331 = .ok (.invokevirtual 231, 3) := by decide +kernel
theorem dX12_step_334 : decode cX12_step 334 = .ok (.ireturn, 1) := by decide +kernel
theorem mi_X12_step : MI yX12_step cX12_step 6 (some FieldType.boolean) 0 := ⟨w_1626, w_118, by decide +kernel, by decide +kernel, by decide +kernel⟩
set_option maxRecDepth 100000 in
set_option maxHeartbeats 4000000 in
theorem C_X12_step (G : GG) (l : Launch) (th : Nat) (S : St) (Q : Int32 → (Nat → Nat → Int32) → Prop) (hp : P_X12_step th S Q) : Ctr G l yX12_step cX12_step 6 (some FieldType.boolean) 7 154 0 0 [.ref th] S (fun (v : Option Value) (S9 : St) => ∃ (r : Int32) (I9 : Nat → Nat → Int32), v = some (.int r) ∧ S9 = wI S I9 ∧ Q r I9) := by
  generalize hQQ : (fun (v : Option Value) (S9 : St) => ∃ (r : Int32) (I9 : Nat → Nat → Int32), v = some (.int r) ∧ S9 = wI S I9 ∧ Q r I9) = QQ
  unfold P_X12_step at hp
  refine Ctr.of (by decide) (Nat.le_of_ble_eq_true rfl) ?_
  intro p e s m args below meth c ls B hr hlk hin hl hH
  generalize hlocs0 : ([] : List Loc) = locs at hH ⊢
  have hx := B.1
  have hb := B.2.1
  have hl : lv_has ls 6 [(0, .ref th)] := hl
  obtain ⟨hk_th, hp⟩ := hp
  refine lv_aload_n (pc := 0) hx hb dX12_step_0 rfl (lv_at hl 0 rfl) ?_
  refine sx_ldcS (pc := 1) 12 B (by decide) rfl rfl dX12_step_1 ?_
  refine sx_V (pc := 3) (As := [.ref (G.2.2.1 12)]) (rest := []) B hH hl.1 (C_X12_inWords G l th 12 _ _ hp) mi_X12_inWords coX12 hk_th w_1548 w_53 w_1546 rfl rfl ⟨Nat.le_of_ble_eq_true rfl, Nat.le_of_ble_eq_true rfl⟩ (Nat.le_of_ble_eq_true rfl) ⟨Nat.le_of_ble_eq_true rfl, Nat.le_of_ble_eq_true rfl⟩ dX12_step_3 (fun v S1 H locs hq hH => ?_)
  obtain ⟨r_1, rfl, e9, hp⟩ := hq
  rw [e9] at hH
  refine W.eq (g2 := F0 m 6 ls [.int r_1]) rfl ?_
  refine lv_istore_n (pc := 6) (lv' := [(1, .int r_1), (0, .ref th)]) hx hb dX12_step_6 rfl hl (by decide) rfl (fun ls hl => ?_)
  refine lv_aload_n (pc := 7) hx hb dX12_step_7 rfl (lv_at hl 1 rfl) ?_
  refine sx_getR (pc := 8) (j := 0) B hH hk_th coX12 rfl w_1304 rfl dX12_step_8 ?_
  refine W.eq (g2 := F0 m 11 ls [va_rf (gR S th 0)]) rfl ?_
  obtain ⟨a_2, ha_2, hp⟩ := hp
  refine sx_nonnull (x := a_2) ha_2 ?_
  refine lv_sipush (pc := 11) (v := 9684) hx hb dX12_step_11 (by decide) ?_
  obtain ⟨hk_3, hp⟩ := hp
  obtain ⟨hn_4, hp⟩ := hp
  refine sx_iald (pc := 14) B hH hk_3 hn_4 dX12_step_14 ?_
  refine W.eq (g2 := F0 m 15 ls [.int (gI S a_2 9684)]) rfl ?_
  refine lv_topi (fun v_5 ev_5 => ?_)
  have hp := hp v_5 ev_5
  refine lv_istore_n (pc := 15) (lv' := [(2, .int v_5), (1, .int r_1), (0, .ref th)]) hx hb dX12_step_15 rfl hl (by decide) rfl (fun ls hl => ?_)
  refine lv_sipush (pc := 16) (v := 9850) hx hb dX12_step_16 (by decide) ?_
  refine lv_iconst (pc := 19) (v := 4) hx hb dX12_step_19 (by decide) ?_
  refine lv_iload_n (pc := 20) hx hb dX12_step_20 rfl (lv_at hl 0 rfl) ?_
  refine lv_imul (pc := 21) hx hb dX12_step_21 ?_
  refine lv_iadd (pc := 22) hx hb dX12_step_22 ?_
  refine lv_topi (fun v_6 ev_6 => ?_)
  have hp := hp v_6 ev_6
  refine lv_istore_n (pc := 23) (lv' := [(3, .int v_6), (2, .int v_5), (1, .int r_1), (0, .ref th)]) hx hb dX12_step_23 rfl hl (by decide) rfl (fun ls hl => ?_)
  refine lv_iload_n (pc := 24) hx hb dX12_step_24 rfl (lv_at hl 2 rfl) ?_
  refine lv_bipush (pc := 25) (v := 7) hx hb dX12_step_25 (by decide) ?_
  obtain ⟨J_8, hj_8, hp⟩ := hp
  have kj_8 : ∀ (t_9 : Int32) (H : Heap) (locs : List Loc) (ls : Array Slot), J_8 t_9 → Hp G (FA S s.heap.size) s.heap S H locs → lv_has ls 6 [(0, .ref th), (1, .int r_1), (2, .int v_5), (3, .int v_6)] → Wm G p l e { frames := 7, cells := 0, slots := 0, locals := 154 } s m args below meth c S QQ 0 0 H locs 0 0 (F0 m 52 ls [.int t_9]) := by
    intro t_9 H locs ls hq9 hH hl
    have hp := hj_8 t_9 hq9
    refine lv_istore (pc := 52) (lv' := [(4, .int t_9), (0, .ref th), (1, .int r_1), (2, .int v_5), (3, .int v_6)]) hx hb dX12_step_52 hl (by decide) rfl (fun ls hl => ?_)
    refine lv_iload (pc := 54) hx hb dX12_step_54 (lv_at hl 0 rfl) ?_
    obtain ⟨J_11, hj_11, hp⟩ := hp
    have kj_11 : ∀  (H : Heap) (locs : List Loc) (ls : Array Slot), J_11  → Hp G (FA S s.heap.size) s.heap S H locs → lv_has ls 6 [(0, .ref th), (1, .int r_1), (2, .int v_5), (3, .int v_6), (4, .int t_9)] → Wm G p l e { frames := 7, cells := 0, slots := 0, locals := 154 } s m args below meth c S QQ 0 0 H locs 0 0 (F0 m 90 ls []) := by
      intro  H locs ls hq9 hH hl
      have hp := hj_11  hq9
      refine lv_iload_n (pc := 90) hx hb dX12_step_90 rfl (lv_at hl 1 rfl) ?_
      refine lv_bipush (pc := 91) (v := 10) hx hb dX12_step_91 (by decide) ?_
      obtain ⟨J_13, hj_13, hp⟩ := hp
      have kj_13 : ∀  (H : Heap) (locs : List Loc) (ls : Array Slot), J_13  → Hp G (FA S s.heap.size) s.heap S H locs → lv_has ls 6 [(0, .ref th), (1, .int r_1), (2, .int v_5), (3, .int v_6), (4, .int t_9)] → Wm G p l e { frames := 7, cells := 0, slots := 0, locals := 154 } s m args below meth c S QQ 0 0 H locs 0 0 (F0 m 112 ls []) := by
        intro  H locs ls hq9 hH hl
        have hp := hj_13  hq9
        refine lv_iload_n (pc := 112) hx hb dX12_step_112 rfl (lv_at hl 1 rfl) ?_
        refine lv_bipush (pc := 113) (v := 9) hx hb dX12_step_113 (by decide) ?_
        obtain ⟨J_15, hj_15, hp⟩ := hp
        have kj_15 : ∀  (H : Heap) (locs : List Loc) (ls : Array Slot), J_15  → Hp G (FA S s.heap.size) s.heap S H locs → lv_has ls 6 [(0, .ref th), (1, .int r_1), (2, .int v_5), (3, .int v_6), (4, .int t_9)] → Wm G p l e { frames := 7, cells := 0, slots := 0, locals := 154 } s m args below meth c S QQ 0 0 H locs 0 0 (F0 m 133 ls []) := by
          intro  H locs ls hq9 hH hl
          have hp := hj_15  hq9
          refine lv_aload_n (pc := 133) hx hb dX12_step_133 rfl (lv_at hl 0 rfl) ?_
          refine lv_dup (pc := 134) hx hb dX12_step_134 rfl ?_
          refine sx_getI (pc := 135) (j := 22) B hH hk_th coX12 rfl w_1326 rfl dX12_step_135 ?_
          refine W.eq (g2 := F0 m 138 ls [.int (gI S th 22), .ref th]) rfl ?_
          refine lv_iload_n (pc := 138) hx hb dX12_step_138 rfl (lv_at hl 1 rfl) ?_
          refine lv_bipush (pc := 139) (v := 10) hx hb dX12_step_139 (by decide) ?_
          obtain ⟨J_17, hj_17, hp⟩ := hp
          have kj_17 : ∀ (t_18 : Int32) (H : Heap) (locs : List Loc) (ls : Array Slot), J_17 t_18 → Hp G (FA S s.heap.size) s.heap S H locs → lv_has ls 6 [(0, .ref th), (1, .int r_1), (2, .int v_5), (3, .int v_6), (4, .int t_9)] → Wm G p l e { frames := 7, cells := 0, slots := 0, locals := 154 } s m args below meth c S QQ 0 0 H locs 0 0 (F0 m 149 ls [.int t_18, .int (gI S th 22), .ref th]) := by
            intro t_18 H locs ls hq9 hH hl
            have hp := hj_17 t_18 hq9
            refine lv_iadd (pc := 149) hx hb dX12_step_149 ?_
            refine lv_topi (fun v_19 ev_19 => ?_)
            have hp := hp v_19 ev_19
            obtain ⟨F_20, eF_20⟩ : ∃ z : Nat → Nat → Int32, z = upI (gI S) th 22 v_19 := ⟨_, rfl⟩
            have hp := hp F_20 eF_20
            refine sx_putI (pc := 150) (j := 22) B hH hk_th coX12 rfl w_1326 rfl (Or.inl rfl) rfl dX12_step_150 (fun H locs hH => ?_)
            have hH : Hp G (FA S s.heap.size) s.heap (wI S F_20) H locs := by rw [eF_20]; exact hH
            refine lv_aload_n (pc := 153) hx hb dX12_step_153 rfl (lv_at hl 0 rfl) ?_
            refine sx_getR (pc := 154) (j := 0) B hH hk_th coX12 rfl w_1304 rfl dX12_step_154 ?_
            refine W.eq (g2 := F0 m 157 ls [va_rf (gR S th 0)]) rfl ?_
            refine sx_nonnull (x := a_2) ha_2 ?_
            refine lv_iload_n (pc := 157) hx hb dX12_step_157 rfl (lv_at hl 3 rfl) ?_
            refine lv_iload_n (pc := 158) hx hb dX12_step_158 rfl (lv_at hl 1 rfl) ?_
            obtain ⟨hn_21, hp⟩ := hp
            obtain ⟨F_22, eF_22⟩ : ∃ z : Nat → Nat → Int32, z = upI F_20 a_2 v_6.toNatClampNeg r_1 := ⟨_, rfl⟩
            have hp := hp F_22 eF_22
            refine sx_iast (pc := 159) B hH hk_3 hn_21 dX12_step_159 (fun H locs hH => ?_)
            have hH : Hp G (FA S s.heap.size) s.heap (wI S F_22) H locs := by rw [eF_22]; exact hH
            refine lv_iconst (pc := 160) (v := 1) hx hb dX12_step_160 (by decide) ?_
            refine lv_istore (pc := 161) (lv' := [(5, .int 1), (0, .ref th), (1, .int r_1), (2, .int v_5), (3, .int v_6), (4, .int t_9)]) hx hb dX12_step_161 hl (by decide) rfl (fun ls hl => ?_)
            obtain ⟨I_23, ⟨k0_23, h0_23⟩, hst_23⟩ := hp
            have kl_23 : ∀ (n_23 : Nat) (x5_24 : Int32) (F_25 : Nat → Nat → Int32) (H : Heap) (locs : List Loc) (ls : Array Slot), I_23 n_23 x5_24 F_25 → Hp G (FA S s.heap.size) s.heap (wI S F_25) H locs → lv_has ls 6 [(0, .ref th), (1, .int r_1), (2, .int v_5), (3, .int v_6), (4, .int t_9), (5, .int x5_24)] → Wm G p l e { frames := 7, cells := 0, slots := 0, locals := 154 } s m args below meth c S QQ 0 0 H locs 0 0 (F0 m 163 ls []) := by
              intro n_23
              induction n_23 using Nat.strongRecOn with
              | ind n_23 ih_23 =>
                intro x5_24 F_25 H locs ls hq9 hH hl
                have hp := hst_23 n_23 x5_24 F_25 hq9
                refine lv_iload (pc := 163) hx hb dX12_step_163 (lv_at hl 5 rfl) ?_
                refine lv_iconst (pc := 165) (v := 4) hx hb dX12_step_165 (by decide) ?_
                refine lv_icmp_ge (pc := 166) (tgt := 185) hx hb dX12_step_166 (by decide) (fun cc_26 => ?_) (fun cc_26 => ?_)
                · have hp := hp.1 cc_26
                  refine lv_aload_n (pc := 185) hx hb dX12_step_185 rfl (lv_at hl 0 rfl) ?_
                  refine sx_getR (pc := 186) (j := 0) B hH hk_th coX12 rfl w_1304 rfl dX12_step_186 ?_
                  refine W.eq (g2 := F0 m 189 ls [va_rf (gR S th 0)]) rfl ?_
                  refine sx_nonnull (x := a_2) ha_2 ?_
                  refine lv_sipush (pc := 189) (v := 9684) hx hb dX12_step_189 (by decide) ?_
                  refine lv_dup2_11 (pc := 192) hx hb dX12_step_192 rfl rfl ?_
                  refine sx_iald (pc := 193) B hH hk_3 hn_4 dX12_step_193 ?_
                  refine W.eq (g2 := F0 m 194 ls [.int (F_25 a_2 9684), .int 9684, .ref a_2]) rfl ?_
                  refine lv_iconst (pc := 194) (v := 1) hx hb dX12_step_194 (by decide) ?_
                  refine lv_iadd (pc := 195) hx hb dX12_step_195 ?_
                  refine lv_topi (fun v_27 ev_27 => ?_)
                  have hp := hp v_27 ev_27
                  obtain ⟨F_28, eF_28⟩ : ∃ z : Nat → Nat → Int32, z = upI F_25 a_2 9684 v_27 := ⟨_, rfl⟩
                  have hp := hp F_28 eF_28
                  refine sx_iast (pc := 196) B hH hk_3 hn_4 dX12_step_196 (fun H locs hH => ?_)
                  have hH : Hp G (FA S s.heap.size) s.heap (wI S F_28) H locs := by rw [eF_28]; exact hH
                  refine lv_aload_n (pc := 197) hx hb dX12_step_197 rfl (lv_at hl 0 rfl) ?_
                  refine sx_V (pc := 198) (As := []) (rest := []) B hH hl.1 (C_X12_ahead G l th _ _ hp) mi_X12_ahead coX12 hk_th w_1523 w_49 w_1521 rfl rfl ⟨Nat.le_of_ble_eq_true rfl, Nat.le_of_ble_eq_true rfl⟩ (Nat.le_of_ble_eq_true rfl) ⟨Nat.le_of_ble_eq_true rfl, Nat.le_of_ble_eq_true rfl⟩ dX12_step_198 (fun v S1 H locs hq hH => ?_)
                  obtain ⟨F_29, rfl, e9, hp⟩ := hq
                  rw [e9] at hH
                  have hH : Hp G (FA S s.heap.size) s.heap (wI S F_29) H locs := hH
                  refine W.eq (g2 := F0 m 201 ls []) rfl ?_
                  refine lv_iload (pc := 201) hx hb dX12_step_201 (lv_at hl 4 rfl) ?_
                  obtain ⟨J_31, hj_31, hp⟩ := hp
                  have kj_31 : ∀ (F_32 : Nat → Nat → Int32) (H : Heap) (locs : List Loc) (ls : Array Slot), J_31 F_32 → Hp G (FA S s.heap.size) s.heap (wI S F_32) H locs → lv_has ls 6 [(0, .ref th), (1, .int r_1), (2, .int v_5), (3, .int v_6)] → Wm G p l e { frames := 7, cells := 0, slots := 0, locals := 154 } s m args below meth c S QQ 0 0 H locs 0 0 (F0 m 216 ls []) := by
                    intro F_32 H locs ls hq9 hH hl
                    have hp := hj_31 F_32 hq9
                    refine lv_iload_n (pc := 216) hx hb dX12_step_216 rfl (lv_at hl 1 rfl) ?_
                    refine lv_bipush (pc := 217) (v := 8) hx hb dX12_step_217 (by decide) ?_
                    obtain ⟨J_34, hj_34, hp⟩ := hp
                    have kj_34 : ∀ (F_35 : Nat → Nat → Int32) (H : Heap) (locs : List Loc) (ls : Array Slot), J_34 F_35 → Hp G (FA S s.heap.size) s.heap (wI S F_35) H locs → lv_has ls 6 [(0, .ref th), (1, .int r_1), (2, .int v_5), (3, .int v_6)] → Wm G p l e { frames := 7, cells := 0, slots := 0, locals := 154 } s m args below meth c S QQ 0 0 H locs 0 0 (F0 m 254 ls []) := by
                      intro F_35 H locs ls hq9 hH hl
                      have hp := hj_34 F_35 hq9
                      refine lv_iload_n (pc := 254) hx hb dX12_step_254 rfl (lv_at hl 1 rfl) ?_
                      refine lv_bipush (pc := 255) (v := 9) hx hb dX12_step_255 (by decide) ?_
                      obtain ⟨J_37, hj_37, hp⟩ := hp
                      have kj_37 : ∀ (F_38 : Nat → Nat → Int32) (H : Heap) (locs : List Loc) (ls : Array Slot), J_37 F_38 → Hp G (FA S s.heap.size) s.heap (wI S F_38) H locs → lv_has ls 6 [(0, .ref th), (1, .int r_1), (3, .int v_6)] → Wm G p l e { frames := 7, cells := 0, slots := 0, locals := 154 } s m args below meth c S QQ 0 0 H locs 0 0 (F0 m 295 ls []) := by
                        intro F_38 H locs ls hq9 hH hl
                        have hp := hj_37 F_38 hq9
                        refine lv_iload_n (pc := 295) hx hb dX12_step_295 rfl (lv_at hl 1 rfl) ?_
                        refine lv_bipush (pc := 296) (v := 10) hx hb dX12_step_296 (by decide) ?_
                        obtain ⟨J_40, hj_40, hp⟩ := hp
                        have kj_40 : ∀ (F_41 : Nat → Nat → Int32) (H : Heap) (locs : List Loc) (ls : Array Slot), J_40 F_41 → Hp G (FA S s.heap.size) s.heap (wI S F_41) H locs → lv_has ls 6 [(0, .ref th)] → Wm G p l e { frames := 7, cells := 0, slots := 0, locals := 154 } s m args below meth c S QQ 0 0 H locs 0 0 (F0 m 328 ls []) := by
                          intro F_41 H locs ls hq9 hH hl
                          have hp := hj_40 F_41 hq9
                          refine lv_aload_n (pc := 328) hx hb dX12_step_328 rfl (lv_at hl 0 rfl) ?_
                          refine lv_bipush (pc := 329) (v := 59) hx hb dX12_step_329 (by decide) ?_
                          refine sx_V (pc := 331) (As := [.int 59]) (rest := []) B hH hl.1 (C_X12_wantSign G l th 59 _ _ hp) mi_X12_wantSign coX12 hk_th w_1562 w_56 w_1560 rfl rfl ⟨Nat.le_of_ble_eq_true rfl, Nat.le_of_ble_eq_true rfl⟩ (Nat.le_of_ble_eq_true rfl) ⟨Nat.le_of_ble_eq_true rfl, Nat.le_of_ble_eq_true rfl⟩ dX12_step_331 (fun v S1 H locs hq hH => ?_)
                          obtain ⟨r_42, F_42, rfl, e9, hp⟩ := hq
                          rw [e9] at hH
                          have hH : Hp G (FA S s.heap.size) s.heap (wI S F_42) H locs := hH
                          refine W.eq (g2 := F0 m 334 ls [.int r_42]) rfl ?_
                          obtain ⟨hz, hp⟩ := hp
                          exact sx_zret (pc := 334) B hH hr hlk hz (by rw [← hQQ]; exact ⟨_, F_42, rfl, rfl, hp⟩) (Nat.le_of_ble_eq_true rfl) (Nat.le_of_ble_eq_true rfl) dX12_step_334
                        refine lv_icmp_ne (pc := 298) (tgt := 328) hx hb dX12_step_298 (by decide) (fun cc_39 => ?_) (fun cc_39 => ?_)
                        · have hp := hp.1 cc_39
                          exact kj_40 _ _ _ _ hp hH (lv_sub hl [0] rfl)
                        · have hp := hp.2 cc_39
                          refine lv_aload_n (pc := 301) hx hb dX12_step_301 rfl (lv_at hl 0 rfl) ?_
                          refine lv_dup (pc := 302) hx hb dX12_step_302 rfl ?_
                          refine sx_getI (pc := 303) (j := 21) B hH hk_th coX12 rfl w_1325 rfl dX12_step_303 ?_
                          refine W.eq (g2 := F0 m 306 ls [.int (F_38 th 21), .ref th]) rfl ?_
                          refine lv_iconst (pc := 306) (v := 1) hx hb dX12_step_306 (by decide) ?_
                          refine lv_isub (pc := 307) hx hb dX12_step_307 ?_
                          refine lv_topi (fun v_43 ev_43 => ?_)
                          have hp := hp v_43 ev_43
                          obtain ⟨F_44, eF_44⟩ : ∃ z : Nat → Nat → Int32, z = upI F_38 th 21 v_43 := ⟨_, rfl⟩
                          have hp := hp F_44 eF_44
                          refine sx_putI (pc := 308) (j := 21) B hH hk_th coX12 rfl w_1325 rfl (Or.inl rfl) rfl dX12_step_308 (fun H locs hH => ?_)
                          have hH : Hp G (FA S s.heap.size) s.heap (wI S F_44) H locs := by rw [eF_44]; exact hH
                          refine lv_aload_n (pc := 311) hx hb dX12_step_311 rfl (lv_at hl 0 rfl) ?_
                          refine sx_getR (pc := 312) (j := 0) B hH hk_th coX12 rfl w_1304 rfl dX12_step_312 ?_
                          refine W.eq (g2 := F0 m 315 ls [va_rf (gR S th 0)]) rfl ?_
                          refine sx_nonnull (x := a_2) ha_2 ?_
                          refine lv_iload_n (pc := 315) hx hb dX12_step_315 rfl (lv_at hl 2 rfl) ?_
                          refine lv_iconst (pc := 316) (v := 3) hx hb dX12_step_316 (by decide) ?_
                          refine lv_iadd (pc := 317) hx hb dX12_step_317 ?_
                          refine lv_aload_n (pc := 318) hx hb dX12_step_318 rfl (lv_at hl 0 rfl) ?_
                          refine sx_getR (pc := 319) (j := 20) B hH hk_th coX12 rfl w_1324 rfl dX12_step_319 ?_
                          refine W.eq (g2 := F0 m 322 ls [va_rf (gR S th 20), .int (v_6 + 3), .ref a_2]) rfl ?_
                          obtain ⟨a_45, ha_45, hp⟩ := hp
                          refine sx_nonnull (x := a_45) ha_45 ?_
                          refine lv_aload_n (pc := 322) hx hb dX12_step_322 rfl (lv_at hl 0 rfl) ?_
                          refine sx_getI (pc := 323) (j := 21) B hH hk_th coX12 rfl w_1325 rfl dX12_step_323 ?_
                          refine W.eq (g2 := F0 m 326 ls [.int (F_44 th 21), .ref a_45, .int (v_6 + 3), .ref a_2]) rfl ?_
                          obtain ⟨hk_46, hp⟩ := hp
                          obtain ⟨hn_47, hp⟩ := hp
                          refine sx_iald (pc := 326) B hH hk_46 hn_47 dX12_step_326 ?_
                          refine W.eq (g2 := F0 m 327 ls [.int (F_44 a_45 ((F_44 th 21).toNatClampNeg)), .int (v_6 + 3), .ref a_2]) rfl ?_
                          obtain ⟨hn_48, hp⟩ := hp
                          refine lv_topi (fun v_49 ev_49 => ?_)
                          have hp := hp v_49 ev_49
                          obtain ⟨F_50, eF_50⟩ : ∃ z : Nat → Nat → Int32, z = upI F_44 a_2 ((v_6 + 3).toNatClampNeg) v_49 := ⟨_, rfl⟩
                          have hp := hp F_50 eF_50
                          refine sx_iast (pc := 327) B hH hk_3 hn_48 dX12_step_327 (fun H locs hH => ?_)
                          have hH : Hp G (FA S s.heap.size) s.heap (wI S F_50) H locs := by rw [eF_50]; exact hH
                          exact kj_40 _ _ _ _ hp hH (lv_sub hl [0] rfl)
                      refine lv_icmp_ne (pc := 257) (tgt := 295) hx hb dX12_step_257 (by decide) (fun cc_36 => ?_) (fun cc_36 => ?_)
                      · have hp := hp.1 cc_36
                        exact kj_37 _ _ _ _ hp hH (lv_sub hl [0, 1, 3] rfl)
                      · have hp := hp.2 cc_36
                        refine lv_aload_n (pc := 260) hx hb dX12_step_260 rfl (lv_at hl 0 rfl) ?_
                        refine lv_iload_n (pc := 261) hx hb dX12_step_261 rfl (lv_at hl 3 rfl) ?_
                        refine lv_iconst (pc := 262) (v := 2) hx hb dX12_step_262 (by decide) ?_
                        refine lv_iadd (pc := 263) hx hb dX12_step_263 ?_
                        refine lv_iconst (pc := 264) (v := 1) hx hb dX12_step_264 (by decide) ?_
                        refine lv_bipush (pc := 265) (v := 99) hx hb dX12_step_265 (by decide) ?_
                        refine sx_V (pc := 267) (As := [.int (v_6 + 2), .int 1, .int 99]) (rest := []) B hH hl.1 (C_X12_numberTo G l th (v_6 + 2) 1 99 _ _ hp) mi_X12_numberTo coX12 hk_th w_1558 w_55 w_1556 rfl rfl ⟨Nat.le_of_ble_eq_true rfl, Nat.le_of_ble_eq_true rfl⟩ (Nat.le_of_ble_eq_true rfl) ⟨Nat.le_of_ble_eq_true rfl, Nat.le_of_ble_eq_true rfl⟩ dX12_step_267 (fun v S1 H locs hq hH => ?_)
                        obtain ⟨r_51, F_51, rfl, e9, hp⟩ := hq
                        rw [e9] at hH
                        have hH : Hp G (FA S s.heap.size) s.heap (wI S F_51) H locs := hH
                        refine W.eq (g2 := F0 m 270 ls [.int r_51]) rfl ?_
                        refine lv_if_ne (pc := 270) (tgt := 275) hx hb dX12_step_270 (by decide) (fun cc_52 => ?_) (fun cc_52 => ?_)
                        · have hp := hp.1 cc_52
                          refine lv_aload_n (pc := 275) hx hb dX12_step_275 rfl (lv_at hl 0 rfl) ?_
                          refine sx_getR (pc := 276) (j := 20) B hH hk_th coX12 rfl w_1324 rfl dX12_step_276 ?_
                          refine W.eq (g2 := F0 m 279 ls [va_rf (gR S th 20)]) rfl ?_
                          obtain ⟨a_53, ha_53, hp⟩ := hp
                          refine sx_nonnull (x := a_53) ha_53 ?_
                          refine lv_aload_n (pc := 279) hx hb dX12_step_279 rfl (lv_at hl 0 rfl) ?_
                          refine sx_getI (pc := 280) (j := 21) B hH hk_th coX12 rfl w_1325 rfl dX12_step_280 ?_
                          refine W.eq (g2 := F0 m 283 ls [.int (F_51 th 21), .ref a_53]) rfl ?_
                          refine lv_iload_n (pc := 283) hx hb dX12_step_283 rfl (lv_at hl 2 rfl) ?_
                          obtain ⟨hk_54, hp⟩ := hp
                          obtain ⟨hn_55, hp⟩ := hp
                          obtain ⟨F_56, eF_56⟩ : ∃ z : Nat → Nat → Int32, z = upI F_51 a_53 ((F_51 th 21).toNatClampNeg) v_5 := ⟨_, rfl⟩
                          have hp := hp F_56 eF_56
                          refine sx_iast (pc := 284) B hH hk_54 hn_55 dX12_step_284 (fun H locs hH => ?_)
                          have hH : Hp G (FA S s.heap.size) s.heap (wI S F_56) H locs := by rw [eF_56]; exact hH
                          refine lv_aload_n (pc := 285) hx hb dX12_step_285 rfl (lv_at hl 0 rfl) ?_
                          refine lv_dup (pc := 286) hx hb dX12_step_286 rfl ?_
                          refine sx_getI (pc := 287) (j := 21) B hH hk_th coX12 rfl w_1325 rfl dX12_step_287 ?_
                          refine W.eq (g2 := F0 m 290 ls [.int (F_56 th 21), .ref th]) rfl ?_
                          refine lv_iconst (pc := 290) (v := 1) hx hb dX12_step_290 (by decide) ?_
                          refine lv_iadd (pc := 291) hx hb dX12_step_291 ?_
                          refine lv_topi (fun v_57 ev_57 => ?_)
                          have hp := hp v_57 ev_57
                          obtain ⟨F_58, eF_58⟩ : ∃ z : Nat → Nat → Int32, z = upI F_56 th 21 v_57 := ⟨_, rfl⟩
                          have hp := hp F_58 eF_58
                          refine sx_putI (pc := 292) (j := 21) B hH hk_th coX12 rfl w_1325 rfl (Or.inl rfl) rfl dX12_step_292 (fun H locs hH => ?_)
                          have hH : Hp G (FA S s.heap.size) s.heap (wI S F_58) H locs := by rw [eF_58]; exact hH
                          exact kj_37 _ _ _ _ hp hH (lv_sub hl [0, 1, 3] rfl)
                        · have hp := hp.2 cc_52
                          refine lv_iconst (pc := 273) (v := 0) hx hb dX12_step_273 (by decide) ?_
                          exact sx_zret (pc := 274) B hH hr hlk (Or.inl rfl) (by rw [← hQQ]; exact ⟨_, F_51, rfl, rfl, hp⟩) (Nat.le_of_ble_eq_true rfl) (Nat.le_of_ble_eq_true rfl) dX12_step_274
                    refine lv_icmp_ne (pc := 219) (tgt := 254) hx hb dX12_step_219 (by decide) (fun cc_33 => ?_) (fun cc_33 => ?_)
                    · have hp := hp.1 cc_33
                      exact kj_34 _ _ _ _ hp hH (lv_sub hl [0, 1, 2, 3] rfl)
                    · have hp := hp.2 cc_33
                      refine lv_aload_n (pc := 222) hx hb dX12_step_222 rfl (lv_at hl 0 rfl) ?_
                      refine lv_iload_n (pc := 223) hx hb dX12_step_223 rfl (lv_at hl 3 rfl) ?_
                      refine lv_iconst (pc := 224) (v := 2) hx hb dX12_step_224 (by decide) ?_
                      refine lv_iadd (pc := 225) hx hb dX12_step_225 ?_
                      refine lv_iconst (pc := 226) (v := 1) hx hb dX12_step_226 (by decide) ?_
                      refine lv_aload_n (pc := 227) hx hb dX12_step_227 rfl (lv_at hl 0 rfl) ?_
                      refine sx_getR (pc := 228) (j := 0) B hH hk_th coX12 rfl w_1304 rfl dX12_step_228 ?_
                      refine W.eq (g2 := F0 m 231 ls [va_rf (gR S th 0), .int 1, .int (v_6 + 2), .ref th]) rfl ?_
                      refine sx_nonnull (x := a_2) ha_2 ?_
                      refine lv_bipush (pc := 231) (v := 10) hx hb dX12_step_231 (by decide) ?_
                      refine lv_bipush (pc := 233) (v := 40) hx hb dX12_step_233 (by decide) ?_
                      refine lv_aload_n (pc := 235) hx hb dX12_step_235 rfl (lv_at hl 0 rfl) ?_
                      refine sx_getR (pc := 236) (j := 0) B hH hk_th coX12 rfl w_1304 rfl dX12_step_236 ?_
                      refine W.eq (g2 := F0 m 239 ls [va_rf (gR S th 0), .int 40, .int 10, .ref a_2, .int 1, .int (v_6 + 2), .ref th]) rfl ?_
                      refine sx_nonnull (x := a_2) ha_2 ?_
                      refine lv_iload_n (pc := 239) hx hb dX12_step_239 rfl (lv_at hl 3 rfl) ?_
                      refine lv_iconst (pc := 240) (v := 1) hx hb dX12_step_240 (by decide) ?_
                      refine lv_iadd (pc := 241) hx hb dX12_step_241 ?_
                      obtain ⟨hn_59, hp⟩ := hp
                      refine sx_iald (pc := 242) B hH hk_3 hn_59 dX12_step_242 ?_
                      refine W.eq (g2 := F0 m 243 ls [.int (F_32 a_2 ((v_6 + 1).toNatClampNeg)), .int 40, .int 10, .ref a_2, .int 1, .int (v_6 + 2), .ref th]) rfl ?_
                      refine lv_imul (pc := 243) hx hb dX12_step_243 ?_
                      refine lv_iadd (pc := 244) hx hb dX12_step_244 ?_
                      obtain ⟨hn_60, hp⟩ := hp
                      refine sx_iald (pc := 245) B hH hk_3 hn_60 dX12_step_245 ?_
                      refine W.eq (g2 := F0 m 246 ls [.int (F_32 a_2 ((10 + (40 * (F_32 a_2 ((v_6 + 1).toNatClampNeg)))).toNatClampNeg)), .int 1, .int (v_6 + 2), .ref th]) rfl ?_
                      refine sx_V (pc := 246) (As := [.int (v_6 + 2), .int 1, .int (F_32 a_2 ((10 + (40 * (F_32 a_2 ((v_6 + 1).toNatClampNeg)))).toNatClampNeg))]) (rest := []) B hH hl.1 (C_X12_numberTo G l th (v_6 + 2) 1 (F_32 a_2 ((10 + (40 * (F_32 a_2 ((v_6 + 1).toNatClampNeg)))).toNatClampNeg)) _ _ hp) mi_X12_numberTo coX12 hk_th w_1558 w_55 w_1556 rfl rfl ⟨Nat.le_of_ble_eq_true rfl, Nat.le_of_ble_eq_true rfl⟩ (Nat.le_of_ble_eq_true rfl) ⟨Nat.le_of_ble_eq_true rfl, Nat.le_of_ble_eq_true rfl⟩ dX12_step_246 (fun v S1 H locs hq hH => ?_)
                      obtain ⟨r_61, F_61, rfl, e9, hp⟩ := hq
                      rw [e9] at hH
                      have hH : Hp G (FA S s.heap.size) s.heap (wI S F_61) H locs := hH
                      refine W.eq (g2 := F0 m 249 ls [.int r_61]) rfl ?_
                      refine lv_if_ne (pc := 249) (tgt := 254) hx hb dX12_step_249 (by decide) (fun cc_62 => ?_) (fun cc_62 => ?_)
                      · have hp := hp.1 cc_62
                        exact kj_34 _ _ _ _ hp hH (lv_sub hl [0, 1, 2, 3] rfl)
                      · have hp := hp.2 cc_62
                        refine lv_iconst (pc := 252) (v := 0) hx hb dX12_step_252 (by decide) ?_
                        exact sx_zret (pc := 253) B hH hr hlk (Or.inl rfl) (by rw [← hQQ]; exact ⟨_, F_61, rfl, rfl, hp⟩) (Nat.le_of_ble_eq_true rfl) (Nat.le_of_ble_eq_true rfl) dX12_step_253
                  refine lv_if_eq (pc := 203) (tgt := 216) hx hb dX12_step_203 (by decide) (fun cc_30 => ?_) (fun cc_30 => ?_)
                  · have hp := hp.1 cc_30
                    exact kj_31 _ _ _ _ hp hH (lv_sub hl [0, 1, 2, 3] rfl)
                  · have hp := hp.2 cc_30
                    refine lv_aload_n (pc := 206) hx hb dX12_step_206 rfl (lv_at hl 0 rfl) ?_
                    refine lv_iload_n (pc := 207) hx hb dX12_step_207 rfl (lv_at hl 3 rfl) ?_
                    refine sx_V (pc := 208) (As := [.int v_6]) (rest := []) B hH hl.1 (C_X12_aLead G l th v_6 _ _ hp) mi_X12_aLead coX12 hk_th w_1629 w_71 w_1627 rfl rfl ⟨Nat.le_of_ble_eq_true rfl, Nat.le_of_ble_eq_true rfl⟩ (Nat.le_of_ble_eq_true rfl) ⟨Nat.le_of_ble_eq_true rfl, Nat.le_of_ble_eq_true rfl⟩ dX12_step_208 (fun v S1 H locs hq hH => ?_)
                    obtain ⟨r_63, F_63, rfl, e9, hp⟩ := hq
                    rw [e9] at hH
                    have hH : Hp G (FA S s.heap.size) s.heap (wI S F_63) H locs := hH
                    refine W.eq (g2 := F0 m 211 ls [.int r_63]) rfl ?_
                    refine lv_if_ne (pc := 211) (tgt := 216) hx hb dX12_step_211 (by decide) (fun cc_64 => ?_) (fun cc_64 => ?_)
                    · have hp := hp.1 cc_64
                      exact kj_31 _ _ _ _ hp hH (lv_sub hl [0, 1, 2, 3] rfl)
                    · have hp := hp.2 cc_64
                      refine lv_iconst (pc := 214) (v := 0) hx hb dX12_step_214 (by decide) ?_
                      exact sx_zret (pc := 215) B hH hr hlk (Or.inl rfl) (by rw [← hQQ]; exact ⟨_, F_63, rfl, rfl, hp⟩) (Nat.le_of_ble_eq_true rfl) (Nat.le_of_ble_eq_true rfl) dX12_step_215
                · have hp := hp.2 cc_26
                  refine lv_aload_n (pc := 169) hx hb dX12_step_169 rfl (lv_at hl 0 rfl) ?_
                  refine sx_getR (pc := 170) (j := 0) B hH hk_th coX12 rfl w_1304 rfl dX12_step_170 ?_
                  refine W.eq (g2 := F0 m 173 ls [va_rf (gR S th 0)]) rfl ?_
                  refine sx_nonnull (x := a_2) ha_2 ?_
                  refine lv_iload_n (pc := 173) hx hb dX12_step_173 rfl (lv_at hl 3 rfl) ?_
                  refine lv_iload (pc := 174) hx hb dX12_step_174 (lv_at hl 5 rfl) ?_
                  refine lv_iadd (pc := 176) hx hb dX12_step_176 ?_
                  refine lv_iconst (pc := 177) (v := 0) hx hb dX12_step_177 (by decide) ?_
                  obtain ⟨hn_65, hp⟩ := hp
                  obtain ⟨F_66, eF_66⟩ : ∃ z : Nat → Nat → Int32, z = upI F_25 a_2 ((v_6 + x5_24).toNatClampNeg) 0 := ⟨_, rfl⟩
                  have hp := hp F_66 eF_66
                  refine sx_iast (pc := 178) B hH hk_3 hn_65 dX12_step_178 (fun H locs hH => ?_)
                  have hH : Hp G (FA S s.heap.size) s.heap (wI S F_66) H locs := by rw [eF_66]; exact hH
                  obtain ⟨v_67, ev_67⟩ : ∃ y : Int32, y = x5_24 + 1 := ⟨_, rfl⟩
                  have hp := hp v_67 ev_67
                  refine lv_iinc (pc := 179) (v := v_67) (lv' := [(5, .int v_67), (0, .ref th), (1, .int r_1), (2, .int v_5), (3, .int v_6), (4, .int t_9)]) hx hb dX12_step_179 hl (k := 5) rfl (by rw [ev_67]; rfl) (by decide) rfl (fun ls hl => ?_)
                  refine lv_goto (pc := 182) (tgt := 163) hx hb dX12_step_182 (by decide) ?_
                  obtain ⟨k9, hlt9, hp⟩ := hp
                  exact ih_23 k9 hlt9 _ _ _ _ _ hp hH (lv_sub hl [1, 2, 3, 4, 5, 0] rfl)
            exact kl_23 k0_23 _ _ _ _ _ h0_23 hH (lv_sub hl [1, 2, 3, 4, 5, 0] rfl)
          refine lv_icmp_ne (pc := 141) (tgt := 148) hx hb dX12_step_141 (by decide) (fun cc_16 => ?_) (fun cc_16 => ?_)
          · have hp := hp.1 cc_16
            refine lv_iconst (pc := 148) (v := 1) hx hb dX12_step_148 (by decide) ?_
            exact kj_17 _ _ _ _ hp hH (lv_sub hl [0, 1, 2, 3, 4] rfl)
          · have hp := hp.2 cc_16
            refine lv_iconst (pc := 144) (v := 0) hx hb dX12_step_144 (by decide) ?_
            refine lv_goto (pc := 145) (tgt := 149) hx hb dX12_step_145 (by decide) ?_
            exact kj_17 _ _ _ _ hp hH (lv_sub hl [0, 1, 2, 3, 4] rfl)
        refine lv_icmp_ne (pc := 115) (tgt := 133) hx hb dX12_step_115 (by decide) (fun cc_14 => ?_) (fun cc_14 => ?_)
        · have hp := hp.1 cc_14
          exact kj_15  _ _ _ hp hH (lv_sub hl [0, 1, 2, 3, 4] rfl)
        · have hp := hp.2 cc_14
          refine lv_aload_n (pc := 118) hx hb dX12_step_118 rfl (lv_at hl 0 rfl) ?_
          refine sx_getI (pc := 119) (j := 21) B hH hk_th coX12 rfl w_1325 rfl dX12_step_119 ?_
          refine W.eq (g2 := F0 m 122 ls [.int (gI S th 21)]) rfl ?_
          refine lv_iconst (pc := 122) (v := 3) hx hb dX12_step_122 (by decide) ?_
          refine lv_icmp_ne (pc := 123) (tgt := 133) hx hb dX12_step_123 (by decide) (fun cc_68 => ?_) (fun cc_68 => ?_)
          · have hp := hp.1 cc_68
            exact kj_15  _ _ _ hp hH (lv_sub hl [0, 1, 2, 3, 4] rfl)
          · have hp := hp.2 cc_68
            refine lv_aload_n (pc := 126) hx hb dX12_step_126 rfl (lv_at hl 0 rfl) ?_
            refine lv_bipush (pc := 127) (v := 7) hx hb dX12_step_127 (by decide) ?_
            refine sx_V (pc := 129) (As := [.int 7]) (rest := []) B hH hl.1 (C_X12_fails G l th 7 _ _ hp) mi_X12_fails coX12 hk_th w_1554 w_54 w_1552 rfl rfl ⟨Nat.le_of_ble_eq_true rfl, Nat.le_of_ble_eq_true rfl⟩ (Nat.le_of_ble_eq_true rfl) ⟨Nat.le_of_ble_eq_true rfl, Nat.le_of_ble_eq_true rfl⟩ dX12_step_129 (fun v S1 H locs hq hH => ?_)
            obtain ⟨r_69, F_69, rfl, e9, hp⟩ := hq
            rw [e9] at hH
            have hH : Hp G (FA S s.heap.size) s.heap (wI S F_69) H locs := hH
            refine W.eq (g2 := F0 m 132 ls [.int r_69]) rfl ?_
            obtain ⟨hz, hp⟩ := hp
            exact sx_zret (pc := 132) B hH hr hlk hz (by rw [← hQQ]; exact ⟨_, F_69, rfl, rfl, hp⟩) (Nat.le_of_ble_eq_true rfl) (Nat.le_of_ble_eq_true rfl) dX12_step_132
      refine lv_icmp_eq (pc := 93) (tgt := 112) hx hb dX12_step_93 (by decide) (fun cc_12 => ?_) (fun cc_12 => ?_)
      · have hp := hp.1 cc_12
        exact kj_13  _ _ _ hp hH (lv_sub hl [0, 1, 2, 3, 4] rfl)
      · have hp := hp.2 cc_12
        refine lv_aload_n (pc := 96) hx hb dX12_step_96 rfl (lv_at hl 0 rfl) ?_
        refine sx_getI (pc := 97) (j := 22) B hH hk_th coX12 rfl w_1326 rfl dX12_step_97 ?_
        refine W.eq (g2 := F0 m 100 ls [.int (gI S th 22)]) rfl ?_
        refine lv_bipush (pc := 100) (v := 30) hx hb dX12_step_100 (by decide) ?_
        refine lv_icmp_ne (pc := 102) (tgt := 112) hx hb dX12_step_102 (by decide) (fun cc_70 => ?_) (fun cc_70 => ?_)
        · have hp := hp.1 cc_70
          exact kj_13  _ _ _ hp hH (lv_sub hl [0, 1, 2, 3, 4] rfl)
        · have hp := hp.2 cc_70
          refine lv_aload_n (pc := 105) hx hb dX12_step_105 rfl (lv_at hl 0 rfl) ?_
          refine lv_bipush (pc := 106) (v := 6) hx hb dX12_step_106 (by decide) ?_
          refine sx_V (pc := 108) (As := [.int 6]) (rest := []) B hH hl.1 (C_X12_fails G l th 6 _ _ hp) mi_X12_fails coX12 hk_th w_1554 w_54 w_1552 rfl rfl ⟨Nat.le_of_ble_eq_true rfl, Nat.le_of_ble_eq_true rfl⟩ (Nat.le_of_ble_eq_true rfl) ⟨Nat.le_of_ble_eq_true rfl, Nat.le_of_ble_eq_true rfl⟩ dX12_step_108 (fun v S1 H locs hq hH => ?_)
          obtain ⟨r_71, F_71, rfl, e9, hp⟩ := hq
          rw [e9] at hH
          have hH : Hp G (FA S s.heap.size) s.heap (wI S F_71) H locs := hH
          refine W.eq (g2 := F0 m 111 ls [.int r_71]) rfl ?_
          obtain ⟨hz, hp⟩ := hp
          exact sx_zret (pc := 111) B hH hr hlk hz (by rw [← hQQ]; exact ⟨_, F_71, rfl, rfl, hp⟩) (Nat.le_of_ble_eq_true rfl) (Nat.le_of_ble_eq_true rfl) dX12_step_111
    refine lv_if_ne (pc := 56) (tgt := 90) hx hb dX12_step_56 (by decide) (fun cc_10 => ?_) (fun cc_10 => ?_)
    · have hp := hp.1 cc_10
      exact kj_11  _ _ _ hp hH (lv_sub hl [1, 2, 3, 4, 0] rfl)
    · have hp := hp.2 cc_10
      refine lv_iload_n (pc := 59) hx hb dX12_step_59 rfl (lv_at hl 2 rfl) ?_
      refine lv_bipush (pc := 60) (v := 9) hx hb dX12_step_60 (by decide) ?_
      refine lv_icmp_eq (pc := 62) (tgt := 90) hx hb dX12_step_62 (by decide) (fun cc_72 => ?_) (fun cc_72 => ?_)
      · have hp := hp.1 cc_72
        exact kj_11  _ _ _ hp hH (lv_sub hl [1, 2, 3, 4, 0] rfl)
      · have hp := hp.2 cc_72
        refine lv_iload_n (pc := 65) hx hb dX12_step_65 rfl (lv_at hl 2 rfl) ?_
        refine lv_bipush (pc := 66) (v := 11) hx hb dX12_step_66 (by decide) ?_
        refine lv_icmp_eq (pc := 68) (tgt := 90) hx hb dX12_step_68 (by decide) (fun cc_73 => ?_) (fun cc_73 => ?_)
        · have hp := hp.1 cc_73
          exact kj_11  _ _ _ hp hH (lv_sub hl [1, 2, 3, 4, 0] rfl)
        · have hp := hp.2 cc_73
          refine lv_iload_n (pc := 71) hx hb dX12_step_71 rfl (lv_at hl 2 rfl) ?_
          refine lv_bipush (pc := 72) (v := 10) hx hb dX12_step_72 (by decide) ?_
          obtain ⟨J_75, hj_75, hp⟩ := hp
          have kj_75 : ∀  (H : Heap) (locs : List Loc) (ls : Array Slot), J_75  → Hp G (FA S s.heap.size) s.heap S H locs → lv_has ls 6 [(0, .ref th)] → Wm G p l e { frames := 7, cells := 0, slots := 0, locals := 154 } s m args below meth c S QQ 0 0 H locs 0 0 (F0 m 84 ls []) := by
            intro  H locs ls hq9 hH hl
            have hp := hj_75  hq9
            refine lv_aload_n (pc := 84) hx hb dX12_step_84 rfl (lv_at hl 0 rfl) ?_
            refine lv_iconst (pc := 85) (v := 2) hx hb dX12_step_85 (by decide) ?_
            refine sx_V (pc := 86) (As := [.int 2]) (rest := []) B hH hl.1 (C_X12_fails G l th 2 _ _ hp) mi_X12_fails coX12 hk_th w_1554 w_54 w_1552 rfl rfl ⟨Nat.le_of_ble_eq_true rfl, Nat.le_of_ble_eq_true rfl⟩ (Nat.le_of_ble_eq_true rfl) ⟨Nat.le_of_ble_eq_true rfl, Nat.le_of_ble_eq_true rfl⟩ dX12_step_86 (fun v S1 H locs hq hH => ?_)
            obtain ⟨r_76, F_76, rfl, e9, hp⟩ := hq
            rw [e9] at hH
            have hH : Hp G (FA S s.heap.size) s.heap (wI S F_76) H locs := hH
            refine W.eq (g2 := F0 m 89 ls [.int r_76]) rfl ?_
            obtain ⟨hz, hp⟩ := hp
            exact sx_zret (pc := 89) B hH hr hlk hz (by rw [← hQQ]; exact ⟨_, F_76, rfl, rfl, hp⟩) (Nat.le_of_ble_eq_true rfl) (Nat.le_of_ble_eq_true rfl) dX12_step_89
          refine lv_icmp_ne (pc := 74) (tgt := 84) hx hb dX12_step_74 (by decide) (fun cc_74 => ?_) (fun cc_74 => ?_)
          · have hp := hp.1 cc_74
            exact kj_75  _ _ _ hp hH (lv_sub hl [1] rfl)
          · have hp := hp.2 cc_74
            refine lv_aload_n (pc := 77) hx hb dX12_step_77 rfl (lv_at hl 1 rfl) ?_
            refine sx_getI (pc := 78) (j := 21) B hH hk_th coX12 rfl w_1325 rfl dX12_step_78 ?_
            refine W.eq (g2 := F0 m 81 ls [.int (gI S th 21)]) rfl ?_
            refine lv_if_ne (pc := 81) (tgt := 90) hx hb dX12_step_81 (by decide) (fun cc_77 => ?_) (fun cc_77 => ?_)
            · have hp := hp.1 cc_77
              exact kj_11  _ _ _ hp hH (lv_sub hl [1, 2, 3, 4, 0] rfl)
            · have hp := hp.2 cc_77
              exact kj_75  _ _ _ hp hH (lv_sub hl [1] rfl)
  refine lv_icmp_eq (pc := 27) (tgt := 47) hx hb dX12_step_27 (by decide) (fun cc_7 => ?_) (fun cc_7 => ?_)
  · have hp := hp.1 cc_7
    refine lv_iconst (pc := 47) (v := 1) hx hb dX12_step_47 (by decide) ?_
    refine lv_goto (pc := 48) (tgt := 52) hx hb dX12_step_48 (by decide) ?_
    exact kj_8 _ _ _ _ hp hH (lv_sub hl [3, 2, 1, 0] rfl)
  · have hp := hp.2 cc_7
    refine lv_iload_n (pc := 30) hx hb dX12_step_30 rfl (lv_at hl 2 rfl) ?_
    refine lv_iconst (pc := 31) (v := 5) hx hb dX12_step_31 (by decide) ?_
    refine lv_icmp_eq (pc := 32) (tgt := 47) hx hb dX12_step_32 (by decide) (fun cc_78 => ?_) (fun cc_78 => ?_)
    · have hp := hp.1 cc_78
      refine lv_iconst (pc := 47) (v := 1) hx hb dX12_step_47 (by decide) ?_
      refine lv_goto (pc := 48) (tgt := 52) hx hb dX12_step_48 (by decide) ?_
      exact kj_8 _ _ _ _ hp hH (lv_sub hl [3, 2, 1, 0] rfl)
    · have hp := hp.2 cc_78
      refine lv_iload_n (pc := 35) hx hb dX12_step_35 rfl (lv_at hl 2 rfl) ?_
      refine lv_bipush (pc := 36) (v := 6) hx hb dX12_step_36 (by decide) ?_
      refine lv_icmp_eq (pc := 38) (tgt := 47) hx hb dX12_step_38 (by decide) (fun cc_79 => ?_) (fun cc_79 => ?_)
      · have hp := hp.1 cc_79
        refine lv_iconst (pc := 47) (v := 1) hx hb dX12_step_47 (by decide) ?_
        refine lv_goto (pc := 48) (tgt := 52) hx hb dX12_step_48 (by decide) ?_
        exact kj_8 _ _ _ _ hp hH (lv_sub hl [3, 2, 1, 0] rfl)
      · have hp := hp.2 cc_79
        refine lv_iload_n (pc := 41) hx hb dX12_step_41 rfl (lv_at hl 2 rfl) ?_
        refine lv_bipush (pc := 42) (v := 8) hx hb dX12_step_42 (by decide) ?_
        refine lv_icmp_ne (pc := 44) (tgt := 51) hx hb dX12_step_44 (by decide) (fun cc_80 => ?_) (fun cc_80 => ?_)
        · have hp := hp.1 cc_80
          refine lv_iconst (pc := 51) (v := 0) hx hb dX12_step_51 (by decide) ?_
          exact kj_8 _ _ _ _ hp hH (lv_sub hl [3, 2, 1, 0] rfl)
        · have hp := hp.2 cc_80
          refine lv_iconst (pc := 47) (v := 1) hx hb dX12_step_47 (by decide) ?_
          refine lv_goto (pc := 48) (tgt := 52) hx hb dX12_step_48 (by decide) ?_
          exact kj_8 _ _ _ _ hp hH (lv_sub hl [3, 2, 1, 0] rfl)
theorem dX12_touch_0 : decode cX12_touch 0 = .ok (.aload_n 0, 1) := by decide +kernel
theorem dX12_touch_1 : decode cX12_touch 1 = .ok (.iload_n 1, 1) := by decide +kernel
theorem dX12_touch_2 : decode cX12_touch 2 = .ok (.sipush 300, 3) := by decide +kernel
theorem dX12_touch_5 : decode cX12_touch 5 = .ok (.invokevirtual 234, 3) := by decide +kernel
theorem dX12_touch_8 : decode cX12_touch 8 = .ok (.ifCond .ne 9, 3) := by decide +kernel
theorem dX12_touch_11 : decode cX12_touch 11 = .ok (.aload_n 0, 1) := by decide +kernel
theorem dX12_touch_12 : decode cX12_touch 12 = .ok (.iconst 1, 1) := by decide +kernel
theorem dX12_touch_13 : decode cX12_touch 13 = .ok (.invokevirtual 105, 3) := by decide +kernel
theorem dX12_touch_16 : decode cX12_touch 16 = .ok (.ireturn, 1) := by decide +kernel
theorem dX12_touch_17 : decode cX12_touch 17 = .ok (.aload_n 0, 1) := by decide +kernel
theorem dX12_touch_18 : decode cX12_touch 18 = .ok (.getfield 7, 3) := by decide +kernel
theorem dX12_touch_21 : decode cX12_touch 21 = .ok (.sipush 9684, 3) := by decide +kernel
theorem dX12_touch_24 : decode cX12_touch 24 = .ok (.iconst 0, 1) := by decide +kernel
theorem dX12_touch_25 : decode cX12_touch 25 = .ok (.iastore, 1) := by decide +kernel
theorem dX12_touch_26 : decode cX12_touch 26 = .ok (.aload_n 0, 1) := by decide +kernel
theorem dX12_touch_27 : decode cX12_touch 27 = .ok (.iconst 0, 1) := by decide +kernel
theorem dX12_touch_28 : decode cX12_touch 28 = .ok (.putfield 251, 3) := by decide +kernel
theorem dX12_touch_31 : decode cX12_touch 31 = .ok (.aload_n 0, 1) := by decide +kernel
theorem dX12_touch_32 : decode cX12_touch 32 = .ok (.iconst 0, 1) := by decide +kernel
theorem dX12_touch_33 : decode cX12_touch 33 = .ok (.putfield 254, 3) := by decide +kernel
theorem dX12_touch_36 : decode cX12_touch 36 = .ok (.iconst 1, 1) := by decide +kernel
theorem dX12_touch_37 : decode cX12_touch 37 = .ok (.istore_n 2, 1) := by decide +kernel
theorem dX12_touch_38 : decode cX12_touch 38 = .ok (.iload_n 2, 1) := by decide +kernel
theorem dX12_touch_39 : decode cX12_touch 39 = .ok (.ifCond .eq 18, 3) := by decide +kernel
theorem dX12_touch_42 : decode cX12_touch 42 = .ok (.aload_n 0, 1) := by decide +kernel
theorem dX12_touch_43 : decode cX12_touch 43 = .ok (.getfield 151, 3) := by decide +kernel
theorem dX12_touch_46 : decode cX12_touch 46 = .ok (.ifCond .eq 11, 3) := by decide +kernel
theorem dX12_touch_49 : decode cX12_touch 49 = .ok (.aload_n 0, 1) := by decide +kernel
theorem dX12_touch_50 : decode cX12_touch 50 = .ok (.invokevirtual 260, 3) := by decide +kernel
theorem dX12_touch_53 : decode cX12_touch 53 = .ok (.istore_n 2, 1) := by decide +kernel
theorem dX12_touch_54 : decode cX12_touch 54 = .ok (.goto (-16), 3) := by decide +kernel
theorem dX12_touch_57 : decode cX12_touch 57 = .ok (.aload_n 0, 1) := by decide +kernel
theorem dX12_touch_58 : decode cX12_touch 58 = .ok (.getfield 176, 3) := by decide +kernel
theorem dX12_touch_61 : decode cX12_touch 61 = .ok (.ifCond .ne 16, 3) := by decide +kernel
theorem dX12_touch_64 : decode cX12_touch 64 = .ok (.aload_n 0, 1) := by decide +kernel
theorem dX12_touch_65 : decode cX12_touch 65 = .ok (.getfield 251, 3) := by decide +kernel
theorem dX12_touch_68 : decode cX12_touch 68 = .ok (.ifCond .le 9, 3) := by decide +kernel
theorem dX12_touch_71 : decode cX12_touch 71 = .ok (.aload_n 0, 1) := by decide +kernel
theorem dX12_touch_72 : decode cX12_touch 72 = .ok (.iconst 2, 1) := by decide +kernel
theorem dX12_touch_73 : decode cX12_touch 73 = .ok (.invokevirtual 188, 3) := by decide +kernel
theorem dX12_touch_76 : decode cX12_touch 76 = .ok (.pop, 1) := by decide +kernel
theorem dX12_touch_77 : decode cX12_touch 77 = .ok (.aload_n 0, 1) := by decide +kernel
theorem dX12_touch_78 : decode cX12_touch 78 = .ok (.getfield 176, 3) := by decide +kernel
theorem dX12_touch_81 : decode cX12_touch 81 = .ok (.ifCond .ne 68, 3) := by decide +kernel
theorem dX12_touch_84 : decode cX12_touch 84 = .ok (.aload_n 0, 1) := by decide +kernel
theorem dX12_touch_85 : decode cX12_touch 85 = .ok (.getfield 7, 3) := by decide +kernel
theorem dX12_touch_88 : decode cX12_touch 88 = .ok (.iconst 4, 1) := by decide +kernel
theorem dX12_touch_89 : decode cX12_touch 89 = .ok (.aload_n 0, 1) := by decide +kernel
theorem dX12_touch_90 : decode cX12_touch 90 = .ok (.getfield 7, 3) := by decide +kernel
theorem dX12_touch_93 : decode cX12_touch 93 = .ok (.sipush 9684, 3) := by decide +kernel
theorem dX12_touch_96 : decode cX12_touch 96 = .ok (.iaload, 1) := by decide +kernel
theorem dX12_touch_97 : decode cX12_touch 97 = .ok (.iastore, 1) := by decide +kernel
theorem dX12_touch_98 : decode cX12_touch 98 = .ok (.aload_n 0, 1) := by decide +kernel
theorem dX12_touch_99 : decode cX12_touch 99 = .ok (.getfield 7, 3) := by decide +kernel
theorem dX12_touch_102 : decode cX12_touch 102 = .ok (.iconst 5, 1) := by decide +kernel
theorem dX12_touch_103 : decode cX12_touch 103 = .ok (.aload_n 0, 1) := by decide +kernel
theorem dX12_touch_104 : decode cX12_touch 104 = .ok (.getfield 254, 3) := by decide +kernel
theorem dX12_touch_107 : decode cX12_touch 107 = .ok (.iastore, 1) := by decide +kernel
theorem dX12_touch_108 : decode cX12_touch 108 = .ok (.aload_n 0, 1) := by decide +kernel
theorem dX12_touch_109 : decode cX12_touch 109 = .ok (.getfield 7, 3) := by decide +kernel
theorem dX12_touch_112 : decode cX12_touch 112 = .ok (.bipush 6, 2) := by decide +kernel
theorem dX12_touch_114 : decode cX12_touch 114 = .ok (.iconst (-1), 1) := by decide +kernel
theorem dX12_touch_115 : decode cX12_touch 115 = .ok (.iastore, 1) := by decide +kernel
theorem dX12_touch_116 : decode cX12_touch 116 = .ok (.sipush 170, 3) := by decide +kernel
theorem dX12_touch_119 : decode cX12_touch 119 = .ok (.istore_n 3, 1) := by decide +kernel
theorem dX12_touch_120 : decode cX12_touch 120 = .ok (.iload_n 3, 1) := by decide +kernel
theorem dX12_touch_121 : decode cX12_touch 121 = .ok (.sipush 410, 3) := by decide +kernel
theorem dX12_touch_124 : decode cX12_touch 124 = .ok (.if_icmp .ge 25, 3) := by decide +kernel
theorem dX12_touch_127 : decode cX12_touch 127 = .ok (.aload_n 0, 1) := by decide +kernel
theorem dX12_touch_128 : decode cX12_touch 128 = .ok (.getfield 7, 3) := by decide +kernel
theorem dX12_touch_131 : decode cX12_touch 131 = .ok (.iload_n 3, 1) := by decide +kernel
theorem dX12_touch_132 : decode cX12_touch 132 = .ok (.aload_n 0, 1) := by decide +kernel
theorem dX12_touch_133 : decode cX12_touch 133 = .ok (.getfield 7, 3) := by decide +kernel
theorem dX12_touch_136 : decode cX12_touch 136 = .ok (.sipush 9680, 3) := by decide +kernel
theorem dX12_touch_139 : decode cX12_touch 139 = .ok (.iload_n 3, 1) := by decide +kernel
theorem dX12_touch_140 : decode cX12_touch 140 = .ok (.iadd, 1) := by decide +kernel
theorem dX12_touch_141 : decode cX12_touch 141 = .ok (.iaload, 1) := by decide +kernel
theorem dX12_touch_142 : decode cX12_touch 142 = .ok (.iastore, 1) := by decide +kernel
theorem dX12_touch_143 : decode cX12_touch 143 = .ok (.iinc 3 1, 3) := by decide +kernel
theorem dX12_touch_146 : decode cX12_touch 146 = .ok (.goto (-26), 3) := by decide +kernel
theorem dX12_touch_149 : decode cX12_touch 149 = .ok (.aload_n 0, 1) := by decide +kernel
theorem dX12_touch_150 : decode cX12_touch 150 = .ok (.aload_n 0, 1) := by decide +kernel
theorem dX12_touch_151 : decode cX12_touch 151 = .ok (.getfield 254, 3) := by decide +kernel
theorem dX12_touch_154 : decode cX12_touch 154 = .ok (.invokevirtual 248, 3) := by decide +kernel
theorem dX12_touch_157 : decode cX12_touch 157 = .ok (.ireturn, 1) := by decide +kernel
theorem mi_X12_touch : MI yX12_touch cX12_touch 4 (some FieldType.int) 1 := ⟨w_1622, w_118, by decide +kernel, by decide +kernel, by decide +kernel⟩
set_option maxRecDepth 100000 in
set_option maxHeartbeats 4000000 in
theorem C_X12_touch (G : GG) (l : Launch) (th : Nat) (p0 : Int32) (S : St) (Q : Int32 → (Nat → Nat → Int32) → Prop) (hp : P_X12_touch th p0 S Q) : Ctr G l yX12_touch cX12_touch 4 (some FieldType.int) 8 179 0 0 [.ref th, .int p0] S (fun (v : Option Value) (S9 : St) => ∃ (r : Int32) (I9 : Nat → Nat → Int32), v = some (.int r) ∧ S9 = wI S I9 ∧ Q r I9) := by
  generalize hQQ : (fun (v : Option Value) (S9 : St) => ∃ (r : Int32) (I9 : Nat → Nat → Int32), v = some (.int r) ∧ S9 = wI S I9 ∧ Q r I9) = QQ
  unfold P_X12_touch at hp
  refine Ctr.of (by decide) (Nat.le_of_ble_eq_true rfl) ?_
  intro p e s m args below meth c ls B hr hlk hin hl hH
  generalize hlocs0 : ([] : List Loc) = locs at hH ⊢
  have hx := B.1
  have hb := B.2.1
  have hl : lv_has ls 4 [(0, .ref th), (1, .int p0)] := hl
  obtain ⟨hk_th, hp⟩ := hp
  refine lv_aload_n (pc := 0) hx hb dX12_touch_0 rfl (lv_at hl 0 rfl) ?_
  refine lv_iload_n (pc := 1) hx hb dX12_touch_1 rfl (lv_at hl 1 rfl) ?_
  refine lv_sipush (pc := 2) (v := 300) hx hb dX12_touch_2 (by decide) ?_
  refine sx_V (pc := 5) (As := [.int p0, .int 300]) (rest := []) B hH hl.1 (C_X12_begins G l th p0 300 _ _ hp) mi_X12_begins coX12 hk_th w_1519 w_48 w_1517 rfl rfl ⟨Nat.le_of_ble_eq_true rfl, Nat.le_of_ble_eq_true rfl⟩ (Nat.le_of_ble_eq_true rfl) ⟨Nat.le_of_ble_eq_true rfl, Nat.le_of_ble_eq_true rfl⟩ dX12_touch_5 (fun v S1 H locs hq hH => ?_)
  obtain ⟨r_1, F_1, rfl, e9, hp⟩ := hq
  rw [e9] at hH
  have hH : Hp G (FA S s.heap.size) s.heap (wI S F_1) H locs := hH
  refine W.eq (g2 := F0 m 8 ls [.int r_1]) rfl ?_
  refine lv_if_ne (pc := 8) (tgt := 17) hx hb dX12_touch_8 (by decide) (fun cc_2 => ?_) (fun cc_2 => ?_)
  · have hp := hp.1 cc_2
    refine lv_aload_n (pc := 17) hx hb dX12_touch_17 rfl (lv_at hl 0 rfl) ?_
    refine sx_getR (pc := 18) (j := 0) B hH hk_th coX12 rfl w_1304 rfl dX12_touch_18 ?_
    refine W.eq (g2 := F0 m 21 ls [va_rf (gR S th 0)]) rfl ?_
    obtain ⟨a_3, ha_3, hp⟩ := hp
    refine sx_nonnull (x := a_3) ha_3 ?_
    refine lv_sipush (pc := 21) (v := 9684) hx hb dX12_touch_21 (by decide) ?_
    refine lv_iconst (pc := 24) (v := 0) hx hb dX12_touch_24 (by decide) ?_
    obtain ⟨hk_4, hp⟩ := hp
    obtain ⟨hn_5, hp⟩ := hp
    obtain ⟨F_6, eF_6⟩ : ∃ z : Nat → Nat → Int32, z = upI F_1 a_3 9684 0 := ⟨_, rfl⟩
    have hp := hp F_6 eF_6
    refine sx_iast (pc := 25) B hH hk_4 hn_5 dX12_touch_25 (fun H locs hH => ?_)
    have hH : Hp G (FA S s.heap.size) s.heap (wI S F_6) H locs := by rw [eF_6]; exact hH
    refine lv_aload_n (pc := 26) hx hb dX12_touch_26 rfl (lv_at hl 0 rfl) ?_
    refine lv_iconst (pc := 27) (v := 0) hx hb dX12_touch_27 (by decide) ?_
    obtain ⟨F_7, eF_7⟩ : ∃ z : Nat → Nat → Int32, z = upI F_6 th 21 0 := ⟨_, rfl⟩
    have hp := hp F_7 eF_7
    refine sx_putI (pc := 28) (j := 21) B hH hk_th coX12 rfl w_1325 rfl (Or.inl rfl) rfl dX12_touch_28 (fun H locs hH => ?_)
    have hH : Hp G (FA S s.heap.size) s.heap (wI S F_7) H locs := by rw [eF_7]; exact hH
    refine lv_aload_n (pc := 31) hx hb dX12_touch_31 rfl (lv_at hl 0 rfl) ?_
    refine lv_iconst (pc := 32) (v := 0) hx hb dX12_touch_32 (by decide) ?_
    obtain ⟨F_8, eF_8⟩ : ∃ z : Nat → Nat → Int32, z = upI F_7 th 22 0 := ⟨_, rfl⟩
    have hp := hp F_8 eF_8
    refine sx_putI (pc := 33) (j := 22) B hH hk_th coX12 rfl w_1326 rfl (Or.inl rfl) rfl dX12_touch_33 (fun H locs hH => ?_)
    have hH : Hp G (FA S s.heap.size) s.heap (wI S F_8) H locs := by rw [eF_8]; exact hH
    refine lv_iconst (pc := 36) (v := 1) hx hb dX12_touch_36 (by decide) ?_
    refine lv_istore_n (pc := 37) (lv' := [(2, .int 1), (0, .ref th), (1, .int p0)]) hx hb dX12_touch_37 rfl hl (by decide) rfl (fun ls hl => ?_)
    obtain ⟨I_9, ⟨k0_9, h0_9⟩, hst_9⟩ := hp
    have kl_9 : ∀ (n_9 : Nat) (x2_10 : Int32) (F_11 : Nat → Nat → Int32) (H : Heap) (locs : List Loc) (ls : Array Slot), I_9 n_9 x2_10 F_11 → Hp G (FA S s.heap.size) s.heap (wI S F_11) H locs → lv_has ls 4 [(0, .ref th), (2, .int x2_10)] → Wm G p l e { frames := 8, cells := 0, slots := 0, locals := 179 } s m args below meth c S QQ 0 0 H locs 0 0 (F0 m 38 ls []) := by
      intro n_9
      induction n_9 using Nat.strongRecOn with
      | ind n_9 ih_9 =>
        intro x2_10 F_11 H locs ls hq9 hH hl
        have hp := hst_9 n_9 x2_10 F_11 hq9
        refine lv_iload_n (pc := 38) hx hb dX12_touch_38 rfl (lv_at hl 1 rfl) ?_
        obtain ⟨J_13, hj_13, hp⟩ := hp
        have kj_13 : ∀  (H : Heap) (locs : List Loc) (ls : Array Slot), J_13  → Hp G (FA S s.heap.size) s.heap (wI S F_11) H locs → lv_has ls 4 [(0, .ref th)] → Wm G p l e { frames := 8, cells := 0, slots := 0, locals := 179 } s m args below meth c S QQ 0 0 H locs 0 0 (F0 m 57 ls []) := by
          intro  H locs ls hq9 hH hl
          have hp := hj_13  hq9
          refine lv_aload_n (pc := 57) hx hb dX12_touch_57 rfl (lv_at hl 0 rfl) ?_
          refine sx_getI (pc := 58) (j := 18) B hH hk_th coX12 rfl w_1322 rfl dX12_touch_58 ?_
          refine W.eq (g2 := F0 m 61 ls [.int (F_11 th 18)]) rfl ?_
          obtain ⟨J_15, hj_15, hp⟩ := hp
          have kj_15 : ∀ (F_16 : Nat → Nat → Int32) (H : Heap) (locs : List Loc) (ls : Array Slot), J_15 F_16 → Hp G (FA S s.heap.size) s.heap (wI S F_16) H locs → lv_has ls 4 [(0, .ref th)] → Wm G p l e { frames := 8, cells := 0, slots := 0, locals := 179 } s m args below meth c S QQ 0 0 H locs 0 0 (F0 m 77 ls []) := by
            intro F_16 H locs ls hq9 hH hl
            have hp := hj_15 F_16 hq9
            refine lv_aload_n (pc := 77) hx hb dX12_touch_77 rfl (lv_at hl 0 rfl) ?_
            refine sx_getI (pc := 78) (j := 18) B hH hk_th coX12 rfl w_1322 rfl dX12_touch_78 ?_
            refine W.eq (g2 := F0 m 81 ls [.int (F_16 th 18)]) rfl ?_
            obtain ⟨J_18, hj_18, hp⟩ := hp
            have kj_18 : ∀ (F_19 : Nat → Nat → Int32) (H : Heap) (locs : List Loc) (ls : Array Slot), J_18 F_19 → Hp G (FA S s.heap.size) s.heap (wI S F_19) H locs → lv_has ls 4 [(0, .ref th)] → Wm G p l e { frames := 8, cells := 0, slots := 0, locals := 179 } s m args below meth c S QQ 0 0 H locs 0 0 (F0 m 149 ls []) := by
              intro F_19 H locs ls hq9 hH hl
              have hp := hj_18 F_19 hq9
              refine lv_aload_n (pc := 149) hx hb dX12_touch_149 rfl (lv_at hl 0 rfl) ?_
              refine lv_aload_n (pc := 150) hx hb dX12_touch_150 rfl (lv_at hl 0 rfl) ?_
              refine sx_getI (pc := 151) (j := 22) B hH hk_th coX12 rfl w_1326 rfl dX12_touch_151 ?_
              refine W.eq (g2 := F0 m 154 ls [.int (F_19 th 22), .ref th]) rfl ?_
              refine sx_V (pc := 154) (As := [.int (F_19 th 22)]) (rest := []) B hH hl.1 (C_X12_taken G l th (F_19 th 22) _ _ hp) mi_X12_taken coX12 hk_th w_1613 w_68 w_1611 rfl rfl ⟨Nat.le_of_ble_eq_true rfl, Nat.le_of_ble_eq_true rfl⟩ (Nat.le_of_ble_eq_true rfl) ⟨Nat.le_of_ble_eq_true rfl, Nat.le_of_ble_eq_true rfl⟩ dX12_touch_154 (fun v S1 H locs hq hH => ?_)
              obtain ⟨r_20, F_20, rfl, e9, hp⟩ := hq
              rw [e9] at hH
              have hH : Hp G (FA S s.heap.size) s.heap (wI S F_20) H locs := hH
              refine W.eq (g2 := F0 m 157 ls [.int r_20]) rfl ?_
              exact sx_iret (pc := 157) B hH hr hlk (by rw [← hQQ]; exact ⟨_, F_20, rfl, rfl, hp⟩) (Nat.le_of_ble_eq_true rfl) (Nat.le_of_ble_eq_true rfl) dX12_touch_157
            refine lv_if_ne (pc := 81) (tgt := 149) hx hb dX12_touch_81 (by decide) (fun cc_17 => ?_) (fun cc_17 => ?_)
            · have hp := hp.1 cc_17
              exact kj_18 _ _ _ _ hp hH (lv_sub hl [0] rfl)
            · have hp := hp.2 cc_17
              refine lv_aload_n (pc := 84) hx hb dX12_touch_84 rfl (lv_at hl 0 rfl) ?_
              refine sx_getR (pc := 85) (j := 0) B hH hk_th coX12 rfl w_1304 rfl dX12_touch_85 ?_
              refine W.eq (g2 := F0 m 88 ls [va_rf (gR S th 0)]) rfl ?_
              refine sx_nonnull (x := a_3) ha_3 ?_
              refine lv_iconst (pc := 88) (v := 4) hx hb dX12_touch_88 (by decide) ?_
              refine lv_aload_n (pc := 89) hx hb dX12_touch_89 rfl (lv_at hl 0 rfl) ?_
              refine sx_getR (pc := 90) (j := 0) B hH hk_th coX12 rfl w_1304 rfl dX12_touch_90 ?_
              refine W.eq (g2 := F0 m 93 ls [va_rf (gR S th 0), .int 4, .ref a_3]) rfl ?_
              refine sx_nonnull (x := a_3) ha_3 ?_
              refine lv_sipush (pc := 93) (v := 9684) hx hb dX12_touch_93 (by decide) ?_
              refine sx_iald (pc := 96) B hH hk_4 hn_5 dX12_touch_96 ?_
              refine W.eq (g2 := F0 m 97 ls [.int (F_16 a_3 9684), .int 4, .ref a_3]) rfl ?_
              obtain ⟨hn_21, hp⟩ := hp
              refine lv_topi (fun v_22 ev_22 => ?_)
              have hp := hp v_22 ev_22
              obtain ⟨F_23, eF_23⟩ : ∃ z : Nat → Nat → Int32, z = upI F_16 a_3 4 v_22 := ⟨_, rfl⟩
              have hp := hp F_23 eF_23
              refine sx_iast (pc := 97) B hH hk_4 hn_21 dX12_touch_97 (fun H locs hH => ?_)
              have hH : Hp G (FA S s.heap.size) s.heap (wI S F_23) H locs := by rw [eF_23]; exact hH
              refine lv_aload_n (pc := 98) hx hb dX12_touch_98 rfl (lv_at hl 0 rfl) ?_
              refine sx_getR (pc := 99) (j := 0) B hH hk_th coX12 rfl w_1304 rfl dX12_touch_99 ?_
              refine W.eq (g2 := F0 m 102 ls [va_rf (gR S th 0)]) rfl ?_
              refine sx_nonnull (x := a_3) ha_3 ?_
              refine lv_iconst (pc := 102) (v := 5) hx hb dX12_touch_102 (by decide) ?_
              refine lv_aload_n (pc := 103) hx hb dX12_touch_103 rfl (lv_at hl 0 rfl) ?_
              refine sx_getI (pc := 104) (j := 22) B hH hk_th coX12 rfl w_1326 rfl dX12_touch_104 ?_
              refine W.eq (g2 := F0 m 107 ls [.int (F_23 th 22), .int 5, .ref a_3]) rfl ?_
              obtain ⟨hn_24, hp⟩ := hp
              refine lv_topi (fun v_25 ev_25 => ?_)
              have hp := hp v_25 ev_25
              obtain ⟨F_26, eF_26⟩ : ∃ z : Nat → Nat → Int32, z = upI F_23 a_3 5 v_25 := ⟨_, rfl⟩
              have hp := hp F_26 eF_26
              refine sx_iast (pc := 107) B hH hk_4 hn_24 dX12_touch_107 (fun H locs hH => ?_)
              have hH : Hp G (FA S s.heap.size) s.heap (wI S F_26) H locs := by rw [eF_26]; exact hH
              refine lv_aload_n (pc := 108) hx hb dX12_touch_108 rfl (lv_at hl 0 rfl) ?_
              refine sx_getR (pc := 109) (j := 0) B hH hk_th coX12 rfl w_1304 rfl dX12_touch_109 ?_
              refine W.eq (g2 := F0 m 112 ls [va_rf (gR S th 0)]) rfl ?_
              refine sx_nonnull (x := a_3) ha_3 ?_
              refine lv_bipush (pc := 112) (v := 6) hx hb dX12_touch_112 (by decide) ?_
              refine lv_iconst (pc := 114) (v := (-1)) hx hb dX12_touch_114 (by decide) ?_
              obtain ⟨hn_27, hp⟩ := hp
              obtain ⟨F_28, eF_28⟩ : ∃ z : Nat → Nat → Int32, z = upI F_26 a_3 6 (-1) := ⟨_, rfl⟩
              have hp := hp F_28 eF_28
              refine sx_iast (pc := 115) B hH hk_4 hn_27 dX12_touch_115 (fun H locs hH => ?_)
              have hH : Hp G (FA S s.heap.size) s.heap (wI S F_28) H locs := by rw [eF_28]; exact hH
              refine lv_sipush (pc := 116) (v := 170) hx hb dX12_touch_116 (by decide) ?_
              refine lv_istore_n (pc := 119) (lv' := [(3, .int 170), (0, .ref th)]) hx hb dX12_touch_119 rfl hl (by decide) rfl (fun ls hl => ?_)
              obtain ⟨I_29, ⟨k0_29, h0_29⟩, hst_29⟩ := hp
              have kl_29 : ∀ (n_29 : Nat) (x3_30 : Int32) (F_31 : Nat → Nat → Int32) (H : Heap) (locs : List Loc) (ls : Array Slot), I_29 n_29 x3_30 F_31 → Hp G (FA S s.heap.size) s.heap (wI S F_31) H locs → lv_has ls 4 [(0, .ref th), (3, .int x3_30)] → Wm G p l e { frames := 8, cells := 0, slots := 0, locals := 179 } s m args below meth c S QQ 0 0 H locs 0 0 (F0 m 120 ls []) := by
                intro n_29
                induction n_29 using Nat.strongRecOn with
                | ind n_29 ih_29 =>
                  intro x3_30 F_31 H locs ls hq9 hH hl
                  have hp := hst_29 n_29 x3_30 F_31 hq9
                  refine lv_iload_n (pc := 120) hx hb dX12_touch_120 rfl (lv_at hl 1 rfl) ?_
                  refine lv_sipush (pc := 121) (v := 410) hx hb dX12_touch_121 (by decide) ?_
                  refine lv_icmp_ge (pc := 124) (tgt := 149) hx hb dX12_touch_124 (by decide) (fun cc_32 => ?_) (fun cc_32 => ?_)
                  · have hp := hp.1 cc_32
                    exact kj_18 _ _ _ _ hp hH (lv_sub hl [0] rfl)
                  · have hp := hp.2 cc_32
                    refine lv_aload_n (pc := 127) hx hb dX12_touch_127 rfl (lv_at hl 0 rfl) ?_
                    refine sx_getR (pc := 128) (j := 0) B hH hk_th coX12 rfl w_1304 rfl dX12_touch_128 ?_
                    refine W.eq (g2 := F0 m 131 ls [va_rf (gR S th 0)]) rfl ?_
                    refine sx_nonnull (x := a_3) ha_3 ?_
                    refine lv_iload_n (pc := 131) hx hb dX12_touch_131 rfl (lv_at hl 1 rfl) ?_
                    refine lv_aload_n (pc := 132) hx hb dX12_touch_132 rfl (lv_at hl 0 rfl) ?_
                    refine sx_getR (pc := 133) (j := 0) B hH hk_th coX12 rfl w_1304 rfl dX12_touch_133 ?_
                    refine W.eq (g2 := F0 m 136 ls [va_rf (gR S th 0), .int x3_30, .ref a_3]) rfl ?_
                    refine sx_nonnull (x := a_3) ha_3 ?_
                    refine lv_sipush (pc := 136) (v := 9680) hx hb dX12_touch_136 (by decide) ?_
                    refine lv_iload_n (pc := 139) hx hb dX12_touch_139 rfl (lv_at hl 1 rfl) ?_
                    refine lv_iadd (pc := 140) hx hb dX12_touch_140 ?_
                    obtain ⟨hn_33, hp⟩ := hp
                    refine sx_iald (pc := 141) B hH hk_4 hn_33 dX12_touch_141 ?_
                    refine W.eq (g2 := F0 m 142 ls [.int (F_31 a_3 ((9680 + x3_30).toNatClampNeg)), .int x3_30, .ref a_3]) rfl ?_
                    obtain ⟨hn_34, hp⟩ := hp
                    refine lv_topi (fun v_35 ev_35 => ?_)
                    have hp := hp v_35 ev_35
                    obtain ⟨F_36, eF_36⟩ : ∃ z : Nat → Nat → Int32, z = upI F_31 a_3 x3_30.toNatClampNeg v_35 := ⟨_, rfl⟩
                    have hp := hp F_36 eF_36
                    refine sx_iast (pc := 142) B hH hk_4 hn_34 dX12_touch_142 (fun H locs hH => ?_)
                    have hH : Hp G (FA S s.heap.size) s.heap (wI S F_36) H locs := by rw [eF_36]; exact hH
                    obtain ⟨v_37, ev_37⟩ : ∃ y : Int32, y = x3_30 + 1 := ⟨_, rfl⟩
                    have hp := hp v_37 ev_37
                    refine lv_iinc (pc := 143) (v := v_37) (lv' := [(3, .int v_37), (0, .ref th)]) hx hb dX12_touch_143 hl (k := 1) rfl (by rw [ev_37]; rfl) (by decide) rfl (fun ls hl => ?_)
                    refine lv_goto (pc := 146) (tgt := 120) hx hb dX12_touch_146 (by decide) ?_
                    obtain ⟨k9, hlt9, hp⟩ := hp
                    exact ih_29 k9 hlt9 _ _ _ _ _ hp hH (lv_sub hl [1, 0] rfl)
              exact kl_29 k0_29 _ _ _ _ _ h0_29 hH (lv_sub hl [1, 0] rfl)
          refine lv_if_ne (pc := 61) (tgt := 77) hx hb dX12_touch_61 (by decide) (fun cc_14 => ?_) (fun cc_14 => ?_)
          · have hp := hp.1 cc_14
            exact kj_15 _ _ _ _ hp hH (lv_sub hl [0] rfl)
          · have hp := hp.2 cc_14
            refine lv_aload_n (pc := 64) hx hb dX12_touch_64 rfl (lv_at hl 0 rfl) ?_
            refine sx_getI (pc := 65) (j := 21) B hH hk_th coX12 rfl w_1325 rfl dX12_touch_65 ?_
            refine W.eq (g2 := F0 m 68 ls [.int (F_11 th 21)]) rfl ?_
            refine lv_if_le (pc := 68) (tgt := 77) hx hb dX12_touch_68 (by decide) (fun cc_38 => ?_) (fun cc_38 => ?_)
            · have hp := hp.1 cc_38
              exact kj_15 _ _ _ _ hp hH (lv_sub hl [0] rfl)
            · have hp := hp.2 cc_38
              refine lv_aload_n (pc := 71) hx hb dX12_touch_71 rfl (lv_at hl 0 rfl) ?_
              refine lv_iconst (pc := 72) (v := 2) hx hb dX12_touch_72 (by decide) ?_
              refine sx_V (pc := 73) (As := [.int 2]) (rest := []) B hH hl.1 (C_X12_fails G l th 2 _ _ hp) mi_X12_fails coX12 hk_th w_1554 w_54 w_1552 rfl rfl ⟨Nat.le_of_ble_eq_true rfl, Nat.le_of_ble_eq_true rfl⟩ (Nat.le_of_ble_eq_true rfl) ⟨Nat.le_of_ble_eq_true rfl, Nat.le_of_ble_eq_true rfl⟩ dX12_touch_73 (fun v S1 H locs hq hH => ?_)
              obtain ⟨r_39, F_39, rfl, e9, hp⟩ := hq
              rw [e9] at hH
              have hH : Hp G (FA S s.heap.size) s.heap (wI S F_39) H locs := hH
              refine W.eq (g2 := F0 m 76 ls [.int r_39]) rfl ?_
              refine lv_pop (pc := 76) (va := .int r_39) hx hb dX12_touch_76 rfl ?_
              exact kj_15 _ _ _ _ hp hH (lv_sub hl [0] rfl)
        refine lv_if_eq (pc := 39) (tgt := 57) hx hb dX12_touch_39 (by decide) (fun cc_12 => ?_) (fun cc_12 => ?_)
        · have hp := hp.1 cc_12
          exact kj_13  _ _ _ hp hH (lv_sub hl [0] rfl)
        · have hp := hp.2 cc_12
          refine lv_aload_n (pc := 42) hx hb dX12_touch_42 rfl (lv_at hl 0 rfl) ?_
          refine sx_getI (pc := 43) (j := 12) B hH hk_th coX12 rfl w_1316 rfl dX12_touch_43 ?_
          refine W.eq (g2 := F0 m 46 ls [.int (F_11 th 12)]) rfl ?_
          refine lv_if_eq (pc := 46) (tgt := 57) hx hb dX12_touch_46 (by decide) (fun cc_40 => ?_) (fun cc_40 => ?_)
          · have hp := hp.1 cc_40
            exact kj_13  _ _ _ hp hH (lv_sub hl [0] rfl)
          · have hp := hp.2 cc_40
            refine lv_aload_n (pc := 49) hx hb dX12_touch_49 rfl (lv_at hl 0 rfl) ?_
            refine sx_V (pc := 50) (As := []) (rest := []) B hH hl.1 (C_X12_step G l th _ _ hp) mi_X12_step coX12 hk_th w_1625 w_70 w_1623 rfl rfl ⟨Nat.le_of_ble_eq_true rfl, Nat.le_of_ble_eq_true rfl⟩ (Nat.le_of_ble_eq_true rfl) ⟨Nat.le_of_ble_eq_true rfl, Nat.le_of_ble_eq_true rfl⟩ dX12_touch_50 (fun v S1 H locs hq hH => ?_)
            obtain ⟨r_41, F_41, rfl, e9, hp⟩ := hq
            rw [e9] at hH
            have hH : Hp G (FA S s.heap.size) s.heap (wI S F_41) H locs := hH
            refine W.eq (g2 := F0 m 53 ls [.int r_41]) rfl ?_
            refine lv_istore_n (pc := 53) (lv' := [(2, .int r_41), (0, .ref th)]) hx hb dX12_touch_53 rfl hl (by decide) rfl (fun ls hl => ?_)
            refine lv_goto (pc := 54) (tgt := 38) hx hb dX12_touch_54 (by decide) ?_
            obtain ⟨k9, hlt9, hp⟩ := hp
            exact ih_9 k9 hlt9 _ _ _ _ _ hp hH (lv_sub hl [1, 0] rfl)
    exact kl_9 k0_9 _ _ _ _ _ h0_9 hH (lv_sub hl [1, 0] rfl)
  · have hp := hp.2 cc_2
    refine lv_aload_n (pc := 11) hx hb dX12_touch_11 rfl (lv_at hl 0 rfl) ?_
    refine lv_iconst (pc := 12) (v := 1) hx hb dX12_touch_12 (by decide) ?_
    refine sx_V (pc := 13) (As := [.int 1]) (rest := []) B hH hl.1 (C_X12_refuse G l th 1 _ _ hp) mi_X12_refuse coX12 hk_th w_1539 w_51 w_1537 rfl rfl ⟨Nat.le_of_ble_eq_true rfl, Nat.le_of_ble_eq_true rfl⟩ (Nat.le_of_ble_eq_true rfl) ⟨Nat.le_of_ble_eq_true rfl, Nat.le_of_ble_eq_true rfl⟩ dX12_touch_13 (fun v S1 H locs hq hH => ?_)
    obtain ⟨r_42, F_42, rfl, e9, hp⟩ := hq
    rw [e9] at hH
    have hH : Hp G (FA S s.heap.size) s.heap (wI S F_42) H locs := hH
    refine W.eq (g2 := F0 m 16 ls [.int r_42]) rfl ?_
    exact sx_iret (pc := 16) B hH hr hlk (by rw [← hQQ]; exact ⟨_, F_42, rfl, rfl, hp⟩) (Nat.le_of_ble_eq_true rfl) (Nat.le_of_ble_eq_true rfl) dX12_touch_16
theorem dX12_rowsMany_0 : decode cX12_rowsMany 0 = .ok (.iconst 1, 1) := by decide +kernel
theorem dX12_rowsMany_1 : decode cX12_rowsMany 1 = .ok (.istore_n 1, 1) := by decide +kernel
theorem dX12_rowsMany_2 : decode cX12_rowsMany 2 = .ok (.iconst 2, 1) := by decide +kernel
theorem dX12_rowsMany_3 : decode cX12_rowsMany 3 = .ok (.istore_n 2, 1) := by decide +kernel
theorem dX12_rowsMany_4 : decode cX12_rowsMany 4 = .ok (.iload_n 2, 1) := by decide +kernel
theorem dX12_rowsMany_5 : decode cX12_rowsMany 5 = .ok (.aload_n 0, 1) := by decide +kernel
theorem dX12_rowsMany_6 : decode cX12_rowsMany 6 = .ok (.getfield 7, 3) := by decide +kernel
theorem dX12_rowsMany_9 : decode cX12_rowsMany 9 = .ok (.iconst 0, 1) := by decide +kernel
theorem dX12_rowsMany_10 : decode cX12_rowsMany 10 = .ok (.iaload, 1) := by decide +kernel
theorem dX12_rowsMany_11 : decode cX12_rowsMany 11 = .ok (.if_icmp .gt 13, 3) := by decide +kernel
theorem dX12_rowsMany_14 : decode cX12_rowsMany 14 = .ok (.iload_n 1, 1) := by decide +kernel
theorem dX12_rowsMany_15 : decode cX12_rowsMany 15 = .ok (.iload_n 2, 1) := by decide +kernel
theorem dX12_rowsMany_16 : decode cX12_rowsMany 16 = .ok (.imul, 1) := by decide +kernel
theorem dX12_rowsMany_17 : decode cX12_rowsMany 17 = .ok (.istore_n 1, 1) := by decide +kernel
theorem dX12_rowsMany_18 : decode cX12_rowsMany 18 = .ok (.iinc 2 1, 3) := by decide +kernel
theorem dX12_rowsMany_21 : decode cX12_rowsMany 21 = .ok (.goto (-17), 3) := by decide +kernel
theorem dX12_rowsMany_24 : decode cX12_rowsMany 24 = .ok (.iload_n 1, 1) := by decide +kernel
theorem dX12_rowsMany_25 : decode cX12_rowsMany 25 = .ok (.ireturn, 1) := by decide +kernel
theorem mi_X12_rowsMany : MI yX12_rowsMany cX12_rowsMany 3 (some FieldType.int) 0 := ⟨w_1638, w_118, by decide +kernel, by decide +kernel, by decide +kernel⟩
set_option maxRecDepth 100000 in
set_option maxHeartbeats 4000000 in
theorem C_X12_rowsMany (G : GG) (l : Launch) (th : Nat) (S : St) (Q : Int32 → Prop) (hp : P_X12_rowsMany th S Q) : Ctr G l yX12_rowsMany cX12_rowsMany 3 (some FieldType.int) 0 0 0 0 [.ref th] S (fun (v : Option Value) (S9 : St) => ∃ (r : Int32), v = some (.int r) ∧ S9 = S ∧ Q r ) := by
  generalize hQQ : (fun (v : Option Value) (S9 : St) => ∃ (r : Int32), v = some (.int r) ∧ S9 = S ∧ Q r ) = QQ
  unfold P_X12_rowsMany at hp
  refine Ctr.of (by decide) (Nat.le_of_ble_eq_true rfl) ?_
  intro p e s m args below meth c ls B hr hlk hin hl hH
  generalize hlocs0 : ([] : List Loc) = locs at hH ⊢
  have hx := B.1
  have hb := B.2.1
  have hl : lv_has ls 3 [(0, .ref th)] := hl
  obtain ⟨hk_th, hp⟩ := hp
  refine lv_iconst (pc := 0) (v := 1) hx hb dX12_rowsMany_0 (by decide) ?_
  refine lv_istore_n (pc := 1) (lv' := [(1, .int 1), (0, .ref th)]) hx hb dX12_rowsMany_1 rfl hl (by decide) rfl (fun ls hl => ?_)
  refine lv_iconst (pc := 2) (v := 2) hx hb dX12_rowsMany_2 (by decide) ?_
  refine lv_istore_n (pc := 3) (lv' := [(2, .int 2), (1, .int 1), (0, .ref th)]) hx hb dX12_rowsMany_3 rfl hl (by decide) rfl (fun ls hl => ?_)
  obtain ⟨I_1, ⟨k0_1, h0_1⟩, hst_1⟩ := hp
  have kl_1 : ∀ (n_1 : Nat) (x1_2 : Int32) (x2_3 : Int32) (H : Heap) (locs : List Loc) (ls : Array Slot), I_1 n_1 x1_2 x2_3 → Hp G (FA S s.heap.size) s.heap S H locs → lv_has ls 3 [(0, .ref th), (1, .int x1_2), (2, .int x2_3)] → Wm G p l e { frames := 0, cells := 0, slots := 0, locals := 0 } s m args below meth c S QQ 0 0 H locs 0 0 (F0 m 4 ls []) := by
    intro n_1
    induction n_1 using Nat.strongRecOn with
    | ind n_1 ih_1 =>
      intro x1_2 x2_3 H locs ls hq9 hH hl
      have hp := hst_1 n_1 x1_2 x2_3 hq9
      refine lv_iload_n (pc := 4) hx hb dX12_rowsMany_4 rfl (lv_at hl 2 rfl) ?_
      refine lv_aload_n (pc := 5) hx hb dX12_rowsMany_5 rfl (lv_at hl 0 rfl) ?_
      refine sx_getR (pc := 6) (j := 0) B hH hk_th coX12 rfl w_1304 rfl dX12_rowsMany_6 ?_
      refine W.eq (g2 := F0 m 9 ls [va_rf (gR S th 0), .int x2_3]) rfl ?_
      obtain ⟨a_4, ha_4, hp⟩ := hp
      refine sx_nonnull (x := a_4) ha_4 ?_
      refine lv_iconst (pc := 9) (v := 0) hx hb dX12_rowsMany_9 (by decide) ?_
      obtain ⟨hk_5, hp⟩ := hp
      obtain ⟨hn_6, hp⟩ := hp
      refine sx_iald (pc := 10) B hH hk_5 hn_6 dX12_rowsMany_10 ?_
      refine W.eq (g2 := F0 m 11 ls [.int (gI S a_4 0), .int x2_3]) rfl ?_
      refine lv_icmp_gt (pc := 11) (tgt := 24) hx hb dX12_rowsMany_11 (by decide) (fun cc_7 => ?_) (fun cc_7 => ?_)
      · have hp := hp.1 cc_7
        refine lv_iload_n (pc := 24) hx hb dX12_rowsMany_24 rfl (lv_at hl 1 rfl) ?_
        exact sx_iret (pc := 25) B hH hr hlk (by rw [← hQQ]; exact ⟨_, rfl, rfl, hp⟩) (Nat.le_of_ble_eq_true rfl) (Nat.le_of_ble_eq_true rfl) dX12_rowsMany_25
      · have hp := hp.2 cc_7
        refine lv_iload_n (pc := 14) hx hb dX12_rowsMany_14 rfl (lv_at hl 1 rfl) ?_
        refine lv_iload_n (pc := 15) hx hb dX12_rowsMany_15 rfl (lv_at hl 2 rfl) ?_
        refine lv_imul (pc := 16) hx hb dX12_rowsMany_16 ?_
        refine lv_topi (fun v_8 ev_8 => ?_)
        have hp := hp v_8 ev_8
        refine lv_istore_n (pc := 17) (lv' := [(1, .int v_8), (0, .ref th), (2, .int x2_3)]) hx hb dX12_rowsMany_17 rfl hl (by decide) rfl (fun ls hl => ?_)
        obtain ⟨v_9, ev_9⟩ : ∃ y : Int32, y = x2_3 + 1 := ⟨_, rfl⟩
        have hp := hp v_9 ev_9
        refine lv_iinc (pc := 18) (v := v_9) (lv' := [(2, .int v_9), (1, .int v_8), (0, .ref th)]) hx hb dX12_rowsMany_18 hl (k := 2) rfl (by rw [ev_9]; rfl) (by decide) rfl (fun ls hl => ?_)
        refine lv_goto (pc := 21) (tgt := 4) hx hb dX12_rowsMany_21 (by decide) ?_
        obtain ⟨k9, hlt9, hp⟩ := hp
        exact ih_1 k9 hlt9 _ _ _ _ _ hp hH (lv_sub hl [2, 1, 0] rfl)
  exact kl_1 k0_1 _ _ _ _ _ h0_1 hH (lv_sub hl [2, 1, 0] rfl)
theorem dX12_laysRow_0 : decode cX12_laysRow 0 = .ok (.aload_n 0, 1) := by decide +kernel
theorem dX12_laysRow_1 : decode cX12_laysRow 1 = .ok (.getfield 7, 3) := by decide +kernel
theorem dX12_laysRow_4 : decode cX12_laysRow 4 = .ok (.iconst 0, 1) := by decide +kernel
theorem dX12_laysRow_5 : decode cX12_laysRow 5 = .ok (.iaload, 1) := by decide +kernel
theorem dX12_laysRow_6 : decode cX12_laysRow 6 = .ok (.istore_n 3, 1) := by decide +kernel
theorem dX12_laysRow_7 : decode cX12_laysRow 7 = .ok (.aload_n 0, 1) := by decide +kernel
theorem dX12_laysRow_8 : decode cX12_laysRow 8 = .ok (.invokevirtual 263, 3) := by decide +kernel
theorem dX12_laysRow_11 : decode cX12_laysRow 11 = .ok (.istore 4, 2) := by decide +kernel
theorem dX12_laysRow_13 : decode cX12_laysRow 13 = .ok (.iload_n 1, 1) := by decide +kernel
theorem dX12_laysRow_14 : decode cX12_laysRow 14 = .ok (.istore 5, 2) := by decide +kernel
theorem dX12_laysRow_16 : decode cX12_laysRow 16 = .ok (.iconst 0, 1) := by decide +kernel
theorem dX12_laysRow_17 : decode cX12_laysRow 17 = .ok (.istore 6, 2) := by decide +kernel
theorem dX12_laysRow_19 : decode cX12_laysRow 19 = .ok (.iconst 0, 1) := by decide +kernel
theorem dX12_laysRow_20 : decode cX12_laysRow 20 = .ok (.istore 7, 2) := by decide +kernel
theorem dX12_laysRow_22 : decode cX12_laysRow 22 = .ok (.iload 7, 2) := by decide +kernel
theorem dX12_laysRow_24 : decode cX12_laysRow 24 = .ok (.iload_n 3, 1) := by decide +kernel
theorem dX12_laysRow_25 : decode cX12_laysRow 25 = .ok (.if_icmp .ge 85, 3) := by decide +kernel
theorem dX12_laysRow_28 : decode cX12_laysRow 28 = .ok (.iload 4, 2) := by decide +kernel
theorem dX12_laysRow_30 : decode cX12_laysRow 30 = .ok (.iload_n 3, 1) := by decide +kernel
theorem dX12_laysRow_31 : decode cX12_laysRow 31 = .ok (.iload 7, 2) := by decide +kernel
theorem dX12_laysRow_33 : decode cX12_laysRow 33 = .ok (.isub, 1) := by decide +kernel
theorem dX12_laysRow_34 : decode cX12_laysRow 34 = .ok (.idiv, 1) := by decide +kernel
theorem dX12_laysRow_35 : decode cX12_laysRow 35 = .ok (.istore 4, 2) := by decide +kernel
theorem dX12_laysRow_37 : decode cX12_laysRow 37 = .ok (.iload 5, 2) := by decide +kernel
theorem dX12_laysRow_39 : decode cX12_laysRow 39 = .ok (.iload 4, 2) := by decide +kernel
theorem dX12_laysRow_41 : decode cX12_laysRow 41 = .ok (.idiv, 1) := by decide +kernel
theorem dX12_laysRow_42 : decode cX12_laysRow 42 = .ok (.istore 8, 2) := by decide +kernel
theorem dX12_laysRow_44 : decode cX12_laysRow 44 = .ok (.iload 5, 2) := by decide +kernel
theorem dX12_laysRow_46 : decode cX12_laysRow 46 = .ok (.iload 4, 2) := by decide +kernel
theorem dX12_laysRow_48 : decode cX12_laysRow 48 = .ok (.irem, 1) := by decide +kernel
theorem dX12_laysRow_49 : decode cX12_laysRow 49 = .ok (.istore 5, 2) := by decide +kernel
theorem dX12_laysRow_51 : decode cX12_laysRow 51 = .ok (.iconst 0, 1) := by decide +kernel
theorem dX12_laysRow_52 : decode cX12_laysRow 52 = .ok (.istore 9, 2) := by decide +kernel
theorem dX12_laysRow_54 : decode cX12_laysRow 54 = .ok (.iload 6, 2) := by decide +kernel
theorem dX12_laysRow_56 : decode cX12_laysRow 56 = .ok (.iload 9, 2) := by decide +kernel
theorem dX12_laysRow_58 : decode cX12_laysRow 58 = .ok (.ishr, 1) := by decide +kernel
theorem dX12_laysRow_59 : decode cX12_laysRow 59 = .ok (.iconst 1, 1) := by decide +kernel
theorem dX12_laysRow_60 : decode cX12_laysRow 60 = .ok (.iand, 1) := by decide +kernel
theorem dX12_laysRow_61 : decode cX12_laysRow 61 = .ok (.iconst 1, 1) := by decide +kernel
theorem dX12_laysRow_62 : decode cX12_laysRow 62 = .ok (.if_icmp .eq 8, 3) := by decide +kernel
theorem dX12_laysRow_65 : decode cX12_laysRow 65 = .ok (.iload 8, 2) := by decide +kernel
theorem dX12_laysRow_67 : decode cX12_laysRow 67 = .ok (.ifCond .le 22, 3) := by decide +kernel
theorem dX12_laysRow_70 : decode cX12_laysRow 70 = .ok (.iload 6, 2) := by decide +kernel
theorem dX12_laysRow_72 : decode cX12_laysRow 72 = .ok (.iload 9, 2) := by decide +kernel
theorem dX12_laysRow_74 : decode cX12_laysRow 74 = .ok (.ishr, 1) := by decide +kernel
theorem dX12_laysRow_75 : decode cX12_laysRow 75 = .ok (.iconst 1, 1) := by decide +kernel
theorem dX12_laysRow_76 : decode cX12_laysRow 76 = .ok (.iand, 1) := by decide +kernel
theorem dX12_laysRow_77 : decode cX12_laysRow 77 = .ok (.ifCond .ne 6, 3) := by decide +kernel
theorem dX12_laysRow_80 : decode cX12_laysRow 80 = .ok (.iinc 8 (-1), 3) := by decide +kernel
theorem dX12_laysRow_83 : decode cX12_laysRow 83 = .ok (.iinc 9 1, 3) := by decide +kernel
theorem dX12_laysRow_86 : decode cX12_laysRow 86 = .ok (.goto (-32), 3) := by decide +kernel
theorem dX12_laysRow_89 : decode cX12_laysRow 89 = .ok (.aload_n 2, 1) := by decide +kernel
theorem dX12_laysRow_90 : decode cX12_laysRow 90 = .ok (.iload 7, 2) := by decide +kernel
theorem dX12_laysRow_92 : decode cX12_laysRow 92 = .ok (.iload 9, 2) := by decide +kernel
theorem dX12_laysRow_94 : decode cX12_laysRow 94 = .ok (.iastore, 1) := by decide +kernel
theorem dX12_laysRow_95 : decode cX12_laysRow 95 = .ok (.iload 6, 2) := by decide +kernel
theorem dX12_laysRow_97 : decode cX12_laysRow 97 = .ok (.iconst 1, 1) := by decide +kernel
theorem dX12_laysRow_98 : decode cX12_laysRow 98 = .ok (.iload 9, 2) := by decide +kernel
theorem dX12_laysRow_100 : decode cX12_laysRow 100 = .ok (.ishl, 1) := by decide +kernel
theorem dX12_laysRow_101 : decode cX12_laysRow 101 = .ok (.ior, 1) := by decide +kernel
theorem dX12_laysRow_102 : decode cX12_laysRow 102 = .ok (.istore 6, 2) := by decide +kernel
theorem dX12_laysRow_104 : decode cX12_laysRow 104 = .ok (.iinc 7 1, 3) := by decide +kernel
theorem dX12_laysRow_107 : decode cX12_laysRow 107 = .ok (.goto (-85), 3) := by decide +kernel
theorem dX12_laysRow_110 : decode cX12_laysRow 110 = .ok (.return_, 1) := by decide +kernel
theorem mi_X12_laysRow : MI yX12_laysRow cX12_laysRow 10 (none : Option Jvm.ClassFile.FieldType) 2 := ⟨w_1658, w_118, by decide +kernel, by decide +kernel, by decide +kernel⟩
set_option maxRecDepth 100000 in
set_option maxHeartbeats 4000000 in
theorem C_X12_laysRow (G : GG) (l : Launch) (th : Nat) (p0 : Int32) (p1 : Nat) (S : St) (Q : (Nat → Nat → Int32) → Prop) (hp : P_X12_laysRow th p0 p1 S Q) : Ctr G l yX12_laysRow cX12_laysRow 10 (none : Option Jvm.ClassFile.FieldType) 1 22 0 0 [.ref th, .int p0, .ref p1] S (fun (v : Option Value) (S9 : St) => ∃ (I9 : Nat → Nat → Int32), v = none ∧ S9 = wI S I9 ∧ Q I9) := by
  generalize hQQ : (fun (v : Option Value) (S9 : St) => ∃ (I9 : Nat → Nat → Int32), v = none ∧ S9 = wI S I9 ∧ Q I9) = QQ
  unfold P_X12_laysRow at hp
  refine Ctr.of (by decide) (Nat.le_of_ble_eq_true rfl) ?_
  intro p e s m args below meth c ls B hr hlk hin hl hH
  generalize hlocs0 : ([] : List Loc) = locs at hH ⊢
  have hx := B.1
  have hb := B.2.1
  have hl : lv_has ls 10 [(0, .ref th), (1, .int p0), (2, .ref p1)] := hl
  obtain ⟨hk_th, hp⟩ := hp
  refine lv_aload_n (pc := 0) hx hb dX12_laysRow_0 rfl (lv_at hl 0 rfl) ?_
  refine sx_getR (pc := 1) (j := 0) B hH hk_th coX12 rfl w_1304 rfl dX12_laysRow_1 ?_
  refine W.eq (g2 := F0 m 4 ls [va_rf (gR S th 0)]) rfl ?_
  obtain ⟨a_1, ha_1, hp⟩ := hp
  refine sx_nonnull (x := a_1) ha_1 ?_
  refine lv_iconst (pc := 4) (v := 0) hx hb dX12_laysRow_4 (by decide) ?_
  obtain ⟨hk_2, hp⟩ := hp
  obtain ⟨hn_3, hp⟩ := hp
  refine sx_iald (pc := 5) B hH hk_2 hn_3 dX12_laysRow_5 ?_
  refine W.eq (g2 := F0 m 6 ls [.int (gI S a_1 0)]) rfl ?_
  refine lv_topi (fun v_4 ev_4 => ?_)
  have hp := hp v_4 ev_4
  refine lv_istore_n (pc := 6) (lv' := [(3, .int v_4), (0, .ref th), (1, .int p0), (2, .ref p1)]) hx hb dX12_laysRow_6 rfl hl (by decide) rfl (fun ls hl => ?_)
  refine lv_aload_n (pc := 7) hx hb dX12_laysRow_7 rfl (lv_at hl 1 rfl) ?_
  refine sx_V (pc := 8) (As := []) (rest := []) B hH hl.1 (C_X12_rowsMany G l th _ _ hp) mi_X12_rowsMany coX12 hk_th w_1637 w_72 w_1635 rfl rfl ⟨Nat.le_of_ble_eq_true rfl, Nat.le_of_ble_eq_true rfl⟩ (Nat.le_of_ble_eq_true rfl) ⟨Nat.le_of_ble_eq_true rfl, Nat.le_of_ble_eq_true rfl⟩ dX12_laysRow_8 (fun v S1 H locs hq hH => ?_)
  obtain ⟨r_5, rfl, e9, hp⟩ := hq
  rw [e9] at hH
  refine W.eq (g2 := F0 m 11 ls [.int r_5]) rfl ?_
  refine lv_istore (pc := 11) (lv' := [(4, .int r_5), (3, .int v_4), (0, .ref th), (1, .int p0), (2, .ref p1)]) hx hb dX12_laysRow_11 hl (by decide) rfl (fun ls hl => ?_)
  refine lv_iload_n (pc := 13) hx hb dX12_laysRow_13 rfl (lv_at hl 3 rfl) ?_
  refine lv_istore (pc := 14) (lv' := [(5, .int p0), (4, .int r_5), (3, .int v_4), (0, .ref th), (1, .int p0), (2, .ref p1)]) hx hb dX12_laysRow_14 hl (by decide) rfl (fun ls hl => ?_)
  refine lv_iconst (pc := 16) (v := 0) hx hb dX12_laysRow_16 (by decide) ?_
  refine lv_istore (pc := 17) (lv' := [(6, .int 0), (5, .int p0), (4, .int r_5), (3, .int v_4), (0, .ref th), (1, .int p0), (2, .ref p1)]) hx hb dX12_laysRow_17 hl (by decide) rfl (fun ls hl => ?_)
  refine lv_iconst (pc := 19) (v := 0) hx hb dX12_laysRow_19 (by decide) ?_
  refine lv_istore (pc := 20) (lv' := [(7, .int 0), (6, .int 0), (5, .int p0), (4, .int r_5), (3, .int v_4), (0, .ref th), (1, .int p0), (2, .ref p1)]) hx hb dX12_laysRow_20 hl (by decide) rfl (fun ls hl => ?_)
  obtain ⟨I_6, ⟨k0_6, h0_6⟩, hst_6⟩ := hp
  have kl_6 : ∀ (n_6 : Nat) (x4_7 : Int32) (x5_8 : Int32) (x6_9 : Int32) (x7_10 : Int32) (F_11 : Nat → Nat → Int32) (H : Heap) (locs : List Loc) (ls : Array Slot), I_6 n_6 x4_7 x5_8 x6_9 x7_10 F_11 → Hp G (FA S s.heap.size) s.heap (wI S F_11) H locs → lv_has ls 10 [(2, .ref p1), (3, .int v_4), (4, .int x4_7), (5, .int x5_8), (6, .int x6_9), (7, .int x7_10)] → Wm G p l e { frames := 1, cells := 0, slots := 0, locals := 22 } s m args below meth c S QQ 0 0 H locs 0 0 (F0 m 22 ls []) := by
    intro n_6
    induction n_6 using Nat.strongRecOn with
    | ind n_6 ih_6 =>
      intro x4_7 x5_8 x6_9 x7_10 F_11 H locs ls hq9 hH hl
      have hp := hst_6 n_6 x4_7 x5_8 x6_9 x7_10 F_11 hq9
      refine lv_iload (pc := 22) hx hb dX12_laysRow_22 (lv_at hl 5 rfl) ?_
      refine lv_iload_n (pc := 24) hx hb dX12_laysRow_24 rfl (lv_at hl 1 rfl) ?_
      refine lv_icmp_ge (pc := 25) (tgt := 110) hx hb dX12_laysRow_25 (by decide) (fun cc_12 => ?_) (fun cc_12 => ?_)
      · have hp := hp.1 cc_12
        exact sx_vret (pc := 110) B hH hr hlk (by rw [← hQQ]; exact ⟨F_11, rfl, rfl, hp⟩) (Nat.le_of_ble_eq_true rfl) (Nat.le_of_ble_eq_true rfl) dX12_laysRow_110
      · have hp := hp.2 cc_12
        refine lv_iload (pc := 28) hx hb dX12_laysRow_28 (lv_at hl 2 rfl) ?_
        refine lv_iload_n (pc := 30) hx hb dX12_laysRow_30 rfl (lv_at hl 1 rfl) ?_
        refine lv_iload (pc := 31) hx hb dX12_laysRow_31 (lv_at hl 5 rfl) ?_
        refine lv_isub (pc := 33) hx hb dX12_laysRow_33 ?_
        obtain ⟨hc_13, hp⟩ := hp
        refine lv_idiv (pc := 34) hx hb dX12_laysRow_34 hc_13 ?_
        refine lv_topi (fun v_14 ev_14 => ?_)
        have hp := hp v_14 ev_14
        refine lv_istore (pc := 35) (lv' := [(4, .int v_14), (2, .ref p1), (3, .int v_4), (5, .int x5_8), (6, .int x6_9), (7, .int x7_10)]) hx hb dX12_laysRow_35 hl (by decide) rfl (fun ls hl => ?_)
        refine lv_iload (pc := 37) hx hb dX12_laysRow_37 (lv_at hl 3 rfl) ?_
        refine lv_iload (pc := 39) hx hb dX12_laysRow_39 (lv_at hl 0 rfl) ?_
        obtain ⟨hc_15, hp⟩ := hp
        refine lv_idiv (pc := 41) hx hb dX12_laysRow_41 hc_15 ?_
        refine lv_topi (fun v_16 ev_16 => ?_)
        have hp := hp v_16 ev_16
        refine lv_istore (pc := 42) (lv' := [(8, .int v_16), (4, .int v_14), (2, .ref p1), (3, .int v_4), (5, .int x5_8), (6, .int x6_9), (7, .int x7_10)]) hx hb dX12_laysRow_42 hl (by decide) rfl (fun ls hl => ?_)
        refine lv_iload (pc := 44) hx hb dX12_laysRow_44 (lv_at hl 4 rfl) ?_
        refine lv_iload (pc := 46) hx hb dX12_laysRow_46 (lv_at hl 1 rfl) ?_
        obtain ⟨hc_17, hp⟩ := hp
        refine lv_irem (pc := 48) hx hb dX12_laysRow_48 hc_17 ?_
        refine W.eq (g2 := F0 m 49 ls [.int (irm x5_8 v_14)]) rfl ?_
        refine lv_topi (fun v_18 ev_18 => ?_)
        have hp := hp v_18 ev_18
        refine lv_istore (pc := 49) (lv' := [(5, .int v_18), (8, .int v_16), (4, .int v_14), (2, .ref p1), (3, .int v_4), (6, .int x6_9), (7, .int x7_10)]) hx hb dX12_laysRow_49 hl (by decide) rfl (fun ls hl => ?_)
        refine lv_iconst (pc := 51) (v := 0) hx hb dX12_laysRow_51 (by decide) ?_
        refine lv_istore (pc := 52) (lv' := [(9, .int 0), (5, .int v_18), (8, .int v_16), (4, .int v_14), (2, .ref p1), (3, .int v_4), (6, .int x6_9), (7, .int x7_10)]) hx hb dX12_laysRow_52 hl (by decide) rfl (fun ls hl => ?_)
        obtain ⟨I_19, ⟨k0_19, h0_19⟩, hst_19⟩ := hp
        have kl_19 : ∀ (n_19 : Nat) (x8_20 : Int32) (x9_21 : Int32) (H : Heap) (locs : List Loc) (ls : Array Slot), I_19 n_19 x8_20 x9_21 → Hp G (FA S s.heap.size) s.heap (wI S F_11) H locs → lv_has ls 10 [(2, .ref p1), (3, .int v_4), (4, .int v_14), (5, .int v_18), (6, .int x6_9), (7, .int x7_10), (8, .int x8_20), (9, .int x9_21)] → Wm G p l e { frames := 1, cells := 0, slots := 0, locals := 22 } s m args below meth c S QQ 0 0 H locs 0 0 (F0 m 54 ls []) := by
          intro n_19
          induction n_19 using Nat.strongRecOn with
          | ind n_19 ih_19 =>
            intro x8_20 x9_21 H locs ls hq9 hH hl
            have hp := hst_19 n_19 x8_20 x9_21 hq9
            refine lv_iload (pc := 54) hx hb dX12_laysRow_54 (lv_at hl 4 rfl) ?_
            refine lv_iload (pc := 56) hx hb dX12_laysRow_56 (lv_at hl 7 rfl) ?_
            refine lv_ishr (pc := 58) hx hb dX12_laysRow_58 ?_
            refine W.eq (g2 := F0 m 59 ls [.int (shr x6_9 x9_21)]) rfl ?_
            refine lv_iconst (pc := 59) (v := 1) hx hb dX12_laysRow_59 (by decide) ?_
            refine lv_iand (pc := 60) hx hb dX12_laysRow_60 ?_
            refine lv_iconst (pc := 61) (v := 1) hx hb dX12_laysRow_61 (by decide) ?_
            obtain ⟨J_23, hj_23, hp⟩ := hp
            have kj_23 : ∀  (H : Heap) (locs : List Loc) (ls : Array Slot), J_23  → Hp G (FA S s.heap.size) s.heap (wI S F_11) H locs → lv_has ls 10 [(2, .ref p1), (3, .int v_4), (4, .int v_14), (5, .int v_18), (6, .int x6_9), (7, .int x7_10), (8, .int x8_20), (9, .int x9_21)] → Wm G p l e { frames := 1, cells := 0, slots := 0, locals := 22 } s m args below meth c S QQ 0 0 H locs 0 0 (F0 m 70 ls []) := by
              intro  H locs ls hq9 hH hl
              have hp := hj_23  hq9
              refine lv_iload (pc := 70) hx hb dX12_laysRow_70 (lv_at hl 4 rfl) ?_
              refine lv_iload (pc := 72) hx hb dX12_laysRow_72 (lv_at hl 7 rfl) ?_
              refine lv_ishr (pc := 74) hx hb dX12_laysRow_74 ?_
              refine W.eq (g2 := F0 m 75 ls [.int (shr x6_9 x9_21)]) rfl ?_
              refine lv_iconst (pc := 75) (v := 1) hx hb dX12_laysRow_75 (by decide) ?_
              refine lv_iand (pc := 76) hx hb dX12_laysRow_76 ?_
              refine lv_if_ne (pc := 77) (tgt := 83) hx hb dX12_laysRow_77 (by decide) (fun cc_24 => ?_) (fun cc_24 => ?_)
              · have hp := hp.1 cc_24
                obtain ⟨v_25, ev_25⟩ : ∃ y : Int32, y = x9_21 + 1 := ⟨_, rfl⟩
                have hp := hp v_25 ev_25
                refine lv_iinc (pc := 83) (v := v_25) (lv' := [(9, .int v_25), (2, .ref p1), (3, .int v_4), (4, .int v_14), (5, .int v_18), (6, .int x6_9), (7, .int x7_10), (8, .int x8_20)]) hx hb dX12_laysRow_83 hl (k := 7) rfl (by rw [ev_25]; rfl) (by decide) rfl (fun ls hl => ?_)
                refine lv_goto (pc := 86) (tgt := 54) hx hb dX12_laysRow_86 (by decide) ?_
                obtain ⟨k9, hlt9, hp⟩ := hp
                exact ih_19 k9 hlt9 _ _ _ _ _ hp hH (lv_sub hl [1, 2, 3, 4, 5, 6, 7, 0] rfl)
              · have hp := hp.2 cc_24
                obtain ⟨v_26, ev_26⟩ : ∃ y : Int32, y = x8_20 + (-1) := ⟨_, rfl⟩
                have hp := hp v_26 ev_26
                refine lv_iinc (pc := 80) (v := v_26) (lv' := [(8, .int v_26), (2, .ref p1), (3, .int v_4), (4, .int v_14), (5, .int v_18), (6, .int x6_9), (7, .int x7_10), (9, .int x9_21)]) hx hb dX12_laysRow_80 hl (k := 6) rfl (by rw [ev_26]; rfl) (by decide) rfl (fun ls hl => ?_)
                obtain ⟨v_27, ev_27⟩ : ∃ y : Int32, y = x9_21 + 1 := ⟨_, rfl⟩
                have hp := hp v_27 ev_27
                refine lv_iinc (pc := 83) (v := v_27) (lv' := [(9, .int v_27), (8, .int v_26), (2, .ref p1), (3, .int v_4), (4, .int v_14), (5, .int v_18), (6, .int x6_9), (7, .int x7_10)]) hx hb dX12_laysRow_83 hl (k := 7) rfl (by rw [ev_27]; rfl) (by decide) rfl (fun ls hl => ?_)
                refine lv_goto (pc := 86) (tgt := 54) hx hb dX12_laysRow_86 (by decide) ?_
                obtain ⟨k9, hlt9, hp⟩ := hp
                exact ih_19 k9 hlt9 _ _ _ _ _ hp hH (lv_sub hl [2, 3, 4, 5, 6, 7, 1, 0] rfl)
            refine lv_icmp_eq (pc := 62) (tgt := 70) hx hb dX12_laysRow_62 (by decide) (fun cc_22 => ?_) (fun cc_22 => ?_)
            · have hp := hp.1 cc_22
              exact kj_23  _ _ _ hp hH (lv_sub hl [0, 1, 2, 3, 4, 5, 6, 7] rfl)
            · have hp := hp.2 cc_22
              refine lv_iload (pc := 65) hx hb dX12_laysRow_65 (lv_at hl 6 rfl) ?_
              refine lv_if_le (pc := 67) (tgt := 89) hx hb dX12_laysRow_67 (by decide) (fun cc_28 => ?_) (fun cc_28 => ?_)
              · have hp := hp.1 cc_28
                refine lv_aload_n (pc := 89) hx hb dX12_laysRow_89 rfl (lv_at hl 0 rfl) ?_
                refine lv_iload (pc := 90) hx hb dX12_laysRow_90 (lv_at hl 5 rfl) ?_
                refine lv_iload (pc := 92) hx hb dX12_laysRow_92 (lv_at hl 7 rfl) ?_
                obtain ⟨hk_29, hp⟩ := hp
                obtain ⟨hn_30, hp⟩ := hp
                obtain ⟨F_31, eF_31⟩ : ∃ z : Nat → Nat → Int32, z = upI F_11 p1 x7_10.toNatClampNeg x9_21 := ⟨_, rfl⟩
                have hp := hp F_31 eF_31
                refine sx_iast (pc := 94) B hH hk_29 hn_30 dX12_laysRow_94 (fun H locs hH => ?_)
                have hH : Hp G (FA S s.heap.size) s.heap (wI S F_31) H locs := by rw [eF_31]; exact hH
                refine lv_iload (pc := 95) hx hb dX12_laysRow_95 (lv_at hl 4 rfl) ?_
                refine lv_iconst (pc := 97) (v := 1) hx hb dX12_laysRow_97 (by decide) ?_
                refine lv_iload (pc := 98) hx hb dX12_laysRow_98 (lv_at hl 7 rfl) ?_
                refine lv_ishl (pc := 100) hx hb dX12_laysRow_100 ?_
                refine W.eq (g2 := F0 m 101 ls [.int (shl 1 x9_21), .int x6_9]) rfl ?_
                refine lv_ior (pc := 101) hx hb dX12_laysRow_101 ?_
                refine lv_topi (fun v_32 ev_32 => ?_)
                have hp := hp v_32 ev_32
                refine lv_istore (pc := 102) (lv' := [(6, .int v_32), (2, .ref p1), (3, .int v_4), (4, .int v_14), (5, .int v_18), (7, .int x7_10), (8, .int x8_20), (9, .int x9_21)]) hx hb dX12_laysRow_102 hl (by decide) rfl (fun ls hl => ?_)
                obtain ⟨v_33, ev_33⟩ : ∃ y : Int32, y = x7_10 + 1 := ⟨_, rfl⟩
                have hp := hp v_33 ev_33
                refine lv_iinc (pc := 104) (v := v_33) (lv' := [(7, .int v_33), (6, .int v_32), (2, .ref p1), (3, .int v_4), (4, .int v_14), (5, .int v_18), (8, .int x8_20), (9, .int x9_21)]) hx hb dX12_laysRow_104 hl (k := 5) rfl (by rw [ev_33]; rfl) (by decide) rfl (fun ls hl => ?_)
                refine lv_goto (pc := 107) (tgt := 22) hx hb dX12_laysRow_107 (by decide) ?_
                obtain ⟨k9, hlt9, hp⟩ := hp
                exact ih_6 k9 hlt9 _ _ _ _ _ _ _ _ hp hH (lv_sub hl [2, 3, 4, 5, 1, 0] rfl)
              · have hp := hp.2 cc_28
                exact kj_23  _ _ _ hp hH (lv_sub hl [0, 1, 2, 3, 4, 5, 6, 7] rfl)
        exact kl_19 k0_19 _ _ _ _ _ h0_19 hH (lv_sub hl [4, 5, 3, 1, 6, 7, 2, 0] rfl)
  exact kl_6 k0_6 _ _ _ _ _ _ _ _ h0_6 hH (lv_sub hl [7, 4, 3, 2, 1, 0] rfl)
theorem dX12_numberOf_0 : decode cX12_numberOf 0 = .ok (.aload_n 0, 1) := by decide +kernel
theorem dX12_numberOf_1 : decode cX12_numberOf 1 = .ok (.getfield 7, 3) := by decide +kernel
theorem dX12_numberOf_4 : decode cX12_numberOf 4 = .ok (.iconst 0, 1) := by decide +kernel
theorem dX12_numberOf_5 : decode cX12_numberOf 5 = .ok (.iaload, 1) := by decide +kernel
theorem dX12_numberOf_6 : decode cX12_numberOf 6 = .ok (.istore_n 2, 1) := by decide +kernel
theorem dX12_numberOf_7 : decode cX12_numberOf 7 = .ok (.iconst 0, 1) := by decide +kernel
theorem dX12_numberOf_8 : decode cX12_numberOf 8 = .ok (.istore_n 3, 1) := by decide +kernel
theorem dX12_numberOf_9 : decode cX12_numberOf 9 = .ok (.iconst 0, 1) := by decide +kernel
theorem dX12_numberOf_10 : decode cX12_numberOf 10 = .ok (.istore 4, 2) := by decide +kernel
theorem dX12_numberOf_12 : decode cX12_numberOf 12 = .ok (.iload 4, 2) := by decide +kernel
theorem dX12_numberOf_14 : decode cX12_numberOf 14 = .ok (.iload_n 2, 1) := by decide +kernel
theorem dX12_numberOf_15 : decode cX12_numberOf 15 = .ok (.if_icmp .ge 61, 3) := by decide +kernel
theorem dX12_numberOf_18 : decode cX12_numberOf 18 = .ok (.iconst 0, 1) := by decide +kernel
theorem dX12_numberOf_19 : decode cX12_numberOf 19 = .ok (.istore 5, 2) := by decide +kernel
theorem dX12_numberOf_21 : decode cX12_numberOf 21 = .ok (.iload 4, 2) := by decide +kernel
theorem dX12_numberOf_23 : decode cX12_numberOf 23 = .ok (.iconst 1, 1) := by decide +kernel
theorem dX12_numberOf_24 : decode cX12_numberOf 24 = .ok (.iadd, 1) := by decide +kernel
theorem dX12_numberOf_25 : decode cX12_numberOf 25 = .ok (.istore 6, 2) := by decide +kernel
theorem dX12_numberOf_27 : decode cX12_numberOf 27 = .ok (.iload 6, 2) := by decide +kernel
theorem dX12_numberOf_29 : decode cX12_numberOf 29 = .ok (.iload_n 2, 1) := by decide +kernel
theorem dX12_numberOf_30 : decode cX12_numberOf 30 = .ok (.if_icmp .ge 30, 3) := by decide +kernel
theorem dX12_numberOf_33 : decode cX12_numberOf 33 = .ok (.iload 5, 2) := by decide +kernel
theorem dX12_numberOf_35 : decode cX12_numberOf 35 = .ok (.aload_n 1, 1) := by decide +kernel
theorem dX12_numberOf_36 : decode cX12_numberOf 36 = .ok (.iload 6, 2) := by decide +kernel
theorem dX12_numberOf_38 : decode cX12_numberOf 38 = .ok (.iaload, 1) := by decide +kernel
theorem dX12_numberOf_39 : decode cX12_numberOf 39 = .ok (.aload_n 1, 1) := by decide +kernel
theorem dX12_numberOf_40 : decode cX12_numberOf 40 = .ok (.iload 4, 2) := by decide +kernel
theorem dX12_numberOf_42 : decode cX12_numberOf 42 = .ok (.iaload, 1) := by decide +kernel
theorem dX12_numberOf_43 : decode cX12_numberOf 43 = .ok (.if_icmp .ge 7, 3) := by decide +kernel
theorem dX12_numberOf_46 : decode cX12_numberOf 46 = .ok (.iconst 1, 1) := by decide +kernel
theorem dX12_numberOf_47 : decode cX12_numberOf 47 = .ok (.goto 4, 3) := by decide +kernel
theorem dX12_numberOf_50 : decode cX12_numberOf 50 = .ok (.iconst 0, 1) := by decide +kernel
theorem dX12_numberOf_51 : decode cX12_numberOf 51 = .ok (.iadd, 1) := by decide +kernel
theorem dX12_numberOf_52 : decode cX12_numberOf 52 = .ok (.istore 5, 2) := by decide +kernel
theorem dX12_numberOf_54 : decode cX12_numberOf 54 = .ok (.iinc 6 1, 3) := by decide +kernel
theorem dX12_numberOf_57 : decode cX12_numberOf 57 = .ok (.goto (-30), 3) := by decide +kernel
theorem dX12_numberOf_60 : decode cX12_numberOf 60 = .ok (.iload_n 3, 1) := by decide +kernel
theorem dX12_numberOf_61 : decode cX12_numberOf 61 = .ok (.iload_n 2, 1) := by decide +kernel
theorem dX12_numberOf_62 : decode cX12_numberOf 62 = .ok (.iload 4, 2) := by decide +kernel
theorem dX12_numberOf_64 : decode cX12_numberOf 64 = .ok (.isub, 1) := by decide +kernel
theorem dX12_numberOf_65 : decode cX12_numberOf 65 = .ok (.imul, 1) := by decide +kernel
theorem dX12_numberOf_66 : decode cX12_numberOf 66 = .ok (.iload 5, 2) := by decide +kernel
theorem dX12_numberOf_68 : decode cX12_numberOf 68 = .ok (.iadd, 1) := by decide +kernel
theorem dX12_numberOf_69 : decode cX12_numberOf 69 = .ok (.istore_n 3, 1) := by decide +kernel
theorem dX12_numberOf_70 : decode cX12_numberOf 70 = .ok (.iinc 4 1, 3) := by decide +kernel
theorem dX12_numberOf_73 : decode cX12_numberOf 73 = .ok (.goto (-61), 3) := by decide +kernel
theorem dX12_numberOf_76 : decode cX12_numberOf 76 = .ok (.iload_n 3, 1) := by decide +kernel
theorem dX12_numberOf_77 : decode cX12_numberOf 77 = .ok (.ireturn, 1) := by decide +kernel
theorem mi_X12_numberOf : MI yX12_numberOf cX12_numberOf 7 (some FieldType.int) 1 := ⟨w_1669, w_118, by decide +kernel, by decide +kernel, by decide +kernel⟩
set_option maxRecDepth 100000 in
set_option maxHeartbeats 4000000 in
theorem C_X12_numberOf (G : GG) (l : Launch) (th : Nat) (p0 : Nat) (S : St) (Q : Int32 → Prop) (hp : P_X12_numberOf th p0 S Q) : Ctr G l yX12_numberOf cX12_numberOf 7 (some FieldType.int) 0 0 0 0 [.ref th, .ref p0] S (fun (v : Option Value) (S9 : St) => ∃ (r : Int32), v = some (.int r) ∧ S9 = S ∧ Q r ) := by
  generalize hQQ : (fun (v : Option Value) (S9 : St) => ∃ (r : Int32), v = some (.int r) ∧ S9 = S ∧ Q r ) = QQ
  unfold P_X12_numberOf at hp
  refine Ctr.of (by decide) (Nat.le_of_ble_eq_true rfl) ?_
  intro p e s m args below meth c ls B hr hlk hin hl hH
  generalize hlocs0 : ([] : List Loc) = locs at hH ⊢
  have hx := B.1
  have hb := B.2.1
  have hl : lv_has ls 7 [(0, .ref th), (1, .ref p0)] := hl
  obtain ⟨hk_th, hp⟩ := hp
  refine lv_aload_n (pc := 0) hx hb dX12_numberOf_0 rfl (lv_at hl 0 rfl) ?_
  refine sx_getR (pc := 1) (j := 0) B hH hk_th coX12 rfl w_1304 rfl dX12_numberOf_1 ?_
  refine W.eq (g2 := F0 m 4 ls [va_rf (gR S th 0)]) rfl ?_
  obtain ⟨a_1, ha_1, hp⟩ := hp
  refine sx_nonnull (x := a_1) ha_1 ?_
  refine lv_iconst (pc := 4) (v := 0) hx hb dX12_numberOf_4 (by decide) ?_
  obtain ⟨hk_2, hp⟩ := hp
  obtain ⟨hn_3, hp⟩ := hp
  refine sx_iald (pc := 5) B hH hk_2 hn_3 dX12_numberOf_5 ?_
  refine W.eq (g2 := F0 m 6 ls [.int (gI S a_1 0)]) rfl ?_
  refine lv_topi (fun v_4 ev_4 => ?_)
  have hp := hp v_4 ev_4
  refine lv_istore_n (pc := 6) (lv' := [(2, .int v_4), (0, .ref th), (1, .ref p0)]) hx hb dX12_numberOf_6 rfl hl (by decide) rfl (fun ls hl => ?_)
  refine lv_iconst (pc := 7) (v := 0) hx hb dX12_numberOf_7 (by decide) ?_
  refine lv_istore_n (pc := 8) (lv' := [(3, .int 0), (2, .int v_4), (0, .ref th), (1, .ref p0)]) hx hb dX12_numberOf_8 rfl hl (by decide) rfl (fun ls hl => ?_)
  refine lv_iconst (pc := 9) (v := 0) hx hb dX12_numberOf_9 (by decide) ?_
  refine lv_istore (pc := 10) (lv' := [(4, .int 0), (3, .int 0), (2, .int v_4), (0, .ref th), (1, .ref p0)]) hx hb dX12_numberOf_10 hl (by decide) rfl (fun ls hl => ?_)
  obtain ⟨I_5, ⟨k0_5, h0_5⟩, hst_5⟩ := hp
  have kl_5 : ∀ (n_5 : Nat) (x3_6 : Int32) (x4_7 : Int32) (H : Heap) (locs : List Loc) (ls : Array Slot), I_5 n_5 x3_6 x4_7 → Hp G (FA S s.heap.size) s.heap S H locs → lv_has ls 7 [(1, .ref p0), (2, .int v_4), (3, .int x3_6), (4, .int x4_7)] → Wm G p l e { frames := 0, cells := 0, slots := 0, locals := 0 } s m args below meth c S QQ 0 0 H locs 0 0 (F0 m 12 ls []) := by
    intro n_5
    induction n_5 using Nat.strongRecOn with
    | ind n_5 ih_5 =>
      intro x3_6 x4_7 H locs ls hq9 hH hl
      have hp := hst_5 n_5 x3_6 x4_7 hq9
      refine lv_iload (pc := 12) hx hb dX12_numberOf_12 (lv_at hl 3 rfl) ?_
      refine lv_iload_n (pc := 14) hx hb dX12_numberOf_14 rfl (lv_at hl 1 rfl) ?_
      refine lv_icmp_ge (pc := 15) (tgt := 76) hx hb dX12_numberOf_15 (by decide) (fun cc_8 => ?_) (fun cc_8 => ?_)
      · have hp := hp.1 cc_8
        refine lv_iload_n (pc := 76) hx hb dX12_numberOf_76 rfl (lv_at hl 2 rfl) ?_
        exact sx_iret (pc := 77) B hH hr hlk (by rw [← hQQ]; exact ⟨_, rfl, rfl, hp⟩) (Nat.le_of_ble_eq_true rfl) (Nat.le_of_ble_eq_true rfl) dX12_numberOf_77
      · have hp := hp.2 cc_8
        refine lv_iconst (pc := 18) (v := 0) hx hb dX12_numberOf_18 (by decide) ?_
        refine lv_istore (pc := 19) (lv' := [(5, .int 0), (1, .ref p0), (2, .int v_4), (3, .int x3_6), (4, .int x4_7)]) hx hb dX12_numberOf_19 hl (by decide) rfl (fun ls hl => ?_)
        refine lv_iload (pc := 21) hx hb dX12_numberOf_21 (lv_at hl 4 rfl) ?_
        refine lv_iconst (pc := 23) (v := 1) hx hb dX12_numberOf_23 (by decide) ?_
        refine lv_iadd (pc := 24) hx hb dX12_numberOf_24 ?_
        refine lv_topi (fun v_9 ev_9 => ?_)
        have hp := hp v_9 ev_9
        refine lv_istore (pc := 25) (lv' := [(6, .int v_9), (5, .int 0), (1, .ref p0), (2, .int v_4), (3, .int x3_6), (4, .int x4_7)]) hx hb dX12_numberOf_25 hl (by decide) rfl (fun ls hl => ?_)
        obtain ⟨I_10, ⟨k0_10, h0_10⟩, hst_10⟩ := hp
        have kl_10 : ∀ (n_10 : Nat) (x5_11 : Int32) (x6_12 : Int32) (H : Heap) (locs : List Loc) (ls : Array Slot), I_10 n_10 x5_11 x6_12 → Hp G (FA S s.heap.size) s.heap S H locs → lv_has ls 7 [(1, .ref p0), (2, .int v_4), (3, .int x3_6), (4, .int x4_7), (5, .int x5_11), (6, .int x6_12)] → Wm G p l e { frames := 0, cells := 0, slots := 0, locals := 0 } s m args below meth c S QQ 0 0 H locs 0 0 (F0 m 27 ls []) := by
          intro n_10
          induction n_10 using Nat.strongRecOn with
          | ind n_10 ih_10 =>
            intro x5_11 x6_12 H locs ls hq9 hH hl
            have hp := hst_10 n_10 x5_11 x6_12 hq9
            refine lv_iload (pc := 27) hx hb dX12_numberOf_27 (lv_at hl 5 rfl) ?_
            refine lv_iload_n (pc := 29) hx hb dX12_numberOf_29 rfl (lv_at hl 1 rfl) ?_
            refine lv_icmp_ge (pc := 30) (tgt := 60) hx hb dX12_numberOf_30 (by decide) (fun cc_13 => ?_) (fun cc_13 => ?_)
            · have hp := hp.1 cc_13
              refine lv_iload_n (pc := 60) hx hb dX12_numberOf_60 rfl (lv_at hl 2 rfl) ?_
              refine lv_iload_n (pc := 61) hx hb dX12_numberOf_61 rfl (lv_at hl 1 rfl) ?_
              refine lv_iload (pc := 62) hx hb dX12_numberOf_62 (lv_at hl 3 rfl) ?_
              refine lv_isub (pc := 64) hx hb dX12_numberOf_64 ?_
              refine lv_imul (pc := 65) hx hb dX12_numberOf_65 ?_
              refine lv_iload (pc := 66) hx hb dX12_numberOf_66 (lv_at hl 4 rfl) ?_
              refine lv_iadd (pc := 68) hx hb dX12_numberOf_68 ?_
              refine lv_topi (fun v_14 ev_14 => ?_)
              have hp := hp v_14 ev_14
              refine lv_istore_n (pc := 69) (lv' := [(3, .int v_14), (1, .ref p0), (2, .int v_4), (4, .int x4_7), (5, .int x5_11), (6, .int x6_12)]) hx hb dX12_numberOf_69 rfl hl (by decide) rfl (fun ls hl => ?_)
              obtain ⟨v_15, ev_15⟩ : ∃ y : Int32, y = x4_7 + 1 := ⟨_, rfl⟩
              have hp := hp v_15 ev_15
              refine lv_iinc (pc := 70) (v := v_15) (lv' := [(4, .int v_15), (3, .int v_14), (1, .ref p0), (2, .int v_4), (5, .int x5_11), (6, .int x6_12)]) hx hb dX12_numberOf_70 hl (k := 3) rfl (by rw [ev_15]; rfl) (by decide) rfl (fun ls hl => ?_)
              refine lv_goto (pc := 73) (tgt := 12) hx hb dX12_numberOf_73 (by decide) ?_
              obtain ⟨k9, hlt9, hp⟩ := hp
              exact ih_5 k9 hlt9 _ _ _ _ _ hp hH (lv_sub hl [2, 3, 1, 0] rfl)
            · have hp := hp.2 cc_13
              refine lv_iload (pc := 33) hx hb dX12_numberOf_33 (lv_at hl 4 rfl) ?_
              refine lv_aload_n (pc := 35) hx hb dX12_numberOf_35 rfl (lv_at hl 0 rfl) ?_
              refine lv_iload (pc := 36) hx hb dX12_numberOf_36 (lv_at hl 5 rfl) ?_
              obtain ⟨hk_16, hp⟩ := hp
              obtain ⟨hn_17, hp⟩ := hp
              refine sx_iald (pc := 38) B hH hk_16 hn_17 dX12_numberOf_38 ?_
              refine W.eq (g2 := F0 m 39 ls [.int (gI S p0 x6_12.toNatClampNeg), .int x5_11]) rfl ?_
              refine lv_aload_n (pc := 39) hx hb dX12_numberOf_39 rfl (lv_at hl 0 rfl) ?_
              refine lv_iload (pc := 40) hx hb dX12_numberOf_40 (lv_at hl 3 rfl) ?_
              obtain ⟨hn_18, hp⟩ := hp
              refine sx_iald (pc := 42) B hH hk_16 hn_18 dX12_numberOf_42 ?_
              refine W.eq (g2 := F0 m 43 ls [.int (gI S p0 x4_7.toNatClampNeg), .int (gI S p0 x6_12.toNatClampNeg), .int x5_11]) rfl ?_
              refine lv_icmp_ge (pc := 43) (tgt := 50) hx hb dX12_numberOf_43 (by decide) (fun cc_19 => ?_) (fun cc_19 => ?_)
              · have hp := hp.1 cc_19
                refine lv_iconst (pc := 50) (v := 0) hx hb dX12_numberOf_50 (by decide) ?_
                refine lv_iadd (pc := 51) hx hb dX12_numberOf_51 ?_
                refine lv_topi (fun v_20 ev_20 => ?_)
                have hp := hp v_20 ev_20
                refine lv_istore (pc := 52) (lv' := [(5, .int v_20), (1, .ref p0), (2, .int v_4), (3, .int x3_6), (4, .int x4_7), (6, .int x6_12)]) hx hb dX12_numberOf_52 hl (by decide) rfl (fun ls hl => ?_)
                obtain ⟨v_21, ev_21⟩ : ∃ y : Int32, y = x6_12 + 1 := ⟨_, rfl⟩
                have hp := hp v_21 ev_21
                refine lv_iinc (pc := 54) (v := v_21) (lv' := [(6, .int v_21), (5, .int v_20), (1, .ref p0), (2, .int v_4), (3, .int x3_6), (4, .int x4_7)]) hx hb dX12_numberOf_54 hl (k := 5) rfl (by rw [ev_21]; rfl) (by decide) rfl (fun ls hl => ?_)
                refine lv_goto (pc := 57) (tgt := 27) hx hb dX12_numberOf_57 (by decide) ?_
                obtain ⟨k9, hlt9, hp⟩ := hp
                exact ih_10 k9 hlt9 _ _ _ _ _ hp hH (lv_sub hl [2, 3, 4, 5, 1, 0] rfl)
              · have hp := hp.2 cc_19
                refine lv_iconst (pc := 46) (v := 1) hx hb dX12_numberOf_46 (by decide) ?_
                refine lv_goto (pc := 47) (tgt := 51) hx hb dX12_numberOf_47 (by decide) ?_
                refine lv_iadd (pc := 51) hx hb dX12_numberOf_51 ?_
                refine lv_topi (fun v_22 ev_22 => ?_)
                have hp := hp v_22 ev_22
                refine lv_istore (pc := 52) (lv' := [(5, .int v_22), (1, .ref p0), (2, .int v_4), (3, .int x3_6), (4, .int x4_7), (6, .int x6_12)]) hx hb dX12_numberOf_52 hl (by decide) rfl (fun ls hl => ?_)
                obtain ⟨v_23, ev_23⟩ : ∃ y : Int32, y = x6_12 + 1 := ⟨_, rfl⟩
                have hp := hp v_23 ev_23
                refine lv_iinc (pc := 54) (v := v_23) (lv' := [(6, .int v_23), (5, .int v_22), (1, .ref p0), (2, .int v_4), (3, .int x3_6), (4, .int x4_7)]) hx hb dX12_numberOf_54 hl (k := 5) rfl (by rw [ev_23]; rfl) (by decide) rfl (fun ls hl => ?_)
                refine lv_goto (pc := 57) (tgt := 27) hx hb dX12_numberOf_57 (by decide) ?_
                obtain ⟨k9, hlt9, hp⟩ := hp
                exact ih_10 k9 hlt9 _ _ _ _ _ hp hH (lv_sub hl [2, 3, 4, 5, 1, 0] rfl)
        exact kl_10 k0_10 _ _ _ _ _ h0_10 hH (lv_sub hl [2, 3, 4, 5, 1, 0] rfl)
  exact kl_5 k0_5 _ _ _ _ _ h0_5 hH (lv_sub hl [4, 2, 1, 0] rfl)
theorem dX12_productOf_0 : decode cX12_productOf 0 = .ok (.aload_n 0, 1) := by decide +kernel
theorem dX12_productOf_1 : decode cX12_productOf 1 = .ok (.iload_n 1, 1) := by decide +kernel
theorem dX12_productOf_2 : decode cX12_productOf 2 = .ok (.aload_n 0, 1) := by decide +kernel
theorem dX12_productOf_3 : decode cX12_productOf 3 = .ok (.getfield 47, 3) := by decide +kernel
theorem dX12_productOf_6 : decode cX12_productOf 6 = .ok (.invokevirtual 266, 3) := by decide +kernel
theorem dX12_productOf_9 : decode cX12_productOf 9 = .ok (.aload_n 0, 1) := by decide +kernel
theorem dX12_productOf_10 : decode cX12_productOf 10 = .ok (.iload_n 2, 1) := by decide +kernel
theorem dX12_productOf_11 : decode cX12_productOf 11 = .ok (.aload_n 0, 1) := by decide +kernel
theorem dX12_productOf_12 : decode cX12_productOf 12 = .ok (.getfield 50, 3) := by decide +kernel
theorem dX12_productOf_15 : decode cX12_productOf 15 = .ok (.invokevirtual 266, 3) := by decide +kernel
theorem dX12_productOf_18 : decode cX12_productOf 18 = .ok (.iconst 0, 1) := by decide +kernel
theorem dX12_productOf_19 : decode cX12_productOf 19 = .ok (.istore_n 3, 1) := by decide +kernel
theorem dX12_productOf_20 : decode cX12_productOf 20 = .ok (.iload_n 3, 1) := by decide +kernel
theorem dX12_productOf_21 : decode cX12_productOf 21 = .ok (.aload_n 0, 1) := by decide +kernel
theorem dX12_productOf_22 : decode cX12_productOf 22 = .ok (.getfield 7, 3) := by decide +kernel
theorem dX12_productOf_25 : decode cX12_productOf 25 = .ok (.iconst 0, 1) := by decide +kernel
theorem dX12_productOf_26 : decode cX12_productOf 26 = .ok (.iaload, 1) := by decide +kernel
theorem dX12_productOf_27 : decode cX12_productOf 27 = .ok (.if_icmp .ge 26, 3) := by decide +kernel
theorem dX12_productOf_30 : decode cX12_productOf 30 = .ok (.aload_n 0, 1) := by decide +kernel
theorem dX12_productOf_31 : decode cX12_productOf 31 = .ok (.getfield 53, 3) := by decide +kernel
theorem dX12_productOf_34 : decode cX12_productOf 34 = .ok (.iload_n 3, 1) := by decide +kernel
theorem dX12_productOf_35 : decode cX12_productOf 35 = .ok (.aload_n 0, 1) := by decide +kernel
theorem dX12_productOf_36 : decode cX12_productOf 36 = .ok (.getfield 47, 3) := by decide +kernel
theorem dX12_productOf_39 : decode cX12_productOf 39 = .ok (.aload_n 0, 1) := by decide +kernel
theorem dX12_productOf_40 : decode cX12_productOf 40 = .ok (.getfield 50, 3) := by decide +kernel
theorem dX12_productOf_43 : decode cX12_productOf 43 = .ok (.iload_n 3, 1) := by decide +kernel
theorem dX12_productOf_44 : decode cX12_productOf 44 = .ok (.iaload, 1) := by decide +kernel
theorem dX12_productOf_45 : decode cX12_productOf 45 = .ok (.iaload, 1) := by decide +kernel
theorem dX12_productOf_46 : decode cX12_productOf 46 = .ok (.iastore, 1) := by decide +kernel
theorem dX12_productOf_47 : decode cX12_productOf 47 = .ok (.iinc 3 1, 3) := by decide +kernel
theorem dX12_productOf_50 : decode cX12_productOf 50 = .ok (.goto (-30), 3) := by decide +kernel
theorem dX12_productOf_53 : decode cX12_productOf 53 = .ok (.aload_n 0, 1) := by decide +kernel
theorem dX12_productOf_54 : decode cX12_productOf 54 = .ok (.aload_n 0, 1) := by decide +kernel
theorem dX12_productOf_55 : decode cX12_productOf 55 = .ok (.getfield 53, 3) := by decide +kernel
theorem dX12_productOf_58 : decode cX12_productOf 58 = .ok (.invokevirtual 270, 3) := by decide +kernel
theorem dX12_productOf_61 : decode cX12_productOf 61 = .ok (.ireturn, 1) := by decide +kernel
theorem mi_X12_productOf : MI yX12_productOf cX12_productOf 4 (some FieldType.int) 2 := ⟨w_1677, w_118, by decide +kernel, by decide +kernel, by decide +kernel⟩
set_option maxRecDepth 100000 in
set_option maxHeartbeats 4000000 in
theorem C_X12_productOf (G : GG) (l : Launch) (th : Nat) (p0 : Int32) (p1 : Int32) (S : St) (Q : Int32 → (Nat → Nat → Int32) → Prop) (hp : P_X12_productOf th p0 p1 S Q) : Ctr G l yX12_productOf cX12_productOf 4 (some FieldType.int) 2 51 0 0 [.ref th, .int p0, .int p1] S (fun (v : Option Value) (S9 : St) => ∃ (r : Int32) (I9 : Nat → Nat → Int32), v = some (.int r) ∧ S9 = wI S I9 ∧ Q r I9) := by
  generalize hQQ : (fun (v : Option Value) (S9 : St) => ∃ (r : Int32) (I9 : Nat → Nat → Int32), v = some (.int r) ∧ S9 = wI S I9 ∧ Q r I9) = QQ
  unfold P_X12_productOf at hp
  refine Ctr.of (by decide) (Nat.le_of_ble_eq_true rfl) ?_
  intro p e s m args below meth c ls B hr hlk hin hl hH
  generalize hlocs0 : ([] : List Loc) = locs at hH ⊢
  have hx := B.1
  have hb := B.2.1
  have hl : lv_has ls 4 [(0, .ref th), (1, .int p0), (2, .int p1)] := hl
  obtain ⟨hk_th, hp⟩ := hp
  refine lv_aload_n (pc := 0) hx hb dX12_productOf_0 rfl (lv_at hl 0 rfl) ?_
  refine lv_iload_n (pc := 1) hx hb dX12_productOf_1 rfl (lv_at hl 1 rfl) ?_
  refine lv_aload_n (pc := 2) hx hb dX12_productOf_2 rfl (lv_at hl 0 rfl) ?_
  refine sx_getR (pc := 3) (j := 23) B hH hk_th coX12 rfl w_1327 rfl dX12_productOf_3 ?_
  refine W.eq (g2 := F0 m 6 ls [va_rf (gR S th 23), .int p0, .ref th]) rfl ?_
  obtain ⟨a_1, ha_1, hp⟩ := hp
  refine sx_nonnull (x := a_1) ha_1 ?_
  refine sx_V (pc := 6) (As := [.int p0, .ref a_1]) (rest := []) B hH hl.1 (C_X12_laysRow G l th p0 a_1 _ _ hp) mi_X12_laysRow coX12 hk_th w_1657 w_76 w_1655 rfl rfl ⟨Nat.le_of_ble_eq_true rfl, Nat.le_of_ble_eq_true rfl⟩ (Nat.le_of_ble_eq_true rfl) ⟨Nat.le_of_ble_eq_true rfl, Nat.le_of_ble_eq_true rfl⟩ dX12_productOf_6 (fun v S1 H locs hq hH => ?_)
  obtain ⟨F_2, rfl, e9, hp⟩ := hq
  rw [e9] at hH
  have hH : Hp G (FA S s.heap.size) s.heap (wI S F_2) H locs := hH
  refine W.eq (g2 := F0 m 9 ls []) rfl ?_
  refine lv_aload_n (pc := 9) hx hb dX12_productOf_9 rfl (lv_at hl 0 rfl) ?_
  refine lv_iload_n (pc := 10) hx hb dX12_productOf_10 rfl (lv_at hl 2 rfl) ?_
  refine lv_aload_n (pc := 11) hx hb dX12_productOf_11 rfl (lv_at hl 0 rfl) ?_
  refine sx_getR (pc := 12) (j := 24) B hH hk_th coX12 rfl w_1328 rfl dX12_productOf_12 ?_
  refine W.eq (g2 := F0 m 15 ls [va_rf (gR S th 24), .int p1, .ref th]) rfl ?_
  obtain ⟨a_3, ha_3, hp⟩ := hp
  refine sx_nonnull (x := a_3) ha_3 ?_
  refine sx_V (pc := 15) (As := [.int p1, .ref a_3]) (rest := []) B hH hl.1 (C_X12_laysRow G l th p1 a_3 _ _ hp) mi_X12_laysRow coX12 hk_th w_1657 w_76 w_1655 rfl rfl ⟨Nat.le_of_ble_eq_true rfl, Nat.le_of_ble_eq_true rfl⟩ (Nat.le_of_ble_eq_true rfl) ⟨Nat.le_of_ble_eq_true rfl, Nat.le_of_ble_eq_true rfl⟩ dX12_productOf_15 (fun v S1 H locs hq hH => ?_)
  obtain ⟨F_4, rfl, e9, hp⟩ := hq
  rw [e9] at hH
  have hH : Hp G (FA S s.heap.size) s.heap (wI S F_4) H locs := hH
  refine W.eq (g2 := F0 m 18 ls []) rfl ?_
  refine lv_iconst (pc := 18) (v := 0) hx hb dX12_productOf_18 (by decide) ?_
  refine lv_istore_n (pc := 19) (lv' := [(3, .int 0), (0, .ref th), (1, .int p0), (2, .int p1)]) hx hb dX12_productOf_19 rfl hl (by decide) rfl (fun ls hl => ?_)
  obtain ⟨I_5, ⟨k0_5, h0_5⟩, hst_5⟩ := hp
  have kl_5 : ∀ (n_5 : Nat) (x3_6 : Int32) (F_7 : Nat → Nat → Int32) (H : Heap) (locs : List Loc) (ls : Array Slot), I_5 n_5 x3_6 F_7 → Hp G (FA S s.heap.size) s.heap (wI S F_7) H locs → lv_has ls 4 [(0, .ref th), (3, .int x3_6)] → Wm G p l e { frames := 2, cells := 0, slots := 0, locals := 51 } s m args below meth c S QQ 0 0 H locs 0 0 (F0 m 20 ls []) := by
    intro n_5
    induction n_5 using Nat.strongRecOn with
    | ind n_5 ih_5 =>
      intro x3_6 F_7 H locs ls hq9 hH hl
      have hp := hst_5 n_5 x3_6 F_7 hq9
      refine lv_iload_n (pc := 20) hx hb dX12_productOf_20 rfl (lv_at hl 1 rfl) ?_
      refine lv_aload_n (pc := 21) hx hb dX12_productOf_21 rfl (lv_at hl 0 rfl) ?_
      refine sx_getR (pc := 22) (j := 0) B hH hk_th coX12 rfl w_1304 rfl dX12_productOf_22 ?_
      refine W.eq (g2 := F0 m 25 ls [va_rf (gR S th 0), .int x3_6]) rfl ?_
      obtain ⟨a_8, ha_8, hp⟩ := hp
      refine sx_nonnull (x := a_8) ha_8 ?_
      refine lv_iconst (pc := 25) (v := 0) hx hb dX12_productOf_25 (by decide) ?_
      obtain ⟨hk_9, hp⟩ := hp
      obtain ⟨hn_10, hp⟩ := hp
      refine sx_iald (pc := 26) B hH hk_9 hn_10 dX12_productOf_26 ?_
      refine W.eq (g2 := F0 m 27 ls [.int (F_7 a_8 0), .int x3_6]) rfl ?_
      refine lv_icmp_ge (pc := 27) (tgt := 53) hx hb dX12_productOf_27 (by decide) (fun cc_11 => ?_) (fun cc_11 => ?_)
      · have hp := hp.1 cc_11
        refine lv_aload_n (pc := 53) hx hb dX12_productOf_53 rfl (lv_at hl 0 rfl) ?_
        refine lv_aload_n (pc := 54) hx hb dX12_productOf_54 rfl (lv_at hl 0 rfl) ?_
        refine sx_getR (pc := 55) (j := 25) B hH hk_th coX12 rfl w_1329 rfl dX12_productOf_55 ?_
        refine W.eq (g2 := F0 m 58 ls [va_rf (gR S th 25), .ref th]) rfl ?_
        obtain ⟨a_12, ha_12, hp⟩ := hp
        refine sx_nonnull (x := a_12) ha_12 ?_
        refine sx_V (pc := 58) (As := [.ref a_12]) (rest := []) B hH hl.1 (C_X12_numberOf G l th a_12 _ _ hp) mi_X12_numberOf coX12 hk_th w_1668 w_77 w_1666 rfl rfl ⟨Nat.le_of_ble_eq_true rfl, Nat.le_of_ble_eq_true rfl⟩ (Nat.le_of_ble_eq_true rfl) ⟨Nat.le_of_ble_eq_true rfl, Nat.le_of_ble_eq_true rfl⟩ dX12_productOf_58 (fun v S1 H locs hq hH => ?_)
        obtain ⟨r_13, rfl, e9, hp⟩ := hq
        rw [e9] at hH
        refine W.eq (g2 := F0 m 61 ls [.int r_13]) rfl ?_
        exact sx_iret (pc := 61) B hH hr hlk (by rw [← hQQ]; exact ⟨_, F_7, rfl, rfl, hp⟩) (Nat.le_of_ble_eq_true rfl) (Nat.le_of_ble_eq_true rfl) dX12_productOf_61
      · have hp := hp.2 cc_11
        refine lv_aload_n (pc := 30) hx hb dX12_productOf_30 rfl (lv_at hl 0 rfl) ?_
        refine sx_getR (pc := 31) (j := 25) B hH hk_th coX12 rfl w_1329 rfl dX12_productOf_31 ?_
        refine W.eq (g2 := F0 m 34 ls [va_rf (gR S th 25)]) rfl ?_
        obtain ⟨a_14, ha_14, hp⟩ := hp
        refine sx_nonnull (x := a_14) ha_14 ?_
        refine lv_iload_n (pc := 34) hx hb dX12_productOf_34 rfl (lv_at hl 1 rfl) ?_
        refine lv_aload_n (pc := 35) hx hb dX12_productOf_35 rfl (lv_at hl 0 rfl) ?_
        refine sx_getR (pc := 36) (j := 23) B hH hk_th coX12 rfl w_1327 rfl dX12_productOf_36 ?_
        refine W.eq (g2 := F0 m 39 ls [va_rf (gR S th 23), .int x3_6, .ref a_14]) rfl ?_
        refine sx_nonnull (x := a_1) ha_1 ?_
        refine lv_aload_n (pc := 39) hx hb dX12_productOf_39 rfl (lv_at hl 0 rfl) ?_
        refine sx_getR (pc := 40) (j := 24) B hH hk_th coX12 rfl w_1328 rfl dX12_productOf_40 ?_
        refine W.eq (g2 := F0 m 43 ls [va_rf (gR S th 24), .ref a_1, .int x3_6, .ref a_14]) rfl ?_
        refine sx_nonnull (x := a_3) ha_3 ?_
        refine lv_iload_n (pc := 43) hx hb dX12_productOf_43 rfl (lv_at hl 1 rfl) ?_
        obtain ⟨hk_15, hp⟩ := hp
        obtain ⟨hn_16, hp⟩ := hp
        refine sx_iald (pc := 44) B hH hk_15 hn_16 dX12_productOf_44 ?_
        refine W.eq (g2 := F0 m 45 ls [.int (F_7 a_3 x3_6.toNatClampNeg), .ref a_1, .int x3_6, .ref a_14]) rfl ?_
        obtain ⟨hk_17, hp⟩ := hp
        obtain ⟨hn_18, hp⟩ := hp
        refine sx_iald (pc := 45) B hH hk_17 hn_18 dX12_productOf_45 ?_
        refine W.eq (g2 := F0 m 46 ls [.int (F_7 a_1 ((F_7 a_3 x3_6.toNatClampNeg).toNatClampNeg)), .int x3_6, .ref a_14]) rfl ?_
        obtain ⟨hk_19, hp⟩ := hp
        obtain ⟨hn_20, hp⟩ := hp
        refine lv_topi (fun v_21 ev_21 => ?_)
        have hp := hp v_21 ev_21
        obtain ⟨F_22, eF_22⟩ : ∃ z : Nat → Nat → Int32, z = upI F_7 a_14 x3_6.toNatClampNeg v_21 := ⟨_, rfl⟩
        have hp := hp F_22 eF_22
        refine sx_iast (pc := 46) B hH hk_19 hn_20 dX12_productOf_46 (fun H locs hH => ?_)
        have hH : Hp G (FA S s.heap.size) s.heap (wI S F_22) H locs := by rw [eF_22]; exact hH
        obtain ⟨v_23, ev_23⟩ : ∃ y : Int32, y = x3_6 + 1 := ⟨_, rfl⟩
        have hp := hp v_23 ev_23
        refine lv_iinc (pc := 47) (v := v_23) (lv' := [(3, .int v_23), (0, .ref th)]) hx hb dX12_productOf_47 hl (k := 1) rfl (by rw [ev_23]; rfl) (by decide) rfl (fun ls hl => ?_)
        refine lv_goto (pc := 50) (tgt := 20) hx hb dX12_productOf_50 (by decide) ?_
        obtain ⟨k9, hlt9, hp⟩ := hp
        exact ih_5 k9 hlt9 _ _ _ _ _ hp hH (lv_sub hl [1, 0] rfl)
  exact kl_5 k0_5 _ _ _ _ _ h0_5 hH (lv_sub hl [1, 0] rfl)
theorem dX12_inverseOf_0 : decode cX12_inverseOf 0 = .ok (.aload_n 0, 1) := by decide +kernel
theorem dX12_inverseOf_1 : decode cX12_inverseOf 1 = .ok (.iload_n 1, 1) := by decide +kernel
theorem dX12_inverseOf_2 : decode cX12_inverseOf 2 = .ok (.aload_n 0, 1) := by decide +kernel
theorem dX12_inverseOf_3 : decode cX12_inverseOf 3 = .ok (.getfield 47, 3) := by decide +kernel
theorem dX12_inverseOf_6 : decode cX12_inverseOf 6 = .ok (.invokevirtual 266, 3) := by decide +kernel
theorem dX12_inverseOf_9 : decode cX12_inverseOf 9 = .ok (.iconst 0, 1) := by decide +kernel
theorem dX12_inverseOf_10 : decode cX12_inverseOf 10 = .ok (.istore_n 2, 1) := by decide +kernel
theorem dX12_inverseOf_11 : decode cX12_inverseOf 11 = .ok (.iload_n 2, 1) := by decide +kernel
theorem dX12_inverseOf_12 : decode cX12_inverseOf 12 = .ok (.aload_n 0, 1) := by decide +kernel
theorem dX12_inverseOf_13 : decode cX12_inverseOf 13 = .ok (.getfield 7, 3) := by decide +kernel
theorem dX12_inverseOf_16 : decode cX12_inverseOf 16 = .ok (.iconst 0, 1) := by decide +kernel
theorem dX12_inverseOf_17 : decode cX12_inverseOf 17 = .ok (.iaload, 1) := by decide +kernel
theorem dX12_inverseOf_18 : decode cX12_inverseOf 18 = .ok (.if_icmp .ge 21, 3) := by decide +kernel
theorem dX12_inverseOf_21 : decode cX12_inverseOf 21 = .ok (.aload_n 0, 1) := by decide +kernel
theorem dX12_inverseOf_22 : decode cX12_inverseOf 22 = .ok (.getfield 53, 3) := by decide +kernel
theorem dX12_inverseOf_25 : decode cX12_inverseOf 25 = .ok (.aload_n 0, 1) := by decide +kernel
theorem dX12_inverseOf_26 : decode cX12_inverseOf 26 = .ok (.getfield 47, 3) := by decide +kernel
theorem dX12_inverseOf_29 : decode cX12_inverseOf 29 = .ok (.iload_n 2, 1) := by decide +kernel
theorem dX12_inverseOf_30 : decode cX12_inverseOf 30 = .ok (.iaload, 1) := by decide +kernel
theorem dX12_inverseOf_31 : decode cX12_inverseOf 31 = .ok (.iload_n 2, 1) := by decide +kernel
theorem dX12_inverseOf_32 : decode cX12_inverseOf 32 = .ok (.iastore, 1) := by decide +kernel
theorem dX12_inverseOf_33 : decode cX12_inverseOf 33 = .ok (.iinc 2 1, 3) := by decide +kernel
theorem dX12_inverseOf_36 : decode cX12_inverseOf 36 = .ok (.goto (-25), 3) := by decide +kernel
theorem dX12_inverseOf_39 : decode cX12_inverseOf 39 = .ok (.aload_n 0, 1) := by decide +kernel
theorem dX12_inverseOf_40 : decode cX12_inverseOf 40 = .ok (.aload_n 0, 1) := by decide +kernel
theorem dX12_inverseOf_41 : decode cX12_inverseOf 41 = .ok (.getfield 53, 3) := by decide +kernel
theorem dX12_inverseOf_44 : decode cX12_inverseOf 44 = .ok (.invokevirtual 270, 3) := by decide +kernel
theorem dX12_inverseOf_47 : decode cX12_inverseOf 47 = .ok (.ireturn, 1) := by decide +kernel
theorem mi_X12_inverseOf : MI yX12_inverseOf cX12_inverseOf 3 (some FieldType.int) 1 := ⟨w_1685, w_118, by decide +kernel, by decide +kernel, by decide +kernel⟩
set_option maxRecDepth 100000 in
set_option maxHeartbeats 4000000 in
theorem C_X12_inverseOf (G : GG) (l : Launch) (th : Nat) (p0 : Int32) (S : St) (Q : Int32 → (Nat → Nat → Int32) → Prop) (hp : P_X12_inverseOf th p0 S Q) : Ctr G l yX12_inverseOf cX12_inverseOf 3 (some FieldType.int) 2 51 0 0 [.ref th, .int p0] S (fun (v : Option Value) (S9 : St) => ∃ (r : Int32) (I9 : Nat → Nat → Int32), v = some (.int r) ∧ S9 = wI S I9 ∧ Q r I9) := by
  generalize hQQ : (fun (v : Option Value) (S9 : St) => ∃ (r : Int32) (I9 : Nat → Nat → Int32), v = some (.int r) ∧ S9 = wI S I9 ∧ Q r I9) = QQ
  unfold P_X12_inverseOf at hp
  refine Ctr.of (by decide) (Nat.le_of_ble_eq_true rfl) ?_
  intro p e s m args below meth c ls B hr hlk hin hl hH
  generalize hlocs0 : ([] : List Loc) = locs at hH ⊢
  have hx := B.1
  have hb := B.2.1
  have hl : lv_has ls 3 [(0, .ref th), (1, .int p0)] := hl
  obtain ⟨hk_th, hp⟩ := hp
  refine lv_aload_n (pc := 0) hx hb dX12_inverseOf_0 rfl (lv_at hl 0 rfl) ?_
  refine lv_iload_n (pc := 1) hx hb dX12_inverseOf_1 rfl (lv_at hl 1 rfl) ?_
  refine lv_aload_n (pc := 2) hx hb dX12_inverseOf_2 rfl (lv_at hl 0 rfl) ?_
  refine sx_getR (pc := 3) (j := 23) B hH hk_th coX12 rfl w_1327 rfl dX12_inverseOf_3 ?_
  refine W.eq (g2 := F0 m 6 ls [va_rf (gR S th 23), .int p0, .ref th]) rfl ?_
  obtain ⟨a_1, ha_1, hp⟩ := hp
  refine sx_nonnull (x := a_1) ha_1 ?_
  refine sx_V (pc := 6) (As := [.int p0, .ref a_1]) (rest := []) B hH hl.1 (C_X12_laysRow G l th p0 a_1 _ _ hp) mi_X12_laysRow coX12 hk_th w_1657 w_76 w_1655 rfl rfl ⟨Nat.le_of_ble_eq_true rfl, Nat.le_of_ble_eq_true rfl⟩ (Nat.le_of_ble_eq_true rfl) ⟨Nat.le_of_ble_eq_true rfl, Nat.le_of_ble_eq_true rfl⟩ dX12_inverseOf_6 (fun v S1 H locs hq hH => ?_)
  obtain ⟨F_2, rfl, e9, hp⟩ := hq
  rw [e9] at hH
  have hH : Hp G (FA S s.heap.size) s.heap (wI S F_2) H locs := hH
  refine W.eq (g2 := F0 m 9 ls []) rfl ?_
  refine lv_iconst (pc := 9) (v := 0) hx hb dX12_inverseOf_9 (by decide) ?_
  refine lv_istore_n (pc := 10) (lv' := [(2, .int 0), (0, .ref th), (1, .int p0)]) hx hb dX12_inverseOf_10 rfl hl (by decide) rfl (fun ls hl => ?_)
  obtain ⟨I_3, ⟨k0_3, h0_3⟩, hst_3⟩ := hp
  have kl_3 : ∀ (n_3 : Nat) (x2_4 : Int32) (F_5 : Nat → Nat → Int32) (H : Heap) (locs : List Loc) (ls : Array Slot), I_3 n_3 x2_4 F_5 → Hp G (FA S s.heap.size) s.heap (wI S F_5) H locs → lv_has ls 3 [(0, .ref th), (2, .int x2_4)] → Wm G p l e { frames := 2, cells := 0, slots := 0, locals := 51 } s m args below meth c S QQ 0 0 H locs 0 0 (F0 m 11 ls []) := by
    intro n_3
    induction n_3 using Nat.strongRecOn with
    | ind n_3 ih_3 =>
      intro x2_4 F_5 H locs ls hq9 hH hl
      have hp := hst_3 n_3 x2_4 F_5 hq9
      refine lv_iload_n (pc := 11) hx hb dX12_inverseOf_11 rfl (lv_at hl 1 rfl) ?_
      refine lv_aload_n (pc := 12) hx hb dX12_inverseOf_12 rfl (lv_at hl 0 rfl) ?_
      refine sx_getR (pc := 13) (j := 0) B hH hk_th coX12 rfl w_1304 rfl dX12_inverseOf_13 ?_
      refine W.eq (g2 := F0 m 16 ls [va_rf (gR S th 0), .int x2_4]) rfl ?_
      obtain ⟨a_6, ha_6, hp⟩ := hp
      refine sx_nonnull (x := a_6) ha_6 ?_
      refine lv_iconst (pc := 16) (v := 0) hx hb dX12_inverseOf_16 (by decide) ?_
      obtain ⟨hk_7, hp⟩ := hp
      obtain ⟨hn_8, hp⟩ := hp
      refine sx_iald (pc := 17) B hH hk_7 hn_8 dX12_inverseOf_17 ?_
      refine W.eq (g2 := F0 m 18 ls [.int (F_5 a_6 0), .int x2_4]) rfl ?_
      refine lv_icmp_ge (pc := 18) (tgt := 39) hx hb dX12_inverseOf_18 (by decide) (fun cc_9 => ?_) (fun cc_9 => ?_)
      · have hp := hp.1 cc_9
        refine lv_aload_n (pc := 39) hx hb dX12_inverseOf_39 rfl (lv_at hl 0 rfl) ?_
        refine lv_aload_n (pc := 40) hx hb dX12_inverseOf_40 rfl (lv_at hl 0 rfl) ?_
        refine sx_getR (pc := 41) (j := 25) B hH hk_th coX12 rfl w_1329 rfl dX12_inverseOf_41 ?_
        refine W.eq (g2 := F0 m 44 ls [va_rf (gR S th 25), .ref th]) rfl ?_
        obtain ⟨a_10, ha_10, hp⟩ := hp
        refine sx_nonnull (x := a_10) ha_10 ?_
        refine sx_V (pc := 44) (As := [.ref a_10]) (rest := []) B hH hl.1 (C_X12_numberOf G l th a_10 _ _ hp) mi_X12_numberOf coX12 hk_th w_1668 w_77 w_1666 rfl rfl ⟨Nat.le_of_ble_eq_true rfl, Nat.le_of_ble_eq_true rfl⟩ (Nat.le_of_ble_eq_true rfl) ⟨Nat.le_of_ble_eq_true rfl, Nat.le_of_ble_eq_true rfl⟩ dX12_inverseOf_44 (fun v S1 H locs hq hH => ?_)
        obtain ⟨r_11, rfl, e9, hp⟩ := hq
        rw [e9] at hH
        refine W.eq (g2 := F0 m 47 ls [.int r_11]) rfl ?_
        exact sx_iret (pc := 47) B hH hr hlk (by rw [← hQQ]; exact ⟨_, F_5, rfl, rfl, hp⟩) (Nat.le_of_ble_eq_true rfl) (Nat.le_of_ble_eq_true rfl) dX12_inverseOf_47
      · have hp := hp.2 cc_9
        refine lv_aload_n (pc := 21) hx hb dX12_inverseOf_21 rfl (lv_at hl 0 rfl) ?_
        refine sx_getR (pc := 22) (j := 25) B hH hk_th coX12 rfl w_1329 rfl dX12_inverseOf_22 ?_
        refine W.eq (g2 := F0 m 25 ls [va_rf (gR S th 25)]) rfl ?_
        obtain ⟨a_12, ha_12, hp⟩ := hp
        refine sx_nonnull (x := a_12) ha_12 ?_
        refine lv_aload_n (pc := 25) hx hb dX12_inverseOf_25 rfl (lv_at hl 0 rfl) ?_
        refine sx_getR (pc := 26) (j := 23) B hH hk_th coX12 rfl w_1327 rfl dX12_inverseOf_26 ?_
        refine W.eq (g2 := F0 m 29 ls [va_rf (gR S th 23), .ref a_12]) rfl ?_
        refine sx_nonnull (x := a_1) ha_1 ?_
        refine lv_iload_n (pc := 29) hx hb dX12_inverseOf_29 rfl (lv_at hl 1 rfl) ?_
        obtain ⟨hk_13, hp⟩ := hp
        obtain ⟨hn_14, hp⟩ := hp
        refine sx_iald (pc := 30) B hH hk_13 hn_14 dX12_inverseOf_30 ?_
        refine W.eq (g2 := F0 m 31 ls [.int (F_5 a_1 x2_4.toNatClampNeg), .ref a_12]) rfl ?_
        refine lv_iload_n (pc := 31) hx hb dX12_inverseOf_31 rfl (lv_at hl 1 rfl) ?_
        obtain ⟨hk_15, hp⟩ := hp
        obtain ⟨hn_16, hp⟩ := hp
        obtain ⟨F_17, eF_17⟩ : ∃ z : Nat → Nat → Int32, z = upI F_5 a_12 ((F_5 a_1 x2_4.toNatClampNeg).toNatClampNeg) x2_4 := ⟨_, rfl⟩
        have hp := hp F_17 eF_17
        refine sx_iast (pc := 32) B hH hk_15 hn_16 dX12_inverseOf_32 (fun H locs hH => ?_)
        have hH : Hp G (FA S s.heap.size) s.heap (wI S F_17) H locs := by rw [eF_17]; exact hH
        obtain ⟨v_18, ev_18⟩ : ∃ y : Int32, y = x2_4 + 1 := ⟨_, rfl⟩
        have hp := hp v_18 ev_18
        refine lv_iinc (pc := 33) (v := v_18) (lv' := [(2, .int v_18), (0, .ref th)]) hx hb dX12_inverseOf_33 hl (k := 1) rfl (by rw [ev_18]; rfl) (by decide) rfl (fun ls hl => ?_)
        refine lv_goto (pc := 36) (tgt := 11) hx hb dX12_inverseOf_36 (by decide) ?_
        obtain ⟨k9, hlt9, hp⟩ := hp
        exact ih_3 k9 hlt9 _ _ _ _ _ hp hH (lv_sub hl [1, 0] rfl)
  exact kl_3 k0_3 _ _ _ _ _ h0_3 hH (lv_sub hl [1, 0] rfl)
theorem dX12_changes0_0 : decode cX12_changes0 0 = .ok (.iload_n 2, 1) := by decide +kernel
theorem dX12_changes0_1 : decode cX12_changes0 1 = .ok (.istore_n 3, 1) := by decide +kernel
theorem dX12_changes0_2 : decode cX12_changes0 2 = .ok (.iconst 0, 1) := by decide +kernel
theorem dX12_changes0_3 : decode cX12_changes0 3 = .ok (.istore 4, 2) := by decide +kernel
theorem dX12_changes0_5 : decode cX12_changes0 5 = .ok (.iload 4, 2) := by decide +kernel
theorem dX12_changes0_7 : decode cX12_changes0 7 = .ok (.aload_n 0, 1) := by decide +kernel
theorem dX12_changes0_8 : decode cX12_changes0 8 = .ok (.getfield 7, 3) := by decide +kernel
theorem dX12_changes0_11 : decode cX12_changes0 11 = .ok (.iconst 0, 1) := by decide +kernel
theorem dX12_changes0_12 : decode cX12_changes0 12 = .ok (.iaload, 1) := by decide +kernel
theorem dX12_changes0_13 : decode cX12_changes0 13 = .ok (.if_icmp .ge 67, 3) := by decide +kernel
theorem dX12_changes0_16 : decode cX12_changes0 16 = .ok (.iload_n 1, 1) := by decide +kernel
theorem dX12_changes0_17 : decode cX12_changes0 17 = .ok (.iload 4, 2) := by decide +kernel
theorem dX12_changes0_19 : decode cX12_changes0 19 = .ok (.ishr, 1) := by decide +kernel
theorem dX12_changes0_20 : decode cX12_changes0 20 = .ok (.iconst 1, 1) := by decide +kernel
theorem dX12_changes0_21 : decode cX12_changes0 21 = .ok (.iand, 1) := by decide +kernel
theorem dX12_changes0_22 : decode cX12_changes0 22 = .ok (.iconst 1, 1) := by decide +kernel
theorem dX12_changes0_23 : decode cX12_changes0 23 = .ok (.if_icmp .ne 9, 3) := by decide +kernel
theorem dX12_changes0_26 : decode cX12_changes0 26 = .ok (.iinc 4 1, 3) := by decide +kernel
theorem dX12_changes0_29 : decode cX12_changes0 29 = .ok (.goto (-24), 3) := by decide +kernel
theorem dX12_changes0_32 : decode cX12_changes0 32 = .ok (.iload_n 3, 1) := by decide +kernel
theorem dX12_changes0_33 : decode cX12_changes0 33 = .ok (.ifCond .ne 39, 3) := by decide +kernel
theorem dX12_changes0_36 : decode cX12_changes0 36 = .ok (.aload_n 0, 1) := by decide +kernel
theorem dX12_changes0_37 : decode cX12_changes0 37 = .ok (.getfield 47, 3) := by decide +kernel
theorem dX12_changes0_40 : decode cX12_changes0 40 = .ok (.iload 4, 2) := by decide +kernel
theorem dX12_changes0_42 : decode cX12_changes0 42 = .ok (.iaload, 1) := by decide +kernel
theorem dX12_changes0_43 : decode cX12_changes0 43 = .ok (.istore 5, 2) := by decide +kernel
theorem dX12_changes0_45 : decode cX12_changes0 45 = .ok (.aload_n 0, 1) := by decide +kernel
theorem dX12_changes0_46 : decode cX12_changes0 46 = .ok (.getfield 47, 3) := by decide +kernel
theorem dX12_changes0_49 : decode cX12_changes0 49 = .ok (.iload 4, 2) := by decide +kernel
theorem dX12_changes0_51 : decode cX12_changes0 51 = .ok (.aload_n 0, 1) := by decide +kernel
theorem dX12_changes0_52 : decode cX12_changes0 52 = .ok (.getfield 47, 3) := by decide +kernel
theorem dX12_changes0_55 : decode cX12_changes0 55 = .ok (.iload 4, 2) := by decide +kernel
theorem dX12_changes0_57 : decode cX12_changes0 57 = .ok (.iconst 1, 1) := by decide +kernel
theorem dX12_changes0_58 : decode cX12_changes0 58 = .ok (.iadd, 1) := by decide +kernel
theorem dX12_changes0_59 : decode cX12_changes0 59 = .ok (.iaload, 1) := by decide +kernel
theorem dX12_changes0_60 : decode cX12_changes0 60 = .ok (.iastore, 1) := by decide +kernel
theorem dX12_changes0_61 : decode cX12_changes0 61 = .ok (.aload_n 0, 1) := by decide +kernel
theorem dX12_changes0_62 : decode cX12_changes0 62 = .ok (.getfield 47, 3) := by decide +kernel
theorem dX12_changes0_65 : decode cX12_changes0 65 = .ok (.iload 4, 2) := by decide +kernel
theorem dX12_changes0_67 : decode cX12_changes0 67 = .ok (.iconst 1, 1) := by decide +kernel
theorem dX12_changes0_68 : decode cX12_changes0 68 = .ok (.iadd, 1) := by decide +kernel
theorem dX12_changes0_69 : decode cX12_changes0 69 = .ok (.iload 5, 2) := by decide +kernel
theorem dX12_changes0_71 : decode cX12_changes0 71 = .ok (.iastore, 1) := by decide +kernel
theorem dX12_changes0_72 : decode cX12_changes0 72 = .ok (.iconst 0, 1) := by decide +kernel
theorem dX12_changes0_73 : decode cX12_changes0 73 = .ok (.istore_n 3, 1) := by decide +kernel
theorem dX12_changes0_74 : decode cX12_changes0 74 = .ok (.iinc 4 2, 3) := by decide +kernel
theorem dX12_changes0_77 : decode cX12_changes0 77 = .ok (.goto (-72), 3) := by decide +kernel
theorem dX12_changes0_80 : decode cX12_changes0 80 = .ok (.return_, 1) := by decide +kernel
theorem mi_X12_changes0 : MI yX12_changes0 cX12_changes0 6 (none : Option Jvm.ClassFile.FieldType) 2 := ⟨w_1713, w_118, by decide +kernel, by decide +kernel, by decide +kernel⟩
set_option maxRecDepth 100000 in
set_option maxHeartbeats 4000000 in
theorem C_X12_changes0 (G : GG) (l : Launch) (th : Nat) (p0 : Int32) (p1 : Int32) (S : St) (Q : (Nat → Nat → Int32) → Prop) (hp : P_X12_changes0 th p0 p1 S Q) : Ctr G l yX12_changes0 cX12_changes0 6 (none : Option Jvm.ClassFile.FieldType) 0 0 0 0 [.ref th, .int p0, .int p1] S (fun (v : Option Value) (S9 : St) => ∃ (I9 : Nat → Nat → Int32), v = none ∧ S9 = wI S I9 ∧ Q I9) := by
  generalize hQQ : (fun (v : Option Value) (S9 : St) => ∃ (I9 : Nat → Nat → Int32), v = none ∧ S9 = wI S I9 ∧ Q I9) = QQ
  unfold P_X12_changes0 at hp
  refine Ctr.of (by decide) (Nat.le_of_ble_eq_true rfl) ?_
  intro p e s m args below meth c ls B hr hlk hin hl hH
  generalize hlocs0 : ([] : List Loc) = locs at hH ⊢
  have hx := B.1
  have hb := B.2.1
  have hl : lv_has ls 6 [(0, .ref th), (1, .int p0), (2, .int p1)] := hl
  obtain ⟨hk_th, hp⟩ := hp
  refine lv_iload_n (pc := 0) hx hb dX12_changes0_0 rfl (lv_at hl 2 rfl) ?_
  refine lv_istore_n (pc := 1) (lv' := [(3, .int p1), (0, .ref th), (1, .int p0), (2, .int p1)]) hx hb dX12_changes0_1 rfl hl (by decide) rfl (fun ls hl => ?_)
  refine lv_iconst (pc := 2) (v := 0) hx hb dX12_changes0_2 (by decide) ?_
  refine lv_istore (pc := 3) (lv' := [(4, .int 0), (3, .int p1), (0, .ref th), (1, .int p0), (2, .int p1)]) hx hb dX12_changes0_3 hl (by decide) rfl (fun ls hl => ?_)
  obtain ⟨I_1, ⟨k0_1, h0_1⟩, hst_1⟩ := hp
  have kl_1 : ∀ (n_1 : Nat) (x3_2 : Int32) (x4_3 : Int32) (F_4 : Nat → Nat → Int32) (H : Heap) (locs : List Loc) (ls : Array Slot), I_1 n_1 x3_2 x4_3 F_4 → Hp G (FA S s.heap.size) s.heap (wI S F_4) H locs → lv_has ls 6 [(0, .ref th), (1, .int p0), (3, .int x3_2), (4, .int x4_3)] → Wm G p l e { frames := 0, cells := 0, slots := 0, locals := 0 } s m args below meth c S QQ 0 0 H locs 0 0 (F0 m 5 ls []) := by
    intro n_1
    induction n_1 using Nat.strongRecOn with
    | ind n_1 ih_1 =>
      intro x3_2 x4_3 F_4 H locs ls hq9 hH hl
      have hp := hst_1 n_1 x3_2 x4_3 F_4 hq9
      refine lv_iload (pc := 5) hx hb dX12_changes0_5 (lv_at hl 3 rfl) ?_
      refine lv_aload_n (pc := 7) hx hb dX12_changes0_7 rfl (lv_at hl 0 rfl) ?_
      refine sx_getR (pc := 8) (j := 0) B hH hk_th coX12 rfl w_1304 rfl dX12_changes0_8 ?_
      refine W.eq (g2 := F0 m 11 ls [va_rf (gR S th 0), .int x4_3]) rfl ?_
      obtain ⟨a_5, ha_5, hp⟩ := hp
      refine sx_nonnull (x := a_5) ha_5 ?_
      refine lv_iconst (pc := 11) (v := 0) hx hb dX12_changes0_11 (by decide) ?_
      obtain ⟨hk_6, hp⟩ := hp
      obtain ⟨hn_7, hp⟩ := hp
      refine sx_iald (pc := 12) B hH hk_6 hn_7 dX12_changes0_12 ?_
      refine W.eq (g2 := F0 m 13 ls [.int (F_4 a_5 0), .int x4_3]) rfl ?_
      refine lv_icmp_ge (pc := 13) (tgt := 80) hx hb dX12_changes0_13 (by decide) (fun cc_8 => ?_) (fun cc_8 => ?_)
      · have hp := hp.1 cc_8
        exact sx_vret (pc := 80) B hH hr hlk (by rw [← hQQ]; exact ⟨F_4, rfl, rfl, hp⟩) (Nat.le_of_ble_eq_true rfl) (Nat.le_of_ble_eq_true rfl) dX12_changes0_80
      · have hp := hp.2 cc_8
        refine lv_iload_n (pc := 16) hx hb dX12_changes0_16 rfl (lv_at hl 1 rfl) ?_
        refine lv_iload (pc := 17) hx hb dX12_changes0_17 (lv_at hl 3 rfl) ?_
        refine lv_ishr (pc := 19) hx hb dX12_changes0_19 ?_
        refine W.eq (g2 := F0 m 20 ls [.int (shr p0 x4_3)]) rfl ?_
        refine lv_iconst (pc := 20) (v := 1) hx hb dX12_changes0_20 (by decide) ?_
        refine lv_iand (pc := 21) hx hb dX12_changes0_21 ?_
        refine lv_iconst (pc := 22) (v := 1) hx hb dX12_changes0_22 (by decide) ?_
        refine lv_icmp_ne (pc := 23) (tgt := 32) hx hb dX12_changes0_23 (by decide) (fun cc_9 => ?_) (fun cc_9 => ?_)
        · have hp := hp.1 cc_9
          refine lv_iload_n (pc := 32) hx hb dX12_changes0_32 rfl (lv_at hl 2 rfl) ?_
          refine lv_if_ne (pc := 33) (tgt := 72) hx hb dX12_changes0_33 (by decide) (fun cc_10 => ?_) (fun cc_10 => ?_)
          · have hp := hp.1 cc_10
            refine lv_iconst (pc := 72) (v := 0) hx hb dX12_changes0_72 (by decide) ?_
            refine lv_istore_n (pc := 73) (lv' := [(3, .int 0), (0, .ref th), (1, .int p0), (4, .int x4_3)]) hx hb dX12_changes0_73 rfl hl (by decide) rfl (fun ls hl => ?_)
            obtain ⟨v_11, ev_11⟩ : ∃ y : Int32, y = x4_3 + 2 := ⟨_, rfl⟩
            have hp := hp v_11 ev_11
            refine lv_iinc (pc := 74) (v := v_11) (lv' := [(4, .int v_11), (3, .int 0), (0, .ref th), (1, .int p0)]) hx hb dX12_changes0_74 hl (k := 3) rfl (by rw [ev_11]; rfl) (by decide) rfl (fun ls hl => ?_)
            refine lv_goto (pc := 77) (tgt := 5) hx hb dX12_changes0_77 (by decide) ?_
            obtain ⟨k9, hlt9, hp⟩ := hp
            exact ih_1 k9 hlt9 _ _ _ _ _ _ hp hH (lv_sub hl [2, 3, 1, 0] rfl)
          · have hp := hp.2 cc_10
            refine lv_aload_n (pc := 36) hx hb dX12_changes0_36 rfl (lv_at hl 0 rfl) ?_
            refine sx_getR (pc := 37) (j := 23) B hH hk_th coX12 rfl w_1327 rfl dX12_changes0_37 ?_
            refine W.eq (g2 := F0 m 40 ls [va_rf (gR S th 23)]) rfl ?_
            obtain ⟨a_12, ha_12, hp⟩ := hp
            refine sx_nonnull (x := a_12) ha_12 ?_
            refine lv_iload (pc := 40) hx hb dX12_changes0_40 (lv_at hl 3 rfl) ?_
            obtain ⟨hk_13, hp⟩ := hp
            obtain ⟨hn_14, hp⟩ := hp
            refine sx_iald (pc := 42) B hH hk_13 hn_14 dX12_changes0_42 ?_
            refine W.eq (g2 := F0 m 43 ls [.int (F_4 a_12 x4_3.toNatClampNeg)]) rfl ?_
            refine lv_topi (fun v_15 ev_15 => ?_)
            have hp := hp v_15 ev_15
            refine lv_istore (pc := 43) (lv' := [(5, .int v_15), (0, .ref th), (1, .int p0), (3, .int x3_2), (4, .int x4_3)]) hx hb dX12_changes0_43 hl (by decide) rfl (fun ls hl => ?_)
            refine lv_aload_n (pc := 45) hx hb dX12_changes0_45 rfl (lv_at hl 1 rfl) ?_
            refine sx_getR (pc := 46) (j := 23) B hH hk_th coX12 rfl w_1327 rfl dX12_changes0_46 ?_
            refine W.eq (g2 := F0 m 49 ls [va_rf (gR S th 23)]) rfl ?_
            refine sx_nonnull (x := a_12) ha_12 ?_
            refine lv_iload (pc := 49) hx hb dX12_changes0_49 (lv_at hl 4 rfl) ?_
            refine lv_aload_n (pc := 51) hx hb dX12_changes0_51 rfl (lv_at hl 1 rfl) ?_
            refine sx_getR (pc := 52) (j := 23) B hH hk_th coX12 rfl w_1327 rfl dX12_changes0_52 ?_
            refine W.eq (g2 := F0 m 55 ls [va_rf (gR S th 23), .int x4_3, .ref a_12]) rfl ?_
            refine sx_nonnull (x := a_12) ha_12 ?_
            refine lv_iload (pc := 55) hx hb dX12_changes0_55 (lv_at hl 4 rfl) ?_
            refine lv_iconst (pc := 57) (v := 1) hx hb dX12_changes0_57 (by decide) ?_
            refine lv_iadd (pc := 58) hx hb dX12_changes0_58 ?_
            obtain ⟨hn_16, hp⟩ := hp
            refine sx_iald (pc := 59) B hH hk_13 hn_16 dX12_changes0_59 ?_
            refine W.eq (g2 := F0 m 60 ls [.int (F_4 a_12 ((x4_3 + 1).toNatClampNeg)), .int x4_3, .ref a_12]) rfl ?_
            refine lv_topi (fun v_17 ev_17 => ?_)
            have hp := hp v_17 ev_17
            obtain ⟨F_18, eF_18⟩ : ∃ z : Nat → Nat → Int32, z = upI F_4 a_12 x4_3.toNatClampNeg v_17 := ⟨_, rfl⟩
            have hp := hp F_18 eF_18
            refine sx_iast (pc := 60) B hH hk_13 hn_14 dX12_changes0_60 (fun H locs hH => ?_)
            have hH : Hp G (FA S s.heap.size) s.heap (wI S F_18) H locs := by rw [eF_18]; exact hH
            refine lv_aload_n (pc := 61) hx hb dX12_changes0_61 rfl (lv_at hl 1 rfl) ?_
            refine sx_getR (pc := 62) (j := 23) B hH hk_th coX12 rfl w_1327 rfl dX12_changes0_62 ?_
            refine W.eq (g2 := F0 m 65 ls [va_rf (gR S th 23)]) rfl ?_
            refine sx_nonnull (x := a_12) ha_12 ?_
            refine lv_iload (pc := 65) hx hb dX12_changes0_65 (lv_at hl 4 rfl) ?_
            refine lv_iconst (pc := 67) (v := 1) hx hb dX12_changes0_67 (by decide) ?_
            refine lv_iadd (pc := 68) hx hb dX12_changes0_68 ?_
            refine lv_iload (pc := 69) hx hb dX12_changes0_69 (lv_at hl 0 rfl) ?_
            obtain ⟨F_19, eF_19⟩ : ∃ z : Nat → Nat → Int32, z = upI F_18 a_12 ((x4_3 + 1).toNatClampNeg) v_15 := ⟨_, rfl⟩
            have hp := hp F_19 eF_19
            refine sx_iast (pc := 71) B hH hk_13 hn_16 dX12_changes0_71 (fun H locs hH => ?_)
            have hH : Hp G (FA S s.heap.size) s.heap (wI S F_19) H locs := by rw [eF_19]; exact hH
            refine lv_iconst (pc := 72) (v := 0) hx hb dX12_changes0_72 (by decide) ?_
            refine lv_istore_n (pc := 73) (lv' := [(3, .int 0), (5, .int v_15), (0, .ref th), (1, .int p0), (4, .int x4_3)]) hx hb dX12_changes0_73 rfl hl (by decide) rfl (fun ls hl => ?_)
            obtain ⟨v_20, ev_20⟩ : ∃ y : Int32, y = x4_3 + 2 := ⟨_, rfl⟩
            have hp := hp v_20 ev_20
            refine lv_iinc (pc := 74) (v := v_20) (lv' := [(4, .int v_20), (3, .int 0), (5, .int v_15), (0, .ref th), (1, .int p0)]) hx hb dX12_changes0_74 hl (k := 4) rfl (by rw [ev_20]; rfl) (by decide) rfl (fun ls hl => ?_)
            refine lv_goto (pc := 77) (tgt := 5) hx hb dX12_changes0_77 (by decide) ?_
            obtain ⟨k9, hlt9, hp⟩ := hp
            exact ih_1 k9 hlt9 _ _ _ _ _ _ hp hH (lv_sub hl [3, 4, 1, 0] rfl)
        · have hp := hp.2 cc_9
          obtain ⟨v_21, ev_21⟩ : ∃ y : Int32, y = x4_3 + 1 := ⟨_, rfl⟩
          have hp := hp v_21 ev_21
          refine lv_iinc (pc := 26) (v := v_21) (lv' := [(4, .int v_21), (0, .ref th), (1, .int p0), (3, .int x3_2)]) hx hb dX12_changes0_26 hl (k := 3) rfl (by rw [ev_21]; rfl) (by decide) rfl (fun ls hl => ?_)
          refine lv_goto (pc := 29) (tgt := 5) hx hb dX12_changes0_29 (by decide) ?_
          obtain ⟨k9, hlt9, hp⟩ := hp
          exact ih_1 k9 hlt9 _ _ _ _ _ _ hp hH (lv_sub hl [1, 2, 3, 0] rfl)
  exact kl_1 k0_1 _ _ _ _ _ _ h0_1 hH (lv_sub hl [2, 3, 1, 0] rfl)
theorem dX12_isRow_0 : decode cX12_isRow 0 = .ok (.iload_n 1, 1) := by decide +kernel
theorem dX12_isRow_1 : decode cX12_isRow 1 = .ok (.ifCond .lt 15, 3) := by decide +kernel
theorem dX12_isRow_4 : decode cX12_isRow 4 = .ok (.iload_n 1, 1) := by decide +kernel
theorem dX12_isRow_5 : decode cX12_isRow 5 = .ok (.aload_n 0, 1) := by decide +kernel
theorem dX12_isRow_6 : decode cX12_isRow 6 = .ok (.invokevirtual 263, 3) := by decide +kernel
theorem dX12_isRow_9 : decode cX12_isRow 9 = .ok (.if_icmp .ge 7, 3) := by decide +kernel
theorem dX12_isRow_12 : decode cX12_isRow 12 = .ok (.iconst 1, 1) := by decide +kernel
theorem dX12_isRow_13 : decode cX12_isRow 13 = .ok (.goto 4, 3) := by decide +kernel
theorem dX12_isRow_16 : decode cX12_isRow 16 = .ok (.iconst 0, 1) := by decide +kernel
theorem dX12_isRow_17 : decode cX12_isRow 17 = .ok (.ireturn, 1) := by decide +kernel
theorem mi_X12_isRow : MI yX12_isRow cX12_isRow 2 (some FieldType.boolean) 1 := ⟨w_1650, w_118, by decide +kernel, by decide +kernel, by decide +kernel⟩
set_option maxRecDepth 100000 in
set_option maxHeartbeats 4000000 in
theorem C_X12_isRow (G : GG) (l : Launch) (th : Nat) (p0 : Int32) (S : St) (Q : Int32 → Prop) (hp : P_X12_isRow th p0 S Q) : Ctr G l yX12_isRow cX12_isRow 2 (some FieldType.boolean) 1 22 0 0 [.ref th, .int p0] S (fun (v : Option Value) (S9 : St) => ∃ (r : Int32), v = some (.int r) ∧ S9 = S ∧ Q r ) := by
  generalize hQQ : (fun (v : Option Value) (S9 : St) => ∃ (r : Int32), v = some (.int r) ∧ S9 = S ∧ Q r ) = QQ
  unfold P_X12_isRow at hp
  refine Ctr.of (by decide) (Nat.le_of_ble_eq_true rfl) ?_
  intro p e s m args below meth c ls B hr hlk hin hl hH
  generalize hlocs0 : ([] : List Loc) = locs at hH ⊢
  have hx := B.1
  have hb := B.2.1
  have hl : lv_has ls 2 [(0, .ref th), (1, .int p0)] := hl
  obtain ⟨hk_th, hp⟩ := hp
  refine lv_iload_n (pc := 0) hx hb dX12_isRow_0 rfl (lv_at hl 1 rfl) ?_
  refine lv_if_lt (pc := 1) (tgt := 16) hx hb dX12_isRow_1 (by decide) (fun cc_1 => ?_) (fun cc_1 => ?_)
  · have hp := hp.1 cc_1
    refine lv_iconst (pc := 16) (v := 0) hx hb dX12_isRow_16 (by decide) ?_
    exact sx_zret (pc := 17) B hH hr hlk (Or.inl rfl) (by rw [← hQQ]; exact ⟨_, rfl, rfl, hp⟩) (Nat.le_of_ble_eq_true rfl) (Nat.le_of_ble_eq_true rfl) dX12_isRow_17
  · have hp := hp.2 cc_1
    refine lv_iload_n (pc := 4) hx hb dX12_isRow_4 rfl (lv_at hl 1 rfl) ?_
    refine lv_aload_n (pc := 5) hx hb dX12_isRow_5 rfl (lv_at hl 0 rfl) ?_
    refine sx_V (pc := 6) (As := []) (rest := [.int p0]) B hH hl.1 (C_X12_rowsMany G l th _ _ hp) mi_X12_rowsMany coX12 hk_th w_1637 w_72 w_1635 rfl rfl ⟨Nat.le_of_ble_eq_true rfl, Nat.le_of_ble_eq_true rfl⟩ (Nat.le_of_ble_eq_true rfl) ⟨Nat.le_of_ble_eq_true rfl, Nat.le_of_ble_eq_true rfl⟩ dX12_isRow_6 (fun v S1 H locs hq hH => ?_)
    obtain ⟨r_2, rfl, e9, hp⟩ := hq
    rw [e9] at hH
    refine W.eq (g2 := F0 m 9 ls [.int r_2, .int p0]) rfl ?_
    refine lv_icmp_ge (pc := 9) (tgt := 16) hx hb dX12_isRow_9 (by decide) (fun cc_3 => ?_) (fun cc_3 => ?_)
    · have hp := hp.1 cc_3
      refine lv_iconst (pc := 16) (v := 0) hx hb dX12_isRow_16 (by decide) ?_
      exact sx_zret (pc := 17) B hH hr hlk (Or.inl rfl) (by rw [← hQQ]; exact ⟨_, rfl, rfl, hp⟩) (Nat.le_of_ble_eq_true rfl) (Nat.le_of_ble_eq_true rfl) dX12_isRow_17
    · have hp := hp.2 cc_3
      refine lv_iconst (pc := 12) (v := 1) hx hb dX12_isRow_12 (by decide) ?_
      refine lv_goto (pc := 13) (tgt := 17) hx hb dX12_isRow_13 (by decide) ?_
      exact sx_zret (pc := 17) B hH hr hlk (Or.inr rfl) (by rw [← hQQ]; exact ⟨_, rfl, rfl, hp⟩) (Nat.le_of_ble_eq_true rfl) (Nat.le_of_ble_eq_true rfl) dX12_isRow_17
theorem dX12_isMethod_0 : decode cX12_isMethod 0 = .ok (.iload_n 1, 1) := by decide +kernel
theorem dX12_isMethod_1 : decode cX12_isMethod 1 = .ok (.ifCond .lt 17, 3) := by decide +kernel
theorem dX12_isMethod_4 : decode cX12_isMethod 4 = .ok (.iload_n 1, 1) := by decide +kernel
theorem dX12_isMethod_5 : decode cX12_isMethod 5 = .ok (.aload_n 0, 1) := by decide +kernel
theorem dX12_isMethod_6 : decode cX12_isMethod 6 = .ok (.getfield 7, 3) := by decide +kernel
theorem dX12_isMethod_9 : decode cX12_isMethod 9 = .ok (.iconst 1, 1) := by decide +kernel
theorem dX12_isMethod_10 : decode cX12_isMethod 10 = .ok (.iaload, 1) := by decide +kernel
theorem dX12_isMethod_11 : decode cX12_isMethod 11 = .ok (.if_icmp .ge 7, 3) := by decide +kernel
theorem dX12_isMethod_14 : decode cX12_isMethod 14 = .ok (.iconst 1, 1) := by decide +kernel
theorem dX12_isMethod_15 : decode cX12_isMethod 15 = .ok (.goto 4, 3) := by decide +kernel
theorem dX12_isMethod_18 : decode cX12_isMethod 18 = .ok (.iconst 0, 1) := by decide +kernel
theorem dX12_isMethod_19 : decode cX12_isMethod 19 = .ok (.ireturn, 1) := by decide +kernel
theorem mi_X12_isMethod : MI yX12_isMethod cX12_isMethod 2 (some FieldType.boolean) 1 := ⟨w_1746, w_118, by decide +kernel, by decide +kernel, by decide +kernel⟩
set_option maxRecDepth 100000 in
set_option maxHeartbeats 4000000 in
theorem C_X12_isMethod (G : GG) (l : Launch) (th : Nat) (p0 : Int32) (S : St) (Q : Int32 → Prop) (hp : P_X12_isMethod th p0 S Q) : Ctr G l yX12_isMethod cX12_isMethod 2 (some FieldType.boolean) 0 0 0 0 [.ref th, .int p0] S (fun (v : Option Value) (S9 : St) => ∃ (r : Int32), v = some (.int r) ∧ S9 = S ∧ Q r ) := by
  generalize hQQ : (fun (v : Option Value) (S9 : St) => ∃ (r : Int32), v = some (.int r) ∧ S9 = S ∧ Q r ) = QQ
  unfold P_X12_isMethod at hp
  refine Ctr.of (by decide) (Nat.le_of_ble_eq_true rfl) ?_
  intro p e s m args below meth c ls B hr hlk hin hl hH
  generalize hlocs0 : ([] : List Loc) = locs at hH ⊢
  have hx := B.1
  have hb := B.2.1
  have hl : lv_has ls 2 [(0, .ref th), (1, .int p0)] := hl
  obtain ⟨hk_th, hp⟩ := hp
  refine lv_iload_n (pc := 0) hx hb dX12_isMethod_0 rfl (lv_at hl 1 rfl) ?_
  refine lv_if_lt (pc := 1) (tgt := 18) hx hb dX12_isMethod_1 (by decide) (fun cc_1 => ?_) (fun cc_1 => ?_)
  · have hp := hp.1 cc_1
    refine lv_iconst (pc := 18) (v := 0) hx hb dX12_isMethod_18 (by decide) ?_
    exact sx_zret (pc := 19) B hH hr hlk (Or.inl rfl) (by rw [← hQQ]; exact ⟨_, rfl, rfl, hp⟩) (Nat.le_of_ble_eq_true rfl) (Nat.le_of_ble_eq_true rfl) dX12_isMethod_19
  · have hp := hp.2 cc_1
    refine lv_iload_n (pc := 4) hx hb dX12_isMethod_4 rfl (lv_at hl 1 rfl) ?_
    refine lv_aload_n (pc := 5) hx hb dX12_isMethod_5 rfl (lv_at hl 0 rfl) ?_
    refine sx_getR (pc := 6) (j := 0) B hH hk_th coX12 rfl w_1304 rfl dX12_isMethod_6 ?_
    refine W.eq (g2 := F0 m 9 ls [va_rf (gR S th 0), .int p0]) rfl ?_
    obtain ⟨a_2, ha_2, hp⟩ := hp
    refine sx_nonnull (x := a_2) ha_2 ?_
    refine lv_iconst (pc := 9) (v := 1) hx hb dX12_isMethod_9 (by decide) ?_
    obtain ⟨hk_3, hp⟩ := hp
    obtain ⟨hn_4, hp⟩ := hp
    refine sx_iald (pc := 10) B hH hk_3 hn_4 dX12_isMethod_10 ?_
    refine W.eq (g2 := F0 m 11 ls [.int (gI S a_2 1), .int p0]) rfl ?_
    refine lv_icmp_ge (pc := 11) (tgt := 18) hx hb dX12_isMethod_11 (by decide) (fun cc_5 => ?_) (fun cc_5 => ?_)
    · have hp := hp.1 cc_5
      refine lv_iconst (pc := 18) (v := 0) hx hb dX12_isMethod_18 (by decide) ?_
      exact sx_zret (pc := 19) B hH hr hlk (Or.inl rfl) (by rw [← hQQ]; exact ⟨_, rfl, rfl, hp⟩) (Nat.le_of_ble_eq_true rfl) (Nat.le_of_ble_eq_true rfl) dX12_isMethod_19
    · have hp := hp.2 cc_5
      refine lv_iconst (pc := 14) (v := 1) hx hb dX12_isMethod_14 (by decide) ?_
      refine lv_goto (pc := 15) (tgt := 19) hx hb dX12_isMethod_15 (by decide) ?_
      exact sx_zret (pc := 19) B hH hr hlk (Or.inr rfl) (by rw [← hQQ]; exact ⟨_, rfl, rfl, hp⟩) (Nat.le_of_ble_eq_true rfl) (Nat.le_of_ble_eq_true rfl) dX12_isMethod_19
theorem dX12_isCall_0 : decode cX12_isCall 0 = .ok (.iload_n 0, 1) := by decide +kernel
theorem dX12_isCall_1 : decode cX12_isCall 1 = .ok (.ifCond .lt 12, 3) := by decide +kernel
theorem dX12_isCall_4 : decode cX12_isCall 4 = .ok (.iload_n 0, 1) := by decide +kernel
theorem dX12_isCall_5 : decode cX12_isCall 5 = .ok (.iconst 2, 1) := by decide +kernel
theorem dX12_isCall_6 : decode cX12_isCall 6 = .ok (.if_icmp .gt 7, 3) := by decide +kernel
theorem dX12_isCall_9 : decode cX12_isCall 9 = .ok (.iconst 1, 1) := by decide +kernel
theorem dX12_isCall_10 : decode cX12_isCall 10 = .ok (.goto 4, 3) := by decide +kernel
theorem dX12_isCall_13 : decode cX12_isCall 13 = .ok (.iconst 0, 1) := by decide +kernel
theorem dX12_isCall_14 : decode cX12_isCall 14 = .ok (.ireturn, 1) := by decide +kernel
theorem mi_X12_isCall : MI yX12_isCall cX12_isCall 1 (some FieldType.boolean) 1 := ⟨w_1757, w_118, by decide +kernel, by decide +kernel, by decide +kernel⟩
set_option maxRecDepth 100000 in
set_option maxHeartbeats 4000000 in
theorem C_X12_isCall (G : GG) (l : Launch) (p0 : Int32) (S : St) (Q : Int32 → Prop) (hp : P_X12_isCall p0 Q) : Ctr G l yX12_isCall cX12_isCall 1 (some FieldType.boolean) 0 0 0 0 [.int p0] S (fun (v : Option Value) (S9 : St) => ∃ (r : Int32), v = some (.int r) ∧ S9 = S ∧ Q r ) := by
  generalize hQQ : (fun (v : Option Value) (S9 : St) => ∃ (r : Int32), v = some (.int r) ∧ S9 = S ∧ Q r ) = QQ
  unfold P_X12_isCall at hp
  refine Ctr.of (by decide) (Nat.le_of_ble_eq_true rfl) ?_
  intro p e s m args below meth c ls B hr hlk hin hl hH
  generalize hlocs0 : ([] : List Loc) = locs at hH ⊢
  have hx := B.1
  have hb := B.2.1
  have hl : lv_has ls 1 [(0, .int p0)] := hl
  refine lv_iload_n (pc := 0) hx hb dX12_isCall_0 rfl (lv_at hl 0 rfl) ?_
  refine lv_if_lt (pc := 1) (tgt := 13) hx hb dX12_isCall_1 (by decide) (fun cc_1 => ?_) (fun cc_1 => ?_)
  · have hp := hp.1 cc_1
    refine lv_iconst (pc := 13) (v := 0) hx hb dX12_isCall_13 (by decide) ?_
    exact sx_zret (pc := 14) B hH hr hlk (Or.inl rfl) (by rw [← hQQ]; exact ⟨_, rfl, rfl, hp⟩) (Nat.le_of_ble_eq_true rfl) (Nat.le_of_ble_eq_true rfl) dX12_isCall_14
  · have hp := hp.2 cc_1
    refine lv_iload_n (pc := 4) hx hb dX12_isCall_4 rfl (lv_at hl 0 rfl) ?_
    refine lv_iconst (pc := 5) (v := 2) hx hb dX12_isCall_5 (by decide) ?_
    refine lv_icmp_gt (pc := 6) (tgt := 13) hx hb dX12_isCall_6 (by decide) (fun cc_2 => ?_) (fun cc_2 => ?_)
    · have hp := hp.1 cc_2
      refine lv_iconst (pc := 13) (v := 0) hx hb dX12_isCall_13 (by decide) ?_
      exact sx_zret (pc := 14) B hH hr hlk (Or.inl rfl) (by rw [← hQQ]; exact ⟨_, rfl, rfl, hp⟩) (Nat.le_of_ble_eq_true rfl) (Nat.le_of_ble_eq_true rfl) dX12_isCall_14
    · have hp := hp.2 cc_2
      refine lv_iconst (pc := 9) (v := 1) hx hb dX12_isCall_9 (by decide) ?_
      refine lv_goto (pc := 10) (tgt := 14) hx hb dX12_isCall_10 (by decide) ?_
      exact sx_zret (pc := 14) B hH hr hlk (Or.inr rfl) (by rw [← hQQ]; exact ⟨_, rfl, rfl, hp⟩) (Nat.le_of_ble_eq_true rfl) (Nat.le_of_ble_eq_true rfl) dX12_isCall_14
theorem dX12_isBell_0 : decode cX12_isBell 0 = .ok (.iload_n 1, 1) := by decide +kernel
theorem dX12_isBell_1 : decode cX12_isBell 1 = .ok (.iconst 1, 1) := by decide +kernel
theorem dX12_isBell_2 : decode cX12_isBell 2 = .ok (.if_icmp .lt 17, 3) := by decide +kernel
theorem dX12_isBell_5 : decode cX12_isBell 5 = .ok (.iload_n 1, 1) := by decide +kernel
theorem dX12_isBell_6 : decode cX12_isBell 6 = .ok (.aload_n 0, 1) := by decide +kernel
theorem dX12_isBell_7 : decode cX12_isBell 7 = .ok (.getfield 7, 3) := by decide +kernel
theorem dX12_isBell_10 : decode cX12_isBell 10 = .ok (.iconst 0, 1) := by decide +kernel
theorem dX12_isBell_11 : decode cX12_isBell 11 = .ok (.iaload, 1) := by decide +kernel
theorem dX12_isBell_12 : decode cX12_isBell 12 = .ok (.if_icmp .gt 7, 3) := by decide +kernel
theorem dX12_isBell_15 : decode cX12_isBell 15 = .ok (.iconst 1, 1) := by decide +kernel
theorem dX12_isBell_16 : decode cX12_isBell 16 = .ok (.goto 4, 3) := by decide +kernel
theorem dX12_isBell_19 : decode cX12_isBell 19 = .ok (.iconst 0, 1) := by decide +kernel
theorem dX12_isBell_20 : decode cX12_isBell 20 = .ok (.ireturn, 1) := by decide +kernel
theorem mi_X12_isBell : MI yX12_isBell cX12_isBell 2 (some FieldType.boolean) 1 := ⟨w_1654, w_118, by decide +kernel, by decide +kernel, by decide +kernel⟩
set_option maxRecDepth 100000 in
set_option maxHeartbeats 4000000 in
theorem C_X12_isBell (G : GG) (l : Launch) (th : Nat) (p0 : Int32) (S : St) (Q : Int32 → Prop) (hp : P_X12_isBell th p0 S Q) : Ctr G l yX12_isBell cX12_isBell 2 (some FieldType.boolean) 0 0 0 0 [.ref th, .int p0] S (fun (v : Option Value) (S9 : St) => ∃ (r : Int32), v = some (.int r) ∧ S9 = S ∧ Q r ) := by
  generalize hQQ : (fun (v : Option Value) (S9 : St) => ∃ (r : Int32), v = some (.int r) ∧ S9 = S ∧ Q r ) = QQ
  unfold P_X12_isBell at hp
  refine Ctr.of (by decide) (Nat.le_of_ble_eq_true rfl) ?_
  intro p e s m args below meth c ls B hr hlk hin hl hH
  generalize hlocs0 : ([] : List Loc) = locs at hH ⊢
  have hx := B.1
  have hb := B.2.1
  have hl : lv_has ls 2 [(0, .ref th), (1, .int p0)] := hl
  obtain ⟨hk_th, hp⟩ := hp
  refine lv_iload_n (pc := 0) hx hb dX12_isBell_0 rfl (lv_at hl 1 rfl) ?_
  refine lv_iconst (pc := 1) (v := 1) hx hb dX12_isBell_1 (by decide) ?_
  refine lv_icmp_lt (pc := 2) (tgt := 19) hx hb dX12_isBell_2 (by decide) (fun cc_1 => ?_) (fun cc_1 => ?_)
  · have hp := hp.1 cc_1
    refine lv_iconst (pc := 19) (v := 0) hx hb dX12_isBell_19 (by decide) ?_
    exact sx_zret (pc := 20) B hH hr hlk (Or.inl rfl) (by rw [← hQQ]; exact ⟨_, rfl, rfl, hp⟩) (Nat.le_of_ble_eq_true rfl) (Nat.le_of_ble_eq_true rfl) dX12_isBell_20
  · have hp := hp.2 cc_1
    refine lv_iload_n (pc := 5) hx hb dX12_isBell_5 rfl (lv_at hl 1 rfl) ?_
    refine lv_aload_n (pc := 6) hx hb dX12_isBell_6 rfl (lv_at hl 0 rfl) ?_
    refine sx_getR (pc := 7) (j := 0) B hH hk_th coX12 rfl w_1304 rfl dX12_isBell_7 ?_
    refine W.eq (g2 := F0 m 10 ls [va_rf (gR S th 0), .int p0]) rfl ?_
    obtain ⟨a_2, ha_2, hp⟩ := hp
    refine sx_nonnull (x := a_2) ha_2 ?_
    refine lv_iconst (pc := 10) (v := 0) hx hb dX12_isBell_10 (by decide) ?_
    obtain ⟨hk_3, hp⟩ := hp
    obtain ⟨hn_4, hp⟩ := hp
    refine sx_iald (pc := 11) B hH hk_3 hn_4 dX12_isBell_11 ?_
    refine W.eq (g2 := F0 m 12 ls [.int (gI S a_2 0), .int p0]) rfl ?_
    refine lv_icmp_gt (pc := 12) (tgt := 19) hx hb dX12_isBell_12 (by decide) (fun cc_5 => ?_) (fun cc_5 => ?_)
    · have hp := hp.1 cc_5
      refine lv_iconst (pc := 19) (v := 0) hx hb dX12_isBell_19 (by decide) ?_
      exact sx_zret (pc := 20) B hH hr hlk (Or.inl rfl) (by rw [← hQQ]; exact ⟨_, rfl, rfl, hp⟩) (Nat.le_of_ble_eq_true rfl) (Nat.le_of_ble_eq_true rfl) dX12_isBell_20
    · have hp := hp.2 cc_5
      refine lv_iconst (pc := 15) (v := 1) hx hb dX12_isBell_15 (by decide) ?_
      refine lv_goto (pc := 16) (tgt := 20) hx hb dX12_isBell_16 (by decide) ?_
      exact sx_zret (pc := 20) B hH hr hlk (Or.inr rfl) (by rw [← hQQ]; exact ⟨_, rfl, rfl, hp⟩) (Nat.le_of_ble_eq_true rfl) (Nat.le_of_ble_eq_true rfl) dX12_isBell_20
theorem dX12_told_0 : decode cX12_told 0 = .ok (.iload_n 1, 1) := by decide +kernel
theorem dX12_told_1 : decode cX12_told 1 = .ok (.tableswitch 136 0 5 #[39, 50, 61, 70, 94, 124], 39) := by decide +kernel
theorem dX12_told_40 : decode cX12_told 40 = .ok (.aload_n 0, 1) := by decide +kernel
theorem dX12_told_41 : decode cX12_told 41 = .ok (.aload_n 0, 1) := by decide +kernel
theorem dX12_told_42 : decode cX12_told 42 = .ok (.getfield 7, 3) := by decide +kernel
theorem dX12_told_45 : decode cX12_told 45 = .ok (.iconst 0, 1) := by decide +kernel
theorem dX12_told_46 : decode cX12_told 46 = .ok (.iaload, 1) := by decide +kernel
theorem dX12_told_47 : decode cX12_told 47 = .ok (.invokevirtual 109, 3) := by decide +kernel
theorem dX12_told_50 : decode cX12_told 50 = .ok (.ireturn, 1) := by decide +kernel
theorem dX12_told_51 : decode cX12_told 51 = .ok (.aload_n 0, 1) := by decide +kernel
theorem dX12_told_52 : decode cX12_told 52 = .ok (.aload_n 0, 1) := by decide +kernel
theorem dX12_told_53 : decode cX12_told 53 = .ok (.getfield 7, 3) := by decide +kernel
theorem dX12_told_56 : decode cX12_told 56 = .ok (.iconst 1, 1) := by decide +kernel
theorem dX12_told_57 : decode cX12_told 57 = .ok (.iaload, 1) := by decide +kernel
theorem dX12_told_58 : decode cX12_told 58 = .ok (.invokevirtual 109, 3) := by decide +kernel
theorem dX12_told_61 : decode cX12_told 61 = .ok (.ireturn, 1) := by decide +kernel
theorem dX12_told_62 : decode cX12_told 62 = .ok (.aload_n 0, 1) := by decide +kernel
theorem dX12_told_63 : decode cX12_told 63 = .ok (.aload_n 0, 1) := by decide +kernel
theorem dX12_told_64 : decode cX12_told 64 = .ok (.invokevirtual 263, 3) := by decide +kernel
theorem dX12_told_67 : decode cX12_told 67 = .ok (.invokevirtual 109, 3) := by decide +kernel
theorem dX12_told_70 : decode cX12_told 70 = .ok (.ireturn, 1) := by decide +kernel
theorem dX12_told_71 : decode cX12_told 71 = .ok (.aload_n 0, 1) := by decide +kernel
theorem dX12_told_72 : decode cX12_told 72 = .ok (.iconst 1, 1) := by decide +kernel
theorem dX12_told_73 : decode cX12_told 73 = .ok (.aload_n 0, 1) := by decide +kernel
theorem dX12_told_74 : decode cX12_told 74 = .ok (.getfield 7, 3) := by decide +kernel
theorem dX12_told_77 : decode cX12_told 77 = .ok (.iconst 0, 1) := by decide +kernel
theorem dX12_told_78 : decode cX12_told 78 = .ok (.iaload, 1) := by decide +kernel
theorem dX12_told_79 : decode cX12_told 79 = .ok (.ishl, 1) := by decide +kernel
theorem dX12_told_80 : decode cX12_told 80 = .ok (.iconst 1, 1) := by decide +kernel
theorem dX12_told_81 : decode cX12_told 81 = .ok (.isub, 1) := by decide +kernel
theorem dX12_told_82 : decode cX12_told 82 = .ok (.aload_n 0, 1) := by decide +kernel
theorem dX12_told_83 : decode cX12_told 83 = .ok (.getfield 7, 3) := by decide +kernel
theorem dX12_told_86 : decode cX12_told 86 = .ok (.iconst 3, 1) := by decide +kernel
theorem dX12_told_87 : decode cX12_told 87 = .ok (.iaload, 1) := by decide +kernel
theorem dX12_told_88 : decode cX12_told 88 = .ok (.iconst (-1), 1) := by decide +kernel
theorem dX12_told_89 : decode cX12_told 89 = .ok (.ixor, 1) := by decide +kernel
theorem dX12_told_90 : decode cX12_told 90 = .ok (.iand, 1) := by decide +kernel
theorem dX12_told_91 : decode cX12_told 91 = .ok (.invokevirtual 109, 3) := by decide +kernel
theorem dX12_told_94 : decode cX12_told 94 = .ok (.ireturn, 1) := by decide +kernel
theorem dX12_told_95 : decode cX12_told 95 = .ok (.aload_n 0, 1) := by decide +kernel
theorem dX12_told_96 : decode cX12_told 96 = .ok (.getfield 7, 3) := by decide +kernel
theorem dX12_told_99 : decode cX12_told 99 = .ok (.iconst 4, 1) := by decide +kernel
theorem dX12_told_100 : decode cX12_told 100 = .ok (.iaload, 1) := by decide +kernel
theorem dX12_told_101 : decode cX12_told 101 = .ok (.iconst (-1), 1) := by decide +kernel
theorem dX12_told_102 : decode cX12_told 102 = .ok (.if_icmp .ne 12, 3) := by decide +kernel
theorem dX12_told_105 : decode cX12_told 105 = .ok (.aload_n 0, 1) := by decide +kernel
theorem dX12_told_106 : decode cX12_told 106 = .ok (.bipush 6, 2) := by decide +kernel
theorem dX12_told_108 : decode cX12_told 108 = .ok (.invokevirtual 105, 3) := by decide +kernel
theorem dX12_told_111 : decode cX12_told 111 = .ok (.goto 13, 3) := by decide +kernel
theorem dX12_told_114 : decode cX12_told 114 = .ok (.aload_n 0, 1) := by decide +kernel
theorem dX12_told_115 : decode cX12_told 115 = .ok (.aload_n 0, 1) := by decide +kernel
theorem dX12_told_116 : decode cX12_told 116 = .ok (.getfield 7, 3) := by decide +kernel
theorem dX12_told_119 : decode cX12_told 119 = .ok (.iconst 5, 1) := by decide +kernel
theorem dX12_told_120 : decode cX12_told 120 = .ok (.iaload, 1) := by decide +kernel
theorem dX12_told_121 : decode cX12_told 121 = .ok (.invokevirtual 109, 3) := by decide +kernel
theorem dX12_told_124 : decode cX12_told 124 = .ok (.ireturn, 1) := by decide +kernel
theorem dX12_told_125 : decode cX12_told 125 = .ok (.aload_n 0, 1) := by decide +kernel
theorem dX12_told_126 : decode cX12_told 126 = .ok (.aload_n 0, 1) := by decide +kernel
theorem dX12_told_127 : decode cX12_told 127 = .ok (.getfield 7, 3) := by decide +kernel
theorem dX12_told_130 : decode cX12_told 130 = .ok (.bipush 6, 2) := by decide +kernel
theorem dX12_told_132 : decode cX12_told 132 = .ok (.iaload, 1) := by decide +kernel
theorem dX12_told_133 : decode cX12_told 133 = .ok (.invokevirtual 274, 3) := by decide +kernel
theorem dX12_told_136 : decode cX12_told 136 = .ok (.ireturn, 1) := by decide +kernel
theorem dX12_told_137 : decode cX12_told 137 = .ok (.aload_n 0, 1) := by decide +kernel
theorem dX12_told_138 : decode cX12_told 138 = .ok (.iconst 1, 1) := by decide +kernel
theorem dX12_told_139 : decode cX12_told 139 = .ok (.invokevirtual 105, 3) := by decide +kernel
theorem dX12_told_142 : decode cX12_told 142 = .ok (.ireturn, 1) := by decide +kernel
theorem mi_X12_told : MI yX12_told cX12_told 2 (some FieldType.int) 1 := ⟨w_1634, w_118, by decide +kernel, by decide +kernel, by decide +kernel⟩
set_option maxRecDepth 100000 in
set_option maxHeartbeats 4000000 in
theorem C_X12_told (G : GG) (l : Launch) (th : Nat) (p0 : Int32) (S : St) (Q : Int32 → (Nat → Nat → Int32) → Prop) (hp : P_X12_told th p0 S Q) : Ctr G l yX12_told cX12_told 2 (some FieldType.int) 2 42 0 0 [.ref th, .int p0] S (fun (v : Option Value) (S9 : St) => ∃ (r : Int32) (I9 : Nat → Nat → Int32), v = some (.int r) ∧ S9 = wI S I9 ∧ Q r I9) := by
  generalize hQQ : (fun (v : Option Value) (S9 : St) => ∃ (r : Int32) (I9 : Nat → Nat → Int32), v = some (.int r) ∧ S9 = wI S I9 ∧ Q r I9) = QQ
  unfold P_X12_told at hp
  refine Ctr.of (by decide) (Nat.le_of_ble_eq_true rfl) ?_
  intro p e s m args below meth c ls B hr hlk hin hl hH
  generalize hlocs0 : ([] : List Loc) = locs at hH ⊢
  have hx := B.1
  have hb := B.2.1
  have hl : lv_has ls 2 [(0, .ref th), (1, .int p0)] := hl
  obtain ⟨hk_th, hp⟩ := hp
  refine lv_iload_n (pc := 0) hx hb dX12_told_0 rfl (lv_at hl 1 rfl) ?_
  by_cases cs_1_0 : p0 = 0
  · have hp := hp.1 cs_1_0
    refine lv_tableIn (pc := 1) (tgt := 40) hx hb dX12_told_1 (by rw [cs_1_0]; decide) (by rw [cs_1_0]; decide) (by rw [cs_1_0]; rfl) (by decide) ?_
    refine lv_aload_n (pc := 40) hx hb dX12_told_40 rfl (lv_at hl 0 rfl) ?_
    refine lv_aload_n (pc := 41) hx hb dX12_told_41 rfl (lv_at hl 0 rfl) ?_
    refine sx_getR (pc := 42) (j := 0) B hH hk_th coX12 rfl w_1304 rfl dX12_told_42 ?_
    refine W.eq (g2 := F0 m 45 ls [va_rf (gR S th 0), .ref th]) rfl ?_
    obtain ⟨a_2, ha_2, hp⟩ := hp
    refine sx_nonnull (x := a_2) ha_2 ?_
    refine lv_iconst (pc := 45) (v := 0) hx hb dX12_told_45 (by decide) ?_
    obtain ⟨hk_3, hp⟩ := hp
    obtain ⟨hn_4, hp⟩ := hp
    refine sx_iald (pc := 46) B hH hk_3 hn_4 dX12_told_46 ?_
    refine W.eq (g2 := F0 m 47 ls [.int (gI S a_2 0), .ref th]) rfl ?_
    refine sx_V (pc := 47) (As := [.int (gI S a_2 0)]) (rest := []) B hH hl.1 (C_X12_gives G l th (gI S a_2 0) _ _ hp) mi_X12_gives coX12 hk_th w_1617 w_69 w_1615 rfl rfl ⟨Nat.le_of_ble_eq_true rfl, Nat.le_of_ble_eq_true rfl⟩ (Nat.le_of_ble_eq_true rfl) ⟨Nat.le_of_ble_eq_true rfl, Nat.le_of_ble_eq_true rfl⟩ dX12_told_47 (fun v S1 H locs hq hH => ?_)
    obtain ⟨r_5, F_5, rfl, e9, hp⟩ := hq
    rw [e9] at hH
    have hH : Hp G (FA S s.heap.size) s.heap (wI S F_5) H locs := hH
    refine W.eq (g2 := F0 m 50 ls [.int r_5]) rfl ?_
    exact sx_iret (pc := 50) B hH hr hlk (by rw [← hQQ]; exact ⟨_, F_5, rfl, rfl, hp⟩) (Nat.le_of_ble_eq_true rfl) (Nat.le_of_ble_eq_true rfl) dX12_told_50
  · have hp := hp.2 cs_1_0
    by_cases cs_1_1 : p0 = 1
    · have hp := hp.1 cs_1_1
      refine lv_tableIn (pc := 1) (tgt := 51) hx hb dX12_told_1 (by rw [cs_1_1]; decide) (by rw [cs_1_1]; decide) (by rw [cs_1_1]; rfl) (by decide) ?_
      refine lv_aload_n (pc := 51) hx hb dX12_told_51 rfl (lv_at hl 0 rfl) ?_
      refine lv_aload_n (pc := 52) hx hb dX12_told_52 rfl (lv_at hl 0 rfl) ?_
      refine sx_getR (pc := 53) (j := 0) B hH hk_th coX12 rfl w_1304 rfl dX12_told_53 ?_
      refine W.eq (g2 := F0 m 56 ls [va_rf (gR S th 0), .ref th]) rfl ?_
      obtain ⟨a_6, ha_6, hp⟩ := hp
      refine sx_nonnull (x := a_6) ha_6 ?_
      refine lv_iconst (pc := 56) (v := 1) hx hb dX12_told_56 (by decide) ?_
      obtain ⟨hk_7, hp⟩ := hp
      obtain ⟨hn_8, hp⟩ := hp
      refine sx_iald (pc := 57) B hH hk_7 hn_8 dX12_told_57 ?_
      refine W.eq (g2 := F0 m 58 ls [.int (gI S a_6 1), .ref th]) rfl ?_
      refine sx_V (pc := 58) (As := [.int (gI S a_6 1)]) (rest := []) B hH hl.1 (C_X12_gives G l th (gI S a_6 1) _ _ hp) mi_X12_gives coX12 hk_th w_1617 w_69 w_1615 rfl rfl ⟨Nat.le_of_ble_eq_true rfl, Nat.le_of_ble_eq_true rfl⟩ (Nat.le_of_ble_eq_true rfl) ⟨Nat.le_of_ble_eq_true rfl, Nat.le_of_ble_eq_true rfl⟩ dX12_told_58 (fun v S1 H locs hq hH => ?_)
      obtain ⟨r_9, F_9, rfl, e9, hp⟩ := hq
      rw [e9] at hH
      have hH : Hp G (FA S s.heap.size) s.heap (wI S F_9) H locs := hH
      refine W.eq (g2 := F0 m 61 ls [.int r_9]) rfl ?_
      exact sx_iret (pc := 61) B hH hr hlk (by rw [← hQQ]; exact ⟨_, F_9, rfl, rfl, hp⟩) (Nat.le_of_ble_eq_true rfl) (Nat.le_of_ble_eq_true rfl) dX12_told_61
    · have hp := hp.2 cs_1_1
      by_cases cs_1_2 : p0 = 2
      · have hp := hp.1 cs_1_2
        refine lv_tableIn (pc := 1) (tgt := 62) hx hb dX12_told_1 (by rw [cs_1_2]; decide) (by rw [cs_1_2]; decide) (by rw [cs_1_2]; rfl) (by decide) ?_
        refine lv_aload_n (pc := 62) hx hb dX12_told_62 rfl (lv_at hl 0 rfl) ?_
        refine lv_aload_n (pc := 63) hx hb dX12_told_63 rfl (lv_at hl 0 rfl) ?_
        refine sx_V (pc := 64) (As := []) (rest := [.ref th]) B hH hl.1 (C_X12_rowsMany G l th _ _ hp) mi_X12_rowsMany coX12 hk_th w_1637 w_72 w_1635 rfl rfl ⟨Nat.le_of_ble_eq_true rfl, Nat.le_of_ble_eq_true rfl⟩ (Nat.le_of_ble_eq_true rfl) ⟨Nat.le_of_ble_eq_true rfl, Nat.le_of_ble_eq_true rfl⟩ dX12_told_64 (fun v S1 H locs hq hH => ?_)
        obtain ⟨r_10, rfl, e9, hp⟩ := hq
        rw [e9] at hH
        refine W.eq (g2 := F0 m 67 ls [.int r_10, .ref th]) rfl ?_
        refine sx_V (pc := 67) (As := [.int r_10]) (rest := []) B hH hl.1 (C_X12_gives G l th r_10 _ _ hp) mi_X12_gives coX12 hk_th w_1617 w_69 w_1615 rfl rfl ⟨Nat.le_of_ble_eq_true rfl, Nat.le_of_ble_eq_true rfl⟩ (Nat.le_of_ble_eq_true rfl) ⟨Nat.le_of_ble_eq_true rfl, Nat.le_of_ble_eq_true rfl⟩ dX12_told_67 (fun v S1 H locs hq hH => ?_)
        obtain ⟨r_11, F_11, rfl, e9, hp⟩ := hq
        rw [e9] at hH
        have hH : Hp G (FA S s.heap.size) s.heap (wI S F_11) H locs := hH
        refine W.eq (g2 := F0 m 70 ls [.int r_11]) rfl ?_
        exact sx_iret (pc := 70) B hH hr hlk (by rw [← hQQ]; exact ⟨_, F_11, rfl, rfl, hp⟩) (Nat.le_of_ble_eq_true rfl) (Nat.le_of_ble_eq_true rfl) dX12_told_70
      · have hp := hp.2 cs_1_2
        by_cases cs_1_3 : p0 = 3
        · have hp := hp.1 cs_1_3
          refine lv_tableIn (pc := 1) (tgt := 71) hx hb dX12_told_1 (by rw [cs_1_3]; decide) (by rw [cs_1_3]; decide) (by rw [cs_1_3]; rfl) (by decide) ?_
          refine lv_aload_n (pc := 71) hx hb dX12_told_71 rfl (lv_at hl 0 rfl) ?_
          refine lv_iconst (pc := 72) (v := 1) hx hb dX12_told_72 (by decide) ?_
          refine lv_aload_n (pc := 73) hx hb dX12_told_73 rfl (lv_at hl 0 rfl) ?_
          refine sx_getR (pc := 74) (j := 0) B hH hk_th coX12 rfl w_1304 rfl dX12_told_74 ?_
          refine W.eq (g2 := F0 m 77 ls [va_rf (gR S th 0), .int 1, .ref th]) rfl ?_
          obtain ⟨a_12, ha_12, hp⟩ := hp
          refine sx_nonnull (x := a_12) ha_12 ?_
          refine lv_iconst (pc := 77) (v := 0) hx hb dX12_told_77 (by decide) ?_
          obtain ⟨hk_13, hp⟩ := hp
          obtain ⟨hn_14, hp⟩ := hp
          refine sx_iald (pc := 78) B hH hk_13 hn_14 dX12_told_78 ?_
          refine W.eq (g2 := F0 m 79 ls [.int (gI S a_12 0), .int 1, .ref th]) rfl ?_
          refine lv_ishl (pc := 79) hx hb dX12_told_79 ?_
          refine W.eq (g2 := F0 m 80 ls [.int (shl 1 (gI S a_12 0)), .ref th]) rfl ?_
          refine lv_iconst (pc := 80) (v := 1) hx hb dX12_told_80 (by decide) ?_
          refine lv_isub (pc := 81) hx hb dX12_told_81 ?_
          refine lv_aload_n (pc := 82) hx hb dX12_told_82 rfl (lv_at hl 0 rfl) ?_
          refine sx_getR (pc := 83) (j := 0) B hH hk_th coX12 rfl w_1304 rfl dX12_told_83 ?_
          refine W.eq (g2 := F0 m 86 ls [va_rf (gR S th 0), .int ((shl 1 (gI S a_12 0)) - 1), .ref th]) rfl ?_
          refine sx_nonnull (x := a_12) ha_12 ?_
          refine lv_iconst (pc := 86) (v := 3) hx hb dX12_told_86 (by decide) ?_
          obtain ⟨hn_15, hp⟩ := hp
          refine sx_iald (pc := 87) B hH hk_13 hn_15 dX12_told_87 ?_
          refine W.eq (g2 := F0 m 88 ls [.int (gI S a_12 3), .int ((shl 1 (gI S a_12 0)) - 1), .ref th]) rfl ?_
          refine lv_iconst (pc := 88) (v := (-1)) hx hb dX12_told_88 (by decide) ?_
          refine lv_ixor (pc := 89) hx hb dX12_told_89 ?_
          refine lv_iand (pc := 90) hx hb dX12_told_90 ?_
          refine sx_V (pc := 91) (As := [.int (((shl 1 (gI S a_12 0)) - 1) &&& ((gI S a_12 3) ^^^ (-1)))]) (rest := []) B hH hl.1 (C_X12_gives G l th (((shl 1 (gI S a_12 0)) - 1) &&& ((gI S a_12 3) ^^^ (-1))) _ _ hp) mi_X12_gives coX12 hk_th w_1617 w_69 w_1615 rfl rfl ⟨Nat.le_of_ble_eq_true rfl, Nat.le_of_ble_eq_true rfl⟩ (Nat.le_of_ble_eq_true rfl) ⟨Nat.le_of_ble_eq_true rfl, Nat.le_of_ble_eq_true rfl⟩ dX12_told_91 (fun v S1 H locs hq hH => ?_)
          obtain ⟨r_16, F_16, rfl, e9, hp⟩ := hq
          rw [e9] at hH
          have hH : Hp G (FA S s.heap.size) s.heap (wI S F_16) H locs := hH
          refine W.eq (g2 := F0 m 94 ls [.int r_16]) rfl ?_
          exact sx_iret (pc := 94) B hH hr hlk (by rw [← hQQ]; exact ⟨_, F_16, rfl, rfl, hp⟩) (Nat.le_of_ble_eq_true rfl) (Nat.le_of_ble_eq_true rfl) dX12_told_94
        · have hp := hp.2 cs_1_3
          by_cases cs_1_4 : p0 = 4
          · have hp := hp.1 cs_1_4
            refine lv_tableIn (pc := 1) (tgt := 95) hx hb dX12_told_1 (by rw [cs_1_4]; decide) (by rw [cs_1_4]; decide) (by rw [cs_1_4]; rfl) (by decide) ?_
            refine lv_aload_n (pc := 95) hx hb dX12_told_95 rfl (lv_at hl 0 rfl) ?_
            refine sx_getR (pc := 96) (j := 0) B hH hk_th coX12 rfl w_1304 rfl dX12_told_96 ?_
            refine W.eq (g2 := F0 m 99 ls [va_rf (gR S th 0)]) rfl ?_
            obtain ⟨a_17, ha_17, hp⟩ := hp
            refine sx_nonnull (x := a_17) ha_17 ?_
            refine lv_iconst (pc := 99) (v := 4) hx hb dX12_told_99 (by decide) ?_
            obtain ⟨hk_18, hp⟩ := hp
            obtain ⟨hn_19, hp⟩ := hp
            refine sx_iald (pc := 100) B hH hk_18 hn_19 dX12_told_100 ?_
            refine W.eq (g2 := F0 m 101 ls [.int (gI S a_17 4)]) rfl ?_
            refine lv_iconst (pc := 101) (v := (-1)) hx hb dX12_told_101 (by decide) ?_
            refine lv_icmp_ne (pc := 102) (tgt := 114) hx hb dX12_told_102 (by decide) (fun cc_20 => ?_) (fun cc_20 => ?_)
            · have hp := hp.1 cc_20
              refine lv_aload_n (pc := 114) hx hb dX12_told_114 rfl (lv_at hl 0 rfl) ?_
              refine lv_aload_n (pc := 115) hx hb dX12_told_115 rfl (lv_at hl 0 rfl) ?_
              refine sx_getR (pc := 116) (j := 0) B hH hk_th coX12 rfl w_1304 rfl dX12_told_116 ?_
              refine W.eq (g2 := F0 m 119 ls [va_rf (gR S th 0), .ref th]) rfl ?_
              refine sx_nonnull (x := a_17) ha_17 ?_
              refine lv_iconst (pc := 119) (v := 5) hx hb dX12_told_119 (by decide) ?_
              obtain ⟨hn_21, hp⟩ := hp
              refine sx_iald (pc := 120) B hH hk_18 hn_21 dX12_told_120 ?_
              refine W.eq (g2 := F0 m 121 ls [.int (gI S a_17 5), .ref th]) rfl ?_
              refine sx_V (pc := 121) (As := [.int (gI S a_17 5)]) (rest := []) B hH hl.1 (C_X12_gives G l th (gI S a_17 5) _ _ hp) mi_X12_gives coX12 hk_th w_1617 w_69 w_1615 rfl rfl ⟨Nat.le_of_ble_eq_true rfl, Nat.le_of_ble_eq_true rfl⟩ (Nat.le_of_ble_eq_true rfl) ⟨Nat.le_of_ble_eq_true rfl, Nat.le_of_ble_eq_true rfl⟩ dX12_told_121 (fun v S1 H locs hq hH => ?_)
              obtain ⟨r_22, F_22, rfl, e9, hp⟩ := hq
              rw [e9] at hH
              have hH : Hp G (FA S s.heap.size) s.heap (wI S F_22) H locs := hH
              refine W.eq (g2 := F0 m 124 ls [.int r_22]) rfl ?_
              exact sx_iret (pc := 124) B hH hr hlk (by rw [← hQQ]; exact ⟨_, F_22, rfl, rfl, hp⟩) (Nat.le_of_ble_eq_true rfl) (Nat.le_of_ble_eq_true rfl) dX12_told_124
            · have hp := hp.2 cc_20
              refine lv_aload_n (pc := 105) hx hb dX12_told_105 rfl (lv_at hl 0 rfl) ?_
              refine lv_bipush (pc := 106) (v := 6) hx hb dX12_told_106 (by decide) ?_
              refine sx_V (pc := 108) (As := [.int 6]) (rest := []) B hH hl.1 (C_X12_refuse G l th 6 _ _ hp) mi_X12_refuse coX12 hk_th w_1539 w_51 w_1537 rfl rfl ⟨Nat.le_of_ble_eq_true rfl, Nat.le_of_ble_eq_true rfl⟩ (Nat.le_of_ble_eq_true rfl) ⟨Nat.le_of_ble_eq_true rfl, Nat.le_of_ble_eq_true rfl⟩ dX12_told_108 (fun v S1 H locs hq hH => ?_)
              obtain ⟨r_23, F_23, rfl, e9, hp⟩ := hq
              rw [e9] at hH
              have hH : Hp G (FA S s.heap.size) s.heap (wI S F_23) H locs := hH
              refine W.eq (g2 := F0 m 111 ls [.int r_23]) rfl ?_
              refine lv_goto (pc := 111) (tgt := 124) hx hb dX12_told_111 (by decide) ?_
              exact sx_iret (pc := 124) B hH hr hlk (by rw [← hQQ]; exact ⟨_, F_23, rfl, rfl, hp⟩) (Nat.le_of_ble_eq_true rfl) (Nat.le_of_ble_eq_true rfl) dX12_told_124
          · have hp := hp.2 cs_1_4
            by_cases cs_1_5 : p0 = 5
            · have hp := hp.1 cs_1_5
              refine lv_tableIn (pc := 1) (tgt := 125) hx hb dX12_told_1 (by rw [cs_1_5]; decide) (by rw [cs_1_5]; decide) (by rw [cs_1_5]; rfl) (by decide) ?_
              refine lv_aload_n (pc := 125) hx hb dX12_told_125 rfl (lv_at hl 0 rfl) ?_
              refine lv_aload_n (pc := 126) hx hb dX12_told_126 rfl (lv_at hl 0 rfl) ?_
              refine sx_getR (pc := 127) (j := 0) B hH hk_th coX12 rfl w_1304 rfl dX12_told_127 ?_
              refine W.eq (g2 := F0 m 130 ls [va_rf (gR S th 0), .ref th]) rfl ?_
              obtain ⟨a_24, ha_24, hp⟩ := hp
              refine sx_nonnull (x := a_24) ha_24 ?_
              refine lv_bipush (pc := 130) (v := 6) hx hb dX12_told_130 (by decide) ?_
              obtain ⟨hk_25, hp⟩ := hp
              obtain ⟨hn_26, hp⟩ := hp
              refine sx_iald (pc := 132) B hH hk_25 hn_26 dX12_told_132 ?_
              refine W.eq (g2 := F0 m 133 ls [.int (gI S a_24 6), .ref th]) rfl ?_
              refine sx_V (pc := 133) (As := [.int (gI S a_24 6)]) (rest := []) B hH hl.1 (C_X12_orNone G l th (gI S a_24 6) _ _ hp) mi_X12_orNone coX12 hk_th w_1641 w_73 w_1639 rfl rfl ⟨Nat.le_of_ble_eq_true rfl, Nat.le_of_ble_eq_true rfl⟩ (Nat.le_of_ble_eq_true rfl) ⟨Nat.le_of_ble_eq_true rfl, Nat.le_of_ble_eq_true rfl⟩ dX12_told_133 (fun v S1 H locs hq hH => ?_)
              obtain ⟨r_27, F_27, rfl, e9, hp⟩ := hq
              rw [e9] at hH
              have hH : Hp G (FA S s.heap.size) s.heap (wI S F_27) H locs := hH
              refine W.eq (g2 := F0 m 136 ls [.int r_27]) rfl ?_
              exact sx_iret (pc := 136) B hH hr hlk (by rw [← hQQ]; exact ⟨_, F_27, rfl, rfl, hp⟩) (Nat.le_of_ble_eq_true rfl) (Nat.le_of_ble_eq_true rfl) dX12_told_136
            · have hp := hp.2 cs_1_5
              refine lv_tableOut (pc := 1) (tgt := 137) hx hb dX12_told_1 (sw_0_5 cs_1_0 cs_1_1 cs_1_2 cs_1_3 cs_1_4 cs_1_5) (by decide) ?_
              refine lv_aload_n (pc := 137) hx hb dX12_told_137 rfl (lv_at hl 0 rfl) ?_
              refine lv_iconst (pc := 138) (v := 1) hx hb dX12_told_138 (by decide) ?_
              refine sx_V (pc := 139) (As := [.int 1]) (rest := []) B hH hl.1 (C_X12_refuse G l th 1 _ _ hp) mi_X12_refuse coX12 hk_th w_1539 w_51 w_1537 rfl rfl ⟨Nat.le_of_ble_eq_true rfl, Nat.le_of_ble_eq_true rfl⟩ (Nat.le_of_ble_eq_true rfl) ⟨Nat.le_of_ble_eq_true rfl, Nat.le_of_ble_eq_true rfl⟩ dX12_told_139 (fun v S1 H locs hq hH => ?_)
              obtain ⟨r_28, F_28, rfl, e9, hp⟩ := hq
              rw [e9] at hH
              have hH : Hp G (FA S s.heap.size) s.heap (wI S F_28) H locs := hH
              refine W.eq (g2 := F0 m 142 ls [.int r_28]) rfl ?_
              exact sx_iret (pc := 142) B hH hr hlk (by rw [← hQQ]; exact ⟨_, F_28, rfl, rfl, hp⟩) (Nat.le_of_ble_eq_true rfl) (Nat.le_of_ble_eq_true rfl) dX12_told_142
theorem dX12_bell_0 : decode cX12_bell 0 = .ok (.aload_n 0, 1) := by decide +kernel
theorem dX12_bell_1 : decode cX12_bell 1 = .ok (.iload_n 1, 1) := by decide +kernel
theorem dX12_bell_2 : decode cX12_bell 2 = .ok (.invokevirtual 277, 3) := by decide +kernel
theorem dX12_bell_5 : decode cX12_bell 5 = .ok (.ifCond .eq 11, 3) := by decide +kernel
theorem dX12_bell_8 : decode cX12_bell 8 = .ok (.aload_n 0, 1) := by decide +kernel
theorem dX12_bell_9 : decode cX12_bell 9 = .ok (.iload_n 2, 1) := by decide +kernel
theorem dX12_bell_10 : decode cX12_bell 10 = .ok (.invokevirtual 280, 3) := by decide +kernel
theorem dX12_bell_13 : decode cX12_bell 13 = .ok (.ifCond .ne 9, 3) := by decide +kernel
theorem dX12_bell_16 : decode cX12_bell 16 = .ok (.aload_n 0, 1) := by decide +kernel
theorem dX12_bell_17 : decode cX12_bell 17 = .ok (.iconst 1, 1) := by decide +kernel
theorem dX12_bell_18 : decode cX12_bell 18 = .ok (.invokevirtual 105, 3) := by decide +kernel
theorem dX12_bell_21 : decode cX12_bell 21 = .ok (.ireturn, 1) := by decide +kernel
theorem dX12_bell_22 : decode cX12_bell 22 = .ok (.aload_n 0, 1) := by decide +kernel
theorem dX12_bell_23 : decode cX12_bell 23 = .ok (.iload_n 1, 1) := by decide +kernel
theorem dX12_bell_24 : decode cX12_bell 24 = .ok (.aload_n 0, 1) := by decide +kernel
theorem dX12_bell_25 : decode cX12_bell 25 = .ok (.getfield 50, 3) := by decide +kernel
theorem dX12_bell_28 : decode cX12_bell 28 = .ok (.invokevirtual 266, 3) := by decide +kernel
theorem dX12_bell_31 : decode cX12_bell 31 = .ok (.aload_n 0, 1) := by decide +kernel
theorem dX12_bell_32 : decode cX12_bell 32 = .ok (.aload_n 0, 1) := by decide +kernel
theorem dX12_bell_33 : decode cX12_bell 33 = .ok (.getfield 50, 3) := by decide +kernel
theorem dX12_bell_36 : decode cX12_bell 36 = .ok (.iload_n 2, 1) := by decide +kernel
theorem dX12_bell_37 : decode cX12_bell 37 = .ok (.iconst 1, 1) := by decide +kernel
theorem dX12_bell_38 : decode cX12_bell 38 = .ok (.isub, 1) := by decide +kernel
theorem dX12_bell_39 : decode cX12_bell 39 = .ok (.iaload, 1) := by decide +kernel
theorem dX12_bell_40 : decode cX12_bell 40 = .ok (.iconst 1, 1) := by decide +kernel
theorem dX12_bell_41 : decode cX12_bell 41 = .ok (.iadd, 1) := by decide +kernel
theorem dX12_bell_42 : decode cX12_bell 42 = .ok (.invokevirtual 109, 3) := by decide +kernel
theorem dX12_bell_45 : decode cX12_bell 45 = .ok (.ireturn, 1) := by decide +kernel
theorem mi_X12_bell : MI yX12_bell cX12_bell 3 (some FieldType.int) 2 := ⟨w_1646, w_118, by decide +kernel, by decide +kernel, by decide +kernel⟩
set_option maxRecDepth 100000 in
set_option maxHeartbeats 4000000 in
theorem C_X12_bell (G : GG) (l : Launch) (th : Nat) (p0 : Int32) (p1 : Int32) (S : St) (Q : Int32 → (Nat → Nat → Int32) → Prop) (hp : P_X12_bell th p0 p1 S Q) : Ctr G l yX12_bell cX12_bell 3 (some FieldType.int) 2 51 0 0 [.ref th, .int p0, .int p1] S (fun (v : Option Value) (S9 : St) => ∃ (r : Int32) (I9 : Nat → Nat → Int32), v = some (.int r) ∧ S9 = wI S I9 ∧ Q r I9) := by
  generalize hQQ : (fun (v : Option Value) (S9 : St) => ∃ (r : Int32) (I9 : Nat → Nat → Int32), v = some (.int r) ∧ S9 = wI S I9 ∧ Q r I9) = QQ
  unfold P_X12_bell at hp
  refine Ctr.of (by decide) (Nat.le_of_ble_eq_true rfl) ?_
  intro p e s m args below meth c ls B hr hlk hin hl hH
  generalize hlocs0 : ([] : List Loc) = locs at hH ⊢
  have hx := B.1
  have hb := B.2.1
  have hl : lv_has ls 3 [(0, .ref th), (1, .int p0), (2, .int p1)] := hl
  obtain ⟨hk_th, hp⟩ := hp
  refine lv_aload_n (pc := 0) hx hb dX12_bell_0 rfl (lv_at hl 0 rfl) ?_
  refine lv_iload_n (pc := 1) hx hb dX12_bell_1 rfl (lv_at hl 1 rfl) ?_
  refine sx_V (pc := 2) (As := [.int p0]) (rest := []) B hH hl.1 (C_X12_isRow G l th p0 _ _ hp) mi_X12_isRow coX12 hk_th w_1649 w_74 w_1647 rfl rfl ⟨Nat.le_of_ble_eq_true rfl, Nat.le_of_ble_eq_true rfl⟩ (Nat.le_of_ble_eq_true rfl) ⟨Nat.le_of_ble_eq_true rfl, Nat.le_of_ble_eq_true rfl⟩ dX12_bell_2 (fun v S1 H locs hq hH => ?_)
  obtain ⟨r_1, rfl, e9, hp⟩ := hq
  rw [e9] at hH
  refine W.eq (g2 := F0 m 5 ls [.int r_1]) rfl ?_
  obtain ⟨J_3, hj_3, hp⟩ := hp
  have kj_3 : ∀  (H : Heap) (locs : List Loc) (ls : Array Slot), J_3  → Hp G (FA S s.heap.size) s.heap S H locs → lv_has ls 3 [(0, .ref th)] → Wm G p l e { frames := 2, cells := 0, slots := 0, locals := 51 } s m args below meth c S QQ 0 0 H locs 0 0 (F0 m 16 ls []) := by
    intro  H locs ls hq9 hH hl
    have hp := hj_3  hq9
    refine lv_aload_n (pc := 16) hx hb dX12_bell_16 rfl (lv_at hl 0 rfl) ?_
    refine lv_iconst (pc := 17) (v := 1) hx hb dX12_bell_17 (by decide) ?_
    refine sx_V (pc := 18) (As := [.int 1]) (rest := []) B hH hl.1 (C_X12_refuse G l th 1 _ _ hp) mi_X12_refuse coX12 hk_th w_1539 w_51 w_1537 rfl rfl ⟨Nat.le_of_ble_eq_true rfl, Nat.le_of_ble_eq_true rfl⟩ (Nat.le_of_ble_eq_true rfl) ⟨Nat.le_of_ble_eq_true rfl, Nat.le_of_ble_eq_true rfl⟩ dX12_bell_18 (fun v S1 H locs hq hH => ?_)
    obtain ⟨r_4, F_4, rfl, e9, hp⟩ := hq
    rw [e9] at hH
    have hH : Hp G (FA S s.heap.size) s.heap (wI S F_4) H locs := hH
    refine W.eq (g2 := F0 m 21 ls [.int r_4]) rfl ?_
    exact sx_iret (pc := 21) B hH hr hlk (by rw [← hQQ]; exact ⟨_, F_4, rfl, rfl, hp⟩) (Nat.le_of_ble_eq_true rfl) (Nat.le_of_ble_eq_true rfl) dX12_bell_21
  refine lv_if_eq (pc := 5) (tgt := 16) hx hb dX12_bell_5 (by decide) (fun cc_2 => ?_) (fun cc_2 => ?_)
  · have hp := hp.1 cc_2
    exact kj_3  _ _ _ hp hH (lv_sub hl [0] rfl)
  · have hp := hp.2 cc_2
    refine lv_aload_n (pc := 8) hx hb dX12_bell_8 rfl (lv_at hl 0 rfl) ?_
    refine lv_iload_n (pc := 9) hx hb dX12_bell_9 rfl (lv_at hl 2 rfl) ?_
    refine sx_V (pc := 10) (As := [.int p1]) (rest := []) B hH hl.1 (C_X12_isBell G l th p1 _ _ hp) mi_X12_isBell coX12 hk_th w_1653 w_75 w_1651 rfl rfl ⟨Nat.le_of_ble_eq_true rfl, Nat.le_of_ble_eq_true rfl⟩ (Nat.le_of_ble_eq_true rfl) ⟨Nat.le_of_ble_eq_true rfl, Nat.le_of_ble_eq_true rfl⟩ dX12_bell_10 (fun v S1 H locs hq hH => ?_)
    obtain ⟨r_5, rfl, e9, hp⟩ := hq
    rw [e9] at hH
    refine W.eq (g2 := F0 m 13 ls [.int r_5]) rfl ?_
    refine lv_if_ne (pc := 13) (tgt := 22) hx hb dX12_bell_13 (by decide) (fun cc_6 => ?_) (fun cc_6 => ?_)
    · have hp := hp.1 cc_6
      refine lv_aload_n (pc := 22) hx hb dX12_bell_22 rfl (lv_at hl 0 rfl) ?_
      refine lv_iload_n (pc := 23) hx hb dX12_bell_23 rfl (lv_at hl 1 rfl) ?_
      refine lv_aload_n (pc := 24) hx hb dX12_bell_24 rfl (lv_at hl 0 rfl) ?_
      refine sx_getR (pc := 25) (j := 24) B hH hk_th coX12 rfl w_1328 rfl dX12_bell_25 ?_
      refine W.eq (g2 := F0 m 28 ls [va_rf (gR S th 24), .int p0, .ref th]) rfl ?_
      obtain ⟨a_7, ha_7, hp⟩ := hp
      refine sx_nonnull (x := a_7) ha_7 ?_
      refine sx_V (pc := 28) (As := [.int p0, .ref a_7]) (rest := []) B hH hl.1 (C_X12_laysRow G l th p0 a_7 _ _ hp) mi_X12_laysRow coX12 hk_th w_1657 w_76 w_1655 rfl rfl ⟨Nat.le_of_ble_eq_true rfl, Nat.le_of_ble_eq_true rfl⟩ (Nat.le_of_ble_eq_true rfl) ⟨Nat.le_of_ble_eq_true rfl, Nat.le_of_ble_eq_true rfl⟩ dX12_bell_28 (fun v S1 H locs hq hH => ?_)
      obtain ⟨F_8, rfl, e9, hp⟩ := hq
      rw [e9] at hH
      have hH : Hp G (FA S s.heap.size) s.heap (wI S F_8) H locs := hH
      refine W.eq (g2 := F0 m 31 ls []) rfl ?_
      refine lv_aload_n (pc := 31) hx hb dX12_bell_31 rfl (lv_at hl 0 rfl) ?_
      refine lv_aload_n (pc := 32) hx hb dX12_bell_32 rfl (lv_at hl 0 rfl) ?_
      refine sx_getR (pc := 33) (j := 24) B hH hk_th coX12 rfl w_1328 rfl dX12_bell_33 ?_
      refine W.eq (g2 := F0 m 36 ls [va_rf (gR S th 24), .ref th]) rfl ?_
      refine sx_nonnull (x := a_7) ha_7 ?_
      refine lv_iload_n (pc := 36) hx hb dX12_bell_36 rfl (lv_at hl 2 rfl) ?_
      refine lv_iconst (pc := 37) (v := 1) hx hb dX12_bell_37 (by decide) ?_
      refine lv_isub (pc := 38) hx hb dX12_bell_38 ?_
      obtain ⟨hk_9, hp⟩ := hp
      obtain ⟨hn_10, hp⟩ := hp
      refine sx_iald (pc := 39) B hH hk_9 hn_10 dX12_bell_39 ?_
      refine W.eq (g2 := F0 m 40 ls [.int (F_8 a_7 ((p1 - 1).toNatClampNeg)), .ref th]) rfl ?_
      refine lv_iconst (pc := 40) (v := 1) hx hb dX12_bell_40 (by decide) ?_
      refine lv_iadd (pc := 41) hx hb dX12_bell_41 ?_
      refine sx_V (pc := 42) (As := [.int ((F_8 a_7 ((p1 - 1).toNatClampNeg)) + 1)]) (rest := []) B hH hl.1 (C_X12_gives G l th ((F_8 a_7 ((p1 - 1).toNatClampNeg)) + 1) _ _ hp) mi_X12_gives coX12 hk_th w_1617 w_69 w_1615 rfl rfl ⟨Nat.le_of_ble_eq_true rfl, Nat.le_of_ble_eq_true rfl⟩ (Nat.le_of_ble_eq_true rfl) ⟨Nat.le_of_ble_eq_true rfl, Nat.le_of_ble_eq_true rfl⟩ dX12_bell_42 (fun v S1 H locs hq hH => ?_)
      obtain ⟨r_11, F_11, rfl, e9, hp⟩ := hq
      rw [e9] at hH
      have hH : Hp G (FA S s.heap.size) s.heap (wI S F_11) H locs := hH
      refine W.eq (g2 := F0 m 45 ls [.int r_11]) rfl ?_
      exact sx_iret (pc := 45) B hH hr hlk (by rw [← hQQ]; exact ⟨_, F_11, rfl, rfl, hp⟩) (Nat.le_of_ble_eq_true rfl) (Nat.le_of_ble_eq_true rfl) dX12_bell_45
    · have hp := hp.2 cc_6
      exact kj_3  _ _ _ hp hH (lv_sub hl [0] rfl)
theorem dX12_number_0 : decode cX12_number 0 = .ok (.iload_n 1, 1) := by decide +kernel
theorem dX12_number_1 : decode cX12_number 1 = .ok (.invokestatic 116, 3) := by decide +kernel
theorem dX12_number_4 : decode cX12_number 4 = .ok (.ifCond .ne 9, 3) := by decide +kernel
theorem dX12_number_7 : decode cX12_number 7 = .ok (.aload_n 0, 1) := by decide +kernel
theorem dX12_number_8 : decode cX12_number 8 = .ok (.iconst 1, 1) := by decide +kernel
theorem dX12_number_9 : decode cX12_number 9 = .ok (.invokevirtual 105, 3) := by decide +kernel
theorem dX12_number_12 : decode cX12_number 12 = .ok (.ireturn, 1) := by decide +kernel
theorem dX12_number_13 : decode cX12_number 13 = .ok (.aload_n 0, 1) := by decide +kernel
theorem dX12_number_14 : decode cX12_number 14 = .ok (.getfield 24, 3) := by decide +kernel
theorem dX12_number_17 : decode cX12_number 17 = .ok (.iload_n 1, 1) := by decide +kernel
theorem dX12_number_18 : decode cX12_number 18 = .ok (.iaload, 1) := by decide +kernel
theorem dX12_number_19 : decode cX12_number 19 = .ok (.iconst (-1), 1) := by decide +kernel
theorem dX12_number_20 : decode cX12_number 20 = .ok (.if_icmp .ne 9, 3) := by decide +kernel
theorem dX12_number_23 : decode cX12_number 23 = .ok (.aload_n 0, 1) := by decide +kernel
theorem dX12_number_24 : decode cX12_number 24 = .ok (.iconst 2, 1) := by decide +kernel
theorem dX12_number_25 : decode cX12_number 25 = .ok (.invokevirtual 105, 3) := by decide +kernel
theorem dX12_number_28 : decode cX12_number 28 = .ok (.ireturn, 1) := by decide +kernel
theorem dX12_number_29 : decode cX12_number 29 = .ok (.aload_n 0, 1) := by decide +kernel
theorem dX12_number_30 : decode cX12_number 30 = .ok (.getfield 24, 3) := by decide +kernel
theorem dX12_number_33 : decode cX12_number 33 = .ok (.iload_n 1, 1) := by decide +kernel
theorem dX12_number_34 : decode cX12_number 34 = .ok (.iaload, 1) := by decide +kernel
theorem dX12_number_35 : decode cX12_number 35 = .ok (.aload_n 0, 1) := by decide +kernel
theorem dX12_number_36 : decode cX12_number 36 = .ok (.getfield 7, 3) := by decide +kernel
theorem dX12_number_39 : decode cX12_number 39 = .ok (.iconst 0, 1) := by decide +kernel
theorem dX12_number_40 : decode cX12_number 40 = .ok (.iaload, 1) := by decide +kernel
theorem dX12_number_41 : decode cX12_number 41 = .ok (.if_icmp .ge 9, 3) := by decide +kernel
theorem dX12_number_44 : decode cX12_number 44 = .ok (.aload_n 0, 1) := by decide +kernel
theorem dX12_number_45 : decode cX12_number 45 = .ok (.iconst 3, 1) := by decide +kernel
theorem dX12_number_46 : decode cX12_number 46 = .ok (.invokevirtual 105, 3) := by decide +kernel
theorem dX12_number_49 : decode cX12_number 49 = .ok (.ireturn, 1) := by decide +kernel
theorem dX12_number_50 : decode cX12_number 50 = .ok (.iconst 0, 1) := by decide +kernel
theorem dX12_number_51 : decode cX12_number 51 = .ok (.istore_n 2, 1) := by decide +kernel
theorem dX12_number_52 : decode cX12_number 52 = .ok (.iconst 0, 1) := by decide +kernel
theorem dX12_number_53 : decode cX12_number 53 = .ok (.istore_n 3, 1) := by decide +kernel
theorem dX12_number_54 : decode cX12_number 54 = .ok (.iload_n 3, 1) := by decide +kernel
theorem dX12_number_55 : decode cX12_number 55 = .ok (.aload_n 0, 1) := by decide +kernel
theorem dX12_number_56 : decode cX12_number 56 = .ok (.getfield 7, 3) := by decide +kernel
theorem dX12_number_59 : decode cX12_number 59 = .ok (.iconst 0, 1) := by decide +kernel
theorem dX12_number_60 : decode cX12_number 60 = .ok (.iaload, 1) := by decide +kernel
theorem dX12_number_61 : decode cX12_number 61 = .ok (.if_icmp .ge 74, 3) := by decide +kernel
theorem dX12_number_64 : decode cX12_number 64 = .ok (.aload_n 0, 1) := by decide +kernel
theorem dX12_number_65 : decode cX12_number 65 = .ok (.getfield 27, 3) := by decide +kernel
theorem dX12_number_68 : decode cX12_number 68 = .ok (.bipush 60, 2) := by decide +kernel
theorem dX12_number_70 : decode cX12_number 70 = .ok (.iload_n 1, 1) := by decide +kernel
theorem dX12_number_71 : decode cX12_number 71 = .ok (.imul, 1) := by decide +kernel
theorem dX12_number_72 : decode cX12_number 72 = .ok (.iload_n 3, 1) := by decide +kernel
theorem dX12_number_73 : decode cX12_number 73 = .ok (.iadd, 1) := by decide +kernel
theorem dX12_number_74 : decode cX12_number 74 = .ok (.laload, 1) := by decide +kernel
theorem dX12_number_75 : decode cX12_number 75 = .ok (.lstore 4, 2) := by decide +kernel
theorem dX12_number_77 : decode cX12_number 77 = .ok (.lload 4, 2) := by decide +kernel
theorem dX12_number_79 : decode cX12_number 79 = .ok (.lconst 1, 1) := by decide +kernel
theorem dX12_number_80 : decode cX12_number 80 = .ok (.aload_n 0, 1) := by decide +kernel
theorem dX12_number_81 : decode cX12_number 81 = .ok (.getfield 7, 3) := by decide +kernel
theorem dX12_number_84 : decode cX12_number 84 = .ok (.iconst 0, 1) := by decide +kernel
theorem dX12_number_85 : decode cX12_number 85 = .ok (.iaload, 1) := by decide +kernel
theorem dX12_number_86 : decode cX12_number 86 = .ok (.i2l, 1) := by decide +kernel
theorem dX12_number_87 : decode cX12_number 87 = .ok (.invokestatic 283, 3) := by decide +kernel
theorem dX12_number_90 : decode cX12_number 90 = .ok (.ifCond .eq 14, 3) := by decide +kernel
theorem dX12_number_93 : decode cX12_number 93 = .ok (.iload_n 2, 1) := by decide +kernel
theorem dX12_number_94 : decode cX12_number 94 = .ok (.lload 4, 2) := by decide +kernel
theorem dX12_number_96 : decode cX12_number 96 = .ok (.l2i, 1) := by decide +kernel
theorem dX12_number_97 : decode cX12_number 97 = .ok (.ishr, 1) := by decide +kernel
theorem dX12_number_98 : decode cX12_number 98 = .ok (.iconst 1, 1) := by decide +kernel
theorem dX12_number_99 : decode cX12_number 99 = .ok (.iand, 1) := by decide +kernel
theorem dX12_number_100 : decode cX12_number 100 = .ok (.iconst 1, 1) := by decide +kernel
theorem dX12_number_101 : decode cX12_number 101 = .ok (.if_icmp .ne 9, 3) := by decide +kernel
theorem dX12_number_104 : decode cX12_number 104 = .ok (.aload_n 0, 1) := by decide +kernel
theorem dX12_number_105 : decode cX12_number 105 = .ok (.iconst 5, 1) := by decide +kernel
theorem dX12_number_106 : decode cX12_number 106 = .ok (.invokevirtual 105, 3) := by decide +kernel
theorem dX12_number_109 : decode cX12_number 109 = .ok (.ireturn, 1) := by decide +kernel
theorem dX12_number_110 : decode cX12_number 110 = .ok (.iload_n 2, 1) := by decide +kernel
theorem dX12_number_111 : decode cX12_number 111 = .ok (.iconst 1, 1) := by decide +kernel
theorem dX12_number_112 : decode cX12_number 112 = .ok (.lload 4, 2) := by decide +kernel
theorem dX12_number_114 : decode cX12_number 114 = .ok (.l2i, 1) := by decide +kernel
theorem dX12_number_115 : decode cX12_number 115 = .ok (.ishl, 1) := by decide +kernel
theorem dX12_number_116 : decode cX12_number 116 = .ok (.ior, 1) := by decide +kernel
theorem dX12_number_117 : decode cX12_number 117 = .ok (.istore_n 2, 1) := by decide +kernel
theorem dX12_number_118 : decode cX12_number 118 = .ok (.aload_n 0, 1) := by decide +kernel
theorem dX12_number_119 : decode cX12_number 119 = .ok (.getfield 53, 3) := by decide +kernel
theorem dX12_number_122 : decode cX12_number 122 = .ok (.iload_n 3, 1) := by decide +kernel
theorem dX12_number_123 : decode cX12_number 123 = .ok (.lload 4, 2) := by decide +kernel
theorem dX12_number_125 : decode cX12_number 125 = .ok (.l2i, 1) := by decide +kernel
theorem dX12_number_126 : decode cX12_number 126 = .ok (.iconst 1, 1) := by decide +kernel
theorem dX12_number_127 : decode cX12_number 127 = .ok (.isub, 1) := by decide +kernel
theorem dX12_number_128 : decode cX12_number 128 = .ok (.iastore, 1) := by decide +kernel
theorem dX12_number_129 : decode cX12_number 129 = .ok (.iinc 3 1, 3) := by decide +kernel
theorem dX12_number_132 : decode cX12_number 132 = .ok (.goto (-78), 3) := by decide +kernel
theorem dX12_number_135 : decode cX12_number 135 = .ok (.aload_n 0, 1) := by decide +kernel
theorem dX12_number_136 : decode cX12_number 136 = .ok (.aload_n 0, 1) := by decide +kernel
theorem dX12_number_137 : decode cX12_number 137 = .ok (.aload_n 0, 1) := by decide +kernel
theorem dX12_number_138 : decode cX12_number 138 = .ok (.getfield 53, 3) := by decide +kernel
theorem dX12_number_141 : decode cX12_number 141 = .ok (.invokevirtual 270, 3) := by decide +kernel
theorem dX12_number_144 : decode cX12_number 144 = .ok (.invokevirtual 109, 3) := by decide +kernel
theorem dX12_number_147 : decode cX12_number 147 = .ok (.ireturn, 1) := by decide +kernel
theorem mi_X12_number : MI yX12_number cX12_number 6 (some FieldType.int) 1 := ⟨w_1662, w_118, by decide +kernel, by decide +kernel, by decide +kernel⟩
set_option maxRecDepth 100000 in
set_option maxHeartbeats 4000000 in
theorem C_X12_number (G : GG) (l : Launch) (th : Nat) (p0 : Int32) (S : St) (Q : Int32 → (Nat → Nat → Int32) → Prop) (hp : P_X12_number th p0 S Q) : Ctr G l yX12_number cX12_number 6 (some FieldType.int) 1 26 0 0 [.ref th, .int p0] S (fun (v : Option Value) (S9 : St) => ∃ (r : Int32) (I9 : Nat → Nat → Int32), v = some (.int r) ∧ S9 = wI S I9 ∧ Q r I9) := by
  generalize hQQ : (fun (v : Option Value) (S9 : St) => ∃ (r : Int32) (I9 : Nat → Nat → Int32), v = some (.int r) ∧ S9 = wI S I9 ∧ Q r I9) = QQ
  unfold P_X12_number at hp
  refine Ctr.of (by decide) (Nat.le_of_ble_eq_true rfl) ?_
  intro p e s m args below meth c ls B hr hlk hin hl hH
  generalize hlocs0 : ([] : List Loc) = locs at hH ⊢
  have hx := B.1
  have hb := B.2.1
  have hl : lv_has ls 6 [(0, .ref th), (1, .int p0)] := hl
  obtain ⟨hk_th, hp⟩ := hp
  refine lv_iload_n (pc := 0) hx hb dX12_number_0 rfl (lv_at hl 1 rfl) ?_
  refine sx_S (pc := 1) (As := [.int p0]) (rest := []) B hH hl.1 (C_X12_isTray G l p0 _ _ hp) mi_X12_isTray w_1475 w_1474 rfl rfl ⟨Nat.le_of_ble_eq_true rfl, Nat.le_of_ble_eq_true rfl⟩ (Nat.le_of_ble_eq_true rfl) ⟨Nat.le_of_ble_eq_true rfl, Nat.le_of_ble_eq_true rfl⟩ dX12_number_1 (fun v S1 H locs hq hH => ?_)
  obtain ⟨r_1, rfl, e9, hp⟩ := hq
  rw [e9] at hH
  refine W.eq (g2 := F0 m 4 ls [.int r_1]) rfl ?_
  refine lv_if_ne (pc := 4) (tgt := 13) hx hb dX12_number_4 (by decide) (fun cc_2 => ?_) (fun cc_2 => ?_)
  · have hp := hp.1 cc_2
    refine lv_aload_n (pc := 13) hx hb dX12_number_13 rfl (lv_at hl 0 rfl) ?_
    refine sx_getR (pc := 14) (j := 6) B hH hk_th coX12 rfl w_1310 rfl dX12_number_14 ?_
    refine W.eq (g2 := F0 m 17 ls [va_rf (gR S th 6)]) rfl ?_
    obtain ⟨a_3, ha_3, hp⟩ := hp
    refine sx_nonnull (x := a_3) ha_3 ?_
    refine lv_iload_n (pc := 17) hx hb dX12_number_17 rfl (lv_at hl 1 rfl) ?_
    obtain ⟨hk_4, hp⟩ := hp
    obtain ⟨hn_5, hp⟩ := hp
    refine sx_iald (pc := 18) B hH hk_4 hn_5 dX12_number_18 ?_
    refine W.eq (g2 := F0 m 19 ls [.int (gI S a_3 p0.toNatClampNeg)]) rfl ?_
    refine lv_iconst (pc := 19) (v := (-1)) hx hb dX12_number_19 (by decide) ?_
    refine lv_icmp_ne (pc := 20) (tgt := 29) hx hb dX12_number_20 (by decide) (fun cc_6 => ?_) (fun cc_6 => ?_)
    · have hp := hp.1 cc_6
      refine lv_aload_n (pc := 29) hx hb dX12_number_29 rfl (lv_at hl 0 rfl) ?_
      refine sx_getR (pc := 30) (j := 6) B hH hk_th coX12 rfl w_1310 rfl dX12_number_30 ?_
      refine W.eq (g2 := F0 m 33 ls [va_rf (gR S th 6)]) rfl ?_
      refine sx_nonnull (x := a_3) ha_3 ?_
      refine lv_iload_n (pc := 33) hx hb dX12_number_33 rfl (lv_at hl 1 rfl) ?_
      refine sx_iald (pc := 34) B hH hk_4 hn_5 dX12_number_34 ?_
      refine W.eq (g2 := F0 m 35 ls [.int (gI S a_3 p0.toNatClampNeg)]) rfl ?_
      refine lv_aload_n (pc := 35) hx hb dX12_number_35 rfl (lv_at hl 0 rfl) ?_
      refine sx_getR (pc := 36) (j := 0) B hH hk_th coX12 rfl w_1304 rfl dX12_number_36 ?_
      refine W.eq (g2 := F0 m 39 ls [va_rf (gR S th 0), .int (gI S a_3 p0.toNatClampNeg)]) rfl ?_
      obtain ⟨a_7, ha_7, hp⟩ := hp
      refine sx_nonnull (x := a_7) ha_7 ?_
      refine lv_iconst (pc := 39) (v := 0) hx hb dX12_number_39 (by decide) ?_
      obtain ⟨hk_8, hp⟩ := hp
      obtain ⟨hn_9, hp⟩ := hp
      refine sx_iald (pc := 40) B hH hk_8 hn_9 dX12_number_40 ?_
      refine W.eq (g2 := F0 m 41 ls [.int (gI S a_7 0), .int (gI S a_3 p0.toNatClampNeg)]) rfl ?_
      refine lv_icmp_ge (pc := 41) (tgt := 50) hx hb dX12_number_41 (by decide) (fun cc_10 => ?_) (fun cc_10 => ?_)
      · have hp := hp.1 cc_10
        refine lv_iconst (pc := 50) (v := 0) hx hb dX12_number_50 (by decide) ?_
        refine lv_istore_n (pc := 51) (lv' := [(2, .int 0), (0, .ref th), (1, .int p0)]) hx hb dX12_number_51 rfl hl (by decide) rfl (fun ls hl => ?_)
        refine lv_iconst (pc := 52) (v := 0) hx hb dX12_number_52 (by decide) ?_
        refine lv_istore_n (pc := 53) (lv' := [(3, .int 0), (2, .int 0), (0, .ref th), (1, .int p0)]) hx hb dX12_number_53 rfl hl (by decide) rfl (fun ls hl => ?_)
        obtain ⟨I_11, ⟨k0_11, h0_11⟩, hst_11⟩ := hp
        have kl_11 : ∀ (n_11 : Nat) (x2_12 : Int32) (x3_13 : Int32) (F_14 : Nat → Nat → Int32) (H : Heap) (locs : List Loc) (ls : Array Slot), I_11 n_11 x2_12 x3_13 F_14 → Hp G (FA S s.heap.size) s.heap (wI S F_14) H locs → lv_has ls 6 [(0, .ref th), (1, .int p0), (2, .int x2_12), (3, .int x3_13)] → Wm G p l e { frames := 1, cells := 0, slots := 0, locals := 26 } s m args below meth c S QQ 0 0 H locs 0 0 (F0 m 54 ls []) := by
          intro n_11
          induction n_11 using Nat.strongRecOn with
          | ind n_11 ih_11 =>
            intro x2_12 x3_13 F_14 H locs ls hq9 hH hl
            have hp := hst_11 n_11 x2_12 x3_13 F_14 hq9
            refine lv_iload_n (pc := 54) hx hb dX12_number_54 rfl (lv_at hl 3 rfl) ?_
            refine lv_aload_n (pc := 55) hx hb dX12_number_55 rfl (lv_at hl 0 rfl) ?_
            refine sx_getR (pc := 56) (j := 0) B hH hk_th coX12 rfl w_1304 rfl dX12_number_56 ?_
            refine W.eq (g2 := F0 m 59 ls [va_rf (gR S th 0), .int x3_13]) rfl ?_
            refine sx_nonnull (x := a_7) ha_7 ?_
            refine lv_iconst (pc := 59) (v := 0) hx hb dX12_number_59 (by decide) ?_
            refine sx_iald (pc := 60) B hH hk_8 hn_9 dX12_number_60 ?_
            refine W.eq (g2 := F0 m 61 ls [.int (F_14 a_7 0), .int x3_13]) rfl ?_
            refine lv_icmp_ge (pc := 61) (tgt := 135) hx hb dX12_number_61 (by decide) (fun cc_15 => ?_) (fun cc_15 => ?_)
            · have hp := hp.1 cc_15
              refine lv_aload_n (pc := 135) hx hb dX12_number_135 rfl (lv_at hl 0 rfl) ?_
              refine lv_aload_n (pc := 136) hx hb dX12_number_136 rfl (lv_at hl 0 rfl) ?_
              refine lv_aload_n (pc := 137) hx hb dX12_number_137 rfl (lv_at hl 0 rfl) ?_
              refine sx_getR (pc := 138) (j := 25) B hH hk_th coX12 rfl w_1329 rfl dX12_number_138 ?_
              refine W.eq (g2 := F0 m 141 ls [va_rf (gR S th 25), .ref th, .ref th]) rfl ?_
              obtain ⟨a_16, ha_16, hp⟩ := hp
              refine sx_nonnull (x := a_16) ha_16 ?_
              refine sx_V (pc := 141) (As := [.ref a_16]) (rest := [.ref th]) B hH hl.1 (C_X12_numberOf G l th a_16 _ _ hp) mi_X12_numberOf coX12 hk_th w_1668 w_77 w_1666 rfl rfl ⟨Nat.le_of_ble_eq_true rfl, Nat.le_of_ble_eq_true rfl⟩ (Nat.le_of_ble_eq_true rfl) ⟨Nat.le_of_ble_eq_true rfl, Nat.le_of_ble_eq_true rfl⟩ dX12_number_141 (fun v S1 H locs hq hH => ?_)
              obtain ⟨r_17, rfl, e9, hp⟩ := hq
              rw [e9] at hH
              refine W.eq (g2 := F0 m 144 ls [.int r_17, .ref th]) rfl ?_
              refine sx_V (pc := 144) (As := [.int r_17]) (rest := []) B hH hl.1 (C_X12_gives G l th r_17 _ _ hp) mi_X12_gives coX12 hk_th w_1617 w_69 w_1615 rfl rfl ⟨Nat.le_of_ble_eq_true rfl, Nat.le_of_ble_eq_true rfl⟩ (Nat.le_of_ble_eq_true rfl) ⟨Nat.le_of_ble_eq_true rfl, Nat.le_of_ble_eq_true rfl⟩ dX12_number_144 (fun v S1 H locs hq hH => ?_)
              obtain ⟨r_18, F_18, rfl, e9, hp⟩ := hq
              rw [e9] at hH
              have hH : Hp G (FA S s.heap.size) s.heap (wI S F_18) H locs := hH
              refine W.eq (g2 := F0 m 147 ls [.int r_18]) rfl ?_
              exact sx_iret (pc := 147) B hH hr hlk (by rw [← hQQ]; exact ⟨_, F_18, rfl, rfl, hp⟩) (Nat.le_of_ble_eq_true rfl) (Nat.le_of_ble_eq_true rfl) dX12_number_147
            · have hp := hp.2 cc_15
              refine lv_aload_n (pc := 64) hx hb dX12_number_64 rfl (lv_at hl 0 rfl) ?_
              refine sx_getR (pc := 65) (j := 7) B hH hk_th coX12 rfl w_1311 rfl dX12_number_65 ?_
              refine W.eq (g2 := F0 m 68 ls [va_rf (gR S th 7)]) rfl ?_
              obtain ⟨a_19, ha_19, hp⟩ := hp
              refine sx_nonnull (x := a_19) ha_19 ?_
              refine lv_bipush (pc := 68) (v := 60) hx hb dX12_number_68 (by decide) ?_
              refine lv_iload_n (pc := 70) hx hb dX12_number_70 rfl (lv_at hl 1 rfl) ?_
              refine lv_imul (pc := 71) hx hb dX12_number_71 ?_
              refine lv_iload_n (pc := 72) hx hb dX12_number_72 rfl (lv_at hl 3 rfl) ?_
              refine lv_iadd (pc := 73) hx hb dX12_number_73 ?_
              obtain ⟨hk_20, hp⟩ := hp
              obtain ⟨hn_21, hp⟩ := hp
              refine sx_lald (pc := 74) B hH hk_20 hn_21 dX12_number_74 ?_
              refine W.eq (g2 := F0 m 75 ls [.long (gJ S a_19 (((60 * p0) + x3_13).toNatClampNeg))]) rfl ?_
              refine lv_topl (fun v_22 ev_22 => ?_)
              have hp := hp v_22 ev_22
              refine lv_lstore (pc := 75) (lv' := [(4, .long v_22), (0, .ref th), (1, .int p0), (2, .int x2_12), (3, .int x3_13)]) hx hb dX12_number_75 hl (by decide) rfl (fun ls hl => ?_)
              refine lv_lload (pc := 77) hx hb dX12_number_77 (lv_at hl 0 rfl) ?_
              refine lv_lconst (pc := 79) (v := 1) hx hb dX12_number_79 (by decide) ?_
              refine lv_aload_n (pc := 80) hx hb dX12_number_80 rfl (lv_at hl 1 rfl) ?_
              refine sx_getR (pc := 81) (j := 0) B hH hk_th coX12 rfl w_1304 rfl dX12_number_81 ?_
              refine W.eq (g2 := F0 m 84 ls [va_rf (gR S th 0), .long 1, .long v_22]) rfl ?_
              refine sx_nonnull (x := a_7) ha_7 ?_
              refine lv_iconst (pc := 84) (v := 0) hx hb dX12_number_84 (by decide) ?_
              refine sx_iald (pc := 85) B hH hk_8 hn_9 dX12_number_85 ?_
              refine W.eq (g2 := F0 m 86 ls [.int (F_14 a_7 0), .long 1, .long v_22]) rfl ?_
              refine lv_i2l (pc := 86) (v := (F_14 a_7 0).toInt64) hx hb dX12_number_86 rfl ?_
              refine sx_S (pc := 87) (As := [.long v_22, .long 1, .long ((F_14 a_7 0).toInt64)]) (rest := []) B hH hl.1 (C_X12_isFrom G l v_22 1 ((F_14 a_7 0).toInt64) _ _ hp) mi_X12_isFrom w_1664 w_1663 rfl rfl ⟨Nat.le_of_ble_eq_true rfl, Nat.le_of_ble_eq_true rfl⟩ (Nat.le_of_ble_eq_true rfl) ⟨Nat.le_of_ble_eq_true rfl, Nat.le_of_ble_eq_true rfl⟩ dX12_number_87 (fun v S1 H locs hq hH => ?_)
              obtain ⟨r_23, rfl, e9, hp⟩ := hq
              rw [e9] at hH
              refine W.eq (g2 := F0 m 90 ls [.int r_23]) rfl ?_
              obtain ⟨J_25, hj_25, hp⟩ := hp
              have kj_25 : ∀  (H : Heap) (locs : List Loc) (ls : Array Slot), J_25  → Hp G (FA S s.heap.size) s.heap (wI S F_14) H locs → lv_has ls 6 [(0, .ref th)] → Wm G p l e { frames := 1, cells := 0, slots := 0, locals := 26 } s m args below meth c S QQ 0 0 H locs 0 0 (F0 m 104 ls []) := by
                intro  H locs ls hq9 hH hl
                have hp := hj_25  hq9
                refine lv_aload_n (pc := 104) hx hb dX12_number_104 rfl (lv_at hl 0 rfl) ?_
                refine lv_iconst (pc := 105) (v := 5) hx hb dX12_number_105 (by decide) ?_
                refine sx_V (pc := 106) (As := [.int 5]) (rest := []) B hH hl.1 (C_X12_refuse G l th 5 _ _ hp) mi_X12_refuse coX12 hk_th w_1539 w_51 w_1537 rfl rfl ⟨Nat.le_of_ble_eq_true rfl, Nat.le_of_ble_eq_true rfl⟩ (Nat.le_of_ble_eq_true rfl) ⟨Nat.le_of_ble_eq_true rfl, Nat.le_of_ble_eq_true rfl⟩ dX12_number_106 (fun v S1 H locs hq hH => ?_)
                obtain ⟨r_26, F_26, rfl, e9, hp⟩ := hq
                rw [e9] at hH
                have hH : Hp G (FA S s.heap.size) s.heap (wI S F_26) H locs := hH
                refine W.eq (g2 := F0 m 109 ls [.int r_26]) rfl ?_
                exact sx_iret (pc := 109) B hH hr hlk (by rw [← hQQ]; exact ⟨_, F_26, rfl, rfl, hp⟩) (Nat.le_of_ble_eq_true rfl) (Nat.le_of_ble_eq_true rfl) dX12_number_109
              refine lv_if_eq (pc := 90) (tgt := 104) hx hb dX12_number_90 (by decide) (fun cc_24 => ?_) (fun cc_24 => ?_)
              · have hp := hp.1 cc_24
                exact kj_25  _ _ _ hp hH (lv_sub hl [1] rfl)
              · have hp := hp.2 cc_24
                refine lv_iload_n (pc := 93) hx hb dX12_number_93 rfl (lv_at hl 3 rfl) ?_
                refine lv_lload (pc := 94) hx hb dX12_number_94 (lv_at hl 0 rfl) ?_
                refine lv_l2i (pc := 96) (v := v_22.toInt32) hx hb dX12_number_96 rfl ?_
                refine lv_ishr (pc := 97) hx hb dX12_number_97 ?_
                refine W.eq (g2 := F0 m 98 ls [.int (shr x2_12 v_22.toInt32)]) rfl ?_
                refine lv_iconst (pc := 98) (v := 1) hx hb dX12_number_98 (by decide) ?_
                refine lv_iand (pc := 99) hx hb dX12_number_99 ?_
                refine lv_iconst (pc := 100) (v := 1) hx hb dX12_number_100 (by decide) ?_
                refine lv_icmp_ne (pc := 101) (tgt := 110) hx hb dX12_number_101 (by decide) (fun cc_27 => ?_) (fun cc_27 => ?_)
                · have hp := hp.1 cc_27
                  refine lv_iload_n (pc := 110) hx hb dX12_number_110 rfl (lv_at hl 3 rfl) ?_
                  refine lv_iconst (pc := 111) (v := 1) hx hb dX12_number_111 (by decide) ?_
                  refine lv_lload (pc := 112) hx hb dX12_number_112 (lv_at hl 0 rfl) ?_
                  refine lv_l2i (pc := 114) (v := v_22.toInt32) hx hb dX12_number_114 rfl ?_
                  refine lv_ishl (pc := 115) hx hb dX12_number_115 ?_
                  refine W.eq (g2 := F0 m 116 ls [.int (shl 1 v_22.toInt32), .int x2_12]) rfl ?_
                  refine lv_ior (pc := 116) hx hb dX12_number_116 ?_
                  refine lv_topi (fun v_28 ev_28 => ?_)
                  have hp := hp v_28 ev_28
                  refine lv_istore_n (pc := 117) (lv' := [(2, .int v_28), (4, .long v_22), (0, .ref th), (1, .int p0), (3, .int x3_13)]) hx hb dX12_number_117 rfl hl (by decide) rfl (fun ls hl => ?_)
                  refine lv_aload_n (pc := 118) hx hb dX12_number_118 rfl (lv_at hl 2 rfl) ?_
                  refine sx_getR (pc := 119) (j := 25) B hH hk_th coX12 rfl w_1329 rfl dX12_number_119 ?_
                  refine W.eq (g2 := F0 m 122 ls [va_rf (gR S th 25)]) rfl ?_
                  obtain ⟨a_29, ha_29, hp⟩ := hp
                  refine sx_nonnull (x := a_29) ha_29 ?_
                  refine lv_iload_n (pc := 122) hx hb dX12_number_122 rfl (lv_at hl 4 rfl) ?_
                  refine lv_lload (pc := 123) hx hb dX12_number_123 (lv_at hl 1 rfl) ?_
                  refine lv_l2i (pc := 125) (v := v_22.toInt32) hx hb dX12_number_125 rfl ?_
                  refine lv_iconst (pc := 126) (v := 1) hx hb dX12_number_126 (by decide) ?_
                  refine lv_isub (pc := 127) hx hb dX12_number_127 ?_
                  obtain ⟨hk_30, hp⟩ := hp
                  obtain ⟨hn_31, hp⟩ := hp
                  refine lv_topi (fun v_32 ev_32 => ?_)
                  have hp := hp v_32 ev_32
                  obtain ⟨F_33, eF_33⟩ : ∃ z : Nat → Nat → Int32, z = upI F_14 a_29 x3_13.toNatClampNeg v_32 := ⟨_, rfl⟩
                  have hp := hp F_33 eF_33
                  refine sx_iast (pc := 128) B hH hk_30 hn_31 dX12_number_128 (fun H locs hH => ?_)
                  have hH : Hp G (FA S s.heap.size) s.heap (wI S F_33) H locs := by rw [eF_33]; exact hH
                  obtain ⟨v_34, ev_34⟩ : ∃ y : Int32, y = x3_13 + 1 := ⟨_, rfl⟩
                  have hp := hp v_34 ev_34
                  refine lv_iinc (pc := 129) (v := v_34) (lv' := [(3, .int v_34), (2, .int v_28), (4, .long v_22), (0, .ref th), (1, .int p0)]) hx hb dX12_number_129 hl (k := 4) rfl (by rw [ev_34]; rfl) (by decide) rfl (fun ls hl => ?_)
                  refine lv_goto (pc := 132) (tgt := 54) hx hb dX12_number_132 (by decide) ?_
                  obtain ⟨k9, hlt9, hp⟩ := hp
                  exact ih_11 k9 hlt9 _ _ _ _ _ _ hp hH (lv_sub hl [3, 4, 1, 0] rfl)
                · have hp := hp.2 cc_27
                  exact kj_25  _ _ _ hp hH (lv_sub hl [1] rfl)
        exact kl_11 k0_11 _ _ _ _ _ _ h0_11 hH (lv_sub hl [2, 3, 1, 0] rfl)
      · have hp := hp.2 cc_10
        refine lv_aload_n (pc := 44) hx hb dX12_number_44 rfl (lv_at hl 0 rfl) ?_
        refine lv_iconst (pc := 45) (v := 3) hx hb dX12_number_45 (by decide) ?_
        refine sx_V (pc := 46) (As := [.int 3]) (rest := []) B hH hl.1 (C_X12_refuse G l th 3 _ _ hp) mi_X12_refuse coX12 hk_th w_1539 w_51 w_1537 rfl rfl ⟨Nat.le_of_ble_eq_true rfl, Nat.le_of_ble_eq_true rfl⟩ (Nat.le_of_ble_eq_true rfl) ⟨Nat.le_of_ble_eq_true rfl, Nat.le_of_ble_eq_true rfl⟩ dX12_number_46 (fun v S1 H locs hq hH => ?_)
        obtain ⟨r_35, F_35, rfl, e9, hp⟩ := hq
        rw [e9] at hH
        have hH : Hp G (FA S s.heap.size) s.heap (wI S F_35) H locs := hH
        refine W.eq (g2 := F0 m 49 ls [.int r_35]) rfl ?_
        exact sx_iret (pc := 49) B hH hr hlk (by rw [← hQQ]; exact ⟨_, F_35, rfl, rfl, hp⟩) (Nat.le_of_ble_eq_true rfl) (Nat.le_of_ble_eq_true rfl) dX12_number_49
    · have hp := hp.2 cc_6
      refine lv_aload_n (pc := 23) hx hb dX12_number_23 rfl (lv_at hl 0 rfl) ?_
      refine lv_iconst (pc := 24) (v := 2) hx hb dX12_number_24 (by decide) ?_
      refine sx_V (pc := 25) (As := [.int 2]) (rest := []) B hH hl.1 (C_X12_refuse G l th 2 _ _ hp) mi_X12_refuse coX12 hk_th w_1539 w_51 w_1537 rfl rfl ⟨Nat.le_of_ble_eq_true rfl, Nat.le_of_ble_eq_true rfl⟩ (Nat.le_of_ble_eq_true rfl) ⟨Nat.le_of_ble_eq_true rfl, Nat.le_of_ble_eq_true rfl⟩ dX12_number_25 (fun v S1 H locs hq hH => ?_)
      obtain ⟨r_36, F_36, rfl, e9, hp⟩ := hq
      rw [e9] at hH
      have hH : Hp G (FA S s.heap.size) s.heap (wI S F_36) H locs := hH
      refine W.eq (g2 := F0 m 28 ls [.int r_36]) rfl ?_
      exact sx_iret (pc := 28) B hH hr hlk (by rw [← hQQ]; exact ⟨_, F_36, rfl, rfl, hp⟩) (Nat.le_of_ble_eq_true rfl) (Nat.le_of_ble_eq_true rfl) dX12_number_28
  · have hp := hp.2 cc_2
    refine lv_aload_n (pc := 7) hx hb dX12_number_7 rfl (lv_at hl 0 rfl) ?_
    refine lv_iconst (pc := 8) (v := 1) hx hb dX12_number_8 (by decide) ?_
    refine sx_V (pc := 9) (As := [.int 1]) (rest := []) B hH hl.1 (C_X12_refuse G l th 1 _ _ hp) mi_X12_refuse coX12 hk_th w_1539 w_51 w_1537 rfl rfl ⟨Nat.le_of_ble_eq_true rfl, Nat.le_of_ble_eq_true rfl⟩ (Nat.le_of_ble_eq_true rfl) ⟨Nat.le_of_ble_eq_true rfl, Nat.le_of_ble_eq_true rfl⟩ dX12_number_9 (fun v S1 H locs hq hH => ?_)
    obtain ⟨r_37, F_37, rfl, e9, hp⟩ := hq
    rw [e9] at hH
    have hH : Hp G (FA S s.heap.size) s.heap (wI S F_37) H locs := hH
    refine W.eq (g2 := F0 m 12 ls [.int r_37]) rfl ?_
    exact sx_iret (pc := 12) B hH hr hlk (by rw [← hQQ]; exact ⟨_, F_37, rfl, rfl, hp⟩) (Nat.le_of_ble_eq_true rfl) (Nat.le_of_ble_eq_true rfl) dX12_number_12
theorem dX12_product_0 : decode cX12_product 0 = .ok (.aload_n 0, 1) := by decide +kernel
theorem dX12_product_1 : decode cX12_product 1 = .ok (.iload_n 1, 1) := by decide +kernel
theorem dX12_product_2 : decode cX12_product 2 = .ok (.invokevirtual 277, 3) := by decide +kernel
theorem dX12_product_5 : decode cX12_product 5 = .ok (.ifCond .eq 24, 3) := by decide +kernel
theorem dX12_product_8 : decode cX12_product 8 = .ok (.aload_n 0, 1) := by decide +kernel
theorem dX12_product_9 : decode cX12_product 9 = .ok (.iload_n 2, 1) := by decide +kernel
theorem dX12_product_10 : decode cX12_product 10 = .ok (.invokevirtual 277, 3) := by decide +kernel
theorem dX12_product_13 : decode cX12_product 13 = .ok (.ifCond .eq 16, 3) := by decide +kernel
theorem dX12_product_16 : decode cX12_product 16 = .ok (.aload_n 0, 1) := by decide +kernel
theorem dX12_product_17 : decode cX12_product 17 = .ok (.aload_n 0, 1) := by decide +kernel
theorem dX12_product_18 : decode cX12_product 18 = .ok (.iload_n 1, 1) := by decide +kernel
theorem dX12_product_19 : decode cX12_product 19 = .ok (.iload_n 2, 1) := by decide +kernel
theorem dX12_product_20 : decode cX12_product 20 = .ok (.invokevirtual 287, 3) := by decide +kernel
theorem dX12_product_23 : decode cX12_product 23 = .ok (.invokevirtual 109, 3) := by decide +kernel
theorem dX12_product_26 : decode cX12_product 26 = .ok (.goto 8, 3) := by decide +kernel
theorem dX12_product_29 : decode cX12_product 29 = .ok (.aload_n 0, 1) := by decide +kernel
theorem dX12_product_30 : decode cX12_product 30 = .ok (.iconst 1, 1) := by decide +kernel
theorem dX12_product_31 : decode cX12_product 31 = .ok (.invokevirtual 105, 3) := by decide +kernel
theorem dX12_product_34 : decode cX12_product 34 = .ok (.ireturn, 1) := by decide +kernel
theorem mi_X12_product : MI yX12_product cX12_product 3 (some FieldType.int) 2 := ⟨w_1673, w_118, by decide +kernel, by decide +kernel, by decide +kernel⟩
set_option maxRecDepth 100000 in
set_option maxHeartbeats 4000000 in
theorem C_X12_product (G : GG) (l : Launch) (th : Nat) (p0 : Int32) (p1 : Int32) (S : St) (Q : Int32 → (Nat → Nat → Int32) → Prop) (hp : P_X12_product th p0 p1 S Q) : Ctr G l yX12_product cX12_product 3 (some FieldType.int) 3 74 0 0 [.ref th, .int p0, .int p1] S (fun (v : Option Value) (S9 : St) => ∃ (r : Int32) (I9 : Nat → Nat → Int32), v = some (.int r) ∧ S9 = wI S I9 ∧ Q r I9) := by
  generalize hQQ : (fun (v : Option Value) (S9 : St) => ∃ (r : Int32) (I9 : Nat → Nat → Int32), v = some (.int r) ∧ S9 = wI S I9 ∧ Q r I9) = QQ
  unfold P_X12_product at hp
  refine Ctr.of (by decide) (Nat.le_of_ble_eq_true rfl) ?_
  intro p e s m args below meth c ls B hr hlk hin hl hH
  generalize hlocs0 : ([] : List Loc) = locs at hH ⊢
  have hx := B.1
  have hb := B.2.1
  have hl : lv_has ls 3 [(0, .ref th), (1, .int p0), (2, .int p1)] := hl
  obtain ⟨hk_th, hp⟩ := hp
  refine lv_aload_n (pc := 0) hx hb dX12_product_0 rfl (lv_at hl 0 rfl) ?_
  refine lv_iload_n (pc := 1) hx hb dX12_product_1 rfl (lv_at hl 1 rfl) ?_
  refine sx_V (pc := 2) (As := [.int p0]) (rest := []) B hH hl.1 (C_X12_isRow G l th p0 _ _ hp) mi_X12_isRow coX12 hk_th w_1649 w_74 w_1647 rfl rfl ⟨Nat.le_of_ble_eq_true rfl, Nat.le_of_ble_eq_true rfl⟩ (Nat.le_of_ble_eq_true rfl) ⟨Nat.le_of_ble_eq_true rfl, Nat.le_of_ble_eq_true rfl⟩ dX12_product_2 (fun v S1 H locs hq hH => ?_)
  obtain ⟨r_1, rfl, e9, hp⟩ := hq
  rw [e9] at hH
  refine W.eq (g2 := F0 m 5 ls [.int r_1]) rfl ?_
  obtain ⟨J_3, hj_3, hp⟩ := hp
  have kj_3 : ∀  (H : Heap) (locs : List Loc) (ls : Array Slot), J_3  → Hp G (FA S s.heap.size) s.heap S H locs → lv_has ls 3 [(0, .ref th)] → Wm G p l e { frames := 3, cells := 0, slots := 0, locals := 74 } s m args below meth c S QQ 0 0 H locs 0 0 (F0 m 29 ls []) := by
    intro  H locs ls hq9 hH hl
    have hp := hj_3  hq9
    refine lv_aload_n (pc := 29) hx hb dX12_product_29 rfl (lv_at hl 0 rfl) ?_
    refine lv_iconst (pc := 30) (v := 1) hx hb dX12_product_30 (by decide) ?_
    refine sx_V (pc := 31) (As := [.int 1]) (rest := []) B hH hl.1 (C_X12_refuse G l th 1 _ _ hp) mi_X12_refuse coX12 hk_th w_1539 w_51 w_1537 rfl rfl ⟨Nat.le_of_ble_eq_true rfl, Nat.le_of_ble_eq_true rfl⟩ (Nat.le_of_ble_eq_true rfl) ⟨Nat.le_of_ble_eq_true rfl, Nat.le_of_ble_eq_true rfl⟩ dX12_product_31 (fun v S1 H locs hq hH => ?_)
    obtain ⟨r_4, F_4, rfl, e9, hp⟩ := hq
    rw [e9] at hH
    have hH : Hp G (FA S s.heap.size) s.heap (wI S F_4) H locs := hH
    refine W.eq (g2 := F0 m 34 ls [.int r_4]) rfl ?_
    exact sx_iret (pc := 34) B hH hr hlk (by rw [← hQQ]; exact ⟨_, F_4, rfl, rfl, hp⟩) (Nat.le_of_ble_eq_true rfl) (Nat.le_of_ble_eq_true rfl) dX12_product_34
  refine lv_if_eq (pc := 5) (tgt := 29) hx hb dX12_product_5 (by decide) (fun cc_2 => ?_) (fun cc_2 => ?_)
  · have hp := hp.1 cc_2
    exact kj_3  _ _ _ hp hH (lv_sub hl [0] rfl)
  · have hp := hp.2 cc_2
    refine lv_aload_n (pc := 8) hx hb dX12_product_8 rfl (lv_at hl 0 rfl) ?_
    refine lv_iload_n (pc := 9) hx hb dX12_product_9 rfl (lv_at hl 2 rfl) ?_
    refine sx_V (pc := 10) (As := [.int p1]) (rest := []) B hH hl.1 (C_X12_isRow G l th p1 _ _ hp) mi_X12_isRow coX12 hk_th w_1649 w_74 w_1647 rfl rfl ⟨Nat.le_of_ble_eq_true rfl, Nat.le_of_ble_eq_true rfl⟩ (Nat.le_of_ble_eq_true rfl) ⟨Nat.le_of_ble_eq_true rfl, Nat.le_of_ble_eq_true rfl⟩ dX12_product_10 (fun v S1 H locs hq hH => ?_)
    obtain ⟨r_5, rfl, e9, hp⟩ := hq
    rw [e9] at hH
    refine W.eq (g2 := F0 m 13 ls [.int r_5]) rfl ?_
    refine lv_if_eq (pc := 13) (tgt := 29) hx hb dX12_product_13 (by decide) (fun cc_6 => ?_) (fun cc_6 => ?_)
    · have hp := hp.1 cc_6
      exact kj_3  _ _ _ hp hH (lv_sub hl [0] rfl)
    · have hp := hp.2 cc_6
      refine lv_aload_n (pc := 16) hx hb dX12_product_16 rfl (lv_at hl 0 rfl) ?_
      refine lv_aload_n (pc := 17) hx hb dX12_product_17 rfl (lv_at hl 0 rfl) ?_
      refine lv_iload_n (pc := 18) hx hb dX12_product_18 rfl (lv_at hl 1 rfl) ?_
      refine lv_iload_n (pc := 19) hx hb dX12_product_19 rfl (lv_at hl 2 rfl) ?_
      refine sx_V (pc := 20) (As := [.int p0, .int p1]) (rest := [.ref th]) B hH hl.1 (C_X12_productOf G l th p0 p1 _ _ hp) mi_X12_productOf coX12 hk_th w_1676 w_78 w_1674 rfl rfl ⟨Nat.le_of_ble_eq_true rfl, Nat.le_of_ble_eq_true rfl⟩ (Nat.le_of_ble_eq_true rfl) ⟨Nat.le_of_ble_eq_true rfl, Nat.le_of_ble_eq_true rfl⟩ dX12_product_20 (fun v S1 H locs hq hH => ?_)
      obtain ⟨r_7, F_7, rfl, e9, hp⟩ := hq
      rw [e9] at hH
      have hH : Hp G (FA S s.heap.size) s.heap (wI S F_7) H locs := hH
      refine W.eq (g2 := F0 m 23 ls [.int r_7, .ref th]) rfl ?_
      refine sx_V (pc := 23) (As := [.int r_7]) (rest := []) B hH hl.1 (C_X12_gives G l th r_7 _ _ hp) mi_X12_gives coX12 hk_th w_1617 w_69 w_1615 rfl rfl ⟨Nat.le_of_ble_eq_true rfl, Nat.le_of_ble_eq_true rfl⟩ (Nat.le_of_ble_eq_true rfl) ⟨Nat.le_of_ble_eq_true rfl, Nat.le_of_ble_eq_true rfl⟩ dX12_product_23 (fun v S1 H locs hq hH => ?_)
      obtain ⟨r_8, F_8, rfl, e9, hp⟩ := hq
      rw [e9] at hH
      have hH : Hp G (FA S s.heap.size) s.heap (wI S F_8) H locs := hH
      refine W.eq (g2 := F0 m 26 ls [.int r_8]) rfl ?_
      refine lv_goto (pc := 26) (tgt := 34) hx hb dX12_product_26 (by decide) ?_
      exact sx_iret (pc := 34) B hH hr hlk (by rw [← hQQ]; exact ⟨_, F_8, rfl, rfl, hp⟩) (Nat.le_of_ble_eq_true rfl) (Nat.le_of_ble_eq_true rfl) dX12_product_34
theorem dX12_inverse_0 : decode cX12_inverse 0 = .ok (.aload_n 0, 1) := by decide +kernel
theorem dX12_inverse_1 : decode cX12_inverse 1 = .ok (.iload_n 1, 1) := by decide +kernel
theorem dX12_inverse_2 : decode cX12_inverse 2 = .ok (.invokevirtual 277, 3) := by decide +kernel
theorem dX12_inverse_5 : decode cX12_inverse 5 = .ok (.ifCond .eq 15, 3) := by decide +kernel
theorem dX12_inverse_8 : decode cX12_inverse 8 = .ok (.aload_n 0, 1) := by decide +kernel
theorem dX12_inverse_9 : decode cX12_inverse 9 = .ok (.aload_n 0, 1) := by decide +kernel
theorem dX12_inverse_10 : decode cX12_inverse 10 = .ok (.iload_n 1, 1) := by decide +kernel
theorem dX12_inverse_11 : decode cX12_inverse 11 = .ok (.invokevirtual 290, 3) := by decide +kernel
theorem dX12_inverse_14 : decode cX12_inverse 14 = .ok (.invokevirtual 109, 3) := by decide +kernel
theorem dX12_inverse_17 : decode cX12_inverse 17 = .ok (.goto 8, 3) := by decide +kernel
theorem dX12_inverse_20 : decode cX12_inverse 20 = .ok (.aload_n 0, 1) := by decide +kernel
theorem dX12_inverse_21 : decode cX12_inverse 21 = .ok (.iconst 1, 1) := by decide +kernel
theorem dX12_inverse_22 : decode cX12_inverse 22 = .ok (.invokevirtual 105, 3) := by decide +kernel
theorem dX12_inverse_25 : decode cX12_inverse 25 = .ok (.ireturn, 1) := by decide +kernel
theorem mi_X12_inverse : MI yX12_inverse cX12_inverse 2 (some FieldType.int) 1 := ⟨w_1681, w_118, by decide +kernel, by decide +kernel, by decide +kernel⟩
set_option maxRecDepth 100000 in
set_option maxHeartbeats 4000000 in
theorem C_X12_inverse (G : GG) (l : Launch) (th : Nat) (p0 : Int32) (S : St) (Q : Int32 → (Nat → Nat → Int32) → Prop) (hp : P_X12_inverse th p0 S Q) : Ctr G l yX12_inverse cX12_inverse 2 (some FieldType.int) 3 73 0 0 [.ref th, .int p0] S (fun (v : Option Value) (S9 : St) => ∃ (r : Int32) (I9 : Nat → Nat → Int32), v = some (.int r) ∧ S9 = wI S I9 ∧ Q r I9) := by
  generalize hQQ : (fun (v : Option Value) (S9 : St) => ∃ (r : Int32) (I9 : Nat → Nat → Int32), v = some (.int r) ∧ S9 = wI S I9 ∧ Q r I9) = QQ
  unfold P_X12_inverse at hp
  refine Ctr.of (by decide) (Nat.le_of_ble_eq_true rfl) ?_
  intro p e s m args below meth c ls B hr hlk hin hl hH
  generalize hlocs0 : ([] : List Loc) = locs at hH ⊢
  have hx := B.1
  have hb := B.2.1
  have hl : lv_has ls 2 [(0, .ref th), (1, .int p0)] := hl
  obtain ⟨hk_th, hp⟩ := hp
  refine lv_aload_n (pc := 0) hx hb dX12_inverse_0 rfl (lv_at hl 0 rfl) ?_
  refine lv_iload_n (pc := 1) hx hb dX12_inverse_1 rfl (lv_at hl 1 rfl) ?_
  refine sx_V (pc := 2) (As := [.int p0]) (rest := []) B hH hl.1 (C_X12_isRow G l th p0 _ _ hp) mi_X12_isRow coX12 hk_th w_1649 w_74 w_1647 rfl rfl ⟨Nat.le_of_ble_eq_true rfl, Nat.le_of_ble_eq_true rfl⟩ (Nat.le_of_ble_eq_true rfl) ⟨Nat.le_of_ble_eq_true rfl, Nat.le_of_ble_eq_true rfl⟩ dX12_inverse_2 (fun v S1 H locs hq hH => ?_)
  obtain ⟨r_1, rfl, e9, hp⟩ := hq
  rw [e9] at hH
  refine W.eq (g2 := F0 m 5 ls [.int r_1]) rfl ?_
  refine lv_if_eq (pc := 5) (tgt := 20) hx hb dX12_inverse_5 (by decide) (fun cc_2 => ?_) (fun cc_2 => ?_)
  · have hp := hp.1 cc_2
    refine lv_aload_n (pc := 20) hx hb dX12_inverse_20 rfl (lv_at hl 0 rfl) ?_
    refine lv_iconst (pc := 21) (v := 1) hx hb dX12_inverse_21 (by decide) ?_
    refine sx_V (pc := 22) (As := [.int 1]) (rest := []) B hH hl.1 (C_X12_refuse G l th 1 _ _ hp) mi_X12_refuse coX12 hk_th w_1539 w_51 w_1537 rfl rfl ⟨Nat.le_of_ble_eq_true rfl, Nat.le_of_ble_eq_true rfl⟩ (Nat.le_of_ble_eq_true rfl) ⟨Nat.le_of_ble_eq_true rfl, Nat.le_of_ble_eq_true rfl⟩ dX12_inverse_22 (fun v S1 H locs hq hH => ?_)
    obtain ⟨r_3, F_3, rfl, e9, hp⟩ := hq
    rw [e9] at hH
    have hH : Hp G (FA S s.heap.size) s.heap (wI S F_3) H locs := hH
    refine W.eq (g2 := F0 m 25 ls [.int r_3]) rfl ?_
    exact sx_iret (pc := 25) B hH hr hlk (by rw [← hQQ]; exact ⟨_, F_3, rfl, rfl, hp⟩) (Nat.le_of_ble_eq_true rfl) (Nat.le_of_ble_eq_true rfl) dX12_inverse_25
  · have hp := hp.2 cc_2
    refine lv_aload_n (pc := 8) hx hb dX12_inverse_8 rfl (lv_at hl 0 rfl) ?_
    refine lv_aload_n (pc := 9) hx hb dX12_inverse_9 rfl (lv_at hl 0 rfl) ?_
    refine lv_iload_n (pc := 10) hx hb dX12_inverse_10 rfl (lv_at hl 1 rfl) ?_
    refine sx_V (pc := 11) (As := [.int p0]) (rest := [.ref th]) B hH hl.1 (C_X12_inverseOf G l th p0 _ _ hp) mi_X12_inverseOf coX12 hk_th w_1684 w_79 w_1682 rfl rfl ⟨Nat.le_of_ble_eq_true rfl, Nat.le_of_ble_eq_true rfl⟩ (Nat.le_of_ble_eq_true rfl) ⟨Nat.le_of_ble_eq_true rfl, Nat.le_of_ble_eq_true rfl⟩ dX12_inverse_11 (fun v S1 H locs hq hH => ?_)
    obtain ⟨r_4, F_4, rfl, e9, hp⟩ := hq
    rw [e9] at hH
    have hH : Hp G (FA S s.heap.size) s.heap (wI S F_4) H locs := hH
    refine W.eq (g2 := F0 m 14 ls [.int r_4, .ref th]) rfl ?_
    refine sx_V (pc := 14) (As := [.int r_4]) (rest := []) B hH hl.1 (C_X12_gives G l th r_4 _ _ hp) mi_X12_gives coX12 hk_th w_1617 w_69 w_1615 rfl rfl ⟨Nat.le_of_ble_eq_true rfl, Nat.le_of_ble_eq_true rfl⟩ (Nat.le_of_ble_eq_true rfl) ⟨Nat.le_of_ble_eq_true rfl, Nat.le_of_ble_eq_true rfl⟩ dX12_inverse_14 (fun v S1 H locs hq hH => ?_)
    obtain ⟨r_5, F_5, rfl, e9, hp⟩ := hq
    rw [e9] at hH
    have hH : Hp G (FA S s.heap.size) s.heap (wI S F_5) H locs := hH
    refine W.eq (g2 := F0 m 17 ls [.int r_5]) rfl ?_
    refine lv_goto (pc := 17) (tgt := 25) hx hb dX12_inverse_17 (by decide) ?_
    exact sx_iret (pc := 25) B hH hr hlk (by rw [← hQQ]; exact ⟨_, F_5, rfl, rfl, hp⟩) (Nat.le_of_ble_eq_true rfl) (Nat.le_of_ble_eq_true rfl) dX12_inverse_25
theorem dX12_orderOf_0 : decode cX12_orderOf 0 = .ok (.iconst 1, 1) := by decide +kernel
theorem dX12_orderOf_1 : decode cX12_orderOf 1 = .ok (.istore_n 2, 1) := by decide +kernel
theorem dX12_orderOf_2 : decode cX12_orderOf 2 = .ok (.iload_n 1, 1) := by decide +kernel
theorem dX12_orderOf_3 : decode cX12_orderOf 3 = .ok (.istore_n 3, 1) := by decide +kernel
theorem dX12_orderOf_4 : decode cX12_orderOf 4 = .ok (.iload_n 3, 1) := by decide +kernel
theorem dX12_orderOf_5 : decode cX12_orderOf 5 = .ok (.ifCond .eq 16, 3) := by decide +kernel
theorem dX12_orderOf_8 : decode cX12_orderOf 8 = .ok (.aload_n 0, 1) := by decide +kernel
theorem dX12_orderOf_9 : decode cX12_orderOf 9 = .ok (.iload_n 3, 1) := by decide +kernel
theorem dX12_orderOf_10 : decode cX12_orderOf 10 = .ok (.iload_n 1, 1) := by decide +kernel
theorem dX12_orderOf_11 : decode cX12_orderOf 11 = .ok (.invokevirtual 287, 3) := by decide +kernel
theorem dX12_orderOf_14 : decode cX12_orderOf 14 = .ok (.istore_n 3, 1) := by decide +kernel
theorem dX12_orderOf_15 : decode cX12_orderOf 15 = .ok (.iinc 2 1, 3) := by decide +kernel
theorem dX12_orderOf_18 : decode cX12_orderOf 18 = .ok (.goto (-14), 3) := by decide +kernel
theorem dX12_orderOf_21 : decode cX12_orderOf 21 = .ok (.iload_n 2, 1) := by decide +kernel
theorem dX12_orderOf_22 : decode cX12_orderOf 22 = .ok (.ireturn, 1) := by decide +kernel
theorem mi_X12_orderOf : MI yX12_orderOf cX12_orderOf 4 (some FieldType.int) 1 := ⟨w_1693, w_118, by decide +kernel, by decide +kernel, by decide +kernel⟩
set_option maxRecDepth 100000 in
set_option maxHeartbeats 4000000 in
theorem C_X12_orderOf (G : GG) (l : Launch) (th : Nat) (p0 : Int32) (S : St) (Q : Int32 → (Nat → Nat → Int32) → Prop) (hp : P_X12_orderOf th p0 S Q) : Ctr G l yX12_orderOf cX12_orderOf 4 (some FieldType.int) 3 74 0 0 [.ref th, .int p0] S (fun (v : Option Value) (S9 : St) => ∃ (r : Int32) (I9 : Nat → Nat → Int32), v = some (.int r) ∧ S9 = wI S I9 ∧ Q r I9) := by
  generalize hQQ : (fun (v : Option Value) (S9 : St) => ∃ (r : Int32) (I9 : Nat → Nat → Int32), v = some (.int r) ∧ S9 = wI S I9 ∧ Q r I9) = QQ
  unfold P_X12_orderOf at hp
  refine Ctr.of (by decide) (Nat.le_of_ble_eq_true rfl) ?_
  intro p e s m args below meth c ls B hr hlk hin hl hH
  generalize hlocs0 : ([] : List Loc) = locs at hH ⊢
  have hx := B.1
  have hb := B.2.1
  have hl : lv_has ls 4 [(0, .ref th), (1, .int p0)] := hl
  obtain ⟨hk_th, hp⟩ := hp
  refine lv_iconst (pc := 0) (v := 1) hx hb dX12_orderOf_0 (by decide) ?_
  refine lv_istore_n (pc := 1) (lv' := [(2, .int 1), (0, .ref th), (1, .int p0)]) hx hb dX12_orderOf_1 rfl hl (by decide) rfl (fun ls hl => ?_)
  refine lv_iload_n (pc := 2) hx hb dX12_orderOf_2 rfl (lv_at hl 2 rfl) ?_
  refine lv_istore_n (pc := 3) (lv' := [(3, .int p0), (2, .int 1), (0, .ref th), (1, .int p0)]) hx hb dX12_orderOf_3 rfl hl (by decide) rfl (fun ls hl => ?_)
  obtain ⟨I_1, ⟨k0_1, h0_1⟩, hst_1⟩ := hp
  have kl_1 : ∀ (n_1 : Nat) (x2_2 : Int32) (x3_3 : Int32) (F_4 : Nat → Nat → Int32) (H : Heap) (locs : List Loc) (ls : Array Slot), I_1 n_1 x2_2 x3_3 F_4 → Hp G (FA S s.heap.size) s.heap (wI S F_4) H locs → lv_has ls 4 [(0, .ref th), (1, .int p0), (2, .int x2_2), (3, .int x3_3)] → Wm G p l e { frames := 3, cells := 0, slots := 0, locals := 74 } s m args below meth c S QQ 0 0 H locs 0 0 (F0 m 4 ls []) := by
    intro n_1
    induction n_1 using Nat.strongRecOn with
    | ind n_1 ih_1 =>
      intro x2_2 x3_3 F_4 H locs ls hq9 hH hl
      have hp := hst_1 n_1 x2_2 x3_3 F_4 hq9
      refine lv_iload_n (pc := 4) hx hb dX12_orderOf_4 rfl (lv_at hl 3 rfl) ?_
      refine lv_if_eq (pc := 5) (tgt := 21) hx hb dX12_orderOf_5 (by decide) (fun cc_5 => ?_) (fun cc_5 => ?_)
      · have hp := hp.1 cc_5
        refine lv_iload_n (pc := 21) hx hb dX12_orderOf_21 rfl (lv_at hl 2 rfl) ?_
        exact sx_iret (pc := 22) B hH hr hlk (by rw [← hQQ]; exact ⟨_, F_4, rfl, rfl, hp⟩) (Nat.le_of_ble_eq_true rfl) (Nat.le_of_ble_eq_true rfl) dX12_orderOf_22
      · have hp := hp.2 cc_5
        refine lv_aload_n (pc := 8) hx hb dX12_orderOf_8 rfl (lv_at hl 0 rfl) ?_
        refine lv_iload_n (pc := 9) hx hb dX12_orderOf_9 rfl (lv_at hl 3 rfl) ?_
        refine lv_iload_n (pc := 10) hx hb dX12_orderOf_10 rfl (lv_at hl 1 rfl) ?_
        refine sx_V (pc := 11) (As := [.int x3_3, .int p0]) (rest := []) B hH hl.1 (C_X12_productOf G l th x3_3 p0 _ _ hp) mi_X12_productOf coX12 hk_th w_1676 w_78 w_1674 rfl rfl ⟨Nat.le_of_ble_eq_true rfl, Nat.le_of_ble_eq_true rfl⟩ (Nat.le_of_ble_eq_true rfl) ⟨Nat.le_of_ble_eq_true rfl, Nat.le_of_ble_eq_true rfl⟩ dX12_orderOf_11 (fun v S1 H locs hq hH => ?_)
        obtain ⟨r_6, F_6, rfl, e9, hp⟩ := hq
        rw [e9] at hH
        have hH : Hp G (FA S s.heap.size) s.heap (wI S F_6) H locs := hH
        refine W.eq (g2 := F0 m 14 ls [.int r_6]) rfl ?_
        refine lv_istore_n (pc := 14) (lv' := [(3, .int r_6), (0, .ref th), (1, .int p0), (2, .int x2_2)]) hx hb dX12_orderOf_14 rfl hl (by decide) rfl (fun ls hl => ?_)
        obtain ⟨v_7, ev_7⟩ : ∃ y : Int32, y = x2_2 + 1 := ⟨_, rfl⟩
        have hp := hp v_7 ev_7
        refine lv_iinc (pc := 15) (v := v_7) (lv' := [(2, .int v_7), (3, .int r_6), (0, .ref th), (1, .int p0)]) hx hb dX12_orderOf_15 hl (k := 3) rfl (by rw [ev_7]; rfl) (by decide) rfl (fun ls hl => ?_)
        refine lv_goto (pc := 18) (tgt := 4) hx hb dX12_orderOf_18 (by decide) ?_
        obtain ⟨k9, hlt9, hp⟩ := hp
        exact ih_1 k9 hlt9 _ _ _ _ _ _ hp hH (lv_sub hl [2, 3, 0, 1] rfl)
  exact kl_1 k0_1 _ _ _ _ _ _ h0_1 hH (lv_sub hl [2, 3, 1, 0] rfl)
