theorem dX12_ring_0 : decode cX12_ring 0 = .ok (.aload_n 0, 1) := by decide +kernel
theorem dX12_ring_1 : decode cX12_ring 1 = .ok (.getfield 7, 3) := by decide +kernel
theorem dX12_ring_4 : decode cX12_ring 4 = .ok (.iconst 4, 1) := by decide +kernel
theorem dX12_ring_5 : decode cX12_ring 5 = .ok (.iaload, 1) := by decide +kernel
theorem dX12_ring_6 : decode cX12_ring 6 = .ok (.iconst (-1), 1) := by decide +kernel
theorem dX12_ring_7 : decode cX12_ring 7 = .ok (.if_icmp .ne 10, 3) := by decide +kernel
theorem dX12_ring_10 : decode cX12_ring 10 = .ok (.aload_n 0, 1) := by decide +kernel
theorem dX12_ring_11 : decode cX12_ring 11 = .ok (.bipush 6, 2) := by decide +kernel
theorem dX12_ring_13 : decode cX12_ring 13 = .ok (.invokevirtual 105, 3) := by decide +kernel
theorem dX12_ring_16 : decode cX12_ring 16 = .ok (.ireturn, 1) := by decide +kernel
theorem dX12_ring_17 : decode cX12_ring 17 = .ok (.aload_n 0, 1) := by decide +kernel
theorem dX12_ring_18 : decode cX12_ring 18 = .ok (.iconst (-1), 1) := by decide +kernel
theorem dX12_ring_19 : decode cX12_ring 19 = .ok (.sipush 410, 3) := by decide +kernel
theorem dX12_ring_22 : decode cX12_ring 22 = .ok (.invokevirtual 358, 3) := by decide +kernel
theorem dX12_ring_25 : decode cX12_ring 25 = .ok (.aload_n 0, 1) := by decide +kernel
theorem dX12_ring_26 : decode cX12_ring 26 = .ok (.getfield 7, 3) := by decide +kernel
theorem dX12_ring_29 : decode cX12_ring 29 = .ok (.bipush 6, 2) := by decide +kernel
theorem dX12_ring_31 : decode cX12_ring 31 = .ok (.aload_n 0, 1) := by decide +kernel
theorem dX12_ring_32 : decode cX12_ring 32 = .ok (.getfield 343, 3) := by decide +kernel
theorem dX12_ring_35 : decode cX12_ring 35 = .ok (.iastore, 1) := by decide +kernel
theorem dX12_ring_36 : decode cX12_ring 36 = .ok (.aload_n 0, 1) := by decide +kernel
theorem dX12_ring_37 : decode cX12_ring 37 = .ok (.aload_n 0, 1) := by decide +kernel
theorem dX12_ring_38 : decode cX12_ring 38 = .ok (.getfield 343, 3) := by decide +kernel
theorem dX12_ring_41 : decode cX12_ring 41 = .ok (.invokevirtual 109, 3) := by decide +kernel
theorem dX12_ring_44 : decode cX12_ring 44 = .ok (.ireturn, 1) := by decide +kernel
theorem mi_X12_ring : MI yX12_ring cX12_ring 1 (some FieldType.int) 0 := ⟨w_1813, w_118, by decide +kernel, by decide +kernel, by decide +kernel⟩
set_option maxRecDepth 100000 in
set_option maxHeartbeats 4000000 in
theorem C_X12_ring (G : GG) (l : Launch) (th : Nat) (S : St) (Q : Int32 → (Nat → Nat → Int32) → Prop) (hp : P_X12_ring th S Q) : Ctr G l yX12_ring cX12_ring 1 (some FieldType.int) 4 97 0 0 [.ref th] S (fun (v : Option Value) (S9 : St) => ∃ (r : Int32) (I9 : Nat → Nat → Int32), v = some (.int r) ∧ S9 = wI S I9 ∧ Q r I9) := by
  generalize hQQ : (fun (v : Option Value) (S9 : St) => ∃ (r : Int32) (I9 : Nat → Nat → Int32), v = some (.int r) ∧ S9 = wI S I9 ∧ Q r I9) = QQ
  unfold P_X12_ring at hp
  refine Ctr.of (by decide) (Nat.le_of_ble_eq_true rfl) ?_
  intro p e s m args below meth c ls B hr hlk hin hl hH
  generalize hlocs0 : ([] : List Loc) = locs at hH ⊢
  have hx := B.1
  have hb := B.2.1
  have hl : lv_has ls 1 [(0, .ref th)] := hl
  obtain ⟨hk_th, hp⟩ := hp
  refine lv_aload_n (pc := 0) hx hb dX12_ring_0 rfl (lv_at hl 0 rfl) ?_
  refine sx_getR (pc := 1) (j := 0) B hH hk_th coX12 rfl w_1304 rfl dX12_ring_1 ?_
  refine W.eq (g2 := F0 m 4 ls [va_rf (gR S th 0)]) rfl ?_
  obtain ⟨a_1, ha_1, hp⟩ := hp
  refine sx_nonnull (x := a_1) ha_1 ?_
  refine lv_iconst (pc := 4) (v := 4) hx hb dX12_ring_4 (by decide) ?_
  obtain ⟨hk_2, hp⟩ := hp
  obtain ⟨hn_3, hp⟩ := hp
  refine sx_iald (pc := 5) B hH hk_2 hn_3 dX12_ring_5 ?_
  refine W.eq (g2 := F0 m 6 ls [.int (gI S a_1 4)]) rfl ?_
  refine lv_iconst (pc := 6) (v := (-1)) hx hb dX12_ring_6 (by decide) ?_
  refine lv_icmp_ne (pc := 7) (tgt := 17) hx hb dX12_ring_7 (by decide) (fun cc_4 => ?_) (fun cc_4 => ?_)
  · have hp := hp.1 cc_4
    refine lv_aload_n (pc := 17) hx hb dX12_ring_17 rfl (lv_at hl 0 rfl) ?_
    refine lv_iconst (pc := 18) (v := (-1)) hx hb dX12_ring_18 (by decide) ?_
    refine lv_sipush (pc := 19) (v := 410) hx hb dX12_ring_19 (by decide) ?_
    refine sx_V (pc := 22) (As := [.int (-1), .int 410]) (rest := []) B hH hl.1 (C_X12_ringsAll G l th (-1) 410 _ _ hp) mi_X12_ringsAll coX12 hk_th w_1816 w_92 w_1814 rfl rfl ⟨Nat.le_of_ble_eq_true rfl, Nat.le_of_ble_eq_true rfl⟩ (Nat.le_of_ble_eq_true rfl) ⟨Nat.le_of_ble_eq_true rfl, Nat.le_of_ble_eq_true rfl⟩ dX12_ring_22 (fun v S1 H locs hq hH => ?_)
    obtain ⟨F_5, rfl, e9, hp⟩ := hq
    rw [e9] at hH
    have hH : Hp G (FA S s.heap.size) s.heap (wI S F_5) H locs := hH
    refine W.eq (g2 := F0 m 25 ls []) rfl ?_
    refine lv_aload_n (pc := 25) hx hb dX12_ring_25 rfl (lv_at hl 0 rfl) ?_
    refine sx_getR (pc := 26) (j := 0) B hH hk_th coX12 rfl w_1304 rfl dX12_ring_26 ?_
    refine W.eq (g2 := F0 m 29 ls [va_rf (gR S th 0)]) rfl ?_
    refine sx_nonnull (x := a_1) ha_1 ?_
    refine lv_bipush (pc := 29) (v := 6) hx hb dX12_ring_29 (by decide) ?_
    refine lv_aload_n (pc := 31) hx hb dX12_ring_31 rfl (lv_at hl 0 rfl) ?_
    refine sx_getI (pc := 32) (j := 32) B hH hk_th coX12 rfl w_1336 rfl dX12_ring_32 ?_
    refine W.eq (g2 := F0 m 35 ls [.int (F_5 th 32), .int 6, .ref a_1]) rfl ?_
    obtain ⟨hn_6, hp⟩ := hp
    refine lv_topi (fun v_7 ev_7 => ?_)
    have hp := hp v_7 ev_7
    obtain ⟨F_8, eF_8⟩ : ∃ z : Nat → Nat → Int32, z = upI F_5 a_1 6 v_7 := ⟨_, rfl⟩
    have hp := hp F_8 eF_8
    refine sx_iast (pc := 35) B hH hk_2 hn_6 dX12_ring_35 (fun H locs hH => ?_)
    have hH : Hp G (FA S s.heap.size) s.heap (wI S F_8) H locs := by rw [eF_8]; exact hH
    refine lv_aload_n (pc := 36) hx hb dX12_ring_36 rfl (lv_at hl 0 rfl) ?_
    refine lv_aload_n (pc := 37) hx hb dX12_ring_37 rfl (lv_at hl 0 rfl) ?_
    refine sx_getI (pc := 38) (j := 32) B hH hk_th coX12 rfl w_1336 rfl dX12_ring_38 ?_
    refine W.eq (g2 := F0 m 41 ls [.int (F_8 th 32), .ref th]) rfl ?_
    refine sx_V (pc := 41) (As := [.int (F_8 th 32)]) (rest := []) B hH hl.1 (C_X12_gives G l th (F_8 th 32) _ _ hp) mi_X12_gives coX12 hk_th w_1617 w_69 w_1615 rfl rfl ⟨Nat.le_of_ble_eq_true rfl, Nat.le_of_ble_eq_true rfl⟩ (Nat.le_of_ble_eq_true rfl) ⟨Nat.le_of_ble_eq_true rfl, Nat.le_of_ble_eq_true rfl⟩ dX12_ring_41 (fun v S1 H locs hq hH => ?_)
    obtain ⟨r_9, F_9, rfl, e9, hp⟩ := hq
    rw [e9] at hH
    have hH : Hp G (FA S s.heap.size) s.heap (wI S F_9) H locs := hH
    refine W.eq (g2 := F0 m 44 ls [.int r_9]) rfl ?_
    exact sx_iret (pc := 44) B hH hr hlk (by rw [← hQQ]; exact ⟨_, F_9, rfl, rfl, hp⟩) (Nat.le_of_ble_eq_true rfl) (Nat.le_of_ble_eq_true rfl) dX12_ring_44
  · have hp := hp.2 cc_4
    refine lv_aload_n (pc := 10) hx hb dX12_ring_10 rfl (lv_at hl 0 rfl) ?_
    refine lv_bipush (pc := 11) (v := 6) hx hb dX12_ring_11 (by decide) ?_
    refine sx_V (pc := 13) (As := [.int 6]) (rest := []) B hH hl.1 (C_X12_refuse G l th 6 _ _ hp) mi_X12_refuse coX12 hk_th w_1539 w_51 w_1537 rfl rfl ⟨Nat.le_of_ble_eq_true rfl, Nat.le_of_ble_eq_true rfl⟩ (Nat.le_of_ble_eq_true rfl) ⟨Nat.le_of_ble_eq_true rfl, Nat.le_of_ble_eq_true rfl⟩ dX12_ring_13 (fun v S1 H locs hq hH => ?_)
    obtain ⟨r_10, F_10, rfl, e9, hp⟩ := hq
    rw [e9] at hH
    have hH : Hp G (FA S s.heap.size) s.heap (wI S F_10) H locs := hH
    refine W.eq (g2 := F0 m 16 ls [.int r_10]) rfl ?_
    exact sx_iret (pc := 16) B hH hr hlk (by rw [← hQQ]; exact ⟨_, F_10, rfl, rfl, hp⟩) (Nat.le_of_ble_eq_true rfl) (Nat.le_of_ble_eq_true rfl) dX12_ring_16
theorem dX12_rowAt_0 : decode cX12_rowAt 0 = .ok (.iload_n 1, 1) := by decide +kernel
theorem dX12_rowAt_1 : decode cX12_rowAt 1 = .ok (.ifCond .lt 25, 3) := by decide +kernel
theorem dX12_rowAt_4 : decode cX12_rowAt 4 = .ok (.aload_n 0, 1) := by decide +kernel
theorem dX12_rowAt_5 : decode cX12_rowAt 5 = .ok (.getfield 7, 3) := by decide +kernel
theorem dX12_rowAt_8 : decode cX12_rowAt 8 = .ok (.bipush 6, 2) := by decide +kernel
theorem dX12_rowAt_10 : decode cX12_rowAt 10 = .ok (.iaload, 1) := by decide +kernel
theorem dX12_rowAt_11 : decode cX12_rowAt 11 = .ok (.iconst (-1), 1) := by decide +kernel
theorem dX12_rowAt_12 : decode cX12_rowAt 12 = .ok (.if_icmp .eq 20, 3) := by decide +kernel
theorem dX12_rowAt_15 : decode cX12_rowAt 15 = .ok (.iload_n 1, 1) := by decide +kernel
theorem dX12_rowAt_16 : decode cX12_rowAt 16 = .ok (.aload_n 0, 1) := by decide +kernel
theorem dX12_rowAt_17 : decode cX12_rowAt 17 = .ok (.getfield 7, 3) := by decide +kernel
theorem dX12_rowAt_20 : decode cX12_rowAt 20 = .ok (.bipush 6, 2) := by decide +kernel
theorem dX12_rowAt_22 : decode cX12_rowAt 22 = .ok (.iaload, 1) := by decide +kernel
theorem dX12_rowAt_23 : decode cX12_rowAt 23 = .ok (.if_icmp .le 9, 3) := by decide +kernel
theorem dX12_rowAt_26 : decode cX12_rowAt 26 = .ok (.aload_n 0, 1) := by decide +kernel
theorem dX12_rowAt_27 : decode cX12_rowAt 27 = .ok (.iconst 1, 1) := by decide +kernel
theorem dX12_rowAt_28 : decode cX12_rowAt 28 = .ok (.invokevirtual 105, 3) := by decide +kernel
theorem dX12_rowAt_31 : decode cX12_rowAt 31 = .ok (.ireturn, 1) := by decide +kernel
theorem dX12_rowAt_32 : decode cX12_rowAt 32 = .ok (.aload_n 0, 1) := by decide +kernel
theorem dX12_rowAt_33 : decode cX12_rowAt 33 = .ok (.getfield 7, 3) := by decide +kernel
theorem dX12_rowAt_36 : decode cX12_rowAt 36 = .ok (.bipush 6, 2) := by decide +kernel
theorem dX12_rowAt_38 : decode cX12_rowAt 38 = .ok (.iaload, 1) := by decide +kernel
theorem dX12_rowAt_39 : decode cX12_rowAt 39 = .ok (.iconst (-1), 1) := by decide +kernel
theorem dX12_rowAt_40 : decode cX12_rowAt 40 = .ok (.if_icmp .ne 12, 3) := by decide +kernel
theorem dX12_rowAt_43 : decode cX12_rowAt 43 = .ok (.aload_n 0, 1) := by decide +kernel
theorem dX12_rowAt_44 : decode cX12_rowAt 44 = .ok (.bipush 6, 2) := by decide +kernel
theorem dX12_rowAt_46 : decode cX12_rowAt 46 = .ok (.invokevirtual 105, 3) := by decide +kernel
theorem dX12_rowAt_49 : decode cX12_rowAt 49 = .ok (.goto 17, 3) := by decide +kernel
theorem dX12_rowAt_52 : decode cX12_rowAt 52 = .ok (.aload_n 0, 1) := by decide +kernel
theorem dX12_rowAt_53 : decode cX12_rowAt 53 = .ok (.aload_n 0, 1) := by decide +kernel
theorem dX12_rowAt_54 : decode cX12_rowAt 54 = .ok (.getfield 7, 3) := by decide +kernel
theorem dX12_rowAt_57 : decode cX12_rowAt 57 = .ok (.sipush 410, 3) := by decide +kernel
theorem dX12_rowAt_60 : decode cX12_rowAt 60 = .ok (.iload_n 1, 1) := by decide +kernel
theorem dX12_rowAt_61 : decode cX12_rowAt 61 = .ok (.iadd, 1) := by decide +kernel
theorem dX12_rowAt_62 : decode cX12_rowAt 62 = .ok (.iaload, 1) := by decide +kernel
theorem dX12_rowAt_63 : decode cX12_rowAt 63 = .ok (.invokevirtual 109, 3) := by decide +kernel
theorem dX12_rowAt_66 : decode cX12_rowAt 66 = .ok (.ireturn, 1) := by decide +kernel
theorem mi_X12_rowAt : MI yX12_rowAt cX12_rowAt 2 (some FieldType.int) 1 := ⟨w_1834, w_118, by decide +kernel, by decide +kernel, by decide +kernel⟩
set_option maxRecDepth 100000 in
set_option maxHeartbeats 4000000 in
theorem C_X12_rowAt (G : GG) (l : Launch) (th : Nat) (p0 : Int32) (S : St) (Q : Int32 → (Nat → Nat → Int32) → Prop) (hp : P_X12_rowAt th p0 S Q) : Ctr G l yX12_rowAt cX12_rowAt 2 (some FieldType.int) 1 21 0 0 [.ref th, .int p0] S (fun (v : Option Value) (S9 : St) => ∃ (r : Int32) (I9 : Nat → Nat → Int32), v = some (.int r) ∧ S9 = wI S I9 ∧ Q r I9) := by
  generalize hQQ : (fun (v : Option Value) (S9 : St) => ∃ (r : Int32) (I9 : Nat → Nat → Int32), v = some (.int r) ∧ S9 = wI S I9 ∧ Q r I9) = QQ
  unfold P_X12_rowAt at hp
  refine Ctr.of (by decide) (Nat.le_of_ble_eq_true rfl) ?_
  intro p e s m args below meth c ls B hr hlk hin hl hH
  generalize hlocs0 : ([] : List Loc) = locs at hH ⊢
  have hx := B.1
  have hb := B.2.1
  have hl : lv_has ls 2 [(0, .ref th), (1, .int p0)] := hl
  obtain ⟨hk_th, hp⟩ := hp
  refine lv_iload_n (pc := 0) hx hb dX12_rowAt_0 rfl (lv_at hl 1 rfl) ?_
  obtain ⟨J_2, hj_2, hp⟩ := hp
  have kj_2 : ∀  (H : Heap) (locs : List Loc) (ls : Array Slot), J_2  → Hp G (FA S s.heap.size) s.heap S H locs → lv_has ls 2 [(0, .ref th)] → Wm G p l e { frames := 1, cells := 0, slots := 0, locals := 21 } s m args below meth c S QQ 0 0 H locs 0 0 (F0 m 26 ls []) := by
    intro  H locs ls hq9 hH hl
    have hp := hj_2  hq9
    refine lv_aload_n (pc := 26) hx hb dX12_rowAt_26 rfl (lv_at hl 0 rfl) ?_
    refine lv_iconst (pc := 27) (v := 1) hx hb dX12_rowAt_27 (by decide) ?_
    refine sx_V (pc := 28) (As := [.int 1]) (rest := []) B hH hl.1 (C_X12_refuse G l th 1 _ _ hp) mi_X12_refuse coX12 hk_th w_1539 w_51 w_1537 rfl rfl ⟨Nat.le_of_ble_eq_true rfl, Nat.le_of_ble_eq_true rfl⟩ (Nat.le_of_ble_eq_true rfl) ⟨Nat.le_of_ble_eq_true rfl, Nat.le_of_ble_eq_true rfl⟩ dX12_rowAt_28 (fun v S1 H locs hq hH => ?_)
    obtain ⟨r_3, F_3, rfl, e9, hp⟩ := hq
    rw [e9] at hH
    have hH : Hp G (FA S s.heap.size) s.heap (wI S F_3) H locs := hH
    refine W.eq (g2 := F0 m 31 ls [.int r_3]) rfl ?_
    exact sx_iret (pc := 31) B hH hr hlk (by rw [← hQQ]; exact ⟨_, F_3, rfl, rfl, hp⟩) (Nat.le_of_ble_eq_true rfl) (Nat.le_of_ble_eq_true rfl) dX12_rowAt_31
  refine lv_if_lt (pc := 1) (tgt := 26) hx hb dX12_rowAt_1 (by decide) (fun cc_1 => ?_) (fun cc_1 => ?_)
  · have hp := hp.1 cc_1
    exact kj_2  _ _ _ hp hH (lv_sub hl [0] rfl)
  · have hp := hp.2 cc_1
    refine lv_aload_n (pc := 4) hx hb dX12_rowAt_4 rfl (lv_at hl 0 rfl) ?_
    refine sx_getR (pc := 5) (j := 0) B hH hk_th coX12 rfl w_1304 rfl dX12_rowAt_5 ?_
    refine W.eq (g2 := F0 m 8 ls [va_rf (gR S th 0)]) rfl ?_
    obtain ⟨a_4, ha_4, hp⟩ := hp
    refine sx_nonnull (x := a_4) ha_4 ?_
    refine lv_bipush (pc := 8) (v := 6) hx hb dX12_rowAt_8 (by decide) ?_
    obtain ⟨hk_5, hp⟩ := hp
    obtain ⟨hn_6, hp⟩ := hp
    refine sx_iald (pc := 10) B hH hk_5 hn_6 dX12_rowAt_10 ?_
    refine W.eq (g2 := F0 m 11 ls [.int (gI S a_4 6)]) rfl ?_
    refine lv_iconst (pc := 11) (v := (-1)) hx hb dX12_rowAt_11 (by decide) ?_
    obtain ⟨J_8, hj_8, hp⟩ := hp
    have kj_8 : ∀  (H : Heap) (locs : List Loc) (ls : Array Slot), J_8  → Hp G (FA S s.heap.size) s.heap S H locs → lv_has ls 2 [(0, .ref th), (1, .int p0)] → Wm G p l e { frames := 1, cells := 0, slots := 0, locals := 21 } s m args below meth c S QQ 0 0 H locs 0 0 (F0 m 32 ls []) := by
      intro  H locs ls hq9 hH hl
      have hp := hj_8  hq9
      refine lv_aload_n (pc := 32) hx hb dX12_rowAt_32 rfl (lv_at hl 0 rfl) ?_
      refine sx_getR (pc := 33) (j := 0) B hH hk_th coX12 rfl w_1304 rfl dX12_rowAt_33 ?_
      refine W.eq (g2 := F0 m 36 ls [va_rf (gR S th 0)]) rfl ?_
      refine sx_nonnull (x := a_4) ha_4 ?_
      refine lv_bipush (pc := 36) (v := 6) hx hb dX12_rowAt_36 (by decide) ?_
      refine sx_iald (pc := 38) B hH hk_5 hn_6 dX12_rowAt_38 ?_
      refine W.eq (g2 := F0 m 39 ls [.int (gI S a_4 6)]) rfl ?_
      refine lv_iconst (pc := 39) (v := (-1)) hx hb dX12_rowAt_39 (by decide) ?_
      refine lv_icmp_ne (pc := 40) (tgt := 52) hx hb dX12_rowAt_40 (by decide) (fun cc_9 => ?_) (fun cc_9 => ?_)
      · have hp := hp.1 cc_9
        refine lv_aload_n (pc := 52) hx hb dX12_rowAt_52 rfl (lv_at hl 0 rfl) ?_
        refine lv_aload_n (pc := 53) hx hb dX12_rowAt_53 rfl (lv_at hl 0 rfl) ?_
        refine sx_getR (pc := 54) (j := 0) B hH hk_th coX12 rfl w_1304 rfl dX12_rowAt_54 ?_
        refine W.eq (g2 := F0 m 57 ls [va_rf (gR S th 0), .ref th]) rfl ?_
        refine sx_nonnull (x := a_4) ha_4 ?_
        refine lv_sipush (pc := 57) (v := 410) hx hb dX12_rowAt_57 (by decide) ?_
        refine lv_iload_n (pc := 60) hx hb dX12_rowAt_60 rfl (lv_at hl 1 rfl) ?_
        refine lv_iadd (pc := 61) hx hb dX12_rowAt_61 ?_
        obtain ⟨hn_10, hp⟩ := hp
        refine sx_iald (pc := 62) B hH hk_5 hn_10 dX12_rowAt_62 ?_
        refine W.eq (g2 := F0 m 63 ls [.int (gI S a_4 ((410 + p0).toNatClampNeg)), .ref th]) rfl ?_
        refine sx_V (pc := 63) (As := [.int (gI S a_4 ((410 + p0).toNatClampNeg))]) (rest := []) B hH hl.1 (C_X12_gives G l th (gI S a_4 ((410 + p0).toNatClampNeg)) _ _ hp) mi_X12_gives coX12 hk_th w_1617 w_69 w_1615 rfl rfl ⟨Nat.le_of_ble_eq_true rfl, Nat.le_of_ble_eq_true rfl⟩ (Nat.le_of_ble_eq_true rfl) ⟨Nat.le_of_ble_eq_true rfl, Nat.le_of_ble_eq_true rfl⟩ dX12_rowAt_63 (fun v S1 H locs hq hH => ?_)
        obtain ⟨r_11, F_11, rfl, e9, hp⟩ := hq
        rw [e9] at hH
        have hH : Hp G (FA S s.heap.size) s.heap (wI S F_11) H locs := hH
        refine W.eq (g2 := F0 m 66 ls [.int r_11]) rfl ?_
        exact sx_iret (pc := 66) B hH hr hlk (by rw [← hQQ]; exact ⟨_, F_11, rfl, rfl, hp⟩) (Nat.le_of_ble_eq_true rfl) (Nat.le_of_ble_eq_true rfl) dX12_rowAt_66
      · have hp := hp.2 cc_9
        refine lv_aload_n (pc := 43) hx hb dX12_rowAt_43 rfl (lv_at hl 0 rfl) ?_
        refine lv_bipush (pc := 44) (v := 6) hx hb dX12_rowAt_44 (by decide) ?_
        refine sx_V (pc := 46) (As := [.int 6]) (rest := []) B hH hl.1 (C_X12_refuse G l th 6 _ _ hp) mi_X12_refuse coX12 hk_th w_1539 w_51 w_1537 rfl rfl ⟨Nat.le_of_ble_eq_true rfl, Nat.le_of_ble_eq_true rfl⟩ (Nat.le_of_ble_eq_true rfl) ⟨Nat.le_of_ble_eq_true rfl, Nat.le_of_ble_eq_true rfl⟩ dX12_rowAt_46 (fun v S1 H locs hq hH => ?_)
        obtain ⟨r_12, F_12, rfl, e9, hp⟩ := hq
        rw [e9] at hH
        have hH : Hp G (FA S s.heap.size) s.heap (wI S F_12) H locs := hH
        refine W.eq (g2 := F0 m 49 ls [.int r_12]) rfl ?_
        refine lv_goto (pc := 49) (tgt := 66) hx hb dX12_rowAt_49 (by decide) ?_
        exact sx_iret (pc := 66) B hH hr hlk (by rw [← hQQ]; exact ⟨_, F_12, rfl, rfl, hp⟩) (Nat.le_of_ble_eq_true rfl) (Nat.le_of_ble_eq_true rfl) dX12_rowAt_66
    refine lv_icmp_eq (pc := 12) (tgt := 32) hx hb dX12_rowAt_12 (by decide) (fun cc_7 => ?_) (fun cc_7 => ?_)
    · have hp := hp.1 cc_7
      exact kj_8  _ _ _ hp hH (lv_sub hl [0, 1] rfl)
    · have hp := hp.2 cc_7
      refine lv_iload_n (pc := 15) hx hb dX12_rowAt_15 rfl (lv_at hl 1 rfl) ?_
      refine lv_aload_n (pc := 16) hx hb dX12_rowAt_16 rfl (lv_at hl 0 rfl) ?_
      refine sx_getR (pc := 17) (j := 0) B hH hk_th coX12 rfl w_1304 rfl dX12_rowAt_17 ?_
      refine W.eq (g2 := F0 m 20 ls [va_rf (gR S th 0), .int p0]) rfl ?_
      refine sx_nonnull (x := a_4) ha_4 ?_
      refine lv_bipush (pc := 20) (v := 6) hx hb dX12_rowAt_20 (by decide) ?_
      refine sx_iald (pc := 22) B hH hk_5 hn_6 dX12_rowAt_22 ?_
      refine W.eq (g2 := F0 m 23 ls [.int (gI S a_4 6), .int p0]) rfl ?_
      refine lv_icmp_le (pc := 23) (tgt := 32) hx hb dX12_rowAt_23 (by decide) (fun cc_13 => ?_) (fun cc_13 => ?_)
      · have hp := hp.1 cc_13
        exact kj_8  _ _ _ hp hH (lv_sub hl [0, 1] rfl)
      · have hp := hp.2 cc_13
        exact kj_2  _ _ _ hp hH (lv_sub hl [0] rfl)
theorem dX12_round_0 : decode cX12_round 0 = .ok (.iconst 1, 1) := by decide +kernel
theorem dX12_round_1 : decode cX12_round 1 = .ok (.istore_n 1, 1) := by decide +kernel
theorem dX12_round_2 : decode cX12_round 2 = .ok (.iload_n 1, 1) := by decide +kernel
theorem dX12_round_3 : decode cX12_round 3 = .ok (.aload_n 0, 1) := by decide +kernel
theorem dX12_round_4 : decode cX12_round 4 = .ok (.getfield 7, 3) := by decide +kernel
theorem dX12_round_7 : decode cX12_round 7 = .ok (.bipush 6, 2) := by decide +kernel
theorem dX12_round_9 : decode cX12_round 9 = .ok (.iaload, 1) := by decide +kernel
theorem dX12_round_10 : decode cX12_round 10 = .ok (.if_icmp .gt 28, 3) := by decide +kernel
theorem dX12_round_13 : decode cX12_round 13 = .ok (.aload_n 0, 1) := by decide +kernel
theorem dX12_round_14 : decode cX12_round 14 = .ok (.getfield 7, 3) := by decide +kernel
theorem dX12_round_17 : decode cX12_round 17 = .ok (.sipush 410, 3) := by decide +kernel
theorem dX12_round_20 : decode cX12_round 20 = .ok (.iload_n 1, 1) := by decide +kernel
theorem dX12_round_21 : decode cX12_round 21 = .ok (.iadd, 1) := by decide +kernel
theorem dX12_round_22 : decode cX12_round 22 = .ok (.iaload, 1) := by decide +kernel
theorem dX12_round_23 : decode cX12_round 23 = .ok (.ifCond .ne 9, 3) := by decide +kernel
theorem dX12_round_26 : decode cX12_round 26 = .ok (.aload_n 0, 1) := by decide +kernel
theorem dX12_round_27 : decode cX12_round 27 = .ok (.iload_n 1, 1) := by decide +kernel
theorem dX12_round_28 : decode cX12_round 28 = .ok (.invokevirtual 109, 3) := by decide +kernel
theorem dX12_round_31 : decode cX12_round 31 = .ok (.ireturn, 1) := by decide +kernel
theorem dX12_round_32 : decode cX12_round 32 = .ok (.iinc 1 1, 3) := by decide +kernel
theorem dX12_round_35 : decode cX12_round 35 = .ok (.goto (-33), 3) := by decide +kernel
theorem dX12_round_38 : decode cX12_round 38 = .ok (.aload_n 0, 1) := by decide +kernel
theorem dX12_round_39 : decode cX12_round 39 = .ok (.bipush 6, 2) := by decide +kernel
theorem dX12_round_41 : decode cX12_round 41 = .ok (.invokevirtual 105, 3) := by decide +kernel
theorem dX12_round_44 : decode cX12_round 44 = .ok (.ireturn, 1) := by decide +kernel
theorem mi_X12_round : MI yX12_round cX12_round 2 (some FieldType.int) 0 := ⟨w_1838, w_118, by decide +kernel, by decide +kernel, by decide +kernel⟩
set_option maxRecDepth 100000 in
set_option maxHeartbeats 4000000 in
theorem C_X12_round (G : GG) (l : Launch) (th : Nat) (S : St) (Q : Int32 → (Nat → Nat → Int32) → Prop) (hp : P_X12_round th S Q) : Ctr G l yX12_round cX12_round 2 (some FieldType.int) 1 21 0 0 [.ref th] S (fun (v : Option Value) (S9 : St) => ∃ (r : Int32) (I9 : Nat → Nat → Int32), v = some (.int r) ∧ S9 = wI S I9 ∧ Q r I9) := by
  generalize hQQ : (fun (v : Option Value) (S9 : St) => ∃ (r : Int32) (I9 : Nat → Nat → Int32), v = some (.int r) ∧ S9 = wI S I9 ∧ Q r I9) = QQ
  unfold P_X12_round at hp
  refine Ctr.of (by decide) (Nat.le_of_ble_eq_true rfl) ?_
  intro p e s m args below meth c ls B hr hlk hin hl hH
  generalize hlocs0 : ([] : List Loc) = locs at hH ⊢
  have hx := B.1
  have hb := B.2.1
  have hl : lv_has ls 2 [(0, .ref th)] := hl
  obtain ⟨hk_th, hp⟩ := hp
  refine lv_iconst (pc := 0) (v := 1) hx hb dX12_round_0 (by decide) ?_
  refine lv_istore_n (pc := 1) (lv' := [(1, .int 1), (0, .ref th)]) hx hb dX12_round_1 rfl hl (by decide) rfl (fun ls hl => ?_)
  obtain ⟨I_1, ⟨k0_1, h0_1⟩, hst_1⟩ := hp
  have kl_1 : ∀ (n_1 : Nat) (x1_2 : Int32) (H : Heap) (locs : List Loc) (ls : Array Slot), I_1 n_1 x1_2 → Hp G (FA S s.heap.size) s.heap S H locs → lv_has ls 2 [(0, .ref th), (1, .int x1_2)] → Wm G p l e { frames := 1, cells := 0, slots := 0, locals := 21 } s m args below meth c S QQ 0 0 H locs 0 0 (F0 m 2 ls []) := by
    intro n_1
    induction n_1 using Nat.strongRecOn with
    | ind n_1 ih_1 =>
      intro x1_2 H locs ls hq9 hH hl
      have hp := hst_1 n_1 x1_2 hq9
      refine lv_iload_n (pc := 2) hx hb dX12_round_2 rfl (lv_at hl 1 rfl) ?_
      refine lv_aload_n (pc := 3) hx hb dX12_round_3 rfl (lv_at hl 0 rfl) ?_
      refine sx_getR (pc := 4) (j := 0) B hH hk_th coX12 rfl w_1304 rfl dX12_round_4 ?_
      refine W.eq (g2 := F0 m 7 ls [va_rf (gR S th 0), .int x1_2]) rfl ?_
      obtain ⟨a_3, ha_3, hp⟩ := hp
      refine sx_nonnull (x := a_3) ha_3 ?_
      refine lv_bipush (pc := 7) (v := 6) hx hb dX12_round_7 (by decide) ?_
      obtain ⟨hk_4, hp⟩ := hp
      obtain ⟨hn_5, hp⟩ := hp
      refine sx_iald (pc := 9) B hH hk_4 hn_5 dX12_round_9 ?_
      refine W.eq (g2 := F0 m 10 ls [.int (gI S a_3 6), .int x1_2]) rfl ?_
      refine lv_icmp_gt (pc := 10) (tgt := 38) hx hb dX12_round_10 (by decide) (fun cc_6 => ?_) (fun cc_6 => ?_)
      · have hp := hp.1 cc_6
        refine lv_aload_n (pc := 38) hx hb dX12_round_38 rfl (lv_at hl 0 rfl) ?_
        refine lv_bipush (pc := 39) (v := 6) hx hb dX12_round_39 (by decide) ?_
        refine sx_V (pc := 41) (As := [.int 6]) (rest := []) B hH hl.1 (C_X12_refuse G l th 6 _ _ hp) mi_X12_refuse coX12 hk_th w_1539 w_51 w_1537 rfl rfl ⟨Nat.le_of_ble_eq_true rfl, Nat.le_of_ble_eq_true rfl⟩ (Nat.le_of_ble_eq_true rfl) ⟨Nat.le_of_ble_eq_true rfl, Nat.le_of_ble_eq_true rfl⟩ dX12_round_41 (fun v S1 H locs hq hH => ?_)
        obtain ⟨r_7, F_7, rfl, e9, hp⟩ := hq
        rw [e9] at hH
        have hH : Hp G (FA S s.heap.size) s.heap (wI S F_7) H locs := hH
        refine W.eq (g2 := F0 m 44 ls [.int r_7]) rfl ?_
        exact sx_iret (pc := 44) B hH hr hlk (by rw [← hQQ]; exact ⟨_, F_7, rfl, rfl, hp⟩) (Nat.le_of_ble_eq_true rfl) (Nat.le_of_ble_eq_true rfl) dX12_round_44
      · have hp := hp.2 cc_6
        refine lv_aload_n (pc := 13) hx hb dX12_round_13 rfl (lv_at hl 0 rfl) ?_
        refine sx_getR (pc := 14) (j := 0) B hH hk_th coX12 rfl w_1304 rfl dX12_round_14 ?_
        refine W.eq (g2 := F0 m 17 ls [va_rf (gR S th 0)]) rfl ?_
        refine sx_nonnull (x := a_3) ha_3 ?_
        refine lv_sipush (pc := 17) (v := 410) hx hb dX12_round_17 (by decide) ?_
        refine lv_iload_n (pc := 20) hx hb dX12_round_20 rfl (lv_at hl 1 rfl) ?_
        refine lv_iadd (pc := 21) hx hb dX12_round_21 ?_
        obtain ⟨hn_8, hp⟩ := hp
        refine sx_iald (pc := 22) B hH hk_4 hn_8 dX12_round_22 ?_
        refine W.eq (g2 := F0 m 23 ls [.int (gI S a_3 ((410 + x1_2).toNatClampNeg))]) rfl ?_
        refine lv_if_ne (pc := 23) (tgt := 32) hx hb dX12_round_23 (by decide) (fun cc_9 => ?_) (fun cc_9 => ?_)
        · have hp := hp.1 cc_9
          obtain ⟨v_10, ev_10⟩ : ∃ y : Int32, y = x1_2 + 1 := ⟨_, rfl⟩
          have hp := hp v_10 ev_10
          refine lv_iinc (pc := 32) (v := v_10) (lv' := [(1, .int v_10), (0, .ref th)]) hx hb dX12_round_32 hl (k := 1) rfl (by rw [ev_10]; rfl) (by decide) rfl (fun ls hl => ?_)
          refine lv_goto (pc := 35) (tgt := 2) hx hb dX12_round_35 (by decide) ?_
          obtain ⟨k9, hlt9, hp⟩ := hp
          exact ih_1 k9 hlt9 _ _ _ _ hp hH (lv_sub hl [1, 0] rfl)
        · have hp := hp.2 cc_9
          refine lv_aload_n (pc := 26) hx hb dX12_round_26 rfl (lv_at hl 0 rfl) ?_
          refine lv_iload_n (pc := 27) hx hb dX12_round_27 rfl (lv_at hl 1 rfl) ?_
          refine sx_V (pc := 28) (As := [.int x1_2]) (rest := []) B hH hl.1 (C_X12_gives G l th x1_2 _ _ hp) mi_X12_gives coX12 hk_th w_1617 w_69 w_1615 rfl rfl ⟨Nat.le_of_ble_eq_true rfl, Nat.le_of_ble_eq_true rfl⟩ (Nat.le_of_ble_eq_true rfl) ⟨Nat.le_of_ble_eq_true rfl, Nat.le_of_ble_eq_true rfl⟩ dX12_round_28 (fun v S1 H locs hq hH => ?_)
          obtain ⟨r_11, F_11, rfl, e9, hp⟩ := hq
          rw [e9] at hH
          have hH : Hp G (FA S s.heap.size) s.heap (wI S F_11) H locs := hH
          refine W.eq (g2 := F0 m 31 ls [.int r_11]) rfl ?_
          exact sx_iret (pc := 31) B hH hr hlk (by rw [← hQQ]; exact ⟨_, F_11, rfl, rfl, hp⟩) (Nat.le_of_ble_eq_true rfl) (Nat.le_of_ble_eq_true rfl) dX12_round_31
  exact kl_1 k0_1 _ _ _ _ h0_1 hH (lv_sub hl [1, 0] rfl)
theorem dX12_findsLikes_0 : decode cX12_findsLikes 0 = .ok (.aload_n 0, 1) := by decide +kernel
theorem dX12_findsLikes_1 : decode cX12_findsLikes 1 = .ok (.getfield 333, 3) := by decide +kernel
theorem dX12_findsLikes_4 : decode cX12_findsLikes 4 = .ok (.iconst 1, 1) := by decide +kernel
theorem dX12_findsLikes_5 : decode cX12_findsLikes 5 = .ok (.iadd, 1) := by decide +kernel
theorem dX12_findsLikes_6 : decode cX12_findsLikes 6 = .ok (.istore_n 1, 1) := by decide +kernel
theorem dX12_findsLikes_7 : decode cX12_findsLikes 7 = .ok (.aload_n 0, 1) := by decide +kernel
theorem dX12_findsLikes_8 : decode cX12_findsLikes 8 = .ok (.iconst (-1), 1) := by decide +kernel
theorem dX12_findsLikes_9 : decode cX12_findsLikes 9 = .ok (.putfield 362, 3) := by decide +kernel
theorem dX12_findsLikes_12 : decode cX12_findsLikes 12 = .ok (.aload_n 0, 1) := by decide +kernel
theorem dX12_findsLikes_13 : decode cX12_findsLikes 13 = .ok (.iconst (-1), 1) := by decide +kernel
theorem dX12_findsLikes_14 : decode cX12_findsLikes 14 = .ok (.putfield 365, 3) := by decide +kernel
theorem dX12_findsLikes_17 : decode cX12_findsLikes 17 = .ok (.aload_n 0, 1) := by decide +kernel
theorem dX12_findsLikes_18 : decode cX12_findsLikes 18 = .ok (.iconst 0, 1) := by decide +kernel
theorem dX12_findsLikes_19 : decode cX12_findsLikes 19 = .ok (.putfield 368, 3) := by decide +kernel
theorem dX12_findsLikes_22 : decode cX12_findsLikes 22 = .ok (.iconst 1, 1) := by decide +kernel
theorem dX12_findsLikes_23 : decode cX12_findsLikes 23 = .ok (.istore_n 2, 1) := by decide +kernel
theorem dX12_findsLikes_24 : decode cX12_findsLikes 24 = .ok (.iload_n 2, 1) := by decide +kernel
theorem dX12_findsLikes_25 : decode cX12_findsLikes 25 = .ok (.aload_n 0, 1) := by decide +kernel
theorem dX12_findsLikes_26 : decode cX12_findsLikes 26 = .ok (.getfield 7, 3) := by decide +kernel
theorem dX12_findsLikes_29 : decode cX12_findsLikes 29 = .ok (.bipush 6, 2) := by decide +kernel
theorem dX12_findsLikes_31 : decode cX12_findsLikes 31 = .ok (.iaload, 1) := by decide +kernel
theorem dX12_findsLikes_32 : decode cX12_findsLikes 32 = .ok (.if_icmp .gt 80, 3) := by decide +kernel
theorem dX12_findsLikes_35 : decode cX12_findsLikes 35 = .ok (.aload_n 0, 1) := by decide +kernel
theorem dX12_findsLikes_36 : decode cX12_findsLikes 36 = .ok (.getfield 7, 3) := by decide +kernel
theorem dX12_findsLikes_39 : decode cX12_findsLikes 39 = .ok (.sipush 410, 3) := by decide +kernel
theorem dX12_findsLikes_42 : decode cX12_findsLikes 42 = .ok (.iload_n 2, 1) := by decide +kernel
theorem dX12_findsLikes_43 : decode cX12_findsLikes 43 = .ok (.iadd, 1) := by decide +kernel
theorem dX12_findsLikes_44 : decode cX12_findsLikes 44 = .ok (.iaload, 1) := by decide +kernel
theorem dX12_findsLikes_45 : decode cX12_findsLikes 45 = .ok (.istore_n 3, 1) := by decide +kernel
theorem dX12_findsLikes_46 : decode cX12_findsLikes 46 = .ok (.aload_n 0, 1) := by decide +kernel
theorem dX12_findsLikes_47 : decode cX12_findsLikes 47 = .ok (.getfield 63, 3) := by decide +kernel
theorem dX12_findsLikes_50 : decode cX12_findsLikes 50 = .ok (.iload_n 3, 1) := by decide +kernel
theorem dX12_findsLikes_51 : decode cX12_findsLikes 51 = .ok (.iaload, 1) := by decide +kernel
theorem dX12_findsLikes_52 : decode cX12_findsLikes 52 = .ok (.iload_n 1, 1) := by decide +kernel
theorem dX12_findsLikes_53 : decode cX12_findsLikes 53 = .ok (.if_icmp .ge 15, 3) := by decide +kernel
theorem dX12_findsLikes_56 : decode cX12_findsLikes 56 = .ok (.aload_n 0, 1) := by decide +kernel
theorem dX12_findsLikes_57 : decode cX12_findsLikes 57 = .ok (.getfield 63, 3) := by decide +kernel
theorem dX12_findsLikes_60 : decode cX12_findsLikes 60 = .ok (.iload_n 3, 1) := by decide +kernel
theorem dX12_findsLikes_61 : decode cX12_findsLikes 61 = .ok (.iload_n 1, 1) := by decide +kernel
theorem dX12_findsLikes_62 : decode cX12_findsLikes 62 = .ok (.iload_n 2, 1) := by decide +kernel
theorem dX12_findsLikes_63 : decode cX12_findsLikes 63 = .ok (.iadd, 1) := by decide +kernel
theorem dX12_findsLikes_64 : decode cX12_findsLikes 64 = .ok (.iastore, 1) := by decide +kernel
theorem dX12_findsLikes_65 : decode cX12_findsLikes 65 = .ok (.goto 41, 3) := by decide +kernel
theorem dX12_findsLikes_68 : decode cX12_findsLikes 68 = .ok (.aload_n 0, 1) := by decide +kernel
theorem dX12_findsLikes_69 : decode cX12_findsLikes 69 = .ok (.dup, 1) := by decide +kernel
theorem dX12_findsLikes_70 : decode cX12_findsLikes 70 = .ok (.getfield 368, 3) := by decide +kernel
theorem dX12_findsLikes_73 : decode cX12_findsLikes 73 = .ok (.iconst 1, 1) := by decide +kernel
theorem dX12_findsLikes_74 : decode cX12_findsLikes 74 = .ok (.iadd, 1) := by decide +kernel
theorem dX12_findsLikes_75 : decode cX12_findsLikes 75 = .ok (.putfield 368, 3) := by decide +kernel
theorem dX12_findsLikes_78 : decode cX12_findsLikes 78 = .ok (.aload_n 0, 1) := by decide +kernel
theorem dX12_findsLikes_79 : decode cX12_findsLikes 79 = .ok (.getfield 365, 3) := by decide +kernel
theorem dX12_findsLikes_82 : decode cX12_findsLikes 82 = .ok (.iconst (-1), 1) := by decide +kernel
theorem dX12_findsLikes_83 : decode cX12_findsLikes 83 = .ok (.if_icmp .eq 6, 3) := by decide +kernel
theorem dX12_findsLikes_86 : decode cX12_findsLikes 86 = .ok (.goto 20, 3) := by decide +kernel
theorem dX12_findsLikes_89 : decode cX12_findsLikes 89 = .ok (.aload_n 0, 1) := by decide +kernel
theorem dX12_findsLikes_90 : decode cX12_findsLikes 90 = .ok (.iload_n 2, 1) := by decide +kernel
theorem dX12_findsLikes_91 : decode cX12_findsLikes 91 = .ok (.putfield 365, 3) := by decide +kernel
theorem dX12_findsLikes_94 : decode cX12_findsLikes 94 = .ok (.aload_n 0, 1) := by decide +kernel
theorem dX12_findsLikes_95 : decode cX12_findsLikes 95 = .ok (.aload_n 0, 1) := by decide +kernel
theorem dX12_findsLikes_96 : decode cX12_findsLikes 96 = .ok (.getfield 63, 3) := by decide +kernel
theorem dX12_findsLikes_99 : decode cX12_findsLikes 99 = .ok (.iload_n 3, 1) := by decide +kernel
theorem dX12_findsLikes_100 : decode cX12_findsLikes 100 = .ok (.iaload, 1) := by decide +kernel
theorem dX12_findsLikes_101 : decode cX12_findsLikes 101 = .ok (.iload_n 1, 1) := by decide +kernel
theorem dX12_findsLikes_102 : decode cX12_findsLikes 102 = .ok (.isub, 1) := by decide +kernel
theorem dX12_findsLikes_103 : decode cX12_findsLikes 103 = .ok (.putfield 362, 3) := by decide +kernel
theorem dX12_findsLikes_106 : decode cX12_findsLikes 106 = .ok (.iinc 2 1, 3) := by decide +kernel
theorem dX12_findsLikes_109 : decode cX12_findsLikes 109 = .ok (.goto (-85), 3) := by decide +kernel
theorem dX12_findsLikes_112 : decode cX12_findsLikes 112 = .ok (.aload_n 0, 1) := by decide +kernel
theorem dX12_findsLikes_113 : decode cX12_findsLikes 113 = .ok (.iload_n 1, 1) := by decide +kernel
theorem dX12_findsLikes_114 : decode cX12_findsLikes 114 = .ok (.sipush 2000, 3) := by decide +kernel
theorem dX12_findsLikes_117 : decode cX12_findsLikes 117 = .ok (.iadd, 1) := by decide +kernel
theorem dX12_findsLikes_118 : decode cX12_findsLikes 118 = .ok (.iconst 1, 1) := by decide +kernel
theorem dX12_findsLikes_119 : decode cX12_findsLikes 119 = .ok (.iadd, 1) := by decide +kernel
theorem dX12_findsLikes_120 : decode cX12_findsLikes 120 = .ok (.putfield 333, 3) := by decide +kernel
theorem dX12_findsLikes_123 : decode cX12_findsLikes 123 = .ok (.return_, 1) := by decide +kernel
theorem mi_X12_findsLikes : MI yX12_findsLikes cX12_findsLikes 4 (none : Option Jvm.ClassFile.FieldType) 0 := ⟨w_1846, w_118, by decide +kernel, by decide +kernel, by decide +kernel⟩
set_option maxRecDepth 100000 in
set_option maxHeartbeats 4000000 in
theorem C_X12_findsLikes (G : GG) (l : Launch) (th : Nat) (S : St) (Q : (Nat → Nat → Int32) → Prop) (hp : P_X12_findsLikes th S Q) : Ctr G l yX12_findsLikes cX12_findsLikes 4 (none : Option Jvm.ClassFile.FieldType) 0 0 0 0 [.ref th] S (fun (v : Option Value) (S9 : St) => ∃ (I9 : Nat → Nat → Int32), v = none ∧ S9 = wI S I9 ∧ Q I9) := by
  generalize hQQ : (fun (v : Option Value) (S9 : St) => ∃ (I9 : Nat → Nat → Int32), v = none ∧ S9 = wI S I9 ∧ Q I9) = QQ
  unfold P_X12_findsLikes at hp
  refine Ctr.of (by decide) (Nat.le_of_ble_eq_true rfl) ?_
  intro p e s m args below meth c ls B hr hlk hin hl hH
  generalize hlocs0 : ([] : List Loc) = locs at hH ⊢
  have hx := B.1
  have hb := B.2.1
  have hl : lv_has ls 4 [(0, .ref th)] := hl
  obtain ⟨hk_th, hp⟩ := hp
  refine lv_aload_n (pc := 0) hx hb dX12_findsLikes_0 rfl (lv_at hl 0 rfl) ?_
  refine sx_getI (pc := 1) (j := 29) B hH hk_th coX12 rfl w_1333 rfl dX12_findsLikes_1 ?_
  refine W.eq (g2 := F0 m 4 ls [.int (gI S th 29)]) rfl ?_
  refine lv_iconst (pc := 4) (v := 1) hx hb dX12_findsLikes_4 (by decide) ?_
  refine lv_iadd (pc := 5) hx hb dX12_findsLikes_5 ?_
  refine lv_topi (fun v_1 ev_1 => ?_)
  have hp := hp v_1 ev_1
  refine lv_istore_n (pc := 6) (lv' := [(1, .int v_1), (0, .ref th)]) hx hb dX12_findsLikes_6 rfl hl (by decide) rfl (fun ls hl => ?_)
  refine lv_aload_n (pc := 7) hx hb dX12_findsLikes_7 rfl (lv_at hl 1 rfl) ?_
  refine lv_iconst (pc := 8) (v := (-1)) hx hb dX12_findsLikes_8 (by decide) ?_
  obtain ⟨F_2, eF_2⟩ : ∃ z : Nat → Nat → Int32, z = upI (gI S) th 34 (-1) := ⟨_, rfl⟩
  have hp := hp F_2 eF_2
  refine sx_putI (pc := 9) (j := 34) B hH hk_th coX12 rfl w_1338 rfl (Or.inl rfl) rfl dX12_findsLikes_9 (fun H locs hH => ?_)
  have hH : Hp G (FA S s.heap.size) s.heap (wI S F_2) H locs := by rw [eF_2]; exact hH
  refine lv_aload_n (pc := 12) hx hb dX12_findsLikes_12 rfl (lv_at hl 1 rfl) ?_
  refine lv_iconst (pc := 13) (v := (-1)) hx hb dX12_findsLikes_13 (by decide) ?_
  obtain ⟨F_3, eF_3⟩ : ∃ z : Nat → Nat → Int32, z = upI F_2 th 35 (-1) := ⟨_, rfl⟩
  have hp := hp F_3 eF_3
  refine sx_putI (pc := 14) (j := 35) B hH hk_th coX12 rfl w_1339 rfl (Or.inl rfl) rfl dX12_findsLikes_14 (fun H locs hH => ?_)
  have hH : Hp G (FA S s.heap.size) s.heap (wI S F_3) H locs := by rw [eF_3]; exact hH
  refine lv_aload_n (pc := 17) hx hb dX12_findsLikes_17 rfl (lv_at hl 1 rfl) ?_
  refine lv_iconst (pc := 18) (v := 0) hx hb dX12_findsLikes_18 (by decide) ?_
  obtain ⟨F_4, eF_4⟩ : ∃ z : Nat → Nat → Int32, z = upI F_3 th 36 0 := ⟨_, rfl⟩
  have hp := hp F_4 eF_4
  refine sx_putI (pc := 19) (j := 36) B hH hk_th coX12 rfl w_1340 rfl (Or.inl rfl) rfl dX12_findsLikes_19 (fun H locs hH => ?_)
  have hH : Hp G (FA S s.heap.size) s.heap (wI S F_4) H locs := by rw [eF_4]; exact hH
  refine lv_iconst (pc := 22) (v := 1) hx hb dX12_findsLikes_22 (by decide) ?_
  refine lv_istore_n (pc := 23) (lv' := [(2, .int 1), (1, .int v_1), (0, .ref th)]) hx hb dX12_findsLikes_23 rfl hl (by decide) rfl (fun ls hl => ?_)
  obtain ⟨I_5, ⟨k0_5, h0_5⟩, hst_5⟩ := hp
  have kl_5 : ∀ (n_5 : Nat) (x2_6 : Int32) (F_7 : Nat → Nat → Int32) (H : Heap) (locs : List Loc) (ls : Array Slot), I_5 n_5 x2_6 F_7 → Hp G (FA S s.heap.size) s.heap (wI S F_7) H locs → lv_has ls 4 [(0, .ref th), (1, .int v_1), (2, .int x2_6)] → Wm G p l e { frames := 0, cells := 0, slots := 0, locals := 0 } s m args below meth c S QQ 0 0 H locs 0 0 (F0 m 24 ls []) := by
    intro n_5
    induction n_5 using Nat.strongRecOn with
    | ind n_5 ih_5 =>
      intro x2_6 F_7 H locs ls hq9 hH hl
      have hp := hst_5 n_5 x2_6 F_7 hq9
      refine lv_iload_n (pc := 24) hx hb dX12_findsLikes_24 rfl (lv_at hl 2 rfl) ?_
      refine lv_aload_n (pc := 25) hx hb dX12_findsLikes_25 rfl (lv_at hl 0 rfl) ?_
      refine sx_getR (pc := 26) (j := 0) B hH hk_th coX12 rfl w_1304 rfl dX12_findsLikes_26 ?_
      refine W.eq (g2 := F0 m 29 ls [va_rf (gR S th 0), .int x2_6]) rfl ?_
      obtain ⟨a_8, ha_8, hp⟩ := hp
      refine sx_nonnull (x := a_8) ha_8 ?_
      refine lv_bipush (pc := 29) (v := 6) hx hb dX12_findsLikes_29 (by decide) ?_
      obtain ⟨hk_9, hp⟩ := hp
      obtain ⟨hn_10, hp⟩ := hp
      refine sx_iald (pc := 31) B hH hk_9 hn_10 dX12_findsLikes_31 ?_
      refine W.eq (g2 := F0 m 32 ls [.int (F_7 a_8 6), .int x2_6]) rfl ?_
      refine lv_icmp_gt (pc := 32) (tgt := 112) hx hb dX12_findsLikes_32 (by decide) (fun cc_11 => ?_) (fun cc_11 => ?_)
      · have hp := hp.1 cc_11
        refine lv_aload_n (pc := 112) hx hb dX12_findsLikes_112 rfl (lv_at hl 0 rfl) ?_
        refine lv_iload_n (pc := 113) hx hb dX12_findsLikes_113 rfl (lv_at hl 1 rfl) ?_
        refine lv_sipush (pc := 114) (v := 2000) hx hb dX12_findsLikes_114 (by decide) ?_
        refine lv_iadd (pc := 117) hx hb dX12_findsLikes_117 ?_
        refine lv_iconst (pc := 118) (v := 1) hx hb dX12_findsLikes_118 (by decide) ?_
        refine lv_iadd (pc := 119) hx hb dX12_findsLikes_119 ?_
        refine lv_topi (fun v_12 ev_12 => ?_)
        have hp := hp v_12 ev_12
        obtain ⟨F_13, eF_13⟩ : ∃ z : Nat → Nat → Int32, z = upI F_7 th 29 v_12 := ⟨_, rfl⟩
        have hp := hp F_13 eF_13
        refine sx_putI (pc := 120) (j := 29) B hH hk_th coX12 rfl w_1333 rfl (Or.inl rfl) rfl dX12_findsLikes_120 (fun H locs hH => ?_)
        have hH : Hp G (FA S s.heap.size) s.heap (wI S F_13) H locs := by rw [eF_13]; exact hH
        exact sx_vret (pc := 123) B hH hr hlk (by rw [← hQQ]; exact ⟨F_13, rfl, rfl, hp⟩) (Nat.le_of_ble_eq_true rfl) (Nat.le_of_ble_eq_true rfl) dX12_findsLikes_123
      · have hp := hp.2 cc_11
        refine lv_aload_n (pc := 35) hx hb dX12_findsLikes_35 rfl (lv_at hl 0 rfl) ?_
        refine sx_getR (pc := 36) (j := 0) B hH hk_th coX12 rfl w_1304 rfl dX12_findsLikes_36 ?_
        refine W.eq (g2 := F0 m 39 ls [va_rf (gR S th 0)]) rfl ?_
        refine sx_nonnull (x := a_8) ha_8 ?_
        refine lv_sipush (pc := 39) (v := 410) hx hb dX12_findsLikes_39 (by decide) ?_
        refine lv_iload_n (pc := 42) hx hb dX12_findsLikes_42 rfl (lv_at hl 2 rfl) ?_
        refine lv_iadd (pc := 43) hx hb dX12_findsLikes_43 ?_
        obtain ⟨hn_14, hp⟩ := hp
        refine sx_iald (pc := 44) B hH hk_9 hn_14 dX12_findsLikes_44 ?_
        refine W.eq (g2 := F0 m 45 ls [.int (F_7 a_8 ((410 + x2_6).toNatClampNeg))]) rfl ?_
        refine lv_topi (fun v_15 ev_15 => ?_)
        have hp := hp v_15 ev_15
        refine lv_istore_n (pc := 45) (lv' := [(3, .int v_15), (0, .ref th), (1, .int v_1), (2, .int x2_6)]) hx hb dX12_findsLikes_45 rfl hl (by decide) rfl (fun ls hl => ?_)
        refine lv_aload_n (pc := 46) hx hb dX12_findsLikes_46 rfl (lv_at hl 1 rfl) ?_
        refine sx_getR (pc := 47) (j := 28) B hH hk_th coX12 rfl w_1332 rfl dX12_findsLikes_47 ?_
        refine W.eq (g2 := F0 m 50 ls [va_rf (gR S th 28)]) rfl ?_
        obtain ⟨a_16, ha_16, hp⟩ := hp
        refine sx_nonnull (x := a_16) ha_16 ?_
        refine lv_iload_n (pc := 50) hx hb dX12_findsLikes_50 rfl (lv_at hl 0 rfl) ?_
        obtain ⟨hk_17, hp⟩ := hp
        obtain ⟨hn_18, hp⟩ := hp
        refine sx_iald (pc := 51) B hH hk_17 hn_18 dX12_findsLikes_51 ?_
        refine W.eq (g2 := F0 m 52 ls [.int (F_7 a_16 v_15.toNatClampNeg)]) rfl ?_
        refine lv_iload_n (pc := 52) hx hb dX12_findsLikes_52 rfl (lv_at hl 2 rfl) ?_
        refine lv_icmp_ge (pc := 53) (tgt := 68) hx hb dX12_findsLikes_53 (by decide) (fun cc_19 => ?_) (fun cc_19 => ?_)
        · have hp := hp.1 cc_19
          refine lv_aload_n (pc := 68) hx hb dX12_findsLikes_68 rfl (lv_at hl 1 rfl) ?_
          refine lv_dup (pc := 69) hx hb dX12_findsLikes_69 rfl ?_
          refine sx_getI (pc := 70) (j := 36) B hH hk_th coX12 rfl w_1340 rfl dX12_findsLikes_70 ?_
          refine W.eq (g2 := F0 m 73 ls [.int (F_7 th 36), .ref th]) rfl ?_
          refine lv_iconst (pc := 73) (v := 1) hx hb dX12_findsLikes_73 (by decide) ?_
          refine lv_iadd (pc := 74) hx hb dX12_findsLikes_74 ?_
          refine lv_topi (fun v_20 ev_20 => ?_)
          have hp := hp v_20 ev_20
          obtain ⟨F_21, eF_21⟩ : ∃ z : Nat → Nat → Int32, z = upI F_7 th 36 v_20 := ⟨_, rfl⟩
          have hp := hp F_21 eF_21
          refine sx_putI (pc := 75) (j := 36) B hH hk_th coX12 rfl w_1340 rfl (Or.inl rfl) rfl dX12_findsLikes_75 (fun H locs hH => ?_)
          have hH : Hp G (FA S s.heap.size) s.heap (wI S F_21) H locs := by rw [eF_21]; exact hH
          refine lv_aload_n (pc := 78) hx hb dX12_findsLikes_78 rfl (lv_at hl 1 rfl) ?_
          refine sx_getI (pc := 79) (j := 35) B hH hk_th coX12 rfl w_1339 rfl dX12_findsLikes_79 ?_
          refine W.eq (g2 := F0 m 82 ls [.int (F_21 th 35)]) rfl ?_
          refine lv_iconst (pc := 82) (v := (-1)) hx hb dX12_findsLikes_82 (by decide) ?_
          refine lv_icmp_eq (pc := 83) (tgt := 89) hx hb dX12_findsLikes_83 (by decide) (fun cc_22 => ?_) (fun cc_22 => ?_)
          · have hp := hp.1 cc_22
            refine lv_aload_n (pc := 89) hx hb dX12_findsLikes_89 rfl (lv_at hl 1 rfl) ?_
            refine lv_iload_n (pc := 90) hx hb dX12_findsLikes_90 rfl (lv_at hl 3 rfl) ?_
            obtain ⟨F_23, eF_23⟩ : ∃ z : Nat → Nat → Int32, z = upI F_21 th 35 x2_6 := ⟨_, rfl⟩
            have hp := hp F_23 eF_23
            refine sx_putI (pc := 91) (j := 35) B hH hk_th coX12 rfl w_1339 rfl (Or.inl rfl) rfl dX12_findsLikes_91 (fun H locs hH => ?_)
            have hH : Hp G (FA S s.heap.size) s.heap (wI S F_23) H locs := by rw [eF_23]; exact hH
            refine lv_aload_n (pc := 94) hx hb dX12_findsLikes_94 rfl (lv_at hl 1 rfl) ?_
            refine lv_aload_n (pc := 95) hx hb dX12_findsLikes_95 rfl (lv_at hl 1 rfl) ?_
            refine sx_getR (pc := 96) (j := 28) B hH hk_th coX12 rfl w_1332 rfl dX12_findsLikes_96 ?_
            refine W.eq (g2 := F0 m 99 ls [va_rf (gR S th 28), .ref th]) rfl ?_
            refine sx_nonnull (x := a_16) ha_16 ?_
            refine lv_iload_n (pc := 99) hx hb dX12_findsLikes_99 rfl (lv_at hl 0 rfl) ?_
            refine sx_iald (pc := 100) B hH hk_17 hn_18 dX12_findsLikes_100 ?_
            refine W.eq (g2 := F0 m 101 ls [.int (F_23 a_16 v_15.toNatClampNeg), .ref th]) rfl ?_
            refine lv_iload_n (pc := 101) hx hb dX12_findsLikes_101 rfl (lv_at hl 2 rfl) ?_
            refine lv_isub (pc := 102) hx hb dX12_findsLikes_102 ?_
            refine lv_topi (fun v_24 ev_24 => ?_)
            have hp := hp v_24 ev_24
            obtain ⟨F_25, eF_25⟩ : ∃ z : Nat → Nat → Int32, z = upI F_23 th 34 v_24 := ⟨_, rfl⟩
            have hp := hp F_25 eF_25
            refine sx_putI (pc := 103) (j := 34) B hH hk_th coX12 rfl w_1338 rfl (Or.inl rfl) rfl dX12_findsLikes_103 (fun H locs hH => ?_)
            have hH : Hp G (FA S s.heap.size) s.heap (wI S F_25) H locs := by rw [eF_25]; exact hH
            obtain ⟨v_26, ev_26⟩ : ∃ y : Int32, y = x2_6 + 1 := ⟨_, rfl⟩
            have hp := hp v_26 ev_26
            refine lv_iinc (pc := 106) (v := v_26) (lv' := [(2, .int v_26), (3, .int v_15), (0, .ref th), (1, .int v_1)]) hx hb dX12_findsLikes_106 hl (k := 3) rfl (by rw [ev_26]; rfl) (by decide) rfl (fun ls hl => ?_)
            refine lv_goto (pc := 109) (tgt := 24) hx hb dX12_findsLikes_109 (by decide) ?_
            obtain ⟨k9, hlt9, hp⟩ := hp
            exact ih_5 k9 hlt9 _ _ _ _ _ hp hH (lv_sub hl [2, 3, 0] rfl)
          · have hp := hp.2 cc_22
            refine lv_goto (pc := 86) (tgt := 106) hx hb dX12_findsLikes_86 (by decide) ?_
            obtain ⟨v_27, ev_27⟩ : ∃ y : Int32, y = x2_6 + 1 := ⟨_, rfl⟩
            have hp := hp v_27 ev_27
            refine lv_iinc (pc := 106) (v := v_27) (lv' := [(2, .int v_27), (3, .int v_15), (0, .ref th), (1, .int v_1)]) hx hb dX12_findsLikes_106 hl (k := 3) rfl (by rw [ev_27]; rfl) (by decide) rfl (fun ls hl => ?_)
            refine lv_goto (pc := 109) (tgt := 24) hx hb dX12_findsLikes_109 (by decide) ?_
            obtain ⟨k9, hlt9, hp⟩ := hp
            exact ih_5 k9 hlt9 _ _ _ _ _ hp hH (lv_sub hl [2, 3, 0] rfl)
        · have hp := hp.2 cc_19
          refine lv_aload_n (pc := 56) hx hb dX12_findsLikes_56 rfl (lv_at hl 1 rfl) ?_
          refine sx_getR (pc := 57) (j := 28) B hH hk_th coX12 rfl w_1332 rfl dX12_findsLikes_57 ?_
          refine W.eq (g2 := F0 m 60 ls [va_rf (gR S th 28)]) rfl ?_
          refine sx_nonnull (x := a_16) ha_16 ?_
          refine lv_iload_n (pc := 60) hx hb dX12_findsLikes_60 rfl (lv_at hl 0 rfl) ?_
          refine lv_iload_n (pc := 61) hx hb dX12_findsLikes_61 rfl (lv_at hl 2 rfl) ?_
          refine lv_iload_n (pc := 62) hx hb dX12_findsLikes_62 rfl (lv_at hl 3 rfl) ?_
          refine lv_iadd (pc := 63) hx hb dX12_findsLikes_63 ?_
          refine lv_topi (fun v_28 ev_28 => ?_)
          have hp := hp v_28 ev_28
          obtain ⟨F_29, eF_29⟩ : ∃ z : Nat → Nat → Int32, z = upI F_7 a_16 v_15.toNatClampNeg v_28 := ⟨_, rfl⟩
          have hp := hp F_29 eF_29
          refine sx_iast (pc := 64) B hH hk_17 hn_18 dX12_findsLikes_64 (fun H locs hH => ?_)
          have hH : Hp G (FA S s.heap.size) s.heap (wI S F_29) H locs := by rw [eF_29]; exact hH
          refine lv_goto (pc := 65) (tgt := 106) hx hb dX12_findsLikes_65 (by decide) ?_
          obtain ⟨v_30, ev_30⟩ : ∃ y : Int32, y = x2_6 + 1 := ⟨_, rfl⟩
          have hp := hp v_30 ev_30
          refine lv_iinc (pc := 106) (v := v_30) (lv' := [(2, .int v_30), (3, .int v_15), (0, .ref th), (1, .int v_1)]) hx hb dX12_findsLikes_106 hl (k := 3) rfl (by rw [ev_30]; rfl) (by decide) rfl (fun ls hl => ?_)
          refine lv_goto (pc := 109) (tgt := 24) hx hb dX12_findsLikes_109 (by decide) ?_
          obtain ⟨k9, hlt9, hp⟩ := hp
          exact ih_5 k9 hlt9 _ _ _ _ _ hp hH (lv_sub hl [2, 3, 0] rfl)
  exact kl_5 k0_5 _ _ _ _ _ h0_5 hH (lv_sub hl [2, 1, 0] rfl)
theorem dX12_isTrue_0 : decode cX12_isTrue 0 = .ok (.aload_n 0, 1) := by decide +kernel
theorem dX12_isTrue_1 : decode cX12_isTrue 1 = .ok (.getfield 7, 3) := by decide +kernel
theorem dX12_isTrue_4 : decode cX12_isTrue 4 = .ok (.bipush 6, 2) := by decide +kernel
theorem dX12_isTrue_6 : decode cX12_isTrue 6 = .ok (.iaload, 1) := by decide +kernel
theorem dX12_isTrue_7 : decode cX12_isTrue 7 = .ok (.iconst (-1), 1) := by decide +kernel
theorem dX12_isTrue_8 : decode cX12_isTrue 8 = .ok (.if_icmp .ne 10, 3) := by decide +kernel
theorem dX12_isTrue_11 : decode cX12_isTrue 11 = .ok (.aload_n 0, 1) := by decide +kernel
theorem dX12_isTrue_12 : decode cX12_isTrue 12 = .ok (.bipush 6, 2) := by decide +kernel
theorem dX12_isTrue_14 : decode cX12_isTrue 14 = .ok (.invokevirtual 105, 3) := by decide +kernel
theorem dX12_isTrue_17 : decode cX12_isTrue 17 = .ok (.ireturn, 1) := by decide +kernel
theorem dX12_isTrue_18 : decode cX12_isTrue 18 = .ok (.aload_n 0, 1) := by decide +kernel
theorem dX12_isTrue_19 : decode cX12_isTrue 19 = .ok (.invokevirtual 371, 3) := by decide +kernel
theorem dX12_isTrue_22 : decode cX12_isTrue 22 = .ok (.aload_n 0, 1) := by decide +kernel
theorem dX12_isTrue_23 : decode cX12_isTrue 23 = .ok (.aload_n 0, 1) := by decide +kernel
theorem dX12_isTrue_24 : decode cX12_isTrue 24 = .ok (.getfield 368, 3) := by decide +kernel
theorem dX12_isTrue_27 : decode cX12_isTrue 27 = .ok (.ifCond .ne 7, 3) := by decide +kernel
theorem dX12_isTrue_30 : decode cX12_isTrue 30 = .ok (.iconst 1, 1) := by decide +kernel
theorem dX12_isTrue_31 : decode cX12_isTrue 31 = .ok (.goto 4, 3) := by decide +kernel
theorem dX12_isTrue_34 : decode cX12_isTrue 34 = .ok (.iconst 0, 1) := by decide +kernel
theorem dX12_isTrue_35 : decode cX12_isTrue 35 = .ok (.invokevirtual 109, 3) := by decide +kernel
theorem dX12_isTrue_38 : decode cX12_isTrue 38 = .ok (.ireturn, 1) := by decide +kernel
theorem mi_X12_isTrue : MI yX12_isTrue cX12_isTrue 1 (some FieldType.int) 0 := ⟨w_1842, w_118, by decide +kernel, by decide +kernel, by decide +kernel⟩
set_option maxRecDepth 100000 in
set_option maxHeartbeats 4000000 in
theorem C_X12_isTrue (G : GG) (l : Launch) (th : Nat) (S : St) (Q : Int32 → (Nat → Nat → Int32) → Prop) (hp : P_X12_isTrue th S Q) : Ctr G l yX12_isTrue cX12_isTrue 1 (some FieldType.int) 1 23 0 0 [.ref th] S (fun (v : Option Value) (S9 : St) => ∃ (r : Int32) (I9 : Nat → Nat → Int32), v = some (.int r) ∧ S9 = wI S I9 ∧ Q r I9) := by
  generalize hQQ : (fun (v : Option Value) (S9 : St) => ∃ (r : Int32) (I9 : Nat → Nat → Int32), v = some (.int r) ∧ S9 = wI S I9 ∧ Q r I9) = QQ
  unfold P_X12_isTrue at hp
  refine Ctr.of (by decide) (Nat.le_of_ble_eq_true rfl) ?_
  intro p e s m args below meth c ls B hr hlk hin hl hH
  generalize hlocs0 : ([] : List Loc) = locs at hH ⊢
  have hx := B.1
  have hb := B.2.1
  have hl : lv_has ls 1 [(0, .ref th)] := hl
  obtain ⟨hk_th, hp⟩ := hp
  refine lv_aload_n (pc := 0) hx hb dX12_isTrue_0 rfl (lv_at hl 0 rfl) ?_
  refine sx_getR (pc := 1) (j := 0) B hH hk_th coX12 rfl w_1304 rfl dX12_isTrue_1 ?_
  refine W.eq (g2 := F0 m 4 ls [va_rf (gR S th 0)]) rfl ?_
  obtain ⟨a_1, ha_1, hp⟩ := hp
  refine sx_nonnull (x := a_1) ha_1 ?_
  refine lv_bipush (pc := 4) (v := 6) hx hb dX12_isTrue_4 (by decide) ?_
  obtain ⟨hk_2, hp⟩ := hp
  obtain ⟨hn_3, hp⟩ := hp
  refine sx_iald (pc := 6) B hH hk_2 hn_3 dX12_isTrue_6 ?_
  refine W.eq (g2 := F0 m 7 ls [.int (gI S a_1 6)]) rfl ?_
  refine lv_iconst (pc := 7) (v := (-1)) hx hb dX12_isTrue_7 (by decide) ?_
  refine lv_icmp_ne (pc := 8) (tgt := 18) hx hb dX12_isTrue_8 (by decide) (fun cc_4 => ?_) (fun cc_4 => ?_)
  · have hp := hp.1 cc_4
    refine lv_aload_n (pc := 18) hx hb dX12_isTrue_18 rfl (lv_at hl 0 rfl) ?_
    refine sx_V (pc := 19) (As := []) (rest := []) B hH hl.1 (C_X12_findsLikes G l th _ _ hp) mi_X12_findsLikes coX12 hk_th w_1845 w_96 w_1843 rfl rfl ⟨Nat.le_of_ble_eq_true rfl, Nat.le_of_ble_eq_true rfl⟩ (Nat.le_of_ble_eq_true rfl) ⟨Nat.le_of_ble_eq_true rfl, Nat.le_of_ble_eq_true rfl⟩ dX12_isTrue_19 (fun v S1 H locs hq hH => ?_)
    obtain ⟨F_5, rfl, e9, hp⟩ := hq
    rw [e9] at hH
    have hH : Hp G (FA S s.heap.size) s.heap (wI S F_5) H locs := hH
    refine W.eq (g2 := F0 m 22 ls []) rfl ?_
    refine lv_aload_n (pc := 22) hx hb dX12_isTrue_22 rfl (lv_at hl 0 rfl) ?_
    refine lv_aload_n (pc := 23) hx hb dX12_isTrue_23 rfl (lv_at hl 0 rfl) ?_
    refine sx_getI (pc := 24) (j := 36) B hH hk_th coX12 rfl w_1340 rfl dX12_isTrue_24 ?_
    refine W.eq (g2 := F0 m 27 ls [.int (F_5 th 36), .ref th]) rfl ?_
    obtain ⟨J_7, hj_7, hp⟩ := hp
    have kj_7 : ∀ (t_8 : Int32) (H : Heap) (locs : List Loc) (ls : Array Slot), J_7 t_8 → Hp G (FA S s.heap.size) s.heap (wI S F_5) H locs → lv_has ls 1 [] → Wm G p l e { frames := 1, cells := 0, slots := 0, locals := 23 } s m args below meth c S QQ 0 0 H locs 0 0 (F0 m 35 ls [.int t_8, .ref th]) := by
      intro t_8 H locs ls hq9 hH hl
      have hp := hj_7 t_8 hq9
      refine sx_V (pc := 35) (As := [.int t_8]) (rest := []) B hH hl.1 (C_X12_gives G l th t_8 _ _ hp) mi_X12_gives coX12 hk_th w_1617 w_69 w_1615 rfl rfl ⟨Nat.le_of_ble_eq_true rfl, Nat.le_of_ble_eq_true rfl⟩ (Nat.le_of_ble_eq_true rfl) ⟨Nat.le_of_ble_eq_true rfl, Nat.le_of_ble_eq_true rfl⟩ dX12_isTrue_35 (fun v S1 H locs hq hH => ?_)
      obtain ⟨r_9, F_9, rfl, e9, hp⟩ := hq
      rw [e9] at hH
      have hH : Hp G (FA S s.heap.size) s.heap (wI S F_9) H locs := hH
      refine W.eq (g2 := F0 m 38 ls [.int r_9]) rfl ?_
      exact sx_iret (pc := 38) B hH hr hlk (by rw [← hQQ]; exact ⟨_, F_9, rfl, rfl, hp⟩) (Nat.le_of_ble_eq_true rfl) (Nat.le_of_ble_eq_true rfl) dX12_isTrue_38
    refine lv_if_ne (pc := 27) (tgt := 34) hx hb dX12_isTrue_27 (by decide) (fun cc_6 => ?_) (fun cc_6 => ?_)
    · have hp := hp.1 cc_6
      refine lv_iconst (pc := 34) (v := 0) hx hb dX12_isTrue_34 (by decide) ?_
      exact kj_7 _ _ _ _ hp hH (lv_sub hl [] rfl)
    · have hp := hp.2 cc_6
      refine lv_iconst (pc := 30) (v := 1) hx hb dX12_isTrue_30 (by decide) ?_
      refine lv_goto (pc := 31) (tgt := 35) hx hb dX12_isTrue_31 (by decide) ?_
      exact kj_7 _ _ _ _ hp hH (lv_sub hl [] rfl)
  · have hp := hp.2 cc_4
    refine lv_aload_n (pc := 11) hx hb dX12_isTrue_11 rfl (lv_at hl 0 rfl) ?_
    refine lv_bipush (pc := 12) (v := 6) hx hb dX12_isTrue_12 (by decide) ?_
    refine sx_V (pc := 14) (As := [.int 6]) (rest := []) B hH hl.1 (C_X12_refuse G l th 6 _ _ hp) mi_X12_refuse coX12 hk_th w_1539 w_51 w_1537 rfl rfl ⟨Nat.le_of_ble_eq_true rfl, Nat.le_of_ble_eq_true rfl⟩ (Nat.le_of_ble_eq_true rfl) ⟨Nat.le_of_ble_eq_true rfl, Nat.le_of_ble_eq_true rfl⟩ dX12_isTrue_14 (fun v S1 H locs hq hH => ?_)
    obtain ⟨r_10, F_10, rfl, e9, hp⟩ := hq
    rw [e9] at hH
    have hH : Hp G (FA S s.heap.size) s.heap (wI S F_10) H locs := hH
    refine W.eq (g2 := F0 m 17 ls [.int r_10]) rfl ?_
    exact sx_iret (pc := 17) B hH hr hlk (by rw [← hQQ]; exact ⟨_, F_10, rfl, rfl, hp⟩) (Nat.le_of_ble_eq_true rfl) (Nat.le_of_ble_eq_true rfl) dX12_isTrue_17
theorem dX12_falseAt_0 : decode cX12_falseAt 0 = .ok (.iload_n 1, 1) := by decide +kernel
theorem dX12_falseAt_1 : decode cX12_falseAt 1 = .ok (.ifCond .lt 8, 3) := by decide +kernel
theorem dX12_falseAt_4 : decode cX12_falseAt 4 = .ok (.iload_n 1, 1) := by decide +kernel
theorem dX12_falseAt_5 : decode cX12_falseAt 5 = .ok (.iconst 1, 1) := by decide +kernel
theorem dX12_falseAt_6 : decode cX12_falseAt 6 = .ok (.if_icmp .le 9, 3) := by decide +kernel
theorem dX12_falseAt_9 : decode cX12_falseAt 9 = .ok (.aload_n 0, 1) := by decide +kernel
theorem dX12_falseAt_10 : decode cX12_falseAt 10 = .ok (.iconst 1, 1) := by decide +kernel
theorem dX12_falseAt_11 : decode cX12_falseAt 11 = .ok (.invokevirtual 105, 3) := by decide +kernel
theorem dX12_falseAt_14 : decode cX12_falseAt 14 = .ok (.ireturn, 1) := by decide +kernel
theorem dX12_falseAt_15 : decode cX12_falseAt 15 = .ok (.aload_n 0, 1) := by decide +kernel
theorem dX12_falseAt_16 : decode cX12_falseAt 16 = .ok (.getfield 7, 3) := by decide +kernel
theorem dX12_falseAt_19 : decode cX12_falseAt 19 = .ok (.bipush 6, 2) := by decide +kernel
theorem dX12_falseAt_21 : decode cX12_falseAt 21 = .ok (.iaload, 1) := by decide +kernel
theorem dX12_falseAt_22 : decode cX12_falseAt 22 = .ok (.iconst (-1), 1) := by decide +kernel
theorem dX12_falseAt_23 : decode cX12_falseAt 23 = .ok (.if_icmp .ne 10, 3) := by decide +kernel
theorem dX12_falseAt_26 : decode cX12_falseAt 26 = .ok (.aload_n 0, 1) := by decide +kernel
theorem dX12_falseAt_27 : decode cX12_falseAt 27 = .ok (.bipush 6, 2) := by decide +kernel
theorem dX12_falseAt_29 : decode cX12_falseAt 29 = .ok (.invokevirtual 105, 3) := by decide +kernel
theorem dX12_falseAt_32 : decode cX12_falseAt 32 = .ok (.ireturn, 1) := by decide +kernel
theorem dX12_falseAt_33 : decode cX12_falseAt 33 = .ok (.aload_n 0, 1) := by decide +kernel
theorem dX12_falseAt_34 : decode cX12_falseAt 34 = .ok (.invokevirtual 371, 3) := by decide +kernel
theorem dX12_falseAt_37 : decode cX12_falseAt 37 = .ok (.aload_n 0, 1) := by decide +kernel
theorem dX12_falseAt_38 : decode cX12_falseAt 38 = .ok (.iload_n 1, 1) := by decide +kernel
theorem dX12_falseAt_39 : decode cX12_falseAt 39 = .ok (.ifCond .ne 10, 3) := by decide +kernel
theorem dX12_falseAt_42 : decode cX12_falseAt 42 = .ok (.aload_n 0, 1) := by decide +kernel
theorem dX12_falseAt_43 : decode cX12_falseAt 43 = .ok (.getfield 362, 3) := by decide +kernel
theorem dX12_falseAt_46 : decode cX12_falseAt 46 = .ok (.goto 7, 3) := by decide +kernel
theorem dX12_falseAt_49 : decode cX12_falseAt 49 = .ok (.aload_n 0, 1) := by decide +kernel
theorem dX12_falseAt_50 : decode cX12_falseAt 50 = .ok (.getfield 365, 3) := by decide +kernel
theorem dX12_falseAt_53 : decode cX12_falseAt 53 = .ok (.invokevirtual 274, 3) := by decide +kernel
theorem dX12_falseAt_56 : decode cX12_falseAt 56 = .ok (.ireturn, 1) := by decide +kernel
theorem mi_X12_falseAt : MI yX12_falseAt cX12_falseAt 2 (some FieldType.int) 1 := ⟨w_1850, w_118, by decide +kernel, by decide +kernel, by decide +kernel⟩
set_option maxRecDepth 100000 in
set_option maxHeartbeats 4000000 in
theorem C_X12_falseAt (G : GG) (l : Launch) (th : Nat) (p0 : Int32) (S : St) (Q : Int32 → (Nat → Nat → Int32) → Prop) (hp : P_X12_falseAt th p0 S Q) : Ctr G l yX12_falseAt cX12_falseAt 2 (some FieldType.int) 2 42 0 0 [.ref th, .int p0] S (fun (v : Option Value) (S9 : St) => ∃ (r : Int32) (I9 : Nat → Nat → Int32), v = some (.int r) ∧ S9 = wI S I9 ∧ Q r I9) := by
  generalize hQQ : (fun (v : Option Value) (S9 : St) => ∃ (r : Int32) (I9 : Nat → Nat → Int32), v = some (.int r) ∧ S9 = wI S I9 ∧ Q r I9) = QQ
  unfold P_X12_falseAt at hp
  refine Ctr.of (by decide) (Nat.le_of_ble_eq_true rfl) ?_
  intro p e s m args below meth c ls B hr hlk hin hl hH
  generalize hlocs0 : ([] : List Loc) = locs at hH ⊢
  have hx := B.1
  have hb := B.2.1
  have hl : lv_has ls 2 [(0, .ref th), (1, .int p0)] := hl
  obtain ⟨hk_th, hp⟩ := hp
  refine lv_iload_n (pc := 0) hx hb dX12_falseAt_0 rfl (lv_at hl 1 rfl) ?_
  obtain ⟨J_2, hj_2, hp⟩ := hp
  have kj_2 : ∀  (H : Heap) (locs : List Loc) (ls : Array Slot), J_2  → Hp G (FA S s.heap.size) s.heap S H locs → lv_has ls 2 [(0, .ref th)] → Wm G p l e { frames := 2, cells := 0, slots := 0, locals := 42 } s m args below meth c S QQ 0 0 H locs 0 0 (F0 m 9 ls []) := by
    intro  H locs ls hq9 hH hl
    have hp := hj_2  hq9
    refine lv_aload_n (pc := 9) hx hb dX12_falseAt_9 rfl (lv_at hl 0 rfl) ?_
    refine lv_iconst (pc := 10) (v := 1) hx hb dX12_falseAt_10 (by decide) ?_
    refine sx_V (pc := 11) (As := [.int 1]) (rest := []) B hH hl.1 (C_X12_refuse G l th 1 _ _ hp) mi_X12_refuse coX12 hk_th w_1539 w_51 w_1537 rfl rfl ⟨Nat.le_of_ble_eq_true rfl, Nat.le_of_ble_eq_true rfl⟩ (Nat.le_of_ble_eq_true rfl) ⟨Nat.le_of_ble_eq_true rfl, Nat.le_of_ble_eq_true rfl⟩ dX12_falseAt_11 (fun v S1 H locs hq hH => ?_)
    obtain ⟨r_3, F_3, rfl, e9, hp⟩ := hq
    rw [e9] at hH
    have hH : Hp G (FA S s.heap.size) s.heap (wI S F_3) H locs := hH
    refine W.eq (g2 := F0 m 14 ls [.int r_3]) rfl ?_
    exact sx_iret (pc := 14) B hH hr hlk (by rw [← hQQ]; exact ⟨_, F_3, rfl, rfl, hp⟩) (Nat.le_of_ble_eq_true rfl) (Nat.le_of_ble_eq_true rfl) dX12_falseAt_14
  refine lv_if_lt (pc := 1) (tgt := 9) hx hb dX12_falseAt_1 (by decide) (fun cc_1 => ?_) (fun cc_1 => ?_)
  · have hp := hp.1 cc_1
    exact kj_2  _ _ _ hp hH (lv_sub hl [0] rfl)
  · have hp := hp.2 cc_1
    refine lv_iload_n (pc := 4) hx hb dX12_falseAt_4 rfl (lv_at hl 1 rfl) ?_
    refine lv_iconst (pc := 5) (v := 1) hx hb dX12_falseAt_5 (by decide) ?_
    refine lv_icmp_le (pc := 6) (tgt := 15) hx hb dX12_falseAt_6 (by decide) (fun cc_4 => ?_) (fun cc_4 => ?_)
    · have hp := hp.1 cc_4
      refine lv_aload_n (pc := 15) hx hb dX12_falseAt_15 rfl (lv_at hl 0 rfl) ?_
      refine sx_getR (pc := 16) (j := 0) B hH hk_th coX12 rfl w_1304 rfl dX12_falseAt_16 ?_
      refine W.eq (g2 := F0 m 19 ls [va_rf (gR S th 0)]) rfl ?_
      obtain ⟨a_5, ha_5, hp⟩ := hp
      refine sx_nonnull (x := a_5) ha_5 ?_
      refine lv_bipush (pc := 19) (v := 6) hx hb dX12_falseAt_19 (by decide) ?_
      obtain ⟨hk_6, hp⟩ := hp
      obtain ⟨hn_7, hp⟩ := hp
      refine sx_iald (pc := 21) B hH hk_6 hn_7 dX12_falseAt_21 ?_
      refine W.eq (g2 := F0 m 22 ls [.int (gI S a_5 6)]) rfl ?_
      refine lv_iconst (pc := 22) (v := (-1)) hx hb dX12_falseAt_22 (by decide) ?_
      refine lv_icmp_ne (pc := 23) (tgt := 33) hx hb dX12_falseAt_23 (by decide) (fun cc_8 => ?_) (fun cc_8 => ?_)
      · have hp := hp.1 cc_8
        refine lv_aload_n (pc := 33) hx hb dX12_falseAt_33 rfl (lv_at hl 0 rfl) ?_
        refine sx_V (pc := 34) (As := []) (rest := []) B hH hl.1 (C_X12_findsLikes G l th _ _ hp) mi_X12_findsLikes coX12 hk_th w_1845 w_96 w_1843 rfl rfl ⟨Nat.le_of_ble_eq_true rfl, Nat.le_of_ble_eq_true rfl⟩ (Nat.le_of_ble_eq_true rfl) ⟨Nat.le_of_ble_eq_true rfl, Nat.le_of_ble_eq_true rfl⟩ dX12_falseAt_34 (fun v S1 H locs hq hH => ?_)
        obtain ⟨F_9, rfl, e9, hp⟩ := hq
        rw [e9] at hH
        have hH : Hp G (FA S s.heap.size) s.heap (wI S F_9) H locs := hH
        refine W.eq (g2 := F0 m 37 ls []) rfl ?_
        refine lv_aload_n (pc := 37) hx hb dX12_falseAt_37 rfl (lv_at hl 0 rfl) ?_
        refine lv_iload_n (pc := 38) hx hb dX12_falseAt_38 rfl (lv_at hl 1 rfl) ?_
        obtain ⟨J_11, hj_11, hp⟩ := hp
        have kj_11 : ∀ (t_12 : Int32) (H : Heap) (locs : List Loc) (ls : Array Slot), J_11 t_12 → Hp G (FA S s.heap.size) s.heap (wI S F_9) H locs → lv_has ls 2 [] → Wm G p l e { frames := 2, cells := 0, slots := 0, locals := 42 } s m args below meth c S QQ 0 0 H locs 0 0 (F0 m 53 ls [.int t_12, .ref th]) := by
          intro t_12 H locs ls hq9 hH hl
          have hp := hj_11 t_12 hq9
          refine sx_V (pc := 53) (As := [.int t_12]) (rest := []) B hH hl.1 (C_X12_orNone G l th t_12 _ _ hp) mi_X12_orNone coX12 hk_th w_1641 w_73 w_1639 rfl rfl ⟨Nat.le_of_ble_eq_true rfl, Nat.le_of_ble_eq_true rfl⟩ (Nat.le_of_ble_eq_true rfl) ⟨Nat.le_of_ble_eq_true rfl, Nat.le_of_ble_eq_true rfl⟩ dX12_falseAt_53 (fun v S1 H locs hq hH => ?_)
          obtain ⟨r_13, F_13, rfl, e9, hp⟩ := hq
          rw [e9] at hH
          have hH : Hp G (FA S s.heap.size) s.heap (wI S F_13) H locs := hH
          refine W.eq (g2 := F0 m 56 ls [.int r_13]) rfl ?_
          exact sx_iret (pc := 56) B hH hr hlk (by rw [← hQQ]; exact ⟨_, F_13, rfl, rfl, hp⟩) (Nat.le_of_ble_eq_true rfl) (Nat.le_of_ble_eq_true rfl) dX12_falseAt_56
        refine lv_if_ne (pc := 39) (tgt := 49) hx hb dX12_falseAt_39 (by decide) (fun cc_10 => ?_) (fun cc_10 => ?_)
        · have hp := hp.1 cc_10
          refine lv_aload_n (pc := 49) hx hb dX12_falseAt_49 rfl (lv_at hl 0 rfl) ?_
          refine sx_getI (pc := 50) (j := 35) B hH hk_th coX12 rfl w_1339 rfl dX12_falseAt_50 ?_
          refine W.eq (g2 := F0 m 53 ls [.int (F_9 th 35), .ref th]) rfl ?_
          exact kj_11 _ _ _ _ hp hH (lv_sub hl [] rfl)
        · have hp := hp.2 cc_10
          refine lv_aload_n (pc := 42) hx hb dX12_falseAt_42 rfl (lv_at hl 0 rfl) ?_
          refine sx_getI (pc := 43) (j := 34) B hH hk_th coX12 rfl w_1338 rfl dX12_falseAt_43 ?_
          refine W.eq (g2 := F0 m 46 ls [.int (F_9 th 34), .ref th]) rfl ?_
          refine lv_goto (pc := 46) (tgt := 53) hx hb dX12_falseAt_46 (by decide) ?_
          exact kj_11 _ _ _ _ hp hH (lv_sub hl [] rfl)
      · have hp := hp.2 cc_8
        refine lv_aload_n (pc := 26) hx hb dX12_falseAt_26 rfl (lv_at hl 0 rfl) ?_
        refine lv_bipush (pc := 27) (v := 6) hx hb dX12_falseAt_27 (by decide) ?_
        refine sx_V (pc := 29) (As := [.int 6]) (rest := []) B hH hl.1 (C_X12_refuse G l th 6 _ _ hp) mi_X12_refuse coX12 hk_th w_1539 w_51 w_1537 rfl rfl ⟨Nat.le_of_ble_eq_true rfl, Nat.le_of_ble_eq_true rfl⟩ (Nat.le_of_ble_eq_true rfl) ⟨Nat.le_of_ble_eq_true rfl, Nat.le_of_ble_eq_true rfl⟩ dX12_falseAt_29 (fun v S1 H locs hq hH => ?_)
        obtain ⟨r_14, F_14, rfl, e9, hp⟩ := hq
        rw [e9] at hH
        have hH : Hp G (FA S s.heap.size) s.heap (wI S F_14) H locs := hH
        refine W.eq (g2 := F0 m 32 ls [.int r_14]) rfl ?_
        exact sx_iret (pc := 32) B hH hr hlk (by rw [← hQQ]; exact ⟨_, F_14, rfl, rfl, hp⟩) (Nat.le_of_ble_eq_true rfl) (Nat.le_of_ble_eq_true rfl) dX12_falseAt_32
    · have hp := hp.2 cc_4
      exact kj_2  _ _ _ hp hH (lv_sub hl [0] rfl)
theorem dX12_repeats_0 : decode cX12_repeats 0 = .ok (.aload_n 0, 1) := by decide +kernel
theorem dX12_repeats_1 : decode cX12_repeats 1 = .ok (.getfield 7, 3) := by decide +kernel
theorem dX12_repeats_4 : decode cX12_repeats 4 = .ok (.bipush 6, 2) := by decide +kernel
theorem dX12_repeats_6 : decode cX12_repeats 6 = .ok (.iaload, 1) := by decide +kernel
theorem dX12_repeats_7 : decode cX12_repeats 7 = .ok (.iconst (-1), 1) := by decide +kernel
theorem dX12_repeats_8 : decode cX12_repeats 8 = .ok (.if_icmp .ne 10, 3) := by decide +kernel
theorem dX12_repeats_11 : decode cX12_repeats 11 = .ok (.aload_n 0, 1) := by decide +kernel
theorem dX12_repeats_12 : decode cX12_repeats 12 = .ok (.bipush 6, 2) := by decide +kernel
theorem dX12_repeats_14 : decode cX12_repeats 14 = .ok (.invokevirtual 105, 3) := by decide +kernel
theorem dX12_repeats_17 : decode cX12_repeats 17 = .ok (.ireturn, 1) := by decide +kernel
theorem dX12_repeats_18 : decode cX12_repeats 18 = .ok (.aload_n 0, 1) := by decide +kernel
theorem dX12_repeats_19 : decode cX12_repeats 19 = .ok (.invokevirtual 371, 3) := by decide +kernel
theorem dX12_repeats_22 : decode cX12_repeats 22 = .ok (.aload_n 0, 1) := by decide +kernel
theorem dX12_repeats_23 : decode cX12_repeats 23 = .ok (.aload_n 0, 1) := by decide +kernel
theorem dX12_repeats_24 : decode cX12_repeats 24 = .ok (.getfield 368, 3) := by decide +kernel
theorem dX12_repeats_27 : decode cX12_repeats 27 = .ok (.invokevirtual 109, 3) := by decide +kernel
theorem dX12_repeats_30 : decode cX12_repeats 30 = .ok (.ireturn, 1) := by decide +kernel
theorem mi_X12_repeats : MI yX12_repeats cX12_repeats 1 (some FieldType.int) 0 := ⟨w_1854, w_118, by decide +kernel, by decide +kernel, by decide +kernel⟩
set_option maxRecDepth 100000 in
set_option maxHeartbeats 4000000 in
theorem C_X12_repeats (G : GG) (l : Launch) (th : Nat) (S : St) (Q : Int32 → (Nat → Nat → Int32) → Prop) (hp : P_X12_repeats th S Q) : Ctr G l yX12_repeats cX12_repeats 1 (some FieldType.int) 1 23 0 0 [.ref th] S (fun (v : Option Value) (S9 : St) => ∃ (r : Int32) (I9 : Nat → Nat → Int32), v = some (.int r) ∧ S9 = wI S I9 ∧ Q r I9) := by
  generalize hQQ : (fun (v : Option Value) (S9 : St) => ∃ (r : Int32) (I9 : Nat → Nat → Int32), v = some (.int r) ∧ S9 = wI S I9 ∧ Q r I9) = QQ
  unfold P_X12_repeats at hp
  refine Ctr.of (by decide) (Nat.le_of_ble_eq_true rfl) ?_
  intro p e s m args below meth c ls B hr hlk hin hl hH
  generalize hlocs0 : ([] : List Loc) = locs at hH ⊢
  have hx := B.1
  have hb := B.2.1
  have hl : lv_has ls 1 [(0, .ref th)] := hl
  obtain ⟨hk_th, hp⟩ := hp
  refine lv_aload_n (pc := 0) hx hb dX12_repeats_0 rfl (lv_at hl 0 rfl) ?_
  refine sx_getR (pc := 1) (j := 0) B hH hk_th coX12 rfl w_1304 rfl dX12_repeats_1 ?_
  refine W.eq (g2 := F0 m 4 ls [va_rf (gR S th 0)]) rfl ?_
  obtain ⟨a_1, ha_1, hp⟩ := hp
  refine sx_nonnull (x := a_1) ha_1 ?_
  refine lv_bipush (pc := 4) (v := 6) hx hb dX12_repeats_4 (by decide) ?_
  obtain ⟨hk_2, hp⟩ := hp
  obtain ⟨hn_3, hp⟩ := hp
  refine sx_iald (pc := 6) B hH hk_2 hn_3 dX12_repeats_6 ?_
  refine W.eq (g2 := F0 m 7 ls [.int (gI S a_1 6)]) rfl ?_
  refine lv_iconst (pc := 7) (v := (-1)) hx hb dX12_repeats_7 (by decide) ?_
  refine lv_icmp_ne (pc := 8) (tgt := 18) hx hb dX12_repeats_8 (by decide) (fun cc_4 => ?_) (fun cc_4 => ?_)
  · have hp := hp.1 cc_4
    refine lv_aload_n (pc := 18) hx hb dX12_repeats_18 rfl (lv_at hl 0 rfl) ?_
    refine sx_V (pc := 19) (As := []) (rest := []) B hH hl.1 (C_X12_findsLikes G l th _ _ hp) mi_X12_findsLikes coX12 hk_th w_1845 w_96 w_1843 rfl rfl ⟨Nat.le_of_ble_eq_true rfl, Nat.le_of_ble_eq_true rfl⟩ (Nat.le_of_ble_eq_true rfl) ⟨Nat.le_of_ble_eq_true rfl, Nat.le_of_ble_eq_true rfl⟩ dX12_repeats_19 (fun v S1 H locs hq hH => ?_)
    obtain ⟨F_5, rfl, e9, hp⟩ := hq
    rw [e9] at hH
    have hH : Hp G (FA S s.heap.size) s.heap (wI S F_5) H locs := hH
    refine W.eq (g2 := F0 m 22 ls []) rfl ?_
    refine lv_aload_n (pc := 22) hx hb dX12_repeats_22 rfl (lv_at hl 0 rfl) ?_
    refine lv_aload_n (pc := 23) hx hb dX12_repeats_23 rfl (lv_at hl 0 rfl) ?_
    refine sx_getI (pc := 24) (j := 36) B hH hk_th coX12 rfl w_1340 rfl dX12_repeats_24 ?_
    refine W.eq (g2 := F0 m 27 ls [.int (F_5 th 36), .ref th]) rfl ?_
    refine sx_V (pc := 27) (As := [.int (F_5 th 36)]) (rest := []) B hH hl.1 (C_X12_gives G l th (F_5 th 36) _ _ hp) mi_X12_gives coX12 hk_th w_1617 w_69 w_1615 rfl rfl ⟨Nat.le_of_ble_eq_true rfl, Nat.le_of_ble_eq_true rfl⟩ (Nat.le_of_ble_eq_true rfl) ⟨Nat.le_of_ble_eq_true rfl, Nat.le_of_ble_eq_true rfl⟩ dX12_repeats_27 (fun v S1 H locs hq hH => ?_)
    obtain ⟨r_6, F_6, rfl, e9, hp⟩ := hq
    rw [e9] at hH
    have hH : Hp G (FA S s.heap.size) s.heap (wI S F_6) H locs := hH
    refine W.eq (g2 := F0 m 30 ls [.int r_6]) rfl ?_
    exact sx_iret (pc := 30) B hH hr hlk (by rw [← hQQ]; exact ⟨_, F_6, rfl, rfl, hp⟩) (Nat.le_of_ble_eq_true rfl) (Nat.le_of_ble_eq_true rfl) dX12_repeats_30
  · have hp := hp.2 cc_4
    refine lv_aload_n (pc := 11) hx hb dX12_repeats_11 rfl (lv_at hl 0 rfl) ?_
    refine lv_bipush (pc := 12) (v := 6) hx hb dX12_repeats_12 (by decide) ?_
    refine sx_V (pc := 14) (As := [.int 6]) (rest := []) B hH hl.1 (C_X12_refuse G l th 6 _ _ hp) mi_X12_refuse coX12 hk_th w_1539 w_51 w_1537 rfl rfl ⟨Nat.le_of_ble_eq_true rfl, Nat.le_of_ble_eq_true rfl⟩ (Nat.le_of_ble_eq_true rfl) ⟨Nat.le_of_ble_eq_true rfl, Nat.le_of_ble_eq_true rfl⟩ dX12_repeats_14 (fun v S1 H locs hq hH => ?_)
    obtain ⟨r_7, F_7, rfl, e9, hp⟩ := hq
    rw [e9] at hH
    have hH : Hp G (FA S s.heap.size) s.heap (wI S F_7) H locs := hH
    refine W.eq (g2 := F0 m 17 ls [.int r_7]) rfl ?_
    exact sx_iret (pc := 17) B hH hr hlk (by rw [← hQQ]; exact ⟨_, F_7, rfl, rfl, hp⟩) (Nat.le_of_ble_eq_true rfl) (Nat.le_of_ble_eq_true rfl) dX12_repeats_17
theorem dX12_placeIn_0 : decode cX12_placeIn 0 = .ok (.aload_n 0, 1) := by decide +kernel
theorem dX12_placeIn_1 : decode cX12_placeIn 1 = .ok (.iload_n 2, 1) := by decide +kernel
theorem dX12_placeIn_2 : decode cX12_placeIn 2 = .ok (.aload_n 0, 1) := by decide +kernel
theorem dX12_placeIn_3 : decode cX12_placeIn 3 = .ok (.getfield 50, 3) := by decide +kernel
theorem dX12_placeIn_6 : decode cX12_placeIn 6 = .ok (.invokevirtual 266, 3) := by decide +kernel
theorem dX12_placeIn_9 : decode cX12_placeIn 9 = .ok (.iconst 0, 1) := by decide +kernel
theorem dX12_placeIn_10 : decode cX12_placeIn 10 = .ok (.istore_n 3, 1) := by decide +kernel
theorem dX12_placeIn_11 : decode cX12_placeIn 11 = .ok (.aload_n 0, 1) := by decide +kernel
theorem dX12_placeIn_12 : decode cX12_placeIn 12 = .ok (.getfield 50, 3) := by decide +kernel
theorem dX12_placeIn_15 : decode cX12_placeIn 15 = .ok (.iload_n 3, 1) := by decide +kernel
theorem dX12_placeIn_16 : decode cX12_placeIn 16 = .ok (.iaload, 1) := by decide +kernel
theorem dX12_placeIn_17 : decode cX12_placeIn 17 = .ok (.iload_n 1, 1) := by decide +kernel
theorem dX12_placeIn_18 : decode cX12_placeIn 18 = .ok (.iconst 1, 1) := by decide +kernel
theorem dX12_placeIn_19 : decode cX12_placeIn 19 = .ok (.isub, 1) := by decide +kernel
theorem dX12_placeIn_20 : decode cX12_placeIn 20 = .ok (.if_icmp .eq 9, 3) := by decide +kernel
theorem dX12_placeIn_23 : decode cX12_placeIn 23 = .ok (.iinc 3 1, 3) := by decide +kernel
theorem dX12_placeIn_26 : decode cX12_placeIn 26 = .ok (.goto (-15), 3) := by decide +kernel
theorem dX12_placeIn_29 : decode cX12_placeIn 29 = .ok (.iload_n 3, 1) := by decide +kernel
theorem dX12_placeIn_30 : decode cX12_placeIn 30 = .ok (.iconst 1, 1) := by decide +kernel
theorem dX12_placeIn_31 : decode cX12_placeIn 31 = .ok (.iadd, 1) := by decide +kernel
theorem dX12_placeIn_32 : decode cX12_placeIn 32 = .ok (.ireturn, 1) := by decide +kernel
theorem mi_X12_placeIn : MI yX12_placeIn cX12_placeIn 4 (some FieldType.int) 2 := ⟨w_1862, w_118, by decide +kernel, by decide +kernel, by decide +kernel⟩
set_option maxRecDepth 100000 in
set_option maxHeartbeats 4000000 in
theorem C_X12_placeIn (G : GG) (l : Launch) (th : Nat) (p0 : Int32) (p1 : Int32) (S : St) (Q : Int32 → (Nat → Nat → Int32) → Prop) (hp : P_X12_placeIn th p0 p1 S Q) : Ctr G l yX12_placeIn cX12_placeIn 4 (some FieldType.int) 2 51 0 0 [.ref th, .int p0, .int p1] S (fun (v : Option Value) (S9 : St) => ∃ (r : Int32) (I9 : Nat → Nat → Int32), v = some (.int r) ∧ S9 = wI S I9 ∧ Q r I9) := by
  generalize hQQ : (fun (v : Option Value) (S9 : St) => ∃ (r : Int32) (I9 : Nat → Nat → Int32), v = some (.int r) ∧ S9 = wI S I9 ∧ Q r I9) = QQ
  unfold P_X12_placeIn at hp
  refine Ctr.of (by decide) (Nat.le_of_ble_eq_true rfl) ?_
  intro p e s m args below meth c ls B hr hlk hin hl hH
  generalize hlocs0 : ([] : List Loc) = locs at hH ⊢
  have hx := B.1
  have hb := B.2.1
  have hl : lv_has ls 4 [(0, .ref th), (1, .int p0), (2, .int p1)] := hl
  obtain ⟨hk_th, hp⟩ := hp
  refine lv_aload_n (pc := 0) hx hb dX12_placeIn_0 rfl (lv_at hl 0 rfl) ?_
  refine lv_iload_n (pc := 1) hx hb dX12_placeIn_1 rfl (lv_at hl 2 rfl) ?_
  refine lv_aload_n (pc := 2) hx hb dX12_placeIn_2 rfl (lv_at hl 0 rfl) ?_
  refine sx_getR (pc := 3) (j := 24) B hH hk_th coX12 rfl w_1328 rfl dX12_placeIn_3 ?_
  refine W.eq (g2 := F0 m 6 ls [va_rf (gR S th 24), .int p1, .ref th]) rfl ?_
  obtain ⟨a_1, ha_1, hp⟩ := hp
  refine sx_nonnull (x := a_1) ha_1 ?_
  refine sx_V (pc := 6) (As := [.int p1, .ref a_1]) (rest := []) B hH hl.1 (C_X12_laysRow G l th p1 a_1 _ _ hp) mi_X12_laysRow coX12 hk_th w_1657 w_76 w_1655 rfl rfl ⟨Nat.le_of_ble_eq_true rfl, Nat.le_of_ble_eq_true rfl⟩ (Nat.le_of_ble_eq_true rfl) ⟨Nat.le_of_ble_eq_true rfl, Nat.le_of_ble_eq_true rfl⟩ dX12_placeIn_6 (fun v S1 H locs hq hH => ?_)
  obtain ⟨F_2, rfl, e9, hp⟩ := hq
  rw [e9] at hH
  have hH : Hp G (FA S s.heap.size) s.heap (wI S F_2) H locs := hH
  refine W.eq (g2 := F0 m 9 ls []) rfl ?_
  refine lv_iconst (pc := 9) (v := 0) hx hb dX12_placeIn_9 (by decide) ?_
  refine lv_istore_n (pc := 10) (lv' := [(3, .int 0), (0, .ref th), (1, .int p0), (2, .int p1)]) hx hb dX12_placeIn_10 rfl hl (by decide) rfl (fun ls hl => ?_)
  obtain ⟨I_3, ⟨k0_3, h0_3⟩, hst_3⟩ := hp
  have kl_3 : ∀ (n_3 : Nat) (x3_4 : Int32) (H : Heap) (locs : List Loc) (ls : Array Slot), I_3 n_3 x3_4 → Hp G (FA S s.heap.size) s.heap (wI S F_2) H locs → lv_has ls 4 [(0, .ref th), (1, .int p0), (3, .int x3_4)] → Wm G p l e { frames := 2, cells := 0, slots := 0, locals := 51 } s m args below meth c S QQ 0 0 H locs 0 0 (F0 m 11 ls []) := by
    intro n_3
    induction n_3 using Nat.strongRecOn with
    | ind n_3 ih_3 =>
      intro x3_4 H locs ls hq9 hH hl
      have hp := hst_3 n_3 x3_4 hq9
      refine lv_aload_n (pc := 11) hx hb dX12_placeIn_11 rfl (lv_at hl 0 rfl) ?_
      refine sx_getR (pc := 12) (j := 24) B hH hk_th coX12 rfl w_1328 rfl dX12_placeIn_12 ?_
      refine W.eq (g2 := F0 m 15 ls [va_rf (gR S th 24)]) rfl ?_
      refine sx_nonnull (x := a_1) ha_1 ?_
      refine lv_iload_n (pc := 15) hx hb dX12_placeIn_15 rfl (lv_at hl 2 rfl) ?_
      obtain ⟨hk_5, hp⟩ := hp
      obtain ⟨hn_6, hp⟩ := hp
      refine sx_iald (pc := 16) B hH hk_5 hn_6 dX12_placeIn_16 ?_
      refine W.eq (g2 := F0 m 17 ls [.int (F_2 a_1 x3_4.toNatClampNeg)]) rfl ?_
      refine lv_iload_n (pc := 17) hx hb dX12_placeIn_17 rfl (lv_at hl 1 rfl) ?_
      refine lv_iconst (pc := 18) (v := 1) hx hb dX12_placeIn_18 (by decide) ?_
      refine lv_isub (pc := 19) hx hb dX12_placeIn_19 ?_
      refine lv_icmp_eq (pc := 20) (tgt := 29) hx hb dX12_placeIn_20 (by decide) (fun cc_7 => ?_) (fun cc_7 => ?_)
      · have hp := hp.1 cc_7
        refine lv_iload_n (pc := 29) hx hb dX12_placeIn_29 rfl (lv_at hl 2 rfl) ?_
        refine lv_iconst (pc := 30) (v := 1) hx hb dX12_placeIn_30 (by decide) ?_
        refine lv_iadd (pc := 31) hx hb dX12_placeIn_31 ?_
        exact sx_iret (pc := 32) B hH hr hlk (by rw [← hQQ]; exact ⟨_, F_2, rfl, rfl, hp⟩) (Nat.le_of_ble_eq_true rfl) (Nat.le_of_ble_eq_true rfl) dX12_placeIn_32
      · have hp := hp.2 cc_7
        obtain ⟨v_8, ev_8⟩ : ∃ y : Int32, y = x3_4 + 1 := ⟨_, rfl⟩
        have hp := hp v_8 ev_8
        refine lv_iinc (pc := 23) (v := v_8) (lv' := [(3, .int v_8), (0, .ref th), (1, .int p0)]) hx hb dX12_placeIn_23 hl (k := 2) rfl (by rw [ev_8]; rfl) (by decide) rfl (fun ls hl => ?_)
        refine lv_goto (pc := 26) (tgt := 11) hx hb dX12_placeIn_26 (by decide) ?_
        obtain ⟨k9, hlt9, hp⟩ := hp
        exact ih_3 k9 hlt9 _ _ _ _ hp hH (lv_sub hl [1, 2, 0] rfl)
  exact kl_3 k0_3 _ _ _ _ h0_3 hH (lv_sub hl [1, 2, 0] rfl)
theorem dX12_place_0 : decode cX12_place 0 = .ok (.aload_n 0, 1) := by decide +kernel
theorem dX12_place_1 : decode cX12_place 1 = .ok (.iload_n 1, 1) := by decide +kernel
theorem dX12_place_2 : decode cX12_place 2 = .ok (.invokevirtual 280, 3) := by decide +kernel
theorem dX12_place_5 : decode cX12_place 5 = .ok (.ifCond .eq 29, 3) := by decide +kernel
theorem dX12_place_8 : decode cX12_place 8 = .ok (.iload_n 2, 1) := by decide +kernel
theorem dX12_place_9 : decode cX12_place 9 = .ok (.ifCond .lt 25, 3) := by decide +kernel
theorem dX12_place_12 : decode cX12_place 12 = .ok (.aload_n 0, 1) := by decide +kernel
theorem dX12_place_13 : decode cX12_place 13 = .ok (.getfield 7, 3) := by decide +kernel
theorem dX12_place_16 : decode cX12_place 16 = .ok (.bipush 6, 2) := by decide +kernel
theorem dX12_place_18 : decode cX12_place 18 = .ok (.iaload, 1) := by decide +kernel
theorem dX12_place_19 : decode cX12_place 19 = .ok (.iconst (-1), 1) := by decide +kernel
theorem dX12_place_20 : decode cX12_place 20 = .ok (.if_icmp .eq 20, 3) := by decide +kernel
theorem dX12_place_23 : decode cX12_place 23 = .ok (.iload_n 2, 1) := by decide +kernel
theorem dX12_place_24 : decode cX12_place 24 = .ok (.aload_n 0, 1) := by decide +kernel
theorem dX12_place_25 : decode cX12_place 25 = .ok (.getfield 7, 3) := by decide +kernel
theorem dX12_place_28 : decode cX12_place 28 = .ok (.bipush 6, 2) := by decide +kernel
theorem dX12_place_30 : decode cX12_place 30 = .ok (.iaload, 1) := by decide +kernel
theorem dX12_place_31 : decode cX12_place 31 = .ok (.if_icmp .le 9, 3) := by decide +kernel
theorem dX12_place_34 : decode cX12_place 34 = .ok (.aload_n 0, 1) := by decide +kernel
theorem dX12_place_35 : decode cX12_place 35 = .ok (.iconst 1, 1) := by decide +kernel
theorem dX12_place_36 : decode cX12_place 36 = .ok (.invokevirtual 105, 3) := by decide +kernel
theorem dX12_place_39 : decode cX12_place 39 = .ok (.ireturn, 1) := by decide +kernel
theorem dX12_place_40 : decode cX12_place 40 = .ok (.aload_n 0, 1) := by decide +kernel
theorem dX12_place_41 : decode cX12_place 41 = .ok (.getfield 7, 3) := by decide +kernel
theorem dX12_place_44 : decode cX12_place 44 = .ok (.bipush 6, 2) := by decide +kernel
theorem dX12_place_46 : decode cX12_place 46 = .ok (.iaload, 1) := by decide +kernel
theorem dX12_place_47 : decode cX12_place 47 = .ok (.iconst (-1), 1) := by decide +kernel
theorem dX12_place_48 : decode cX12_place 48 = .ok (.if_icmp .ne 12, 3) := by decide +kernel
theorem dX12_place_51 : decode cX12_place 51 = .ok (.aload_n 0, 1) := by decide +kernel
theorem dX12_place_52 : decode cX12_place 52 = .ok (.bipush 6, 2) := by decide +kernel
theorem dX12_place_54 : decode cX12_place 54 = .ok (.invokevirtual 105, 3) := by decide +kernel
theorem dX12_place_57 : decode cX12_place 57 = .ok (.goto 22, 3) := by decide +kernel
theorem dX12_place_60 : decode cX12_place 60 = .ok (.aload_n 0, 1) := by decide +kernel
theorem dX12_place_61 : decode cX12_place 61 = .ok (.aload_n 0, 1) := by decide +kernel
theorem dX12_place_62 : decode cX12_place 62 = .ok (.iload_n 1, 1) := by decide +kernel
theorem dX12_place_63 : decode cX12_place 63 = .ok (.aload_n 0, 1) := by decide +kernel
theorem dX12_place_64 : decode cX12_place 64 = .ok (.getfield 7, 3) := by decide +kernel
theorem dX12_place_67 : decode cX12_place 67 = .ok (.sipush 410, 3) := by decide +kernel
theorem dX12_place_70 : decode cX12_place 70 = .ok (.iload_n 2, 1) := by decide +kernel
theorem dX12_place_71 : decode cX12_place 71 = .ok (.iadd, 1) := by decide +kernel
theorem dX12_place_72 : decode cX12_place 72 = .ok (.iaload, 1) := by decide +kernel
theorem dX12_place_73 : decode cX12_place 73 = .ok (.invokevirtual 374, 3) := by decide +kernel
theorem dX12_place_76 : decode cX12_place 76 = .ok (.invokevirtual 109, 3) := by decide +kernel
theorem dX12_place_79 : decode cX12_place 79 = .ok (.ireturn, 1) := by decide +kernel
theorem mi_X12_place : MI yX12_place cX12_place 3 (some FieldType.int) 2 := ⟨w_1858, w_118, by decide +kernel, by decide +kernel, by decide +kernel⟩
set_option maxRecDepth 100000 in
set_option maxHeartbeats 4000000 in
theorem C_X12_place (G : GG) (l : Launch) (th : Nat) (p0 : Int32) (p1 : Int32) (S : St) (Q : Int32 → (Nat → Nat → Int32) → Prop) (hp : P_X12_place th p0 p1 S Q) : Ctr G l yX12_place cX12_place 3 (some FieldType.int) 3 74 0 0 [.ref th, .int p0, .int p1] S (fun (v : Option Value) (S9 : St) => ∃ (r : Int32) (I9 : Nat → Nat → Int32), v = some (.int r) ∧ S9 = wI S I9 ∧ Q r I9) := by
  generalize hQQ : (fun (v : Option Value) (S9 : St) => ∃ (r : Int32) (I9 : Nat → Nat → Int32), v = some (.int r) ∧ S9 = wI S I9 ∧ Q r I9) = QQ
  unfold P_X12_place at hp
  refine Ctr.of (by decide) (Nat.le_of_ble_eq_true rfl) ?_
  intro p e s m args below meth c ls B hr hlk hin hl hH
  generalize hlocs0 : ([] : List Loc) = locs at hH ⊢
  have hx := B.1
  have hb := B.2.1
  have hl : lv_has ls 3 [(0, .ref th), (1, .int p0), (2, .int p1)] := hl
  obtain ⟨hk_th, hp⟩ := hp
  refine lv_aload_n (pc := 0) hx hb dX12_place_0 rfl (lv_at hl 0 rfl) ?_
  refine lv_iload_n (pc := 1) hx hb dX12_place_1 rfl (lv_at hl 1 rfl) ?_
  refine sx_V (pc := 2) (As := [.int p0]) (rest := []) B hH hl.1 (C_X12_isBell G l th p0 _ _ hp) mi_X12_isBell coX12 hk_th w_1653 w_75 w_1651 rfl rfl ⟨Nat.le_of_ble_eq_true rfl, Nat.le_of_ble_eq_true rfl⟩ (Nat.le_of_ble_eq_true rfl) ⟨Nat.le_of_ble_eq_true rfl, Nat.le_of_ble_eq_true rfl⟩ dX12_place_2 (fun v S1 H locs hq hH => ?_)
  obtain ⟨r_1, rfl, e9, hp⟩ := hq
  rw [e9] at hH
  refine W.eq (g2 := F0 m 5 ls [.int r_1]) rfl ?_
  obtain ⟨J_3, hj_3, hp⟩ := hp
  have kj_3 : ∀  (H : Heap) (locs : List Loc) (ls : Array Slot), J_3  → Hp G (FA S s.heap.size) s.heap S H locs → lv_has ls 3 [(0, .ref th)] → Wm G p l e { frames := 3, cells := 0, slots := 0, locals := 74 } s m args below meth c S QQ 0 0 H locs 0 0 (F0 m 34 ls []) := by
    intro  H locs ls hq9 hH hl
    have hp := hj_3  hq9
    refine lv_aload_n (pc := 34) hx hb dX12_place_34 rfl (lv_at hl 0 rfl) ?_
    refine lv_iconst (pc := 35) (v := 1) hx hb dX12_place_35 (by decide) ?_
    refine sx_V (pc := 36) (As := [.int 1]) (rest := []) B hH hl.1 (C_X12_refuse G l th 1 _ _ hp) mi_X12_refuse coX12 hk_th w_1539 w_51 w_1537 rfl rfl ⟨Nat.le_of_ble_eq_true rfl, Nat.le_of_ble_eq_true rfl⟩ (Nat.le_of_ble_eq_true rfl) ⟨Nat.le_of_ble_eq_true rfl, Nat.le_of_ble_eq_true rfl⟩ dX12_place_36 (fun v S1 H locs hq hH => ?_)
    obtain ⟨r_4, F_4, rfl, e9, hp⟩ := hq
    rw [e9] at hH
    have hH : Hp G (FA S s.heap.size) s.heap (wI S F_4) H locs := hH
    refine W.eq (g2 := F0 m 39 ls [.int r_4]) rfl ?_
    exact sx_iret (pc := 39) B hH hr hlk (by rw [← hQQ]; exact ⟨_, F_4, rfl, rfl, hp⟩) (Nat.le_of_ble_eq_true rfl) (Nat.le_of_ble_eq_true rfl) dX12_place_39
  refine lv_if_eq (pc := 5) (tgt := 34) hx hb dX12_place_5 (by decide) (fun cc_2 => ?_) (fun cc_2 => ?_)
  · have hp := hp.1 cc_2
    exact kj_3  _ _ _ hp hH (lv_sub hl [0] rfl)
  · have hp := hp.2 cc_2
    refine lv_iload_n (pc := 8) hx hb dX12_place_8 rfl (lv_at hl 2 rfl) ?_
    refine lv_if_lt (pc := 9) (tgt := 34) hx hb dX12_place_9 (by decide) (fun cc_5 => ?_) (fun cc_5 => ?_)
    · have hp := hp.1 cc_5
      exact kj_3  _ _ _ hp hH (lv_sub hl [0] rfl)
    · have hp := hp.2 cc_5
      refine lv_aload_n (pc := 12) hx hb dX12_place_12 rfl (lv_at hl 0 rfl) ?_
      refine sx_getR (pc := 13) (j := 0) B hH hk_th coX12 rfl w_1304 rfl dX12_place_13 ?_
      refine W.eq (g2 := F0 m 16 ls [va_rf (gR S th 0)]) rfl ?_
      obtain ⟨a_6, ha_6, hp⟩ := hp
      refine sx_nonnull (x := a_6) ha_6 ?_
      refine lv_bipush (pc := 16) (v := 6) hx hb dX12_place_16 (by decide) ?_
      obtain ⟨hk_7, hp⟩ := hp
      obtain ⟨hn_8, hp⟩ := hp
      refine sx_iald (pc := 18) B hH hk_7 hn_8 dX12_place_18 ?_
      refine W.eq (g2 := F0 m 19 ls [.int (gI S a_6 6)]) rfl ?_
      refine lv_iconst (pc := 19) (v := (-1)) hx hb dX12_place_19 (by decide) ?_
      obtain ⟨J_10, hj_10, hp⟩ := hp
      have kj_10 : ∀  (H : Heap) (locs : List Loc) (ls : Array Slot), J_10  → Hp G (FA S s.heap.size) s.heap S H locs → lv_has ls 3 [(0, .ref th), (1, .int p0), (2, .int p1)] → Wm G p l e { frames := 3, cells := 0, slots := 0, locals := 74 } s m args below meth c S QQ 0 0 H locs 0 0 (F0 m 40 ls []) := by
        intro  H locs ls hq9 hH hl
        have hp := hj_10  hq9
        refine lv_aload_n (pc := 40) hx hb dX12_place_40 rfl (lv_at hl 0 rfl) ?_
        refine sx_getR (pc := 41) (j := 0) B hH hk_th coX12 rfl w_1304 rfl dX12_place_41 ?_
        refine W.eq (g2 := F0 m 44 ls [va_rf (gR S th 0)]) rfl ?_
        refine sx_nonnull (x := a_6) ha_6 ?_
        refine lv_bipush (pc := 44) (v := 6) hx hb dX12_place_44 (by decide) ?_
        refine sx_iald (pc := 46) B hH hk_7 hn_8 dX12_place_46 ?_
        refine W.eq (g2 := F0 m 47 ls [.int (gI S a_6 6)]) rfl ?_
        refine lv_iconst (pc := 47) (v := (-1)) hx hb dX12_place_47 (by decide) ?_
        refine lv_icmp_ne (pc := 48) (tgt := 60) hx hb dX12_place_48 (by decide) (fun cc_11 => ?_) (fun cc_11 => ?_)
        · have hp := hp.1 cc_11
          refine lv_aload_n (pc := 60) hx hb dX12_place_60 rfl (lv_at hl 0 rfl) ?_
          refine lv_aload_n (pc := 61) hx hb dX12_place_61 rfl (lv_at hl 0 rfl) ?_
          refine lv_iload_n (pc := 62) hx hb dX12_place_62 rfl (lv_at hl 1 rfl) ?_
          refine lv_aload_n (pc := 63) hx hb dX12_place_63 rfl (lv_at hl 0 rfl) ?_
          refine sx_getR (pc := 64) (j := 0) B hH hk_th coX12 rfl w_1304 rfl dX12_place_64 ?_
          refine W.eq (g2 := F0 m 67 ls [va_rf (gR S th 0), .int p0, .ref th, .ref th]) rfl ?_
          refine sx_nonnull (x := a_6) ha_6 ?_
          refine lv_sipush (pc := 67) (v := 410) hx hb dX12_place_67 (by decide) ?_
          refine lv_iload_n (pc := 70) hx hb dX12_place_70 rfl (lv_at hl 2 rfl) ?_
          refine lv_iadd (pc := 71) hx hb dX12_place_71 ?_
          obtain ⟨hn_12, hp⟩ := hp
          refine sx_iald (pc := 72) B hH hk_7 hn_12 dX12_place_72 ?_
          refine W.eq (g2 := F0 m 73 ls [.int (gI S a_6 ((410 + p1).toNatClampNeg)), .int p0, .ref th, .ref th]) rfl ?_
          refine sx_V (pc := 73) (As := [.int p0, .int (gI S a_6 ((410 + p1).toNatClampNeg))]) (rest := [.ref th]) B hH hl.1 (C_X12_placeIn G l th p0 (gI S a_6 ((410 + p1).toNatClampNeg)) _ _ hp) mi_X12_placeIn coX12 hk_th w_1861 w_97 w_1859 rfl rfl ⟨Nat.le_of_ble_eq_true rfl, Nat.le_of_ble_eq_true rfl⟩ (Nat.le_of_ble_eq_true rfl) ⟨Nat.le_of_ble_eq_true rfl, Nat.le_of_ble_eq_true rfl⟩ dX12_place_73 (fun v S1 H locs hq hH => ?_)
          obtain ⟨r_13, F_13, rfl, e9, hp⟩ := hq
          rw [e9] at hH
          have hH : Hp G (FA S s.heap.size) s.heap (wI S F_13) H locs := hH
          refine W.eq (g2 := F0 m 76 ls [.int r_13, .ref th]) rfl ?_
          refine sx_V (pc := 76) (As := [.int r_13]) (rest := []) B hH hl.1 (C_X12_gives G l th r_13 _ _ hp) mi_X12_gives coX12 hk_th w_1617 w_69 w_1615 rfl rfl ⟨Nat.le_of_ble_eq_true rfl, Nat.le_of_ble_eq_true rfl⟩ (Nat.le_of_ble_eq_true rfl) ⟨Nat.le_of_ble_eq_true rfl, Nat.le_of_ble_eq_true rfl⟩ dX12_place_76 (fun v S1 H locs hq hH => ?_)
          obtain ⟨r_14, F_14, rfl, e9, hp⟩ := hq
          rw [e9] at hH
          have hH : Hp G (FA S s.heap.size) s.heap (wI S F_14) H locs := hH
          refine W.eq (g2 := F0 m 79 ls [.int r_14]) rfl ?_
          exact sx_iret (pc := 79) B hH hr hlk (by rw [← hQQ]; exact ⟨_, F_14, rfl, rfl, hp⟩) (Nat.le_of_ble_eq_true rfl) (Nat.le_of_ble_eq_true rfl) dX12_place_79
        · have hp := hp.2 cc_11
          refine lv_aload_n (pc := 51) hx hb dX12_place_51 rfl (lv_at hl 0 rfl) ?_
          refine lv_bipush (pc := 52) (v := 6) hx hb dX12_place_52 (by decide) ?_
          refine sx_V (pc := 54) (As := [.int 6]) (rest := []) B hH hl.1 (C_X12_refuse G l th 6 _ _ hp) mi_X12_refuse coX12 hk_th w_1539 w_51 w_1537 rfl rfl ⟨Nat.le_of_ble_eq_true rfl, Nat.le_of_ble_eq_true rfl⟩ (Nat.le_of_ble_eq_true rfl) ⟨Nat.le_of_ble_eq_true rfl, Nat.le_of_ble_eq_true rfl⟩ dX12_place_54 (fun v S1 H locs hq hH => ?_)
          obtain ⟨r_15, F_15, rfl, e9, hp⟩ := hq
          rw [e9] at hH
          have hH : Hp G (FA S s.heap.size) s.heap (wI S F_15) H locs := hH
          refine W.eq (g2 := F0 m 57 ls [.int r_15]) rfl ?_
          refine lv_goto (pc := 57) (tgt := 79) hx hb dX12_place_57 (by decide) ?_
          exact sx_iret (pc := 79) B hH hr hlk (by rw [← hQQ]; exact ⟨_, F_15, rfl, rfl, hp⟩) (Nat.le_of_ble_eq_true rfl) (Nat.le_of_ble_eq_true rfl) dX12_place_79
      refine lv_icmp_eq (pc := 20) (tgt := 40) hx hb dX12_place_20 (by decide) (fun cc_9 => ?_) (fun cc_9 => ?_)
      · have hp := hp.1 cc_9
        exact kj_10  _ _ _ hp hH (lv_sub hl [0, 1, 2] rfl)
      · have hp := hp.2 cc_9
        refine lv_iload_n (pc := 23) hx hb dX12_place_23 rfl (lv_at hl 2 rfl) ?_
        refine lv_aload_n (pc := 24) hx hb dX12_place_24 rfl (lv_at hl 0 rfl) ?_
        refine sx_getR (pc := 25) (j := 0) B hH hk_th coX12 rfl w_1304 rfl dX12_place_25 ?_
        refine W.eq (g2 := F0 m 28 ls [va_rf (gR S th 0), .int p1]) rfl ?_
        refine sx_nonnull (x := a_6) ha_6 ?_
        refine lv_bipush (pc := 28) (v := 6) hx hb dX12_place_28 (by decide) ?_
        refine sx_iald (pc := 30) B hH hk_7 hn_8 dX12_place_30 ?_
        refine W.eq (g2 := F0 m 31 ls [.int (gI S a_6 6), .int p1]) rfl ?_
        refine lv_icmp_le (pc := 31) (tgt := 40) hx hb dX12_place_31 (by decide) (fun cc_16 => ?_) (fun cc_16 => ?_)
        · have hp := hp.1 cc_16
          exact kj_10  _ _ _ hp hH (lv_sub hl [0, 1, 2] rfl)
        · have hp := hp.2 cc_16
          exact kj_3  _ _ _ hp hH (lv_sub hl [0] rfl)
theorem dX12_blows_0 : decode cX12_blows 0 = .ok (.aload_n 0, 1) := by decide +kernel
theorem dX12_blows_1 : decode cX12_blows 1 = .ok (.iload_n 1, 1) := by decide +kernel
theorem dX12_blows_2 : decode cX12_blows 2 = .ok (.invokevirtual 280, 3) := by decide +kernel
theorem dX12_blows_5 : decode cX12_blows 5 = .ok (.ifCond .eq 11, 3) := by decide +kernel
theorem dX12_blows_8 : decode cX12_blows 8 = .ok (.aload_n 0, 1) := by decide +kernel
theorem dX12_blows_9 : decode cX12_blows 9 = .ok (.iload_n 2, 1) := by decide +kernel
theorem dX12_blows_10 : decode cX12_blows 10 = .ok (.invokevirtual 280, 3) := by decide +kernel
theorem dX12_blows_13 : decode cX12_blows 13 = .ok (.ifCond .ne 9, 3) := by decide +kernel
theorem dX12_blows_16 : decode cX12_blows 16 = .ok (.aload_n 0, 1) := by decide +kernel
theorem dX12_blows_17 : decode cX12_blows 17 = .ok (.iconst 1, 1) := by decide +kernel
theorem dX12_blows_18 : decode cX12_blows 18 = .ok (.invokevirtual 105, 3) := by decide +kernel
theorem dX12_blows_21 : decode cX12_blows 21 = .ok (.ireturn, 1) := by decide +kernel
theorem dX12_blows_22 : decode cX12_blows 22 = .ok (.aload_n 0, 1) := by decide +kernel
theorem dX12_blows_23 : decode cX12_blows 23 = .ok (.getfield 7, 3) := by decide +kernel
theorem dX12_blows_26 : decode cX12_blows 26 = .ok (.bipush 6, 2) := by decide +kernel
theorem dX12_blows_28 : decode cX12_blows 28 = .ok (.iaload, 1) := by decide +kernel
theorem dX12_blows_29 : decode cX12_blows 29 = .ok (.iconst (-1), 1) := by decide +kernel
theorem dX12_blows_30 : decode cX12_blows 30 = .ok (.if_icmp .ne 10, 3) := by decide +kernel
theorem dX12_blows_33 : decode cX12_blows 33 = .ok (.aload_n 0, 1) := by decide +kernel
theorem dX12_blows_34 : decode cX12_blows 34 = .ok (.bipush 6, 2) := by decide +kernel
theorem dX12_blows_36 : decode cX12_blows 36 = .ok (.invokevirtual 105, 3) := by decide +kernel
theorem dX12_blows_39 : decode cX12_blows 39 = .ok (.ireturn, 1) := by decide +kernel
theorem dX12_blows_40 : decode cX12_blows 40 = .ok (.iconst 0, 1) := by decide +kernel
theorem dX12_blows_41 : decode cX12_blows 41 = .ok (.istore_n 3, 1) := by decide +kernel
theorem dX12_blows_42 : decode cX12_blows 42 = .ok (.iconst 1, 1) := by decide +kernel
theorem dX12_blows_43 : decode cX12_blows 43 = .ok (.istore 4, 2) := by decide +kernel
theorem dX12_blows_45 : decode cX12_blows 45 = .ok (.iload 4, 2) := by decide +kernel
theorem dX12_blows_47 : decode cX12_blows 47 = .ok (.aload_n 0, 1) := by decide +kernel
theorem dX12_blows_48 : decode cX12_blows 48 = .ok (.getfield 7, 3) := by decide +kernel
theorem dX12_blows_51 : decode cX12_blows 51 = .ok (.bipush 6, 2) := by decide +kernel
theorem dX12_blows_53 : decode cX12_blows 53 = .ok (.iaload, 1) := by decide +kernel
theorem dX12_blows_54 : decode cX12_blows 54 = .ok (.if_icmp .gt 37, 3) := by decide +kernel
theorem dX12_blows_57 : decode cX12_blows 57 = .ok (.iload_n 3, 1) := by decide +kernel
theorem dX12_blows_58 : decode cX12_blows 58 = .ok (.aload_n 0, 1) := by decide +kernel
theorem dX12_blows_59 : decode cX12_blows 59 = .ok (.iload_n 1, 1) := by decide +kernel
theorem dX12_blows_60 : decode cX12_blows 60 = .ok (.aload_n 0, 1) := by decide +kernel
theorem dX12_blows_61 : decode cX12_blows 61 = .ok (.getfield 7, 3) := by decide +kernel
theorem dX12_blows_64 : decode cX12_blows 64 = .ok (.sipush 410, 3) := by decide +kernel
theorem dX12_blows_67 : decode cX12_blows 67 = .ok (.iload 4, 2) := by decide +kernel
theorem dX12_blows_69 : decode cX12_blows 69 = .ok (.iadd, 1) := by decide +kernel
theorem dX12_blows_70 : decode cX12_blows 70 = .ok (.iaload, 1) := by decide +kernel
theorem dX12_blows_71 : decode cX12_blows 71 = .ok (.invokevirtual 374, 3) := by decide +kernel
theorem dX12_blows_74 : decode cX12_blows 74 = .ok (.iload_n 2, 1) := by decide +kernel
theorem dX12_blows_75 : decode cX12_blows 75 = .ok (.if_icmp .ne 7, 3) := by decide +kernel
theorem dX12_blows_78 : decode cX12_blows 78 = .ok (.iconst 1, 1) := by decide +kernel
theorem dX12_blows_79 : decode cX12_blows 79 = .ok (.goto 4, 3) := by decide +kernel
theorem dX12_blows_82 : decode cX12_blows 82 = .ok (.iconst 0, 1) := by decide +kernel
theorem dX12_blows_83 : decode cX12_blows 83 = .ok (.iadd, 1) := by decide +kernel
theorem dX12_blows_84 : decode cX12_blows 84 = .ok (.istore_n 3, 1) := by decide +kernel
theorem dX12_blows_85 : decode cX12_blows 85 = .ok (.iinc 4 1, 3) := by decide +kernel
theorem dX12_blows_88 : decode cX12_blows 88 = .ok (.goto (-43), 3) := by decide +kernel
theorem dX12_blows_91 : decode cX12_blows 91 = .ok (.aload_n 0, 1) := by decide +kernel
theorem dX12_blows_92 : decode cX12_blows 92 = .ok (.iload_n 3, 1) := by decide +kernel
theorem dX12_blows_93 : decode cX12_blows 93 = .ok (.invokevirtual 109, 3) := by decide +kernel
theorem dX12_blows_96 : decode cX12_blows 96 = .ok (.ireturn, 1) := by decide +kernel
theorem mi_X12_blows : MI yX12_blows cX12_blows 5 (some FieldType.int) 2 := ⟨w_1866, w_118, by decide +kernel, by decide +kernel, by decide +kernel⟩
set_option maxRecDepth 100000 in
set_option maxHeartbeats 4000000 in
theorem C_X12_blows (G : GG) (l : Launch) (th : Nat) (p0 : Int32) (p1 : Int32) (S : St) (Q : Int32 → (Nat → Nat → Int32) → Prop) (hp : P_X12_blows th p0 p1 S Q) : Ctr G l yX12_blows cX12_blows 5 (some FieldType.int) 3 74 0 0 [.ref th, .int p0, .int p1] S (fun (v : Option Value) (S9 : St) => ∃ (r : Int32) (I9 : Nat → Nat → Int32), v = some (.int r) ∧ S9 = wI S I9 ∧ Q r I9) := by
  generalize hQQ : (fun (v : Option Value) (S9 : St) => ∃ (r : Int32) (I9 : Nat → Nat → Int32), v = some (.int r) ∧ S9 = wI S I9 ∧ Q r I9) = QQ
  unfold P_X12_blows at hp
  refine Ctr.of (by decide) (Nat.le_of_ble_eq_true rfl) ?_
  intro p e s m args below meth c ls B hr hlk hin hl hH
  generalize hlocs0 : ([] : List Loc) = locs at hH ⊢
  have hx := B.1
  have hb := B.2.1
  have hl : lv_has ls 5 [(0, .ref th), (1, .int p0), (2, .int p1)] := hl
  obtain ⟨hk_th, hp⟩ := hp
  refine lv_aload_n (pc := 0) hx hb dX12_blows_0 rfl (lv_at hl 0 rfl) ?_
  refine lv_iload_n (pc := 1) hx hb dX12_blows_1 rfl (lv_at hl 1 rfl) ?_
  refine sx_V (pc := 2) (As := [.int p0]) (rest := []) B hH hl.1 (C_X12_isBell G l th p0 _ _ hp) mi_X12_isBell coX12 hk_th w_1653 w_75 w_1651 rfl rfl ⟨Nat.le_of_ble_eq_true rfl, Nat.le_of_ble_eq_true rfl⟩ (Nat.le_of_ble_eq_true rfl) ⟨Nat.le_of_ble_eq_true rfl, Nat.le_of_ble_eq_true rfl⟩ dX12_blows_2 (fun v S1 H locs hq hH => ?_)
  obtain ⟨r_1, rfl, e9, hp⟩ := hq
  rw [e9] at hH
  refine W.eq (g2 := F0 m 5 ls [.int r_1]) rfl ?_
  obtain ⟨J_3, hj_3, hp⟩ := hp
  have kj_3 : ∀  (H : Heap) (locs : List Loc) (ls : Array Slot), J_3  → Hp G (FA S s.heap.size) s.heap S H locs → lv_has ls 5 [(0, .ref th)] → Wm G p l e { frames := 3, cells := 0, slots := 0, locals := 74 } s m args below meth c S QQ 0 0 H locs 0 0 (F0 m 16 ls []) := by
    intro  H locs ls hq9 hH hl
    have hp := hj_3  hq9
    refine lv_aload_n (pc := 16) hx hb dX12_blows_16 rfl (lv_at hl 0 rfl) ?_
    refine lv_iconst (pc := 17) (v := 1) hx hb dX12_blows_17 (by decide) ?_
    refine sx_V (pc := 18) (As := [.int 1]) (rest := []) B hH hl.1 (C_X12_refuse G l th 1 _ _ hp) mi_X12_refuse coX12 hk_th w_1539 w_51 w_1537 rfl rfl ⟨Nat.le_of_ble_eq_true rfl, Nat.le_of_ble_eq_true rfl⟩ (Nat.le_of_ble_eq_true rfl) ⟨Nat.le_of_ble_eq_true rfl, Nat.le_of_ble_eq_true rfl⟩ dX12_blows_18 (fun v S1 H locs hq hH => ?_)
    obtain ⟨r_4, F_4, rfl, e9, hp⟩ := hq
    rw [e9] at hH
    have hH : Hp G (FA S s.heap.size) s.heap (wI S F_4) H locs := hH
    refine W.eq (g2 := F0 m 21 ls [.int r_4]) rfl ?_
    exact sx_iret (pc := 21) B hH hr hlk (by rw [← hQQ]; exact ⟨_, F_4, rfl, rfl, hp⟩) (Nat.le_of_ble_eq_true rfl) (Nat.le_of_ble_eq_true rfl) dX12_blows_21
  refine lv_if_eq (pc := 5) (tgt := 16) hx hb dX12_blows_5 (by decide) (fun cc_2 => ?_) (fun cc_2 => ?_)
  · have hp := hp.1 cc_2
    exact kj_3  _ _ _ hp hH (lv_sub hl [0] rfl)
  · have hp := hp.2 cc_2
    refine lv_aload_n (pc := 8) hx hb dX12_blows_8 rfl (lv_at hl 0 rfl) ?_
    refine lv_iload_n (pc := 9) hx hb dX12_blows_9 rfl (lv_at hl 2 rfl) ?_
    refine sx_V (pc := 10) (As := [.int p1]) (rest := []) B hH hl.1 (C_X12_isBell G l th p1 _ _ hp) mi_X12_isBell coX12 hk_th w_1653 w_75 w_1651 rfl rfl ⟨Nat.le_of_ble_eq_true rfl, Nat.le_of_ble_eq_true rfl⟩ (Nat.le_of_ble_eq_true rfl) ⟨Nat.le_of_ble_eq_true rfl, Nat.le_of_ble_eq_true rfl⟩ dX12_blows_10 (fun v S1 H locs hq hH => ?_)
    obtain ⟨r_5, rfl, e9, hp⟩ := hq
    rw [e9] at hH
    refine W.eq (g2 := F0 m 13 ls [.int r_5]) rfl ?_
    refine lv_if_ne (pc := 13) (tgt := 22) hx hb dX12_blows_13 (by decide) (fun cc_6 => ?_) (fun cc_6 => ?_)
    · have hp := hp.1 cc_6
      refine lv_aload_n (pc := 22) hx hb dX12_blows_22 rfl (lv_at hl 0 rfl) ?_
      refine sx_getR (pc := 23) (j := 0) B hH hk_th coX12 rfl w_1304 rfl dX12_blows_23 ?_
      refine W.eq (g2 := F0 m 26 ls [va_rf (gR S th 0)]) rfl ?_
      obtain ⟨a_7, ha_7, hp⟩ := hp
      refine sx_nonnull (x := a_7) ha_7 ?_
      refine lv_bipush (pc := 26) (v := 6) hx hb dX12_blows_26 (by decide) ?_
      obtain ⟨hk_8, hp⟩ := hp
      obtain ⟨hn_9, hp⟩ := hp
      refine sx_iald (pc := 28) B hH hk_8 hn_9 dX12_blows_28 ?_
      refine W.eq (g2 := F0 m 29 ls [.int (gI S a_7 6)]) rfl ?_
      refine lv_iconst (pc := 29) (v := (-1)) hx hb dX12_blows_29 (by decide) ?_
      refine lv_icmp_ne (pc := 30) (tgt := 40) hx hb dX12_blows_30 (by decide) (fun cc_10 => ?_) (fun cc_10 => ?_)
      · have hp := hp.1 cc_10
        refine lv_iconst (pc := 40) (v := 0) hx hb dX12_blows_40 (by decide) ?_
        refine lv_istore_n (pc := 41) (lv' := [(3, .int 0), (0, .ref th), (1, .int p0), (2, .int p1)]) hx hb dX12_blows_41 rfl hl (by decide) rfl (fun ls hl => ?_)
        refine lv_iconst (pc := 42) (v := 1) hx hb dX12_blows_42 (by decide) ?_
        refine lv_istore (pc := 43) (lv' := [(4, .int 1), (3, .int 0), (0, .ref th), (1, .int p0), (2, .int p1)]) hx hb dX12_blows_43 hl (by decide) rfl (fun ls hl => ?_)
        obtain ⟨I_11, ⟨k0_11, h0_11⟩, hst_11⟩ := hp
        have kl_11 : ∀ (n_11 : Nat) (x3_12 : Int32) (x4_13 : Int32) (F_14 : Nat → Nat → Int32) (H : Heap) (locs : List Loc) (ls : Array Slot), I_11 n_11 x3_12 x4_13 F_14 → Hp G (FA S s.heap.size) s.heap (wI S F_14) H locs → lv_has ls 5 [(0, .ref th), (1, .int p0), (2, .int p1), (3, .int x3_12), (4, .int x4_13)] → Wm G p l e { frames := 3, cells := 0, slots := 0, locals := 74 } s m args below meth c S QQ 0 0 H locs 0 0 (F0 m 45 ls []) := by
          intro n_11
          induction n_11 using Nat.strongRecOn with
          | ind n_11 ih_11 =>
            intro x3_12 x4_13 F_14 H locs ls hq9 hH hl
            have hp := hst_11 n_11 x3_12 x4_13 F_14 hq9
            refine lv_iload (pc := 45) hx hb dX12_blows_45 (lv_at hl 4 rfl) ?_
            refine lv_aload_n (pc := 47) hx hb dX12_blows_47 rfl (lv_at hl 0 rfl) ?_
            refine sx_getR (pc := 48) (j := 0) B hH hk_th coX12 rfl w_1304 rfl dX12_blows_48 ?_
            refine W.eq (g2 := F0 m 51 ls [va_rf (gR S th 0), .int x4_13]) rfl ?_
            refine sx_nonnull (x := a_7) ha_7 ?_
            refine lv_bipush (pc := 51) (v := 6) hx hb dX12_blows_51 (by decide) ?_
            refine sx_iald (pc := 53) B hH hk_8 hn_9 dX12_blows_53 ?_
            refine W.eq (g2 := F0 m 54 ls [.int (F_14 a_7 6), .int x4_13]) rfl ?_
            refine lv_icmp_gt (pc := 54) (tgt := 91) hx hb dX12_blows_54 (by decide) (fun cc_15 => ?_) (fun cc_15 => ?_)
            · have hp := hp.1 cc_15
              refine lv_aload_n (pc := 91) hx hb dX12_blows_91 rfl (lv_at hl 0 rfl) ?_
              refine lv_iload_n (pc := 92) hx hb dX12_blows_92 rfl (lv_at hl 3 rfl) ?_
              refine sx_V (pc := 93) (As := [.int x3_12]) (rest := []) B hH hl.1 (C_X12_gives G l th x3_12 _ _ hp) mi_X12_gives coX12 hk_th w_1617 w_69 w_1615 rfl rfl ⟨Nat.le_of_ble_eq_true rfl, Nat.le_of_ble_eq_true rfl⟩ (Nat.le_of_ble_eq_true rfl) ⟨Nat.le_of_ble_eq_true rfl, Nat.le_of_ble_eq_true rfl⟩ dX12_blows_93 (fun v S1 H locs hq hH => ?_)
              obtain ⟨r_16, F_16, rfl, e9, hp⟩ := hq
              rw [e9] at hH
              have hH : Hp G (FA S s.heap.size) s.heap (wI S F_16) H locs := hH
              refine W.eq (g2 := F0 m 96 ls [.int r_16]) rfl ?_
              exact sx_iret (pc := 96) B hH hr hlk (by rw [← hQQ]; exact ⟨_, F_16, rfl, rfl, hp⟩) (Nat.le_of_ble_eq_true rfl) (Nat.le_of_ble_eq_true rfl) dX12_blows_96
            · have hp := hp.2 cc_15
              refine lv_iload_n (pc := 57) hx hb dX12_blows_57 rfl (lv_at hl 3 rfl) ?_
              refine lv_aload_n (pc := 58) hx hb dX12_blows_58 rfl (lv_at hl 0 rfl) ?_
              refine lv_iload_n (pc := 59) hx hb dX12_blows_59 rfl (lv_at hl 1 rfl) ?_
              refine lv_aload_n (pc := 60) hx hb dX12_blows_60 rfl (lv_at hl 0 rfl) ?_
              refine sx_getR (pc := 61) (j := 0) B hH hk_th coX12 rfl w_1304 rfl dX12_blows_61 ?_
              refine W.eq (g2 := F0 m 64 ls [va_rf (gR S th 0), .int p0, .ref th, .int x3_12]) rfl ?_
              refine sx_nonnull (x := a_7) ha_7 ?_
              refine lv_sipush (pc := 64) (v := 410) hx hb dX12_blows_64 (by decide) ?_
              refine lv_iload (pc := 67) hx hb dX12_blows_67 (lv_at hl 4 rfl) ?_
              refine lv_iadd (pc := 69) hx hb dX12_blows_69 ?_
              obtain ⟨hn_17, hp⟩ := hp
              refine sx_iald (pc := 70) B hH hk_8 hn_17 dX12_blows_70 ?_
              refine W.eq (g2 := F0 m 71 ls [.int (F_14 a_7 ((410 + x4_13).toNatClampNeg)), .int p0, .ref th, .int x3_12]) rfl ?_
              refine sx_V (pc := 71) (As := [.int p0, .int (F_14 a_7 ((410 + x4_13).toNatClampNeg))]) (rest := [.int x3_12]) B hH hl.1 (C_X12_placeIn G l th p0 (F_14 a_7 ((410 + x4_13).toNatClampNeg)) _ _ hp) mi_X12_placeIn coX12 hk_th w_1861 w_97 w_1859 rfl rfl ⟨Nat.le_of_ble_eq_true rfl, Nat.le_of_ble_eq_true rfl⟩ (Nat.le_of_ble_eq_true rfl) ⟨Nat.le_of_ble_eq_true rfl, Nat.le_of_ble_eq_true rfl⟩ dX12_blows_71 (fun v S1 H locs hq hH => ?_)
              obtain ⟨r_18, F_18, rfl, e9, hp⟩ := hq
              rw [e9] at hH
              have hH : Hp G (FA S s.heap.size) s.heap (wI S F_18) H locs := hH
              refine W.eq (g2 := F0 m 74 ls [.int r_18, .int x3_12]) rfl ?_
              refine lv_iload_n (pc := 74) hx hb dX12_blows_74 rfl (lv_at hl 2 rfl) ?_
              refine lv_icmp_ne (pc := 75) (tgt := 82) hx hb dX12_blows_75 (by decide) (fun cc_19 => ?_) (fun cc_19 => ?_)
              · have hp := hp.1 cc_19
                refine lv_iconst (pc := 82) (v := 0) hx hb dX12_blows_82 (by decide) ?_
                refine lv_iadd (pc := 83) hx hb dX12_blows_83 ?_
                refine lv_topi (fun v_20 ev_20 => ?_)
                have hp := hp v_20 ev_20
                refine lv_istore_n (pc := 84) (lv' := [(3, .int v_20), (0, .ref th), (1, .int p0), (2, .int p1), (4, .int x4_13)]) hx hb dX12_blows_84 rfl hl (by decide) rfl (fun ls hl => ?_)
                obtain ⟨v_21, ev_21⟩ : ∃ y : Int32, y = x4_13 + 1 := ⟨_, rfl⟩
                have hp := hp v_21 ev_21
                refine lv_iinc (pc := 85) (v := v_21) (lv' := [(4, .int v_21), (3, .int v_20), (0, .ref th), (1, .int p0), (2, .int p1)]) hx hb dX12_blows_85 hl (k := 4) rfl (by rw [ev_21]; rfl) (by decide) rfl (fun ls hl => ?_)
                refine lv_goto (pc := 88) (tgt := 45) hx hb dX12_blows_88 (by decide) ?_
                obtain ⟨k9, hlt9, hp⟩ := hp
                exact ih_11 k9 hlt9 _ _ _ _ _ _ hp hH (lv_sub hl [2, 3, 4, 1, 0] rfl)
              · have hp := hp.2 cc_19
                refine lv_iconst (pc := 78) (v := 1) hx hb dX12_blows_78 (by decide) ?_
                refine lv_goto (pc := 79) (tgt := 83) hx hb dX12_blows_79 (by decide) ?_
                refine lv_iadd (pc := 83) hx hb dX12_blows_83 ?_
                refine lv_topi (fun v_22 ev_22 => ?_)
                have hp := hp v_22 ev_22
                refine lv_istore_n (pc := 84) (lv' := [(3, .int v_22), (0, .ref th), (1, .int p0), (2, .int p1), (4, .int x4_13)]) hx hb dX12_blows_84 rfl hl (by decide) rfl (fun ls hl => ?_)
                obtain ⟨v_23, ev_23⟩ : ∃ y : Int32, y = x4_13 + 1 := ⟨_, rfl⟩
                have hp := hp v_23 ev_23
                refine lv_iinc (pc := 85) (v := v_23) (lv' := [(4, .int v_23), (3, .int v_22), (0, .ref th), (1, .int p0), (2, .int p1)]) hx hb dX12_blows_85 hl (k := 4) rfl (by rw [ev_23]; rfl) (by decide) rfl (fun ls hl => ?_)
                refine lv_goto (pc := 88) (tgt := 45) hx hb dX12_blows_88 (by decide) ?_
                obtain ⟨k9, hlt9, hp⟩ := hp
                exact ih_11 k9 hlt9 _ _ _ _ _ _ hp hH (lv_sub hl [2, 3, 4, 1, 0] rfl)
        exact kl_11 k0_11 _ _ _ _ _ _ h0_11 hH (lv_sub hl [2, 3, 4, 1, 0] rfl)
      · have hp := hp.2 cc_10
        refine lv_aload_n (pc := 33) hx hb dX12_blows_33 rfl (lv_at hl 0 rfl) ?_
        refine lv_bipush (pc := 34) (v := 6) hx hb dX12_blows_34 (by decide) ?_
        refine sx_V (pc := 36) (As := [.int 6]) (rest := []) B hH hl.1 (C_X12_refuse G l th 6 _ _ hp) mi_X12_refuse coX12 hk_th w_1539 w_51 w_1537 rfl rfl ⟨Nat.le_of_ble_eq_true rfl, Nat.le_of_ble_eq_true rfl⟩ (Nat.le_of_ble_eq_true rfl) ⟨Nat.le_of_ble_eq_true rfl, Nat.le_of_ble_eq_true rfl⟩ dX12_blows_36 (fun v S1 H locs hq hH => ?_)
        obtain ⟨r_24, F_24, rfl, e9, hp⟩ := hq
        rw [e9] at hH
        have hH : Hp G (FA S s.heap.size) s.heap (wI S F_24) H locs := hH
        refine W.eq (g2 := F0 m 39 ls [.int r_24]) rfl ?_
        exact sx_iret (pc := 39) B hH hr hlk (by rw [← hQQ]; exact ⟨_, F_24, rfl, rfl, hp⟩) (Nat.le_of_ble_eq_true rfl) (Nat.le_of_ble_eq_true rfl) dX12_blows_39
    · have hp := hp.2 cc_6
      exact kj_3  _ _ _ hp hH (lv_sub hl [0] rfl)
theorem dX12_dodges_0 : decode cX12_dodges 0 = .ok (.aload_n 0, 1) := by decide +kernel
theorem dX12_dodges_1 : decode cX12_dodges 1 = .ok (.iload_n 1, 1) := by decide +kernel
theorem dX12_dodges_2 : decode cX12_dodges 2 = .ok (.invokevirtual 280, 3) := by decide +kernel
theorem dX12_dodges_5 : decode cX12_dodges 5 = .ok (.ifCond .ne 9, 3) := by decide +kernel
theorem dX12_dodges_8 : decode cX12_dodges 8 = .ok (.aload_n 0, 1) := by decide +kernel
theorem dX12_dodges_9 : decode cX12_dodges 9 = .ok (.iconst 1, 1) := by decide +kernel
theorem dX12_dodges_10 : decode cX12_dodges 10 = .ok (.invokevirtual 105, 3) := by decide +kernel
theorem dX12_dodges_13 : decode cX12_dodges 13 = .ok (.ireturn, 1) := by decide +kernel
theorem dX12_dodges_14 : decode cX12_dodges 14 = .ok (.aload_n 0, 1) := by decide +kernel
theorem dX12_dodges_15 : decode cX12_dodges 15 = .ok (.getfield 7, 3) := by decide +kernel
theorem dX12_dodges_18 : decode cX12_dodges 18 = .ok (.bipush 6, 2) := by decide +kernel
theorem dX12_dodges_20 : decode cX12_dodges 20 = .ok (.iaload, 1) := by decide +kernel
theorem dX12_dodges_21 : decode cX12_dodges 21 = .ok (.iconst (-1), 1) := by decide +kernel
theorem dX12_dodges_22 : decode cX12_dodges 22 = .ok (.if_icmp .ne 10, 3) := by decide +kernel
theorem dX12_dodges_25 : decode cX12_dodges 25 = .ok (.aload_n 0, 1) := by decide +kernel
theorem dX12_dodges_26 : decode cX12_dodges 26 = .ok (.bipush 6, 2) := by decide +kernel
theorem dX12_dodges_28 : decode cX12_dodges 28 = .ok (.invokevirtual 105, 3) := by decide +kernel
theorem dX12_dodges_31 : decode cX12_dodges 31 = .ok (.ireturn, 1) := by decide +kernel
theorem dX12_dodges_32 : decode cX12_dodges 32 = .ok (.iconst 0, 1) := by decide +kernel
theorem dX12_dodges_33 : decode cX12_dodges 33 = .ok (.istore_n 2, 1) := by decide +kernel
theorem dX12_dodges_34 : decode cX12_dodges 34 = .ok (.iconst 2, 1) := by decide +kernel
theorem dX12_dodges_35 : decode cX12_dodges 35 = .ok (.istore_n 3, 1) := by decide +kernel
theorem dX12_dodges_36 : decode cX12_dodges 36 = .ok (.iload_n 3, 1) := by decide +kernel
theorem dX12_dodges_37 : decode cX12_dodges 37 = .ok (.aload_n 0, 1) := by decide +kernel
theorem dX12_dodges_38 : decode cX12_dodges 38 = .ok (.getfield 7, 3) := by decide +kernel
theorem dX12_dodges_41 : decode cX12_dodges 41 = .ok (.bipush 6, 2) := by decide +kernel
theorem dX12_dodges_43 : decode cX12_dodges 43 = .ok (.iaload, 1) := by decide +kernel
theorem dX12_dodges_44 : decode cX12_dodges 44 = .ok (.if_icmp .gt 78, 3) := by decide +kernel
theorem dX12_dodges_47 : decode cX12_dodges 47 = .ok (.aload_n 0, 1) := by decide +kernel
theorem dX12_dodges_48 : decode cX12_dodges 48 = .ok (.iload_n 1, 1) := by decide +kernel
theorem dX12_dodges_49 : decode cX12_dodges 49 = .ok (.aload_n 0, 1) := by decide +kernel
theorem dX12_dodges_50 : decode cX12_dodges 50 = .ok (.getfield 7, 3) := by decide +kernel
theorem dX12_dodges_53 : decode cX12_dodges 53 = .ok (.sipush 410, 3) := by decide +kernel
theorem dX12_dodges_56 : decode cX12_dodges 56 = .ok (.iload_n 3, 1) := by decide +kernel
theorem dX12_dodges_57 : decode cX12_dodges 57 = .ok (.iadd, 1) := by decide +kernel
theorem dX12_dodges_58 : decode cX12_dodges 58 = .ok (.iaload, 1) := by decide +kernel
theorem dX12_dodges_59 : decode cX12_dodges 59 = .ok (.invokevirtual 374, 3) := by decide +kernel
theorem dX12_dodges_62 : decode cX12_dodges 62 = .ok (.istore 4, 2) := by decide +kernel
theorem dX12_dodges_64 : decode cX12_dodges 64 = .ok (.iload_n 2, 1) := by decide +kernel
theorem dX12_dodges_65 : decode cX12_dodges 65 = .ok (.aload_n 0, 1) := by decide +kernel
theorem dX12_dodges_66 : decode cX12_dodges 66 = .ok (.iload_n 1, 1) := by decide +kernel
theorem dX12_dodges_67 : decode cX12_dodges 67 = .ok (.aload_n 0, 1) := by decide +kernel
theorem dX12_dodges_68 : decode cX12_dodges 68 = .ok (.getfield 7, 3) := by decide +kernel
theorem dX12_dodges_71 : decode cX12_dodges 71 = .ok (.sipush 410, 3) := by decide +kernel
theorem dX12_dodges_74 : decode cX12_dodges 74 = .ok (.iload_n 3, 1) := by decide +kernel
theorem dX12_dodges_75 : decode cX12_dodges 75 = .ok (.iadd, 1) := by decide +kernel
theorem dX12_dodges_76 : decode cX12_dodges 76 = .ok (.iconst 2, 1) := by decide +kernel
theorem dX12_dodges_77 : decode cX12_dodges 77 = .ok (.isub, 1) := by decide +kernel
theorem dX12_dodges_78 : decode cX12_dodges 78 = .ok (.iaload, 1) := by decide +kernel
theorem dX12_dodges_79 : decode cX12_dodges 79 = .ok (.invokevirtual 374, 3) := by decide +kernel
theorem dX12_dodges_82 : decode cX12_dodges 82 = .ok (.iload 4, 2) := by decide +kernel
theorem dX12_dodges_84 : decode cX12_dodges 84 = .ok (.if_icmp .ne 29, 3) := by decide +kernel
theorem dX12_dodges_87 : decode cX12_dodges 87 = .ok (.aload_n 0, 1) := by decide +kernel
theorem dX12_dodges_88 : decode cX12_dodges 88 = .ok (.iload_n 1, 1) := by decide +kernel
theorem dX12_dodges_89 : decode cX12_dodges 89 = .ok (.aload_n 0, 1) := by decide +kernel
theorem dX12_dodges_90 : decode cX12_dodges 90 = .ok (.getfield 7, 3) := by decide +kernel
theorem dX12_dodges_93 : decode cX12_dodges 93 = .ok (.sipush 410, 3) := by decide +kernel
theorem dX12_dodges_96 : decode cX12_dodges 96 = .ok (.iload_n 3, 1) := by decide +kernel
theorem dX12_dodges_97 : decode cX12_dodges 97 = .ok (.iadd, 1) := by decide +kernel
theorem dX12_dodges_98 : decode cX12_dodges 98 = .ok (.iconst 1, 1) := by decide +kernel
theorem dX12_dodges_99 : decode cX12_dodges 99 = .ok (.isub, 1) := by decide +kernel
theorem dX12_dodges_100 : decode cX12_dodges 100 = .ok (.iaload, 1) := by decide +kernel
theorem dX12_dodges_101 : decode cX12_dodges 101 = .ok (.invokevirtual 374, 3) := by decide +kernel
theorem dX12_dodges_104 : decode cX12_dodges 104 = .ok (.iload 4, 2) := by decide +kernel
theorem dX12_dodges_106 : decode cX12_dodges 106 = .ok (.if_icmp .eq 7, 3) := by decide +kernel
theorem dX12_dodges_109 : decode cX12_dodges 109 = .ok (.iconst 1, 1) := by decide +kernel
theorem dX12_dodges_110 : decode cX12_dodges 110 = .ok (.goto 4, 3) := by decide +kernel
theorem dX12_dodges_113 : decode cX12_dodges 113 = .ok (.iconst 0, 1) := by decide +kernel
theorem dX12_dodges_114 : decode cX12_dodges 114 = .ok (.iadd, 1) := by decide +kernel
theorem dX12_dodges_115 : decode cX12_dodges 115 = .ok (.istore_n 2, 1) := by decide +kernel
theorem dX12_dodges_116 : decode cX12_dodges 116 = .ok (.iinc 3 1, 3) := by decide +kernel
theorem dX12_dodges_119 : decode cX12_dodges 119 = .ok (.goto (-83), 3) := by decide +kernel
theorem dX12_dodges_122 : decode cX12_dodges 122 = .ok (.aload_n 0, 1) := by decide +kernel
theorem dX12_dodges_123 : decode cX12_dodges 123 = .ok (.iload_n 2, 1) := by decide +kernel
theorem dX12_dodges_124 : decode cX12_dodges 124 = .ok (.invokevirtual 109, 3) := by decide +kernel
theorem dX12_dodges_127 : decode cX12_dodges 127 = .ok (.ireturn, 1) := by decide +kernel
theorem mi_X12_dodges : MI yX12_dodges cX12_dodges 5 (some FieldType.int) 1 := ⟨w_1870, w_118, by decide +kernel, by decide +kernel, by decide +kernel⟩
set_option maxRecDepth 100000 in
set_option maxHeartbeats 4000000 in
theorem C_X12_dodges (G : GG) (l : Launch) (th : Nat) (p0 : Int32) (S : St) (Q : Int32 → (Nat → Nat → Int32) → Prop) (hp : P_X12_dodges th p0 S Q) : Ctr G l yX12_dodges cX12_dodges 5 (some FieldType.int) 3 74 0 0 [.ref th, .int p0] S (fun (v : Option Value) (S9 : St) => ∃ (r : Int32) (I9 : Nat → Nat → Int32), v = some (.int r) ∧ S9 = wI S I9 ∧ Q r I9) := by
  generalize hQQ : (fun (v : Option Value) (S9 : St) => ∃ (r : Int32) (I9 : Nat → Nat → Int32), v = some (.int r) ∧ S9 = wI S I9 ∧ Q r I9) = QQ
  unfold P_X12_dodges at hp
  refine Ctr.of (by decide) (Nat.le_of_ble_eq_true rfl) ?_
  intro p e s m args below meth c ls B hr hlk hin hl hH
  generalize hlocs0 : ([] : List Loc) = locs at hH ⊢
  have hx := B.1
  have hb := B.2.1
  have hl : lv_has ls 5 [(0, .ref th), (1, .int p0)] := hl
  obtain ⟨hk_th, hp⟩ := hp
  refine lv_aload_n (pc := 0) hx hb dX12_dodges_0 rfl (lv_at hl 0 rfl) ?_
  refine lv_iload_n (pc := 1) hx hb dX12_dodges_1 rfl (lv_at hl 1 rfl) ?_
  refine sx_V (pc := 2) (As := [.int p0]) (rest := []) B hH hl.1 (C_X12_isBell G l th p0 _ _ hp) mi_X12_isBell coX12 hk_th w_1653 w_75 w_1651 rfl rfl ⟨Nat.le_of_ble_eq_true rfl, Nat.le_of_ble_eq_true rfl⟩ (Nat.le_of_ble_eq_true rfl) ⟨Nat.le_of_ble_eq_true rfl, Nat.le_of_ble_eq_true rfl⟩ dX12_dodges_2 (fun v S1 H locs hq hH => ?_)
  obtain ⟨r_1, rfl, e9, hp⟩ := hq
  rw [e9] at hH
  refine W.eq (g2 := F0 m 5 ls [.int r_1]) rfl ?_
  refine lv_if_ne (pc := 5) (tgt := 14) hx hb dX12_dodges_5 (by decide) (fun cc_2 => ?_) (fun cc_2 => ?_)
  · have hp := hp.1 cc_2
    refine lv_aload_n (pc := 14) hx hb dX12_dodges_14 rfl (lv_at hl 0 rfl) ?_
    refine sx_getR (pc := 15) (j := 0) B hH hk_th coX12 rfl w_1304 rfl dX12_dodges_15 ?_
    refine W.eq (g2 := F0 m 18 ls [va_rf (gR S th 0)]) rfl ?_
    obtain ⟨a_3, ha_3, hp⟩ := hp
    refine sx_nonnull (x := a_3) ha_3 ?_
    refine lv_bipush (pc := 18) (v := 6) hx hb dX12_dodges_18 (by decide) ?_
    obtain ⟨hk_4, hp⟩ := hp
    obtain ⟨hn_5, hp⟩ := hp
    refine sx_iald (pc := 20) B hH hk_4 hn_5 dX12_dodges_20 ?_
    refine W.eq (g2 := F0 m 21 ls [.int (gI S a_3 6)]) rfl ?_
    refine lv_iconst (pc := 21) (v := (-1)) hx hb dX12_dodges_21 (by decide) ?_
    refine lv_icmp_ne (pc := 22) (tgt := 32) hx hb dX12_dodges_22 (by decide) (fun cc_6 => ?_) (fun cc_6 => ?_)
    · have hp := hp.1 cc_6
      refine lv_iconst (pc := 32) (v := 0) hx hb dX12_dodges_32 (by decide) ?_
      refine lv_istore_n (pc := 33) (lv' := [(2, .int 0), (0, .ref th), (1, .int p0)]) hx hb dX12_dodges_33 rfl hl (by decide) rfl (fun ls hl => ?_)
      refine lv_iconst (pc := 34) (v := 2) hx hb dX12_dodges_34 (by decide) ?_
      refine lv_istore_n (pc := 35) (lv' := [(3, .int 2), (2, .int 0), (0, .ref th), (1, .int p0)]) hx hb dX12_dodges_35 rfl hl (by decide) rfl (fun ls hl => ?_)
      obtain ⟨I_7, ⟨k0_7, h0_7⟩, hst_7⟩ := hp
      have kl_7 : ∀ (n_7 : Nat) (x2_8 : Int32) (x3_9 : Int32) (F_10 : Nat → Nat → Int32) (H : Heap) (locs : List Loc) (ls : Array Slot), I_7 n_7 x2_8 x3_9 F_10 → Hp G (FA S s.heap.size) s.heap (wI S F_10) H locs → lv_has ls 5 [(0, .ref th), (1, .int p0), (2, .int x2_8), (3, .int x3_9)] → Wm G p l e { frames := 3, cells := 0, slots := 0, locals := 74 } s m args below meth c S QQ 0 0 H locs 0 0 (F0 m 36 ls []) := by
        intro n_7
        induction n_7 using Nat.strongRecOn with
        | ind n_7 ih_7 =>
          intro x2_8 x3_9 F_10 H locs ls hq9 hH hl
          have hp := hst_7 n_7 x2_8 x3_9 F_10 hq9
          refine lv_iload_n (pc := 36) hx hb dX12_dodges_36 rfl (lv_at hl 3 rfl) ?_
          refine lv_aload_n (pc := 37) hx hb dX12_dodges_37 rfl (lv_at hl 0 rfl) ?_
          refine sx_getR (pc := 38) (j := 0) B hH hk_th coX12 rfl w_1304 rfl dX12_dodges_38 ?_
          refine W.eq (g2 := F0 m 41 ls [va_rf (gR S th 0), .int x3_9]) rfl ?_
          refine sx_nonnull (x := a_3) ha_3 ?_
          refine lv_bipush (pc := 41) (v := 6) hx hb dX12_dodges_41 (by decide) ?_
          refine sx_iald (pc := 43) B hH hk_4 hn_5 dX12_dodges_43 ?_
          refine W.eq (g2 := F0 m 44 ls [.int (F_10 a_3 6), .int x3_9]) rfl ?_
          refine lv_icmp_gt (pc := 44) (tgt := 122) hx hb dX12_dodges_44 (by decide) (fun cc_11 => ?_) (fun cc_11 => ?_)
          · have hp := hp.1 cc_11
            refine lv_aload_n (pc := 122) hx hb dX12_dodges_122 rfl (lv_at hl 0 rfl) ?_
            refine lv_iload_n (pc := 123) hx hb dX12_dodges_123 rfl (lv_at hl 2 rfl) ?_
            refine sx_V (pc := 124) (As := [.int x2_8]) (rest := []) B hH hl.1 (C_X12_gives G l th x2_8 _ _ hp) mi_X12_gives coX12 hk_th w_1617 w_69 w_1615 rfl rfl ⟨Nat.le_of_ble_eq_true rfl, Nat.le_of_ble_eq_true rfl⟩ (Nat.le_of_ble_eq_true rfl) ⟨Nat.le_of_ble_eq_true rfl, Nat.le_of_ble_eq_true rfl⟩ dX12_dodges_124 (fun v S1 H locs hq hH => ?_)
            obtain ⟨r_12, F_12, rfl, e9, hp⟩ := hq
            rw [e9] at hH
            have hH : Hp G (FA S s.heap.size) s.heap (wI S F_12) H locs := hH
            refine W.eq (g2 := F0 m 127 ls [.int r_12]) rfl ?_
            exact sx_iret (pc := 127) B hH hr hlk (by rw [← hQQ]; exact ⟨_, F_12, rfl, rfl, hp⟩) (Nat.le_of_ble_eq_true rfl) (Nat.le_of_ble_eq_true rfl) dX12_dodges_127
          · have hp := hp.2 cc_11
            refine lv_aload_n (pc := 47) hx hb dX12_dodges_47 rfl (lv_at hl 0 rfl) ?_
            refine lv_iload_n (pc := 48) hx hb dX12_dodges_48 rfl (lv_at hl 1 rfl) ?_
            refine lv_aload_n (pc := 49) hx hb dX12_dodges_49 rfl (lv_at hl 0 rfl) ?_
            refine sx_getR (pc := 50) (j := 0) B hH hk_th coX12 rfl w_1304 rfl dX12_dodges_50 ?_
            refine W.eq (g2 := F0 m 53 ls [va_rf (gR S th 0), .int p0, .ref th]) rfl ?_
            refine sx_nonnull (x := a_3) ha_3 ?_
            refine lv_sipush (pc := 53) (v := 410) hx hb dX12_dodges_53 (by decide) ?_
            refine lv_iload_n (pc := 56) hx hb dX12_dodges_56 rfl (lv_at hl 3 rfl) ?_
            refine lv_iadd (pc := 57) hx hb dX12_dodges_57 ?_
            obtain ⟨hn_13, hp⟩ := hp
            refine sx_iald (pc := 58) B hH hk_4 hn_13 dX12_dodges_58 ?_
            refine W.eq (g2 := F0 m 59 ls [.int (F_10 a_3 ((410 + x3_9).toNatClampNeg)), .int p0, .ref th]) rfl ?_
            refine sx_V (pc := 59) (As := [.int p0, .int (F_10 a_3 ((410 + x3_9).toNatClampNeg))]) (rest := []) B hH hl.1 (C_X12_placeIn G l th p0 (F_10 a_3 ((410 + x3_9).toNatClampNeg)) _ _ hp) mi_X12_placeIn coX12 hk_th w_1861 w_97 w_1859 rfl rfl ⟨Nat.le_of_ble_eq_true rfl, Nat.le_of_ble_eq_true rfl⟩ (Nat.le_of_ble_eq_true rfl) ⟨Nat.le_of_ble_eq_true rfl, Nat.le_of_ble_eq_true rfl⟩ dX12_dodges_59 (fun v S1 H locs hq hH => ?_)
            obtain ⟨r_14, F_14, rfl, e9, hp⟩ := hq
            rw [e9] at hH
            have hH : Hp G (FA S s.heap.size) s.heap (wI S F_14) H locs := hH
            refine W.eq (g2 := F0 m 62 ls [.int r_14]) rfl ?_
            refine lv_istore (pc := 62) (lv' := [(4, .int r_14), (0, .ref th), (1, .int p0), (2, .int x2_8), (3, .int x3_9)]) hx hb dX12_dodges_62 hl (by decide) rfl (fun ls hl => ?_)
            refine lv_iload_n (pc := 64) hx hb dX12_dodges_64 rfl (lv_at hl 3 rfl) ?_
            refine lv_aload_n (pc := 65) hx hb dX12_dodges_65 rfl (lv_at hl 1 rfl) ?_
            refine lv_iload_n (pc := 66) hx hb dX12_dodges_66 rfl (lv_at hl 2 rfl) ?_
            refine lv_aload_n (pc := 67) hx hb dX12_dodges_67 rfl (lv_at hl 1 rfl) ?_
            refine sx_getR (pc := 68) (j := 0) B hH hk_th coX12 rfl w_1304 rfl dX12_dodges_68 ?_
            refine W.eq (g2 := F0 m 71 ls [va_rf (gR S th 0), .int p0, .ref th, .int x2_8]) rfl ?_
            refine sx_nonnull (x := a_3) ha_3 ?_
            refine lv_sipush (pc := 71) (v := 410) hx hb dX12_dodges_71 (by decide) ?_
            refine lv_iload_n (pc := 74) hx hb dX12_dodges_74 rfl (lv_at hl 4 rfl) ?_
            refine lv_iadd (pc := 75) hx hb dX12_dodges_75 ?_
            refine lv_iconst (pc := 76) (v := 2) hx hb dX12_dodges_76 (by decide) ?_
            refine lv_isub (pc := 77) hx hb dX12_dodges_77 ?_
            obtain ⟨hn_15, hp⟩ := hp
            refine sx_iald (pc := 78) B hH hk_4 hn_15 dX12_dodges_78 ?_
            refine W.eq (g2 := F0 m 79 ls [.int (F_14 a_3 (((410 + x3_9) - 2).toNatClampNeg)), .int p0, .ref th, .int x2_8]) rfl ?_
            refine sx_V (pc := 79) (As := [.int p0, .int (F_14 a_3 (((410 + x3_9) - 2).toNatClampNeg))]) (rest := [.int x2_8]) B hH hl.1 (C_X12_placeIn G l th p0 (F_14 a_3 (((410 + x3_9) - 2).toNatClampNeg)) _ _ hp) mi_X12_placeIn coX12 hk_th w_1861 w_97 w_1859 rfl rfl ⟨Nat.le_of_ble_eq_true rfl, Nat.le_of_ble_eq_true rfl⟩ (Nat.le_of_ble_eq_true rfl) ⟨Nat.le_of_ble_eq_true rfl, Nat.le_of_ble_eq_true rfl⟩ dX12_dodges_79 (fun v S1 H locs hq hH => ?_)
            obtain ⟨r_16, F_16, rfl, e9, hp⟩ := hq
            rw [e9] at hH
            have hH : Hp G (FA S s.heap.size) s.heap (wI S F_16) H locs := hH
            refine W.eq (g2 := F0 m 82 ls [.int r_16, .int x2_8]) rfl ?_
            refine lv_iload (pc := 82) hx hb dX12_dodges_82 (lv_at hl 0 rfl) ?_
            refine lv_icmp_ne (pc := 84) (tgt := 113) hx hb dX12_dodges_84 (by decide) (fun cc_17 => ?_) (fun cc_17 => ?_)
            · have hp := hp.1 cc_17
              refine lv_iconst (pc := 113) (v := 0) hx hb dX12_dodges_113 (by decide) ?_
              refine lv_iadd (pc := 114) hx hb dX12_dodges_114 ?_
              refine lv_topi (fun v_18 ev_18 => ?_)
              have hp := hp v_18 ev_18
              refine lv_istore_n (pc := 115) (lv' := [(2, .int v_18), (4, .int r_14), (0, .ref th), (1, .int p0), (3, .int x3_9)]) hx hb dX12_dodges_115 rfl hl (by decide) rfl (fun ls hl => ?_)
              obtain ⟨v_19, ev_19⟩ : ∃ y : Int32, y = x3_9 + 1 := ⟨_, rfl⟩
              have hp := hp v_19 ev_19
              refine lv_iinc (pc := 116) (v := v_19) (lv' := [(3, .int v_19), (2, .int v_18), (4, .int r_14), (0, .ref th), (1, .int p0)]) hx hb dX12_dodges_116 hl (k := 4) rfl (by rw [ev_19]; rfl) (by decide) rfl (fun ls hl => ?_)
              refine lv_goto (pc := 119) (tgt := 36) hx hb dX12_dodges_119 (by decide) ?_
              obtain ⟨k9, hlt9, hp⟩ := hp
              exact ih_7 k9 hlt9 _ _ _ _ _ _ hp hH (lv_sub hl [3, 4, 1, 0] rfl)
            · have hp := hp.2 cc_17
              refine lv_aload_n (pc := 87) hx hb dX12_dodges_87 rfl (lv_at hl 1 rfl) ?_
              refine lv_iload_n (pc := 88) hx hb dX12_dodges_88 rfl (lv_at hl 2 rfl) ?_
              refine lv_aload_n (pc := 89) hx hb dX12_dodges_89 rfl (lv_at hl 1 rfl) ?_
              refine sx_getR (pc := 90) (j := 0) B hH hk_th coX12 rfl w_1304 rfl dX12_dodges_90 ?_
              refine W.eq (g2 := F0 m 93 ls [va_rf (gR S th 0), .int p0, .ref th, .int x2_8]) rfl ?_
              refine sx_nonnull (x := a_3) ha_3 ?_
              refine lv_sipush (pc := 93) (v := 410) hx hb dX12_dodges_93 (by decide) ?_
              refine lv_iload_n (pc := 96) hx hb dX12_dodges_96 rfl (lv_at hl 4 rfl) ?_
              refine lv_iadd (pc := 97) hx hb dX12_dodges_97 ?_
              refine lv_iconst (pc := 98) (v := 1) hx hb dX12_dodges_98 (by decide) ?_
              refine lv_isub (pc := 99) hx hb dX12_dodges_99 ?_
              obtain ⟨hn_20, hp⟩ := hp
              refine sx_iald (pc := 100) B hH hk_4 hn_20 dX12_dodges_100 ?_
              refine W.eq (g2 := F0 m 101 ls [.int (F_16 a_3 (((410 + x3_9) - 1).toNatClampNeg)), .int p0, .ref th, .int x2_8]) rfl ?_
              refine sx_V (pc := 101) (As := [.int p0, .int (F_16 a_3 (((410 + x3_9) - 1).toNatClampNeg))]) (rest := [.int x2_8]) B hH hl.1 (C_X12_placeIn G l th p0 (F_16 a_3 (((410 + x3_9) - 1).toNatClampNeg)) _ _ hp) mi_X12_placeIn coX12 hk_th w_1861 w_97 w_1859 rfl rfl ⟨Nat.le_of_ble_eq_true rfl, Nat.le_of_ble_eq_true rfl⟩ (Nat.le_of_ble_eq_true rfl) ⟨Nat.le_of_ble_eq_true rfl, Nat.le_of_ble_eq_true rfl⟩ dX12_dodges_101 (fun v S1 H locs hq hH => ?_)
              obtain ⟨r_21, F_21, rfl, e9, hp⟩ := hq
              rw [e9] at hH
              have hH : Hp G (FA S s.heap.size) s.heap (wI S F_21) H locs := hH
              refine W.eq (g2 := F0 m 104 ls [.int r_21, .int x2_8]) rfl ?_
              refine lv_iload (pc := 104) hx hb dX12_dodges_104 (lv_at hl 0 rfl) ?_
              refine lv_icmp_eq (pc := 106) (tgt := 113) hx hb dX12_dodges_106 (by decide) (fun cc_22 => ?_) (fun cc_22 => ?_)
              · have hp := hp.1 cc_22
                refine lv_iconst (pc := 113) (v := 0) hx hb dX12_dodges_113 (by decide) ?_
                refine lv_iadd (pc := 114) hx hb dX12_dodges_114 ?_
                refine lv_topi (fun v_23 ev_23 => ?_)
                have hp := hp v_23 ev_23
                refine lv_istore_n (pc := 115) (lv' := [(2, .int v_23), (4, .int r_14), (0, .ref th), (1, .int p0), (3, .int x3_9)]) hx hb dX12_dodges_115 rfl hl (by decide) rfl (fun ls hl => ?_)
                obtain ⟨v_24, ev_24⟩ : ∃ y : Int32, y = x3_9 + 1 := ⟨_, rfl⟩
                have hp := hp v_24 ev_24
                refine lv_iinc (pc := 116) (v := v_24) (lv' := [(3, .int v_24), (2, .int v_23), (4, .int r_14), (0, .ref th), (1, .int p0)]) hx hb dX12_dodges_116 hl (k := 4) rfl (by rw [ev_24]; rfl) (by decide) rfl (fun ls hl => ?_)
                refine lv_goto (pc := 119) (tgt := 36) hx hb dX12_dodges_119 (by decide) ?_
                obtain ⟨k9, hlt9, hp⟩ := hp
                exact ih_7 k9 hlt9 _ _ _ _ _ _ hp hH (lv_sub hl [3, 4, 1, 0] rfl)
              · have hp := hp.2 cc_22
                refine lv_iconst (pc := 109) (v := 1) hx hb dX12_dodges_109 (by decide) ?_
                refine lv_goto (pc := 110) (tgt := 114) hx hb dX12_dodges_110 (by decide) ?_
                refine lv_iadd (pc := 114) hx hb dX12_dodges_114 ?_
                refine lv_topi (fun v_25 ev_25 => ?_)
                have hp := hp v_25 ev_25
                refine lv_istore_n (pc := 115) (lv' := [(2, .int v_25), (4, .int r_14), (0, .ref th), (1, .int p0), (3, .int x3_9)]) hx hb dX12_dodges_115 rfl hl (by decide) rfl (fun ls hl => ?_)
                obtain ⟨v_26, ev_26⟩ : ∃ y : Int32, y = x3_9 + 1 := ⟨_, rfl⟩
                have hp := hp v_26 ev_26
                refine lv_iinc (pc := 116) (v := v_26) (lv' := [(3, .int v_26), (2, .int v_25), (4, .int r_14), (0, .ref th), (1, .int p0)]) hx hb dX12_dodges_116 hl (k := 4) rfl (by rw [ev_26]; rfl) (by decide) rfl (fun ls hl => ?_)
                refine lv_goto (pc := 119) (tgt := 36) hx hb dX12_dodges_119 (by decide) ?_
                obtain ⟨k9, hlt9, hp⟩ := hp
                exact ih_7 k9 hlt9 _ _ _ _ _ _ hp hH (lv_sub hl [3, 4, 1, 0] rfl)
      exact kl_7 k0_7 _ _ _ _ _ _ h0_7 hH (lv_sub hl [2, 3, 1, 0] rfl)
    · have hp := hp.2 cc_6
      refine lv_aload_n (pc := 25) hx hb dX12_dodges_25 rfl (lv_at hl 0 rfl) ?_
      refine lv_bipush (pc := 26) (v := 6) hx hb dX12_dodges_26 (by decide) ?_
      refine sx_V (pc := 28) (As := [.int 6]) (rest := []) B hH hl.1 (C_X12_refuse G l th 6 _ _ hp) mi_X12_refuse coX12 hk_th w_1539 w_51 w_1537 rfl rfl ⟨Nat.le_of_ble_eq_true rfl, Nat.le_of_ble_eq_true rfl⟩ (Nat.le_of_ble_eq_true rfl) ⟨Nat.le_of_ble_eq_true rfl, Nat.le_of_ble_eq_true rfl⟩ dX12_dodges_28 (fun v S1 H locs hq hH => ?_)
      obtain ⟨r_27, F_27, rfl, e9, hp⟩ := hq
      rw [e9] at hH
      have hH : Hp G (FA S s.heap.size) s.heap (wI S F_27) H locs := hH
      refine W.eq (g2 := F0 m 31 ls [.int r_27]) rfl ?_
      exact sx_iret (pc := 31) B hH hr hlk (by rw [← hQQ]; exact ⟨_, F_27, rfl, rfl, hp⟩) (Nat.le_of_ble_eq_true rfl) (Nat.le_of_ble_eq_true rfl) dX12_dodges_31
  · have hp := hp.2 cc_2
    refine lv_aload_n (pc := 8) hx hb dX12_dodges_8 rfl (lv_at hl 0 rfl) ?_
    refine lv_iconst (pc := 9) (v := 1) hx hb dX12_dodges_9 (by decide) ?_
    refine sx_V (pc := 10) (As := [.int 1]) (rest := []) B hH hl.1 (C_X12_refuse G l th 1 _ _ hp) mi_X12_refuse coX12 hk_th w_1539 w_51 w_1537 rfl rfl ⟨Nat.le_of_ble_eq_true rfl, Nat.le_of_ble_eq_true rfl⟩ (Nat.le_of_ble_eq_true rfl) ⟨Nat.le_of_ble_eq_true rfl, Nat.le_of_ble_eq_true rfl⟩ dX12_dodges_10 (fun v S1 H locs hq hH => ?_)
    obtain ⟨r_28, F_28, rfl, e9, hp⟩ := hq
    rw [e9] at hH
    have hH : Hp G (FA S s.heap.size) s.heap (wI S F_28) H locs := hH
    refine W.eq (g2 := F0 m 13 ls [.int r_28]) rfl ?_
    exact sx_iret (pc := 13) B hH hr hlk (by rw [← hQQ]; exact ⟨_, F_28, rfl, rfl, hp⟩) (Nat.le_of_ble_eq_true rfl) (Nat.le_of_ble_eq_true rfl) dX12_dodges_13
theorem dX12_lies_0 : decode cX12_lies 0 = .ok (.aload_n 0, 1) := by decide +kernel
theorem dX12_lies_1 : decode cX12_lies 1 = .ok (.iload_n 1, 1) := by decide +kernel
theorem dX12_lies_2 : decode cX12_lies 2 = .ok (.invokevirtual 280, 3) := by decide +kernel
theorem dX12_lies_5 : decode cX12_lies 5 = .ok (.ifCond .ne 9, 3) := by decide +kernel
theorem dX12_lies_8 : decode cX12_lies 8 = .ok (.aload_n 0, 1) := by decide +kernel
theorem dX12_lies_9 : decode cX12_lies 9 = .ok (.iconst 1, 1) := by decide +kernel
theorem dX12_lies_10 : decode cX12_lies 10 = .ok (.invokevirtual 105, 3) := by decide +kernel
theorem dX12_lies_13 : decode cX12_lies 13 = .ok (.ireturn, 1) := by decide +kernel
theorem dX12_lies_14 : decode cX12_lies 14 = .ok (.aload_n 0, 1) := by decide +kernel
theorem dX12_lies_15 : decode cX12_lies 15 = .ok (.getfield 7, 3) := by decide +kernel
theorem dX12_lies_18 : decode cX12_lies 18 = .ok (.bipush 6, 2) := by decide +kernel
theorem dX12_lies_20 : decode cX12_lies 20 = .ok (.iaload, 1) := by decide +kernel
theorem dX12_lies_21 : decode cX12_lies 21 = .ok (.iconst (-1), 1) := by decide +kernel
theorem dX12_lies_22 : decode cX12_lies 22 = .ok (.if_icmp .ne 10, 3) := by decide +kernel
theorem dX12_lies_25 : decode cX12_lies 25 = .ok (.aload_n 0, 1) := by decide +kernel
theorem dX12_lies_26 : decode cX12_lies 26 = .ok (.bipush 6, 2) := by decide +kernel
theorem dX12_lies_28 : decode cX12_lies 28 = .ok (.invokevirtual 105, 3) := by decide +kernel
theorem dX12_lies_31 : decode cX12_lies 31 = .ok (.ireturn, 1) := by decide +kernel
theorem dX12_lies_32 : decode cX12_lies 32 = .ok (.iconst 0, 1) := by decide +kernel
theorem dX12_lies_33 : decode cX12_lies 33 = .ok (.istore_n 2, 1) := by decide +kernel
theorem dX12_lies_34 : decode cX12_lies 34 = .ok (.iconst 1, 1) := by decide +kernel
theorem dX12_lies_35 : decode cX12_lies 35 = .ok (.istore_n 3, 1) := by decide +kernel
theorem dX12_lies_36 : decode cX12_lies 36 = .ok (.iload_n 3, 1) := by decide +kernel
theorem dX12_lies_37 : decode cX12_lies 37 = .ok (.aload_n 0, 1) := by decide +kernel
theorem dX12_lies_38 : decode cX12_lies 38 = .ok (.getfield 7, 3) := by decide +kernel
theorem dX12_lies_41 : decode cX12_lies 41 = .ok (.bipush 6, 2) := by decide +kernel
theorem dX12_lies_43 : decode cX12_lies 43 = .ok (.iaload, 1) := by decide +kernel
theorem dX12_lies_44 : decode cX12_lies 44 = .ok (.if_icmp .gt 52, 3) := by decide +kernel
theorem dX12_lies_47 : decode cX12_lies 47 = .ok (.iload_n 2, 1) := by decide +kernel
theorem dX12_lies_48 : decode cX12_lies 48 = .ok (.aload_n 0, 1) := by decide +kernel
theorem dX12_lies_49 : decode cX12_lies 49 = .ok (.iload_n 1, 1) := by decide +kernel
theorem dX12_lies_50 : decode cX12_lies 50 = .ok (.aload_n 0, 1) := by decide +kernel
theorem dX12_lies_51 : decode cX12_lies 51 = .ok (.getfield 7, 3) := by decide +kernel
theorem dX12_lies_54 : decode cX12_lies 54 = .ok (.sipush 410, 3) := by decide +kernel
theorem dX12_lies_57 : decode cX12_lies 57 = .ok (.iload_n 3, 1) := by decide +kernel
theorem dX12_lies_58 : decode cX12_lies 58 = .ok (.iadd, 1) := by decide +kernel
theorem dX12_lies_59 : decode cX12_lies 59 = .ok (.iaload, 1) := by decide +kernel
theorem dX12_lies_60 : decode cX12_lies 60 = .ok (.invokevirtual 374, 3) := by decide +kernel
theorem dX12_lies_63 : decode cX12_lies 63 = .ok (.aload_n 0, 1) := by decide +kernel
theorem dX12_lies_64 : decode cX12_lies 64 = .ok (.iload_n 1, 1) := by decide +kernel
theorem dX12_lies_65 : decode cX12_lies 65 = .ok (.aload_n 0, 1) := by decide +kernel
theorem dX12_lies_66 : decode cX12_lies 66 = .ok (.getfield 7, 3) := by decide +kernel
theorem dX12_lies_69 : decode cX12_lies 69 = .ok (.sipush 410, 3) := by decide +kernel
theorem dX12_lies_72 : decode cX12_lies 72 = .ok (.iload_n 3, 1) := by decide +kernel
theorem dX12_lies_73 : decode cX12_lies 73 = .ok (.iadd, 1) := by decide +kernel
theorem dX12_lies_74 : decode cX12_lies 74 = .ok (.iconst 1, 1) := by decide +kernel
theorem dX12_lies_75 : decode cX12_lies 75 = .ok (.isub, 1) := by decide +kernel
theorem dX12_lies_76 : decode cX12_lies 76 = .ok (.iaload, 1) := by decide +kernel
theorem dX12_lies_77 : decode cX12_lies 77 = .ok (.invokevirtual 374, 3) := by decide +kernel
theorem dX12_lies_80 : decode cX12_lies 80 = .ok (.if_icmp .ne 7, 3) := by decide +kernel
theorem dX12_lies_83 : decode cX12_lies 83 = .ok (.iconst 1, 1) := by decide +kernel
theorem dX12_lies_84 : decode cX12_lies 84 = .ok (.goto 4, 3) := by decide +kernel
theorem dX12_lies_87 : decode cX12_lies 87 = .ok (.iconst 0, 1) := by decide +kernel
theorem dX12_lies_88 : decode cX12_lies 88 = .ok (.iadd, 1) := by decide +kernel
theorem dX12_lies_89 : decode cX12_lies 89 = .ok (.istore_n 2, 1) := by decide +kernel
theorem dX12_lies_90 : decode cX12_lies 90 = .ok (.iinc 3 1, 3) := by decide +kernel
theorem dX12_lies_93 : decode cX12_lies 93 = .ok (.goto (-57), 3) := by decide +kernel
theorem dX12_lies_96 : decode cX12_lies 96 = .ok (.aload_n 0, 1) := by decide +kernel
theorem dX12_lies_97 : decode cX12_lies 97 = .ok (.iload_n 2, 1) := by decide +kernel
theorem dX12_lies_98 : decode cX12_lies 98 = .ok (.invokevirtual 109, 3) := by decide +kernel
theorem dX12_lies_101 : decode cX12_lies 101 = .ok (.ireturn, 1) := by decide +kernel
theorem mi_X12_lies : MI yX12_lies cX12_lies 4 (some FieldType.int) 1 := ⟨w_1874, w_118, by decide +kernel, by decide +kernel, by decide +kernel⟩
set_option maxRecDepth 100000 in
set_option maxHeartbeats 4000000 in
theorem C_X12_lies (G : GG) (l : Launch) (th : Nat) (p0 : Int32) (S : St) (Q : Int32 → (Nat → Nat → Int32) → Prop) (hp : P_X12_lies th p0 S Q) : Ctr G l yX12_lies cX12_lies 4 (some FieldType.int) 3 74 0 0 [.ref th, .int p0] S (fun (v : Option Value) (S9 : St) => ∃ (r : Int32) (I9 : Nat → Nat → Int32), v = some (.int r) ∧ S9 = wI S I9 ∧ Q r I9) := by
  generalize hQQ : (fun (v : Option Value) (S9 : St) => ∃ (r : Int32) (I9 : Nat → Nat → Int32), v = some (.int r) ∧ S9 = wI S I9 ∧ Q r I9) = QQ
  unfold P_X12_lies at hp
  refine Ctr.of (by decide) (Nat.le_of_ble_eq_true rfl) ?_
  intro p e s m args below meth c ls B hr hlk hin hl hH
  generalize hlocs0 : ([] : List Loc) = locs at hH ⊢
  have hx := B.1
  have hb := B.2.1
  have hl : lv_has ls 4 [(0, .ref th), (1, .int p0)] := hl
  obtain ⟨hk_th, hp⟩ := hp
  refine lv_aload_n (pc := 0) hx hb dX12_lies_0 rfl (lv_at hl 0 rfl) ?_
  refine lv_iload_n (pc := 1) hx hb dX12_lies_1 rfl (lv_at hl 1 rfl) ?_
  refine sx_V (pc := 2) (As := [.int p0]) (rest := []) B hH hl.1 (C_X12_isBell G l th p0 _ _ hp) mi_X12_isBell coX12 hk_th w_1653 w_75 w_1651 rfl rfl ⟨Nat.le_of_ble_eq_true rfl, Nat.le_of_ble_eq_true rfl⟩ (Nat.le_of_ble_eq_true rfl) ⟨Nat.le_of_ble_eq_true rfl, Nat.le_of_ble_eq_true rfl⟩ dX12_lies_2 (fun v S1 H locs hq hH => ?_)
  obtain ⟨r_1, rfl, e9, hp⟩ := hq
  rw [e9] at hH
  refine W.eq (g2 := F0 m 5 ls [.int r_1]) rfl ?_
  refine lv_if_ne (pc := 5) (tgt := 14) hx hb dX12_lies_5 (by decide) (fun cc_2 => ?_) (fun cc_2 => ?_)
  · have hp := hp.1 cc_2
    refine lv_aload_n (pc := 14) hx hb dX12_lies_14 rfl (lv_at hl 0 rfl) ?_
    refine sx_getR (pc := 15) (j := 0) B hH hk_th coX12 rfl w_1304 rfl dX12_lies_15 ?_
    refine W.eq (g2 := F0 m 18 ls [va_rf (gR S th 0)]) rfl ?_
    obtain ⟨a_3, ha_3, hp⟩ := hp
    refine sx_nonnull (x := a_3) ha_3 ?_
    refine lv_bipush (pc := 18) (v := 6) hx hb dX12_lies_18 (by decide) ?_
    obtain ⟨hk_4, hp⟩ := hp
    obtain ⟨hn_5, hp⟩ := hp
    refine sx_iald (pc := 20) B hH hk_4 hn_5 dX12_lies_20 ?_
    refine W.eq (g2 := F0 m 21 ls [.int (gI S a_3 6)]) rfl ?_
    refine lv_iconst (pc := 21) (v := (-1)) hx hb dX12_lies_21 (by decide) ?_
    refine lv_icmp_ne (pc := 22) (tgt := 32) hx hb dX12_lies_22 (by decide) (fun cc_6 => ?_) (fun cc_6 => ?_)
    · have hp := hp.1 cc_6
      refine lv_iconst (pc := 32) (v := 0) hx hb dX12_lies_32 (by decide) ?_
      refine lv_istore_n (pc := 33) (lv' := [(2, .int 0), (0, .ref th), (1, .int p0)]) hx hb dX12_lies_33 rfl hl (by decide) rfl (fun ls hl => ?_)
      refine lv_iconst (pc := 34) (v := 1) hx hb dX12_lies_34 (by decide) ?_
      refine lv_istore_n (pc := 35) (lv' := [(3, .int 1), (2, .int 0), (0, .ref th), (1, .int p0)]) hx hb dX12_lies_35 rfl hl (by decide) rfl (fun ls hl => ?_)
      obtain ⟨I_7, ⟨k0_7, h0_7⟩, hst_7⟩ := hp
      have kl_7 : ∀ (n_7 : Nat) (x2_8 : Int32) (x3_9 : Int32) (F_10 : Nat → Nat → Int32) (H : Heap) (locs : List Loc) (ls : Array Slot), I_7 n_7 x2_8 x3_9 F_10 → Hp G (FA S s.heap.size) s.heap (wI S F_10) H locs → lv_has ls 4 [(0, .ref th), (1, .int p0), (2, .int x2_8), (3, .int x3_9)] → Wm G p l e { frames := 3, cells := 0, slots := 0, locals := 74 } s m args below meth c S QQ 0 0 H locs 0 0 (F0 m 36 ls []) := by
        intro n_7
        induction n_7 using Nat.strongRecOn with
        | ind n_7 ih_7 =>
          intro x2_8 x3_9 F_10 H locs ls hq9 hH hl
          have hp := hst_7 n_7 x2_8 x3_9 F_10 hq9
          refine lv_iload_n (pc := 36) hx hb dX12_lies_36 rfl (lv_at hl 3 rfl) ?_
          refine lv_aload_n (pc := 37) hx hb dX12_lies_37 rfl (lv_at hl 0 rfl) ?_
          refine sx_getR (pc := 38) (j := 0) B hH hk_th coX12 rfl w_1304 rfl dX12_lies_38 ?_
          refine W.eq (g2 := F0 m 41 ls [va_rf (gR S th 0), .int x3_9]) rfl ?_
          refine sx_nonnull (x := a_3) ha_3 ?_
          refine lv_bipush (pc := 41) (v := 6) hx hb dX12_lies_41 (by decide) ?_
          refine sx_iald (pc := 43) B hH hk_4 hn_5 dX12_lies_43 ?_
          refine W.eq (g2 := F0 m 44 ls [.int (F_10 a_3 6), .int x3_9]) rfl ?_
          refine lv_icmp_gt (pc := 44) (tgt := 96) hx hb dX12_lies_44 (by decide) (fun cc_11 => ?_) (fun cc_11 => ?_)
          · have hp := hp.1 cc_11
            refine lv_aload_n (pc := 96) hx hb dX12_lies_96 rfl (lv_at hl 0 rfl) ?_
            refine lv_iload_n (pc := 97) hx hb dX12_lies_97 rfl (lv_at hl 2 rfl) ?_
            refine sx_V (pc := 98) (As := [.int x2_8]) (rest := []) B hH hl.1 (C_X12_gives G l th x2_8 _ _ hp) mi_X12_gives coX12 hk_th w_1617 w_69 w_1615 rfl rfl ⟨Nat.le_of_ble_eq_true rfl, Nat.le_of_ble_eq_true rfl⟩ (Nat.le_of_ble_eq_true rfl) ⟨Nat.le_of_ble_eq_true rfl, Nat.le_of_ble_eq_true rfl⟩ dX12_lies_98 (fun v S1 H locs hq hH => ?_)
            obtain ⟨r_12, F_12, rfl, e9, hp⟩ := hq
            rw [e9] at hH
            have hH : Hp G (FA S s.heap.size) s.heap (wI S F_12) H locs := hH
            refine W.eq (g2 := F0 m 101 ls [.int r_12]) rfl ?_
            exact sx_iret (pc := 101) B hH hr hlk (by rw [← hQQ]; exact ⟨_, F_12, rfl, rfl, hp⟩) (Nat.le_of_ble_eq_true rfl) (Nat.le_of_ble_eq_true rfl) dX12_lies_101
          · have hp := hp.2 cc_11
            refine lv_iload_n (pc := 47) hx hb dX12_lies_47 rfl (lv_at hl 2 rfl) ?_
            refine lv_aload_n (pc := 48) hx hb dX12_lies_48 rfl (lv_at hl 0 rfl) ?_
            refine lv_iload_n (pc := 49) hx hb dX12_lies_49 rfl (lv_at hl 1 rfl) ?_
            refine lv_aload_n (pc := 50) hx hb dX12_lies_50 rfl (lv_at hl 0 rfl) ?_
            refine sx_getR (pc := 51) (j := 0) B hH hk_th coX12 rfl w_1304 rfl dX12_lies_51 ?_
            refine W.eq (g2 := F0 m 54 ls [va_rf (gR S th 0), .int p0, .ref th, .int x2_8]) rfl ?_
            refine sx_nonnull (x := a_3) ha_3 ?_
            refine lv_sipush (pc := 54) (v := 410) hx hb dX12_lies_54 (by decide) ?_
            refine lv_iload_n (pc := 57) hx hb dX12_lies_57 rfl (lv_at hl 3 rfl) ?_
            refine lv_iadd (pc := 58) hx hb dX12_lies_58 ?_
            obtain ⟨hn_13, hp⟩ := hp
            refine sx_iald (pc := 59) B hH hk_4 hn_13 dX12_lies_59 ?_
            refine W.eq (g2 := F0 m 60 ls [.int (F_10 a_3 ((410 + x3_9).toNatClampNeg)), .int p0, .ref th, .int x2_8]) rfl ?_
            refine sx_V (pc := 60) (As := [.int p0, .int (F_10 a_3 ((410 + x3_9).toNatClampNeg))]) (rest := [.int x2_8]) B hH hl.1 (C_X12_placeIn G l th p0 (F_10 a_3 ((410 + x3_9).toNatClampNeg)) _ _ hp) mi_X12_placeIn coX12 hk_th w_1861 w_97 w_1859 rfl rfl ⟨Nat.le_of_ble_eq_true rfl, Nat.le_of_ble_eq_true rfl⟩ (Nat.le_of_ble_eq_true rfl) ⟨Nat.le_of_ble_eq_true rfl, Nat.le_of_ble_eq_true rfl⟩ dX12_lies_60 (fun v S1 H locs hq hH => ?_)
            obtain ⟨r_14, F_14, rfl, e9, hp⟩ := hq
            rw [e9] at hH
            have hH : Hp G (FA S s.heap.size) s.heap (wI S F_14) H locs := hH
            refine W.eq (g2 := F0 m 63 ls [.int r_14, .int x2_8]) rfl ?_
            refine lv_aload_n (pc := 63) hx hb dX12_lies_63 rfl (lv_at hl 0 rfl) ?_
            refine lv_iload_n (pc := 64) hx hb dX12_lies_64 rfl (lv_at hl 1 rfl) ?_
            refine lv_aload_n (pc := 65) hx hb dX12_lies_65 rfl (lv_at hl 0 rfl) ?_
            refine sx_getR (pc := 66) (j := 0) B hH hk_th coX12 rfl w_1304 rfl dX12_lies_66 ?_
            refine W.eq (g2 := F0 m 69 ls [va_rf (gR S th 0), .int p0, .ref th, .int r_14, .int x2_8]) rfl ?_
            refine sx_nonnull (x := a_3) ha_3 ?_
            refine lv_sipush (pc := 69) (v := 410) hx hb dX12_lies_69 (by decide) ?_
            refine lv_iload_n (pc := 72) hx hb dX12_lies_72 rfl (lv_at hl 3 rfl) ?_
            refine lv_iadd (pc := 73) hx hb dX12_lies_73 ?_
            refine lv_iconst (pc := 74) (v := 1) hx hb dX12_lies_74 (by decide) ?_
            refine lv_isub (pc := 75) hx hb dX12_lies_75 ?_
            obtain ⟨hn_15, hp⟩ := hp
            refine sx_iald (pc := 76) B hH hk_4 hn_15 dX12_lies_76 ?_
            refine W.eq (g2 := F0 m 77 ls [.int (F_14 a_3 (((410 + x3_9) - 1).toNatClampNeg)), .int p0, .ref th, .int r_14, .int x2_8]) rfl ?_
            refine sx_V (pc := 77) (As := [.int p0, .int (F_14 a_3 (((410 + x3_9) - 1).toNatClampNeg))]) (rest := [.int r_14, .int x2_8]) B hH hl.1 (C_X12_placeIn G l th p0 (F_14 a_3 (((410 + x3_9) - 1).toNatClampNeg)) _ _ hp) mi_X12_placeIn coX12 hk_th w_1861 w_97 w_1859 rfl rfl ⟨Nat.le_of_ble_eq_true rfl, Nat.le_of_ble_eq_true rfl⟩ (Nat.le_of_ble_eq_true rfl) ⟨Nat.le_of_ble_eq_true rfl, Nat.le_of_ble_eq_true rfl⟩ dX12_lies_77 (fun v S1 H locs hq hH => ?_)
            obtain ⟨r_16, F_16, rfl, e9, hp⟩ := hq
            rw [e9] at hH
            have hH : Hp G (FA S s.heap.size) s.heap (wI S F_16) H locs := hH
            refine W.eq (g2 := F0 m 80 ls [.int r_16, .int r_14, .int x2_8]) rfl ?_
            refine lv_icmp_ne (pc := 80) (tgt := 87) hx hb dX12_lies_80 (by decide) (fun cc_17 => ?_) (fun cc_17 => ?_)
            · have hp := hp.1 cc_17
              refine lv_iconst (pc := 87) (v := 0) hx hb dX12_lies_87 (by decide) ?_
              refine lv_iadd (pc := 88) hx hb dX12_lies_88 ?_
              refine lv_topi (fun v_18 ev_18 => ?_)
              have hp := hp v_18 ev_18
              refine lv_istore_n (pc := 89) (lv' := [(2, .int v_18), (0, .ref th), (1, .int p0), (3, .int x3_9)]) hx hb dX12_lies_89 rfl hl (by decide) rfl (fun ls hl => ?_)
              obtain ⟨v_19, ev_19⟩ : ∃ y : Int32, y = x3_9 + 1 := ⟨_, rfl⟩
              have hp := hp v_19 ev_19
              refine lv_iinc (pc := 90) (v := v_19) (lv' := [(3, .int v_19), (2, .int v_18), (0, .ref th), (1, .int p0)]) hx hb dX12_lies_90 hl (k := 3) rfl (by rw [ev_19]; rfl) (by decide) rfl (fun ls hl => ?_)
              refine lv_goto (pc := 93) (tgt := 36) hx hb dX12_lies_93 (by decide) ?_
              obtain ⟨k9, hlt9, hp⟩ := hp
              exact ih_7 k9 hlt9 _ _ _ _ _ _ hp hH (lv_sub hl [2, 3, 1, 0] rfl)
            · have hp := hp.2 cc_17
              refine lv_iconst (pc := 83) (v := 1) hx hb dX12_lies_83 (by decide) ?_
              refine lv_goto (pc := 84) (tgt := 88) hx hb dX12_lies_84 (by decide) ?_
              refine lv_iadd (pc := 88) hx hb dX12_lies_88 ?_
              refine lv_topi (fun v_20 ev_20 => ?_)
              have hp := hp v_20 ev_20
              refine lv_istore_n (pc := 89) (lv' := [(2, .int v_20), (0, .ref th), (1, .int p0), (3, .int x3_9)]) hx hb dX12_lies_89 rfl hl (by decide) rfl (fun ls hl => ?_)
              obtain ⟨v_21, ev_21⟩ : ∃ y : Int32, y = x3_9 + 1 := ⟨_, rfl⟩
              have hp := hp v_21 ev_21
              refine lv_iinc (pc := 90) (v := v_21) (lv' := [(3, .int v_21), (2, .int v_20), (0, .ref th), (1, .int p0)]) hx hb dX12_lies_90 hl (k := 3) rfl (by rw [ev_21]; rfl) (by decide) rfl (fun ls hl => ?_)
              refine lv_goto (pc := 93) (tgt := 36) hx hb dX12_lies_93 (by decide) ?_
              obtain ⟨k9, hlt9, hp⟩ := hp
              exact ih_7 k9 hlt9 _ _ _ _ _ _ hp hH (lv_sub hl [2, 3, 1, 0] rfl)
      exact kl_7 k0_7 _ _ _ _ _ _ h0_7 hH (lv_sub hl [2, 3, 1, 0] rfl)
    · have hp := hp.2 cc_6
      refine lv_aload_n (pc := 25) hx hb dX12_lies_25 rfl (lv_at hl 0 rfl) ?_
      refine lv_bipush (pc := 26) (v := 6) hx hb dX12_lies_26 (by decide) ?_
      refine sx_V (pc := 28) (As := [.int 6]) (rest := []) B hH hl.1 (C_X12_refuse G l th 6 _ _ hp) mi_X12_refuse coX12 hk_th w_1539 w_51 w_1537 rfl rfl ⟨Nat.le_of_ble_eq_true rfl, Nat.le_of_ble_eq_true rfl⟩ (Nat.le_of_ble_eq_true rfl) ⟨Nat.le_of_ble_eq_true rfl, Nat.le_of_ble_eq_true rfl⟩ dX12_lies_28 (fun v S1 H locs hq hH => ?_)
      obtain ⟨r_22, F_22, rfl, e9, hp⟩ := hq
      rw [e9] at hH
      have hH : Hp G (FA S s.heap.size) s.heap (wI S F_22) H locs := hH
      refine W.eq (g2 := F0 m 31 ls [.int r_22]) rfl ?_
      exact sx_iret (pc := 31) B hH hr hlk (by rw [← hQQ]; exact ⟨_, F_22, rfl, rfl, hp⟩) (Nat.le_of_ble_eq_true rfl) (Nat.le_of_ble_eq_true rfl) dX12_lies_31
  · have hp := hp.2 cc_2
    refine lv_aload_n (pc := 8) hx hb dX12_lies_8 rfl (lv_at hl 0 rfl) ?_
    refine lv_iconst (pc := 9) (v := 1) hx hb dX12_lies_9 (by decide) ?_
    refine sx_V (pc := 10) (As := [.int 1]) (rest := []) B hH hl.1 (C_X12_refuse G l th 1 _ _ hp) mi_X12_refuse coX12 hk_th w_1539 w_51 w_1537 rfl rfl ⟨Nat.le_of_ble_eq_true rfl, Nat.le_of_ble_eq_true rfl⟩ (Nat.le_of_ble_eq_true rfl) ⟨Nat.le_of_ble_eq_true rfl, Nat.le_of_ble_eq_true rfl⟩ dX12_lies_10 (fun v S1 H locs hq hH => ?_)
    obtain ⟨r_23, F_23, rfl, e9, hp⟩ := hq
    rw [e9] at hH
    have hH : Hp G (FA S s.heap.size) s.heap (wI S F_23) H locs := hH
    refine W.eq (g2 := F0 m 13 ls [.int r_23]) rfl ?_
    exact sx_iret (pc := 13) B hH hr hlk (by rw [← hQQ]; exact ⟨_, F_23, rfl, rfl, hp⟩) (Nat.le_of_ble_eq_true rfl) (Nat.le_of_ble_eq_true rfl) dX12_lies_13
theorem dX12_backward_0 : decode cX12_backward 0 = .ok (.aload_n 0, 1) := by decide +kernel
theorem dX12_backward_1 : decode cX12_backward 1 = .ok (.getfield 7, 3) := by decide +kernel
theorem dX12_backward_4 : decode cX12_backward 4 = .ok (.bipush 6, 2) := by decide +kernel
theorem dX12_backward_6 : decode cX12_backward 6 = .ok (.iaload, 1) := by decide +kernel
theorem dX12_backward_7 : decode cX12_backward 7 = .ok (.iconst (-1), 1) := by decide +kernel
theorem dX12_backward_8 : decode cX12_backward 8 = .ok (.if_icmp .ne 10, 3) := by decide +kernel
theorem dX12_backward_11 : decode cX12_backward 11 = .ok (.aload_n 0, 1) := by decide +kernel
theorem dX12_backward_12 : decode cX12_backward 12 = .ok (.bipush 6, 2) := by decide +kernel
theorem dX12_backward_14 : decode cX12_backward 14 = .ok (.invokevirtual 105, 3) := by decide +kernel
theorem dX12_backward_17 : decode cX12_backward 17 = .ok (.ireturn, 1) := by decide +kernel
theorem dX12_backward_18 : decode cX12_backward 18 = .ok (.iconst 0, 1) := by decide +kernel
theorem dX12_backward_19 : decode cX12_backward 19 = .ok (.istore_n 1, 1) := by decide +kernel
theorem dX12_backward_20 : decode cX12_backward 20 = .ok (.iload_n 1, 1) := by decide +kernel
theorem dX12_backward_21 : decode cX12_backward 21 = .ok (.aload_n 0, 1) := by decide +kernel
theorem dX12_backward_22 : decode cX12_backward 22 = .ok (.getfield 7, 3) := by decide +kernel
theorem dX12_backward_25 : decode cX12_backward 25 = .ok (.bipush 6, 2) := by decide +kernel
theorem dX12_backward_27 : decode cX12_backward 27 = .ok (.iaload, 1) := by decide +kernel
theorem dX12_backward_28 : decode cX12_backward 28 = .ok (.if_icmp .ge 86, 3) := by decide +kernel
theorem dX12_backward_31 : decode cX12_backward 31 = .ok (.aload_n 0, 1) := by decide +kernel
theorem dX12_backward_32 : decode cX12_backward 32 = .ok (.aload_n 0, 1) := by decide +kernel
theorem dX12_backward_33 : decode cX12_backward 33 = .ok (.getfield 7, 3) := by decide +kernel
theorem dX12_backward_36 : decode cX12_backward 36 = .ok (.sipush 410, 3) := by decide +kernel
theorem dX12_backward_39 : decode cX12_backward 39 = .ok (.iload_n 1, 1) := by decide +kernel
theorem dX12_backward_40 : decode cX12_backward 40 = .ok (.iadd, 1) := by decide +kernel
theorem dX12_backward_41 : decode cX12_backward 41 = .ok (.iaload, 1) := by decide +kernel
theorem dX12_backward_42 : decode cX12_backward 42 = .ok (.aload_n 0, 1) := by decide +kernel
theorem dX12_backward_43 : decode cX12_backward 43 = .ok (.getfield 7, 3) := by decide +kernel
theorem dX12_backward_46 : decode cX12_backward 46 = .ok (.sipush 410, 3) := by decide +kernel
theorem dX12_backward_49 : decode cX12_backward 49 = .ok (.iload_n 1, 1) := by decide +kernel
theorem dX12_backward_50 : decode cX12_backward 50 = .ok (.iadd, 1) := by decide +kernel
theorem dX12_backward_51 : decode cX12_backward 51 = .ok (.iconst 1, 1) := by decide +kernel
theorem dX12_backward_52 : decode cX12_backward 52 = .ok (.iadd, 1) := by decide +kernel
theorem dX12_backward_53 : decode cX12_backward 53 = .ok (.iaload, 1) := by decide +kernel
theorem dX12_backward_54 : decode cX12_backward 54 = .ok (.invokevirtual 308, 3) := by decide +kernel
theorem dX12_backward_57 : decode cX12_backward 57 = .ok (.aload_n 0, 1) := by decide +kernel
theorem dX12_backward_58 : decode cX12_backward 58 = .ok (.aload_n 0, 1) := by decide +kernel
theorem dX12_backward_59 : decode cX12_backward 59 = .ok (.getfield 7, 3) := by decide +kernel
theorem dX12_backward_62 : decode cX12_backward 62 = .ok (.sipush 410, 3) := by decide +kernel
theorem dX12_backward_65 : decode cX12_backward 65 = .ok (.aload_n 0, 1) := by decide +kernel
theorem dX12_backward_66 : decode cX12_backward 66 = .ok (.getfield 7, 3) := by decide +kernel
theorem dX12_backward_69 : decode cX12_backward 69 = .ok (.bipush 6, 2) := by decide +kernel
theorem dX12_backward_71 : decode cX12_backward 71 = .ok (.iaload, 1) := by decide +kernel
theorem dX12_backward_72 : decode cX12_backward 72 = .ok (.iadd, 1) := by decide +kernel
theorem dX12_backward_73 : decode cX12_backward 73 = .ok (.iload_n 1, 1) := by decide +kernel
theorem dX12_backward_74 : decode cX12_backward 74 = .ok (.isub, 1) := by decide +kernel
theorem dX12_backward_75 : decode cX12_backward 75 = .ok (.iconst 1, 1) := by decide +kernel
theorem dX12_backward_76 : decode cX12_backward 76 = .ok (.isub, 1) := by decide +kernel
theorem dX12_backward_77 : decode cX12_backward 77 = .ok (.iaload, 1) := by decide +kernel
theorem dX12_backward_78 : decode cX12_backward 78 = .ok (.aload_n 0, 1) := by decide +kernel
theorem dX12_backward_79 : decode cX12_backward 79 = .ok (.getfield 7, 3) := by decide +kernel
theorem dX12_backward_82 : decode cX12_backward 82 = .ok (.sipush 410, 3) := by decide +kernel
theorem dX12_backward_85 : decode cX12_backward 85 = .ok (.aload_n 0, 1) := by decide +kernel
theorem dX12_backward_86 : decode cX12_backward 86 = .ok (.getfield 7, 3) := by decide +kernel
theorem dX12_backward_89 : decode cX12_backward 89 = .ok (.bipush 6, 2) := by decide +kernel
theorem dX12_backward_91 : decode cX12_backward 91 = .ok (.iaload, 1) := by decide +kernel
theorem dX12_backward_92 : decode cX12_backward 92 = .ok (.iadd, 1) := by decide +kernel
theorem dX12_backward_93 : decode cX12_backward 93 = .ok (.iload_n 1, 1) := by decide +kernel
theorem dX12_backward_94 : decode cX12_backward 94 = .ok (.isub, 1) := by decide +kernel
theorem dX12_backward_95 : decode cX12_backward 95 = .ok (.iaload, 1) := by decide +kernel
theorem dX12_backward_96 : decode cX12_backward 96 = .ok (.invokevirtual 308, 3) := by decide +kernel
theorem dX12_backward_99 : decode cX12_backward 99 = .ok (.if_icmp .eq 9, 3) := by decide +kernel
theorem dX12_backward_102 : decode cX12_backward 102 = .ok (.aload_n 0, 1) := by decide +kernel
theorem dX12_backward_103 : decode cX12_backward 103 = .ok (.iconst 0, 1) := by decide +kernel
theorem dX12_backward_104 : decode cX12_backward 104 = .ok (.invokevirtual 109, 3) := by decide +kernel
theorem dX12_backward_107 : decode cX12_backward 107 = .ok (.ireturn, 1) := by decide +kernel
theorem dX12_backward_108 : decode cX12_backward 108 = .ok (.iinc 1 1, 3) := by decide +kernel
theorem dX12_backward_111 : decode cX12_backward 111 = .ok (.goto (-91), 3) := by decide +kernel
theorem dX12_backward_114 : decode cX12_backward 114 = .ok (.aload_n 0, 1) := by decide +kernel
theorem dX12_backward_115 : decode cX12_backward 115 = .ok (.iconst 1, 1) := by decide +kernel
theorem dX12_backward_116 : decode cX12_backward 116 = .ok (.invokevirtual 109, 3) := by decide +kernel
theorem dX12_backward_119 : decode cX12_backward 119 = .ok (.ireturn, 1) := by decide +kernel
theorem mi_X12_backward : MI yX12_backward cX12_backward 2 (some FieldType.int) 0 := ⟨w_1878, w_118, by decide +kernel, by decide +kernel, by decide +kernel⟩
set_option maxRecDepth 100000 in
set_option maxHeartbeats 4000000 in
theorem C_X12_backward (G : GG) (l : Launch) (th : Nat) (S : St) (Q : Int32 → (Nat → Nat → Int32) → Prop) (hp : P_X12_backward th S Q) : Ctr G l yX12_backward cX12_backward 2 (some FieldType.int) 3 75 0 0 [.ref th] S (fun (v : Option Value) (S9 : St) => ∃ (r : Int32) (I9 : Nat → Nat → Int32), v = some (.int r) ∧ S9 = wI S I9 ∧ Q r I9) := by
  generalize hQQ : (fun (v : Option Value) (S9 : St) => ∃ (r : Int32) (I9 : Nat → Nat → Int32), v = some (.int r) ∧ S9 = wI S I9 ∧ Q r I9) = QQ
  unfold P_X12_backward at hp
  refine Ctr.of (by decide) (Nat.le_of_ble_eq_true rfl) ?_
  intro p e s m args below meth c ls B hr hlk hin hl hH
  generalize hlocs0 : ([] : List Loc) = locs at hH ⊢
  have hx := B.1
  have hb := B.2.1
  have hl : lv_has ls 2 [(0, .ref th)] := hl
  obtain ⟨hk_th, hp⟩ := hp
  refine lv_aload_n (pc := 0) hx hb dX12_backward_0 rfl (lv_at hl 0 rfl) ?_
  refine sx_getR (pc := 1) (j := 0) B hH hk_th coX12 rfl w_1304 rfl dX12_backward_1 ?_
  refine W.eq (g2 := F0 m 4 ls [va_rf (gR S th 0)]) rfl ?_
  obtain ⟨a_1, ha_1, hp⟩ := hp
  refine sx_nonnull (x := a_1) ha_1 ?_
  refine lv_bipush (pc := 4) (v := 6) hx hb dX12_backward_4 (by decide) ?_
  obtain ⟨hk_2, hp⟩ := hp
  obtain ⟨hn_3, hp⟩ := hp
  refine sx_iald (pc := 6) B hH hk_2 hn_3 dX12_backward_6 ?_
  refine W.eq (g2 := F0 m 7 ls [.int (gI S a_1 6)]) rfl ?_
  refine lv_iconst (pc := 7) (v := (-1)) hx hb dX12_backward_7 (by decide) ?_
  refine lv_icmp_ne (pc := 8) (tgt := 18) hx hb dX12_backward_8 (by decide) (fun cc_4 => ?_) (fun cc_4 => ?_)
  · have hp := hp.1 cc_4
    refine lv_iconst (pc := 18) (v := 0) hx hb dX12_backward_18 (by decide) ?_
    refine lv_istore_n (pc := 19) (lv' := [(1, .int 0), (0, .ref th)]) hx hb dX12_backward_19 rfl hl (by decide) rfl (fun ls hl => ?_)
    obtain ⟨I_5, ⟨k0_5, h0_5⟩, hst_5⟩ := hp
    have kl_5 : ∀ (n_5 : Nat) (x1_6 : Int32) (F_7 : Nat → Nat → Int32) (H : Heap) (locs : List Loc) (ls : Array Slot), I_5 n_5 x1_6 F_7 → Hp G (FA S s.heap.size) s.heap (wI S F_7) H locs → lv_has ls 2 [(0, .ref th), (1, .int x1_6)] → Wm G p l e { frames := 3, cells := 0, slots := 0, locals := 75 } s m args below meth c S QQ 0 0 H locs 0 0 (F0 m 20 ls []) := by
      intro n_5
      induction n_5 using Nat.strongRecOn with
      | ind n_5 ih_5 =>
        intro x1_6 F_7 H locs ls hq9 hH hl
        have hp := hst_5 n_5 x1_6 F_7 hq9
        refine lv_iload_n (pc := 20) hx hb dX12_backward_20 rfl (lv_at hl 1 rfl) ?_
        refine lv_aload_n (pc := 21) hx hb dX12_backward_21 rfl (lv_at hl 0 rfl) ?_
        refine sx_getR (pc := 22) (j := 0) B hH hk_th coX12 rfl w_1304 rfl dX12_backward_22 ?_
        refine W.eq (g2 := F0 m 25 ls [va_rf (gR S th 0), .int x1_6]) rfl ?_
        refine sx_nonnull (x := a_1) ha_1 ?_
        refine lv_bipush (pc := 25) (v := 6) hx hb dX12_backward_25 (by decide) ?_
        refine sx_iald (pc := 27) B hH hk_2 hn_3 dX12_backward_27 ?_
        refine W.eq (g2 := F0 m 28 ls [.int (F_7 a_1 6), .int x1_6]) rfl ?_
        refine lv_icmp_ge (pc := 28) (tgt := 114) hx hb dX12_backward_28 (by decide) (fun cc_8 => ?_) (fun cc_8 => ?_)
        · have hp := hp.1 cc_8
          refine lv_aload_n (pc := 114) hx hb dX12_backward_114 rfl (lv_at hl 0 rfl) ?_
          refine lv_iconst (pc := 115) (v := 1) hx hb dX12_backward_115 (by decide) ?_
          refine sx_V (pc := 116) (As := [.int 1]) (rest := []) B hH hl.1 (C_X12_gives G l th 1 _ _ hp) mi_X12_gives coX12 hk_th w_1617 w_69 w_1615 rfl rfl ⟨Nat.le_of_ble_eq_true rfl, Nat.le_of_ble_eq_true rfl⟩ (Nat.le_of_ble_eq_true rfl) ⟨Nat.le_of_ble_eq_true rfl, Nat.le_of_ble_eq_true rfl⟩ dX12_backward_116 (fun v S1 H locs hq hH => ?_)
          obtain ⟨r_9, F_9, rfl, e9, hp⟩ := hq
          rw [e9] at hH
          have hH : Hp G (FA S s.heap.size) s.heap (wI S F_9) H locs := hH
          refine W.eq (g2 := F0 m 119 ls [.int r_9]) rfl ?_
          exact sx_iret (pc := 119) B hH hr hlk (by rw [← hQQ]; exact ⟨_, F_9, rfl, rfl, hp⟩) (Nat.le_of_ble_eq_true rfl) (Nat.le_of_ble_eq_true rfl) dX12_backward_119
        · have hp := hp.2 cc_8
          refine lv_aload_n (pc := 31) hx hb dX12_backward_31 rfl (lv_at hl 0 rfl) ?_
          refine lv_aload_n (pc := 32) hx hb dX12_backward_32 rfl (lv_at hl 0 rfl) ?_
          refine sx_getR (pc := 33) (j := 0) B hH hk_th coX12 rfl w_1304 rfl dX12_backward_33 ?_
          refine W.eq (g2 := F0 m 36 ls [va_rf (gR S th 0), .ref th]) rfl ?_
          refine sx_nonnull (x := a_1) ha_1 ?_
          refine lv_sipush (pc := 36) (v := 410) hx hb dX12_backward_36 (by decide) ?_
          refine lv_iload_n (pc := 39) hx hb dX12_backward_39 rfl (lv_at hl 1 rfl) ?_
          refine lv_iadd (pc := 40) hx hb dX12_backward_40 ?_
          obtain ⟨hn_10, hp⟩ := hp
          refine sx_iald (pc := 41) B hH hk_2 hn_10 dX12_backward_41 ?_
          refine W.eq (g2 := F0 m 42 ls [.int (F_7 a_1 ((410 + x1_6).toNatClampNeg)), .ref th]) rfl ?_
          refine lv_aload_n (pc := 42) hx hb dX12_backward_42 rfl (lv_at hl 0 rfl) ?_
          refine sx_getR (pc := 43) (j := 0) B hH hk_th coX12 rfl w_1304 rfl dX12_backward_43 ?_
          refine W.eq (g2 := F0 m 46 ls [va_rf (gR S th 0), .int (F_7 a_1 ((410 + x1_6).toNatClampNeg)), .ref th]) rfl ?_
          refine sx_nonnull (x := a_1) ha_1 ?_
          refine lv_sipush (pc := 46) (v := 410) hx hb dX12_backward_46 (by decide) ?_
          refine lv_iload_n (pc := 49) hx hb dX12_backward_49 rfl (lv_at hl 1 rfl) ?_
          refine lv_iadd (pc := 50) hx hb dX12_backward_50 ?_
          refine lv_iconst (pc := 51) (v := 1) hx hb dX12_backward_51 (by decide) ?_
          refine lv_iadd (pc := 52) hx hb dX12_backward_52 ?_
          obtain ⟨hn_11, hp⟩ := hp
          refine sx_iald (pc := 53) B hH hk_2 hn_11 dX12_backward_53 ?_
          refine W.eq (g2 := F0 m 54 ls [.int (F_7 a_1 (((410 + x1_6) + 1).toNatClampNeg)), .int (F_7 a_1 ((410 + x1_6).toNatClampNeg)), .ref th]) rfl ?_
          refine sx_V (pc := 54) (As := [.int (F_7 a_1 ((410 + x1_6).toNatClampNeg)), .int (F_7 a_1 (((410 + x1_6) + 1).toNatClampNeg))]) (rest := []) B hH hl.1 (C_X12_staysIn G l th (F_7 a_1 ((410 + x1_6).toNatClampNeg)) (F_7 a_1 (((410 + x1_6) + 1).toNatClampNeg)) _ _ hp) mi_X12_staysIn coX12 hk_th w_1733 w_84 w_1731 rfl rfl ⟨Nat.le_of_ble_eq_true rfl, Nat.le_of_ble_eq_true rfl⟩ (Nat.le_of_ble_eq_true rfl) ⟨Nat.le_of_ble_eq_true rfl, Nat.le_of_ble_eq_true rfl⟩ dX12_backward_54 (fun v S1 H locs hq hH => ?_)
          obtain ⟨r_12, F_12, rfl, e9, hp⟩ := hq
          rw [e9] at hH
          have hH : Hp G (FA S s.heap.size) s.heap (wI S F_12) H locs := hH
          refine W.eq (g2 := F0 m 57 ls [.int r_12]) rfl ?_
          refine lv_aload_n (pc := 57) hx hb dX12_backward_57 rfl (lv_at hl 0 rfl) ?_
          refine lv_aload_n (pc := 58) hx hb dX12_backward_58 rfl (lv_at hl 0 rfl) ?_
          refine sx_getR (pc := 59) (j := 0) B hH hk_th coX12 rfl w_1304 rfl dX12_backward_59 ?_
          refine W.eq (g2 := F0 m 62 ls [va_rf (gR S th 0), .ref th, .int r_12]) rfl ?_
          refine sx_nonnull (x := a_1) ha_1 ?_
          refine lv_sipush (pc := 62) (v := 410) hx hb dX12_backward_62 (by decide) ?_
          refine lv_aload_n (pc := 65) hx hb dX12_backward_65 rfl (lv_at hl 0 rfl) ?_
          refine sx_getR (pc := 66) (j := 0) B hH hk_th coX12 rfl w_1304 rfl dX12_backward_66 ?_
          refine W.eq (g2 := F0 m 69 ls [va_rf (gR S th 0), .int 410, .ref a_1, .ref th, .int r_12]) rfl ?_
          refine sx_nonnull (x := a_1) ha_1 ?_
          refine lv_bipush (pc := 69) (v := 6) hx hb dX12_backward_69 (by decide) ?_
          refine sx_iald (pc := 71) B hH hk_2 hn_3 dX12_backward_71 ?_
          refine W.eq (g2 := F0 m 72 ls [.int (F_12 a_1 6), .int 410, .ref a_1, .ref th, .int r_12]) rfl ?_
          refine lv_iadd (pc := 72) hx hb dX12_backward_72 ?_
          refine lv_iload_n (pc := 73) hx hb dX12_backward_73 rfl (lv_at hl 1 rfl) ?_
          refine lv_isub (pc := 74) hx hb dX12_backward_74 ?_
          refine lv_iconst (pc := 75) (v := 1) hx hb dX12_backward_75 (by decide) ?_
          refine lv_isub (pc := 76) hx hb dX12_backward_76 ?_
          obtain ⟨hn_13, hp⟩ := hp
          refine sx_iald (pc := 77) B hH hk_2 hn_13 dX12_backward_77 ?_
          refine W.eq (g2 := F0 m 78 ls [.int (F_12 a_1 ((((410 + (F_12 a_1 6)) - x1_6) - 1).toNatClampNeg)), .ref th, .int r_12]) rfl ?_
          refine lv_aload_n (pc := 78) hx hb dX12_backward_78 rfl (lv_at hl 0 rfl) ?_
          refine sx_getR (pc := 79) (j := 0) B hH hk_th coX12 rfl w_1304 rfl dX12_backward_79 ?_
          refine W.eq (g2 := F0 m 82 ls [va_rf (gR S th 0), .int (F_12 a_1 ((((410 + (F_12 a_1 6)) - x1_6) - 1).toNatClampNeg)), .ref th, .int r_12]) rfl ?_
          refine sx_nonnull (x := a_1) ha_1 ?_
          refine lv_sipush (pc := 82) (v := 410) hx hb dX12_backward_82 (by decide) ?_
          refine lv_aload_n (pc := 85) hx hb dX12_backward_85 rfl (lv_at hl 0 rfl) ?_
          refine sx_getR (pc := 86) (j := 0) B hH hk_th coX12 rfl w_1304 rfl dX12_backward_86 ?_
          refine W.eq (g2 := F0 m 89 ls [va_rf (gR S th 0), .int 410, .ref a_1, .int (F_12 a_1 ((((410 + (F_12 a_1 6)) - x1_6) - 1).toNatClampNeg)), .ref th, .int r_12]) rfl ?_
          refine sx_nonnull (x := a_1) ha_1 ?_
          refine lv_bipush (pc := 89) (v := 6) hx hb dX12_backward_89 (by decide) ?_
          refine sx_iald (pc := 91) B hH hk_2 hn_3 dX12_backward_91 ?_
          refine W.eq (g2 := F0 m 92 ls [.int (F_12 a_1 6), .int 410, .ref a_1, .int (F_12 a_1 ((((410 + (F_12 a_1 6)) - x1_6) - 1).toNatClampNeg)), .ref th, .int r_12]) rfl ?_
          refine lv_iadd (pc := 92) hx hb dX12_backward_92 ?_
          refine lv_iload_n (pc := 93) hx hb dX12_backward_93 rfl (lv_at hl 1 rfl) ?_
          refine lv_isub (pc := 94) hx hb dX12_backward_94 ?_
          obtain ⟨hn_14, hp⟩ := hp
          refine sx_iald (pc := 95) B hH hk_2 hn_14 dX12_backward_95 ?_
          refine W.eq (g2 := F0 m 96 ls [.int (F_12 a_1 (((410 + (F_12 a_1 6)) - x1_6).toNatClampNeg)), .int (F_12 a_1 ((((410 + (F_12 a_1 6)) - x1_6) - 1).toNatClampNeg)), .ref th, .int r_12]) rfl ?_
          refine sx_V (pc := 96) (As := [.int (F_12 a_1 ((((410 + (F_12 a_1 6)) - x1_6) - 1).toNatClampNeg)), .int (F_12 a_1 (((410 + (F_12 a_1 6)) - x1_6).toNatClampNeg))]) (rest := [.int r_12]) B hH hl.1 (C_X12_staysIn G l th (F_12 a_1 ((((410 + (F_12 a_1 6)) - x1_6) - 1).toNatClampNeg)) (F_12 a_1 (((410 + (F_12 a_1 6)) - x1_6).toNatClampNeg)) _ _ hp) mi_X12_staysIn coX12 hk_th w_1733 w_84 w_1731 rfl rfl ⟨Nat.le_of_ble_eq_true rfl, Nat.le_of_ble_eq_true rfl⟩ (Nat.le_of_ble_eq_true rfl) ⟨Nat.le_of_ble_eq_true rfl, Nat.le_of_ble_eq_true rfl⟩ dX12_backward_96 (fun v S1 H locs hq hH => ?_)
          obtain ⟨r_15, F_15, rfl, e9, hp⟩ := hq
          rw [e9] at hH
          have hH : Hp G (FA S s.heap.size) s.heap (wI S F_15) H locs := hH
          refine W.eq (g2 := F0 m 99 ls [.int r_15, .int r_12]) rfl ?_
          refine lv_icmp_eq (pc := 99) (tgt := 108) hx hb dX12_backward_99 (by decide) (fun cc_16 => ?_) (fun cc_16 => ?_)
          · have hp := hp.1 cc_16
            obtain ⟨v_17, ev_17⟩ : ∃ y : Int32, y = x1_6 + 1 := ⟨_, rfl⟩
            have hp := hp v_17 ev_17
            refine lv_iinc (pc := 108) (v := v_17) (lv' := [(1, .int v_17), (0, .ref th)]) hx hb dX12_backward_108 hl (k := 1) rfl (by rw [ev_17]; rfl) (by decide) rfl (fun ls hl => ?_)
            refine lv_goto (pc := 111) (tgt := 20) hx hb dX12_backward_111 (by decide) ?_
            obtain ⟨k9, hlt9, hp⟩ := hp
            exact ih_5 k9 hlt9 _ _ _ _ _ hp hH (lv_sub hl [1, 0] rfl)
          · have hp := hp.2 cc_16
            refine lv_aload_n (pc := 102) hx hb dX12_backward_102 rfl (lv_at hl 0 rfl) ?_
            refine lv_iconst (pc := 103) (v := 0) hx hb dX12_backward_103 (by decide) ?_
            refine sx_V (pc := 104) (As := [.int 0]) (rest := []) B hH hl.1 (C_X12_gives G l th 0 _ _ hp) mi_X12_gives coX12 hk_th w_1617 w_69 w_1615 rfl rfl ⟨Nat.le_of_ble_eq_true rfl, Nat.le_of_ble_eq_true rfl⟩ (Nat.le_of_ble_eq_true rfl) ⟨Nat.le_of_ble_eq_true rfl, Nat.le_of_ble_eq_true rfl⟩ dX12_backward_104 (fun v S1 H locs hq hH => ?_)
            obtain ⟨r_18, F_18, rfl, e9, hp⟩ := hq
            rw [e9] at hH
            have hH : Hp G (FA S s.heap.size) s.heap (wI S F_18) H locs := hH
            refine W.eq (g2 := F0 m 107 ls [.int r_18]) rfl ?_
            exact sx_iret (pc := 107) B hH hr hlk (by rw [← hQQ]; exact ⟨_, F_18, rfl, rfl, hp⟩) (Nat.le_of_ble_eq_true rfl) (Nat.le_of_ble_eq_true rfl) dX12_backward_107
    exact kl_5 k0_5 _ _ _ _ _ h0_5 hH (lv_sub hl [1, 0] rfl)
  · have hp := hp.2 cc_4
    refine lv_aload_n (pc := 11) hx hb dX12_backward_11 rfl (lv_at hl 0 rfl) ?_
    refine lv_bipush (pc := 12) (v := 6) hx hb dX12_backward_12 (by decide) ?_
    refine sx_V (pc := 14) (As := [.int 6]) (rest := []) B hH hl.1 (C_X12_refuse G l th 6 _ _ hp) mi_X12_refuse coX12 hk_th w_1539 w_51 w_1537 rfl rfl ⟨Nat.le_of_ble_eq_true rfl, Nat.le_of_ble_eq_true rfl⟩ (Nat.le_of_ble_eq_true rfl) ⟨Nat.le_of_ble_eq_true rfl, Nat.le_of_ble_eq_true rfl⟩ dX12_backward_14 (fun v S1 H locs hq hH => ?_)
    obtain ⟨r_19, F_19, rfl, e9, hp⟩ := hq
    rw [e9] at hH
    have hH : Hp G (FA S s.heap.size) s.heap (wI S F_19) H locs := hH
    refine W.eq (g2 := F0 m 17 ls [.int r_19]) rfl ?_
    exact sx_iret (pc := 17) B hH hr hlk (by rw [← hQQ]; exact ⟨_, F_19, rfl, rfl, hp⟩) (Nat.le_of_ble_eq_true rfl) (Nat.le_of_ble_eq_true rfl) dX12_backward_17
theorem dX12_music_0 : decode cX12_music 0 = .ok (.iload_n 1, 1) := by decide +kernel
theorem dX12_music_1 : decode cX12_music 1 = .ok (.invokestatic 116, 3) := by decide +kernel
theorem dX12_music_4 : decode cX12_music 4 = .ok (.ifCond .ne 9, 3) := by decide +kernel
theorem dX12_music_7 : decode cX12_music 7 = .ok (.aload_n 0, 1) := by decide +kernel
theorem dX12_music_8 : decode cX12_music 8 = .ok (.iconst 1, 1) := by decide +kernel
theorem dX12_music_9 : decode cX12_music 9 = .ok (.invokevirtual 105, 3) := by decide +kernel
theorem dX12_music_12 : decode cX12_music 12 = .ok (.ireturn, 1) := by decide +kernel
theorem dX12_music_13 : decode cX12_music 13 = .ok (.aload_n 0, 1) := by decide +kernel
theorem dX12_music_14 : decode cX12_music 14 = .ok (.getfield 24, 3) := by decide +kernel
theorem dX12_music_17 : decode cX12_music 17 = .ok (.iload_n 1, 1) := by decide +kernel
theorem dX12_music_18 : decode cX12_music 18 = .ok (.iaload, 1) := by decide +kernel
theorem dX12_music_19 : decode cX12_music 19 = .ok (.iconst (-1), 1) := by decide +kernel
theorem dX12_music_20 : decode cX12_music 20 = .ok (.if_icmp .ne 9, 3) := by decide +kernel
theorem dX12_music_23 : decode cX12_music 23 = .ok (.aload_n 0, 1) := by decide +kernel
theorem dX12_music_24 : decode cX12_music 24 = .ok (.iconst 2, 1) := by decide +kernel
theorem dX12_music_25 : decode cX12_music 25 = .ok (.invokevirtual 105, 3) := by decide +kernel
theorem dX12_music_28 : decode cX12_music 28 = .ok (.ireturn, 1) := by decide +kernel
theorem dX12_music_29 : decode cX12_music 29 = .ok (.aload_n 0, 1) := by decide +kernel
theorem dX12_music_30 : decode cX12_music 30 = .ok (.getfield 24, 3) := by decide +kernel
theorem dX12_music_33 : decode cX12_music 33 = .ok (.iload_n 1, 1) := by decide +kernel
theorem dX12_music_34 : decode cX12_music 34 = .ok (.iaload, 1) := by decide +kernel
theorem dX12_music_35 : decode cX12_music 35 = .ok (.aload_n 0, 1) := by decide +kernel
theorem dX12_music_36 : decode cX12_music 36 = .ok (.getfield 7, 3) := by decide +kernel
theorem dX12_music_39 : decode cX12_music 39 = .ok (.iconst 0, 1) := by decide +kernel
theorem dX12_music_40 : decode cX12_music 40 = .ok (.iaload, 1) := by decide +kernel
theorem dX12_music_41 : decode cX12_music 41 = .ok (.if_icmp .ge 9, 3) := by decide +kernel
theorem dX12_music_44 : decode cX12_music 44 = .ok (.aload_n 0, 1) := by decide +kernel
theorem dX12_music_45 : decode cX12_music 45 = .ok (.iconst 3, 1) := by decide +kernel
theorem dX12_music_46 : decode cX12_music 46 = .ok (.invokevirtual 105, 3) := by decide +kernel
theorem dX12_music_49 : decode cX12_music 49 = .ok (.ireturn, 1) := by decide +kernel
theorem dX12_music_50 : decode cX12_music 50 = .ok (.iconst 0, 1) := by decide +kernel
theorem dX12_music_51 : decode cX12_music 51 = .ok (.istore_n 2, 1) := by decide +kernel
theorem dX12_music_52 : decode cX12_music 52 = .ok (.iload_n 2, 1) := by decide +kernel
theorem dX12_music_53 : decode cX12_music 53 = .ok (.aload_n 0, 1) := by decide +kernel
theorem dX12_music_54 : decode cX12_music 54 = .ok (.getfield 7, 3) := by decide +kernel
theorem dX12_music_57 : decode cX12_music 57 = .ok (.iconst 0, 1) := by decide +kernel
theorem dX12_music_58 : decode cX12_music 58 = .ok (.iaload, 1) := by decide +kernel
theorem dX12_music_59 : decode cX12_music 59 = .ok (.if_icmp .ge 40, 3) := by decide +kernel
theorem dX12_music_62 : decode cX12_music 62 = .ok (.aload_n 0, 1) := by decide +kernel
theorem dX12_music_63 : decode cX12_music 63 = .ok (.getfield 27, 3) := by decide +kernel
theorem dX12_music_66 : decode cX12_music 66 = .ok (.bipush 60, 2) := by decide +kernel
theorem dX12_music_68 : decode cX12_music 68 = .ok (.iload_n 1, 1) := by decide +kernel
theorem dX12_music_69 : decode cX12_music 69 = .ok (.imul, 1) := by decide +kernel
theorem dX12_music_70 : decode cX12_music 70 = .ok (.iload_n 2, 1) := by decide +kernel
theorem dX12_music_71 : decode cX12_music 71 = .ok (.iadd, 1) := by decide +kernel
theorem dX12_music_72 : decode cX12_music 72 = .ok (.laload, 1) := by decide +kernel
theorem dX12_music_73 : decode cX12_music 73 = .ok (.lconst 0, 1) := by decide +kernel
theorem dX12_music_74 : decode cX12_music 74 = .ok (.aload_n 0, 1) := by decide +kernel
theorem dX12_music_75 : decode cX12_music 75 = .ok (.getfield 7, 3) := by decide +kernel
theorem dX12_music_78 : decode cX12_music 78 = .ok (.iconst 0, 1) := by decide +kernel
theorem dX12_music_79 : decode cX12_music 79 = .ok (.iaload, 1) := by decide +kernel
theorem dX12_music_80 : decode cX12_music 80 = .ok (.i2l, 1) := by decide +kernel
theorem dX12_music_81 : decode cX12_music 81 = .ok (.invokestatic 283, 3) := by decide +kernel
theorem dX12_music_84 : decode cX12_music 84 = .ok (.ifCond .ne 9, 3) := by decide +kernel
theorem dX12_music_87 : decode cX12_music 87 = .ok (.aload_n 0, 1) := by decide +kernel
theorem dX12_music_88 : decode cX12_music 88 = .ok (.iconst 5, 1) := by decide +kernel
theorem dX12_music_89 : decode cX12_music 89 = .ok (.invokevirtual 105, 3) := by decide +kernel
theorem dX12_music_92 : decode cX12_music 92 = .ok (.ireturn, 1) := by decide +kernel
theorem dX12_music_93 : decode cX12_music 93 = .ok (.iinc 2 1, 3) := by decide +kernel
theorem dX12_music_96 : decode cX12_music 96 = .ok (.goto (-44), 3) := by decide +kernel
theorem dX12_music_99 : decode cX12_music 99 = .ok (.aload_n 0, 1) := by decide +kernel
theorem dX12_music_100 : decode cX12_music 100 = .ok (.getfield 7, 3) := by decide +kernel
theorem dX12_music_103 : decode cX12_music 103 = .ok (.bipush 6, 2) := by decide +kernel
theorem dX12_music_105 : decode cX12_music 105 = .ok (.iaload, 1) := by decide +kernel
theorem dX12_music_106 : decode cX12_music 106 = .ok (.iconst (-1), 1) := by decide +kernel
theorem dX12_music_107 : decode cX12_music 107 = .ok (.if_icmp .ne 10, 3) := by decide +kernel
theorem dX12_music_110 : decode cX12_music 110 = .ok (.aload_n 0, 1) := by decide +kernel
theorem dX12_music_111 : decode cX12_music 111 = .ok (.bipush 6, 2) := by decide +kernel
theorem dX12_music_113 : decode cX12_music 113 = .ok (.invokevirtual 105, 3) := by decide +kernel
theorem dX12_music_116 : decode cX12_music 116 = .ok (.ireturn, 1) := by decide +kernel
theorem dX12_music_117 : decode cX12_music 117 = .ok (.iconst 0, 1) := by decide +kernel
theorem dX12_music_118 : decode cX12_music 118 = .ok (.istore_n 2, 1) := by decide +kernel
theorem dX12_music_119 : decode cX12_music 119 = .ok (.iconst 1, 1) := by decide +kernel
theorem dX12_music_120 : decode cX12_music 120 = .ok (.istore_n 3, 1) := by decide +kernel
theorem dX12_music_121 : decode cX12_music 121 = .ok (.iload_n 3, 1) := by decide +kernel
theorem dX12_music_122 : decode cX12_music 122 = .ok (.aload_n 0, 1) := by decide +kernel
theorem dX12_music_123 : decode cX12_music 123 = .ok (.getfield 7, 3) := by decide +kernel
theorem dX12_music_126 : decode cX12_music 126 = .ok (.bipush 6, 2) := by decide +kernel
theorem dX12_music_128 : decode cX12_music 128 = .ok (.iaload, 1) := by decide +kernel
theorem dX12_music_129 : decode cX12_music 129 = .ok (.if_icmp .gt 118, 3) := by decide +kernel
theorem dX12_music_132 : decode cX12_music 132 = .ok (.aload_n 0, 1) := by decide +kernel
theorem dX12_music_133 : decode cX12_music 133 = .ok (.aload_n 0, 1) := by decide +kernel
theorem dX12_music_134 : decode cX12_music 134 = .ok (.getfield 7, 3) := by decide +kernel
theorem dX12_music_137 : decode cX12_music 137 = .ok (.sipush 410, 3) := by decide +kernel
theorem dX12_music_140 : decode cX12_music 140 = .ok (.iload_n 3, 1) := by decide +kernel
theorem dX12_music_141 : decode cX12_music 141 = .ok (.iadd, 1) := by decide +kernel
theorem dX12_music_142 : decode cX12_music 142 = .ok (.iaload, 1) := by decide +kernel
theorem dX12_music_143 : decode cX12_music 143 = .ok (.aload_n 0, 1) := by decide +kernel
theorem dX12_music_144 : decode cX12_music 144 = .ok (.getfield 50, 3) := by decide +kernel
theorem dX12_music_147 : decode cX12_music 147 = .ok (.invokevirtual 266, 3) := by decide +kernel
theorem dX12_music_150 : decode cX12_music 150 = .ok (.iconst 1, 1) := by decide +kernel
theorem dX12_music_151 : decode cX12_music 151 = .ok (.istore 4, 2) := by decide +kernel
theorem dX12_music_153 : decode cX12_music 153 = .ok (.iconst 0, 1) := by decide +kernel
theorem dX12_music_154 : decode cX12_music 154 = .ok (.istore 5, 2) := by decide +kernel
theorem dX12_music_156 : decode cX12_music 156 = .ok (.iload 5, 2) := by decide +kernel
theorem dX12_music_158 : decode cX12_music 158 = .ok (.aload_n 0, 1) := by decide +kernel
theorem dX12_music_159 : decode cX12_music 159 = .ok (.getfield 7, 3) := by decide +kernel
theorem dX12_music_162 : decode cX12_music 162 = .ok (.iconst 0, 1) := by decide +kernel
theorem dX12_music_163 : decode cX12_music 163 = .ok (.iaload, 1) := by decide +kernel
theorem dX12_music_164 : decode cX12_music 164 = .ok (.if_icmp .ge 64, 3) := by decide +kernel
theorem dX12_music_167 : decode cX12_music 167 = .ok (.iload 4, 2) := by decide +kernel
theorem dX12_music_169 : decode cX12_music 169 = .ok (.ifCond .eq 50, 3) := by decide +kernel
theorem dX12_music_172 : decode cX12_music 172 = .ok (.aload_n 0, 1) := by decide +kernel
theorem dX12_music_173 : decode cX12_music 173 = .ok (.getfield 27, 3) := by decide +kernel
theorem dX12_music_176 : decode cX12_music 176 = .ok (.bipush 60, 2) := by decide +kernel
theorem dX12_music_178 : decode cX12_music 178 = .ok (.iload_n 1, 1) := by decide +kernel
theorem dX12_music_179 : decode cX12_music 179 = .ok (.imul, 1) := by decide +kernel
theorem dX12_music_180 : decode cX12_music 180 = .ok (.iload 5, 2) := by decide +kernel
theorem dX12_music_182 : decode cX12_music 182 = .ok (.iadd, 1) := by decide +kernel
theorem dX12_music_183 : decode cX12_music 183 = .ok (.laload, 1) := by decide +kernel
theorem dX12_music_184 : decode cX12_music 184 = .ok (.lconst 0, 1) := by decide +kernel
theorem dX12_music_185 : decode cX12_music 185 = .ok (.lcmp, 1) := by decide +kernel
theorem dX12_music_186 : decode cX12_music 186 = .ok (.ifCond .eq 29, 3) := by decide +kernel
theorem dX12_music_189 : decode cX12_music 189 = .ok (.aload_n 0, 1) := by decide +kernel
theorem dX12_music_190 : decode cX12_music 190 = .ok (.getfield 27, 3) := by decide +kernel
theorem dX12_music_193 : decode cX12_music 193 = .ok (.bipush 60, 2) := by decide +kernel
theorem dX12_music_195 : decode cX12_music 195 = .ok (.iload_n 1, 1) := by decide +kernel
theorem dX12_music_196 : decode cX12_music 196 = .ok (.imul, 1) := by decide +kernel
theorem dX12_music_197 : decode cX12_music 197 = .ok (.iload 5, 2) := by decide +kernel
theorem dX12_music_199 : decode cX12_music 199 = .ok (.iadd, 1) := by decide +kernel
theorem dX12_music_200 : decode cX12_music 200 = .ok (.laload, 1) := by decide +kernel
theorem dX12_music_201 : decode cX12_music 201 = .ok (.aload_n 0, 1) := by decide +kernel
theorem dX12_music_202 : decode cX12_music 202 = .ok (.getfield 50, 3) := by decide +kernel
theorem dX12_music_205 : decode cX12_music 205 = .ok (.iload 5, 2) := by decide +kernel
theorem dX12_music_207 : decode cX12_music 207 = .ok (.iaload, 1) := by decide +kernel
theorem dX12_music_208 : decode cX12_music 208 = .ok (.iconst 1, 1) := by decide +kernel
theorem dX12_music_209 : decode cX12_music 209 = .ok (.iadd, 1) := by decide +kernel
theorem dX12_music_210 : decode cX12_music 210 = .ok (.i2l, 1) := by decide +kernel
theorem dX12_music_211 : decode cX12_music 211 = .ok (.lcmp, 1) := by decide +kernel
theorem dX12_music_212 : decode cX12_music 212 = .ok (.ifCond .ne 7, 3) := by decide +kernel
theorem dX12_music_215 : decode cX12_music 215 = .ok (.iconst 1, 1) := by decide +kernel
theorem dX12_music_216 : decode cX12_music 216 = .ok (.goto 4, 3) := by decide +kernel
theorem dX12_music_219 : decode cX12_music 219 = .ok (.iconst 0, 1) := by decide +kernel
theorem dX12_music_220 : decode cX12_music 220 = .ok (.istore 4, 2) := by decide +kernel
theorem dX12_music_222 : decode cX12_music 222 = .ok (.iinc 5 1, 3) := by decide +kernel
theorem dX12_music_225 : decode cX12_music 225 = .ok (.goto (-69), 3) := by decide +kernel
theorem dX12_music_228 : decode cX12_music 228 = .ok (.iload_n 2, 1) := by decide +kernel
theorem dX12_music_229 : decode cX12_music 229 = .ok (.iload 4, 2) := by decide +kernel
theorem dX12_music_231 : decode cX12_music 231 = .ok (.ifCond .eq 7, 3) := by decide +kernel
theorem dX12_music_234 : decode cX12_music 234 = .ok (.iconst 1, 1) := by decide +kernel
theorem dX12_music_235 : decode cX12_music 235 = .ok (.goto 4, 3) := by decide +kernel
theorem dX12_music_238 : decode cX12_music 238 = .ok (.iconst 0, 1) := by decide +kernel
theorem dX12_music_239 : decode cX12_music 239 = .ok (.iadd, 1) := by decide +kernel
theorem dX12_music_240 : decode cX12_music 240 = .ok (.istore_n 2, 1) := by decide +kernel
theorem dX12_music_241 : decode cX12_music 241 = .ok (.iinc 3 1, 3) := by decide +kernel
theorem dX12_music_244 : decode cX12_music 244 = .ok (.goto (-123), 3) := by decide +kernel
theorem dX12_music_247 : decode cX12_music 247 = .ok (.aload_n 0, 1) := by decide +kernel
theorem dX12_music_248 : decode cX12_music 248 = .ok (.iload_n 2, 1) := by decide +kernel
theorem dX12_music_249 : decode cX12_music 249 = .ok (.invokevirtual 109, 3) := by decide +kernel
theorem dX12_music_252 : decode cX12_music 252 = .ok (.ireturn, 1) := by decide +kernel
theorem mi_X12_music : MI yX12_music cX12_music 6 (some FieldType.int) 1 := ⟨w_1882, w_118, by decide +kernel, by decide +kernel, by decide +kernel⟩
set_option maxRecDepth 100000 in
set_option maxHeartbeats 4000000 in
theorem C_X12_music (G : GG) (l : Launch) (th : Nat) (p0 : Int32) (S : St) (Q : Int32 → (Nat → Nat → Int32) → Prop) (hp : P_X12_music th p0 S Q) : Ctr G l yX12_music cX12_music 6 (some FieldType.int) 2 51 0 0 [.ref th, .int p0] S (fun (v : Option Value) (S9 : St) => ∃ (r : Int32) (I9 : Nat → Nat → Int32), v = some (.int r) ∧ S9 = wI S I9 ∧ Q r I9) := by
  generalize hQQ : (fun (v : Option Value) (S9 : St) => ∃ (r : Int32) (I9 : Nat → Nat → Int32), v = some (.int r) ∧ S9 = wI S I9 ∧ Q r I9) = QQ
  unfold P_X12_music at hp
  refine Ctr.of (by decide) (Nat.le_of_ble_eq_true rfl) ?_
  intro p e s m args below meth c ls B hr hlk hin hl hH
  generalize hlocs0 : ([] : List Loc) = locs at hH ⊢
  have hx := B.1
  have hb := B.2.1
  have hl : lv_has ls 6 [(0, .ref th), (1, .int p0)] := hl
  obtain ⟨hk_th, hp⟩ := hp
  refine lv_iload_n (pc := 0) hx hb dX12_music_0 rfl (lv_at hl 1 rfl) ?_
  refine sx_S (pc := 1) (As := [.int p0]) (rest := []) B hH hl.1 (C_X12_isTray G l p0 _ _ hp) mi_X12_isTray w_1475 w_1474 rfl rfl ⟨Nat.le_of_ble_eq_true rfl, Nat.le_of_ble_eq_true rfl⟩ (Nat.le_of_ble_eq_true rfl) ⟨Nat.le_of_ble_eq_true rfl, Nat.le_of_ble_eq_true rfl⟩ dX12_music_1 (fun v S1 H locs hq hH => ?_)
  obtain ⟨r_1, rfl, e9, hp⟩ := hq
  rw [e9] at hH
  refine W.eq (g2 := F0 m 4 ls [.int r_1]) rfl ?_
  refine lv_if_ne (pc := 4) (tgt := 13) hx hb dX12_music_4 (by decide) (fun cc_2 => ?_) (fun cc_2 => ?_)
  · have hp := hp.1 cc_2
    refine lv_aload_n (pc := 13) hx hb dX12_music_13 rfl (lv_at hl 0 rfl) ?_
    refine sx_getR (pc := 14) (j := 6) B hH hk_th coX12 rfl w_1310 rfl dX12_music_14 ?_
    refine W.eq (g2 := F0 m 17 ls [va_rf (gR S th 6)]) rfl ?_
    obtain ⟨a_3, ha_3, hp⟩ := hp
    refine sx_nonnull (x := a_3) ha_3 ?_
    refine lv_iload_n (pc := 17) hx hb dX12_music_17 rfl (lv_at hl 1 rfl) ?_
    obtain ⟨hk_4, hp⟩ := hp
    obtain ⟨hn_5, hp⟩ := hp
    refine sx_iald (pc := 18) B hH hk_4 hn_5 dX12_music_18 ?_
    refine W.eq (g2 := F0 m 19 ls [.int (gI S a_3 p0.toNatClampNeg)]) rfl ?_
    refine lv_iconst (pc := 19) (v := (-1)) hx hb dX12_music_19 (by decide) ?_
    refine lv_icmp_ne (pc := 20) (tgt := 29) hx hb dX12_music_20 (by decide) (fun cc_6 => ?_) (fun cc_6 => ?_)
    · have hp := hp.1 cc_6
      refine lv_aload_n (pc := 29) hx hb dX12_music_29 rfl (lv_at hl 0 rfl) ?_
      refine sx_getR (pc := 30) (j := 6) B hH hk_th coX12 rfl w_1310 rfl dX12_music_30 ?_
      refine W.eq (g2 := F0 m 33 ls [va_rf (gR S th 6)]) rfl ?_
      refine sx_nonnull (x := a_3) ha_3 ?_
      refine lv_iload_n (pc := 33) hx hb dX12_music_33 rfl (lv_at hl 1 rfl) ?_
      refine sx_iald (pc := 34) B hH hk_4 hn_5 dX12_music_34 ?_
      refine W.eq (g2 := F0 m 35 ls [.int (gI S a_3 p0.toNatClampNeg)]) rfl ?_
      refine lv_aload_n (pc := 35) hx hb dX12_music_35 rfl (lv_at hl 0 rfl) ?_
      refine sx_getR (pc := 36) (j := 0) B hH hk_th coX12 rfl w_1304 rfl dX12_music_36 ?_
      refine W.eq (g2 := F0 m 39 ls [va_rf (gR S th 0), .int (gI S a_3 p0.toNatClampNeg)]) rfl ?_
      obtain ⟨a_7, ha_7, hp⟩ := hp
      refine sx_nonnull (x := a_7) ha_7 ?_
      refine lv_iconst (pc := 39) (v := 0) hx hb dX12_music_39 (by decide) ?_
      obtain ⟨hk_8, hp⟩ := hp
      obtain ⟨hn_9, hp⟩ := hp
      refine sx_iald (pc := 40) B hH hk_8 hn_9 dX12_music_40 ?_
      refine W.eq (g2 := F0 m 41 ls [.int (gI S a_7 0), .int (gI S a_3 p0.toNatClampNeg)]) rfl ?_
      refine lv_icmp_ge (pc := 41) (tgt := 50) hx hb dX12_music_41 (by decide) (fun cc_10 => ?_) (fun cc_10 => ?_)
      · have hp := hp.1 cc_10
        refine lv_iconst (pc := 50) (v := 0) hx hb dX12_music_50 (by decide) ?_
        refine lv_istore_n (pc := 51) (lv' := [(2, .int 0), (0, .ref th), (1, .int p0)]) hx hb dX12_music_51 rfl hl (by decide) rfl (fun ls hl => ?_)
        obtain ⟨I_11, ⟨k0_11, h0_11⟩, hst_11⟩ := hp
        have kl_11 : ∀ (n_11 : Nat) (x2_12 : Int32) (H : Heap) (locs : List Loc) (ls : Array Slot), I_11 n_11 x2_12 → Hp G (FA S s.heap.size) s.heap S H locs → lv_has ls 6 [(0, .ref th), (1, .int p0), (2, .int x2_12)] → Wm G p l e { frames := 2, cells := 0, slots := 0, locals := 51 } s m args below meth c S QQ 0 0 H locs 0 0 (F0 m 52 ls []) := by
          intro n_11
          induction n_11 using Nat.strongRecOn with
          | ind n_11 ih_11 =>
            intro x2_12 H locs ls hq9 hH hl
            have hp := hst_11 n_11 x2_12 hq9
            refine lv_iload_n (pc := 52) hx hb dX12_music_52 rfl (lv_at hl 2 rfl) ?_
            refine lv_aload_n (pc := 53) hx hb dX12_music_53 rfl (lv_at hl 0 rfl) ?_
            refine sx_getR (pc := 54) (j := 0) B hH hk_th coX12 rfl w_1304 rfl dX12_music_54 ?_
            refine W.eq (g2 := F0 m 57 ls [va_rf (gR S th 0), .int x2_12]) rfl ?_
            refine sx_nonnull (x := a_7) ha_7 ?_
            refine lv_iconst (pc := 57) (v := 0) hx hb dX12_music_57 (by decide) ?_
            refine sx_iald (pc := 58) B hH hk_8 hn_9 dX12_music_58 ?_
            refine W.eq (g2 := F0 m 59 ls [.int (gI S a_7 0), .int x2_12]) rfl ?_
            refine lv_icmp_ge (pc := 59) (tgt := 99) hx hb dX12_music_59 (by decide) (fun cc_13 => ?_) (fun cc_13 => ?_)
            · have hp := hp.1 cc_13
              refine lv_aload_n (pc := 99) hx hb dX12_music_99 rfl (lv_at hl 0 rfl) ?_
              refine sx_getR (pc := 100) (j := 0) B hH hk_th coX12 rfl w_1304 rfl dX12_music_100 ?_
              refine W.eq (g2 := F0 m 103 ls [va_rf (gR S th 0)]) rfl ?_
              refine sx_nonnull (x := a_7) ha_7 ?_
              refine lv_bipush (pc := 103) (v := 6) hx hb dX12_music_103 (by decide) ?_
              obtain ⟨hn_14, hp⟩ := hp
              refine sx_iald (pc := 105) B hH hk_8 hn_14 dX12_music_105 ?_
              refine W.eq (g2 := F0 m 106 ls [.int (gI S a_7 6)]) rfl ?_
              refine lv_iconst (pc := 106) (v := (-1)) hx hb dX12_music_106 (by decide) ?_
              refine lv_icmp_ne (pc := 107) (tgt := 117) hx hb dX12_music_107 (by decide) (fun cc_15 => ?_) (fun cc_15 => ?_)
              · have hp := hp.1 cc_15
                refine lv_iconst (pc := 117) (v := 0) hx hb dX12_music_117 (by decide) ?_
                refine lv_istore_n (pc := 118) (lv' := [(2, .int 0), (0, .ref th), (1, .int p0)]) hx hb dX12_music_118 rfl hl (by decide) rfl (fun ls hl => ?_)
                refine lv_iconst (pc := 119) (v := 1) hx hb dX12_music_119 (by decide) ?_
                refine lv_istore_n (pc := 120) (lv' := [(3, .int 1), (2, .int 0), (0, .ref th), (1, .int p0)]) hx hb dX12_music_120 rfl hl (by decide) rfl (fun ls hl => ?_)
                obtain ⟨I_16, ⟨k0_16, h0_16⟩, hst_16⟩ := hp
                have kl_16 : ∀ (n_16 : Nat) (x2_17 : Int32) (x3_18 : Int32) (F_19 : Nat → Nat → Int32) (H : Heap) (locs : List Loc) (ls : Array Slot), I_16 n_16 x2_17 x3_18 F_19 → Hp G (FA S s.heap.size) s.heap (wI S F_19) H locs → lv_has ls 6 [(0, .ref th), (1, .int p0), (2, .int x2_17), (3, .int x3_18)] → Wm G p l e { frames := 2, cells := 0, slots := 0, locals := 51 } s m args below meth c S QQ 0 0 H locs 0 0 (F0 m 121 ls []) := by
                  intro n_16
                  induction n_16 using Nat.strongRecOn with
                  | ind n_16 ih_16 =>
                    intro x2_17 x3_18 F_19 H locs ls hq9 hH hl
                    have hp := hst_16 n_16 x2_17 x3_18 F_19 hq9
                    refine lv_iload_n (pc := 121) hx hb dX12_music_121 rfl (lv_at hl 3 rfl) ?_
                    refine lv_aload_n (pc := 122) hx hb dX12_music_122 rfl (lv_at hl 0 rfl) ?_
                    refine sx_getR (pc := 123) (j := 0) B hH hk_th coX12 rfl w_1304 rfl dX12_music_123 ?_
                    refine W.eq (g2 := F0 m 126 ls [va_rf (gR S th 0), .int x3_18]) rfl ?_
                    refine sx_nonnull (x := a_7) ha_7 ?_
                    refine lv_bipush (pc := 126) (v := 6) hx hb dX12_music_126 (by decide) ?_
                    refine sx_iald (pc := 128) B hH hk_8 hn_14 dX12_music_128 ?_
                    refine W.eq (g2 := F0 m 129 ls [.int (F_19 a_7 6), .int x3_18]) rfl ?_
                    refine lv_icmp_gt (pc := 129) (tgt := 247) hx hb dX12_music_129 (by decide) (fun cc_20 => ?_) (fun cc_20 => ?_)
                    · have hp := hp.1 cc_20
                      refine lv_aload_n (pc := 247) hx hb dX12_music_247 rfl (lv_at hl 0 rfl) ?_
                      refine lv_iload_n (pc := 248) hx hb dX12_music_248 rfl (lv_at hl 2 rfl) ?_
                      refine sx_V (pc := 249) (As := [.int x2_17]) (rest := []) B hH hl.1 (C_X12_gives G l th x2_17 _ _ hp) mi_X12_gives coX12 hk_th w_1617 w_69 w_1615 rfl rfl ⟨Nat.le_of_ble_eq_true rfl, Nat.le_of_ble_eq_true rfl⟩ (Nat.le_of_ble_eq_true rfl) ⟨Nat.le_of_ble_eq_true rfl, Nat.le_of_ble_eq_true rfl⟩ dX12_music_249 (fun v S1 H locs hq hH => ?_)
                      obtain ⟨r_21, F_21, rfl, e9, hp⟩ := hq
                      rw [e9] at hH
                      have hH : Hp G (FA S s.heap.size) s.heap (wI S F_21) H locs := hH
                      refine W.eq (g2 := F0 m 252 ls [.int r_21]) rfl ?_
                      exact sx_iret (pc := 252) B hH hr hlk (by rw [← hQQ]; exact ⟨_, F_21, rfl, rfl, hp⟩) (Nat.le_of_ble_eq_true rfl) (Nat.le_of_ble_eq_true rfl) dX12_music_252
                    · have hp := hp.2 cc_20
                      refine lv_aload_n (pc := 132) hx hb dX12_music_132 rfl (lv_at hl 0 rfl) ?_
                      refine lv_aload_n (pc := 133) hx hb dX12_music_133 rfl (lv_at hl 0 rfl) ?_
                      refine sx_getR (pc := 134) (j := 0) B hH hk_th coX12 rfl w_1304 rfl dX12_music_134 ?_
                      refine W.eq (g2 := F0 m 137 ls [va_rf (gR S th 0), .ref th]) rfl ?_
                      refine sx_nonnull (x := a_7) ha_7 ?_
                      refine lv_sipush (pc := 137) (v := 410) hx hb dX12_music_137 (by decide) ?_
                      refine lv_iload_n (pc := 140) hx hb dX12_music_140 rfl (lv_at hl 3 rfl) ?_
                      refine lv_iadd (pc := 141) hx hb dX12_music_141 ?_
                      obtain ⟨hn_22, hp⟩ := hp
                      refine sx_iald (pc := 142) B hH hk_8 hn_22 dX12_music_142 ?_
                      refine W.eq (g2 := F0 m 143 ls [.int (F_19 a_7 ((410 + x3_18).toNatClampNeg)), .ref th]) rfl ?_
                      refine lv_aload_n (pc := 143) hx hb dX12_music_143 rfl (lv_at hl 0 rfl) ?_
                      refine sx_getR (pc := 144) (j := 24) B hH hk_th coX12 rfl w_1328 rfl dX12_music_144 ?_
                      refine W.eq (g2 := F0 m 147 ls [va_rf (gR S th 24), .int (F_19 a_7 ((410 + x3_18).toNatClampNeg)), .ref th]) rfl ?_
                      obtain ⟨a_23, ha_23, hp⟩ := hp
                      refine sx_nonnull (x := a_23) ha_23 ?_
                      refine sx_V (pc := 147) (As := [.int (F_19 a_7 ((410 + x3_18).toNatClampNeg)), .ref a_23]) (rest := []) B hH hl.1 (C_X12_laysRow G l th (F_19 a_7 ((410 + x3_18).toNatClampNeg)) a_23 _ _ hp) mi_X12_laysRow coX12 hk_th w_1657 w_76 w_1655 rfl rfl ⟨Nat.le_of_ble_eq_true rfl, Nat.le_of_ble_eq_true rfl⟩ (Nat.le_of_ble_eq_true rfl) ⟨Nat.le_of_ble_eq_true rfl, Nat.le_of_ble_eq_true rfl⟩ dX12_music_147 (fun v S1 H locs hq hH => ?_)
                      obtain ⟨F_24, rfl, e9, hp⟩ := hq
                      rw [e9] at hH
                      have hH : Hp G (FA S s.heap.size) s.heap (wI S F_24) H locs := hH
                      refine W.eq (g2 := F0 m 150 ls []) rfl ?_
                      refine lv_iconst (pc := 150) (v := 1) hx hb dX12_music_150 (by decide) ?_
                      refine lv_istore (pc := 151) (lv' := [(4, .int 1), (0, .ref th), (1, .int p0), (2, .int x2_17), (3, .int x3_18)]) hx hb dX12_music_151 hl (by decide) rfl (fun ls hl => ?_)
                      refine lv_iconst (pc := 153) (v := 0) hx hb dX12_music_153 (by decide) ?_
                      refine lv_istore (pc := 154) (lv' := [(5, .int 0), (4, .int 1), (0, .ref th), (1, .int p0), (2, .int x2_17), (3, .int x3_18)]) hx hb dX12_music_154 hl (by decide) rfl (fun ls hl => ?_)
                      obtain ⟨I_25, ⟨k0_25, h0_25⟩, hst_25⟩ := hp
                      have kl_25 : ∀ (n_25 : Nat) (x4_26 : Int32) (x5_27 : Int32) (H : Heap) (locs : List Loc) (ls : Array Slot), I_25 n_25 x4_26 x5_27 → Hp G (FA S s.heap.size) s.heap (wI S F_24) H locs → lv_has ls 6 [(0, .ref th), (1, .int p0), (2, .int x2_17), (3, .int x3_18), (4, .int x4_26), (5, .int x5_27)] → Wm G p l e { frames := 2, cells := 0, slots := 0, locals := 51 } s m args below meth c S QQ 0 0 H locs 0 0 (F0 m 156 ls []) := by
                        intro n_25
                        induction n_25 using Nat.strongRecOn with
                        | ind n_25 ih_25 =>
                          intro x4_26 x5_27 H locs ls hq9 hH hl
                          have hp := hst_25 n_25 x4_26 x5_27 hq9
                          refine lv_iload (pc := 156) hx hb dX12_music_156 (lv_at hl 5 rfl) ?_
                          refine lv_aload_n (pc := 158) hx hb dX12_music_158 rfl (lv_at hl 0 rfl) ?_
                          refine sx_getR (pc := 159) (j := 0) B hH hk_th coX12 rfl w_1304 rfl dX12_music_159 ?_
                          refine W.eq (g2 := F0 m 162 ls [va_rf (gR S th 0), .int x5_27]) rfl ?_
                          refine sx_nonnull (x := a_7) ha_7 ?_
                          refine lv_iconst (pc := 162) (v := 0) hx hb dX12_music_162 (by decide) ?_
                          refine sx_iald (pc := 163) B hH hk_8 hn_9 dX12_music_163 ?_
                          refine W.eq (g2 := F0 m 164 ls [.int (F_24 a_7 0), .int x5_27]) rfl ?_
                          refine lv_icmp_ge (pc := 164) (tgt := 228) hx hb dX12_music_164 (by decide) (fun cc_28 => ?_) (fun cc_28 => ?_)
                          · have hp := hp.1 cc_28
                            refine lv_iload_n (pc := 228) hx hb dX12_music_228 rfl (lv_at hl 2 rfl) ?_
                            refine lv_iload (pc := 229) hx hb dX12_music_229 (lv_at hl 4 rfl) ?_
                            refine lv_if_eq (pc := 231) (tgt := 238) hx hb dX12_music_231 (by decide) (fun cc_29 => ?_) (fun cc_29 => ?_)
                            · have hp := hp.1 cc_29
                              refine lv_iconst (pc := 238) (v := 0) hx hb dX12_music_238 (by decide) ?_
                              refine lv_iadd (pc := 239) hx hb dX12_music_239 ?_
                              refine lv_topi (fun v_30 ev_30 => ?_)
                              have hp := hp v_30 ev_30
                              refine lv_istore_n (pc := 240) (lv' := [(2, .int v_30), (0, .ref th), (1, .int p0), (3, .int x3_18), (4, .int x4_26), (5, .int x5_27)]) hx hb dX12_music_240 rfl hl (by decide) rfl (fun ls hl => ?_)
                              obtain ⟨v_31, ev_31⟩ : ∃ y : Int32, y = x3_18 + 1 := ⟨_, rfl⟩
                              have hp := hp v_31 ev_31
                              refine lv_iinc (pc := 241) (v := v_31) (lv' := [(3, .int v_31), (2, .int v_30), (0, .ref th), (1, .int p0), (4, .int x4_26), (5, .int x5_27)]) hx hb dX12_music_241 hl (k := 3) rfl (by rw [ev_31]; rfl) (by decide) rfl (fun ls hl => ?_)
                              refine lv_goto (pc := 244) (tgt := 121) hx hb dX12_music_244 (by decide) ?_
                              obtain ⟨k9, hlt9, hp⟩ := hp
                              exact ih_16 k9 hlt9 _ _ _ _ _ _ hp hH (lv_sub hl [2, 3, 1, 0] rfl)
                            · have hp := hp.2 cc_29
                              refine lv_iconst (pc := 234) (v := 1) hx hb dX12_music_234 (by decide) ?_
                              refine lv_goto (pc := 235) (tgt := 239) hx hb dX12_music_235 (by decide) ?_
                              refine lv_iadd (pc := 239) hx hb dX12_music_239 ?_
                              refine lv_topi (fun v_32 ev_32 => ?_)
                              have hp := hp v_32 ev_32
                              refine lv_istore_n (pc := 240) (lv' := [(2, .int v_32), (0, .ref th), (1, .int p0), (3, .int x3_18), (4, .int x4_26), (5, .int x5_27)]) hx hb dX12_music_240 rfl hl (by decide) rfl (fun ls hl => ?_)
                              obtain ⟨v_33, ev_33⟩ : ∃ y : Int32, y = x3_18 + 1 := ⟨_, rfl⟩
                              have hp := hp v_33 ev_33
                              refine lv_iinc (pc := 241) (v := v_33) (lv' := [(3, .int v_33), (2, .int v_32), (0, .ref th), (1, .int p0), (4, .int x4_26), (5, .int x5_27)]) hx hb dX12_music_241 hl (k := 3) rfl (by rw [ev_33]; rfl) (by decide) rfl (fun ls hl => ?_)
                              refine lv_goto (pc := 244) (tgt := 121) hx hb dX12_music_244 (by decide) ?_
                              obtain ⟨k9, hlt9, hp⟩ := hp
                              exact ih_16 k9 hlt9 _ _ _ _ _ _ hp hH (lv_sub hl [2, 3, 1, 0] rfl)
                          · have hp := hp.2 cc_28
                            refine lv_iload (pc := 167) hx hb dX12_music_167 (lv_at hl 4 rfl) ?_
                            refine lv_if_eq (pc := 169) (tgt := 219) hx hb dX12_music_169 (by decide) (fun cc_34 => ?_) (fun cc_34 => ?_)
                            · have hp := hp.1 cc_34
                              refine lv_iconst (pc := 219) (v := 0) hx hb dX12_music_219 (by decide) ?_
                              refine lv_istore (pc := 220) (lv' := [(4, .int 0), (0, .ref th), (1, .int p0), (2, .int x2_17), (3, .int x3_18), (5, .int x5_27)]) hx hb dX12_music_220 hl (by decide) rfl (fun ls hl => ?_)
                              obtain ⟨v_35, ev_35⟩ : ∃ y : Int32, y = x5_27 + 1 := ⟨_, rfl⟩
                              have hp := hp v_35 ev_35
                              refine lv_iinc (pc := 222) (v := v_35) (lv' := [(5, .int v_35), (4, .int 0), (0, .ref th), (1, .int p0), (2, .int x2_17), (3, .int x3_18)]) hx hb dX12_music_222 hl (k := 5) rfl (by rw [ev_35]; rfl) (by decide) rfl (fun ls hl => ?_)
                              refine lv_goto (pc := 225) (tgt := 156) hx hb dX12_music_225 (by decide) ?_
                              obtain ⟨k9, hlt9, hp⟩ := hp
                              exact ih_25 k9 hlt9 _ _ _ _ _ hp hH (lv_sub hl [2, 3, 4, 5, 1, 0] rfl)
                            · have hp := hp.2 cc_34
                              refine lv_aload_n (pc := 172) hx hb dX12_music_172 rfl (lv_at hl 0 rfl) ?_
                              refine sx_getR (pc := 173) (j := 7) B hH hk_th coX12 rfl w_1311 rfl dX12_music_173 ?_
                              refine W.eq (g2 := F0 m 176 ls [va_rf (gR S th 7)]) rfl ?_
                              obtain ⟨a_36, ha_36, hp⟩ := hp
                              refine sx_nonnull (x := a_36) ha_36 ?_
                              refine lv_bipush (pc := 176) (v := 60) hx hb dX12_music_176 (by decide) ?_
                              refine lv_iload_n (pc := 178) hx hb dX12_music_178 rfl (lv_at hl 1 rfl) ?_
                              refine lv_imul (pc := 179) hx hb dX12_music_179 ?_
                              refine lv_iload (pc := 180) hx hb dX12_music_180 (lv_at hl 5 rfl) ?_
                              refine lv_iadd (pc := 182) hx hb dX12_music_182 ?_
                              obtain ⟨hk_37, hp⟩ := hp
                              obtain ⟨hn_38, hp⟩ := hp
                              refine sx_lald (pc := 183) B hH hk_37 hn_38 dX12_music_183 ?_
                              refine W.eq (g2 := F0 m 184 ls [.long (gJ S a_36 (((60 * p0) + x5_27).toNatClampNeg))]) rfl ?_
                              refine lv_lconst (pc := 184) (v := 0) hx hb dX12_music_184 (by decide) ?_
                              refine W.lcmp (pc := 185) hx hb dX12_music_185 ?_
                              refine lv_if_eq (pc := 186) (tgt := 215) hx hb dX12_music_186 (by decide) (fun cc_39 => ?_) (fun cc_39 => ?_)
                              · have hp := hp.1 cc_39
                                refine lv_iconst (pc := 215) (v := 1) hx hb dX12_music_215 (by decide) ?_
                                refine lv_goto (pc := 216) (tgt := 220) hx hb dX12_music_216 (by decide) ?_
                                refine lv_istore (pc := 220) (lv' := [(4, .int 1), (0, .ref th), (1, .int p0), (2, .int x2_17), (3, .int x3_18), (5, .int x5_27)]) hx hb dX12_music_220 hl (by decide) rfl (fun ls hl => ?_)
                                obtain ⟨v_40, ev_40⟩ : ∃ y : Int32, y = x5_27 + 1 := ⟨_, rfl⟩
                                have hp := hp v_40 ev_40
                                refine lv_iinc (pc := 222) (v := v_40) (lv' := [(5, .int v_40), (4, .int 1), (0, .ref th), (1, .int p0), (2, .int x2_17), (3, .int x3_18)]) hx hb dX12_music_222 hl (k := 5) rfl (by rw [ev_40]; rfl) (by decide) rfl (fun ls hl => ?_)
                                refine lv_goto (pc := 225) (tgt := 156) hx hb dX12_music_225 (by decide) ?_
                                obtain ⟨k9, hlt9, hp⟩ := hp
                                exact ih_25 k9 hlt9 _ _ _ _ _ hp hH (lv_sub hl [2, 3, 4, 5, 1, 0] rfl)
                              · have hp := hp.2 cc_39
                                refine lv_aload_n (pc := 189) hx hb dX12_music_189 rfl (lv_at hl 0 rfl) ?_
                                refine sx_getR (pc := 190) (j := 7) B hH hk_th coX12 rfl w_1311 rfl dX12_music_190 ?_
                                refine W.eq (g2 := F0 m 193 ls [va_rf (gR S th 7)]) rfl ?_
                                refine sx_nonnull (x := a_36) ha_36 ?_
                                refine lv_bipush (pc := 193) (v := 60) hx hb dX12_music_193 (by decide) ?_
                                refine lv_iload_n (pc := 195) hx hb dX12_music_195 rfl (lv_at hl 1 rfl) ?_
                                refine lv_imul (pc := 196) hx hb dX12_music_196 ?_
                                refine lv_iload (pc := 197) hx hb dX12_music_197 (lv_at hl 5 rfl) ?_
                                refine lv_iadd (pc := 199) hx hb dX12_music_199 ?_
                                refine sx_lald (pc := 200) B hH hk_37 hn_38 dX12_music_200 ?_
                                refine W.eq (g2 := F0 m 201 ls [.long (gJ S a_36 (((60 * p0) + x5_27).toNatClampNeg))]) rfl ?_
                                refine lv_aload_n (pc := 201) hx hb dX12_music_201 rfl (lv_at hl 0 rfl) ?_
                                refine sx_getR (pc := 202) (j := 24) B hH hk_th coX12 rfl w_1328 rfl dX12_music_202 ?_
                                refine W.eq (g2 := F0 m 205 ls [va_rf (gR S th 24), .long (gJ S a_36 (((60 * p0) + x5_27).toNatClampNeg))]) rfl ?_
                                refine sx_nonnull (x := a_23) ha_23 ?_
                                refine lv_iload (pc := 205) hx hb dX12_music_205 (lv_at hl 5 rfl) ?_
                                obtain ⟨hk_41, hp⟩ := hp
                                obtain ⟨hn_42, hp⟩ := hp
                                refine sx_iald (pc := 207) B hH hk_41 hn_42 dX12_music_207 ?_
                                refine W.eq (g2 := F0 m 208 ls [.int (F_24 a_23 x5_27.toNatClampNeg), .long (gJ S a_36 (((60 * p0) + x5_27).toNatClampNeg))]) rfl ?_
                                refine lv_iconst (pc := 208) (v := 1) hx hb dX12_music_208 (by decide) ?_
                                refine lv_iadd (pc := 209) hx hb dX12_music_209 ?_
                                refine lv_i2l (pc := 210) (v := ((F_24 a_23 x5_27.toNatClampNeg) + 1).toInt64) hx hb dX12_music_210 rfl ?_
                                refine W.lcmp (pc := 211) hx hb dX12_music_211 ?_
                                refine lv_if_ne (pc := 212) (tgt := 219) hx hb dX12_music_212 (by decide) (fun cc_43 => ?_) (fun cc_43 => ?_)
                                · have hp := hp.1 cc_43
                                  refine lv_iconst (pc := 219) (v := 0) hx hb dX12_music_219 (by decide) ?_
                                  refine lv_istore (pc := 220) (lv' := [(4, .int 0), (0, .ref th), (1, .int p0), (2, .int x2_17), (3, .int x3_18), (5, .int x5_27)]) hx hb dX12_music_220 hl (by decide) rfl (fun ls hl => ?_)
                                  obtain ⟨v_44, ev_44⟩ : ∃ y : Int32, y = x5_27 + 1 := ⟨_, rfl⟩
                                  have hp := hp v_44 ev_44
                                  refine lv_iinc (pc := 222) (v := v_44) (lv' := [(5, .int v_44), (4, .int 0), (0, .ref th), (1, .int p0), (2, .int x2_17), (3, .int x3_18)]) hx hb dX12_music_222 hl (k := 5) rfl (by rw [ev_44]; rfl) (by decide) rfl (fun ls hl => ?_)
                                  refine lv_goto (pc := 225) (tgt := 156) hx hb dX12_music_225 (by decide) ?_
                                  obtain ⟨k9, hlt9, hp⟩ := hp
                                  exact ih_25 k9 hlt9 _ _ _ _ _ hp hH (lv_sub hl [2, 3, 4, 5, 1, 0] rfl)
                                · have hp := hp.2 cc_43
                                  refine lv_iconst (pc := 215) (v := 1) hx hb dX12_music_215 (by decide) ?_
                                  refine lv_goto (pc := 216) (tgt := 220) hx hb dX12_music_216 (by decide) ?_
                                  refine lv_istore (pc := 220) (lv' := [(4, .int 1), (0, .ref th), (1, .int p0), (2, .int x2_17), (3, .int x3_18), (5, .int x5_27)]) hx hb dX12_music_220 hl (by decide) rfl (fun ls hl => ?_)
                                  obtain ⟨v_45, ev_45⟩ : ∃ y : Int32, y = x5_27 + 1 := ⟨_, rfl⟩
                                  have hp := hp v_45 ev_45
                                  refine lv_iinc (pc := 222) (v := v_45) (lv' := [(5, .int v_45), (4, .int 1), (0, .ref th), (1, .int p0), (2, .int x2_17), (3, .int x3_18)]) hx hb dX12_music_222 hl (k := 5) rfl (by rw [ev_45]; rfl) (by decide) rfl (fun ls hl => ?_)
                                  refine lv_goto (pc := 225) (tgt := 156) hx hb dX12_music_225 (by decide) ?_
                                  obtain ⟨k9, hlt9, hp⟩ := hp
                                  exact ih_25 k9 hlt9 _ _ _ _ _ hp hH (lv_sub hl [2, 3, 4, 5, 1, 0] rfl)
                      exact kl_25 k0_25 _ _ _ _ _ h0_25 hH (lv_sub hl [2, 3, 4, 5, 1, 0] rfl)
                exact kl_16 k0_16 _ _ _ _ _ _ h0_16 hH (lv_sub hl [2, 3, 1, 0] rfl)
              · have hp := hp.2 cc_15
                refine lv_aload_n (pc := 110) hx hb dX12_music_110 rfl (lv_at hl 0 rfl) ?_
                refine lv_bipush (pc := 111) (v := 6) hx hb dX12_music_111 (by decide) ?_
                refine sx_V (pc := 113) (As := [.int 6]) (rest := []) B hH hl.1 (C_X12_refuse G l th 6 _ _ hp) mi_X12_refuse coX12 hk_th w_1539 w_51 w_1537 rfl rfl ⟨Nat.le_of_ble_eq_true rfl, Nat.le_of_ble_eq_true rfl⟩ (Nat.le_of_ble_eq_true rfl) ⟨Nat.le_of_ble_eq_true rfl, Nat.le_of_ble_eq_true rfl⟩ dX12_music_113 (fun v S1 H locs hq hH => ?_)
                obtain ⟨r_46, F_46, rfl, e9, hp⟩ := hq
                rw [e9] at hH
                have hH : Hp G (FA S s.heap.size) s.heap (wI S F_46) H locs := hH
                refine W.eq (g2 := F0 m 116 ls [.int r_46]) rfl ?_
                exact sx_iret (pc := 116) B hH hr hlk (by rw [← hQQ]; exact ⟨_, F_46, rfl, rfl, hp⟩) (Nat.le_of_ble_eq_true rfl) (Nat.le_of_ble_eq_true rfl) dX12_music_116
            · have hp := hp.2 cc_13
              refine lv_aload_n (pc := 62) hx hb dX12_music_62 rfl (lv_at hl 0 rfl) ?_
              refine sx_getR (pc := 63) (j := 7) B hH hk_th coX12 rfl w_1311 rfl dX12_music_63 ?_
              refine W.eq (g2 := F0 m 66 ls [va_rf (gR S th 7)]) rfl ?_
              obtain ⟨a_47, ha_47, hp⟩ := hp
              refine sx_nonnull (x := a_47) ha_47 ?_
              refine lv_bipush (pc := 66) (v := 60) hx hb dX12_music_66 (by decide) ?_
              refine lv_iload_n (pc := 68) hx hb dX12_music_68 rfl (lv_at hl 1 rfl) ?_
              refine lv_imul (pc := 69) hx hb dX12_music_69 ?_
              refine lv_iload_n (pc := 70) hx hb dX12_music_70 rfl (lv_at hl 2 rfl) ?_
              refine lv_iadd (pc := 71) hx hb dX12_music_71 ?_
              obtain ⟨hk_48, hp⟩ := hp
              obtain ⟨hn_49, hp⟩ := hp
              refine sx_lald (pc := 72) B hH hk_48 hn_49 dX12_music_72 ?_
              refine W.eq (g2 := F0 m 73 ls [.long (gJ S a_47 (((60 * p0) + x2_12).toNatClampNeg))]) rfl ?_
              refine lv_lconst (pc := 73) (v := 0) hx hb dX12_music_73 (by decide) ?_
              refine lv_aload_n (pc := 74) hx hb dX12_music_74 rfl (lv_at hl 0 rfl) ?_
              refine sx_getR (pc := 75) (j := 0) B hH hk_th coX12 rfl w_1304 rfl dX12_music_75 ?_
              refine W.eq (g2 := F0 m 78 ls [va_rf (gR S th 0), .long 0, .long (gJ S a_47 (((60 * p0) + x2_12).toNatClampNeg))]) rfl ?_
              refine sx_nonnull (x := a_7) ha_7 ?_
              refine lv_iconst (pc := 78) (v := 0) hx hb dX12_music_78 (by decide) ?_
              refine sx_iald (pc := 79) B hH hk_8 hn_9 dX12_music_79 ?_
              refine W.eq (g2 := F0 m 80 ls [.int (gI S a_7 0), .long 0, .long (gJ S a_47 (((60 * p0) + x2_12).toNatClampNeg))]) rfl ?_
              refine lv_i2l (pc := 80) (v := (gI S a_7 0).toInt64) hx hb dX12_music_80 rfl ?_
              refine sx_S (pc := 81) (As := [.long (gJ S a_47 (((60 * p0) + x2_12).toNatClampNeg)), .long 0, .long ((gI S a_7 0).toInt64)]) (rest := []) B hH hl.1 (C_X12_isFrom G l (gJ S a_47 (((60 * p0) + x2_12).toNatClampNeg)) 0 ((gI S a_7 0).toInt64) _ _ hp) mi_X12_isFrom w_1664 w_1663 rfl rfl ⟨Nat.le_of_ble_eq_true rfl, Nat.le_of_ble_eq_true rfl⟩ (Nat.le_of_ble_eq_true rfl) ⟨Nat.le_of_ble_eq_true rfl, Nat.le_of_ble_eq_true rfl⟩ dX12_music_81 (fun v S1 H locs hq hH => ?_)
              obtain ⟨r_50, rfl, e9, hp⟩ := hq
              rw [e9] at hH
              refine W.eq (g2 := F0 m 84 ls [.int r_50]) rfl ?_
              refine lv_if_ne (pc := 84) (tgt := 93) hx hb dX12_music_84 (by decide) (fun cc_51 => ?_) (fun cc_51 => ?_)
              · have hp := hp.1 cc_51
                obtain ⟨v_52, ev_52⟩ : ∃ y : Int32, y = x2_12 + 1 := ⟨_, rfl⟩
                have hp := hp v_52 ev_52
                refine lv_iinc (pc := 93) (v := v_52) (lv' := [(2, .int v_52), (0, .ref th), (1, .int p0)]) hx hb dX12_music_93 hl (k := 2) rfl (by rw [ev_52]; rfl) (by decide) rfl (fun ls hl => ?_)
                refine lv_goto (pc := 96) (tgt := 52) hx hb dX12_music_96 (by decide) ?_
                obtain ⟨k9, hlt9, hp⟩ := hp
                exact ih_11 k9 hlt9 _ _ _ _ hp hH (lv_sub hl [1, 2, 0] rfl)
              · have hp := hp.2 cc_51
                refine lv_aload_n (pc := 87) hx hb dX12_music_87 rfl (lv_at hl 0 rfl) ?_
                refine lv_iconst (pc := 88) (v := 5) hx hb dX12_music_88 (by decide) ?_
                refine sx_V (pc := 89) (As := [.int 5]) (rest := []) B hH hl.1 (C_X12_refuse G l th 5 _ _ hp) mi_X12_refuse coX12 hk_th w_1539 w_51 w_1537 rfl rfl ⟨Nat.le_of_ble_eq_true rfl, Nat.le_of_ble_eq_true rfl⟩ (Nat.le_of_ble_eq_true rfl) ⟨Nat.le_of_ble_eq_true rfl, Nat.le_of_ble_eq_true rfl⟩ dX12_music_89 (fun v S1 H locs hq hH => ?_)
                obtain ⟨r_53, F_53, rfl, e9, hp⟩ := hq
                rw [e9] at hH
                have hH : Hp G (FA S s.heap.size) s.heap (wI S F_53) H locs := hH
                refine W.eq (g2 := F0 m 92 ls [.int r_53]) rfl ?_
                exact sx_iret (pc := 92) B hH hr hlk (by rw [← hQQ]; exact ⟨_, F_53, rfl, rfl, hp⟩) (Nat.le_of_ble_eq_true rfl) (Nat.le_of_ble_eq_true rfl) dX12_music_92
        exact kl_11 k0_11 _ _ _ _ h0_11 hH (lv_sub hl [1, 2, 0] rfl)
      · have hp := hp.2 cc_10
        refine lv_aload_n (pc := 44) hx hb dX12_music_44 rfl (lv_at hl 0 rfl) ?_
        refine lv_iconst (pc := 45) (v := 3) hx hb dX12_music_45 (by decide) ?_
        refine sx_V (pc := 46) (As := [.int 3]) (rest := []) B hH hl.1 (C_X12_refuse G l th 3 _ _ hp) mi_X12_refuse coX12 hk_th w_1539 w_51 w_1537 rfl rfl ⟨Nat.le_of_ble_eq_true rfl, Nat.le_of_ble_eq_true rfl⟩ (Nat.le_of_ble_eq_true rfl) ⟨Nat.le_of_ble_eq_true rfl, Nat.le_of_ble_eq_true rfl⟩ dX12_music_46 (fun v S1 H locs hq hH => ?_)
        obtain ⟨r_54, F_54, rfl, e9, hp⟩ := hq
        rw [e9] at hH
        have hH : Hp G (FA S s.heap.size) s.heap (wI S F_54) H locs := hH
        refine W.eq (g2 := F0 m 49 ls [.int r_54]) rfl ?_
        exact sx_iret (pc := 49) B hH hr hlk (by rw [← hQQ]; exact ⟨_, F_54, rfl, rfl, hp⟩) (Nat.le_of_ble_eq_true rfl) (Nat.le_of_ble_eq_true rfl) dX12_music_49
    · have hp := hp.2 cc_6
      refine lv_aload_n (pc := 23) hx hb dX12_music_23 rfl (lv_at hl 0 rfl) ?_
      refine lv_iconst (pc := 24) (v := 2) hx hb dX12_music_24 (by decide) ?_
      refine sx_V (pc := 25) (As := [.int 2]) (rest := []) B hH hl.1 (C_X12_refuse G l th 2 _ _ hp) mi_X12_refuse coX12 hk_th w_1539 w_51 w_1537 rfl rfl ⟨Nat.le_of_ble_eq_true rfl, Nat.le_of_ble_eq_true rfl⟩ (Nat.le_of_ble_eq_true rfl) ⟨Nat.le_of_ble_eq_true rfl, Nat.le_of_ble_eq_true rfl⟩ dX12_music_25 (fun v S1 H locs hq hH => ?_)
      obtain ⟨r_55, F_55, rfl, e9, hp⟩ := hq
      rw [e9] at hH
      have hH : Hp G (FA S s.heap.size) s.heap (wI S F_55) H locs := hH
      refine W.eq (g2 := F0 m 28 ls [.int r_55]) rfl ?_
      exact sx_iret (pc := 28) B hH hr hlk (by rw [← hQQ]; exact ⟨_, F_55, rfl, rfl, hp⟩) (Nat.le_of_ble_eq_true rfl) (Nat.le_of_ble_eq_true rfl) dX12_music_28
  · have hp := hp.2 cc_2
    refine lv_aload_n (pc := 7) hx hb dX12_music_7 rfl (lv_at hl 0 rfl) ?_
    refine lv_iconst (pc := 8) (v := 1) hx hb dX12_music_8 (by decide) ?_
    refine sx_V (pc := 9) (As := [.int 1]) (rest := []) B hH hl.1 (C_X12_refuse G l th 1 _ _ hp) mi_X12_refuse coX12 hk_th w_1539 w_51 w_1537 rfl rfl ⟨Nat.le_of_ble_eq_true rfl, Nat.le_of_ble_eq_true rfl⟩ (Nat.le_of_ble_eq_true rfl) ⟨Nat.le_of_ble_eq_true rfl, Nat.le_of_ble_eq_true rfl⟩ dX12_music_9 (fun v S1 H locs hq hH => ?_)
    obtain ⟨r_56, F_56, rfl, e9, hp⟩ := hq
    rw [e9] at hH
    have hH : Hp G (FA S s.heap.size) s.heap (wI S F_56) H locs := hH
    refine W.eq (g2 := F0 m 12 ls [.int r_56]) rfl ?_
    exact sx_iret (pc := 12) B hH hr hlk (by rw [← hQQ]; exact ⟨_, F_56, rfl, rfl, hp⟩) (Nat.le_of_ble_eq_true rfl) (Nat.le_of_ble_eq_true rfl) dX12_music_12
theorem dX12_isRun_0 : decode cX12_isRun 0 = .ok (.iload_n 1, 1) := by decide +kernel
theorem dX12_isRun_1 : decode cX12_isRun 1 = .ok (.iconst 1, 1) := by decide +kernel
theorem dX12_isRun_2 : decode cX12_isRun 2 = .ok (.iadd, 1) := by decide +kernel
theorem dX12_isRun_3 : decode cX12_isRun 3 = .ok (.istore 4, 2) := by decide +kernel
theorem dX12_isRun_5 : decode cX12_isRun 5 = .ok (.iload 4, 2) := by decide +kernel
theorem dX12_isRun_7 : decode cX12_isRun 7 = .ok (.iload_n 1, 1) := by decide +kernel
theorem dX12_isRun_8 : decode cX12_isRun 8 = .ok (.iload_n 2, 1) := by decide +kernel
theorem dX12_isRun_9 : decode cX12_isRun 9 = .ok (.iadd, 1) := by decide +kernel
theorem dX12_isRun_10 : decode cX12_isRun 10 = .ok (.if_icmp .ge 32, 3) := by decide +kernel
theorem dX12_isRun_13 : decode cX12_isRun 13 = .ok (.aload_n 0, 1) := by decide +kernel
theorem dX12_isRun_14 : decode cX12_isRun 14 = .ok (.getfield 50, 3) := by decide +kernel
theorem dX12_isRun_17 : decode cX12_isRun 17 = .ok (.iload 4, 2) := by decide +kernel
theorem dX12_isRun_19 : decode cX12_isRun 19 = .ok (.iaload, 1) := by decide +kernel
theorem dX12_isRun_20 : decode cX12_isRun 20 = .ok (.aload_n 0, 1) := by decide +kernel
theorem dX12_isRun_21 : decode cX12_isRun 21 = .ok (.getfield 50, 3) := by decide +kernel
theorem dX12_isRun_24 : decode cX12_isRun 24 = .ok (.iload 4, 2) := by decide +kernel
theorem dX12_isRun_26 : decode cX12_isRun 26 = .ok (.iconst 1, 1) := by decide +kernel
theorem dX12_isRun_27 : decode cX12_isRun 27 = .ok (.isub, 1) := by decide +kernel
theorem dX12_isRun_28 : decode cX12_isRun 28 = .ok (.iaload, 1) := by decide +kernel
theorem dX12_isRun_29 : decode cX12_isRun 29 = .ok (.iload_n 3, 1) := by decide +kernel
theorem dX12_isRun_30 : decode cX12_isRun 30 = .ok (.iadd, 1) := by decide +kernel
theorem dX12_isRun_31 : decode cX12_isRun 31 = .ok (.if_icmp .eq 5, 3) := by decide +kernel
theorem dX12_isRun_34 : decode cX12_isRun 34 = .ok (.iconst 0, 1) := by decide +kernel
theorem dX12_isRun_35 : decode cX12_isRun 35 = .ok (.ireturn, 1) := by decide +kernel
theorem dX12_isRun_36 : decode cX12_isRun 36 = .ok (.iinc 4 1, 3) := by decide +kernel
theorem dX12_isRun_39 : decode cX12_isRun 39 = .ok (.goto (-34), 3) := by decide +kernel
theorem dX12_isRun_42 : decode cX12_isRun 42 = .ok (.iconst 1, 1) := by decide +kernel
theorem dX12_isRun_43 : decode cX12_isRun 43 = .ok (.ireturn, 1) := by decide +kernel
theorem mi_X12_isRun : MI yX12_isRun cX12_isRun 5 (some FieldType.boolean) 3 := ⟨w_1890, w_118, by decide +kernel, by decide +kernel, by decide +kernel⟩
set_option maxRecDepth 100000 in
set_option maxHeartbeats 4000000 in
theorem C_X12_isRun (G : GG) (l : Launch) (th : Nat) (p0 : Int32) (p1 : Int32) (p2 : Int32) (S : St) (Q : Int32 → Prop) (hp : P_X12_isRun th p0 p1 p2 S Q) : Ctr G l yX12_isRun cX12_isRun 5 (some FieldType.boolean) 0 0 0 0 [.ref th, .int p0, .int p1, .int p2] S (fun (v : Option Value) (S9 : St) => ∃ (r : Int32), v = some (.int r) ∧ S9 = S ∧ Q r ) := by
  generalize hQQ : (fun (v : Option Value) (S9 : St) => ∃ (r : Int32), v = some (.int r) ∧ S9 = S ∧ Q r ) = QQ
  unfold P_X12_isRun at hp
  refine Ctr.of (by decide) (Nat.le_of_ble_eq_true rfl) ?_
  intro p e s m args below meth c ls B hr hlk hin hl hH
  generalize hlocs0 : ([] : List Loc) = locs at hH ⊢
  have hx := B.1
  have hb := B.2.1
  have hl : lv_has ls 5 [(0, .ref th), (1, .int p0), (2, .int p1), (3, .int p2)] := hl
  obtain ⟨hk_th, hp⟩ := hp
  refine lv_iload_n (pc := 0) hx hb dX12_isRun_0 rfl (lv_at hl 1 rfl) ?_
  refine lv_iconst (pc := 1) (v := 1) hx hb dX12_isRun_1 (by decide) ?_
  refine lv_iadd (pc := 2) hx hb dX12_isRun_2 ?_
  refine lv_topi (fun v_1 ev_1 => ?_)
  have hp := hp v_1 ev_1
  refine lv_istore (pc := 3) (lv' := [(4, .int v_1), (0, .ref th), (1, .int p0), (2, .int p1), (3, .int p2)]) hx hb dX12_isRun_3 hl (by decide) rfl (fun ls hl => ?_)
  obtain ⟨I_2, ⟨k0_2, h0_2⟩, hst_2⟩ := hp
  have kl_2 : ∀ (n_2 : Nat) (x4_3 : Int32) (H : Heap) (locs : List Loc) (ls : Array Slot), I_2 n_2 x4_3 → Hp G (FA S s.heap.size) s.heap S H locs → lv_has ls 5 [(0, .ref th), (1, .int p0), (2, .int p1), (3, .int p2), (4, .int x4_3)] → Wm G p l e { frames := 0, cells := 0, slots := 0, locals := 0 } s m args below meth c S QQ 0 0 H locs 0 0 (F0 m 5 ls []) := by
    intro n_2
    induction n_2 using Nat.strongRecOn with
    | ind n_2 ih_2 =>
      intro x4_3 H locs ls hq9 hH hl
      have hp := hst_2 n_2 x4_3 hq9
      refine lv_iload (pc := 5) hx hb dX12_isRun_5 (lv_at hl 4 rfl) ?_
      refine lv_iload_n (pc := 7) hx hb dX12_isRun_7 rfl (lv_at hl 1 rfl) ?_
      refine lv_iload_n (pc := 8) hx hb dX12_isRun_8 rfl (lv_at hl 2 rfl) ?_
      refine lv_iadd (pc := 9) hx hb dX12_isRun_9 ?_
      refine lv_icmp_ge (pc := 10) (tgt := 42) hx hb dX12_isRun_10 (by decide) (fun cc_4 => ?_) (fun cc_4 => ?_)
      · have hp := hp.1 cc_4
        refine lv_iconst (pc := 42) (v := 1) hx hb dX12_isRun_42 (by decide) ?_
        exact sx_zret (pc := 43) B hH hr hlk (Or.inr rfl) (by rw [← hQQ]; exact ⟨_, rfl, rfl, hp⟩) (Nat.le_of_ble_eq_true rfl) (Nat.le_of_ble_eq_true rfl) dX12_isRun_43
      · have hp := hp.2 cc_4
        refine lv_aload_n (pc := 13) hx hb dX12_isRun_13 rfl (lv_at hl 0 rfl) ?_
        refine sx_getR (pc := 14) (j := 24) B hH hk_th coX12 rfl w_1328 rfl dX12_isRun_14 ?_
        refine W.eq (g2 := F0 m 17 ls [va_rf (gR S th 24)]) rfl ?_
        obtain ⟨a_5, ha_5, hp⟩ := hp
        refine sx_nonnull (x := a_5) ha_5 ?_
        refine lv_iload (pc := 17) hx hb dX12_isRun_17 (lv_at hl 4 rfl) ?_
        obtain ⟨hk_6, hp⟩ := hp
        obtain ⟨hn_7, hp⟩ := hp
        refine sx_iald (pc := 19) B hH hk_6 hn_7 dX12_isRun_19 ?_
        refine W.eq (g2 := F0 m 20 ls [.int (gI S a_5 x4_3.toNatClampNeg)]) rfl ?_
        refine lv_aload_n (pc := 20) hx hb dX12_isRun_20 rfl (lv_at hl 0 rfl) ?_
        refine sx_getR (pc := 21) (j := 24) B hH hk_th coX12 rfl w_1328 rfl dX12_isRun_21 ?_
        refine W.eq (g2 := F0 m 24 ls [va_rf (gR S th 24), .int (gI S a_5 x4_3.toNatClampNeg)]) rfl ?_
        refine sx_nonnull (x := a_5) ha_5 ?_
        refine lv_iload (pc := 24) hx hb dX12_isRun_24 (lv_at hl 4 rfl) ?_
        refine lv_iconst (pc := 26) (v := 1) hx hb dX12_isRun_26 (by decide) ?_
        refine lv_isub (pc := 27) hx hb dX12_isRun_27 ?_
        obtain ⟨hn_8, hp⟩ := hp
        refine sx_iald (pc := 28) B hH hk_6 hn_8 dX12_isRun_28 ?_
        refine W.eq (g2 := F0 m 29 ls [.int (gI S a_5 ((x4_3 - 1).toNatClampNeg)), .int (gI S a_5 x4_3.toNatClampNeg)]) rfl ?_
        refine lv_iload_n (pc := 29) hx hb dX12_isRun_29 rfl (lv_at hl 3 rfl) ?_
        refine lv_iadd (pc := 30) hx hb dX12_isRun_30 ?_
        refine lv_icmp_eq (pc := 31) (tgt := 36) hx hb dX12_isRun_31 (by decide) (fun cc_9 => ?_) (fun cc_9 => ?_)
        · have hp := hp.1 cc_9
          obtain ⟨v_10, ev_10⟩ : ∃ y : Int32, y = x4_3 + 1 := ⟨_, rfl⟩
          have hp := hp v_10 ev_10
          refine lv_iinc (pc := 36) (v := v_10) (lv' := [(4, .int v_10), (0, .ref th), (1, .int p0), (2, .int p1), (3, .int p2)]) hx hb dX12_isRun_36 hl (k := 4) rfl (by rw [ev_10]; rfl) (by decide) rfl (fun ls hl => ?_)
          refine lv_goto (pc := 39) (tgt := 5) hx hb dX12_isRun_39 (by decide) ?_
          obtain ⟨k9, hlt9, hp⟩ := hp
          exact ih_2 k9 hlt9 _ _ _ _ hp hH (lv_sub hl [1, 2, 3, 4, 0] rfl)
        · have hp := hp.2 cc_9
          refine lv_iconst (pc := 34) (v := 0) hx hb dX12_isRun_34 (by decide) ?_
          exact sx_zret (pc := 35) B hH hr hlk (Or.inl rfl) (by rw [← hQQ]; exact ⟨_, rfl, rfl, hp⟩) (Nat.le_of_ble_eq_true rfl) (Nat.le_of_ble_eq_true rfl) dX12_isRun_35
  exact kl_2 k0_2 _ _ _ _ h0_2 hH (lv_sub hl [1, 2, 3, 4, 0] rfl)
theorem dX12_runs_0 : decode cX12_runs 0 = .ok (.iload_n 1, 1) := by decide +kernel
theorem dX12_runs_1 : decode cX12_runs 1 = .ok (.iconst 3, 1) := by decide +kernel
theorem dX12_runs_2 : decode cX12_runs 2 = .ok (.if_icmp .lt 13, 3) := by decide +kernel
theorem dX12_runs_5 : decode cX12_runs 5 = .ok (.iload_n 1, 1) := by decide +kernel
theorem dX12_runs_6 : decode cX12_runs 6 = .ok (.aload_n 0, 1) := by decide +kernel
theorem dX12_runs_7 : decode cX12_runs 7 = .ok (.getfield 7, 3) := by decide +kernel
theorem dX12_runs_10 : decode cX12_runs 10 = .ok (.iconst 0, 1) := by decide +kernel
theorem dX12_runs_11 : decode cX12_runs 11 = .ok (.iaload, 1) := by decide +kernel
theorem dX12_runs_12 : decode cX12_runs 12 = .ok (.if_icmp .le 9, 3) := by decide +kernel
theorem dX12_runs_15 : decode cX12_runs 15 = .ok (.aload_n 0, 1) := by decide +kernel
theorem dX12_runs_16 : decode cX12_runs 16 = .ok (.iconst 1, 1) := by decide +kernel
theorem dX12_runs_17 : decode cX12_runs 17 = .ok (.invokevirtual 105, 3) := by decide +kernel
theorem dX12_runs_20 : decode cX12_runs 20 = .ok (.ireturn, 1) := by decide +kernel
theorem dX12_runs_21 : decode cX12_runs 21 = .ok (.aload_n 0, 1) := by decide +kernel
theorem dX12_runs_22 : decode cX12_runs 22 = .ok (.getfield 7, 3) := by decide +kernel
theorem dX12_runs_25 : decode cX12_runs 25 = .ok (.bipush 6, 2) := by decide +kernel
theorem dX12_runs_27 : decode cX12_runs 27 = .ok (.iaload, 1) := by decide +kernel
theorem dX12_runs_28 : decode cX12_runs 28 = .ok (.iconst (-1), 1) := by decide +kernel
theorem dX12_runs_29 : decode cX12_runs 29 = .ok (.if_icmp .ne 10, 3) := by decide +kernel
theorem dX12_runs_32 : decode cX12_runs 32 = .ok (.aload_n 0, 1) := by decide +kernel
theorem dX12_runs_33 : decode cX12_runs 33 = .ok (.bipush 6, 2) := by decide +kernel
theorem dX12_runs_35 : decode cX12_runs 35 = .ok (.invokevirtual 105, 3) := by decide +kernel
theorem dX12_runs_38 : decode cX12_runs 38 = .ok (.ireturn, 1) := by decide +kernel
theorem dX12_runs_39 : decode cX12_runs 39 = .ok (.iconst 0, 1) := by decide +kernel
theorem dX12_runs_40 : decode cX12_runs 40 = .ok (.istore_n 2, 1) := by decide +kernel
theorem dX12_runs_41 : decode cX12_runs 41 = .ok (.iconst 1, 1) := by decide +kernel
theorem dX12_runs_42 : decode cX12_runs 42 = .ok (.istore_n 3, 1) := by decide +kernel
theorem dX12_runs_43 : decode cX12_runs 43 = .ok (.iload_n 3, 1) := by decide +kernel
theorem dX12_runs_44 : decode cX12_runs 44 = .ok (.aload_n 0, 1) := by decide +kernel
theorem dX12_runs_45 : decode cX12_runs 45 = .ok (.getfield 7, 3) := by decide +kernel
theorem dX12_runs_48 : decode cX12_runs 48 = .ok (.bipush 6, 2) := by decide +kernel
theorem dX12_runs_50 : decode cX12_runs 50 = .ok (.iaload, 1) := by decide +kernel
theorem dX12_runs_51 : decode cX12_runs 51 = .ok (.if_icmp .gt 79, 3) := by decide +kernel
theorem dX12_runs_54 : decode cX12_runs 54 = .ok (.aload_n 0, 1) := by decide +kernel
theorem dX12_runs_55 : decode cX12_runs 55 = .ok (.aload_n 0, 1) := by decide +kernel
theorem dX12_runs_56 : decode cX12_runs 56 = .ok (.getfield 7, 3) := by decide +kernel
theorem dX12_runs_59 : decode cX12_runs 59 = .ok (.sipush 410, 3) := by decide +kernel
theorem dX12_runs_62 : decode cX12_runs 62 = .ok (.iload_n 3, 1) := by decide +kernel
theorem dX12_runs_63 : decode cX12_runs 63 = .ok (.iadd, 1) := by decide +kernel
theorem dX12_runs_64 : decode cX12_runs 64 = .ok (.iaload, 1) := by decide +kernel
theorem dX12_runs_65 : decode cX12_runs 65 = .ok (.aload_n 0, 1) := by decide +kernel
theorem dX12_runs_66 : decode cX12_runs 66 = .ok (.getfield 50, 3) := by decide +kernel
theorem dX12_runs_69 : decode cX12_runs 69 = .ok (.invokevirtual 266, 3) := by decide +kernel
theorem dX12_runs_72 : decode cX12_runs 72 = .ok (.iconst 0, 1) := by decide +kernel
theorem dX12_runs_73 : decode cX12_runs 73 = .ok (.istore 4, 2) := by decide +kernel
theorem dX12_runs_75 : decode cX12_runs 75 = .ok (.iload 4, 2) := by decide +kernel
theorem dX12_runs_77 : decode cX12_runs 77 = .ok (.iload_n 1, 1) := by decide +kernel
theorem dX12_runs_78 : decode cX12_runs 78 = .ok (.iadd, 1) := by decide +kernel
theorem dX12_runs_79 : decode cX12_runs 79 = .ok (.aload_n 0, 1) := by decide +kernel
theorem dX12_runs_80 : decode cX12_runs 80 = .ok (.getfield 7, 3) := by decide +kernel
theorem dX12_runs_83 : decode cX12_runs 83 = .ok (.iconst 0, 1) := by decide +kernel
theorem dX12_runs_84 : decode cX12_runs 84 = .ok (.iaload, 1) := by decide +kernel
theorem dX12_runs_85 : decode cX12_runs 85 = .ok (.if_icmp .gt 39, 3) := by decide +kernel
theorem dX12_runs_88 : decode cX12_runs 88 = .ok (.iload_n 2, 1) := by decide +kernel
theorem dX12_runs_89 : decode cX12_runs 89 = .ok (.aload_n 0, 1) := by decide +kernel
theorem dX12_runs_90 : decode cX12_runs 90 = .ok (.iload 4, 2) := by decide +kernel
theorem dX12_runs_92 : decode cX12_runs 92 = .ok (.iload_n 1, 1) := by decide +kernel
theorem dX12_runs_93 : decode cX12_runs 93 = .ok (.iconst 1, 1) := by decide +kernel
theorem dX12_runs_94 : decode cX12_runs 94 = .ok (.invokevirtual 377, 3) := by decide +kernel
theorem dX12_runs_97 : decode cX12_runs 97 = .ok (.ifCond .ne 14, 3) := by decide +kernel
theorem dX12_runs_100 : decode cX12_runs 100 = .ok (.aload_n 0, 1) := by decide +kernel
theorem dX12_runs_101 : decode cX12_runs 101 = .ok (.iload 4, 2) := by decide +kernel
theorem dX12_runs_103 : decode cX12_runs 103 = .ok (.iload_n 1, 1) := by decide +kernel
theorem dX12_runs_104 : decode cX12_runs 104 = .ok (.iconst (-1), 1) := by decide +kernel
theorem dX12_runs_105 : decode cX12_runs 105 = .ok (.invokevirtual 377, 3) := by decide +kernel
theorem dX12_runs_108 : decode cX12_runs 108 = .ok (.ifCond .eq 7, 3) := by decide +kernel
theorem dX12_runs_111 : decode cX12_runs 111 = .ok (.iconst 1, 1) := by decide +kernel
theorem dX12_runs_112 : decode cX12_runs 112 = .ok (.goto 4, 3) := by decide +kernel
theorem dX12_runs_115 : decode cX12_runs 115 = .ok (.iconst 0, 1) := by decide +kernel
theorem dX12_runs_116 : decode cX12_runs 116 = .ok (.iadd, 1) := by decide +kernel
theorem dX12_runs_117 : decode cX12_runs 117 = .ok (.istore_n 2, 1) := by decide +kernel
theorem dX12_runs_118 : decode cX12_runs 118 = .ok (.iinc 4 1, 3) := by decide +kernel
theorem dX12_runs_121 : decode cX12_runs 121 = .ok (.goto (-46), 3) := by decide +kernel
theorem dX12_runs_124 : decode cX12_runs 124 = .ok (.iinc 3 1, 3) := by decide +kernel
theorem dX12_runs_127 : decode cX12_runs 127 = .ok (.goto (-84), 3) := by decide +kernel
theorem dX12_runs_130 : decode cX12_runs 130 = .ok (.aload_n 0, 1) := by decide +kernel
theorem dX12_runs_131 : decode cX12_runs 131 = .ok (.iload_n 2, 1) := by decide +kernel
theorem dX12_runs_132 : decode cX12_runs 132 = .ok (.invokevirtual 109, 3) := by decide +kernel
theorem dX12_runs_135 : decode cX12_runs 135 = .ok (.ireturn, 1) := by decide +kernel
theorem mi_X12_runs : MI yX12_runs cX12_runs 5 (some FieldType.int) 1 := ⟨w_1886, w_118, by decide +kernel, by decide +kernel, by decide +kernel⟩
set_option maxRecDepth 100000 in
set_option maxHeartbeats 4000000 in
theorem C_X12_runs (G : GG) (l : Launch) (th : Nat) (p0 : Int32) (S : St) (Q : Int32 → (Nat → Nat → Int32) → Prop) (hp : P_X12_runs th p0 S Q) : Ctr G l yX12_runs cX12_runs 5 (some FieldType.int) 2 51 0 0 [.ref th, .int p0] S (fun (v : Option Value) (S9 : St) => ∃ (r : Int32) (I9 : Nat → Nat → Int32), v = some (.int r) ∧ S9 = wI S I9 ∧ Q r I9) := by
  generalize hQQ : (fun (v : Option Value) (S9 : St) => ∃ (r : Int32) (I9 : Nat → Nat → Int32), v = some (.int r) ∧ S9 = wI S I9 ∧ Q r I9) = QQ
  unfold P_X12_runs at hp
  refine Ctr.of (by decide) (Nat.le_of_ble_eq_true rfl) ?_
  intro p e s m args below meth c ls B hr hlk hin hl hH
  generalize hlocs0 : ([] : List Loc) = locs at hH ⊢
  have hx := B.1
  have hb := B.2.1
  have hl : lv_has ls 5 [(0, .ref th), (1, .int p0)] := hl
  obtain ⟨hk_th, hp⟩ := hp
  refine lv_iload_n (pc := 0) hx hb dX12_runs_0 rfl (lv_at hl 1 rfl) ?_
  refine lv_iconst (pc := 1) (v := 3) hx hb dX12_runs_1 (by decide) ?_
  obtain ⟨J_2, hj_2, hp⟩ := hp
  have kj_2 : ∀  (H : Heap) (locs : List Loc) (ls : Array Slot), J_2  → Hp G (FA S s.heap.size) s.heap S H locs → lv_has ls 5 [(0, .ref th)] → Wm G p l e { frames := 2, cells := 0, slots := 0, locals := 51 } s m args below meth c S QQ 0 0 H locs 0 0 (F0 m 15 ls []) := by
    intro  H locs ls hq9 hH hl
    have hp := hj_2  hq9
    refine lv_aload_n (pc := 15) hx hb dX12_runs_15 rfl (lv_at hl 0 rfl) ?_
    refine lv_iconst (pc := 16) (v := 1) hx hb dX12_runs_16 (by decide) ?_
    refine sx_V (pc := 17) (As := [.int 1]) (rest := []) B hH hl.1 (C_X12_refuse G l th 1 _ _ hp) mi_X12_refuse coX12 hk_th w_1539 w_51 w_1537 rfl rfl ⟨Nat.le_of_ble_eq_true rfl, Nat.le_of_ble_eq_true rfl⟩ (Nat.le_of_ble_eq_true rfl) ⟨Nat.le_of_ble_eq_true rfl, Nat.le_of_ble_eq_true rfl⟩ dX12_runs_17 (fun v S1 H locs hq hH => ?_)
    obtain ⟨r_3, F_3, rfl, e9, hp⟩ := hq
    rw [e9] at hH
    have hH : Hp G (FA S s.heap.size) s.heap (wI S F_3) H locs := hH
    refine W.eq (g2 := F0 m 20 ls [.int r_3]) rfl ?_
    exact sx_iret (pc := 20) B hH hr hlk (by rw [← hQQ]; exact ⟨_, F_3, rfl, rfl, hp⟩) (Nat.le_of_ble_eq_true rfl) (Nat.le_of_ble_eq_true rfl) dX12_runs_20
  refine lv_icmp_lt (pc := 2) (tgt := 15) hx hb dX12_runs_2 (by decide) (fun cc_1 => ?_) (fun cc_1 => ?_)
  · have hp := hp.1 cc_1
    exact kj_2  _ _ _ hp hH (lv_sub hl [0] rfl)
  · have hp := hp.2 cc_1
    refine lv_iload_n (pc := 5) hx hb dX12_runs_5 rfl (lv_at hl 1 rfl) ?_
    refine lv_aload_n (pc := 6) hx hb dX12_runs_6 rfl (lv_at hl 0 rfl) ?_
    refine sx_getR (pc := 7) (j := 0) B hH hk_th coX12 rfl w_1304 rfl dX12_runs_7 ?_
    refine W.eq (g2 := F0 m 10 ls [va_rf (gR S th 0), .int p0]) rfl ?_
    obtain ⟨a_4, ha_4, hp⟩ := hp
    refine sx_nonnull (x := a_4) ha_4 ?_
    refine lv_iconst (pc := 10) (v := 0) hx hb dX12_runs_10 (by decide) ?_
    obtain ⟨hk_5, hp⟩ := hp
    obtain ⟨hn_6, hp⟩ := hp
    refine sx_iald (pc := 11) B hH hk_5 hn_6 dX12_runs_11 ?_
    refine W.eq (g2 := F0 m 12 ls [.int (gI S a_4 0), .int p0]) rfl ?_
    refine lv_icmp_le (pc := 12) (tgt := 21) hx hb dX12_runs_12 (by decide) (fun cc_7 => ?_) (fun cc_7 => ?_)
    · have hp := hp.1 cc_7
      refine lv_aload_n (pc := 21) hx hb dX12_runs_21 rfl (lv_at hl 0 rfl) ?_
      refine sx_getR (pc := 22) (j := 0) B hH hk_th coX12 rfl w_1304 rfl dX12_runs_22 ?_
      refine W.eq (g2 := F0 m 25 ls [va_rf (gR S th 0)]) rfl ?_
      refine sx_nonnull (x := a_4) ha_4 ?_
      refine lv_bipush (pc := 25) (v := 6) hx hb dX12_runs_25 (by decide) ?_
      obtain ⟨hn_8, hp⟩ := hp
      refine sx_iald (pc := 27) B hH hk_5 hn_8 dX12_runs_27 ?_
      refine W.eq (g2 := F0 m 28 ls [.int (gI S a_4 6)]) rfl ?_
      refine lv_iconst (pc := 28) (v := (-1)) hx hb dX12_runs_28 (by decide) ?_
      refine lv_icmp_ne (pc := 29) (tgt := 39) hx hb dX12_runs_29 (by decide) (fun cc_9 => ?_) (fun cc_9 => ?_)
      · have hp := hp.1 cc_9
        refine lv_iconst (pc := 39) (v := 0) hx hb dX12_runs_39 (by decide) ?_
        refine lv_istore_n (pc := 40) (lv' := [(2, .int 0), (0, .ref th), (1, .int p0)]) hx hb dX12_runs_40 rfl hl (by decide) rfl (fun ls hl => ?_)
        refine lv_iconst (pc := 41) (v := 1) hx hb dX12_runs_41 (by decide) ?_
        refine lv_istore_n (pc := 42) (lv' := [(3, .int 1), (2, .int 0), (0, .ref th), (1, .int p0)]) hx hb dX12_runs_42 rfl hl (by decide) rfl (fun ls hl => ?_)
        obtain ⟨I_10, ⟨k0_10, h0_10⟩, hst_10⟩ := hp
        have kl_10 : ∀ (n_10 : Nat) (x2_11 : Int32) (x3_12 : Int32) (F_13 : Nat → Nat → Int32) (H : Heap) (locs : List Loc) (ls : Array Slot), I_10 n_10 x2_11 x3_12 F_13 → Hp G (FA S s.heap.size) s.heap (wI S F_13) H locs → lv_has ls 5 [(0, .ref th), (1, .int p0), (2, .int x2_11), (3, .int x3_12)] → Wm G p l e { frames := 2, cells := 0, slots := 0, locals := 51 } s m args below meth c S QQ 0 0 H locs 0 0 (F0 m 43 ls []) := by
          intro n_10
          induction n_10 using Nat.strongRecOn with
          | ind n_10 ih_10 =>
            intro x2_11 x3_12 F_13 H locs ls hq9 hH hl
            have hp := hst_10 n_10 x2_11 x3_12 F_13 hq9
            refine lv_iload_n (pc := 43) hx hb dX12_runs_43 rfl (lv_at hl 3 rfl) ?_
            refine lv_aload_n (pc := 44) hx hb dX12_runs_44 rfl (lv_at hl 0 rfl) ?_
            refine sx_getR (pc := 45) (j := 0) B hH hk_th coX12 rfl w_1304 rfl dX12_runs_45 ?_
            refine W.eq (g2 := F0 m 48 ls [va_rf (gR S th 0), .int x3_12]) rfl ?_
            refine sx_nonnull (x := a_4) ha_4 ?_
            refine lv_bipush (pc := 48) (v := 6) hx hb dX12_runs_48 (by decide) ?_
            refine sx_iald (pc := 50) B hH hk_5 hn_8 dX12_runs_50 ?_
            refine W.eq (g2 := F0 m 51 ls [.int (F_13 a_4 6), .int x3_12]) rfl ?_
            refine lv_icmp_gt (pc := 51) (tgt := 130) hx hb dX12_runs_51 (by decide) (fun cc_14 => ?_) (fun cc_14 => ?_)
            · have hp := hp.1 cc_14
              refine lv_aload_n (pc := 130) hx hb dX12_runs_130 rfl (lv_at hl 0 rfl) ?_
              refine lv_iload_n (pc := 131) hx hb dX12_runs_131 rfl (lv_at hl 2 rfl) ?_
              refine sx_V (pc := 132) (As := [.int x2_11]) (rest := []) B hH hl.1 (C_X12_gives G l th x2_11 _ _ hp) mi_X12_gives coX12 hk_th w_1617 w_69 w_1615 rfl rfl ⟨Nat.le_of_ble_eq_true rfl, Nat.le_of_ble_eq_true rfl⟩ (Nat.le_of_ble_eq_true rfl) ⟨Nat.le_of_ble_eq_true rfl, Nat.le_of_ble_eq_true rfl⟩ dX12_runs_132 (fun v S1 H locs hq hH => ?_)
              obtain ⟨r_15, F_15, rfl, e9, hp⟩ := hq
              rw [e9] at hH
              have hH : Hp G (FA S s.heap.size) s.heap (wI S F_15) H locs := hH
              refine W.eq (g2 := F0 m 135 ls [.int r_15]) rfl ?_
              exact sx_iret (pc := 135) B hH hr hlk (by rw [← hQQ]; exact ⟨_, F_15, rfl, rfl, hp⟩) (Nat.le_of_ble_eq_true rfl) (Nat.le_of_ble_eq_true rfl) dX12_runs_135
            · have hp := hp.2 cc_14
              refine lv_aload_n (pc := 54) hx hb dX12_runs_54 rfl (lv_at hl 0 rfl) ?_
              refine lv_aload_n (pc := 55) hx hb dX12_runs_55 rfl (lv_at hl 0 rfl) ?_
              refine sx_getR (pc := 56) (j := 0) B hH hk_th coX12 rfl w_1304 rfl dX12_runs_56 ?_
              refine W.eq (g2 := F0 m 59 ls [va_rf (gR S th 0), .ref th]) rfl ?_
              refine sx_nonnull (x := a_4) ha_4 ?_
              refine lv_sipush (pc := 59) (v := 410) hx hb dX12_runs_59 (by decide) ?_
              refine lv_iload_n (pc := 62) hx hb dX12_runs_62 rfl (lv_at hl 3 rfl) ?_
              refine lv_iadd (pc := 63) hx hb dX12_runs_63 ?_
              obtain ⟨hn_16, hp⟩ := hp
              refine sx_iald (pc := 64) B hH hk_5 hn_16 dX12_runs_64 ?_
              refine W.eq (g2 := F0 m 65 ls [.int (F_13 a_4 ((410 + x3_12).toNatClampNeg)), .ref th]) rfl ?_
              refine lv_aload_n (pc := 65) hx hb dX12_runs_65 rfl (lv_at hl 0 rfl) ?_
              refine sx_getR (pc := 66) (j := 24) B hH hk_th coX12 rfl w_1328 rfl dX12_runs_66 ?_
              refine W.eq (g2 := F0 m 69 ls [va_rf (gR S th 24), .int (F_13 a_4 ((410 + x3_12).toNatClampNeg)), .ref th]) rfl ?_
              obtain ⟨a_17, ha_17, hp⟩ := hp
              refine sx_nonnull (x := a_17) ha_17 ?_
              refine sx_V (pc := 69) (As := [.int (F_13 a_4 ((410 + x3_12).toNatClampNeg)), .ref a_17]) (rest := []) B hH hl.1 (C_X12_laysRow G l th (F_13 a_4 ((410 + x3_12).toNatClampNeg)) a_17 _ _ hp) mi_X12_laysRow coX12 hk_th w_1657 w_76 w_1655 rfl rfl ⟨Nat.le_of_ble_eq_true rfl, Nat.le_of_ble_eq_true rfl⟩ (Nat.le_of_ble_eq_true rfl) ⟨Nat.le_of_ble_eq_true rfl, Nat.le_of_ble_eq_true rfl⟩ dX12_runs_69 (fun v S1 H locs hq hH => ?_)
              obtain ⟨F_18, rfl, e9, hp⟩ := hq
              rw [e9] at hH
              have hH : Hp G (FA S s.heap.size) s.heap (wI S F_18) H locs := hH
              refine W.eq (g2 := F0 m 72 ls []) rfl ?_
              refine lv_iconst (pc := 72) (v := 0) hx hb dX12_runs_72 (by decide) ?_
              refine lv_istore (pc := 73) (lv' := [(4, .int 0), (0, .ref th), (1, .int p0), (2, .int x2_11), (3, .int x3_12)]) hx hb dX12_runs_73 hl (by decide) rfl (fun ls hl => ?_)
              obtain ⟨I_19, ⟨k0_19, h0_19⟩, hst_19⟩ := hp
              have kl_19 : ∀ (n_19 : Nat) (x2_20 : Int32) (x4_21 : Int32) (H : Heap) (locs : List Loc) (ls : Array Slot), I_19 n_19 x2_20 x4_21 → Hp G (FA S s.heap.size) s.heap (wI S F_18) H locs → lv_has ls 5 [(0, .ref th), (1, .int p0), (2, .int x2_20), (3, .int x3_12), (4, .int x4_21)] → Wm G p l e { frames := 2, cells := 0, slots := 0, locals := 51 } s m args below meth c S QQ 0 0 H locs 0 0 (F0 m 75 ls []) := by
                intro n_19
                induction n_19 using Nat.strongRecOn with
                | ind n_19 ih_19 =>
                  intro x2_20 x4_21 H locs ls hq9 hH hl
                  have hp := hst_19 n_19 x2_20 x4_21 hq9
                  refine lv_iload (pc := 75) hx hb dX12_runs_75 (lv_at hl 4 rfl) ?_
                  refine lv_iload_n (pc := 77) hx hb dX12_runs_77 rfl (lv_at hl 1 rfl) ?_
                  refine lv_iadd (pc := 78) hx hb dX12_runs_78 ?_
                  refine lv_aload_n (pc := 79) hx hb dX12_runs_79 rfl (lv_at hl 0 rfl) ?_
                  refine sx_getR (pc := 80) (j := 0) B hH hk_th coX12 rfl w_1304 rfl dX12_runs_80 ?_
                  refine W.eq (g2 := F0 m 83 ls [va_rf (gR S th 0), .int (x4_21 + p0)]) rfl ?_
                  refine sx_nonnull (x := a_4) ha_4 ?_
                  refine lv_iconst (pc := 83) (v := 0) hx hb dX12_runs_83 (by decide) ?_
                  refine sx_iald (pc := 84) B hH hk_5 hn_6 dX12_runs_84 ?_
                  refine W.eq (g2 := F0 m 85 ls [.int (F_18 a_4 0), .int (x4_21 + p0)]) rfl ?_
                  refine lv_icmp_gt (pc := 85) (tgt := 124) hx hb dX12_runs_85 (by decide) (fun cc_22 => ?_) (fun cc_22 => ?_)
                  · have hp := hp.1 cc_22
                    obtain ⟨v_23, ev_23⟩ : ∃ y : Int32, y = x3_12 + 1 := ⟨_, rfl⟩
                    have hp := hp v_23 ev_23
                    refine lv_iinc (pc := 124) (v := v_23) (lv' := [(3, .int v_23), (0, .ref th), (1, .int p0), (2, .int x2_20), (4, .int x4_21)]) hx hb dX12_runs_124 hl (k := 3) rfl (by rw [ev_23]; rfl) (by decide) rfl (fun ls hl => ?_)
                    refine lv_goto (pc := 127) (tgt := 43) hx hb dX12_runs_127 (by decide) ?_
                    obtain ⟨k9, hlt9, hp⟩ := hp
                    exact ih_10 k9 hlt9 _ _ _ _ _ _ hp hH (lv_sub hl [1, 2, 3, 0] rfl)
                  · have hp := hp.2 cc_22
                    refine lv_iload_n (pc := 88) hx hb dX12_runs_88 rfl (lv_at hl 2 rfl) ?_
                    refine lv_aload_n (pc := 89) hx hb dX12_runs_89 rfl (lv_at hl 0 rfl) ?_
                    refine lv_iload (pc := 90) hx hb dX12_runs_90 (lv_at hl 4 rfl) ?_
                    refine lv_iload_n (pc := 92) hx hb dX12_runs_92 rfl (lv_at hl 1 rfl) ?_
                    refine lv_iconst (pc := 93) (v := 1) hx hb dX12_runs_93 (by decide) ?_
                    refine sx_V (pc := 94) (As := [.int x4_21, .int p0, .int 1]) (rest := [.int x2_20]) B hH hl.1 (C_X12_isRun G l th x4_21 p0 1 _ _ hp) mi_X12_isRun coX12 hk_th w_1889 w_98 w_1887 rfl rfl ⟨Nat.le_of_ble_eq_true rfl, Nat.le_of_ble_eq_true rfl⟩ (Nat.le_of_ble_eq_true rfl) ⟨Nat.le_of_ble_eq_true rfl, Nat.le_of_ble_eq_true rfl⟩ dX12_runs_94 (fun v S1 H locs hq hH => ?_)
                    obtain ⟨r_24, rfl, e9, hp⟩ := hq
                    rw [e9] at hH
                    refine W.eq (g2 := F0 m 97 ls [.int r_24, .int x2_20]) rfl ?_
                    refine lv_if_ne (pc := 97) (tgt := 111) hx hb dX12_runs_97 (by decide) (fun cc_25 => ?_) (fun cc_25 => ?_)
                    · have hp := hp.1 cc_25
                      refine lv_iconst (pc := 111) (v := 1) hx hb dX12_runs_111 (by decide) ?_
                      refine lv_goto (pc := 112) (tgt := 116) hx hb dX12_runs_112 (by decide) ?_
                      refine lv_iadd (pc := 116) hx hb dX12_runs_116 ?_
                      refine lv_topi (fun v_26 ev_26 => ?_)
                      have hp := hp v_26 ev_26
                      refine lv_istore_n (pc := 117) (lv' := [(2, .int v_26), (0, .ref th), (1, .int p0), (3, .int x3_12), (4, .int x4_21)]) hx hb dX12_runs_117 rfl hl (by decide) rfl (fun ls hl => ?_)
                      obtain ⟨v_27, ev_27⟩ : ∃ y : Int32, y = x4_21 + 1 := ⟨_, rfl⟩
                      have hp := hp v_27 ev_27
                      refine lv_iinc (pc := 118) (v := v_27) (lv' := [(4, .int v_27), (2, .int v_26), (0, .ref th), (1, .int p0), (3, .int x3_12)]) hx hb dX12_runs_118 hl (k := 4) rfl (by rw [ev_27]; rfl) (by decide) rfl (fun ls hl => ?_)
                      refine lv_goto (pc := 121) (tgt := 75) hx hb dX12_runs_121 (by decide) ?_
                      obtain ⟨k9, hlt9, hp⟩ := hp
                      exact ih_19 k9 hlt9 _ _ _ _ _ hp hH (lv_sub hl [2, 3, 1, 4, 0] rfl)
                    · have hp := hp.2 cc_25
                      refine lv_aload_n (pc := 100) hx hb dX12_runs_100 rfl (lv_at hl 0 rfl) ?_
                      refine lv_iload (pc := 101) hx hb dX12_runs_101 (lv_at hl 4 rfl) ?_
                      refine lv_iload_n (pc := 103) hx hb dX12_runs_103 rfl (lv_at hl 1 rfl) ?_
                      refine lv_iconst (pc := 104) (v := (-1)) hx hb dX12_runs_104 (by decide) ?_
                      refine sx_V (pc := 105) (As := [.int x4_21, .int p0, .int (-1)]) (rest := [.int x2_20]) B hH hl.1 (C_X12_isRun G l th x4_21 p0 (-1) _ _ hp) mi_X12_isRun coX12 hk_th w_1889 w_98 w_1887 rfl rfl ⟨Nat.le_of_ble_eq_true rfl, Nat.le_of_ble_eq_true rfl⟩ (Nat.le_of_ble_eq_true rfl) ⟨Nat.le_of_ble_eq_true rfl, Nat.le_of_ble_eq_true rfl⟩ dX12_runs_105 (fun v S1 H locs hq hH => ?_)
                      obtain ⟨r_28, rfl, e9, hp⟩ := hq
                      rw [e9] at hH
                      refine W.eq (g2 := F0 m 108 ls [.int r_28, .int x2_20]) rfl ?_
                      refine lv_if_eq (pc := 108) (tgt := 115) hx hb dX12_runs_108 (by decide) (fun cc_29 => ?_) (fun cc_29 => ?_)
                      · have hp := hp.1 cc_29
                        refine lv_iconst (pc := 115) (v := 0) hx hb dX12_runs_115 (by decide) ?_
                        refine lv_iadd (pc := 116) hx hb dX12_runs_116 ?_
                        refine lv_topi (fun v_30 ev_30 => ?_)
                        have hp := hp v_30 ev_30
                        refine lv_istore_n (pc := 117) (lv' := [(2, .int v_30), (0, .ref th), (1, .int p0), (3, .int x3_12), (4, .int x4_21)]) hx hb dX12_runs_117 rfl hl (by decide) rfl (fun ls hl => ?_)
                        obtain ⟨v_31, ev_31⟩ : ∃ y : Int32, y = x4_21 + 1 := ⟨_, rfl⟩
                        have hp := hp v_31 ev_31
                        refine lv_iinc (pc := 118) (v := v_31) (lv' := [(4, .int v_31), (2, .int v_30), (0, .ref th), (1, .int p0), (3, .int x3_12)]) hx hb dX12_runs_118 hl (k := 4) rfl (by rw [ev_31]; rfl) (by decide) rfl (fun ls hl => ?_)
                        refine lv_goto (pc := 121) (tgt := 75) hx hb dX12_runs_121 (by decide) ?_
                        obtain ⟨k9, hlt9, hp⟩ := hp
                        exact ih_19 k9 hlt9 _ _ _ _ _ hp hH (lv_sub hl [2, 3, 1, 4, 0] rfl)
                      · have hp := hp.2 cc_29
                        refine lv_iconst (pc := 111) (v := 1) hx hb dX12_runs_111 (by decide) ?_
                        refine lv_goto (pc := 112) (tgt := 116) hx hb dX12_runs_112 (by decide) ?_
                        refine lv_iadd (pc := 116) hx hb dX12_runs_116 ?_
                        refine lv_topi (fun v_32 ev_32 => ?_)
                        have hp := hp v_32 ev_32
                        refine lv_istore_n (pc := 117) (lv' := [(2, .int v_32), (0, .ref th), (1, .int p0), (3, .int x3_12), (4, .int x4_21)]) hx hb dX12_runs_117 rfl hl (by decide) rfl (fun ls hl => ?_)
                        obtain ⟨v_33, ev_33⟩ : ∃ y : Int32, y = x4_21 + 1 := ⟨_, rfl⟩
                        have hp := hp v_33 ev_33
                        refine lv_iinc (pc := 118) (v := v_33) (lv' := [(4, .int v_33), (2, .int v_32), (0, .ref th), (1, .int p0), (3, .int x3_12)]) hx hb dX12_runs_118 hl (k := 4) rfl (by rw [ev_33]; rfl) (by decide) rfl (fun ls hl => ?_)
                        refine lv_goto (pc := 121) (tgt := 75) hx hb dX12_runs_121 (by decide) ?_
                        obtain ⟨k9, hlt9, hp⟩ := hp
                        exact ih_19 k9 hlt9 _ _ _ _ _ hp hH (lv_sub hl [2, 3, 1, 4, 0] rfl)
              exact kl_19 k0_19 _ _ _ _ _ h0_19 hH (lv_sub hl [1, 2, 3, 4, 0] rfl)
        exact kl_10 k0_10 _ _ _ _ _ _ h0_10 hH (lv_sub hl [2, 3, 1, 0] rfl)
      · have hp := hp.2 cc_9
        refine lv_aload_n (pc := 32) hx hb dX12_runs_32 rfl (lv_at hl 0 rfl) ?_
        refine lv_bipush (pc := 33) (v := 6) hx hb dX12_runs_33 (by decide) ?_
        refine sx_V (pc := 35) (As := [.int 6]) (rest := []) B hH hl.1 (C_X12_refuse G l th 6 _ _ hp) mi_X12_refuse coX12 hk_th w_1539 w_51 w_1537 rfl rfl ⟨Nat.le_of_ble_eq_true rfl, Nat.le_of_ble_eq_true rfl⟩ (Nat.le_of_ble_eq_true rfl) ⟨Nat.le_of_ble_eq_true rfl, Nat.le_of_ble_eq_true rfl⟩ dX12_runs_35 (fun v S1 H locs hq hH => ?_)
        obtain ⟨r_34, F_34, rfl, e9, hp⟩ := hq
        rw [e9] at hH
        have hH : Hp G (FA S s.heap.size) s.heap (wI S F_34) H locs := hH
        refine W.eq (g2 := F0 m 38 ls [.int r_34]) rfl ?_
        exact sx_iret (pc := 38) B hH hr hlk (by rw [← hQQ]; exact ⟨_, F_34, rfl, rfl, hp⟩) (Nat.le_of_ble_eq_true rfl) (Nat.le_of_ble_eq_true rfl) dX12_runs_38
    · have hp := hp.2 cc_7
      exact kj_2  _ _ _ hp hH (lv_sub hl [0] rfl)
theorem dX12_heard_0 : decode cX12_heard 0 = .ok (.iload_n 1, 1) := by decide +kernel
theorem dX12_heard_1 : decode cX12_heard 1 = .ok (.ifCond .lt 25, 3) := by decide +kernel
theorem dX12_heard_4 : decode cX12_heard 4 = .ok (.aload_n 0, 1) := by decide +kernel
theorem dX12_heard_5 : decode cX12_heard 5 = .ok (.getfield 7, 3) := by decide +kernel
theorem dX12_heard_8 : decode cX12_heard 8 = .ok (.bipush 6, 2) := by decide +kernel
theorem dX12_heard_10 : decode cX12_heard 10 = .ok (.iaload, 1) := by decide +kernel
theorem dX12_heard_11 : decode cX12_heard 11 = .ok (.iconst (-1), 1) := by decide +kernel
theorem dX12_heard_12 : decode cX12_heard 12 = .ok (.if_icmp .eq 20, 3) := by decide +kernel
theorem dX12_heard_15 : decode cX12_heard 15 = .ok (.iload_n 1, 1) := by decide +kernel
theorem dX12_heard_16 : decode cX12_heard 16 = .ok (.aload_n 0, 1) := by decide +kernel
theorem dX12_heard_17 : decode cX12_heard 17 = .ok (.getfield 7, 3) := by decide +kernel
theorem dX12_heard_20 : decode cX12_heard 20 = .ok (.bipush 6, 2) := by decide +kernel
theorem dX12_heard_22 : decode cX12_heard 22 = .ok (.iaload, 1) := by decide +kernel
theorem dX12_heard_23 : decode cX12_heard 23 = .ok (.if_icmp .le 9, 3) := by decide +kernel
theorem dX12_heard_26 : decode cX12_heard 26 = .ok (.aload_n 0, 1) := by decide +kernel
theorem dX12_heard_27 : decode cX12_heard 27 = .ok (.iconst 1, 1) := by decide +kernel
theorem dX12_heard_28 : decode cX12_heard 28 = .ok (.invokevirtual 105, 3) := by decide +kernel
theorem dX12_heard_31 : decode cX12_heard 31 = .ok (.ireturn, 1) := by decide +kernel
theorem dX12_heard_32 : decode cX12_heard 32 = .ok (.aload_n 0, 1) := by decide +kernel
theorem dX12_heard_33 : decode cX12_heard 33 = .ok (.getfield 7, 3) := by decide +kernel
theorem dX12_heard_36 : decode cX12_heard 36 = .ok (.bipush 6, 2) := by decide +kernel
theorem dX12_heard_38 : decode cX12_heard 38 = .ok (.iaload, 1) := by decide +kernel
theorem dX12_heard_39 : decode cX12_heard 39 = .ok (.iconst (-1), 1) := by decide +kernel
theorem dX12_heard_40 : decode cX12_heard 40 = .ok (.if_icmp .ne 10, 3) := by decide +kernel
theorem dX12_heard_43 : decode cX12_heard 43 = .ok (.aload_n 0, 1) := by decide +kernel
theorem dX12_heard_44 : decode cX12_heard 44 = .ok (.bipush 6, 2) := by decide +kernel
theorem dX12_heard_46 : decode cX12_heard 46 = .ok (.invokevirtual 105, 3) := by decide +kernel
theorem dX12_heard_49 : decode cX12_heard 49 = .ok (.ireturn, 1) := by decide +kernel
theorem dX12_heard_50 : decode cX12_heard 50 = .ok (.aload_n 0, 1) := by decide +kernel
theorem dX12_heard_51 : decode cX12_heard 51 = .ok (.aload_n 0, 1) := by decide +kernel
theorem dX12_heard_52 : decode cX12_heard 52 = .ok (.getfield 7, 3) := by decide +kernel
theorem dX12_heard_55 : decode cX12_heard 55 = .ok (.sipush 410, 3) := by decide +kernel
theorem dX12_heard_58 : decode cX12_heard 58 = .ok (.iload_n 1, 1) := by decide +kernel
theorem dX12_heard_59 : decode cX12_heard 59 = .ok (.iadd, 1) := by decide +kernel
theorem dX12_heard_60 : decode cX12_heard 60 = .ok (.iaload, 1) := by decide +kernel
theorem dX12_heard_61 : decode cX12_heard 61 = .ok (.aload_n 0, 1) := by decide +kernel
theorem dX12_heard_62 : decode cX12_heard 62 = .ok (.getfield 50, 3) := by decide +kernel
theorem dX12_heard_65 : decode cX12_heard 65 = .ok (.invokevirtual 266, 3) := by decide +kernel
theorem dX12_heard_68 : decode cX12_heard 68 = .ok (.iconst 0, 1) := by decide +kernel
theorem dX12_heard_69 : decode cX12_heard 69 = .ok (.istore_n 3, 1) := by decide +kernel
theorem dX12_heard_70 : decode cX12_heard 70 = .ok (.iconst 0, 1) := by decide +kernel
theorem dX12_heard_71 : decode cX12_heard 71 = .ok (.istore 4, 2) := by decide +kernel
theorem dX12_heard_73 : decode cX12_heard 73 = .ok (.iload 4, 2) := by decide +kernel
theorem dX12_heard_75 : decode cX12_heard 75 = .ok (.aload_n 0, 1) := by decide +kernel
theorem dX12_heard_76 : decode cX12_heard 76 = .ok (.getfield 7, 3) := by decide +kernel
theorem dX12_heard_79 : decode cX12_heard 79 = .ok (.iconst 0, 1) := by decide +kernel
theorem dX12_heard_80 : decode cX12_heard 80 = .ok (.iaload, 1) := by decide +kernel
theorem dX12_heard_81 : decode cX12_heard 81 = .ok (.if_icmp .ge 53, 3) := by decide +kernel
theorem dX12_heard_84 : decode cX12_heard 84 = .ok (.aload_n 0, 1) := by decide +kernel
theorem dX12_heard_85 : decode cX12_heard 85 = .ok (.getfield 7, 3) := by decide +kernel
theorem dX12_heard_88 : decode cX12_heard 88 = .ok (.iconst 3, 1) := by decide +kernel
theorem dX12_heard_89 : decode cX12_heard 89 = .ok (.iaload, 1) := by decide +kernel
theorem dX12_heard_90 : decode cX12_heard 90 = .ok (.aload_n 0, 1) := by decide +kernel
theorem dX12_heard_91 : decode cX12_heard 91 = .ok (.getfield 50, 3) := by decide +kernel
theorem dX12_heard_94 : decode cX12_heard 94 = .ok (.iload 4, 2) := by decide +kernel
theorem dX12_heard_96 : decode cX12_heard 96 = .ok (.iaload, 1) := by decide +kernel
theorem dX12_heard_97 : decode cX12_heard 97 = .ok (.ishr, 1) := by decide +kernel
theorem dX12_heard_98 : decode cX12_heard 98 = .ok (.iconst 1, 1) := by decide +kernel
theorem dX12_heard_99 : decode cX12_heard 99 = .ok (.iand, 1) := by decide +kernel
theorem dX12_heard_100 : decode cX12_heard 100 = .ok (.ifCond .ne 6, 3) := by decide +kernel
theorem dX12_heard_103 : decode cX12_heard 103 = .ok (.goto 25, 3) := by decide +kernel
theorem dX12_heard_106 : decode cX12_heard 106 = .ok (.iload_n 3, 1) := by decide +kernel
theorem dX12_heard_107 : decode cX12_heard 107 = .ok (.iload_n 2, 1) := by decide +kernel
theorem dX12_heard_108 : decode cX12_heard 108 = .ok (.if_icmp .ne 17, 3) := by decide +kernel
theorem dX12_heard_111 : decode cX12_heard 111 = .ok (.aload_n 0, 1) := by decide +kernel
theorem dX12_heard_112 : decode cX12_heard 112 = .ok (.aload_n 0, 1) := by decide +kernel
theorem dX12_heard_113 : decode cX12_heard 113 = .ok (.getfield 50, 3) := by decide +kernel
theorem dX12_heard_116 : decode cX12_heard 116 = .ok (.iload 4, 2) := by decide +kernel
theorem dX12_heard_118 : decode cX12_heard 118 = .ok (.iaload, 1) := by decide +kernel
theorem dX12_heard_119 : decode cX12_heard 119 = .ok (.iconst 1, 1) := by decide +kernel
theorem dX12_heard_120 : decode cX12_heard 120 = .ok (.iadd, 1) := by decide +kernel
theorem dX12_heard_121 : decode cX12_heard 121 = .ok (.invokevirtual 109, 3) := by decide +kernel
theorem dX12_heard_124 : decode cX12_heard 124 = .ok (.ireturn, 1) := by decide +kernel
theorem dX12_heard_125 : decode cX12_heard 125 = .ok (.iinc 3 1, 3) := by decide +kernel
theorem dX12_heard_128 : decode cX12_heard 128 = .ok (.iinc 4 1, 3) := by decide +kernel
theorem dX12_heard_131 : decode cX12_heard 131 = .ok (.goto (-58), 3) := by decide +kernel
theorem dX12_heard_134 : decode cX12_heard 134 = .ok (.aload_n 0, 1) := by decide +kernel
theorem dX12_heard_135 : decode cX12_heard 135 = .ok (.bipush 6, 2) := by decide +kernel
theorem dX12_heard_137 : decode cX12_heard 137 = .ok (.invokevirtual 105, 3) := by decide +kernel
theorem dX12_heard_140 : decode cX12_heard 140 = .ok (.ireturn, 1) := by decide +kernel
theorem mi_X12_heard : MI yX12_heard cX12_heard 5 (some FieldType.int) 2 := ⟨w_1894, w_118, by decide +kernel, by decide +kernel, by decide +kernel⟩
set_option maxRecDepth 100000 in
set_option maxHeartbeats 4000000 in
theorem C_X12_heard (G : GG) (l : Launch) (th : Nat) (p0 : Int32) (p1 : Int32) (S : St) (Q : Int32 → (Nat → Nat → Int32) → Prop) (hp : P_X12_heard th p0 p1 S Q) : Ctr G l yX12_heard cX12_heard 5 (some FieldType.int) 2 51 0 0 [.ref th, .int p0, .int p1] S (fun (v : Option Value) (S9 : St) => ∃ (r : Int32) (I9 : Nat → Nat → Int32), v = some (.int r) ∧ S9 = wI S I9 ∧ Q r I9) := by
  generalize hQQ : (fun (v : Option Value) (S9 : St) => ∃ (r : Int32) (I9 : Nat → Nat → Int32), v = some (.int r) ∧ S9 = wI S I9 ∧ Q r I9) = QQ
  unfold P_X12_heard at hp
  refine Ctr.of (by decide) (Nat.le_of_ble_eq_true rfl) ?_
  intro p e s m args below meth c ls B hr hlk hin hl hH
  generalize hlocs0 : ([] : List Loc) = locs at hH ⊢
  have hx := B.1
  have hb := B.2.1
  have hl : lv_has ls 5 [(0, .ref th), (1, .int p0), (2, .int p1)] := hl
  obtain ⟨hk_th, hp⟩ := hp
  refine lv_iload_n (pc := 0) hx hb dX12_heard_0 rfl (lv_at hl 1 rfl) ?_
  obtain ⟨J_2, hj_2, hp⟩ := hp
  have kj_2 : ∀  (H : Heap) (locs : List Loc) (ls : Array Slot), J_2  → Hp G (FA S s.heap.size) s.heap S H locs → lv_has ls 5 [(0, .ref th)] → Wm G p l e { frames := 2, cells := 0, slots := 0, locals := 51 } s m args below meth c S QQ 0 0 H locs 0 0 (F0 m 26 ls []) := by
    intro  H locs ls hq9 hH hl
    have hp := hj_2  hq9
    refine lv_aload_n (pc := 26) hx hb dX12_heard_26 rfl (lv_at hl 0 rfl) ?_
    refine lv_iconst (pc := 27) (v := 1) hx hb dX12_heard_27 (by decide) ?_
    refine sx_V (pc := 28) (As := [.int 1]) (rest := []) B hH hl.1 (C_X12_refuse G l th 1 _ _ hp) mi_X12_refuse coX12 hk_th w_1539 w_51 w_1537 rfl rfl ⟨Nat.le_of_ble_eq_true rfl, Nat.le_of_ble_eq_true rfl⟩ (Nat.le_of_ble_eq_true rfl) ⟨Nat.le_of_ble_eq_true rfl, Nat.le_of_ble_eq_true rfl⟩ dX12_heard_28 (fun v S1 H locs hq hH => ?_)
    obtain ⟨r_3, F_3, rfl, e9, hp⟩ := hq
    rw [e9] at hH
    have hH : Hp G (FA S s.heap.size) s.heap (wI S F_3) H locs := hH
    refine W.eq (g2 := F0 m 31 ls [.int r_3]) rfl ?_
    exact sx_iret (pc := 31) B hH hr hlk (by rw [← hQQ]; exact ⟨_, F_3, rfl, rfl, hp⟩) (Nat.le_of_ble_eq_true rfl) (Nat.le_of_ble_eq_true rfl) dX12_heard_31
  refine lv_if_lt (pc := 1) (tgt := 26) hx hb dX12_heard_1 (by decide) (fun cc_1 => ?_) (fun cc_1 => ?_)
  · have hp := hp.1 cc_1
    exact kj_2  _ _ _ hp hH (lv_sub hl [0] rfl)
  · have hp := hp.2 cc_1
    refine lv_aload_n (pc := 4) hx hb dX12_heard_4 rfl (lv_at hl 0 rfl) ?_
    refine sx_getR (pc := 5) (j := 0) B hH hk_th coX12 rfl w_1304 rfl dX12_heard_5 ?_
    refine W.eq (g2 := F0 m 8 ls [va_rf (gR S th 0)]) rfl ?_
    obtain ⟨a_4, ha_4, hp⟩ := hp
    refine sx_nonnull (x := a_4) ha_4 ?_
    refine lv_bipush (pc := 8) (v := 6) hx hb dX12_heard_8 (by decide) ?_
    obtain ⟨hk_5, hp⟩ := hp
    obtain ⟨hn_6, hp⟩ := hp
    refine sx_iald (pc := 10) B hH hk_5 hn_6 dX12_heard_10 ?_
    refine W.eq (g2 := F0 m 11 ls [.int (gI S a_4 6)]) rfl ?_
    refine lv_iconst (pc := 11) (v := (-1)) hx hb dX12_heard_11 (by decide) ?_
    obtain ⟨J_8, hj_8, hp⟩ := hp
    have kj_8 : ∀  (H : Heap) (locs : List Loc) (ls : Array Slot), J_8  → Hp G (FA S s.heap.size) s.heap S H locs → lv_has ls 5 [(0, .ref th), (1, .int p0), (2, .int p1)] → Wm G p l e { frames := 2, cells := 0, slots := 0, locals := 51 } s m args below meth c S QQ 0 0 H locs 0 0 (F0 m 32 ls []) := by
      intro  H locs ls hq9 hH hl
      have hp := hj_8  hq9
      refine lv_aload_n (pc := 32) hx hb dX12_heard_32 rfl (lv_at hl 0 rfl) ?_
      refine sx_getR (pc := 33) (j := 0) B hH hk_th coX12 rfl w_1304 rfl dX12_heard_33 ?_
      refine W.eq (g2 := F0 m 36 ls [va_rf (gR S th 0)]) rfl ?_
      refine sx_nonnull (x := a_4) ha_4 ?_
      refine lv_bipush (pc := 36) (v := 6) hx hb dX12_heard_36 (by decide) ?_
      refine sx_iald (pc := 38) B hH hk_5 hn_6 dX12_heard_38 ?_
      refine W.eq (g2 := F0 m 39 ls [.int (gI S a_4 6)]) rfl ?_
      refine lv_iconst (pc := 39) (v := (-1)) hx hb dX12_heard_39 (by decide) ?_
      refine lv_icmp_ne (pc := 40) (tgt := 50) hx hb dX12_heard_40 (by decide) (fun cc_9 => ?_) (fun cc_9 => ?_)
      · have hp := hp.1 cc_9
        refine lv_aload_n (pc := 50) hx hb dX12_heard_50 rfl (lv_at hl 0 rfl) ?_
        refine lv_aload_n (pc := 51) hx hb dX12_heard_51 rfl (lv_at hl 0 rfl) ?_
        refine sx_getR (pc := 52) (j := 0) B hH hk_th coX12 rfl w_1304 rfl dX12_heard_52 ?_
        refine W.eq (g2 := F0 m 55 ls [va_rf (gR S th 0), .ref th]) rfl ?_
        refine sx_nonnull (x := a_4) ha_4 ?_
        refine lv_sipush (pc := 55) (v := 410) hx hb dX12_heard_55 (by decide) ?_
        refine lv_iload_n (pc := 58) hx hb dX12_heard_58 rfl (lv_at hl 1 rfl) ?_
        refine lv_iadd (pc := 59) hx hb dX12_heard_59 ?_
        obtain ⟨hn_10, hp⟩ := hp
        refine sx_iald (pc := 60) B hH hk_5 hn_10 dX12_heard_60 ?_
        refine W.eq (g2 := F0 m 61 ls [.int (gI S a_4 ((410 + p0).toNatClampNeg)), .ref th]) rfl ?_
        refine lv_aload_n (pc := 61) hx hb dX12_heard_61 rfl (lv_at hl 0 rfl) ?_
        refine sx_getR (pc := 62) (j := 24) B hH hk_th coX12 rfl w_1328 rfl dX12_heard_62 ?_
        refine W.eq (g2 := F0 m 65 ls [va_rf (gR S th 24), .int (gI S a_4 ((410 + p0).toNatClampNeg)), .ref th]) rfl ?_
        obtain ⟨a_11, ha_11, hp⟩ := hp
        refine sx_nonnull (x := a_11) ha_11 ?_
        refine sx_V (pc := 65) (As := [.int (gI S a_4 ((410 + p0).toNatClampNeg)), .ref a_11]) (rest := []) B hH hl.1 (C_X12_laysRow G l th (gI S a_4 ((410 + p0).toNatClampNeg)) a_11 _ _ hp) mi_X12_laysRow coX12 hk_th w_1657 w_76 w_1655 rfl rfl ⟨Nat.le_of_ble_eq_true rfl, Nat.le_of_ble_eq_true rfl⟩ (Nat.le_of_ble_eq_true rfl) ⟨Nat.le_of_ble_eq_true rfl, Nat.le_of_ble_eq_true rfl⟩ dX12_heard_65 (fun v S1 H locs hq hH => ?_)
        obtain ⟨F_12, rfl, e9, hp⟩ := hq
        rw [e9] at hH
        have hH : Hp G (FA S s.heap.size) s.heap (wI S F_12) H locs := hH
        refine W.eq (g2 := F0 m 68 ls []) rfl ?_
        refine lv_iconst (pc := 68) (v := 0) hx hb dX12_heard_68 (by decide) ?_
        refine lv_istore_n (pc := 69) (lv' := [(3, .int 0), (0, .ref th), (1, .int p0), (2, .int p1)]) hx hb dX12_heard_69 rfl hl (by decide) rfl (fun ls hl => ?_)
        refine lv_iconst (pc := 70) (v := 0) hx hb dX12_heard_70 (by decide) ?_
        refine lv_istore (pc := 71) (lv' := [(4, .int 0), (3, .int 0), (0, .ref th), (1, .int p0), (2, .int p1)]) hx hb dX12_heard_71 hl (by decide) rfl (fun ls hl => ?_)
        obtain ⟨I_13, ⟨k0_13, h0_13⟩, hst_13⟩ := hp
        have kl_13 : ∀ (n_13 : Nat) (x3_14 : Int32) (x4_15 : Int32) (H : Heap) (locs : List Loc) (ls : Array Slot), I_13 n_13 x3_14 x4_15 → Hp G (FA S s.heap.size) s.heap (wI S F_12) H locs → lv_has ls 5 [(0, .ref th), (2, .int p1), (3, .int x3_14), (4, .int x4_15)] → Wm G p l e { frames := 2, cells := 0, slots := 0, locals := 51 } s m args below meth c S QQ 0 0 H locs 0 0 (F0 m 73 ls []) := by
          intro n_13
          induction n_13 using Nat.strongRecOn with
          | ind n_13 ih_13 =>
            intro x3_14 x4_15 H locs ls hq9 hH hl
            have hp := hst_13 n_13 x3_14 x4_15 hq9
            refine lv_iload (pc := 73) hx hb dX12_heard_73 (lv_at hl 3 rfl) ?_
            refine lv_aload_n (pc := 75) hx hb dX12_heard_75 rfl (lv_at hl 0 rfl) ?_
            refine sx_getR (pc := 76) (j := 0) B hH hk_th coX12 rfl w_1304 rfl dX12_heard_76 ?_
            refine W.eq (g2 := F0 m 79 ls [va_rf (gR S th 0), .int x4_15]) rfl ?_
            refine sx_nonnull (x := a_4) ha_4 ?_
            refine lv_iconst (pc := 79) (v := 0) hx hb dX12_heard_79 (by decide) ?_
            obtain ⟨hn_16, hp⟩ := hp
            refine sx_iald (pc := 80) B hH hk_5 hn_16 dX12_heard_80 ?_
            refine W.eq (g2 := F0 m 81 ls [.int (F_12 a_4 0), .int x4_15]) rfl ?_
            refine lv_icmp_ge (pc := 81) (tgt := 134) hx hb dX12_heard_81 (by decide) (fun cc_17 => ?_) (fun cc_17 => ?_)
            · have hp := hp.1 cc_17
              refine lv_aload_n (pc := 134) hx hb dX12_heard_134 rfl (lv_at hl 0 rfl) ?_
              refine lv_bipush (pc := 135) (v := 6) hx hb dX12_heard_135 (by decide) ?_
              refine sx_V (pc := 137) (As := [.int 6]) (rest := []) B hH hl.1 (C_X12_refuse G l th 6 _ _ hp) mi_X12_refuse coX12 hk_th w_1539 w_51 w_1537 rfl rfl ⟨Nat.le_of_ble_eq_true rfl, Nat.le_of_ble_eq_true rfl⟩ (Nat.le_of_ble_eq_true rfl) ⟨Nat.le_of_ble_eq_true rfl, Nat.le_of_ble_eq_true rfl⟩ dX12_heard_137 (fun v S1 H locs hq hH => ?_)
              obtain ⟨r_18, F_18, rfl, e9, hp⟩ := hq
              rw [e9] at hH
              have hH : Hp G (FA S s.heap.size) s.heap (wI S F_18) H locs := hH
              refine W.eq (g2 := F0 m 140 ls [.int r_18]) rfl ?_
              exact sx_iret (pc := 140) B hH hr hlk (by rw [← hQQ]; exact ⟨_, F_18, rfl, rfl, hp⟩) (Nat.le_of_ble_eq_true rfl) (Nat.le_of_ble_eq_true rfl) dX12_heard_140
            · have hp := hp.2 cc_17
              refine lv_aload_n (pc := 84) hx hb dX12_heard_84 rfl (lv_at hl 0 rfl) ?_
              refine sx_getR (pc := 85) (j := 0) B hH hk_th coX12 rfl w_1304 rfl dX12_heard_85 ?_
              refine W.eq (g2 := F0 m 88 ls [va_rf (gR S th 0)]) rfl ?_
              refine sx_nonnull (x := a_4) ha_4 ?_
              refine lv_iconst (pc := 88) (v := 3) hx hb dX12_heard_88 (by decide) ?_
              obtain ⟨hn_19, hp⟩ := hp
              refine sx_iald (pc := 89) B hH hk_5 hn_19 dX12_heard_89 ?_
              refine W.eq (g2 := F0 m 90 ls [.int (F_12 a_4 3)]) rfl ?_
              refine lv_aload_n (pc := 90) hx hb dX12_heard_90 rfl (lv_at hl 0 rfl) ?_
              refine sx_getR (pc := 91) (j := 24) B hH hk_th coX12 rfl w_1328 rfl dX12_heard_91 ?_
              refine W.eq (g2 := F0 m 94 ls [va_rf (gR S th 24), .int (F_12 a_4 3)]) rfl ?_
              refine sx_nonnull (x := a_11) ha_11 ?_
              refine lv_iload (pc := 94) hx hb dX12_heard_94 (lv_at hl 3 rfl) ?_
              obtain ⟨hk_20, hp⟩ := hp
              obtain ⟨hn_21, hp⟩ := hp
              refine sx_iald (pc := 96) B hH hk_20 hn_21 dX12_heard_96 ?_
              refine W.eq (g2 := F0 m 97 ls [.int (F_12 a_11 x4_15.toNatClampNeg), .int (F_12 a_4 3)]) rfl ?_
              refine lv_ishr (pc := 97) hx hb dX12_heard_97 ?_
              refine W.eq (g2 := F0 m 98 ls [.int (shr (F_12 a_4 3) (F_12 a_11 x4_15.toNatClampNeg))]) rfl ?_
              refine lv_iconst (pc := 98) (v := 1) hx hb dX12_heard_98 (by decide) ?_
              refine lv_iand (pc := 99) hx hb dX12_heard_99 ?_
              refine lv_if_ne (pc := 100) (tgt := 106) hx hb dX12_heard_100 (by decide) (fun cc_22 => ?_) (fun cc_22 => ?_)
              · have hp := hp.1 cc_22
                refine lv_iload_n (pc := 106) hx hb dX12_heard_106 rfl (lv_at hl 2 rfl) ?_
                refine lv_iload_n (pc := 107) hx hb dX12_heard_107 rfl (lv_at hl 1 rfl) ?_
                refine lv_icmp_ne (pc := 108) (tgt := 125) hx hb dX12_heard_108 (by decide) (fun cc_23 => ?_) (fun cc_23 => ?_)
                · have hp := hp.1 cc_23
                  obtain ⟨v_24, ev_24⟩ : ∃ y : Int32, y = x3_14 + 1 := ⟨_, rfl⟩
                  have hp := hp v_24 ev_24
                  refine lv_iinc (pc := 125) (v := v_24) (lv' := [(3, .int v_24), (0, .ref th), (2, .int p1), (4, .int x4_15)]) hx hb dX12_heard_125 hl (k := 2) rfl (by rw [ev_24]; rfl) (by decide) rfl (fun ls hl => ?_)
                  obtain ⟨v_25, ev_25⟩ : ∃ y : Int32, y = x4_15 + 1 := ⟨_, rfl⟩
                  have hp := hp v_25 ev_25
                  refine lv_iinc (pc := 128) (v := v_25) (lv' := [(4, .int v_25), (3, .int v_24), (0, .ref th), (2, .int p1)]) hx hb dX12_heard_128 hl (k := 3) rfl (by rw [ev_25]; rfl) (by decide) rfl (fun ls hl => ?_)
                  refine lv_goto (pc := 131) (tgt := 73) hx hb dX12_heard_131 (by decide) ?_
                  obtain ⟨k9, hlt9, hp⟩ := hp
                  exact ih_13 k9 hlt9 _ _ _ _ _ hp hH (lv_sub hl [2, 3, 1, 0] rfl)
                · have hp := hp.2 cc_23
                  refine lv_aload_n (pc := 111) hx hb dX12_heard_111 rfl (lv_at hl 0 rfl) ?_
                  refine lv_aload_n (pc := 112) hx hb dX12_heard_112 rfl (lv_at hl 0 rfl) ?_
                  refine sx_getR (pc := 113) (j := 24) B hH hk_th coX12 rfl w_1328 rfl dX12_heard_113 ?_
                  refine W.eq (g2 := F0 m 116 ls [va_rf (gR S th 24), .ref th]) rfl ?_
                  refine sx_nonnull (x := a_11) ha_11 ?_
                  refine lv_iload (pc := 116) hx hb dX12_heard_116 (lv_at hl 3 rfl) ?_
                  refine sx_iald (pc := 118) B hH hk_20 hn_21 dX12_heard_118 ?_
                  refine W.eq (g2 := F0 m 119 ls [.int (F_12 a_11 x4_15.toNatClampNeg), .ref th]) rfl ?_
                  refine lv_iconst (pc := 119) (v := 1) hx hb dX12_heard_119 (by decide) ?_
                  refine lv_iadd (pc := 120) hx hb dX12_heard_120 ?_
                  refine sx_V (pc := 121) (As := [.int ((F_12 a_11 x4_15.toNatClampNeg) + 1)]) (rest := []) B hH hl.1 (C_X12_gives G l th ((F_12 a_11 x4_15.toNatClampNeg) + 1) _ _ hp) mi_X12_gives coX12 hk_th w_1617 w_69 w_1615 rfl rfl ⟨Nat.le_of_ble_eq_true rfl, Nat.le_of_ble_eq_true rfl⟩ (Nat.le_of_ble_eq_true rfl) ⟨Nat.le_of_ble_eq_true rfl, Nat.le_of_ble_eq_true rfl⟩ dX12_heard_121 (fun v S1 H locs hq hH => ?_)
                  obtain ⟨r_26, F_26, rfl, e9, hp⟩ := hq
                  rw [e9] at hH
                  have hH : Hp G (FA S s.heap.size) s.heap (wI S F_26) H locs := hH
                  refine W.eq (g2 := F0 m 124 ls [.int r_26]) rfl ?_
                  exact sx_iret (pc := 124) B hH hr hlk (by rw [← hQQ]; exact ⟨_, F_26, rfl, rfl, hp⟩) (Nat.le_of_ble_eq_true rfl) (Nat.le_of_ble_eq_true rfl) dX12_heard_124
              · have hp := hp.2 cc_22
                refine lv_goto (pc := 103) (tgt := 128) hx hb dX12_heard_103 (by decide) ?_
                obtain ⟨v_27, ev_27⟩ : ∃ y : Int32, y = x4_15 + 1 := ⟨_, rfl⟩
                have hp := hp v_27 ev_27
                refine lv_iinc (pc := 128) (v := v_27) (lv' := [(4, .int v_27), (0, .ref th), (2, .int p1), (3, .int x3_14)]) hx hb dX12_heard_128 hl (k := 3) rfl (by rw [ev_27]; rfl) (by decide) rfl (fun ls hl => ?_)
                refine lv_goto (pc := 131) (tgt := 73) hx hb dX12_heard_131 (by decide) ?_
                obtain ⟨k9, hlt9, hp⟩ := hp
                exact ih_13 k9 hlt9 _ _ _ _ _ hp hH (lv_sub hl [1, 2, 3, 0] rfl)
        exact kl_13 k0_13 _ _ _ _ _ h0_13 hH (lv_sub hl [2, 4, 1, 0] rfl)
      · have hp := hp.2 cc_9
        refine lv_aload_n (pc := 43) hx hb dX12_heard_43 rfl (lv_at hl 0 rfl) ?_
        refine lv_bipush (pc := 44) (v := 6) hx hb dX12_heard_44 (by decide) ?_
        refine sx_V (pc := 46) (As := [.int 6]) (rest := []) B hH hl.1 (C_X12_refuse G l th 6 _ _ hp) mi_X12_refuse coX12 hk_th w_1539 w_51 w_1537 rfl rfl ⟨Nat.le_of_ble_eq_true rfl, Nat.le_of_ble_eq_true rfl⟩ (Nat.le_of_ble_eq_true rfl) ⟨Nat.le_of_ble_eq_true rfl, Nat.le_of_ble_eq_true rfl⟩ dX12_heard_46 (fun v S1 H locs hq hH => ?_)
        obtain ⟨r_28, F_28, rfl, e9, hp⟩ := hq
        rw [e9] at hH
        have hH : Hp G (FA S s.heap.size) s.heap (wI S F_28) H locs := hH
        refine W.eq (g2 := F0 m 49 ls [.int r_28]) rfl ?_
        exact sx_iret (pc := 49) B hH hr hlk (by rw [← hQQ]; exact ⟨_, F_28, rfl, rfl, hp⟩) (Nat.le_of_ble_eq_true rfl) (Nat.le_of_ble_eq_true rfl) dX12_heard_49
    refine lv_icmp_eq (pc := 12) (tgt := 32) hx hb dX12_heard_12 (by decide) (fun cc_7 => ?_) (fun cc_7 => ?_)
    · have hp := hp.1 cc_7
      exact kj_8  _ _ _ hp hH (lv_sub hl [0, 1, 2] rfl)
    · have hp := hp.2 cc_7
      refine lv_iload_n (pc := 15) hx hb dX12_heard_15 rfl (lv_at hl 1 rfl) ?_
      refine lv_aload_n (pc := 16) hx hb dX12_heard_16 rfl (lv_at hl 0 rfl) ?_
      refine sx_getR (pc := 17) (j := 0) B hH hk_th coX12 rfl w_1304 rfl dX12_heard_17 ?_
      refine W.eq (g2 := F0 m 20 ls [va_rf (gR S th 0), .int p0]) rfl ?_
      refine sx_nonnull (x := a_4) ha_4 ?_
      refine lv_bipush (pc := 20) (v := 6) hx hb dX12_heard_20 (by decide) ?_
      refine sx_iald (pc := 22) B hH hk_5 hn_6 dX12_heard_22 ?_
      refine W.eq (g2 := F0 m 23 ls [.int (gI S a_4 6), .int p0]) rfl ?_
      refine lv_icmp_le (pc := 23) (tgt := 32) hx hb dX12_heard_23 (by decide) (fun cc_29 => ?_) (fun cc_29 => ?_)
      · have hp := hp.1 cc_29
        exact kj_8  _ _ _ hp hH (lv_sub hl [0, 1, 2] rfl)
      · have hp := hp.2 cc_29
        exact kj_2  _ _ _ hp hH (lv_sub hl [0] rfl)
theorem dX12_heardOf_0 : decode cX12_heardOf 0 = .ok (.aload_n 0, 1) := by decide +kernel
theorem dX12_heardOf_1 : decode cX12_heardOf 1 = .ok (.iload_n 1, 1) := by decide +kernel
theorem dX12_heardOf_2 : decode cX12_heardOf 2 = .ok (.aload_n 0, 1) := by decide +kernel
theorem dX12_heardOf_3 : decode cX12_heardOf 3 = .ok (.getfield 50, 3) := by decide +kernel
theorem dX12_heardOf_6 : decode cX12_heardOf 6 = .ok (.invokevirtual 266, 3) := by decide +kernel
theorem dX12_heardOf_9 : decode cX12_heardOf 9 = .ok (.iconst 0, 1) := by decide +kernel
theorem dX12_heardOf_10 : decode cX12_heardOf 10 = .ok (.istore_n 2, 1) := by decide +kernel
theorem dX12_heardOf_11 : decode cX12_heardOf 11 = .ok (.iconst 0, 1) := by decide +kernel
theorem dX12_heardOf_12 : decode cX12_heardOf 12 = .ok (.istore_n 3, 1) := by decide +kernel
theorem dX12_heardOf_13 : decode cX12_heardOf 13 = .ok (.iload_n 3, 1) := by decide +kernel
theorem dX12_heardOf_14 : decode cX12_heardOf 14 = .ok (.aload_n 0, 1) := by decide +kernel
theorem dX12_heardOf_15 : decode cX12_heardOf 15 = .ok (.getfield 7, 3) := by decide +kernel
theorem dX12_heardOf_18 : decode cX12_heardOf 18 = .ok (.iconst 0, 1) := by decide +kernel
theorem dX12_heardOf_19 : decode cX12_heardOf 19 = .ok (.iaload, 1) := by decide +kernel
theorem dX12_heardOf_20 : decode cX12_heardOf 20 = .ok (.if_icmp .ge 42, 3) := by decide +kernel
theorem dX12_heardOf_23 : decode cX12_heardOf 23 = .ok (.aload_n 0, 1) := by decide +kernel
theorem dX12_heardOf_24 : decode cX12_heardOf 24 = .ok (.getfield 7, 3) := by decide +kernel
theorem dX12_heardOf_27 : decode cX12_heardOf 27 = .ok (.iconst 3, 1) := by decide +kernel
theorem dX12_heardOf_28 : decode cX12_heardOf 28 = .ok (.iaload, 1) := by decide +kernel
theorem dX12_heardOf_29 : decode cX12_heardOf 29 = .ok (.aload_n 0, 1) := by decide +kernel
theorem dX12_heardOf_30 : decode cX12_heardOf 30 = .ok (.getfield 50, 3) := by decide +kernel
theorem dX12_heardOf_33 : decode cX12_heardOf 33 = .ok (.iload_n 3, 1) := by decide +kernel
theorem dX12_heardOf_34 : decode cX12_heardOf 34 = .ok (.iaload, 1) := by decide +kernel
theorem dX12_heardOf_35 : decode cX12_heardOf 35 = .ok (.ishr, 1) := by decide +kernel
theorem dX12_heardOf_36 : decode cX12_heardOf 36 = .ok (.iconst 1, 1) := by decide +kernel
theorem dX12_heardOf_37 : decode cX12_heardOf 37 = .ok (.iand, 1) := by decide +kernel
theorem dX12_heardOf_38 : decode cX12_heardOf 38 = .ok (.iconst 1, 1) := by decide +kernel
theorem dX12_heardOf_39 : decode cX12_heardOf 39 = .ok (.if_icmp .ne 17, 3) := by decide +kernel
theorem dX12_heardOf_42 : decode cX12_heardOf 42 = .ok (.bipush 9, 2) := by decide +kernel
theorem dX12_heardOf_44 : decode cX12_heardOf 44 = .ok (.iload_n 2, 1) := by decide +kernel
theorem dX12_heardOf_45 : decode cX12_heardOf 45 = .ok (.imul, 1) := by decide +kernel
theorem dX12_heardOf_46 : decode cX12_heardOf 46 = .ok (.aload_n 0, 1) := by decide +kernel
theorem dX12_heardOf_47 : decode cX12_heardOf 47 = .ok (.getfield 50, 3) := by decide +kernel
theorem dX12_heardOf_50 : decode cX12_heardOf 50 = .ok (.iload_n 3, 1) := by decide +kernel
theorem dX12_heardOf_51 : decode cX12_heardOf 51 = .ok (.iaload, 1) := by decide +kernel
theorem dX12_heardOf_52 : decode cX12_heardOf 52 = .ok (.iadd, 1) := by decide +kernel
theorem dX12_heardOf_53 : decode cX12_heardOf 53 = .ok (.iconst 1, 1) := by decide +kernel
theorem dX12_heardOf_54 : decode cX12_heardOf 54 = .ok (.iadd, 1) := by decide +kernel
theorem dX12_heardOf_55 : decode cX12_heardOf 55 = .ok (.istore_n 2, 1) := by decide +kernel
theorem dX12_heardOf_56 : decode cX12_heardOf 56 = .ok (.iinc 3 1, 3) := by decide +kernel
theorem dX12_heardOf_59 : decode cX12_heardOf 59 = .ok (.goto (-46), 3) := by decide +kernel
theorem dX12_heardOf_62 : decode cX12_heardOf 62 = .ok (.iload_n 2, 1) := by decide +kernel
theorem dX12_heardOf_63 : decode cX12_heardOf 63 = .ok (.ireturn, 1) := by decide +kernel
theorem mi_X12_heardOf : MI yX12_heardOf cX12_heardOf 4 (some FieldType.int) 1 := ⟨w_1902, w_118, by decide +kernel, by decide +kernel, by decide +kernel⟩
set_option maxRecDepth 100000 in
set_option maxHeartbeats 4000000 in
theorem C_X12_heardOf (G : GG) (l : Launch) (th : Nat) (p0 : Int32) (S : St) (Q : Int32 → (Nat → Nat → Int32) → Prop) (hp : P_X12_heardOf th p0 S Q) : Ctr G l yX12_heardOf cX12_heardOf 4 (some FieldType.int) 2 51 0 0 [.ref th, .int p0] S (fun (v : Option Value) (S9 : St) => ∃ (r : Int32) (I9 : Nat → Nat → Int32), v = some (.int r) ∧ S9 = wI S I9 ∧ Q r I9) := by
  generalize hQQ : (fun (v : Option Value) (S9 : St) => ∃ (r : Int32) (I9 : Nat → Nat → Int32), v = some (.int r) ∧ S9 = wI S I9 ∧ Q r I9) = QQ
  unfold P_X12_heardOf at hp
  refine Ctr.of (by decide) (Nat.le_of_ble_eq_true rfl) ?_
  intro p e s m args below meth c ls B hr hlk hin hl hH
  generalize hlocs0 : ([] : List Loc) = locs at hH ⊢
  have hx := B.1
  have hb := B.2.1
  have hl : lv_has ls 4 [(0, .ref th), (1, .int p0)] := hl
  obtain ⟨hk_th, hp⟩ := hp
  refine lv_aload_n (pc := 0) hx hb dX12_heardOf_0 rfl (lv_at hl 0 rfl) ?_
  refine lv_iload_n (pc := 1) hx hb dX12_heardOf_1 rfl (lv_at hl 1 rfl) ?_
  refine lv_aload_n (pc := 2) hx hb dX12_heardOf_2 rfl (lv_at hl 0 rfl) ?_
  refine sx_getR (pc := 3) (j := 24) B hH hk_th coX12 rfl w_1328 rfl dX12_heardOf_3 ?_
  refine W.eq (g2 := F0 m 6 ls [va_rf (gR S th 24), .int p0, .ref th]) rfl ?_
  obtain ⟨a_1, ha_1, hp⟩ := hp
  refine sx_nonnull (x := a_1) ha_1 ?_
  refine sx_V (pc := 6) (As := [.int p0, .ref a_1]) (rest := []) B hH hl.1 (C_X12_laysRow G l th p0 a_1 _ _ hp) mi_X12_laysRow coX12 hk_th w_1657 w_76 w_1655 rfl rfl ⟨Nat.le_of_ble_eq_true rfl, Nat.le_of_ble_eq_true rfl⟩ (Nat.le_of_ble_eq_true rfl) ⟨Nat.le_of_ble_eq_true rfl, Nat.le_of_ble_eq_true rfl⟩ dX12_heardOf_6 (fun v S1 H locs hq hH => ?_)
  obtain ⟨F_2, rfl, e9, hp⟩ := hq
  rw [e9] at hH
  have hH : Hp G (FA S s.heap.size) s.heap (wI S F_2) H locs := hH
  refine W.eq (g2 := F0 m 9 ls []) rfl ?_
  refine lv_iconst (pc := 9) (v := 0) hx hb dX12_heardOf_9 (by decide) ?_
  refine lv_istore_n (pc := 10) (lv' := [(2, .int 0), (0, .ref th), (1, .int p0)]) hx hb dX12_heardOf_10 rfl hl (by decide) rfl (fun ls hl => ?_)
  refine lv_iconst (pc := 11) (v := 0) hx hb dX12_heardOf_11 (by decide) ?_
  refine lv_istore_n (pc := 12) (lv' := [(3, .int 0), (2, .int 0), (0, .ref th), (1, .int p0)]) hx hb dX12_heardOf_12 rfl hl (by decide) rfl (fun ls hl => ?_)
  obtain ⟨I_3, ⟨k0_3, h0_3⟩, hst_3⟩ := hp
  have kl_3 : ∀ (n_3 : Nat) (x2_4 : Int32) (x3_5 : Int32) (H : Heap) (locs : List Loc) (ls : Array Slot), I_3 n_3 x2_4 x3_5 → Hp G (FA S s.heap.size) s.heap (wI S F_2) H locs → lv_has ls 4 [(0, .ref th), (2, .int x2_4), (3, .int x3_5)] → Wm G p l e { frames := 2, cells := 0, slots := 0, locals := 51 } s m args below meth c S QQ 0 0 H locs 0 0 (F0 m 13 ls []) := by
    intro n_3
    induction n_3 using Nat.strongRecOn with
    | ind n_3 ih_3 =>
      intro x2_4 x3_5 H locs ls hq9 hH hl
      have hp := hst_3 n_3 x2_4 x3_5 hq9
      refine lv_iload_n (pc := 13) hx hb dX12_heardOf_13 rfl (lv_at hl 2 rfl) ?_
      refine lv_aload_n (pc := 14) hx hb dX12_heardOf_14 rfl (lv_at hl 0 rfl) ?_
      refine sx_getR (pc := 15) (j := 0) B hH hk_th coX12 rfl w_1304 rfl dX12_heardOf_15 ?_
      refine W.eq (g2 := F0 m 18 ls [va_rf (gR S th 0), .int x3_5]) rfl ?_
      obtain ⟨a_6, ha_6, hp⟩ := hp
      refine sx_nonnull (x := a_6) ha_6 ?_
      refine lv_iconst (pc := 18) (v := 0) hx hb dX12_heardOf_18 (by decide) ?_
      obtain ⟨hk_7, hp⟩ := hp
      obtain ⟨hn_8, hp⟩ := hp
      refine sx_iald (pc := 19) B hH hk_7 hn_8 dX12_heardOf_19 ?_
      refine W.eq (g2 := F0 m 20 ls [.int (F_2 a_6 0), .int x3_5]) rfl ?_
      refine lv_icmp_ge (pc := 20) (tgt := 62) hx hb dX12_heardOf_20 (by decide) (fun cc_9 => ?_) (fun cc_9 => ?_)
      · have hp := hp.1 cc_9
        refine lv_iload_n (pc := 62) hx hb dX12_heardOf_62 rfl (lv_at hl 1 rfl) ?_
        exact sx_iret (pc := 63) B hH hr hlk (by rw [← hQQ]; exact ⟨_, F_2, rfl, rfl, hp⟩) (Nat.le_of_ble_eq_true rfl) (Nat.le_of_ble_eq_true rfl) dX12_heardOf_63
      · have hp := hp.2 cc_9
        refine lv_aload_n (pc := 23) hx hb dX12_heardOf_23 rfl (lv_at hl 0 rfl) ?_
        refine sx_getR (pc := 24) (j := 0) B hH hk_th coX12 rfl w_1304 rfl dX12_heardOf_24 ?_
        refine W.eq (g2 := F0 m 27 ls [va_rf (gR S th 0)]) rfl ?_
        refine sx_nonnull (x := a_6) ha_6 ?_
        refine lv_iconst (pc := 27) (v := 3) hx hb dX12_heardOf_27 (by decide) ?_
        obtain ⟨hn_10, hp⟩ := hp
        refine sx_iald (pc := 28) B hH hk_7 hn_10 dX12_heardOf_28 ?_
        refine W.eq (g2 := F0 m 29 ls [.int (F_2 a_6 3)]) rfl ?_
        refine lv_aload_n (pc := 29) hx hb dX12_heardOf_29 rfl (lv_at hl 0 rfl) ?_
        refine sx_getR (pc := 30) (j := 24) B hH hk_th coX12 rfl w_1328 rfl dX12_heardOf_30 ?_
        refine W.eq (g2 := F0 m 33 ls [va_rf (gR S th 24), .int (F_2 a_6 3)]) rfl ?_
        refine sx_nonnull (x := a_1) ha_1 ?_
        refine lv_iload_n (pc := 33) hx hb dX12_heardOf_33 rfl (lv_at hl 2 rfl) ?_
        obtain ⟨hk_11, hp⟩ := hp
        obtain ⟨hn_12, hp⟩ := hp
        refine sx_iald (pc := 34) B hH hk_11 hn_12 dX12_heardOf_34 ?_
        refine W.eq (g2 := F0 m 35 ls [.int (F_2 a_1 x3_5.toNatClampNeg), .int (F_2 a_6 3)]) rfl ?_
        refine lv_ishr (pc := 35) hx hb dX12_heardOf_35 ?_
        refine W.eq (g2 := F0 m 36 ls [.int (shr (F_2 a_6 3) (F_2 a_1 x3_5.toNatClampNeg))]) rfl ?_
        refine lv_iconst (pc := 36) (v := 1) hx hb dX12_heardOf_36 (by decide) ?_
        refine lv_iand (pc := 37) hx hb dX12_heardOf_37 ?_
        refine lv_iconst (pc := 38) (v := 1) hx hb dX12_heardOf_38 (by decide) ?_
        refine lv_icmp_ne (pc := 39) (tgt := 56) hx hb dX12_heardOf_39 (by decide) (fun cc_13 => ?_) (fun cc_13 => ?_)
        · have hp := hp.1 cc_13
          obtain ⟨v_14, ev_14⟩ : ∃ y : Int32, y = x3_5 + 1 := ⟨_, rfl⟩
          have hp := hp v_14 ev_14
          refine lv_iinc (pc := 56) (v := v_14) (lv' := [(3, .int v_14), (0, .ref th), (2, .int x2_4)]) hx hb dX12_heardOf_56 hl (k := 2) rfl (by rw [ev_14]; rfl) (by decide) rfl (fun ls hl => ?_)
          refine lv_goto (pc := 59) (tgt := 13) hx hb dX12_heardOf_59 (by decide) ?_
          obtain ⟨k9, hlt9, hp⟩ := hp
          exact ih_3 k9 hlt9 _ _ _ _ _ hp hH (lv_sub hl [1, 2, 0] rfl)
        · have hp := hp.2 cc_13
          refine lv_bipush (pc := 42) (v := 9) hx hb dX12_heardOf_42 (by decide) ?_
          refine lv_iload_n (pc := 44) hx hb dX12_heardOf_44 rfl (lv_at hl 1 rfl) ?_
          refine lv_imul (pc := 45) hx hb dX12_heardOf_45 ?_
          refine lv_aload_n (pc := 46) hx hb dX12_heardOf_46 rfl (lv_at hl 0 rfl) ?_
          refine sx_getR (pc := 47) (j := 24) B hH hk_th coX12 rfl w_1328 rfl dX12_heardOf_47 ?_
          refine W.eq (g2 := F0 m 50 ls [va_rf (gR S th 24), .int (9 * x2_4)]) rfl ?_
          refine sx_nonnull (x := a_1) ha_1 ?_
          refine lv_iload_n (pc := 50) hx hb dX12_heardOf_50 rfl (lv_at hl 2 rfl) ?_
          refine sx_iald (pc := 51) B hH hk_11 hn_12 dX12_heardOf_51 ?_
          refine W.eq (g2 := F0 m 52 ls [.int (F_2 a_1 x3_5.toNatClampNeg), .int (9 * x2_4)]) rfl ?_
          refine lv_iadd (pc := 52) hx hb dX12_heardOf_52 ?_
          refine lv_iconst (pc := 53) (v := 1) hx hb dX12_heardOf_53 (by decide) ?_
          refine lv_iadd (pc := 54) hx hb dX12_heardOf_54 ?_
          refine lv_topi (fun v_15 ev_15 => ?_)
          have hp := hp v_15 ev_15
          refine lv_istore_n (pc := 55) (lv' := [(2, .int v_15), (0, .ref th), (3, .int x3_5)]) hx hb dX12_heardOf_55 rfl hl (by decide) rfl (fun ls hl => ?_)
          obtain ⟨v_16, ev_16⟩ : ∃ y : Int32, y = x3_5 + 1 := ⟨_, rfl⟩
          have hp := hp v_16 ev_16
          refine lv_iinc (pc := 56) (v := v_16) (lv' := [(3, .int v_16), (2, .int v_15), (0, .ref th)]) hx hb dX12_heardOf_56 hl (k := 2) rfl (by rw [ev_16]; rfl) (by decide) rfl (fun ls hl => ?_)
          refine lv_goto (pc := 59) (tgt := 13) hx hb dX12_heardOf_59 (by decide) ?_
          obtain ⟨k9, hlt9, hp⟩ := hp
          exact ih_3 k9 hlt9 _ _ _ _ _ hp hH (lv_sub hl [2, 1, 0] rfl)
  exact kl_3 k0_3 _ _ _ _ _ h0_3 hH (lv_sub hl [2, 1, 0] rfl)
theorem dX12_heardAlike_0 : decode cX12_heardAlike 0 = .ok (.aload_n 0, 1) := by decide +kernel
theorem dX12_heardAlike_1 : decode cX12_heardAlike 1 = .ok (.getfield 7, 3) := by decide +kernel
theorem dX12_heardAlike_4 : decode cX12_heardAlike 4 = .ok (.bipush 6, 2) := by decide +kernel
theorem dX12_heardAlike_6 : decode cX12_heardAlike 6 = .ok (.iaload, 1) := by decide +kernel
theorem dX12_heardAlike_7 : decode cX12_heardAlike 7 = .ok (.iconst (-1), 1) := by decide +kernel
theorem dX12_heardAlike_8 : decode cX12_heardAlike 8 = .ok (.if_icmp .ne 10, 3) := by decide +kernel
theorem dX12_heardAlike_11 : decode cX12_heardAlike 11 = .ok (.aload_n 0, 1) := by decide +kernel
theorem dX12_heardAlike_12 : decode cX12_heardAlike 12 = .ok (.bipush 6, 2) := by decide +kernel
theorem dX12_heardAlike_14 : decode cX12_heardAlike 14 = .ok (.invokevirtual 105, 3) := by decide +kernel
theorem dX12_heardAlike_17 : decode cX12_heardAlike 17 = .ok (.ireturn, 1) := by decide +kernel
theorem dX12_heardAlike_18 : decode cX12_heardAlike 18 = .ok (.iconst 0, 1) := by decide +kernel
theorem dX12_heardAlike_19 : decode cX12_heardAlike 19 = .ok (.istore_n 1, 1) := by decide +kernel
theorem dX12_heardAlike_20 : decode cX12_heardAlike 20 = .ok (.iconst 1, 1) := by decide +kernel
theorem dX12_heardAlike_21 : decode cX12_heardAlike 21 = .ok (.istore_n 2, 1) := by decide +kernel
theorem dX12_heardAlike_22 : decode cX12_heardAlike 22 = .ok (.iload_n 2, 1) := by decide +kernel
theorem dX12_heardAlike_23 : decode cX12_heardAlike 23 = .ok (.aload_n 0, 1) := by decide +kernel
theorem dX12_heardAlike_24 : decode cX12_heardAlike 24 = .ok (.getfield 7, 3) := by decide +kernel
theorem dX12_heardAlike_27 : decode cX12_heardAlike 27 = .ok (.bipush 6, 2) := by decide +kernel
theorem dX12_heardAlike_29 : decode cX12_heardAlike 29 = .ok (.iaload, 1) := by decide +kernel
theorem dX12_heardAlike_30 : decode cX12_heardAlike 30 = .ok (.if_icmp .gt 65, 3) := by decide +kernel
theorem dX12_heardAlike_33 : decode cX12_heardAlike 33 = .ok (.aload_n 0, 1) := by decide +kernel
theorem dX12_heardAlike_34 : decode cX12_heardAlike 34 = .ok (.getfield 69, 3) := by decide +kernel
theorem dX12_heardAlike_37 : decode cX12_heardAlike 37 = .ok (.iload_n 2, 1) := by decide +kernel
theorem dX12_heardAlike_38 : decode cX12_heardAlike 38 = .ok (.aload_n 0, 1) := by decide +kernel
theorem dX12_heardAlike_39 : decode cX12_heardAlike 39 = .ok (.aload_n 0, 1) := by decide +kernel
theorem dX12_heardAlike_40 : decode cX12_heardAlike 40 = .ok (.getfield 7, 3) := by decide +kernel
theorem dX12_heardAlike_43 : decode cX12_heardAlike 43 = .ok (.sipush 410, 3) := by decide +kernel
theorem dX12_heardAlike_46 : decode cX12_heardAlike 46 = .ok (.iload_n 2, 1) := by decide +kernel
theorem dX12_heardAlike_47 : decode cX12_heardAlike 47 = .ok (.iadd, 1) := by decide +kernel
theorem dX12_heardAlike_48 : decode cX12_heardAlike 48 = .ok (.iaload, 1) := by decide +kernel
theorem dX12_heardAlike_49 : decode cX12_heardAlike 49 = .ok (.invokevirtual 380, 3) := by decide +kernel
theorem dX12_heardAlike_52 : decode cX12_heardAlike 52 = .ok (.iastore, 1) := by decide +kernel
theorem dX12_heardAlike_53 : decode cX12_heardAlike 53 = .ok (.iconst 1, 1) := by decide +kernel
theorem dX12_heardAlike_54 : decode cX12_heardAlike 54 = .ok (.istore_n 3, 1) := by decide +kernel
theorem dX12_heardAlike_55 : decode cX12_heardAlike 55 = .ok (.aload_n 0, 1) := by decide +kernel
theorem dX12_heardAlike_56 : decode cX12_heardAlike 56 = .ok (.getfield 69, 3) := by decide +kernel
theorem dX12_heardAlike_59 : decode cX12_heardAlike 59 = .ok (.iload_n 3, 1) := by decide +kernel
theorem dX12_heardAlike_60 : decode cX12_heardAlike 60 = .ok (.iaload, 1) := by decide +kernel
theorem dX12_heardAlike_61 : decode cX12_heardAlike 61 = .ok (.aload_n 0, 1) := by decide +kernel
theorem dX12_heardAlike_62 : decode cX12_heardAlike 62 = .ok (.getfield 69, 3) := by decide +kernel
theorem dX12_heardAlike_65 : decode cX12_heardAlike 65 = .ok (.iload_n 2, 1) := by decide +kernel
theorem dX12_heardAlike_66 : decode cX12_heardAlike 66 = .ok (.iaload, 1) := by decide +kernel
theorem dX12_heardAlike_67 : decode cX12_heardAlike 67 = .ok (.if_icmp .eq 9, 3) := by decide +kernel
theorem dX12_heardAlike_70 : decode cX12_heardAlike 70 = .ok (.iinc 3 1, 3) := by decide +kernel
theorem dX12_heardAlike_73 : decode cX12_heardAlike 73 = .ok (.goto (-18), 3) := by decide +kernel
theorem dX12_heardAlike_76 : decode cX12_heardAlike 76 = .ok (.iload_n 1, 1) := by decide +kernel
theorem dX12_heardAlike_77 : decode cX12_heardAlike 77 = .ok (.iload_n 3, 1) := by decide +kernel
theorem dX12_heardAlike_78 : decode cX12_heardAlike 78 = .ok (.iload_n 2, 1) := by decide +kernel
theorem dX12_heardAlike_79 : decode cX12_heardAlike 79 = .ok (.if_icmp .ge 7, 3) := by decide +kernel
theorem dX12_heardAlike_82 : decode cX12_heardAlike 82 = .ok (.iconst 1, 1) := by decide +kernel
theorem dX12_heardAlike_83 : decode cX12_heardAlike 83 = .ok (.goto 4, 3) := by decide +kernel
theorem dX12_heardAlike_86 : decode cX12_heardAlike 86 = .ok (.iconst 0, 1) := by decide +kernel
theorem dX12_heardAlike_87 : decode cX12_heardAlike 87 = .ok (.iadd, 1) := by decide +kernel
theorem dX12_heardAlike_88 : decode cX12_heardAlike 88 = .ok (.istore_n 1, 1) := by decide +kernel
theorem dX12_heardAlike_89 : decode cX12_heardAlike 89 = .ok (.iinc 2 1, 3) := by decide +kernel
theorem dX12_heardAlike_92 : decode cX12_heardAlike 92 = .ok (.goto (-70), 3) := by decide +kernel
theorem dX12_heardAlike_95 : decode cX12_heardAlike 95 = .ok (.aload_n 0, 1) := by decide +kernel
theorem dX12_heardAlike_96 : decode cX12_heardAlike 96 = .ok (.iload_n 1, 1) := by decide +kernel
theorem dX12_heardAlike_97 : decode cX12_heardAlike 97 = .ok (.invokevirtual 109, 3) := by decide +kernel
theorem dX12_heardAlike_100 : decode cX12_heardAlike 100 = .ok (.ireturn, 1) := by decide +kernel
theorem mi_X12_heardAlike : MI yX12_heardAlike cX12_heardAlike 4 (some FieldType.int) 0 := ⟨w_1898, w_118, by decide +kernel, by decide +kernel, by decide +kernel⟩
set_option maxRecDepth 100000 in
set_option maxHeartbeats 4000000 in
theorem C_X12_heardAlike (G : GG) (l : Launch) (th : Nat) (S : St) (Q : Int32 → (Nat → Nat → Int32) → Prop) (hp : P_X12_heardAlike th S Q) : Ctr G l yX12_heardAlike cX12_heardAlike 4 (some FieldType.int) 3 74 0 0 [.ref th] S (fun (v : Option Value) (S9 : St) => ∃ (r : Int32) (I9 : Nat → Nat → Int32), v = some (.int r) ∧ S9 = wI S I9 ∧ Q r I9) := by
  generalize hQQ : (fun (v : Option Value) (S9 : St) => ∃ (r : Int32) (I9 : Nat → Nat → Int32), v = some (.int r) ∧ S9 = wI S I9 ∧ Q r I9) = QQ
  unfold P_X12_heardAlike at hp
  refine Ctr.of (by decide) (Nat.le_of_ble_eq_true rfl) ?_
  intro p e s m args below meth c ls B hr hlk hin hl hH
  generalize hlocs0 : ([] : List Loc) = locs at hH ⊢
  have hx := B.1
  have hb := B.2.1
  have hl : lv_has ls 4 [(0, .ref th)] := hl
  obtain ⟨hk_th, hp⟩ := hp
  refine lv_aload_n (pc := 0) hx hb dX12_heardAlike_0 rfl (lv_at hl 0 rfl) ?_
  refine sx_getR (pc := 1) (j := 0) B hH hk_th coX12 rfl w_1304 rfl dX12_heardAlike_1 ?_
  refine W.eq (g2 := F0 m 4 ls [va_rf (gR S th 0)]) rfl ?_
  obtain ⟨a_1, ha_1, hp⟩ := hp
  refine sx_nonnull (x := a_1) ha_1 ?_
  refine lv_bipush (pc := 4) (v := 6) hx hb dX12_heardAlike_4 (by decide) ?_
  obtain ⟨hk_2, hp⟩ := hp
  obtain ⟨hn_3, hp⟩ := hp
  refine sx_iald (pc := 6) B hH hk_2 hn_3 dX12_heardAlike_6 ?_
  refine W.eq (g2 := F0 m 7 ls [.int (gI S a_1 6)]) rfl ?_
  refine lv_iconst (pc := 7) (v := (-1)) hx hb dX12_heardAlike_7 (by decide) ?_
  refine lv_icmp_ne (pc := 8) (tgt := 18) hx hb dX12_heardAlike_8 (by decide) (fun cc_4 => ?_) (fun cc_4 => ?_)
  · have hp := hp.1 cc_4
    refine lv_iconst (pc := 18) (v := 0) hx hb dX12_heardAlike_18 (by decide) ?_
    refine lv_istore_n (pc := 19) (lv' := [(1, .int 0), (0, .ref th)]) hx hb dX12_heardAlike_19 rfl hl (by decide) rfl (fun ls hl => ?_)
    refine lv_iconst (pc := 20) (v := 1) hx hb dX12_heardAlike_20 (by decide) ?_
    refine lv_istore_n (pc := 21) (lv' := [(2, .int 1), (1, .int 0), (0, .ref th)]) hx hb dX12_heardAlike_21 rfl hl (by decide) rfl (fun ls hl => ?_)
    obtain ⟨I_5, ⟨k0_5, h0_5⟩, hst_5⟩ := hp
    have kl_5 : ∀ (n_5 : Nat) (x1_6 : Int32) (x2_7 : Int32) (F_8 : Nat → Nat → Int32) (H : Heap) (locs : List Loc) (ls : Array Slot), I_5 n_5 x1_6 x2_7 F_8 → Hp G (FA S s.heap.size) s.heap (wI S F_8) H locs → lv_has ls 4 [(0, .ref th), (1, .int x1_6), (2, .int x2_7)] → Wm G p l e { frames := 3, cells := 0, slots := 0, locals := 74 } s m args below meth c S QQ 0 0 H locs 0 0 (F0 m 22 ls []) := by
      intro n_5
      induction n_5 using Nat.strongRecOn with
      | ind n_5 ih_5 =>
        intro x1_6 x2_7 F_8 H locs ls hq9 hH hl
        have hp := hst_5 n_5 x1_6 x2_7 F_8 hq9
        refine lv_iload_n (pc := 22) hx hb dX12_heardAlike_22 rfl (lv_at hl 2 rfl) ?_
        refine lv_aload_n (pc := 23) hx hb dX12_heardAlike_23 rfl (lv_at hl 0 rfl) ?_
        refine sx_getR (pc := 24) (j := 0) B hH hk_th coX12 rfl w_1304 rfl dX12_heardAlike_24 ?_
        refine W.eq (g2 := F0 m 27 ls [va_rf (gR S th 0), .int x2_7]) rfl ?_
        refine sx_nonnull (x := a_1) ha_1 ?_
        refine lv_bipush (pc := 27) (v := 6) hx hb dX12_heardAlike_27 (by decide) ?_
        refine sx_iald (pc := 29) B hH hk_2 hn_3 dX12_heardAlike_29 ?_
        refine W.eq (g2 := F0 m 30 ls [.int (F_8 a_1 6), .int x2_7]) rfl ?_
        refine lv_icmp_gt (pc := 30) (tgt := 95) hx hb dX12_heardAlike_30 (by decide) (fun cc_9 => ?_) (fun cc_9 => ?_)
        · have hp := hp.1 cc_9
          refine lv_aload_n (pc := 95) hx hb dX12_heardAlike_95 rfl (lv_at hl 0 rfl) ?_
          refine lv_iload_n (pc := 96) hx hb dX12_heardAlike_96 rfl (lv_at hl 1 rfl) ?_
          refine sx_V (pc := 97) (As := [.int x1_6]) (rest := []) B hH hl.1 (C_X12_gives G l th x1_6 _ _ hp) mi_X12_gives coX12 hk_th w_1617 w_69 w_1615 rfl rfl ⟨Nat.le_of_ble_eq_true rfl, Nat.le_of_ble_eq_true rfl⟩ (Nat.le_of_ble_eq_true rfl) ⟨Nat.le_of_ble_eq_true rfl, Nat.le_of_ble_eq_true rfl⟩ dX12_heardAlike_97 (fun v S1 H locs hq hH => ?_)
          obtain ⟨r_10, F_10, rfl, e9, hp⟩ := hq
          rw [e9] at hH
          have hH : Hp G (FA S s.heap.size) s.heap (wI S F_10) H locs := hH
          refine W.eq (g2 := F0 m 100 ls [.int r_10]) rfl ?_
          exact sx_iret (pc := 100) B hH hr hlk (by rw [← hQQ]; exact ⟨_, F_10, rfl, rfl, hp⟩) (Nat.le_of_ble_eq_true rfl) (Nat.le_of_ble_eq_true rfl) dX12_heardAlike_100
        · have hp := hp.2 cc_9
          refine lv_aload_n (pc := 33) hx hb dX12_heardAlike_33 rfl (lv_at hl 0 rfl) ?_
          refine sx_getR (pc := 34) (j := 37) B hH hk_th coX12 rfl w_1341 rfl dX12_heardAlike_34 ?_
          refine W.eq (g2 := F0 m 37 ls [va_rf (gR S th 37)]) rfl ?_
          obtain ⟨a_11, ha_11, hp⟩ := hp
          refine sx_nonnull (x := a_11) ha_11 ?_
          refine lv_iload_n (pc := 37) hx hb dX12_heardAlike_37 rfl (lv_at hl 2 rfl) ?_
          refine lv_aload_n (pc := 38) hx hb dX12_heardAlike_38 rfl (lv_at hl 0 rfl) ?_
          refine lv_aload_n (pc := 39) hx hb dX12_heardAlike_39 rfl (lv_at hl 0 rfl) ?_
          refine sx_getR (pc := 40) (j := 0) B hH hk_th coX12 rfl w_1304 rfl dX12_heardAlike_40 ?_
          refine W.eq (g2 := F0 m 43 ls [va_rf (gR S th 0), .ref th, .int x2_7, .ref a_11]) rfl ?_
          refine sx_nonnull (x := a_1) ha_1 ?_
          refine lv_sipush (pc := 43) (v := 410) hx hb dX12_heardAlike_43 (by decide) ?_
          refine lv_iload_n (pc := 46) hx hb dX12_heardAlike_46 rfl (lv_at hl 2 rfl) ?_
          refine lv_iadd (pc := 47) hx hb dX12_heardAlike_47 ?_
          obtain ⟨hn_12, hp⟩ := hp
          refine sx_iald (pc := 48) B hH hk_2 hn_12 dX12_heardAlike_48 ?_
          refine W.eq (g2 := F0 m 49 ls [.int (F_8 a_1 ((410 + x2_7).toNatClampNeg)), .ref th, .int x2_7, .ref a_11]) rfl ?_
          refine sx_V (pc := 49) (As := [.int (F_8 a_1 ((410 + x2_7).toNatClampNeg))]) (rest := [.int x2_7, .ref a_11]) B hH hl.1 (C_X12_heardOf G l th (F_8 a_1 ((410 + x2_7).toNatClampNeg)) _ _ hp) mi_X12_heardOf coX12 hk_th w_1901 w_99 w_1899 rfl rfl ⟨Nat.le_of_ble_eq_true rfl, Nat.le_of_ble_eq_true rfl⟩ (Nat.le_of_ble_eq_true rfl) ⟨Nat.le_of_ble_eq_true rfl, Nat.le_of_ble_eq_true rfl⟩ dX12_heardAlike_49 (fun v S1 H locs hq hH => ?_)
          obtain ⟨r_13, F_13, rfl, e9, hp⟩ := hq
          rw [e9] at hH
          have hH : Hp G (FA S s.heap.size) s.heap (wI S F_13) H locs := hH
          refine W.eq (g2 := F0 m 52 ls [.int r_13, .int x2_7, .ref a_11]) rfl ?_
          obtain ⟨hk_14, hp⟩ := hp
          obtain ⟨hn_15, hp⟩ := hp
          obtain ⟨F_16, eF_16⟩ : ∃ z : Nat → Nat → Int32, z = upI F_13 a_11 x2_7.toNatClampNeg r_13 := ⟨_, rfl⟩
          have hp := hp F_16 eF_16
          refine sx_iast (pc := 52) B hH hk_14 hn_15 dX12_heardAlike_52 (fun H locs hH => ?_)
          have hH : Hp G (FA S s.heap.size) s.heap (wI S F_16) H locs := by rw [eF_16]; exact hH
          refine lv_iconst (pc := 53) (v := 1) hx hb dX12_heardAlike_53 (by decide) ?_
          refine lv_istore_n (pc := 54) (lv' := [(3, .int 1), (0, .ref th), (1, .int x1_6), (2, .int x2_7)]) hx hb dX12_heardAlike_54 rfl hl (by decide) rfl (fun ls hl => ?_)
          obtain ⟨I_17, ⟨k0_17, h0_17⟩, hst_17⟩ := hp
          have kl_17 : ∀ (n_17 : Nat) (x3_18 : Int32) (H : Heap) (locs : List Loc) (ls : Array Slot), I_17 n_17 x3_18 → Hp G (FA S s.heap.size) s.heap (wI S F_16) H locs → lv_has ls 4 [(0, .ref th), (1, .int x1_6), (2, .int x2_7), (3, .int x3_18)] → Wm G p l e { frames := 3, cells := 0, slots := 0, locals := 74 } s m args below meth c S QQ 0 0 H locs 0 0 (F0 m 55 ls []) := by
            intro n_17
            induction n_17 using Nat.strongRecOn with
            | ind n_17 ih_17 =>
              intro x3_18 H locs ls hq9 hH hl
              have hp := hst_17 n_17 x3_18 hq9
              refine lv_aload_n (pc := 55) hx hb dX12_heardAlike_55 rfl (lv_at hl 0 rfl) ?_
              refine sx_getR (pc := 56) (j := 37) B hH hk_th coX12 rfl w_1341 rfl dX12_heardAlike_56 ?_
              refine W.eq (g2 := F0 m 59 ls [va_rf (gR S th 37)]) rfl ?_
              refine sx_nonnull (x := a_11) ha_11 ?_
              refine lv_iload_n (pc := 59) hx hb dX12_heardAlike_59 rfl (lv_at hl 3 rfl) ?_
              obtain ⟨hn_19, hp⟩ := hp
              refine sx_iald (pc := 60) B hH hk_14 hn_19 dX12_heardAlike_60 ?_
              refine W.eq (g2 := F0 m 61 ls [.int (F_16 a_11 x3_18.toNatClampNeg)]) rfl ?_
              refine lv_aload_n (pc := 61) hx hb dX12_heardAlike_61 rfl (lv_at hl 0 rfl) ?_
              refine sx_getR (pc := 62) (j := 37) B hH hk_th coX12 rfl w_1341 rfl dX12_heardAlike_62 ?_
              refine W.eq (g2 := F0 m 65 ls [va_rf (gR S th 37), .int (F_16 a_11 x3_18.toNatClampNeg)]) rfl ?_
              refine sx_nonnull (x := a_11) ha_11 ?_
              refine lv_iload_n (pc := 65) hx hb dX12_heardAlike_65 rfl (lv_at hl 2 rfl) ?_
              refine sx_iald (pc := 66) B hH hk_14 hn_15 dX12_heardAlike_66 ?_
              refine W.eq (g2 := F0 m 67 ls [.int (F_16 a_11 x2_7.toNatClampNeg), .int (F_16 a_11 x3_18.toNatClampNeg)]) rfl ?_
              refine lv_icmp_eq (pc := 67) (tgt := 76) hx hb dX12_heardAlike_67 (by decide) (fun cc_20 => ?_) (fun cc_20 => ?_)
              · have hp := hp.1 cc_20
                refine lv_iload_n (pc := 76) hx hb dX12_heardAlike_76 rfl (lv_at hl 1 rfl) ?_
                refine lv_iload_n (pc := 77) hx hb dX12_heardAlike_77 rfl (lv_at hl 3 rfl) ?_
                refine lv_iload_n (pc := 78) hx hb dX12_heardAlike_78 rfl (lv_at hl 2 rfl) ?_
                refine lv_icmp_ge (pc := 79) (tgt := 86) hx hb dX12_heardAlike_79 (by decide) (fun cc_21 => ?_) (fun cc_21 => ?_)
                · have hp := hp.1 cc_21
                  refine lv_iconst (pc := 86) (v := 0) hx hb dX12_heardAlike_86 (by decide) ?_
                  refine lv_iadd (pc := 87) hx hb dX12_heardAlike_87 ?_
                  refine lv_topi (fun v_22 ev_22 => ?_)
                  have hp := hp v_22 ev_22
                  refine lv_istore_n (pc := 88) (lv' := [(1, .int v_22), (0, .ref th), (2, .int x2_7), (3, .int x3_18)]) hx hb dX12_heardAlike_88 rfl hl (by decide) rfl (fun ls hl => ?_)
                  obtain ⟨v_23, ev_23⟩ : ∃ y : Int32, y = x2_7 + 1 := ⟨_, rfl⟩
                  have hp := hp v_23 ev_23
                  refine lv_iinc (pc := 89) (v := v_23) (lv' := [(2, .int v_23), (1, .int v_22), (0, .ref th), (3, .int x3_18)]) hx hb dX12_heardAlike_89 hl (k := 2) rfl (by rw [ev_23]; rfl) (by decide) rfl (fun ls hl => ?_)
                  refine lv_goto (pc := 92) (tgt := 22) hx hb dX12_heardAlike_92 (by decide) ?_
                  obtain ⟨k9, hlt9, hp⟩ := hp
                  exact ih_5 k9 hlt9 _ _ _ _ _ _ hp hH (lv_sub hl [2, 1, 0] rfl)
                · have hp := hp.2 cc_21
                  refine lv_iconst (pc := 82) (v := 1) hx hb dX12_heardAlike_82 (by decide) ?_
                  refine lv_goto (pc := 83) (tgt := 87) hx hb dX12_heardAlike_83 (by decide) ?_
                  refine lv_iadd (pc := 87) hx hb dX12_heardAlike_87 ?_
                  refine lv_topi (fun v_24 ev_24 => ?_)
                  have hp := hp v_24 ev_24
                  refine lv_istore_n (pc := 88) (lv' := [(1, .int v_24), (0, .ref th), (2, .int x2_7), (3, .int x3_18)]) hx hb dX12_heardAlike_88 rfl hl (by decide) rfl (fun ls hl => ?_)
                  obtain ⟨v_25, ev_25⟩ : ∃ y : Int32, y = x2_7 + 1 := ⟨_, rfl⟩
                  have hp := hp v_25 ev_25
                  refine lv_iinc (pc := 89) (v := v_25) (lv' := [(2, .int v_25), (1, .int v_24), (0, .ref th), (3, .int x3_18)]) hx hb dX12_heardAlike_89 hl (k := 2) rfl (by rw [ev_25]; rfl) (by decide) rfl (fun ls hl => ?_)
                  refine lv_goto (pc := 92) (tgt := 22) hx hb dX12_heardAlike_92 (by decide) ?_
                  obtain ⟨k9, hlt9, hp⟩ := hp
                  exact ih_5 k9 hlt9 _ _ _ _ _ _ hp hH (lv_sub hl [2, 1, 0] rfl)
              · have hp := hp.2 cc_20
                obtain ⟨v_26, ev_26⟩ : ∃ y : Int32, y = x3_18 + 1 := ⟨_, rfl⟩
                have hp := hp v_26 ev_26
                refine lv_iinc (pc := 70) (v := v_26) (lv' := [(3, .int v_26), (0, .ref th), (1, .int x1_6), (2, .int x2_7)]) hx hb dX12_heardAlike_70 hl (k := 3) rfl (by rw [ev_26]; rfl) (by decide) rfl (fun ls hl => ?_)
                refine lv_goto (pc := 73) (tgt := 55) hx hb dX12_heardAlike_73 (by decide) ?_
                obtain ⟨k9, hlt9, hp⟩ := hp
                exact ih_17 k9 hlt9 _ _ _ _ hp hH (lv_sub hl [1, 2, 3, 0] rfl)
          exact kl_17 k0_17 _ _ _ _ h0_17 hH (lv_sub hl [1, 2, 3, 0] rfl)
    exact kl_5 k0_5 _ _ _ _ _ _ h0_5 hH (lv_sub hl [2, 1, 0] rfl)
  · have hp := hp.2 cc_4
    refine lv_aload_n (pc := 11) hx hb dX12_heardAlike_11 rfl (lv_at hl 0 rfl) ?_
    refine lv_bipush (pc := 12) (v := 6) hx hb dX12_heardAlike_12 (by decide) ?_
    refine sx_V (pc := 14) (As := [.int 6]) (rest := []) B hH hl.1 (C_X12_refuse G l th 6 _ _ hp) mi_X12_refuse coX12 hk_th w_1539 w_51 w_1537 rfl rfl ⟨Nat.le_of_ble_eq_true rfl, Nat.le_of_ble_eq_true rfl⟩ (Nat.le_of_ble_eq_true rfl) ⟨Nat.le_of_ble_eq_true rfl, Nat.le_of_ble_eq_true rfl⟩ dX12_heardAlike_14 (fun v S1 H locs hq hH => ?_)
    obtain ⟨r_27, F_27, rfl, e9, hp⟩ := hq
    rw [e9] at hH
    have hH : Hp G (FA S s.heap.size) s.heap (wI S F_27) H locs := hH
    refine W.eq (g2 := F0 m 17 ls [.int r_27]) rfl ?_
    exact sx_iret (pc := 17) B hH hr hlk (by rw [← hQQ]; exact ⟨_, F_27, rfl, rfl, hp⟩) (Nat.le_of_ble_eq_true rfl) (Nat.le_of_ble_eq_true rfl) dX12_heardAlike_17
theorem dX12_evens_0 : decode cX12_evens 0 = .ok (.aload_n 0, 1) := by decide +kernel
theorem dX12_evens_1 : decode cX12_evens 1 = .ok (.getfield 7, 3) := by decide +kernel
theorem dX12_evens_4 : decode cX12_evens 4 = .ok (.bipush 6, 2) := by decide +kernel
theorem dX12_evens_6 : decode cX12_evens 6 = .ok (.iaload, 1) := by decide +kernel
theorem dX12_evens_7 : decode cX12_evens 7 = .ok (.ifCond .gt 10, 3) := by decide +kernel
theorem dX12_evens_10 : decode cX12_evens 10 = .ok (.aload_n 0, 1) := by decide +kernel
theorem dX12_evens_11 : decode cX12_evens 11 = .ok (.bipush 6, 2) := by decide +kernel
theorem dX12_evens_13 : decode cX12_evens 13 = .ok (.invokevirtual 112, 3) := by decide +kernel
theorem dX12_evens_16 : decode cX12_evens 16 = .ok (.ireturn, 1) := by decide +kernel
theorem dX12_evens_17 : decode cX12_evens 17 = .ok (.iconst 0, 1) := by decide +kernel
theorem dX12_evens_18 : decode cX12_evens 18 = .ok (.istore_n 1, 1) := by decide +kernel
theorem dX12_evens_19 : decode cX12_evens 19 = .ok (.iconst 1, 1) := by decide +kernel
theorem dX12_evens_20 : decode cX12_evens 20 = .ok (.istore_n 2, 1) := by decide +kernel
theorem dX12_evens_21 : decode cX12_evens 21 = .ok (.iload_n 2, 1) := by decide +kernel
theorem dX12_evens_22 : decode cX12_evens 22 = .ok (.aload_n 0, 1) := by decide +kernel
theorem dX12_evens_23 : decode cX12_evens 23 = .ok (.getfield 7, 3) := by decide +kernel
theorem dX12_evens_26 : decode cX12_evens 26 = .ok (.bipush 6, 2) := by decide +kernel
theorem dX12_evens_28 : decode cX12_evens 28 = .ok (.iaload, 1) := by decide +kernel
theorem dX12_evens_29 : decode cX12_evens 29 = .ok (.if_icmp .gt 34, 3) := by decide +kernel
theorem dX12_evens_32 : decode cX12_evens 32 = .ok (.iload_n 1, 1) := by decide +kernel
theorem dX12_evens_33 : decode cX12_evens 33 = .ok (.aload_n 0, 1) := by decide +kernel
theorem dX12_evens_34 : decode cX12_evens 34 = .ok (.aload_n 0, 1) := by decide +kernel
theorem dX12_evens_35 : decode cX12_evens 35 = .ok (.getfield 7, 3) := by decide +kernel
theorem dX12_evens_38 : decode cX12_evens 38 = .ok (.sipush 410, 3) := by decide +kernel
theorem dX12_evens_41 : decode cX12_evens 41 = .ok (.iload_n 2, 1) := by decide +kernel
theorem dX12_evens_42 : decode cX12_evens 42 = .ok (.iadd, 1) := by decide +kernel
theorem dX12_evens_43 : decode cX12_evens 43 = .ok (.iaload, 1) := by decide +kernel
theorem dX12_evens_44 : decode cX12_evens 44 = .ok (.invokevirtual 296, 3) := by decide +kernel
theorem dX12_evens_47 : decode cX12_evens 47 = .ok (.ifCond .eq 7, 3) := by decide +kernel
theorem dX12_evens_50 : decode cX12_evens 50 = .ok (.iconst 1, 1) := by decide +kernel
theorem dX12_evens_51 : decode cX12_evens 51 = .ok (.goto 4, 3) := by decide +kernel
theorem dX12_evens_54 : decode cX12_evens 54 = .ok (.iconst 0, 1) := by decide +kernel
theorem dX12_evens_55 : decode cX12_evens 55 = .ok (.iadd, 1) := by decide +kernel
theorem dX12_evens_56 : decode cX12_evens 56 = .ok (.istore_n 1, 1) := by decide +kernel
theorem dX12_evens_57 : decode cX12_evens 57 = .ok (.iinc 2 1, 3) := by decide +kernel
theorem dX12_evens_60 : decode cX12_evens 60 = .ok (.goto (-39), 3) := by decide +kernel
theorem dX12_evens_63 : decode cX12_evens 63 = .ok (.aload_n 0, 1) := by decide +kernel
theorem dX12_evens_64 : decode cX12_evens 64 = .ok (.iload_n 1, 1) := by decide +kernel
theorem dX12_evens_65 : decode cX12_evens 65 = .ok (.i2l, 1) := by decide +kernel
theorem dX12_evens_66 : decode cX12_evens 66 = .ok (.aload_n 0, 1) := by decide +kernel
theorem dX12_evens_67 : decode cX12_evens 67 = .ok (.getfield 7, 3) := by decide +kernel
theorem dX12_evens_70 : decode cX12_evens 70 = .ok (.bipush 6, 2) := by decide +kernel
theorem dX12_evens_72 : decode cX12_evens 72 = .ok (.iaload, 1) := by decide +kernel
theorem dX12_evens_73 : decode cX12_evens 73 = .ok (.i2l, 1) := by decide +kernel
theorem dX12_evens_74 : decode cX12_evens 74 = .ok (.invokevirtual 383, 3) := by decide +kernel
theorem dX12_evens_77 : decode cX12_evens 77 = .ok (.ireturn, 1) := by decide +kernel
theorem mi_X12_evens : MI yX12_evens cX12_evens 3 (some FieldType.boolean) 0 := ⟨w_1906, w_118, by decide +kernel, by decide +kernel, by decide +kernel⟩
set_option maxRecDepth 100000 in
set_option maxHeartbeats 4000000 in
theorem C_X12_evens (G : GG) (l : Launch) (th : Nat) (S : St) (Q : Int32 → (Nat → Nat → Int32) → (Nat → Nat → Int64) → Prop) (hp : P_X12_evens th S Q) : Ctr G l yX12_evens cX12_evens 3 (some FieldType.boolean) 3 75 0 0 [.ref th] S (fun (v : Option Value) (S9 : St) => ∃ (r : Int32) (I9 : Nat → Nat → Int32) (J9 : Nat → Nat → Int64), v = some (.int r) ∧ S9 = wA S I9 J9 (gR S) ∧ Q r I9 J9) := by
  generalize hQQ : (fun (v : Option Value) (S9 : St) => ∃ (r : Int32) (I9 : Nat → Nat → Int32) (J9 : Nat → Nat → Int64), v = some (.int r) ∧ S9 = wA S I9 J9 (gR S) ∧ Q r I9 J9) = QQ
  unfold P_X12_evens at hp
  refine Ctr.of (by decide) (Nat.le_of_ble_eq_true rfl) ?_
  intro p e s m args below meth c ls B hr hlk hin hl hH
  generalize hlocs0 : ([] : List Loc) = locs at hH ⊢
  have hx := B.1
  have hb := B.2.1
  have hl : lv_has ls 3 [(0, .ref th)] := hl
  obtain ⟨hk_th, hp⟩ := hp
  refine lv_aload_n (pc := 0) hx hb dX12_evens_0 rfl (lv_at hl 0 rfl) ?_
  refine sx_getR (pc := 1) (j := 0) B hH hk_th coX12 rfl w_1304 rfl dX12_evens_1 ?_
  refine W.eq (g2 := F0 m 4 ls [va_rf (gR S th 0)]) rfl ?_
  obtain ⟨a_1, ha_1, hp⟩ := hp
  refine sx_nonnull (x := a_1) ha_1 ?_
  refine lv_bipush (pc := 4) (v := 6) hx hb dX12_evens_4 (by decide) ?_
  obtain ⟨hk_2, hp⟩ := hp
  obtain ⟨hn_3, hp⟩ := hp
  refine sx_iald (pc := 6) B hH hk_2 hn_3 dX12_evens_6 ?_
  refine W.eq (g2 := F0 m 7 ls [.int (gI S a_1 6)]) rfl ?_
  refine lv_if_gt (pc := 7) (tgt := 17) hx hb dX12_evens_7 (by decide) (fun cc_4 => ?_) (fun cc_4 => ?_)
  · have hp := hp.1 cc_4
    refine lv_iconst (pc := 17) (v := 0) hx hb dX12_evens_17 (by decide) ?_
    refine lv_istore_n (pc := 18) (lv' := [(1, .int 0), (0, .ref th)]) hx hb dX12_evens_18 rfl hl (by decide) rfl (fun ls hl => ?_)
    refine lv_iconst (pc := 19) (v := 1) hx hb dX12_evens_19 (by decide) ?_
    refine lv_istore_n (pc := 20) (lv' := [(2, .int 1), (1, .int 0), (0, .ref th)]) hx hb dX12_evens_20 rfl hl (by decide) rfl (fun ls hl => ?_)
    obtain ⟨I_5, ⟨k0_5, h0_5⟩, hst_5⟩ := hp
    have kl_5 : ∀ (n_5 : Nat) (x1_6 : Int32) (x2_7 : Int32) (F_8 : Nat → Nat → Int32) (H : Heap) (locs : List Loc) (ls : Array Slot), I_5 n_5 x1_6 x2_7 F_8 → Hp G (FA S s.heap.size) s.heap (wI S F_8) H locs → lv_has ls 3 [(0, .ref th), (1, .int x1_6), (2, .int x2_7)] → Wm G p l e { frames := 3, cells := 0, slots := 0, locals := 75 } s m args below meth c S QQ 0 0 H locs 0 0 (F0 m 21 ls []) := by
      intro n_5
      induction n_5 using Nat.strongRecOn with
      | ind n_5 ih_5 =>
        intro x1_6 x2_7 F_8 H locs ls hq9 hH hl
        have hp := hst_5 n_5 x1_6 x2_7 F_8 hq9
        refine lv_iload_n (pc := 21) hx hb dX12_evens_21 rfl (lv_at hl 2 rfl) ?_
        refine lv_aload_n (pc := 22) hx hb dX12_evens_22 rfl (lv_at hl 0 rfl) ?_
        refine sx_getR (pc := 23) (j := 0) B hH hk_th coX12 rfl w_1304 rfl dX12_evens_23 ?_
        refine W.eq (g2 := F0 m 26 ls [va_rf (gR S th 0), .int x2_7]) rfl ?_
        refine sx_nonnull (x := a_1) ha_1 ?_
        refine lv_bipush (pc := 26) (v := 6) hx hb dX12_evens_26 (by decide) ?_
        refine sx_iald (pc := 28) B hH hk_2 hn_3 dX12_evens_28 ?_
        refine W.eq (g2 := F0 m 29 ls [.int (F_8 a_1 6), .int x2_7]) rfl ?_
        refine lv_icmp_gt (pc := 29) (tgt := 63) hx hb dX12_evens_29 (by decide) (fun cc_9 => ?_) (fun cc_9 => ?_)
        · have hp := hp.1 cc_9
          refine lv_aload_n (pc := 63) hx hb dX12_evens_63 rfl (lv_at hl 0 rfl) ?_
          refine lv_iload_n (pc := 64) hx hb dX12_evens_64 rfl (lv_at hl 1 rfl) ?_
          refine lv_i2l (pc := 65) (v := x1_6.toInt64) hx hb dX12_evens_65 rfl ?_
          refine lv_aload_n (pc := 66) hx hb dX12_evens_66 rfl (lv_at hl 0 rfl) ?_
          refine sx_getR (pc := 67) (j := 0) B hH hk_th coX12 rfl w_1304 rfl dX12_evens_67 ?_
          refine W.eq (g2 := F0 m 70 ls [va_rf (gR S th 0), .long x1_6.toInt64, .ref th]) rfl ?_
          refine sx_nonnull (x := a_1) ha_1 ?_
          refine lv_bipush (pc := 70) (v := 6) hx hb dX12_evens_70 (by decide) ?_
          refine sx_iald (pc := 72) B hH hk_2 hn_3 dX12_evens_72 ?_
          refine W.eq (g2 := F0 m 73 ls [.int (F_8 a_1 6), .long x1_6.toInt64, .ref th]) rfl ?_
          refine lv_i2l (pc := 73) (v := (F_8 a_1 6).toInt64) hx hb dX12_evens_73 rfl ?_
          refine sx_V (pc := 74) (As := [.long x1_6.toInt64, .long ((F_8 a_1 6).toInt64)]) (rest := []) B hH hl.1 (C_X12_tellsBy G l th x1_6.toInt64 ((F_8 a_1 6).toInt64) _ _ hp) mi_X12_tellsBy coX12 hk_th w_1909 w_100 w_1907 rfl rfl ⟨Nat.le_of_ble_eq_true rfl, Nat.le_of_ble_eq_true rfl⟩ (Nat.le_of_ble_eq_true rfl) ⟨Nat.le_of_ble_eq_true rfl, Nat.le_of_ble_eq_true rfl⟩ dX12_evens_74 (fun v S1 H locs hq hH => ?_)
          obtain ⟨r_10, F_10, J_10, rfl, e9, hp⟩ := hq
          rw [e9] at hH
          have hH : Hp G (FA S s.heap.size) s.heap (wA S F_10 J_10 (gR S)) H locs := hH
          refine W.eq (g2 := F0 m 77 ls [.int r_10]) rfl ?_
          obtain ⟨hz, hp⟩ := hp
          exact sx_zret (pc := 77) B hH hr hlk hz (by rw [← hQQ]; exact ⟨_, F_10, J_10, rfl, rfl, hp⟩) (Nat.le_of_ble_eq_true rfl) (Nat.le_of_ble_eq_true rfl) dX12_evens_77
        · have hp := hp.2 cc_9
          refine lv_iload_n (pc := 32) hx hb dX12_evens_32 rfl (lv_at hl 1 rfl) ?_
          refine lv_aload_n (pc := 33) hx hb dX12_evens_33 rfl (lv_at hl 0 rfl) ?_
          refine lv_aload_n (pc := 34) hx hb dX12_evens_34 rfl (lv_at hl 0 rfl) ?_
          refine sx_getR (pc := 35) (j := 0) B hH hk_th coX12 rfl w_1304 rfl dX12_evens_35 ?_
          refine W.eq (g2 := F0 m 38 ls [va_rf (gR S th 0), .ref th, .int x1_6]) rfl ?_
          refine sx_nonnull (x := a_1) ha_1 ?_
          refine lv_sipush (pc := 38) (v := 410) hx hb dX12_evens_38 (by decide) ?_
          refine lv_iload_n (pc := 41) hx hb dX12_evens_41 rfl (lv_at hl 2 rfl) ?_
          refine lv_iadd (pc := 42) hx hb dX12_evens_42 ?_
          obtain ⟨hn_11, hp⟩ := hp
          refine sx_iald (pc := 43) B hH hk_2 hn_11 dX12_evens_43 ?_
          refine W.eq (g2 := F0 m 44 ls [.int (F_8 a_1 ((410 + x2_7).toNatClampNeg)), .ref th, .int x1_6]) rfl ?_
          refine sx_V (pc := 44) (As := [.int (F_8 a_1 ((410 + x2_7).toNatClampNeg))]) (rest := [.int x1_6]) B hH hl.1 (C_X12_isEven G l th (F_8 a_1 ((410 + x2_7).toNatClampNeg)) _ _ hp) mi_X12_isEven coX12 hk_th w_1700 w_81 w_1698 rfl rfl ⟨Nat.le_of_ble_eq_true rfl, Nat.le_of_ble_eq_true rfl⟩ (Nat.le_of_ble_eq_true rfl) ⟨Nat.le_of_ble_eq_true rfl, Nat.le_of_ble_eq_true rfl⟩ dX12_evens_44 (fun v S1 H locs hq hH => ?_)
          obtain ⟨r_12, F_12, rfl, e9, hp⟩ := hq
          rw [e9] at hH
          have hH : Hp G (FA S s.heap.size) s.heap (wI S F_12) H locs := hH
          refine W.eq (g2 := F0 m 47 ls [.int r_12, .int x1_6]) rfl ?_
          refine lv_if_eq (pc := 47) (tgt := 54) hx hb dX12_evens_47 (by decide) (fun cc_13 => ?_) (fun cc_13 => ?_)
          · have hp := hp.1 cc_13
            refine lv_iconst (pc := 54) (v := 0) hx hb dX12_evens_54 (by decide) ?_
            refine lv_iadd (pc := 55) hx hb dX12_evens_55 ?_
            refine lv_topi (fun v_14 ev_14 => ?_)
            have hp := hp v_14 ev_14
            refine lv_istore_n (pc := 56) (lv' := [(1, .int v_14), (0, .ref th), (2, .int x2_7)]) hx hb dX12_evens_56 rfl hl (by decide) rfl (fun ls hl => ?_)
            obtain ⟨v_15, ev_15⟩ : ∃ y : Int32, y = x2_7 + 1 := ⟨_, rfl⟩
            have hp := hp v_15 ev_15
            refine lv_iinc (pc := 57) (v := v_15) (lv' := [(2, .int v_15), (1, .int v_14), (0, .ref th)]) hx hb dX12_evens_57 hl (k := 2) rfl (by rw [ev_15]; rfl) (by decide) rfl (fun ls hl => ?_)
            refine lv_goto (pc := 60) (tgt := 21) hx hb dX12_evens_60 (by decide) ?_
            obtain ⟨k9, hlt9, hp⟩ := hp
            exact ih_5 k9 hlt9 _ _ _ _ _ _ hp hH (lv_sub hl [2, 1, 0] rfl)
          · have hp := hp.2 cc_13
            refine lv_iconst (pc := 50) (v := 1) hx hb dX12_evens_50 (by decide) ?_
            refine lv_goto (pc := 51) (tgt := 55) hx hb dX12_evens_51 (by decide) ?_
            refine lv_iadd (pc := 55) hx hb dX12_evens_55 ?_
            refine lv_topi (fun v_16 ev_16 => ?_)
            have hp := hp v_16 ev_16
            refine lv_istore_n (pc := 56) (lv' := [(1, .int v_16), (0, .ref th), (2, .int x2_7)]) hx hb dX12_evens_56 rfl hl (by decide) rfl (fun ls hl => ?_)
            obtain ⟨v_17, ev_17⟩ : ∃ y : Int32, y = x2_7 + 1 := ⟨_, rfl⟩
            have hp := hp v_17 ev_17
            refine lv_iinc (pc := 57) (v := v_17) (lv' := [(2, .int v_17), (1, .int v_16), (0, .ref th)]) hx hb dX12_evens_57 hl (k := 2) rfl (by rw [ev_17]; rfl) (by decide) rfl (fun ls hl => ?_)
            refine lv_goto (pc := 60) (tgt := 21) hx hb dX12_evens_60 (by decide) ?_
            obtain ⟨k9, hlt9, hp⟩ := hp
            exact ih_5 k9 hlt9 _ _ _ _ _ _ hp hH (lv_sub hl [2, 1, 0] rfl)
    exact kl_5 k0_5 _ _ _ _ _ _ h0_5 hH (lv_sub hl [2, 1, 0] rfl)
  · have hp := hp.2 cc_4
    refine lv_aload_n (pc := 10) hx hb dX12_evens_10 rfl (lv_at hl 0 rfl) ?_
    refine lv_bipush (pc := 11) (v := 6) hx hb dX12_evens_11 (by decide) ?_
    refine sx_V (pc := 13) (As := [.int 6]) (rest := []) B hH hl.1 (C_X12_is G l th 6 _ _ hp) mi_X12_is coX12 hk_th w_1479 w_45 w_1477 rfl rfl ⟨Nat.le_of_ble_eq_true rfl, Nat.le_of_ble_eq_true rfl⟩ (Nat.le_of_ble_eq_true rfl) ⟨Nat.le_of_ble_eq_true rfl, Nat.le_of_ble_eq_true rfl⟩ dX12_evens_13 (fun v S1 H locs hq hH => ?_)
    obtain ⟨r_18, F_18, rfl, e9, hp⟩ := hq
    rw [e9] at hH
    have hH : Hp G (FA S s.heap.size) s.heap (wI S F_18) H locs := hH
    refine W.eq (g2 := F0 m 16 ls [.int r_18]) rfl ?_
    obtain ⟨hz, hp⟩ := hp
    exact sx_zret (pc := 16) B hH hr hlk hz (by rw [← hQQ]; exact ⟨_, F_18, (gJ S), rfl, rfl, hp⟩) (Nat.le_of_ble_eq_true rfl) (Nat.le_of_ble_eq_true rfl) dX12_evens_16
theorem dX12_strayed_0 : decode cX12_strayed 0 = .ok (.iload_n 1, 1) := by decide +kernel
theorem dX12_strayed_1 : decode cX12_strayed 1 = .ok (.i2l, 1) := by decide +kernel
theorem dX12_strayed_2 : decode cX12_strayed 2 = .ok (.lconst 0, 1) := by decide +kernel
theorem dX12_strayed_3 : decode cX12_strayed 3 = .ok (.ldc2_w 387, 3) := by decide +kernel
theorem dX12_strayed_6 : decode cX12_strayed 6 = .ok (.invokestatic 283, 3) := by decide +kernel
theorem dX12_strayed_9 : decode cX12_strayed 9 = .ok (.ifCond .eq 15, 3) := by decide +kernel
theorem dX12_strayed_12 : decode cX12_strayed 12 = .ok (.iload_n 2, 1) := by decide +kernel
theorem dX12_strayed_13 : decode cX12_strayed 13 = .ok (.i2l, 1) := by decide +kernel
theorem dX12_strayed_14 : decode cX12_strayed 14 = .ok (.lconst 0, 1) := by decide +kernel
theorem dX12_strayed_15 : decode cX12_strayed 15 = .ok (.ldc2_w 389, 3) := by decide +kernel
theorem dX12_strayed_18 : decode cX12_strayed 18 = .ok (.invokestatic 283, 3) := by decide +kernel
theorem dX12_strayed_21 : decode cX12_strayed 21 = .ok (.ifCond .ne 9, 3) := by decide +kernel
theorem dX12_strayed_24 : decode cX12_strayed 24 = .ok (.aload_n 0, 1) := by decide +kernel
theorem dX12_strayed_25 : decode cX12_strayed 25 = .ok (.iconst 1, 1) := by decide +kernel
theorem dX12_strayed_26 : decode cX12_strayed 26 = .ok (.invokevirtual 105, 3) := by decide +kernel
theorem dX12_strayed_29 : decode cX12_strayed 29 = .ok (.ireturn, 1) := by decide +kernel
theorem dX12_strayed_30 : decode cX12_strayed 30 = .ok (.aload_n 0, 1) := by decide +kernel
theorem dX12_strayed_31 : decode cX12_strayed 31 = .ok (.getfield 7, 3) := by decide +kernel
theorem dX12_strayed_34 : decode cX12_strayed 34 = .ok (.iconst 4, 1) := by decide +kernel
theorem dX12_strayed_35 : decode cX12_strayed 35 = .ok (.iaload, 1) := by decide +kernel
theorem dX12_strayed_36 : decode cX12_strayed 36 = .ok (.iconst (-1), 1) := by decide +kernel
theorem dX12_strayed_37 : decode cX12_strayed 37 = .ok (.if_icmp .ne 10, 3) := by decide +kernel
theorem dX12_strayed_40 : decode cX12_strayed 40 = .ok (.aload_n 0, 1) := by decide +kernel
theorem dX12_strayed_41 : decode cX12_strayed 41 = .ok (.bipush 6, 2) := by decide +kernel
theorem dX12_strayed_43 : decode cX12_strayed 43 = .ok (.invokevirtual 105, 3) := by decide +kernel
theorem dX12_strayed_46 : decode cX12_strayed 46 = .ok (.ireturn, 1) := by decide +kernel
theorem dX12_strayed_47 : decode cX12_strayed 47 = .ok (.aload_n 0, 1) := by decide +kernel
theorem dX12_strayed_48 : decode cX12_strayed 48 = .ok (.iload_n 1, 1) := by decide +kernel
theorem dX12_strayed_49 : decode cX12_strayed 49 = .ok (.putfield 339, 3) := by decide +kernel
theorem dX12_strayed_52 : decode cX12_strayed 52 = .ok (.aload_n 0, 1) := by decide +kernel
theorem dX12_strayed_53 : decode cX12_strayed 53 = .ok (.iload_n 2, 1) := by decide +kernel
theorem dX12_strayed_54 : decode cX12_strayed 54 = .ok (.iconst (-1), 1) := by decide +kernel
theorem dX12_strayed_55 : decode cX12_strayed 55 = .ok (.invokevirtual 358, 3) := by decide +kernel
theorem dX12_strayed_58 : decode cX12_strayed 58 = .ok (.aload_n 0, 1) := by decide +kernel
theorem dX12_strayed_59 : decode cX12_strayed 59 = .ok (.aload_n 0, 1) := by decide +kernel
theorem dX12_strayed_60 : decode cX12_strayed 60 = .ok (.getfield 355, 3) := by decide +kernel
theorem dX12_strayed_63 : decode cX12_strayed 63 = .ok (.invokevirtual 109, 3) := by decide +kernel
theorem dX12_strayed_66 : decode cX12_strayed 66 = .ok (.ireturn, 1) := by decide +kernel
theorem mi_X12_strayed : MI yX12_strayed cX12_strayed 3 (some FieldType.int) 2 := ⟨w_1914, w_118, by decide +kernel, by decide +kernel, by decide +kernel⟩
set_option maxRecDepth 100000 in
set_option maxHeartbeats 4000000 in
theorem C_X12_strayed (G : GG) (l : Launch) (th : Nat) (p0 : Int32) (p1 : Int32) (S : St) (Q : Int32 → (Nat → Nat → Int32) → Prop) (hp : P_X12_strayed th p0 p1 S Q) : Ctr G l yX12_strayed cX12_strayed 3 (some FieldType.int) 4 97 0 0 [.ref th, .int p0, .int p1] S (fun (v : Option Value) (S9 : St) => ∃ (r : Int32) (I9 : Nat → Nat → Int32), v = some (.int r) ∧ S9 = wI S I9 ∧ Q r I9) := by
  generalize hQQ : (fun (v : Option Value) (S9 : St) => ∃ (r : Int32) (I9 : Nat → Nat → Int32), v = some (.int r) ∧ S9 = wI S I9 ∧ Q r I9) = QQ
  unfold P_X12_strayed at hp
  refine Ctr.of (by decide) (Nat.le_of_ble_eq_true rfl) ?_
  intro p e s m args below meth c ls B hr hlk hin hl hH
  generalize hlocs0 : ([] : List Loc) = locs at hH ⊢
  have hx := B.1
  have hb := B.2.1
  have hl : lv_has ls 3 [(0, .ref th), (1, .int p0), (2, .int p1)] := hl
  obtain ⟨hk_th, hp⟩ := hp
  refine lv_iload_n (pc := 0) hx hb dX12_strayed_0 rfl (lv_at hl 1 rfl) ?_
  refine lv_i2l (pc := 1) (v := p0.toInt64) hx hb dX12_strayed_1 rfl ?_
  refine lv_lconst (pc := 2) (v := 0) hx hb dX12_strayed_2 (by decide) ?_
  refine sx_ldc2 (pc := 3) (v := 9999) B w_1915 dX12_strayed_3 ?_
  refine sx_S (pc := 6) (As := [.long p0.toInt64, .long 0, .long 9999]) (rest := []) B hH hl.1 (C_X12_isFrom G l p0.toInt64 0 9999 _ _ hp) mi_X12_isFrom w_1664 w_1663 rfl rfl ⟨Nat.le_of_ble_eq_true rfl, Nat.le_of_ble_eq_true rfl⟩ (Nat.le_of_ble_eq_true rfl) ⟨Nat.le_of_ble_eq_true rfl, Nat.le_of_ble_eq_true rfl⟩ dX12_strayed_6 (fun v S1 H locs hq hH => ?_)
  obtain ⟨r_1, rfl, e9, hp⟩ := hq
  rw [e9] at hH
  refine W.eq (g2 := F0 m 9 ls [.int r_1]) rfl ?_
  obtain ⟨J_3, hj_3, hp⟩ := hp
  have kj_3 : ∀  (H : Heap) (locs : List Loc) (ls : Array Slot), J_3  → Hp G (FA S s.heap.size) s.heap S H locs → lv_has ls 3 [(0, .ref th)] → Wm G p l e { frames := 4, cells := 0, slots := 0, locals := 97 } s m args below meth c S QQ 0 0 H locs 0 0 (F0 m 24 ls []) := by
    intro  H locs ls hq9 hH hl
    have hp := hj_3  hq9
    refine lv_aload_n (pc := 24) hx hb dX12_strayed_24 rfl (lv_at hl 0 rfl) ?_
    refine lv_iconst (pc := 25) (v := 1) hx hb dX12_strayed_25 (by decide) ?_
    refine sx_V (pc := 26) (As := [.int 1]) (rest := []) B hH hl.1 (C_X12_refuse G l th 1 _ _ hp) mi_X12_refuse coX12 hk_th w_1539 w_51 w_1537 rfl rfl ⟨Nat.le_of_ble_eq_true rfl, Nat.le_of_ble_eq_true rfl⟩ (Nat.le_of_ble_eq_true rfl) ⟨Nat.le_of_ble_eq_true rfl, Nat.le_of_ble_eq_true rfl⟩ dX12_strayed_26 (fun v S1 H locs hq hH => ?_)
    obtain ⟨r_4, F_4, rfl, e9, hp⟩ := hq
    rw [e9] at hH
    have hH : Hp G (FA S s.heap.size) s.heap (wI S F_4) H locs := hH
    refine W.eq (g2 := F0 m 29 ls [.int r_4]) rfl ?_
    exact sx_iret (pc := 29) B hH hr hlk (by rw [← hQQ]; exact ⟨_, F_4, rfl, rfl, hp⟩) (Nat.le_of_ble_eq_true rfl) (Nat.le_of_ble_eq_true rfl) dX12_strayed_29
  refine lv_if_eq (pc := 9) (tgt := 24) hx hb dX12_strayed_9 (by decide) (fun cc_2 => ?_) (fun cc_2 => ?_)
  · have hp := hp.1 cc_2
    exact kj_3  _ _ _ hp hH (lv_sub hl [0] rfl)
  · have hp := hp.2 cc_2
    refine lv_iload_n (pc := 12) hx hb dX12_strayed_12 rfl (lv_at hl 2 rfl) ?_
    refine lv_i2l (pc := 13) (v := p1.toInt64) hx hb dX12_strayed_13 rfl ?_
    refine lv_lconst (pc := 14) (v := 0) hx hb dX12_strayed_14 (by decide) ?_
    refine sx_ldc2 (pc := 15) (v := 16) B w_1916 dX12_strayed_15 ?_
    refine sx_S (pc := 18) (As := [.long p1.toInt64, .long 0, .long 16]) (rest := []) B hH hl.1 (C_X12_isFrom G l p1.toInt64 0 16 _ _ hp) mi_X12_isFrom w_1664 w_1663 rfl rfl ⟨Nat.le_of_ble_eq_true rfl, Nat.le_of_ble_eq_true rfl⟩ (Nat.le_of_ble_eq_true rfl) ⟨Nat.le_of_ble_eq_true rfl, Nat.le_of_ble_eq_true rfl⟩ dX12_strayed_18 (fun v S1 H locs hq hH => ?_)
    obtain ⟨r_5, rfl, e9, hp⟩ := hq
    rw [e9] at hH
    refine W.eq (g2 := F0 m 21 ls [.int r_5]) rfl ?_
    refine lv_if_ne (pc := 21) (tgt := 30) hx hb dX12_strayed_21 (by decide) (fun cc_6 => ?_) (fun cc_6 => ?_)
    · have hp := hp.1 cc_6
      refine lv_aload_n (pc := 30) hx hb dX12_strayed_30 rfl (lv_at hl 0 rfl) ?_
      refine sx_getR (pc := 31) (j := 0) B hH hk_th coX12 rfl w_1304 rfl dX12_strayed_31 ?_
      refine W.eq (g2 := F0 m 34 ls [va_rf (gR S th 0)]) rfl ?_
      obtain ⟨a_7, ha_7, hp⟩ := hp
      refine sx_nonnull (x := a_7) ha_7 ?_
      refine lv_iconst (pc := 34) (v := 4) hx hb dX12_strayed_34 (by decide) ?_
      obtain ⟨hk_8, hp⟩ := hp
      obtain ⟨hn_9, hp⟩ := hp
      refine sx_iald (pc := 35) B hH hk_8 hn_9 dX12_strayed_35 ?_
      refine W.eq (g2 := F0 m 36 ls [.int (gI S a_7 4)]) rfl ?_
      refine lv_iconst (pc := 36) (v := (-1)) hx hb dX12_strayed_36 (by decide) ?_
      refine lv_icmp_ne (pc := 37) (tgt := 47) hx hb dX12_strayed_37 (by decide) (fun cc_10 => ?_) (fun cc_10 => ?_)
      · have hp := hp.1 cc_10
        refine lv_aload_n (pc := 47) hx hb dX12_strayed_47 rfl (lv_at hl 0 rfl) ?_
        refine lv_iload_n (pc := 48) hx hb dX12_strayed_48 rfl (lv_at hl 1 rfl) ?_
        obtain ⟨F_11, eF_11⟩ : ∃ z : Nat → Nat → Int32, z = upI (gI S) th 31 p0 := ⟨_, rfl⟩
        have hp := hp F_11 eF_11
        refine sx_putI (pc := 49) (j := 31) B hH hk_th coX12 rfl w_1335 rfl (Or.inl rfl) rfl dX12_strayed_49 (fun H locs hH => ?_)
        have hH : Hp G (FA S s.heap.size) s.heap (wI S F_11) H locs := by rw [eF_11]; exact hH
        refine lv_aload_n (pc := 52) hx hb dX12_strayed_52 rfl (lv_at hl 0 rfl) ?_
        refine lv_iload_n (pc := 53) hx hb dX12_strayed_53 rfl (lv_at hl 2 rfl) ?_
        refine lv_iconst (pc := 54) (v := (-1)) hx hb dX12_strayed_54 (by decide) ?_
        refine sx_V (pc := 55) (As := [.int p1, .int (-1)]) (rest := []) B hH hl.1 (C_X12_ringsAll G l th p1 (-1) _ _ hp) mi_X12_ringsAll coX12 hk_th w_1816 w_92 w_1814 rfl rfl ⟨Nat.le_of_ble_eq_true rfl, Nat.le_of_ble_eq_true rfl⟩ (Nat.le_of_ble_eq_true rfl) ⟨Nat.le_of_ble_eq_true rfl, Nat.le_of_ble_eq_true rfl⟩ dX12_strayed_55 (fun v S1 H locs hq hH => ?_)
        obtain ⟨F_12, rfl, e9, hp⟩ := hq
        rw [e9] at hH
        have hH : Hp G (FA S s.heap.size) s.heap (wI S F_12) H locs := hH
        refine W.eq (g2 := F0 m 58 ls []) rfl ?_
        refine lv_aload_n (pc := 58) hx hb dX12_strayed_58 rfl (lv_at hl 0 rfl) ?_
        refine lv_aload_n (pc := 59) hx hb dX12_strayed_59 rfl (lv_at hl 0 rfl) ?_
        refine sx_getI (pc := 60) (j := 33) B hH hk_th coX12 rfl w_1337 rfl dX12_strayed_60 ?_
        refine W.eq (g2 := F0 m 63 ls [.int (F_12 th 33), .ref th]) rfl ?_
        refine sx_V (pc := 63) (As := [.int (F_12 th 33)]) (rest := []) B hH hl.1 (C_X12_gives G l th (F_12 th 33) _ _ hp) mi_X12_gives coX12 hk_th w_1617 w_69 w_1615 rfl rfl ⟨Nat.le_of_ble_eq_true rfl, Nat.le_of_ble_eq_true rfl⟩ (Nat.le_of_ble_eq_true rfl) ⟨Nat.le_of_ble_eq_true rfl, Nat.le_of_ble_eq_true rfl⟩ dX12_strayed_63 (fun v S1 H locs hq hH => ?_)
        obtain ⟨r_13, F_13, rfl, e9, hp⟩ := hq
        rw [e9] at hH
        have hH : Hp G (FA S s.heap.size) s.heap (wI S F_13) H locs := hH
        refine W.eq (g2 := F0 m 66 ls [.int r_13]) rfl ?_
        exact sx_iret (pc := 66) B hH hr hlk (by rw [← hQQ]; exact ⟨_, F_13, rfl, rfl, hp⟩) (Nat.le_of_ble_eq_true rfl) (Nat.le_of_ble_eq_true rfl) dX12_strayed_66
      · have hp := hp.2 cc_10
        refine lv_aload_n (pc := 40) hx hb dX12_strayed_40 rfl (lv_at hl 0 rfl) ?_
        refine lv_bipush (pc := 41) (v := 6) hx hb dX12_strayed_41 (by decide) ?_
        refine sx_V (pc := 43) (As := [.int 6]) (rest := []) B hH hl.1 (C_X12_refuse G l th 6 _ _ hp) mi_X12_refuse coX12 hk_th w_1539 w_51 w_1537 rfl rfl ⟨Nat.le_of_ble_eq_true rfl, Nat.le_of_ble_eq_true rfl⟩ (Nat.le_of_ble_eq_true rfl) ⟨Nat.le_of_ble_eq_true rfl, Nat.le_of_ble_eq_true rfl⟩ dX12_strayed_43 (fun v S1 H locs hq hH => ?_)
        obtain ⟨r_14, F_14, rfl, e9, hp⟩ := hq
        rw [e9] at hH
        have hH : Hp G (FA S s.heap.size) s.heap (wI S F_14) H locs := hH
        refine W.eq (g2 := F0 m 46 ls [.int r_14]) rfl ?_
        exact sx_iret (pc := 46) B hH hr hlk (by rw [← hQQ]; exact ⟨_, F_14, rfl, rfl, hp⟩) (Nat.le_of_ble_eq_true rfl) (Nat.le_of_ble_eq_true rfl) dX12_strayed_46
    · have hp := hp.2 cc_6
      exact kj_3  _ _ _ hp hH (lv_sub hl [0] rfl)
theorem dX12_odds_0 : decode cX12_odds 0 = .ok (.iload_n 1, 1) := by decide +kernel
theorem dX12_odds_1 : decode cX12_odds 1 = .ok (.i2l, 1) := by decide +kernel
theorem dX12_odds_2 : decode cX12_odds 2 = .ok (.lconst 0, 1) := by decide +kernel
theorem dX12_odds_3 : decode cX12_odds 3 = .ok (.ldc2_w 387, 3) := by decide +kernel
theorem dX12_odds_6 : decode cX12_odds 6 = .ok (.invokestatic 283, 3) := by decide +kernel
theorem dX12_odds_9 : decode cX12_odds 9 = .ok (.ifCond .eq 38, 3) := by decide +kernel
theorem dX12_odds_12 : decode cX12_odds 12 = .ok (.iload_n 2, 1) := by decide +kernel
theorem dX12_odds_13 : decode cX12_odds 13 = .ok (.i2l, 1) := by decide +kernel
theorem dX12_odds_14 : decode cX12_odds 14 = .ok (.lconst 1, 1) := by decide +kernel
theorem dX12_odds_15 : decode cX12_odds 15 = .ok (.ldc2_w 391, 3) := by decide +kernel
theorem dX12_odds_18 : decode cX12_odds 18 = .ok (.invokestatic 283, 3) := by decide +kernel
theorem dX12_odds_21 : decode cX12_odds 21 = .ok (.ifCond .eq 26, 3) := by decide +kernel
theorem dX12_odds_24 : decode cX12_odds 24 = .ok (.iload_n 1, 1) := by decide +kernel
theorem dX12_odds_25 : decode cX12_odds 25 = .ok (.iload_n 2, 1) := by decide +kernel
theorem dX12_odds_26 : decode cX12_odds 26 = .ok (.iadd, 1) := by decide +kernel
theorem dX12_odds_27 : decode cX12_odds 27 = .ok (.iconst 1, 1) := by decide +kernel
theorem dX12_odds_28 : decode cX12_odds 28 = .ok (.isub, 1) := by decide +kernel
theorem dX12_odds_29 : decode cX12_odds 29 = .ok (.sipush 9999, 3) := by decide +kernel
theorem dX12_odds_32 : decode cX12_odds 32 = .ok (.if_icmp .gt 15, 3) := by decide +kernel
theorem dX12_odds_35 : decode cX12_odds 35 = .ok (.iload_n 3, 1) := by decide +kernel
theorem dX12_odds_36 : decode cX12_odds 36 = .ok (.i2l, 1) := by decide +kernel
theorem dX12_odds_37 : decode cX12_odds 37 = .ok (.lconst 0, 1) := by decide +kernel
theorem dX12_odds_38 : decode cX12_odds 38 = .ok (.ldc2_w 389, 3) := by decide +kernel
theorem dX12_odds_41 : decode cX12_odds 41 = .ok (.invokestatic 283, 3) := by decide +kernel
theorem dX12_odds_44 : decode cX12_odds 44 = .ok (.ifCond .ne 9, 3) := by decide +kernel
theorem dX12_odds_47 : decode cX12_odds 47 = .ok (.aload_n 0, 1) := by decide +kernel
theorem dX12_odds_48 : decode cX12_odds 48 = .ok (.iconst 1, 1) := by decide +kernel
theorem dX12_odds_49 : decode cX12_odds 49 = .ok (.invokevirtual 112, 3) := by decide +kernel
theorem dX12_odds_52 : decode cX12_odds 52 = .ok (.ireturn, 1) := by decide +kernel
theorem dX12_odds_53 : decode cX12_odds 53 = .ok (.aload_n 0, 1) := by decide +kernel
theorem dX12_odds_54 : decode cX12_odds 54 = .ok (.getfield 7, 3) := by decide +kernel
theorem dX12_odds_57 : decode cX12_odds 57 = .ok (.iconst 4, 1) := by decide +kernel
theorem dX12_odds_58 : decode cX12_odds 58 = .ok (.iaload, 1) := by decide +kernel
theorem dX12_odds_59 : decode cX12_odds 59 = .ok (.iconst (-1), 1) := by decide +kernel
theorem dX12_odds_60 : decode cX12_odds 60 = .ok (.if_icmp .ne 10, 3) := by decide +kernel
theorem dX12_odds_63 : decode cX12_odds 63 = .ok (.aload_n 0, 1) := by decide +kernel
theorem dX12_odds_64 : decode cX12_odds 64 = .ok (.bipush 6, 2) := by decide +kernel
theorem dX12_odds_66 : decode cX12_odds 66 = .ok (.invokevirtual 112, 3) := by decide +kernel
theorem dX12_odds_69 : decode cX12_odds 69 = .ok (.ireturn, 1) := by decide +kernel
theorem dX12_odds_70 : decode cX12_odds 70 = .ok (.aload_n 0, 1) := by decide +kernel
theorem dX12_odds_71 : decode cX12_odds 71 = .ok (.iconst (-1), 1) := by decide +kernel
theorem dX12_odds_72 : decode cX12_odds 72 = .ok (.iconst (-1), 1) := by decide +kernel
theorem dX12_odds_73 : decode cX12_odds 73 = .ok (.invokevirtual 358, 3) := by decide +kernel
theorem dX12_odds_76 : decode cX12_odds 76 = .ok (.aload_n 0, 1) := by decide +kernel
theorem dX12_odds_77 : decode cX12_odds 77 = .ok (.getfield 355, 3) := by decide +kernel
theorem dX12_odds_80 : decode cX12_odds 80 = .ok (.istore 4, 2) := by decide +kernel
theorem dX12_odds_82 : decode cX12_odds 82 = .ok (.iconst 0, 1) := by decide +kernel
theorem dX12_odds_83 : decode cX12_odds 83 = .ok (.istore 5, 2) := by decide +kernel
theorem dX12_odds_85 : decode cX12_odds 85 = .ok (.iconst 0, 1) := by decide +kernel
theorem dX12_odds_86 : decode cX12_odds 86 = .ok (.istore 6, 2) := by decide +kernel
theorem dX12_odds_88 : decode cX12_odds 88 = .ok (.iload 6, 2) := by decide +kernel
theorem dX12_odds_90 : decode cX12_odds 90 = .ok (.iload_n 2, 1) := by decide +kernel
theorem dX12_odds_91 : decode cX12_odds 91 = .ok (.if_icmp .ge 42, 3) := by decide +kernel
theorem dX12_odds_94 : decode cX12_odds 94 = .ok (.aload_n 0, 1) := by decide +kernel
theorem dX12_odds_95 : decode cX12_odds 95 = .ok (.iload_n 1, 1) := by decide +kernel
theorem dX12_odds_96 : decode cX12_odds 96 = .ok (.iload 6, 2) := by decide +kernel
theorem dX12_odds_98 : decode cX12_odds 98 = .ok (.iadd, 1) := by decide +kernel
theorem dX12_odds_99 : decode cX12_odds 99 = .ok (.putfield 339, 3) := by decide +kernel
theorem dX12_odds_102 : decode cX12_odds 102 = .ok (.aload_n 0, 1) := by decide +kernel
theorem dX12_odds_103 : decode cX12_odds 103 = .ok (.iload_n 3, 1) := by decide +kernel
theorem dX12_odds_104 : decode cX12_odds 104 = .ok (.iconst (-1), 1) := by decide +kernel
theorem dX12_odds_105 : decode cX12_odds 105 = .ok (.invokevirtual 358, 3) := by decide +kernel
theorem dX12_odds_108 : decode cX12_odds 108 = .ok (.iload 5, 2) := by decide +kernel
theorem dX12_odds_110 : decode cX12_odds 110 = .ok (.aload_n 0, 1) := by decide +kernel
theorem dX12_odds_111 : decode cX12_odds 111 = .ok (.getfield 355, 3) := by decide +kernel
theorem dX12_odds_114 : decode cX12_odds 114 = .ok (.iload 4, 2) := by decide +kernel
theorem dX12_odds_116 : decode cX12_odds 116 = .ok (.if_icmp .ne 7, 3) := by decide +kernel
theorem dX12_odds_119 : decode cX12_odds 119 = .ok (.iconst 1, 1) := by decide +kernel
theorem dX12_odds_120 : decode cX12_odds 120 = .ok (.goto 4, 3) := by decide +kernel
theorem dX12_odds_123 : decode cX12_odds 123 = .ok (.iconst 0, 1) := by decide +kernel
theorem dX12_odds_124 : decode cX12_odds 124 = .ok (.iadd, 1) := by decide +kernel
theorem dX12_odds_125 : decode cX12_odds 125 = .ok (.istore 5, 2) := by decide +kernel
theorem dX12_odds_127 : decode cX12_odds 127 = .ok (.iinc 6 1, 3) := by decide +kernel
theorem dX12_odds_130 : decode cX12_odds 130 = .ok (.goto (-42), 3) := by decide +kernel
theorem dX12_odds_133 : decode cX12_odds 133 = .ok (.aload_n 0, 1) := by decide +kernel
theorem dX12_odds_134 : decode cX12_odds 134 = .ok (.iload 5, 2) := by decide +kernel
theorem dX12_odds_136 : decode cX12_odds 136 = .ok (.i2l, 1) := by decide +kernel
theorem dX12_odds_137 : decode cX12_odds 137 = .ok (.iload_n 2, 1) := by decide +kernel
theorem dX12_odds_138 : decode cX12_odds 138 = .ok (.i2l, 1) := by decide +kernel
theorem dX12_odds_139 : decode cX12_odds 139 = .ok (.invokevirtual 383, 3) := by decide +kernel
theorem dX12_odds_142 : decode cX12_odds 142 = .ok (.ireturn, 1) := by decide +kernel
theorem mi_X12_odds : MI yX12_odds cX12_odds 7 (some FieldType.boolean) 3 := ⟨w_1920, w_118, by decide +kernel, by decide +kernel, by decide +kernel⟩
set_option maxRecDepth 100000 in
set_option maxHeartbeats 4000000 in
theorem C_X12_odds (G : GG) (l : Launch) (th : Nat) (p0 : Int32) (p1 : Int32) (p2 : Int32) (S : St) (Q : Int32 → (Nat → Nat → Int32) → (Nat → Nat → Int64) → Prop) (hp : P_X12_odds th p0 p1 p2 S Q) : Ctr G l yX12_odds cX12_odds 7 (some FieldType.boolean) 4 97 0 0 [.ref th, .int p0, .int p1, .int p2] S (fun (v : Option Value) (S9 : St) => ∃ (r : Int32) (I9 : Nat → Nat → Int32) (J9 : Nat → Nat → Int64), v = some (.int r) ∧ S9 = wA S I9 J9 (gR S) ∧ Q r I9 J9) := by
  generalize hQQ : (fun (v : Option Value) (S9 : St) => ∃ (r : Int32) (I9 : Nat → Nat → Int32) (J9 : Nat → Nat → Int64), v = some (.int r) ∧ S9 = wA S I9 J9 (gR S) ∧ Q r I9 J9) = QQ
  unfold P_X12_odds at hp
  refine Ctr.of (by decide) (Nat.le_of_ble_eq_true rfl) ?_
  intro p e s m args below meth c ls B hr hlk hin hl hH
  generalize hlocs0 : ([] : List Loc) = locs at hH ⊢
  have hx := B.1
  have hb := B.2.1
  have hl : lv_has ls 7 [(0, .ref th), (1, .int p0), (2, .int p1), (3, .int p2)] := hl
  obtain ⟨hk_th, hp⟩ := hp
  refine lv_iload_n (pc := 0) hx hb dX12_odds_0 rfl (lv_at hl 1 rfl) ?_
  refine lv_i2l (pc := 1) (v := p0.toInt64) hx hb dX12_odds_1 rfl ?_
  refine lv_lconst (pc := 2) (v := 0) hx hb dX12_odds_2 (by decide) ?_
  refine sx_ldc2 (pc := 3) (v := 9999) B w_1915 dX12_odds_3 ?_
  refine sx_S (pc := 6) (As := [.long p0.toInt64, .long 0, .long 9999]) (rest := []) B hH hl.1 (C_X12_isFrom G l p0.toInt64 0 9999 _ _ hp) mi_X12_isFrom w_1664 w_1663 rfl rfl ⟨Nat.le_of_ble_eq_true rfl, Nat.le_of_ble_eq_true rfl⟩ (Nat.le_of_ble_eq_true rfl) ⟨Nat.le_of_ble_eq_true rfl, Nat.le_of_ble_eq_true rfl⟩ dX12_odds_6 (fun v S1 H locs hq hH => ?_)
  obtain ⟨r_1, rfl, e9, hp⟩ := hq
  rw [e9] at hH
  refine W.eq (g2 := F0 m 9 ls [.int r_1]) rfl ?_
  obtain ⟨J_3, hj_3, hp⟩ := hp
  have kj_3 : ∀  (H : Heap) (locs : List Loc) (ls : Array Slot), J_3  → Hp G (FA S s.heap.size) s.heap S H locs → lv_has ls 7 [(0, .ref th)] → Wm G p l e { frames := 4, cells := 0, slots := 0, locals := 97 } s m args below meth c S QQ 0 0 H locs 0 0 (F0 m 47 ls []) := by
    intro  H locs ls hq9 hH hl
    have hp := hj_3  hq9
    refine lv_aload_n (pc := 47) hx hb dX12_odds_47 rfl (lv_at hl 0 rfl) ?_
    refine lv_iconst (pc := 48) (v := 1) hx hb dX12_odds_48 (by decide) ?_
    refine sx_V (pc := 49) (As := [.int 1]) (rest := []) B hH hl.1 (C_X12_is G l th 1 _ _ hp) mi_X12_is coX12 hk_th w_1479 w_45 w_1477 rfl rfl ⟨Nat.le_of_ble_eq_true rfl, Nat.le_of_ble_eq_true rfl⟩ (Nat.le_of_ble_eq_true rfl) ⟨Nat.le_of_ble_eq_true rfl, Nat.le_of_ble_eq_true rfl⟩ dX12_odds_49 (fun v S1 H locs hq hH => ?_)
    obtain ⟨r_4, F_4, rfl, e9, hp⟩ := hq
    rw [e9] at hH
    have hH : Hp G (FA S s.heap.size) s.heap (wI S F_4) H locs := hH
    refine W.eq (g2 := F0 m 52 ls [.int r_4]) rfl ?_
    obtain ⟨hz, hp⟩ := hp
    exact sx_zret (pc := 52) B hH hr hlk hz (by rw [← hQQ]; exact ⟨_, F_4, (gJ S), rfl, rfl, hp⟩) (Nat.le_of_ble_eq_true rfl) (Nat.le_of_ble_eq_true rfl) dX12_odds_52
  refine lv_if_eq (pc := 9) (tgt := 47) hx hb dX12_odds_9 (by decide) (fun cc_2 => ?_) (fun cc_2 => ?_)
  · have hp := hp.1 cc_2
    exact kj_3  _ _ _ hp hH (lv_sub hl [0] rfl)
  · have hp := hp.2 cc_2
    refine lv_iload_n (pc := 12) hx hb dX12_odds_12 rfl (lv_at hl 2 rfl) ?_
    refine lv_i2l (pc := 13) (v := p1.toInt64) hx hb dX12_odds_13 rfl ?_
    refine lv_lconst (pc := 14) (v := 1) hx hb dX12_odds_14 (by decide) ?_
    refine sx_ldc2 (pc := 15) (v := 20) B w_1921 dX12_odds_15 ?_
    refine sx_S (pc := 18) (As := [.long p1.toInt64, .long 1, .long 20]) (rest := []) B hH hl.1 (C_X12_isFrom G l p1.toInt64 1 20 _ _ hp) mi_X12_isFrom w_1664 w_1663 rfl rfl ⟨Nat.le_of_ble_eq_true rfl, Nat.le_of_ble_eq_true rfl⟩ (Nat.le_of_ble_eq_true rfl) ⟨Nat.le_of_ble_eq_true rfl, Nat.le_of_ble_eq_true rfl⟩ dX12_odds_18 (fun v S1 H locs hq hH => ?_)
    obtain ⟨r_5, rfl, e9, hp⟩ := hq
    rw [e9] at hH
    refine W.eq (g2 := F0 m 21 ls [.int r_5]) rfl ?_
    refine lv_if_eq (pc := 21) (tgt := 47) hx hb dX12_odds_21 (by decide) (fun cc_6 => ?_) (fun cc_6 => ?_)
    · have hp := hp.1 cc_6
      exact kj_3  _ _ _ hp hH (lv_sub hl [0] rfl)
    · have hp := hp.2 cc_6
      refine lv_iload_n (pc := 24) hx hb dX12_odds_24 rfl (lv_at hl 1 rfl) ?_
      refine lv_iload_n (pc := 25) hx hb dX12_odds_25 rfl (lv_at hl 2 rfl) ?_
      refine lv_iadd (pc := 26) hx hb dX12_odds_26 ?_
      refine lv_iconst (pc := 27) (v := 1) hx hb dX12_odds_27 (by decide) ?_
      refine lv_isub (pc := 28) hx hb dX12_odds_28 ?_
      refine lv_sipush (pc := 29) (v := 9999) hx hb dX12_odds_29 (by decide) ?_
      refine lv_icmp_gt (pc := 32) (tgt := 47) hx hb dX12_odds_32 (by decide) (fun cc_7 => ?_) (fun cc_7 => ?_)
      · have hp := hp.1 cc_7
        exact kj_3  _ _ _ hp hH (lv_sub hl [0] rfl)
      · have hp := hp.2 cc_7
        refine lv_iload_n (pc := 35) hx hb dX12_odds_35 rfl (lv_at hl 3 rfl) ?_
        refine lv_i2l (pc := 36) (v := p2.toInt64) hx hb dX12_odds_36 rfl ?_
        refine lv_lconst (pc := 37) (v := 0) hx hb dX12_odds_37 (by decide) ?_
        refine sx_ldc2 (pc := 38) (v := 16) B w_1916 dX12_odds_38 ?_
        refine sx_S (pc := 41) (As := [.long p2.toInt64, .long 0, .long 16]) (rest := []) B hH hl.1 (C_X12_isFrom G l p2.toInt64 0 16 _ _ hp) mi_X12_isFrom w_1664 w_1663 rfl rfl ⟨Nat.le_of_ble_eq_true rfl, Nat.le_of_ble_eq_true rfl⟩ (Nat.le_of_ble_eq_true rfl) ⟨Nat.le_of_ble_eq_true rfl, Nat.le_of_ble_eq_true rfl⟩ dX12_odds_41 (fun v S1 H locs hq hH => ?_)
        obtain ⟨r_8, rfl, e9, hp⟩ := hq
        rw [e9] at hH
        refine W.eq (g2 := F0 m 44 ls [.int r_8]) rfl ?_
        refine lv_if_ne (pc := 44) (tgt := 53) hx hb dX12_odds_44 (by decide) (fun cc_9 => ?_) (fun cc_9 => ?_)
        · have hp := hp.1 cc_9
          refine lv_aload_n (pc := 53) hx hb dX12_odds_53 rfl (lv_at hl 0 rfl) ?_
          refine sx_getR (pc := 54) (j := 0) B hH hk_th coX12 rfl w_1304 rfl dX12_odds_54 ?_
          refine W.eq (g2 := F0 m 57 ls [va_rf (gR S th 0)]) rfl ?_
          obtain ⟨a_10, ha_10, hp⟩ := hp
          refine sx_nonnull (x := a_10) ha_10 ?_
          refine lv_iconst (pc := 57) (v := 4) hx hb dX12_odds_57 (by decide) ?_
          obtain ⟨hk_11, hp⟩ := hp
          obtain ⟨hn_12, hp⟩ := hp
          refine sx_iald (pc := 58) B hH hk_11 hn_12 dX12_odds_58 ?_
          refine W.eq (g2 := F0 m 59 ls [.int (gI S a_10 4)]) rfl ?_
          refine lv_iconst (pc := 59) (v := (-1)) hx hb dX12_odds_59 (by decide) ?_
          refine lv_icmp_ne (pc := 60) (tgt := 70) hx hb dX12_odds_60 (by decide) (fun cc_13 => ?_) (fun cc_13 => ?_)
          · have hp := hp.1 cc_13
            refine lv_aload_n (pc := 70) hx hb dX12_odds_70 rfl (lv_at hl 0 rfl) ?_
            refine lv_iconst (pc := 71) (v := (-1)) hx hb dX12_odds_71 (by decide) ?_
            refine lv_iconst (pc := 72) (v := (-1)) hx hb dX12_odds_72 (by decide) ?_
            refine sx_V (pc := 73) (As := [.int (-1), .int (-1)]) (rest := []) B hH hl.1 (C_X12_ringsAll G l th (-1) (-1) _ _ hp) mi_X12_ringsAll coX12 hk_th w_1816 w_92 w_1814 rfl rfl ⟨Nat.le_of_ble_eq_true rfl, Nat.le_of_ble_eq_true rfl⟩ (Nat.le_of_ble_eq_true rfl) ⟨Nat.le_of_ble_eq_true rfl, Nat.le_of_ble_eq_true rfl⟩ dX12_odds_73 (fun v S1 H locs hq hH => ?_)
            obtain ⟨F_14, rfl, e9, hp⟩ := hq
            rw [e9] at hH
            have hH : Hp G (FA S s.heap.size) s.heap (wI S F_14) H locs := hH
            refine W.eq (g2 := F0 m 76 ls []) rfl ?_
            refine lv_aload_n (pc := 76) hx hb dX12_odds_76 rfl (lv_at hl 0 rfl) ?_
            refine sx_getI (pc := 77) (j := 33) B hH hk_th coX12 rfl w_1337 rfl dX12_odds_77 ?_
            refine W.eq (g2 := F0 m 80 ls [.int (F_14 th 33)]) rfl ?_
            refine lv_topi (fun v_15 ev_15 => ?_)
            have hp := hp v_15 ev_15
            refine lv_istore (pc := 80) (lv' := [(4, .int v_15), (0, .ref th), (1, .int p0), (2, .int p1), (3, .int p2)]) hx hb dX12_odds_80 hl (by decide) rfl (fun ls hl => ?_)
            refine lv_iconst (pc := 82) (v := 0) hx hb dX12_odds_82 (by decide) ?_
            refine lv_istore (pc := 83) (lv' := [(5, .int 0), (4, .int v_15), (0, .ref th), (1, .int p0), (2, .int p1), (3, .int p2)]) hx hb dX12_odds_83 hl (by decide) rfl (fun ls hl => ?_)
            refine lv_iconst (pc := 85) (v := 0) hx hb dX12_odds_85 (by decide) ?_
            refine lv_istore (pc := 86) (lv' := [(6, .int 0), (5, .int 0), (4, .int v_15), (0, .ref th), (1, .int p0), (2, .int p1), (3, .int p2)]) hx hb dX12_odds_86 hl (by decide) rfl (fun ls hl => ?_)
            obtain ⟨I_16, ⟨k0_16, h0_16⟩, hst_16⟩ := hp
            have kl_16 : ∀ (n_16 : Nat) (x5_17 : Int32) (x6_18 : Int32) (F_19 : Nat → Nat → Int32) (H : Heap) (locs : List Loc) (ls : Array Slot), I_16 n_16 x5_17 x6_18 F_19 → Hp G (FA S s.heap.size) s.heap (wI S F_19) H locs → lv_has ls 7 [(0, .ref th), (1, .int p0), (2, .int p1), (3, .int p2), (4, .int v_15), (5, .int x5_17), (6, .int x6_18)] → Wm G p l e { frames := 4, cells := 0, slots := 0, locals := 97 } s m args below meth c S QQ 0 0 H locs 0 0 (F0 m 88 ls []) := by
              intro n_16
              induction n_16 using Nat.strongRecOn with
              | ind n_16 ih_16 =>
                intro x5_17 x6_18 F_19 H locs ls hq9 hH hl
                have hp := hst_16 n_16 x5_17 x6_18 F_19 hq9
                refine lv_iload (pc := 88) hx hb dX12_odds_88 (lv_at hl 6 rfl) ?_
                refine lv_iload_n (pc := 90) hx hb dX12_odds_90 rfl (lv_at hl 2 rfl) ?_
                refine lv_icmp_ge (pc := 91) (tgt := 133) hx hb dX12_odds_91 (by decide) (fun cc_20 => ?_) (fun cc_20 => ?_)
                · have hp := hp.1 cc_20
                  refine lv_aload_n (pc := 133) hx hb dX12_odds_133 rfl (lv_at hl 0 rfl) ?_
                  refine lv_iload (pc := 134) hx hb dX12_odds_134 (lv_at hl 5 rfl) ?_
                  refine lv_i2l (pc := 136) (v := x5_17.toInt64) hx hb dX12_odds_136 rfl ?_
                  refine lv_iload_n (pc := 137) hx hb dX12_odds_137 rfl (lv_at hl 2 rfl) ?_
                  refine lv_i2l (pc := 138) (v := p1.toInt64) hx hb dX12_odds_138 rfl ?_
                  refine sx_V (pc := 139) (As := [.long x5_17.toInt64, .long p1.toInt64]) (rest := []) B hH hl.1 (C_X12_tellsBy G l th x5_17.toInt64 p1.toInt64 _ _ hp) mi_X12_tellsBy coX12 hk_th w_1909 w_100 w_1907 rfl rfl ⟨Nat.le_of_ble_eq_true rfl, Nat.le_of_ble_eq_true rfl⟩ (Nat.le_of_ble_eq_true rfl) ⟨Nat.le_of_ble_eq_true rfl, Nat.le_of_ble_eq_true rfl⟩ dX12_odds_139 (fun v S1 H locs hq hH => ?_)
                  obtain ⟨r_21, F_21, J_21, rfl, e9, hp⟩ := hq
                  rw [e9] at hH
                  have hH : Hp G (FA S s.heap.size) s.heap (wA S F_21 J_21 (gR S)) H locs := hH
                  refine W.eq (g2 := F0 m 142 ls [.int r_21]) rfl ?_
                  obtain ⟨hz, hp⟩ := hp
                  exact sx_zret (pc := 142) B hH hr hlk hz (by rw [← hQQ]; exact ⟨_, F_21, J_21, rfl, rfl, hp⟩) (Nat.le_of_ble_eq_true rfl) (Nat.le_of_ble_eq_true rfl) dX12_odds_142
                · have hp := hp.2 cc_20
                  refine lv_aload_n (pc := 94) hx hb dX12_odds_94 rfl (lv_at hl 0 rfl) ?_
                  refine lv_iload_n (pc := 95) hx hb dX12_odds_95 rfl (lv_at hl 1 rfl) ?_
                  refine lv_iload (pc := 96) hx hb dX12_odds_96 (lv_at hl 6 rfl) ?_
                  refine lv_iadd (pc := 98) hx hb dX12_odds_98 ?_
                  refine lv_topi (fun v_22 ev_22 => ?_)
                  have hp := hp v_22 ev_22
                  obtain ⟨F_23, eF_23⟩ : ∃ z : Nat → Nat → Int32, z = upI F_19 th 31 v_22 := ⟨_, rfl⟩
                  have hp := hp F_23 eF_23
                  refine sx_putI (pc := 99) (j := 31) B hH hk_th coX12 rfl w_1335 rfl (Or.inl rfl) rfl dX12_odds_99 (fun H locs hH => ?_)
                  have hH : Hp G (FA S s.heap.size) s.heap (wI S F_23) H locs := by rw [eF_23]; exact hH
                  refine lv_aload_n (pc := 102) hx hb dX12_odds_102 rfl (lv_at hl 0 rfl) ?_
                  refine lv_iload_n (pc := 103) hx hb dX12_odds_103 rfl (lv_at hl 3 rfl) ?_
                  refine lv_iconst (pc := 104) (v := (-1)) hx hb dX12_odds_104 (by decide) ?_
                  refine sx_V (pc := 105) (As := [.int p2, .int (-1)]) (rest := []) B hH hl.1 (C_X12_ringsAll G l th p2 (-1) _ _ hp) mi_X12_ringsAll coX12 hk_th w_1816 w_92 w_1814 rfl rfl ⟨Nat.le_of_ble_eq_true rfl, Nat.le_of_ble_eq_true rfl⟩ (Nat.le_of_ble_eq_true rfl) ⟨Nat.le_of_ble_eq_true rfl, Nat.le_of_ble_eq_true rfl⟩ dX12_odds_105 (fun v S1 H locs hq hH => ?_)
                  obtain ⟨F_24, rfl, e9, hp⟩ := hq
                  rw [e9] at hH
                  have hH : Hp G (FA S s.heap.size) s.heap (wI S F_24) H locs := hH
                  refine W.eq (g2 := F0 m 108 ls []) rfl ?_
                  refine lv_iload (pc := 108) hx hb dX12_odds_108 (lv_at hl 5 rfl) ?_
                  refine lv_aload_n (pc := 110) hx hb dX12_odds_110 rfl (lv_at hl 0 rfl) ?_
                  refine sx_getI (pc := 111) (j := 33) B hH hk_th coX12 rfl w_1337 rfl dX12_odds_111 ?_
                  refine W.eq (g2 := F0 m 114 ls [.int (F_24 th 33), .int x5_17]) rfl ?_
                  refine lv_iload (pc := 114) hx hb dX12_odds_114 (lv_at hl 4 rfl) ?_
                  refine lv_icmp_ne (pc := 116) (tgt := 123) hx hb dX12_odds_116 (by decide) (fun cc_25 => ?_) (fun cc_25 => ?_)
                  · have hp := hp.1 cc_25
                    refine lv_iconst (pc := 123) (v := 0) hx hb dX12_odds_123 (by decide) ?_
                    refine lv_iadd (pc := 124) hx hb dX12_odds_124 ?_
                    refine lv_topi (fun v_26 ev_26 => ?_)
                    have hp := hp v_26 ev_26
                    refine lv_istore (pc := 125) (lv' := [(5, .int v_26), (0, .ref th), (1, .int p0), (2, .int p1), (3, .int p2), (4, .int v_15), (6, .int x6_18)]) hx hb dX12_odds_125 hl (by decide) rfl (fun ls hl => ?_)
                    obtain ⟨v_27, ev_27⟩ : ∃ y : Int32, y = x6_18 + 1 := ⟨_, rfl⟩
                    have hp := hp v_27 ev_27
                    refine lv_iinc (pc := 127) (v := v_27) (lv' := [(6, .int v_27), (5, .int v_26), (0, .ref th), (1, .int p0), (2, .int p1), (3, .int p2), (4, .int v_15)]) hx hb dX12_odds_127 hl (k := 6) rfl (by rw [ev_27]; rfl) (by decide) rfl (fun ls hl => ?_)
                    refine lv_goto (pc := 130) (tgt := 88) hx hb dX12_odds_130 (by decide) ?_
                    obtain ⟨k9, hlt9, hp⟩ := hp
                    exact ih_16 k9 hlt9 _ _ _ _ _ _ hp hH (lv_sub hl [2, 3, 4, 5, 6, 1, 0] rfl)
                  · have hp := hp.2 cc_25
                    refine lv_iconst (pc := 119) (v := 1) hx hb dX12_odds_119 (by decide) ?_
                    refine lv_goto (pc := 120) (tgt := 124) hx hb dX12_odds_120 (by decide) ?_
                    refine lv_iadd (pc := 124) hx hb dX12_odds_124 ?_
                    refine lv_topi (fun v_28 ev_28 => ?_)
                    have hp := hp v_28 ev_28
                    refine lv_istore (pc := 125) (lv' := [(5, .int v_28), (0, .ref th), (1, .int p0), (2, .int p1), (3, .int p2), (4, .int v_15), (6, .int x6_18)]) hx hb dX12_odds_125 hl (by decide) rfl (fun ls hl => ?_)
                    obtain ⟨v_29, ev_29⟩ : ∃ y : Int32, y = x6_18 + 1 := ⟨_, rfl⟩
                    have hp := hp v_29 ev_29
                    refine lv_iinc (pc := 127) (v := v_29) (lv' := [(6, .int v_29), (5, .int v_28), (0, .ref th), (1, .int p0), (2, .int p1), (3, .int p2), (4, .int v_15)]) hx hb dX12_odds_127 hl (k := 6) rfl (by rw [ev_29]; rfl) (by decide) rfl (fun ls hl => ?_)
                    refine lv_goto (pc := 130) (tgt := 88) hx hb dX12_odds_130 (by decide) ?_
                    obtain ⟨k9, hlt9, hp⟩ := hp
                    exact ih_16 k9 hlt9 _ _ _ _ _ _ hp hH (lv_sub hl [2, 3, 4, 5, 6, 1, 0] rfl)
            exact kl_16 k0_16 _ _ _ _ _ _ h0_16 hH (lv_sub hl [3, 4, 5, 6, 2, 1, 0] rfl)
          · have hp := hp.2 cc_13
            refine lv_aload_n (pc := 63) hx hb dX12_odds_63 rfl (lv_at hl 0 rfl) ?_
            refine lv_bipush (pc := 64) (v := 6) hx hb dX12_odds_64 (by decide) ?_
            refine sx_V (pc := 66) (As := [.int 6]) (rest := []) B hH hl.1 (C_X12_is G l th 6 _ _ hp) mi_X12_is coX12 hk_th w_1479 w_45 w_1477 rfl rfl ⟨Nat.le_of_ble_eq_true rfl, Nat.le_of_ble_eq_true rfl⟩ (Nat.le_of_ble_eq_true rfl) ⟨Nat.le_of_ble_eq_true rfl, Nat.le_of_ble_eq_true rfl⟩ dX12_odds_66 (fun v S1 H locs hq hH => ?_)
            obtain ⟨r_30, F_30, rfl, e9, hp⟩ := hq
            rw [e9] at hH
            have hH : Hp G (FA S s.heap.size) s.heap (wI S F_30) H locs := hH
            refine W.eq (g2 := F0 m 69 ls [.int r_30]) rfl ?_
            obtain ⟨hz, hp⟩ := hp
            exact sx_zret (pc := 69) B hH hr hlk hz (by rw [← hQQ]; exact ⟨_, F_30, (gJ S), rfl, rfl, hp⟩) (Nat.le_of_ble_eq_true rfl) (Nat.le_of_ble_eq_true rfl) dX12_odds_69
        · have hp := hp.2 cc_9
          exact kj_3  _ _ _ hp hH (lv_sub hl [0] rfl)
theorem dX12_findsAll_0 : decode cX12_findsAll 0 = .ok (.aload_n 0, 1) := by decide +kernel
theorem dX12_findsAll_1 : decode cX12_findsAll 1 = .ok (.dup, 1) := by decide +kernel
theorem dX12_findsAll_2 : decode cX12_findsAll 2 = .ok (.getfield 333, 3) := by decide +kernel
theorem dX12_findsAll_5 : decode cX12_findsAll 5 = .ok (.iconst 1, 1) := by decide +kernel
theorem dX12_findsAll_6 : decode cX12_findsAll 6 = .ok (.iadd, 1) := by decide +kernel
theorem dX12_findsAll_7 : decode cX12_findsAll 7 = .ok (.putfield 333, 3) := by decide +kernel
theorem dX12_findsAll_10 : decode cX12_findsAll 10 = .ok (.aload_n 0, 1) := by decide +kernel
theorem dX12_findsAll_11 : decode cX12_findsAll 11 = .ok (.getfield 72, 3) := by decide +kernel
theorem dX12_findsAll_14 : decode cX12_findsAll 14 = .ok (.iconst 0, 1) := by decide +kernel
theorem dX12_findsAll_15 : decode cX12_findsAll 15 = .ok (.iconst 0, 1) := by decide +kernel
theorem dX12_findsAll_16 : decode cX12_findsAll 16 = .ok (.iastore, 1) := by decide +kernel
theorem dX12_findsAll_17 : decode cX12_findsAll 17 = .ok (.aload_n 0, 1) := by decide +kernel
theorem dX12_findsAll_18 : decode cX12_findsAll 18 = .ok (.getfield 63, 3) := by decide +kernel
theorem dX12_findsAll_21 : decode cX12_findsAll 21 = .ok (.iconst 0, 1) := by decide +kernel
theorem dX12_findsAll_22 : decode cX12_findsAll 22 = .ok (.aload_n 0, 1) := by decide +kernel
theorem dX12_findsAll_23 : decode cX12_findsAll 23 = .ok (.getfield 333, 3) := by decide +kernel
theorem dX12_findsAll_26 : decode cX12_findsAll 26 = .ok (.iastore, 1) := by decide +kernel
theorem dX12_findsAll_27 : decode cX12_findsAll 27 = .ok (.aload_n 0, 1) := by decide +kernel
theorem dX12_findsAll_28 : decode cX12_findsAll 28 = .ok (.iconst 1, 1) := by decide +kernel
theorem dX12_findsAll_29 : decode cX12_findsAll 29 = .ok (.putfield 393, 3) := by decide +kernel
theorem dX12_findsAll_32 : decode cX12_findsAll 32 = .ok (.iconst 0, 1) := by decide +kernel
theorem dX12_findsAll_33 : decode cX12_findsAll 33 = .ok (.istore_n 1, 1) := by decide +kernel
theorem dX12_findsAll_34 : decode cX12_findsAll 34 = .ok (.iload_n 1, 1) := by decide +kernel
theorem dX12_findsAll_35 : decode cX12_findsAll 35 = .ok (.aload_n 0, 1) := by decide +kernel
theorem dX12_findsAll_36 : decode cX12_findsAll 36 = .ok (.getfield 393, 3) := by decide +kernel
theorem dX12_findsAll_39 : decode cX12_findsAll 39 = .ok (.if_icmp .ge 111, 3) := by decide +kernel
theorem dX12_findsAll_42 : decode cX12_findsAll 42 = .ok (.iconst 0, 1) := by decide +kernel
theorem dX12_findsAll_43 : decode cX12_findsAll 43 = .ok (.istore_n 2, 1) := by decide +kernel
theorem dX12_findsAll_44 : decode cX12_findsAll 44 = .ok (.iload_n 2, 1) := by decide +kernel
theorem dX12_findsAll_45 : decode cX12_findsAll 45 = .ok (.iconst 3, 1) := by decide +kernel
theorem dX12_findsAll_46 : decode cX12_findsAll 46 = .ok (.aload_n 0, 1) := by decide +kernel
theorem dX12_findsAll_47 : decode cX12_findsAll 47 = .ok (.getfield 7, 3) := by decide +kernel
theorem dX12_findsAll_50 : decode cX12_findsAll 50 = .ok (.iconst 1, 1) := by decide +kernel
theorem dX12_findsAll_51 : decode cX12_findsAll 51 = .ok (.iaload, 1) := by decide +kernel
theorem dX12_findsAll_52 : decode cX12_findsAll 52 = .ok (.imul, 1) := by decide +kernel
theorem dX12_findsAll_53 : decode cX12_findsAll 53 = .ok (.if_icmp .ge 91, 3) := by decide +kernel
theorem dX12_findsAll_56 : decode cX12_findsAll 56 = .ok (.aload_n 0, 1) := by decide +kernel
theorem dX12_findsAll_57 : decode cX12_findsAll 57 = .ok (.aload_n 0, 1) := by decide +kernel
theorem dX12_findsAll_58 : decode cX12_findsAll 58 = .ok (.getfield 72, 3) := by decide +kernel
theorem dX12_findsAll_61 : decode cX12_findsAll 61 = .ok (.iload_n 1, 1) := by decide +kernel
theorem dX12_findsAll_62 : decode cX12_findsAll 62 = .ok (.iaload, 1) := by decide +kernel
theorem dX12_findsAll_63 : decode cX12_findsAll 63 = .ok (.iload_n 2, 1) := by decide +kernel
theorem dX12_findsAll_64 : decode cX12_findsAll 64 = .ok (.iconst 3, 1) := by decide +kernel
theorem dX12_findsAll_65 : decode cX12_findsAll 65 = .ok (.idiv, 1) := by decide +kernel
theorem dX12_findsAll_66 : decode cX12_findsAll 66 = .ok (.iload_n 2, 1) := by decide +kernel
theorem dX12_findsAll_67 : decode cX12_findsAll 67 = .ok (.iconst 3, 1) := by decide +kernel
theorem dX12_findsAll_68 : decode cX12_findsAll 68 = .ok (.irem, 1) := by decide +kernel
theorem dX12_findsAll_69 : decode cX12_findsAll 69 = .ok (.invokevirtual 327, 3) := by decide +kernel
theorem dX12_findsAll_72 : decode cX12_findsAll 72 = .ok (.istore_n 3, 1) := by decide +kernel
theorem dX12_findsAll_73 : decode cX12_findsAll 73 = .ok (.aload_n 0, 1) := by decide +kernel
theorem dX12_findsAll_74 : decode cX12_findsAll 74 = .ok (.getfield 63, 3) := by decide +kernel
theorem dX12_findsAll_77 : decode cX12_findsAll 77 = .ok (.iload_n 3, 1) := by decide +kernel
theorem dX12_findsAll_78 : decode cX12_findsAll 78 = .ok (.iaload, 1) := by decide +kernel
theorem dX12_findsAll_79 : decode cX12_findsAll 79 = .ok (.aload_n 0, 1) := by decide +kernel
theorem dX12_findsAll_80 : decode cX12_findsAll 80 = .ok (.getfield 333, 3) := by decide +kernel
theorem dX12_findsAll_83 : decode cX12_findsAll 83 = .ok (.if_icmp .ne 6, 3) := by decide +kernel
theorem dX12_findsAll_86 : decode cX12_findsAll 86 = .ok (.goto 52, 3) := by decide +kernel
theorem dX12_findsAll_89 : decode cX12_findsAll 89 = .ok (.aload_n 0, 1) := by decide +kernel
theorem dX12_findsAll_90 : decode cX12_findsAll 90 = .ok (.getfield 63, 3) := by decide +kernel
theorem dX12_findsAll_93 : decode cX12_findsAll 93 = .ok (.iload_n 3, 1) := by decide +kernel
theorem dX12_findsAll_94 : decode cX12_findsAll 94 = .ok (.aload_n 0, 1) := by decide +kernel
theorem dX12_findsAll_95 : decode cX12_findsAll 95 = .ok (.getfield 333, 3) := by decide +kernel
theorem dX12_findsAll_98 : decode cX12_findsAll 98 = .ok (.iastore, 1) := by decide +kernel
theorem dX12_findsAll_99 : decode cX12_findsAll 99 = .ok (.aload_n 0, 1) := by decide +kernel
theorem dX12_findsAll_100 : decode cX12_findsAll 100 = .ok (.getfield 75, 3) := by decide +kernel
theorem dX12_findsAll_103 : decode cX12_findsAll 103 = .ok (.iload_n 3, 1) := by decide +kernel
theorem dX12_findsAll_104 : decode cX12_findsAll 104 = .ok (.aload_n 0, 1) := by decide +kernel
theorem dX12_findsAll_105 : decode cX12_findsAll 105 = .ok (.getfield 72, 3) := by decide +kernel
theorem dX12_findsAll_108 : decode cX12_findsAll 108 = .ok (.iload_n 1, 1) := by decide +kernel
theorem dX12_findsAll_109 : decode cX12_findsAll 109 = .ok (.iaload, 1) := by decide +kernel
theorem dX12_findsAll_110 : decode cX12_findsAll 110 = .ok (.iastore, 1) := by decide +kernel
theorem dX12_findsAll_111 : decode cX12_findsAll 111 = .ok (.aload_n 0, 1) := by decide +kernel
theorem dX12_findsAll_112 : decode cX12_findsAll 112 = .ok (.getfield 78, 3) := by decide +kernel
theorem dX12_findsAll_115 : decode cX12_findsAll 115 = .ok (.iload_n 3, 1) := by decide +kernel
theorem dX12_findsAll_116 : decode cX12_findsAll 116 = .ok (.iload_n 2, 1) := by decide +kernel
theorem dX12_findsAll_117 : decode cX12_findsAll 117 = .ok (.iastore, 1) := by decide +kernel
theorem dX12_findsAll_118 : decode cX12_findsAll 118 = .ok (.aload_n 0, 1) := by decide +kernel
theorem dX12_findsAll_119 : decode cX12_findsAll 119 = .ok (.getfield 72, 3) := by decide +kernel
theorem dX12_findsAll_122 : decode cX12_findsAll 122 = .ok (.aload_n 0, 1) := by decide +kernel
theorem dX12_findsAll_123 : decode cX12_findsAll 123 = .ok (.getfield 393, 3) := by decide +kernel
theorem dX12_findsAll_126 : decode cX12_findsAll 126 = .ok (.iload_n 3, 1) := by decide +kernel
theorem dX12_findsAll_127 : decode cX12_findsAll 127 = .ok (.iastore, 1) := by decide +kernel
theorem dX12_findsAll_128 : decode cX12_findsAll 128 = .ok (.aload_n 0, 1) := by decide +kernel
theorem dX12_findsAll_129 : decode cX12_findsAll 129 = .ok (.dup, 1) := by decide +kernel
theorem dX12_findsAll_130 : decode cX12_findsAll 130 = .ok (.getfield 393, 3) := by decide +kernel
theorem dX12_findsAll_133 : decode cX12_findsAll 133 = .ok (.iconst 1, 1) := by decide +kernel
theorem dX12_findsAll_134 : decode cX12_findsAll 134 = .ok (.iadd, 1) := by decide +kernel
theorem dX12_findsAll_135 : decode cX12_findsAll 135 = .ok (.putfield 393, 3) := by decide +kernel
theorem dX12_findsAll_138 : decode cX12_findsAll 138 = .ok (.iinc 2 1, 3) := by decide +kernel
theorem dX12_findsAll_141 : decode cX12_findsAll 141 = .ok (.goto (-97), 3) := by decide +kernel
theorem dX12_findsAll_144 : decode cX12_findsAll 144 = .ok (.iinc 1 1, 3) := by decide +kernel
theorem dX12_findsAll_147 : decode cX12_findsAll 147 = .ok (.goto (-113), 3) := by decide +kernel
theorem dX12_findsAll_150 : decode cX12_findsAll 150 = .ok (.return_, 1) := by decide +kernel
theorem mi_X12_findsAll : MI yX12_findsAll cX12_findsAll 4 (none : Option Jvm.ClassFile.FieldType) 0 := ⟨w_1929, w_118, by decide +kernel, by decide +kernel, by decide +kernel⟩
set_option maxRecDepth 100000 in
set_option maxHeartbeats 4000000 in
theorem C_X12_findsAll (G : GG) (l : Launch) (th : Nat) (S : St) (Q : (Nat → Nat → Int32) → Prop) (hp : P_X12_findsAll th S Q) : Ctr G l yX12_findsAll cX12_findsAll 4 (none : Option Jvm.ClassFile.FieldType) 3 75 0 0 [.ref th] S (fun (v : Option Value) (S9 : St) => ∃ (I9 : Nat → Nat → Int32), v = none ∧ S9 = wI S I9 ∧ Q I9) := by
  generalize hQQ : (fun (v : Option Value) (S9 : St) => ∃ (I9 : Nat → Nat → Int32), v = none ∧ S9 = wI S I9 ∧ Q I9) = QQ
  unfold P_X12_findsAll at hp
  refine Ctr.of (by decide) (Nat.le_of_ble_eq_true rfl) ?_
  intro p e s m args below meth c ls B hr hlk hin hl hH
  generalize hlocs0 : ([] : List Loc) = locs at hH ⊢
  have hx := B.1
  have hb := B.2.1
  have hl : lv_has ls 4 [(0, .ref th)] := hl
  obtain ⟨hk_th, hp⟩ := hp
  refine lv_aload_n (pc := 0) hx hb dX12_findsAll_0 rfl (lv_at hl 0 rfl) ?_
  refine lv_dup (pc := 1) hx hb dX12_findsAll_1 rfl ?_
  refine sx_getI (pc := 2) (j := 29) B hH hk_th coX12 rfl w_1333 rfl dX12_findsAll_2 ?_
  refine W.eq (g2 := F0 m 5 ls [.int (gI S th 29), .ref th]) rfl ?_
  refine lv_iconst (pc := 5) (v := 1) hx hb dX12_findsAll_5 (by decide) ?_
  refine lv_iadd (pc := 6) hx hb dX12_findsAll_6 ?_
  refine lv_topi (fun v_1 ev_1 => ?_)
  have hp := hp v_1 ev_1
  obtain ⟨F_2, eF_2⟩ : ∃ z : Nat → Nat → Int32, z = upI (gI S) th 29 v_1 := ⟨_, rfl⟩
  have hp := hp F_2 eF_2
  refine sx_putI (pc := 7) (j := 29) B hH hk_th coX12 rfl w_1333 rfl (Or.inl rfl) rfl dX12_findsAll_7 (fun H locs hH => ?_)
  have hH : Hp G (FA S s.heap.size) s.heap (wI S F_2) H locs := by rw [eF_2]; exact hH
  refine lv_aload_n (pc := 10) hx hb dX12_findsAll_10 rfl (lv_at hl 0 rfl) ?_
  refine sx_getR (pc := 11) (j := 38) B hH hk_th coX12 rfl w_1342 rfl dX12_findsAll_11 ?_
  refine W.eq (g2 := F0 m 14 ls [va_rf (gR S th 38)]) rfl ?_
  obtain ⟨a_3, ha_3, hp⟩ := hp
  refine sx_nonnull (x := a_3) ha_3 ?_
  refine lv_iconst (pc := 14) (v := 0) hx hb dX12_findsAll_14 (by decide) ?_
  refine lv_iconst (pc := 15) (v := 0) hx hb dX12_findsAll_15 (by decide) ?_
  obtain ⟨hk_4, hp⟩ := hp
  obtain ⟨hn_5, hp⟩ := hp
  obtain ⟨F_6, eF_6⟩ : ∃ z : Nat → Nat → Int32, z = upI F_2 a_3 0 0 := ⟨_, rfl⟩
  have hp := hp F_6 eF_6
  refine sx_iast (pc := 16) B hH hk_4 hn_5 dX12_findsAll_16 (fun H locs hH => ?_)
  have hH : Hp G (FA S s.heap.size) s.heap (wI S F_6) H locs := by rw [eF_6]; exact hH
  refine lv_aload_n (pc := 17) hx hb dX12_findsAll_17 rfl (lv_at hl 0 rfl) ?_
  refine sx_getR (pc := 18) (j := 28) B hH hk_th coX12 rfl w_1332 rfl dX12_findsAll_18 ?_
  refine W.eq (g2 := F0 m 21 ls [va_rf (gR S th 28)]) rfl ?_
  obtain ⟨a_7, ha_7, hp⟩ := hp
  refine sx_nonnull (x := a_7) ha_7 ?_
  refine lv_iconst (pc := 21) (v := 0) hx hb dX12_findsAll_21 (by decide) ?_
  refine lv_aload_n (pc := 22) hx hb dX12_findsAll_22 rfl (lv_at hl 0 rfl) ?_
  refine sx_getI (pc := 23) (j := 29) B hH hk_th coX12 rfl w_1333 rfl dX12_findsAll_23 ?_
  refine W.eq (g2 := F0 m 26 ls [.int (F_6 th 29), .int 0, .ref a_7]) rfl ?_
  obtain ⟨hk_8, hp⟩ := hp
  obtain ⟨hn_9, hp⟩ := hp
  refine lv_topi (fun v_10 ev_10 => ?_)
  have hp := hp v_10 ev_10
  obtain ⟨F_11, eF_11⟩ : ∃ z : Nat → Nat → Int32, z = upI F_6 a_7 0 v_10 := ⟨_, rfl⟩
  have hp := hp F_11 eF_11
  refine sx_iast (pc := 26) B hH hk_8 hn_9 dX12_findsAll_26 (fun H locs hH => ?_)
  have hH : Hp G (FA S s.heap.size) s.heap (wI S F_11) H locs := by rw [eF_11]; exact hH
  refine lv_aload_n (pc := 27) hx hb dX12_findsAll_27 rfl (lv_at hl 0 rfl) ?_
  refine lv_iconst (pc := 28) (v := 1) hx hb dX12_findsAll_28 (by decide) ?_
  obtain ⟨F_12, eF_12⟩ : ∃ z : Nat → Nat → Int32, z = upI F_11 th 41 1 := ⟨_, rfl⟩
  have hp := hp F_12 eF_12
  refine sx_putI (pc := 29) (j := 41) B hH hk_th coX12 rfl w_1345 rfl (Or.inl rfl) rfl dX12_findsAll_29 (fun H locs hH => ?_)
  have hH : Hp G (FA S s.heap.size) s.heap (wI S F_12) H locs := by rw [eF_12]; exact hH
  refine lv_iconst (pc := 32) (v := 0) hx hb dX12_findsAll_32 (by decide) ?_
  refine lv_istore_n (pc := 33) (lv' := [(1, .int 0), (0, .ref th)]) hx hb dX12_findsAll_33 rfl hl (by decide) rfl (fun ls hl => ?_)
  obtain ⟨I_13, ⟨k0_13, h0_13⟩, hst_13⟩ := hp
  have kl_13 : ∀ (n_13 : Nat) (x1_14 : Int32) (F_15 : Nat → Nat → Int32) (H : Heap) (locs : List Loc) (ls : Array Slot), I_13 n_13 x1_14 F_15 → Hp G (FA S s.heap.size) s.heap (wI S F_15) H locs → lv_has ls 4 [(0, .ref th), (1, .int x1_14)] → Wm G p l e { frames := 3, cells := 0, slots := 0, locals := 75 } s m args below meth c S QQ 0 0 H locs 0 0 (F0 m 34 ls []) := by
    intro n_13
    induction n_13 using Nat.strongRecOn with
    | ind n_13 ih_13 =>
      intro x1_14 F_15 H locs ls hq9 hH hl
      have hp := hst_13 n_13 x1_14 F_15 hq9
      refine lv_iload_n (pc := 34) hx hb dX12_findsAll_34 rfl (lv_at hl 1 rfl) ?_
      refine lv_aload_n (pc := 35) hx hb dX12_findsAll_35 rfl (lv_at hl 0 rfl) ?_
      refine sx_getI (pc := 36) (j := 41) B hH hk_th coX12 rfl w_1345 rfl dX12_findsAll_36 ?_
      refine W.eq (g2 := F0 m 39 ls [.int (F_15 th 41), .int x1_14]) rfl ?_
      refine lv_icmp_ge (pc := 39) (tgt := 150) hx hb dX12_findsAll_39 (by decide) (fun cc_16 => ?_) (fun cc_16 => ?_)
      · have hp := hp.1 cc_16
        exact sx_vret (pc := 150) B hH hr hlk (by rw [← hQQ]; exact ⟨F_15, rfl, rfl, hp⟩) (Nat.le_of_ble_eq_true rfl) (Nat.le_of_ble_eq_true rfl) dX12_findsAll_150
      · have hp := hp.2 cc_16
        refine lv_iconst (pc := 42) (v := 0) hx hb dX12_findsAll_42 (by decide) ?_
        refine lv_istore_n (pc := 43) (lv' := [(2, .int 0), (0, .ref th), (1, .int x1_14)]) hx hb dX12_findsAll_43 rfl hl (by decide) rfl (fun ls hl => ?_)
        obtain ⟨I_17, ⟨k0_17, h0_17⟩, hst_17⟩ := hp
        have kl_17 : ∀ (n_17 : Nat) (x2_18 : Int32) (F_19 : Nat → Nat → Int32) (H : Heap) (locs : List Loc) (ls : Array Slot), I_17 n_17 x2_18 F_19 → Hp G (FA S s.heap.size) s.heap (wI S F_19) H locs → lv_has ls 4 [(0, .ref th), (1, .int x1_14), (2, .int x2_18)] → Wm G p l e { frames := 3, cells := 0, slots := 0, locals := 75 } s m args below meth c S QQ 0 0 H locs 0 0 (F0 m 44 ls []) := by
          intro n_17
          induction n_17 using Nat.strongRecOn with
          | ind n_17 ih_17 =>
            intro x2_18 F_19 H locs ls hq9 hH hl
            have hp := hst_17 n_17 x2_18 F_19 hq9
            refine lv_iload_n (pc := 44) hx hb dX12_findsAll_44 rfl (lv_at hl 2 rfl) ?_
            refine lv_iconst (pc := 45) (v := 3) hx hb dX12_findsAll_45 (by decide) ?_
            refine lv_aload_n (pc := 46) hx hb dX12_findsAll_46 rfl (lv_at hl 0 rfl) ?_
            refine sx_getR (pc := 47) (j := 0) B hH hk_th coX12 rfl w_1304 rfl dX12_findsAll_47 ?_
            refine W.eq (g2 := F0 m 50 ls [va_rf (gR S th 0), .int 3, .int x2_18]) rfl ?_
            obtain ⟨a_20, ha_20, hp⟩ := hp
            refine sx_nonnull (x := a_20) ha_20 ?_
            refine lv_iconst (pc := 50) (v := 1) hx hb dX12_findsAll_50 (by decide) ?_
            obtain ⟨hk_21, hp⟩ := hp
            obtain ⟨hn_22, hp⟩ := hp
            refine sx_iald (pc := 51) B hH hk_21 hn_22 dX12_findsAll_51 ?_
            refine W.eq (g2 := F0 m 52 ls [.int (F_19 a_20 1), .int 3, .int x2_18]) rfl ?_
            refine lv_imul (pc := 52) hx hb dX12_findsAll_52 ?_
            refine lv_icmp_ge (pc := 53) (tgt := 144) hx hb dX12_findsAll_53 (by decide) (fun cc_23 => ?_) (fun cc_23 => ?_)
            · have hp := hp.1 cc_23
              obtain ⟨v_24, ev_24⟩ : ∃ y : Int32, y = x1_14 + 1 := ⟨_, rfl⟩
              have hp := hp v_24 ev_24
              refine lv_iinc (pc := 144) (v := v_24) (lv' := [(1, .int v_24), (0, .ref th), (2, .int x2_18)]) hx hb dX12_findsAll_144 hl (k := 1) rfl (by rw [ev_24]; rfl) (by decide) rfl (fun ls hl => ?_)
              refine lv_goto (pc := 147) (tgt := 34) hx hb dX12_findsAll_147 (by decide) ?_
              obtain ⟨k9, hlt9, hp⟩ := hp
              exact ih_13 k9 hlt9 _ _ _ _ _ hp hH (lv_sub hl [1, 0] rfl)
            · have hp := hp.2 cc_23
              refine lv_aload_n (pc := 56) hx hb dX12_findsAll_56 rfl (lv_at hl 0 rfl) ?_
              refine lv_aload_n (pc := 57) hx hb dX12_findsAll_57 rfl (lv_at hl 0 rfl) ?_
              refine sx_getR (pc := 58) (j := 38) B hH hk_th coX12 rfl w_1342 rfl dX12_findsAll_58 ?_
              refine W.eq (g2 := F0 m 61 ls [va_rf (gR S th 38), .ref th]) rfl ?_
              refine sx_nonnull (x := a_3) ha_3 ?_
              refine lv_iload_n (pc := 61) hx hb dX12_findsAll_61 rfl (lv_at hl 1 rfl) ?_
              obtain ⟨hn_25, hp⟩ := hp
              refine sx_iald (pc := 62) B hH hk_4 hn_25 dX12_findsAll_62 ?_
              refine W.eq (g2 := F0 m 63 ls [.int (F_19 a_3 x1_14.toNatClampNeg), .ref th]) rfl ?_
              refine lv_iload_n (pc := 63) hx hb dX12_findsAll_63 rfl (lv_at hl 2 rfl) ?_
              refine lv_iconst (pc := 64) (v := 3) hx hb dX12_findsAll_64 (by decide) ?_
              refine lv_idiv (pc := 65) hx hb dX12_findsAll_65 (by decide) ?_
              refine lv_iload_n (pc := 66) hx hb dX12_findsAll_66 rfl (lv_at hl 2 rfl) ?_
              refine lv_iconst (pc := 67) (v := 3) hx hb dX12_findsAll_67 (by decide) ?_
              refine lv_irem (pc := 68) hx hb dX12_findsAll_68 (by decide) ?_
              refine W.eq (g2 := F0 m 69 ls [.int (irm x2_18 3), .int (x2_18 / 3), .int (F_19 a_3 x1_14.toNatClampNeg), .ref th]) rfl ?_
              refine sx_V (pc := 69) (As := [.int (F_19 a_3 x1_14.toNatClampNeg), .int (x2_18 / 3), .int (irm x2_18 3)]) (rest := []) B hH hl.1 (C_X12_leadFrom G l th (F_19 a_3 x1_14.toNatClampNeg) (x2_18 / 3) (irm x2_18 3) _ _ hp) mi_X12_leadFrom coX12 hk_th w_1768 w_89 w_1766 rfl rfl ⟨Nat.le_of_ble_eq_true rfl, Nat.le_of_ble_eq_true rfl⟩ (Nat.le_of_ble_eq_true rfl) ⟨Nat.le_of_ble_eq_true rfl, Nat.le_of_ble_eq_true rfl⟩ dX12_findsAll_69 (fun v S1 H locs hq hH => ?_)
              obtain ⟨r_26, F_26, rfl, e9, hp⟩ := hq
              rw [e9] at hH
              have hH : Hp G (FA S s.heap.size) s.heap (wI S F_26) H locs := hH
              refine W.eq (g2 := F0 m 72 ls [.int r_26]) rfl ?_
              refine lv_istore_n (pc := 72) (lv' := [(3, .int r_26), (0, .ref th), (1, .int x1_14), (2, .int x2_18)]) hx hb dX12_findsAll_72 rfl hl (by decide) rfl (fun ls hl => ?_)
              refine lv_aload_n (pc := 73) hx hb dX12_findsAll_73 rfl (lv_at hl 1 rfl) ?_
              refine sx_getR (pc := 74) (j := 28) B hH hk_th coX12 rfl w_1332 rfl dX12_findsAll_74 ?_
              refine W.eq (g2 := F0 m 77 ls [va_rf (gR S th 28)]) rfl ?_
              refine sx_nonnull (x := a_7) ha_7 ?_
              refine lv_iload_n (pc := 77) hx hb dX12_findsAll_77 rfl (lv_at hl 0 rfl) ?_
              obtain ⟨hn_27, hp⟩ := hp
              refine sx_iald (pc := 78) B hH hk_8 hn_27 dX12_findsAll_78 ?_
              refine W.eq (g2 := F0 m 79 ls [.int (F_26 a_7 r_26.toNatClampNeg)]) rfl ?_
              refine lv_aload_n (pc := 79) hx hb dX12_findsAll_79 rfl (lv_at hl 1 rfl) ?_
              refine sx_getI (pc := 80) (j := 29) B hH hk_th coX12 rfl w_1333 rfl dX12_findsAll_80 ?_
              refine W.eq (g2 := F0 m 83 ls [.int (F_26 th 29), .int (F_26 a_7 r_26.toNatClampNeg)]) rfl ?_
              refine lv_icmp_ne (pc := 83) (tgt := 89) hx hb dX12_findsAll_83 (by decide) (fun cc_28 => ?_) (fun cc_28 => ?_)
              · have hp := hp.1 cc_28
                refine lv_aload_n (pc := 89) hx hb dX12_findsAll_89 rfl (lv_at hl 1 rfl) ?_
                refine sx_getR (pc := 90) (j := 28) B hH hk_th coX12 rfl w_1332 rfl dX12_findsAll_90 ?_
                refine W.eq (g2 := F0 m 93 ls [va_rf (gR S th 28)]) rfl ?_
                refine sx_nonnull (x := a_7) ha_7 ?_
                refine lv_iload_n (pc := 93) hx hb dX12_findsAll_93 rfl (lv_at hl 0 rfl) ?_
                refine lv_aload_n (pc := 94) hx hb dX12_findsAll_94 rfl (lv_at hl 1 rfl) ?_
                refine sx_getI (pc := 95) (j := 29) B hH hk_th coX12 rfl w_1333 rfl dX12_findsAll_95 ?_
                refine W.eq (g2 := F0 m 98 ls [.int (F_26 th 29), .int r_26, .ref a_7]) rfl ?_
                refine lv_topi (fun v_29 ev_29 => ?_)
                have hp := hp v_29 ev_29
                obtain ⟨F_30, eF_30⟩ : ∃ z : Nat → Nat → Int32, z = upI F_26 a_7 r_26.toNatClampNeg v_29 := ⟨_, rfl⟩
                have hp := hp F_30 eF_30
                refine sx_iast (pc := 98) B hH hk_8 hn_27 dX12_findsAll_98 (fun H locs hH => ?_)
                have hH : Hp G (FA S s.heap.size) s.heap (wI S F_30) H locs := by rw [eF_30]; exact hH
                refine lv_aload_n (pc := 99) hx hb dX12_findsAll_99 rfl (lv_at hl 1 rfl) ?_
                refine sx_getR (pc := 100) (j := 39) B hH hk_th coX12 rfl w_1343 rfl dX12_findsAll_100 ?_
                refine W.eq (g2 := F0 m 103 ls [va_rf (gR S th 39)]) rfl ?_
                obtain ⟨a_31, ha_31, hp⟩ := hp
                refine sx_nonnull (x := a_31) ha_31 ?_
                refine lv_iload_n (pc := 103) hx hb dX12_findsAll_103 rfl (lv_at hl 0 rfl) ?_
                refine lv_aload_n (pc := 104) hx hb dX12_findsAll_104 rfl (lv_at hl 1 rfl) ?_
                refine sx_getR (pc := 105) (j := 38) B hH hk_th coX12 rfl w_1342 rfl dX12_findsAll_105 ?_
                refine W.eq (g2 := F0 m 108 ls [va_rf (gR S th 38), .int r_26, .ref a_31]) rfl ?_
                refine sx_nonnull (x := a_3) ha_3 ?_
                refine lv_iload_n (pc := 108) hx hb dX12_findsAll_108 rfl (lv_at hl 2 rfl) ?_
                refine sx_iald (pc := 109) B hH hk_4 hn_25 dX12_findsAll_109 ?_
                refine W.eq (g2 := F0 m 110 ls [.int (F_30 a_3 x1_14.toNatClampNeg), .int r_26, .ref a_31]) rfl ?_
                obtain ⟨hk_32, hp⟩ := hp
                obtain ⟨hn_33, hp⟩ := hp
                refine lv_topi (fun v_34 ev_34 => ?_)
                have hp := hp v_34 ev_34
                obtain ⟨F_35, eF_35⟩ : ∃ z : Nat → Nat → Int32, z = upI F_30 a_31 r_26.toNatClampNeg v_34 := ⟨_, rfl⟩
                have hp := hp F_35 eF_35
                refine sx_iast (pc := 110) B hH hk_32 hn_33 dX12_findsAll_110 (fun H locs hH => ?_)
                have hH : Hp G (FA S s.heap.size) s.heap (wI S F_35) H locs := by rw [eF_35]; exact hH
                refine lv_aload_n (pc := 111) hx hb dX12_findsAll_111 rfl (lv_at hl 1 rfl) ?_
                refine sx_getR (pc := 112) (j := 40) B hH hk_th coX12 rfl w_1344 rfl dX12_findsAll_112 ?_
                refine W.eq (g2 := F0 m 115 ls [va_rf (gR S th 40)]) rfl ?_
                obtain ⟨a_36, ha_36, hp⟩ := hp
                refine sx_nonnull (x := a_36) ha_36 ?_
                refine lv_iload_n (pc := 115) hx hb dX12_findsAll_115 rfl (lv_at hl 0 rfl) ?_
                refine lv_iload_n (pc := 116) hx hb dX12_findsAll_116 rfl (lv_at hl 3 rfl) ?_
                obtain ⟨hk_37, hp⟩ := hp
                obtain ⟨hn_38, hp⟩ := hp
                obtain ⟨F_39, eF_39⟩ : ∃ z : Nat → Nat → Int32, z = upI F_35 a_36 r_26.toNatClampNeg x2_18 := ⟨_, rfl⟩
                have hp := hp F_39 eF_39
                refine sx_iast (pc := 117) B hH hk_37 hn_38 dX12_findsAll_117 (fun H locs hH => ?_)
                have hH : Hp G (FA S s.heap.size) s.heap (wI S F_39) H locs := by rw [eF_39]; exact hH
                refine lv_aload_n (pc := 118) hx hb dX12_findsAll_118 rfl (lv_at hl 1 rfl) ?_
                refine sx_getR (pc := 119) (j := 38) B hH hk_th coX12 rfl w_1342 rfl dX12_findsAll_119 ?_
                refine W.eq (g2 := F0 m 122 ls [va_rf (gR S th 38)]) rfl ?_
                refine sx_nonnull (x := a_3) ha_3 ?_
                refine lv_aload_n (pc := 122) hx hb dX12_findsAll_122 rfl (lv_at hl 1 rfl) ?_
                refine sx_getI (pc := 123) (j := 41) B hH hk_th coX12 rfl w_1345 rfl dX12_findsAll_123 ?_
                refine W.eq (g2 := F0 m 126 ls [.int (F_39 th 41), .ref a_3]) rfl ?_
                refine lv_iload_n (pc := 126) hx hb dX12_findsAll_126 rfl (lv_at hl 0 rfl) ?_
                obtain ⟨hn_40, hp⟩ := hp
                obtain ⟨F_41, eF_41⟩ : ∃ z : Nat → Nat → Int32, z = upI F_39 a_3 ((F_39 th 41).toNatClampNeg) r_26 := ⟨_, rfl⟩
                have hp := hp F_41 eF_41
                refine sx_iast (pc := 127) B hH hk_4 hn_40 dX12_findsAll_127 (fun H locs hH => ?_)
                have hH : Hp G (FA S s.heap.size) s.heap (wI S F_41) H locs := by rw [eF_41]; exact hH
                refine lv_aload_n (pc := 128) hx hb dX12_findsAll_128 rfl (lv_at hl 1 rfl) ?_
                refine lv_dup (pc := 129) hx hb dX12_findsAll_129 rfl ?_
                refine sx_getI (pc := 130) (j := 41) B hH hk_th coX12 rfl w_1345 rfl dX12_findsAll_130 ?_
                refine W.eq (g2 := F0 m 133 ls [.int (F_41 th 41), .ref th]) rfl ?_
                refine lv_iconst (pc := 133) (v := 1) hx hb dX12_findsAll_133 (by decide) ?_
                refine lv_iadd (pc := 134) hx hb dX12_findsAll_134 ?_
                refine lv_topi (fun v_42 ev_42 => ?_)
                have hp := hp v_42 ev_42
                obtain ⟨F_43, eF_43⟩ : ∃ z : Nat → Nat → Int32, z = upI F_41 th 41 v_42 := ⟨_, rfl⟩
                have hp := hp F_43 eF_43
                refine sx_putI (pc := 135) (j := 41) B hH hk_th coX12 rfl w_1345 rfl (Or.inl rfl) rfl dX12_findsAll_135 (fun H locs hH => ?_)
                have hH : Hp G (FA S s.heap.size) s.heap (wI S F_43) H locs := by rw [eF_43]; exact hH
                obtain ⟨v_44, ev_44⟩ : ∃ y : Int32, y = x2_18 + 1 := ⟨_, rfl⟩
                have hp := hp v_44 ev_44
                refine lv_iinc (pc := 138) (v := v_44) (lv' := [(2, .int v_44), (3, .int r_26), (0, .ref th), (1, .int x1_14)]) hx hb dX12_findsAll_138 hl (k := 3) rfl (by rw [ev_44]; rfl) (by decide) rfl (fun ls hl => ?_)
                refine lv_goto (pc := 141) (tgt := 44) hx hb dX12_findsAll_141 (by decide) ?_
                obtain ⟨k9, hlt9, hp⟩ := hp
                exact ih_17 k9 hlt9 _ _ _ _ _ hp hH (lv_sub hl [2, 3, 0] rfl)
              · have hp := hp.2 cc_28
                refine lv_goto (pc := 86) (tgt := 138) hx hb dX12_findsAll_86 (by decide) ?_
                obtain ⟨v_45, ev_45⟩ : ∃ y : Int32, y = x2_18 + 1 := ⟨_, rfl⟩
                have hp := hp v_45 ev_45
                refine lv_iinc (pc := 138) (v := v_45) (lv' := [(2, .int v_45), (3, .int r_26), (0, .ref th), (1, .int x1_14)]) hx hb dX12_findsAll_138 hl (k := 3) rfl (by rw [ev_45]; rfl) (by decide) rfl (fun ls hl => ?_)
                refine lv_goto (pc := 141) (tgt := 44) hx hb dX12_findsAll_141 (by decide) ?_
                obtain ⟨k9, hlt9, hp⟩ := hp
                exact ih_17 k9 hlt9 _ _ _ _ _ hp hH (lv_sub hl [2, 3, 0] rfl)
        exact kl_17 k0_17 _ _ _ _ _ h0_17 hH (lv_sub hl [1, 2, 0] rfl)
  exact kl_13 k0_13 _ _ _ _ _ h0_13 hH (lv_sub hl [1, 0] rfl)
theorem dX12_way_0 : decode cX12_way 0 = .ok (.aload_n 0, 1) := by decide +kernel
theorem dX12_way_1 : decode cX12_way 1 = .ok (.iload_n 1, 1) := by decide +kernel
theorem dX12_way_2 : decode cX12_way 2 = .ok (.invokevirtual 277, 3) := by decide +kernel
theorem dX12_way_5 : decode cX12_way 5 = .ok (.ifCond .ne 9, 3) := by decide +kernel
theorem dX12_way_8 : decode cX12_way 8 = .ok (.aload_n 0, 1) := by decide +kernel
theorem dX12_way_9 : decode cX12_way 9 = .ok (.iconst 1, 1) := by decide +kernel
theorem dX12_way_10 : decode cX12_way 10 = .ok (.invokevirtual 105, 3) := by decide +kernel
theorem dX12_way_13 : decode cX12_way 13 = .ok (.ireturn, 1) := by decide +kernel
theorem dX12_way_14 : decode cX12_way 14 = .ok (.aload_n 0, 1) := by decide +kernel
theorem dX12_way_15 : decode cX12_way 15 = .ok (.invokevirtual 396, 3) := by decide +kernel
theorem dX12_way_18 : decode cX12_way 18 = .ok (.aload_n 0, 1) := by decide +kernel
theorem dX12_way_19 : decode cX12_way 19 = .ok (.getfield 63, 3) := by decide +kernel
theorem dX12_way_22 : decode cX12_way 22 = .ok (.iload_n 1, 1) := by decide +kernel
theorem dX12_way_23 : decode cX12_way 23 = .ok (.iaload, 1) := by decide +kernel
theorem dX12_way_24 : decode cX12_way 24 = .ok (.aload_n 0, 1) := by decide +kernel
theorem dX12_way_25 : decode cX12_way 25 = .ok (.getfield 333, 3) := by decide +kernel
theorem dX12_way_28 : decode cX12_way 28 = .ok (.if_icmp .eq 10, 3) := by decide +kernel
theorem dX12_way_31 : decode cX12_way 31 = .ok (.aload_n 0, 1) := by decide +kernel
theorem dX12_way_32 : decode cX12_way 32 = .ok (.bipush 6, 2) := by decide +kernel
theorem dX12_way_34 : decode cX12_way 34 = .ok (.invokevirtual 105, 3) := by decide +kernel
theorem dX12_way_37 : decode cX12_way 37 = .ok (.ireturn, 1) := by decide +kernel
theorem dX12_way_38 : decode cX12_way 38 = .ok (.iconst 0, 1) := by decide +kernel
theorem dX12_way_39 : decode cX12_way 39 = .ok (.istore_n 2, 1) := by decide +kernel
theorem dX12_way_40 : decode cX12_way 40 = .ok (.iload_n 1, 1) := by decide +kernel
theorem dX12_way_41 : decode cX12_way 41 = .ok (.istore_n 3, 1) := by decide +kernel
theorem dX12_way_42 : decode cX12_way 42 = .ok (.iload_n 3, 1) := by decide +kernel
theorem dX12_way_43 : decode cX12_way 43 = .ok (.ifCond .eq 16, 3) := by decide +kernel
theorem dX12_way_46 : decode cX12_way 46 = .ok (.iinc 2 1, 3) := by decide +kernel
theorem dX12_way_49 : decode cX12_way 49 = .ok (.aload_n 0, 1) := by decide +kernel
theorem dX12_way_50 : decode cX12_way 50 = .ok (.getfield 75, 3) := by decide +kernel
theorem dX12_way_53 : decode cX12_way 53 = .ok (.iload_n 3, 1) := by decide +kernel
theorem dX12_way_54 : decode cX12_way 54 = .ok (.iaload, 1) := by decide +kernel
theorem dX12_way_55 : decode cX12_way 55 = .ok (.istore_n 3, 1) := by decide +kernel
theorem dX12_way_56 : decode cX12_way 56 = .ok (.goto (-14), 3) := by decide +kernel
theorem dX12_way_59 : decode cX12_way 59 = .ok (.aload_n 0, 1) := by decide +kernel
theorem dX12_way_60 : decode cX12_way 60 = .ok (.iload_n 2, 1) := by decide +kernel
theorem dX12_way_61 : decode cX12_way 61 = .ok (.putfield 84, 3) := by decide +kernel
theorem dX12_way_64 : decode cX12_way 64 = .ok (.iload_n 2, 1) := by decide +kernel
theorem dX12_way_65 : decode cX12_way 65 = .ok (.iconst 1, 1) := by decide +kernel
theorem dX12_way_66 : decode cX12_way 66 = .ok (.isub, 1) := by decide +kernel
theorem dX12_way_67 : decode cX12_way 67 = .ok (.istore_n 3, 1) := by decide +kernel
theorem dX12_way_68 : decode cX12_way 68 = .ok (.iload_n 1, 1) := by decide +kernel
theorem dX12_way_69 : decode cX12_way 69 = .ok (.istore 4, 2) := by decide +kernel
theorem dX12_way_71 : decode cX12_way 71 = .ok (.iload 4, 2) := by decide +kernel
theorem dX12_way_73 : decode cX12_way 73 = .ok (.ifCond .eq 31, 3) := by decide +kernel
theorem dX12_way_76 : decode cX12_way 76 = .ok (.aload_n 0, 1) := by decide +kernel
theorem dX12_way_77 : decode cX12_way 77 = .ok (.getfield 81, 3) := by decide +kernel
theorem dX12_way_80 : decode cX12_way 80 = .ok (.iload_n 3, 1) := by decide +kernel
theorem dX12_way_81 : decode cX12_way 81 = .ok (.aload_n 0, 1) := by decide +kernel
theorem dX12_way_82 : decode cX12_way 82 = .ok (.getfield 78, 3) := by decide +kernel
theorem dX12_way_85 : decode cX12_way 85 = .ok (.iload 4, 2) := by decide +kernel
theorem dX12_way_87 : decode cX12_way 87 = .ok (.iaload, 1) := by decide +kernel
theorem dX12_way_88 : decode cX12_way 88 = .ok (.iastore, 1) := by decide +kernel
theorem dX12_way_89 : decode cX12_way 89 = .ok (.iinc 3 (-1), 3) := by decide +kernel
theorem dX12_way_92 : decode cX12_way 92 = .ok (.aload_n 0, 1) := by decide +kernel
theorem dX12_way_93 : decode cX12_way 93 = .ok (.getfield 75, 3) := by decide +kernel
theorem dX12_way_96 : decode cX12_way 96 = .ok (.iload 4, 2) := by decide +kernel
theorem dX12_way_98 : decode cX12_way 98 = .ok (.iaload, 1) := by decide +kernel
theorem dX12_way_99 : decode cX12_way 99 = .ok (.istore 4, 2) := by decide +kernel
theorem dX12_way_101 : decode cX12_way 101 = .ok (.goto (-30), 3) := by decide +kernel
theorem dX12_way_104 : decode cX12_way 104 = .ok (.aload_n 0, 1) := by decide +kernel
theorem dX12_way_105 : decode cX12_way 105 = .ok (.iload_n 2, 1) := by decide +kernel
theorem dX12_way_106 : decode cX12_way 106 = .ok (.invokevirtual 109, 3) := by decide +kernel
theorem dX12_way_109 : decode cX12_way 109 = .ok (.ireturn, 1) := by decide +kernel
theorem mi_X12_way : MI yX12_way cX12_way 5 (some FieldType.int) 1 := ⟨w_1925, w_118, by decide +kernel, by decide +kernel, by decide +kernel⟩
set_option maxRecDepth 100000 in
set_option maxHeartbeats 4000000 in
theorem C_X12_way (G : GG) (l : Launch) (th : Nat) (p0 : Int32) (S : St) (Q : Int32 → (Nat → Nat → Int32) → Prop) (hp : P_X12_way th p0 S Q) : Ctr G l yX12_way cX12_way 5 (some FieldType.int) 4 98 0 0 [.ref th, .int p0] S (fun (v : Option Value) (S9 : St) => ∃ (r : Int32) (I9 : Nat → Nat → Int32), v = some (.int r) ∧ S9 = wI S I9 ∧ Q r I9) := by
  generalize hQQ : (fun (v : Option Value) (S9 : St) => ∃ (r : Int32) (I9 : Nat → Nat → Int32), v = some (.int r) ∧ S9 = wI S I9 ∧ Q r I9) = QQ
  unfold P_X12_way at hp
  refine Ctr.of (by decide) (Nat.le_of_ble_eq_true rfl) ?_
  intro p e s m args below meth c ls B hr hlk hin hl hH
  generalize hlocs0 : ([] : List Loc) = locs at hH ⊢
  have hx := B.1
  have hb := B.2.1
  have hl : lv_has ls 5 [(0, .ref th), (1, .int p0)] := hl
  obtain ⟨hk_th, hp⟩ := hp
  refine lv_aload_n (pc := 0) hx hb dX12_way_0 rfl (lv_at hl 0 rfl) ?_
  refine lv_iload_n (pc := 1) hx hb dX12_way_1 rfl (lv_at hl 1 rfl) ?_
  refine sx_V (pc := 2) (As := [.int p0]) (rest := []) B hH hl.1 (C_X12_isRow G l th p0 _ _ hp) mi_X12_isRow coX12 hk_th w_1649 w_74 w_1647 rfl rfl ⟨Nat.le_of_ble_eq_true rfl, Nat.le_of_ble_eq_true rfl⟩ (Nat.le_of_ble_eq_true rfl) ⟨Nat.le_of_ble_eq_true rfl, Nat.le_of_ble_eq_true rfl⟩ dX12_way_2 (fun v S1 H locs hq hH => ?_)
  obtain ⟨r_1, rfl, e9, hp⟩ := hq
  rw [e9] at hH
  refine W.eq (g2 := F0 m 5 ls [.int r_1]) rfl ?_
  refine lv_if_ne (pc := 5) (tgt := 14) hx hb dX12_way_5 (by decide) (fun cc_2 => ?_) (fun cc_2 => ?_)
  · have hp := hp.1 cc_2
    refine lv_aload_n (pc := 14) hx hb dX12_way_14 rfl (lv_at hl 0 rfl) ?_
    refine sx_V (pc := 15) (As := []) (rest := []) B hH hl.1 (C_X12_findsAll G l th _ _ hp) mi_X12_findsAll coX12 hk_th w_1928 w_101 w_1926 rfl rfl ⟨Nat.le_of_ble_eq_true rfl, Nat.le_of_ble_eq_true rfl⟩ (Nat.le_of_ble_eq_true rfl) ⟨Nat.le_of_ble_eq_true rfl, Nat.le_of_ble_eq_true rfl⟩ dX12_way_15 (fun v S1 H locs hq hH => ?_)
    obtain ⟨F_3, rfl, e9, hp⟩ := hq
    rw [e9] at hH
    have hH : Hp G (FA S s.heap.size) s.heap (wI S F_3) H locs := hH
    refine W.eq (g2 := F0 m 18 ls []) rfl ?_
    refine lv_aload_n (pc := 18) hx hb dX12_way_18 rfl (lv_at hl 0 rfl) ?_
    refine sx_getR (pc := 19) (j := 28) B hH hk_th coX12 rfl w_1332 rfl dX12_way_19 ?_
    refine W.eq (g2 := F0 m 22 ls [va_rf (gR S th 28)]) rfl ?_
    obtain ⟨a_4, ha_4, hp⟩ := hp
    refine sx_nonnull (x := a_4) ha_4 ?_
    refine lv_iload_n (pc := 22) hx hb dX12_way_22 rfl (lv_at hl 1 rfl) ?_
    obtain ⟨hk_5, hp⟩ := hp
    obtain ⟨hn_6, hp⟩ := hp
    refine sx_iald (pc := 23) B hH hk_5 hn_6 dX12_way_23 ?_
    refine W.eq (g2 := F0 m 24 ls [.int (F_3 a_4 p0.toNatClampNeg)]) rfl ?_
    refine lv_aload_n (pc := 24) hx hb dX12_way_24 rfl (lv_at hl 0 rfl) ?_
    refine sx_getI (pc := 25) (j := 29) B hH hk_th coX12 rfl w_1333 rfl dX12_way_25 ?_
    refine W.eq (g2 := F0 m 28 ls [.int (F_3 th 29), .int (F_3 a_4 p0.toNatClampNeg)]) rfl ?_
    refine lv_icmp_eq (pc := 28) (tgt := 38) hx hb dX12_way_28 (by decide) (fun cc_7 => ?_) (fun cc_7 => ?_)
    · have hp := hp.1 cc_7
      refine lv_iconst (pc := 38) (v := 0) hx hb dX12_way_38 (by decide) ?_
      refine lv_istore_n (pc := 39) (lv' := [(2, .int 0), (0, .ref th), (1, .int p0)]) hx hb dX12_way_39 rfl hl (by decide) rfl (fun ls hl => ?_)
      refine lv_iload_n (pc := 40) hx hb dX12_way_40 rfl (lv_at hl 2 rfl) ?_
      refine lv_istore_n (pc := 41) (lv' := [(3, .int p0), (2, .int 0), (0, .ref th), (1, .int p0)]) hx hb dX12_way_41 rfl hl (by decide) rfl (fun ls hl => ?_)
      obtain ⟨I_8, ⟨k0_8, h0_8⟩, hst_8⟩ := hp
      have kl_8 : ∀ (n_8 : Nat) (x2_9 : Int32) (x3_10 : Int32) (H : Heap) (locs : List Loc) (ls : Array Slot), I_8 n_8 x2_9 x3_10 → Hp G (FA S s.heap.size) s.heap (wI S F_3) H locs → lv_has ls 5 [(0, .ref th), (1, .int p0), (2, .int x2_9), (3, .int x3_10)] → Wm G p l e { frames := 4, cells := 0, slots := 0, locals := 98 } s m args below meth c S QQ 0 0 H locs 0 0 (F0 m 42 ls []) := by
        intro n_8
        induction n_8 using Nat.strongRecOn with
        | ind n_8 ih_8 =>
          intro x2_9 x3_10 H locs ls hq9 hH hl
          have hp := hst_8 n_8 x2_9 x3_10 hq9
          refine lv_iload_n (pc := 42) hx hb dX12_way_42 rfl (lv_at hl 3 rfl) ?_
          refine lv_if_eq (pc := 43) (tgt := 59) hx hb dX12_way_43 (by decide) (fun cc_11 => ?_) (fun cc_11 => ?_)
          · have hp := hp.1 cc_11
            refine lv_aload_n (pc := 59) hx hb dX12_way_59 rfl (lv_at hl 0 rfl) ?_
            refine lv_iload_n (pc := 60) hx hb dX12_way_60 rfl (lv_at hl 2 rfl) ?_
            obtain ⟨F_12, eF_12⟩ : ∃ z : Nat → Nat → Int32, z = upI F_3 th 43 x2_9 := ⟨_, rfl⟩
            have hp := hp F_12 eF_12
            refine sx_putI (pc := 61) (j := 43) B hH hk_th coX12 rfl w_1347 rfl (Or.inl rfl) rfl dX12_way_61 (fun H locs hH => ?_)
            have hH : Hp G (FA S s.heap.size) s.heap (wI S F_12) H locs := by rw [eF_12]; exact hH
            refine lv_iload_n (pc := 64) hx hb dX12_way_64 rfl (lv_at hl 2 rfl) ?_
            refine lv_iconst (pc := 65) (v := 1) hx hb dX12_way_65 (by decide) ?_
            refine lv_isub (pc := 66) hx hb dX12_way_66 ?_
            refine lv_topi (fun v_13 ev_13 => ?_)
            have hp := hp v_13 ev_13
            refine lv_istore_n (pc := 67) (lv' := [(3, .int v_13), (0, .ref th), (1, .int p0), (2, .int x2_9)]) hx hb dX12_way_67 rfl hl (by decide) rfl (fun ls hl => ?_)
            refine lv_iload_n (pc := 68) hx hb dX12_way_68 rfl (lv_at hl 2 rfl) ?_
            refine lv_istore (pc := 69) (lv' := [(4, .int p0), (3, .int v_13), (0, .ref th), (1, .int p0), (2, .int x2_9)]) hx hb dX12_way_69 hl (by decide) rfl (fun ls hl => ?_)
            obtain ⟨I_14, ⟨k0_14, h0_14⟩, hst_14⟩ := hp
            have kl_14 : ∀ (n_14 : Nat) (x3_15 : Int32) (x4_16 : Int32) (F_17 : Nat → Nat → Int32) (H : Heap) (locs : List Loc) (ls : Array Slot), I_14 n_14 x3_15 x4_16 F_17 → Hp G (FA S s.heap.size) s.heap (wI S F_17) H locs → lv_has ls 5 [(0, .ref th), (2, .int x2_9), (3, .int x3_15), (4, .int x4_16)] → Wm G p l e { frames := 4, cells := 0, slots := 0, locals := 98 } s m args below meth c S QQ 0 0 H locs 0 0 (F0 m 71 ls []) := by
              intro n_14
              induction n_14 using Nat.strongRecOn with
              | ind n_14 ih_14 =>
                intro x3_15 x4_16 F_17 H locs ls hq9 hH hl
                have hp := hst_14 n_14 x3_15 x4_16 F_17 hq9
                refine lv_iload (pc := 71) hx hb dX12_way_71 (lv_at hl 3 rfl) ?_
                refine lv_if_eq (pc := 73) (tgt := 104) hx hb dX12_way_73 (by decide) (fun cc_18 => ?_) (fun cc_18 => ?_)
                · have hp := hp.1 cc_18
                  refine lv_aload_n (pc := 104) hx hb dX12_way_104 rfl (lv_at hl 0 rfl) ?_
                  refine lv_iload_n (pc := 105) hx hb dX12_way_105 rfl (lv_at hl 1 rfl) ?_
                  refine sx_V (pc := 106) (As := [.int x2_9]) (rest := []) B hH hl.1 (C_X12_gives G l th x2_9 _ _ hp) mi_X12_gives coX12 hk_th w_1617 w_69 w_1615 rfl rfl ⟨Nat.le_of_ble_eq_true rfl, Nat.le_of_ble_eq_true rfl⟩ (Nat.le_of_ble_eq_true rfl) ⟨Nat.le_of_ble_eq_true rfl, Nat.le_of_ble_eq_true rfl⟩ dX12_way_106 (fun v S1 H locs hq hH => ?_)
                  obtain ⟨r_19, F_19, rfl, e9, hp⟩ := hq
                  rw [e9] at hH
                  have hH : Hp G (FA S s.heap.size) s.heap (wI S F_19) H locs := hH
                  refine W.eq (g2 := F0 m 109 ls [.int r_19]) rfl ?_
                  exact sx_iret (pc := 109) B hH hr hlk (by rw [← hQQ]; exact ⟨_, F_19, rfl, rfl, hp⟩) (Nat.le_of_ble_eq_true rfl) (Nat.le_of_ble_eq_true rfl) dX12_way_109
                · have hp := hp.2 cc_18
                  refine lv_aload_n (pc := 76) hx hb dX12_way_76 rfl (lv_at hl 0 rfl) ?_
                  refine sx_getR (pc := 77) (j := 42) B hH hk_th coX12 rfl w_1346 rfl dX12_way_77 ?_
                  refine W.eq (g2 := F0 m 80 ls [va_rf (gR S th 42)]) rfl ?_
                  obtain ⟨a_20, ha_20, hp⟩ := hp
                  refine sx_nonnull (x := a_20) ha_20 ?_
                  refine lv_iload_n (pc := 80) hx hb dX12_way_80 rfl (lv_at hl 2 rfl) ?_
                  refine lv_aload_n (pc := 81) hx hb dX12_way_81 rfl (lv_at hl 0 rfl) ?_
                  refine sx_getR (pc := 82) (j := 40) B hH hk_th coX12 rfl w_1344 rfl dX12_way_82 ?_
                  refine W.eq (g2 := F0 m 85 ls [va_rf (gR S th 40), .int x3_15, .ref a_20]) rfl ?_
                  obtain ⟨a_21, ha_21, hp⟩ := hp
                  refine sx_nonnull (x := a_21) ha_21 ?_
                  refine lv_iload (pc := 85) hx hb dX12_way_85 (lv_at hl 3 rfl) ?_
                  obtain ⟨hk_22, hp⟩ := hp
                  obtain ⟨hn_23, hp⟩ := hp
                  refine sx_iald (pc := 87) B hH hk_22 hn_23 dX12_way_87 ?_
                  refine W.eq (g2 := F0 m 88 ls [.int (F_17 a_21 x4_16.toNatClampNeg), .int x3_15, .ref a_20]) rfl ?_
                  obtain ⟨hk_24, hp⟩ := hp
                  obtain ⟨hn_25, hp⟩ := hp
                  refine lv_topi (fun v_26 ev_26 => ?_)
                  have hp := hp v_26 ev_26
                  obtain ⟨F_27, eF_27⟩ : ∃ z : Nat → Nat → Int32, z = upI F_17 a_20 x3_15.toNatClampNeg v_26 := ⟨_, rfl⟩
                  have hp := hp F_27 eF_27
                  refine sx_iast (pc := 88) B hH hk_24 hn_25 dX12_way_88 (fun H locs hH => ?_)
                  have hH : Hp G (FA S s.heap.size) s.heap (wI S F_27) H locs := by rw [eF_27]; exact hH
                  obtain ⟨v_28, ev_28⟩ : ∃ y : Int32, y = x3_15 + (-1) := ⟨_, rfl⟩
                  have hp := hp v_28 ev_28
                  refine lv_iinc (pc := 89) (v := v_28) (lv' := [(3, .int v_28), (0, .ref th), (2, .int x2_9), (4, .int x4_16)]) hx hb dX12_way_89 hl (k := 2) rfl (by rw [ev_28]; rfl) (by decide) rfl (fun ls hl => ?_)
                  refine lv_aload_n (pc := 92) hx hb dX12_way_92 rfl (lv_at hl 1 rfl) ?_
                  refine sx_getR (pc := 93) (j := 39) B hH hk_th coX12 rfl w_1343 rfl dX12_way_93 ?_
                  refine W.eq (g2 := F0 m 96 ls [va_rf (gR S th 39)]) rfl ?_
                  obtain ⟨a_29, ha_29, hp⟩ := hp
                  refine sx_nonnull (x := a_29) ha_29 ?_
                  refine lv_iload (pc := 96) hx hb dX12_way_96 (lv_at hl 3 rfl) ?_
                  obtain ⟨hk_30, hp⟩ := hp
                  obtain ⟨hn_31, hp⟩ := hp
                  refine sx_iald (pc := 98) B hH hk_30 hn_31 dX12_way_98 ?_
                  refine W.eq (g2 := F0 m 99 ls [.int (F_27 a_29 x4_16.toNatClampNeg)]) rfl ?_
                  refine lv_topi (fun v_32 ev_32 => ?_)
                  have hp := hp v_32 ev_32
                  refine lv_istore (pc := 99) (lv' := [(4, .int v_32), (3, .int v_28), (0, .ref th), (2, .int x2_9)]) hx hb dX12_way_99 hl (by decide) rfl (fun ls hl => ?_)
                  refine lv_goto (pc := 101) (tgt := 71) hx hb dX12_way_101 (by decide) ?_
                  obtain ⟨k9, hlt9, hp⟩ := hp
                  exact ih_14 k9 hlt9 _ _ _ _ _ _ hp hH (lv_sub hl [2, 3, 1, 0] rfl)
            exact kl_14 k0_14 _ _ _ _ _ _ h0_14 hH (lv_sub hl [2, 4, 1, 0] rfl)
          · have hp := hp.2 cc_11
            obtain ⟨v_33, ev_33⟩ : ∃ y : Int32, y = x2_9 + 1 := ⟨_, rfl⟩
            have hp := hp v_33 ev_33
            refine lv_iinc (pc := 46) (v := v_33) (lv' := [(2, .int v_33), (0, .ref th), (1, .int p0), (3, .int x3_10)]) hx hb dX12_way_46 hl (k := 2) rfl (by rw [ev_33]; rfl) (by decide) rfl (fun ls hl => ?_)
            refine lv_aload_n (pc := 49) hx hb dX12_way_49 rfl (lv_at hl 1 rfl) ?_
            refine sx_getR (pc := 50) (j := 39) B hH hk_th coX12 rfl w_1343 rfl dX12_way_50 ?_
            refine W.eq (g2 := F0 m 53 ls [va_rf (gR S th 39)]) rfl ?_
            obtain ⟨a_34, ha_34, hp⟩ := hp
            refine sx_nonnull (x := a_34) ha_34 ?_
            refine lv_iload_n (pc := 53) hx hb dX12_way_53 rfl (lv_at hl 3 rfl) ?_
            obtain ⟨hk_35, hp⟩ := hp
            obtain ⟨hn_36, hp⟩ := hp
            refine sx_iald (pc := 54) B hH hk_35 hn_36 dX12_way_54 ?_
            refine W.eq (g2 := F0 m 55 ls [.int (F_3 a_34 x3_10.toNatClampNeg)]) rfl ?_
            refine lv_topi (fun v_37 ev_37 => ?_)
            have hp := hp v_37 ev_37
            refine lv_istore_n (pc := 55) (lv' := [(3, .int v_37), (2, .int v_33), (0, .ref th), (1, .int p0)]) hx hb dX12_way_55 rfl hl (by decide) rfl (fun ls hl => ?_)
            refine lv_goto (pc := 56) (tgt := 42) hx hb dX12_way_56 (by decide) ?_
            obtain ⟨k9, hlt9, hp⟩ := hp
            exact ih_8 k9 hlt9 _ _ _ _ _ hp hH (lv_sub hl [2, 3, 1, 0] rfl)
      exact kl_8 k0_8 _ _ _ _ _ h0_8 hH (lv_sub hl [2, 3, 1, 0] rfl)
    · have hp := hp.2 cc_7
      refine lv_aload_n (pc := 31) hx hb dX12_way_31 rfl (lv_at hl 0 rfl) ?_
      refine lv_bipush (pc := 32) (v := 6) hx hb dX12_way_32 (by decide) ?_
      refine sx_V (pc := 34) (As := [.int 6]) (rest := []) B hH hl.1 (C_X12_refuse G l th 6 _ _ hp) mi_X12_refuse coX12 hk_th w_1539 w_51 w_1537 rfl rfl ⟨Nat.le_of_ble_eq_true rfl, Nat.le_of_ble_eq_true rfl⟩ (Nat.le_of_ble_eq_true rfl) ⟨Nat.le_of_ble_eq_true rfl, Nat.le_of_ble_eq_true rfl⟩ dX12_way_34 (fun v S1 H locs hq hH => ?_)
      obtain ⟨r_38, F_38, rfl, e9, hp⟩ := hq
      rw [e9] at hH
      have hH : Hp G (FA S s.heap.size) s.heap (wI S F_38) H locs := hH
      refine W.eq (g2 := F0 m 37 ls [.int r_38]) rfl ?_
      exact sx_iret (pc := 37) B hH hr hlk (by rw [← hQQ]; exact ⟨_, F_38, rfl, rfl, hp⟩) (Nat.le_of_ble_eq_true rfl) (Nat.le_of_ble_eq_true rfl) dX12_way_37
  · have hp := hp.2 cc_2
    refine lv_aload_n (pc := 8) hx hb dX12_way_8 rfl (lv_at hl 0 rfl) ?_
    refine lv_iconst (pc := 9) (v := 1) hx hb dX12_way_9 (by decide) ?_
    refine sx_V (pc := 10) (As := [.int 1]) (rest := []) B hH hl.1 (C_X12_refuse G l th 1 _ _ hp) mi_X12_refuse coX12 hk_th w_1539 w_51 w_1537 rfl rfl ⟨Nat.le_of_ble_eq_true rfl, Nat.le_of_ble_eq_true rfl⟩ (Nat.le_of_ble_eq_true rfl) ⟨Nat.le_of_ble_eq_true rfl, Nat.le_of_ble_eq_true rfl⟩ dX12_way_10 (fun v S1 H locs hq hH => ?_)
    obtain ⟨r_39, F_39, rfl, e9, hp⟩ := hq
    rw [e9] at hH
    have hH : Hp G (FA S s.heap.size) s.heap (wI S F_39) H locs := hH
    refine W.eq (g2 := F0 m 13 ls [.int r_39]) rfl ?_
    exact sx_iret (pc := 13) B hH hr hlk (by rw [← hQQ]; exact ⟨_, F_39, rfl, rfl, hp⟩) (Nat.le_of_ble_eq_true rfl) (Nat.le_of_ble_eq_true rfl) dX12_way_13
theorem dX12_wayAt_0 : decode cX12_wayAt 0 = .ok (.iload_n 2, 1) := by decide +kernel
theorem dX12_wayAt_1 : decode cX12_wayAt 1 = .ok (.ifCond .lt 8, 3) := by decide +kernel
theorem dX12_wayAt_4 : decode cX12_wayAt 4 = .ok (.iload_n 2, 1) := by decide +kernel
theorem dX12_wayAt_5 : decode cX12_wayAt 5 = .ok (.iconst 1, 1) := by decide +kernel
theorem dX12_wayAt_6 : decode cX12_wayAt 6 = .ok (.if_icmp .le 9, 3) := by decide +kernel
theorem dX12_wayAt_9 : decode cX12_wayAt 9 = .ok (.aload_n 0, 1) := by decide +kernel
theorem dX12_wayAt_10 : decode cX12_wayAt 10 = .ok (.iconst 1, 1) := by decide +kernel
theorem dX12_wayAt_11 : decode cX12_wayAt 11 = .ok (.invokevirtual 105, 3) := by decide +kernel
theorem dX12_wayAt_14 : decode cX12_wayAt 14 = .ok (.ireturn, 1) := by decide +kernel
theorem dX12_wayAt_15 : decode cX12_wayAt 15 = .ok (.iload_n 1, 1) := by decide +kernel
theorem dX12_wayAt_16 : decode cX12_wayAt 16 = .ok (.ifCond .lt 11, 3) := by decide +kernel
theorem dX12_wayAt_19 : decode cX12_wayAt 19 = .ok (.iload_n 1, 1) := by decide +kernel
theorem dX12_wayAt_20 : decode cX12_wayAt 20 = .ok (.aload_n 0, 1) := by decide +kernel
theorem dX12_wayAt_21 : decode cX12_wayAt 21 = .ok (.getfield 84, 3) := by decide +kernel
theorem dX12_wayAt_24 : decode cX12_wayAt 24 = .ok (.if_icmp .lt 12, 3) := by decide +kernel
theorem dX12_wayAt_27 : decode cX12_wayAt 27 = .ok (.aload_n 0, 1) := by decide +kernel
theorem dX12_wayAt_28 : decode cX12_wayAt 28 = .ok (.bipush 6, 2) := by decide +kernel
theorem dX12_wayAt_30 : decode cX12_wayAt 30 = .ok (.invokevirtual 105, 3) := by decide +kernel
theorem dX12_wayAt_33 : decode cX12_wayAt 33 = .ok (.goto 30, 3) := by decide +kernel
theorem dX12_wayAt_36 : decode cX12_wayAt 36 = .ok (.aload_n 0, 1) := by decide +kernel
theorem dX12_wayAt_37 : decode cX12_wayAt 37 = .ok (.iload_n 2, 1) := by decide +kernel
theorem dX12_wayAt_38 : decode cX12_wayAt 38 = .ok (.ifCond .ne 14, 3) := by decide +kernel
theorem dX12_wayAt_41 : decode cX12_wayAt 41 = .ok (.aload_n 0, 1) := by decide +kernel
theorem dX12_wayAt_42 : decode cX12_wayAt 42 = .ok (.getfield 81, 3) := by decide +kernel
theorem dX12_wayAt_45 : decode cX12_wayAt 45 = .ok (.iload_n 1, 1) := by decide +kernel
theorem dX12_wayAt_46 : decode cX12_wayAt 46 = .ok (.iaload, 1) := by decide +kernel
theorem dX12_wayAt_47 : decode cX12_wayAt 47 = .ok (.iconst 3, 1) := by decide +kernel
theorem dX12_wayAt_48 : decode cX12_wayAt 48 = .ok (.idiv, 1) := by decide +kernel
theorem dX12_wayAt_49 : decode cX12_wayAt 49 = .ok (.goto 11, 3) := by decide +kernel
theorem dX12_wayAt_52 : decode cX12_wayAt 52 = .ok (.aload_n 0, 1) := by decide +kernel
theorem dX12_wayAt_53 : decode cX12_wayAt 53 = .ok (.getfield 81, 3) := by decide +kernel
theorem dX12_wayAt_56 : decode cX12_wayAt 56 = .ok (.iload_n 1, 1) := by decide +kernel
theorem dX12_wayAt_57 : decode cX12_wayAt 57 = .ok (.iaload, 1) := by decide +kernel
theorem dX12_wayAt_58 : decode cX12_wayAt 58 = .ok (.iconst 3, 1) := by decide +kernel
theorem dX12_wayAt_59 : decode cX12_wayAt 59 = .ok (.irem, 1) := by decide +kernel
theorem dX12_wayAt_60 : decode cX12_wayAt 60 = .ok (.invokevirtual 109, 3) := by decide +kernel
theorem dX12_wayAt_63 : decode cX12_wayAt 63 = .ok (.ireturn, 1) := by decide +kernel
theorem mi_X12_wayAt : MI yX12_wayAt cX12_wayAt 3 (some FieldType.int) 2 := ⟨w_1933, w_118, by decide +kernel, by decide +kernel, by decide +kernel⟩
set_option maxRecDepth 100000 in
set_option maxHeartbeats 4000000 in
theorem C_X12_wayAt (G : GG) (l : Launch) (th : Nat) (p0 : Int32) (p1 : Int32) (S : St) (Q : Int32 → (Nat → Nat → Int32) → Prop) (hp : P_X12_wayAt th p0 p1 S Q) : Ctr G l yX12_wayAt cX12_wayAt 3 (some FieldType.int) 1 21 0 0 [.ref th, .int p0, .int p1] S (fun (v : Option Value) (S9 : St) => ∃ (r : Int32) (I9 : Nat → Nat → Int32), v = some (.int r) ∧ S9 = wI S I9 ∧ Q r I9) := by
  generalize hQQ : (fun (v : Option Value) (S9 : St) => ∃ (r : Int32) (I9 : Nat → Nat → Int32), v = some (.int r) ∧ S9 = wI S I9 ∧ Q r I9) = QQ
  unfold P_X12_wayAt at hp
  refine Ctr.of (by decide) (Nat.le_of_ble_eq_true rfl) ?_
  intro p e s m args below meth c ls B hr hlk hin hl hH
  generalize hlocs0 : ([] : List Loc) = locs at hH ⊢
  have hx := B.1
  have hb := B.2.1
  have hl : lv_has ls 3 [(0, .ref th), (1, .int p0), (2, .int p1)] := hl
  obtain ⟨hk_th, hp⟩ := hp
  refine lv_iload_n (pc := 0) hx hb dX12_wayAt_0 rfl (lv_at hl 2 rfl) ?_
  obtain ⟨J_2, hj_2, hp⟩ := hp
  have kj_2 : ∀  (H : Heap) (locs : List Loc) (ls : Array Slot), J_2  → Hp G (FA S s.heap.size) s.heap S H locs → lv_has ls 3 [(0, .ref th)] → Wm G p l e { frames := 1, cells := 0, slots := 0, locals := 21 } s m args below meth c S QQ 0 0 H locs 0 0 (F0 m 9 ls []) := by
    intro  H locs ls hq9 hH hl
    have hp := hj_2  hq9
    refine lv_aload_n (pc := 9) hx hb dX12_wayAt_9 rfl (lv_at hl 0 rfl) ?_
    refine lv_iconst (pc := 10) (v := 1) hx hb dX12_wayAt_10 (by decide) ?_
    refine sx_V (pc := 11) (As := [.int 1]) (rest := []) B hH hl.1 (C_X12_refuse G l th 1 _ _ hp) mi_X12_refuse coX12 hk_th w_1539 w_51 w_1537 rfl rfl ⟨Nat.le_of_ble_eq_true rfl, Nat.le_of_ble_eq_true rfl⟩ (Nat.le_of_ble_eq_true rfl) ⟨Nat.le_of_ble_eq_true rfl, Nat.le_of_ble_eq_true rfl⟩ dX12_wayAt_11 (fun v S1 H locs hq hH => ?_)
    obtain ⟨r_3, F_3, rfl, e9, hp⟩ := hq
    rw [e9] at hH
    have hH : Hp G (FA S s.heap.size) s.heap (wI S F_3) H locs := hH
    refine W.eq (g2 := F0 m 14 ls [.int r_3]) rfl ?_
    exact sx_iret (pc := 14) B hH hr hlk (by rw [← hQQ]; exact ⟨_, F_3, rfl, rfl, hp⟩) (Nat.le_of_ble_eq_true rfl) (Nat.le_of_ble_eq_true rfl) dX12_wayAt_14
  refine lv_if_lt (pc := 1) (tgt := 9) hx hb dX12_wayAt_1 (by decide) (fun cc_1 => ?_) (fun cc_1 => ?_)
  · have hp := hp.1 cc_1
    exact kj_2  _ _ _ hp hH (lv_sub hl [0] rfl)
  · have hp := hp.2 cc_1
    refine lv_iload_n (pc := 4) hx hb dX12_wayAt_4 rfl (lv_at hl 2 rfl) ?_
    refine lv_iconst (pc := 5) (v := 1) hx hb dX12_wayAt_5 (by decide) ?_
    refine lv_icmp_le (pc := 6) (tgt := 15) hx hb dX12_wayAt_6 (by decide) (fun cc_4 => ?_) (fun cc_4 => ?_)
    · have hp := hp.1 cc_4
      refine lv_iload_n (pc := 15) hx hb dX12_wayAt_15 rfl (lv_at hl 1 rfl) ?_
      obtain ⟨J_6, hj_6, hp⟩ := hp
      have kj_6 : ∀  (H : Heap) (locs : List Loc) (ls : Array Slot), J_6  → Hp G (FA S s.heap.size) s.heap S H locs → lv_has ls 3 [(0, .ref th)] → Wm G p l e { frames := 1, cells := 0, slots := 0, locals := 21 } s m args below meth c S QQ 0 0 H locs 0 0 (F0 m 27 ls []) := by
        intro  H locs ls hq9 hH hl
        have hp := hj_6  hq9
        refine lv_aload_n (pc := 27) hx hb dX12_wayAt_27 rfl (lv_at hl 0 rfl) ?_
        refine lv_bipush (pc := 28) (v := 6) hx hb dX12_wayAt_28 (by decide) ?_
        refine sx_V (pc := 30) (As := [.int 6]) (rest := []) B hH hl.1 (C_X12_refuse G l th 6 _ _ hp) mi_X12_refuse coX12 hk_th w_1539 w_51 w_1537 rfl rfl ⟨Nat.le_of_ble_eq_true rfl, Nat.le_of_ble_eq_true rfl⟩ (Nat.le_of_ble_eq_true rfl) ⟨Nat.le_of_ble_eq_true rfl, Nat.le_of_ble_eq_true rfl⟩ dX12_wayAt_30 (fun v S1 H locs hq hH => ?_)
        obtain ⟨r_7, F_7, rfl, e9, hp⟩ := hq
        rw [e9] at hH
        have hH : Hp G (FA S s.heap.size) s.heap (wI S F_7) H locs := hH
        refine W.eq (g2 := F0 m 33 ls [.int r_7]) rfl ?_
        refine lv_goto (pc := 33) (tgt := 63) hx hb dX12_wayAt_33 (by decide) ?_
        exact sx_iret (pc := 63) B hH hr hlk (by rw [← hQQ]; exact ⟨_, F_7, rfl, rfl, hp⟩) (Nat.le_of_ble_eq_true rfl) (Nat.le_of_ble_eq_true rfl) dX12_wayAt_63
      refine lv_if_lt (pc := 16) (tgt := 27) hx hb dX12_wayAt_16 (by decide) (fun cc_5 => ?_) (fun cc_5 => ?_)
      · have hp := hp.1 cc_5
        exact kj_6  _ _ _ hp hH (lv_sub hl [0] rfl)
      · have hp := hp.2 cc_5
        refine lv_iload_n (pc := 19) hx hb dX12_wayAt_19 rfl (lv_at hl 1 rfl) ?_
        refine lv_aload_n (pc := 20) hx hb dX12_wayAt_20 rfl (lv_at hl 0 rfl) ?_
        refine sx_getI (pc := 21) (j := 43) B hH hk_th coX12 rfl w_1347 rfl dX12_wayAt_21 ?_
        refine W.eq (g2 := F0 m 24 ls [.int (gI S th 43), .int p0]) rfl ?_
        refine lv_icmp_lt (pc := 24) (tgt := 36) hx hb dX12_wayAt_24 (by decide) (fun cc_8 => ?_) (fun cc_8 => ?_)
        · have hp := hp.1 cc_8
          refine lv_aload_n (pc := 36) hx hb dX12_wayAt_36 rfl (lv_at hl 0 rfl) ?_
          refine lv_iload_n (pc := 37) hx hb dX12_wayAt_37 rfl (lv_at hl 2 rfl) ?_
          obtain ⟨J_10, hj_10, hp⟩ := hp
          have kj_10 : ∀ (t_11 : Int32) (H : Heap) (locs : List Loc) (ls : Array Slot), J_10 t_11 → Hp G (FA S s.heap.size) s.heap S H locs → lv_has ls 3 [] → Wm G p l e { frames := 1, cells := 0, slots := 0, locals := 21 } s m args below meth c S QQ 0 0 H locs 0 0 (F0 m 60 ls [.int t_11, .ref th]) := by
            intro t_11 H locs ls hq9 hH hl
            have hp := hj_10 t_11 hq9
            refine sx_V (pc := 60) (As := [.int t_11]) (rest := []) B hH hl.1 (C_X12_gives G l th t_11 _ _ hp) mi_X12_gives coX12 hk_th w_1617 w_69 w_1615 rfl rfl ⟨Nat.le_of_ble_eq_true rfl, Nat.le_of_ble_eq_true rfl⟩ (Nat.le_of_ble_eq_true rfl) ⟨Nat.le_of_ble_eq_true rfl, Nat.le_of_ble_eq_true rfl⟩ dX12_wayAt_60 (fun v S1 H locs hq hH => ?_)
            obtain ⟨r_12, F_12, rfl, e9, hp⟩ := hq
            rw [e9] at hH
            have hH : Hp G (FA S s.heap.size) s.heap (wI S F_12) H locs := hH
            refine W.eq (g2 := F0 m 63 ls [.int r_12]) rfl ?_
            exact sx_iret (pc := 63) B hH hr hlk (by rw [← hQQ]; exact ⟨_, F_12, rfl, rfl, hp⟩) (Nat.le_of_ble_eq_true rfl) (Nat.le_of_ble_eq_true rfl) dX12_wayAt_63
          refine lv_if_ne (pc := 38) (tgt := 52) hx hb dX12_wayAt_38 (by decide) (fun cc_9 => ?_) (fun cc_9 => ?_)
          · have hp := hp.1 cc_9
            refine lv_aload_n (pc := 52) hx hb dX12_wayAt_52 rfl (lv_at hl 0 rfl) ?_
            refine sx_getR (pc := 53) (j := 42) B hH hk_th coX12 rfl w_1346 rfl dX12_wayAt_53 ?_
            refine W.eq (g2 := F0 m 56 ls [va_rf (gR S th 42), .ref th]) rfl ?_
            obtain ⟨a_13, ha_13, hp⟩ := hp
            refine sx_nonnull (x := a_13) ha_13 ?_
            refine lv_iload_n (pc := 56) hx hb dX12_wayAt_56 rfl (lv_at hl 1 rfl) ?_
            obtain ⟨hk_14, hp⟩ := hp
            obtain ⟨hn_15, hp⟩ := hp
            refine sx_iald (pc := 57) B hH hk_14 hn_15 dX12_wayAt_57 ?_
            refine W.eq (g2 := F0 m 58 ls [.int (gI S a_13 p0.toNatClampNeg), .ref th]) rfl ?_
            refine lv_iconst (pc := 58) (v := 3) hx hb dX12_wayAt_58 (by decide) ?_
            refine lv_irem (pc := 59) hx hb dX12_wayAt_59 (by decide) ?_
            refine W.eq (g2 := F0 m 60 ls [.int (irm (gI S a_13 p0.toNatClampNeg) 3), .ref th]) rfl ?_
            exact kj_10 _ _ _ _ hp hH (lv_sub hl [] rfl)
          · have hp := hp.2 cc_9
            refine lv_aload_n (pc := 41) hx hb dX12_wayAt_41 rfl (lv_at hl 0 rfl) ?_
            refine sx_getR (pc := 42) (j := 42) B hH hk_th coX12 rfl w_1346 rfl dX12_wayAt_42 ?_
            refine W.eq (g2 := F0 m 45 ls [va_rf (gR S th 42), .ref th]) rfl ?_
            obtain ⟨a_16, ha_16, hp⟩ := hp
            refine sx_nonnull (x := a_16) ha_16 ?_
            refine lv_iload_n (pc := 45) hx hb dX12_wayAt_45 rfl (lv_at hl 1 rfl) ?_
            obtain ⟨hk_17, hp⟩ := hp
            obtain ⟨hn_18, hp⟩ := hp
            refine sx_iald (pc := 46) B hH hk_17 hn_18 dX12_wayAt_46 ?_
            refine W.eq (g2 := F0 m 47 ls [.int (gI S a_16 p0.toNatClampNeg), .ref th]) rfl ?_
            refine lv_iconst (pc := 47) (v := 3) hx hb dX12_wayAt_47 (by decide) ?_
            refine lv_idiv (pc := 48) hx hb dX12_wayAt_48 (by decide) ?_
            refine lv_goto (pc := 49) (tgt := 60) hx hb dX12_wayAt_49 (by decide) ?_
            exact kj_10 _ _ _ _ hp hH (lv_sub hl [] rfl)
        · have hp := hp.2 cc_8
          exact kj_6  _ _ _ hp hH (lv_sub hl [0] rfl)
    · have hp := hp.2 cc_4
      exact kj_2  _ _ _ hp hH (lv_sub hl [0] rfl)
theorem dX12_extent_0 : decode cX12_extent 0 = .ok (.aload_n 0, 1) := by decide +kernel
theorem dX12_extent_1 : decode cX12_extent 1 = .ok (.invokevirtual 396, 3) := by decide +kernel
theorem dX12_extent_4 : decode cX12_extent 4 = .ok (.aload_n 0, 1) := by decide +kernel
theorem dX12_extent_5 : decode cX12_extent 5 = .ok (.aload_n 0, 1) := by decide +kernel
theorem dX12_extent_6 : decode cX12_extent 6 = .ok (.getfield 393, 3) := by decide +kernel
theorem dX12_extent_9 : decode cX12_extent 9 = .ok (.invokevirtual 109, 3) := by decide +kernel
theorem dX12_extent_12 : decode cX12_extent 12 = .ok (.ireturn, 1) := by decide +kernel
theorem mi_X12_extent : MI yX12_extent cX12_extent 1 (some FieldType.int) 0 := ⟨w_1937, w_118, by decide +kernel, by decide +kernel, by decide +kernel⟩
set_option maxRecDepth 100000 in
set_option maxHeartbeats 4000000 in
theorem C_X12_extent (G : GG) (l : Launch) (th : Nat) (S : St) (Q : Int32 → (Nat → Nat → Int32) → Prop) (hp : P_X12_extent th S Q) : Ctr G l yX12_extent cX12_extent 1 (some FieldType.int) 4 98 0 0 [.ref th] S (fun (v : Option Value) (S9 : St) => ∃ (r : Int32) (I9 : Nat → Nat → Int32), v = some (.int r) ∧ S9 = wI S I9 ∧ Q r I9) := by
  generalize hQQ : (fun (v : Option Value) (S9 : St) => ∃ (r : Int32) (I9 : Nat → Nat → Int32), v = some (.int r) ∧ S9 = wI S I9 ∧ Q r I9) = QQ
  unfold P_X12_extent at hp
  refine Ctr.of (by decide) (Nat.le_of_ble_eq_true rfl) ?_
  intro p e s m args below meth c ls B hr hlk hin hl hH
  generalize hlocs0 : ([] : List Loc) = locs at hH ⊢
  have hx := B.1
  have hb := B.2.1
  have hl : lv_has ls 1 [(0, .ref th)] := hl
  obtain ⟨hk_th, hp⟩ := hp
  refine lv_aload_n (pc := 0) hx hb dX12_extent_0 rfl (lv_at hl 0 rfl) ?_
  refine sx_V (pc := 1) (As := []) (rest := []) B hH hl.1 (C_X12_findsAll G l th _ _ hp) mi_X12_findsAll coX12 hk_th w_1928 w_101 w_1926 rfl rfl ⟨Nat.le_of_ble_eq_true rfl, Nat.le_of_ble_eq_true rfl⟩ (Nat.le_of_ble_eq_true rfl) ⟨Nat.le_of_ble_eq_true rfl, Nat.le_of_ble_eq_true rfl⟩ dX12_extent_1 (fun v S1 H locs hq hH => ?_)
  obtain ⟨F_1, rfl, e9, hp⟩ := hq
  rw [e9] at hH
  have hH : Hp G (FA S s.heap.size) s.heap (wI S F_1) H locs := hH
  refine W.eq (g2 := F0 m 4 ls []) rfl ?_
  refine lv_aload_n (pc := 4) hx hb dX12_extent_4 rfl (lv_at hl 0 rfl) ?_
  refine lv_aload_n (pc := 5) hx hb dX12_extent_5 rfl (lv_at hl 0 rfl) ?_
  refine sx_getI (pc := 6) (j := 41) B hH hk_th coX12 rfl w_1345 rfl dX12_extent_6 ?_
  refine W.eq (g2 := F0 m 9 ls [.int (F_1 th 41), .ref th]) rfl ?_
  refine sx_V (pc := 9) (As := [.int (F_1 th 41)]) (rest := []) B hH hl.1 (C_X12_gives G l th (F_1 th 41) _ _ hp) mi_X12_gives coX12 hk_th w_1617 w_69 w_1615 rfl rfl ⟨Nat.le_of_ble_eq_true rfl, Nat.le_of_ble_eq_true rfl⟩ (Nat.le_of_ble_eq_true rfl) ⟨Nat.le_of_ble_eq_true rfl, Nat.le_of_ble_eq_true rfl⟩ dX12_extent_9 (fun v S1 H locs hq hH => ?_)
  obtain ⟨r_2, F_2, rfl, e9, hp⟩ := hq
  rw [e9] at hH
  have hH : Hp G (FA S s.heap.size) s.heap (wI S F_2) H locs := hH
  refine W.eq (g2 := F0 m 12 ls [.int r_2]) rfl ?_
  exact sx_iret (pc := 12) B hH hr hlk (by rw [← hQQ]; exact ⟨_, F_2, rfl, rfl, hp⟩) (Nat.le_of_ble_eq_true rfl) (Nat.le_of_ble_eq_true rfl) dX12_extent_12
theorem dX12_ringsLead_0 : decode cX12_ringsLead 0 = .ok (.iconst 0, 1) := by decide +kernel
theorem dX12_ringsLead_1 : decode cX12_ringsLead 1 = .ok (.istore_n 3, 1) := by decide +kernel
theorem dX12_ringsLead_2 : decode cX12_ringsLead 2 = .ok (.iload_n 3, 1) := by decide +kernel
theorem dX12_ringsLead_3 : decode cX12_ringsLead 3 = .ok (.aload_n 0, 1) := by decide +kernel
theorem dX12_ringsLead_4 : decode cX12_ringsLead 4 = .ok (.iload_n 1, 1) := by decide +kernel
theorem dX12_ringsLead_5 : decode cX12_ringsLead 5 = .ok (.invokevirtual 314, 3) := by decide +kernel
theorem dX12_ringsLead_8 : decode cX12_ringsLead 8 = .ok (.if_icmp .ge 84, 3) := by decide +kernel
theorem dX12_ringsLead_11 : decode cX12_ringsLead 11 = .ok (.aload_n 0, 1) := by decide +kernel
theorem dX12_ringsLead_12 : decode cX12_ringsLead 12 = .ok (.aload_n 0, 1) := by decide +kernel
theorem dX12_ringsLead_13 : decode cX12_ringsLead 13 = .ok (.iload_n 1, 1) := by decide +kernel
theorem dX12_ringsLead_14 : decode cX12_ringsLead 14 = .ok (.iload_n 2, 1) := by decide +kernel
theorem dX12_ringsLead_15 : decode cX12_ringsLead 15 = .ok (.iload_n 3, 1) := by decide +kernel
theorem dX12_ringsLead_16 : decode cX12_ringsLead 16 = .ok (.invokevirtual 323, 3) := by decide +kernel
theorem dX12_ringsLead_19 : decode cX12_ringsLead 19 = .ok (.iconst 0, 1) := by decide +kernel
theorem dX12_ringsLead_20 : decode cX12_ringsLead 20 = .ok (.invokevirtual 302, 3) := by decide +kernel
theorem dX12_ringsLead_23 : decode cX12_ringsLead 23 = .ok (.aload_n 0, 1) := by decide +kernel
theorem dX12_ringsLead_24 : decode cX12_ringsLead 24 = .ok (.aload_n 0, 1) := by decide +kernel
theorem dX12_ringsLead_25 : decode cX12_ringsLead 25 = .ok (.getfield 47, 3) := by decide +kernel
theorem dX12_ringsLead_28 : decode cX12_ringsLead 28 = .ok (.invokevirtual 270, 3) := by decide +kernel
theorem dX12_ringsLead_31 : decode cX12_ringsLead 31 = .ok (.istore 4, 2) := by decide +kernel
theorem dX12_ringsLead_33 : decode cX12_ringsLead 33 = .ok (.iconst 0, 1) := by decide +kernel
theorem dX12_ringsLead_34 : decode cX12_ringsLead 34 = .ok (.istore 5, 2) := by decide +kernel
theorem dX12_ringsLead_36 : decode cX12_ringsLead 36 = .ok (.iload 5, 2) := by decide +kernel
theorem dX12_ringsLead_38 : decode cX12_ringsLead 38 = .ok (.aload_n 0, 1) := by decide +kernel
theorem dX12_ringsLead_39 : decode cX12_ringsLead 39 = .ok (.getfield 399, 3) := by decide +kernel
theorem dX12_ringsLead_42 : decode cX12_ringsLead 42 = .ok (.if_icmp .ge 23, 3) := by decide +kernel
theorem dX12_ringsLead_45 : decode cX12_ringsLead 45 = .ok (.aload_n 0, 1) := by decide +kernel
theorem dX12_ringsLead_46 : decode cX12_ringsLead 46 = .ok (.getfield 96, 3) := by decide +kernel
theorem dX12_ringsLead_49 : decode cX12_ringsLead 49 = .ok (.iload 5, 2) := by decide +kernel
theorem dX12_ringsLead_51 : decode cX12_ringsLead 51 = .ok (.iaload, 1) := by decide +kernel
theorem dX12_ringsLead_52 : decode cX12_ringsLead 52 = .ok (.iload 4, 2) := by decide +kernel
theorem dX12_ringsLead_54 : decode cX12_ringsLead 54 = .ok (.if_icmp .ne 5, 3) := by decide +kernel
theorem dX12_ringsLead_57 : decode cX12_ringsLead 57 = .ok (.iconst 0, 1) := by decide +kernel
theorem dX12_ringsLead_58 : decode cX12_ringsLead 58 = .ok (.ireturn, 1) := by decide +kernel
theorem dX12_ringsLead_59 : decode cX12_ringsLead 59 = .ok (.iinc 5 1, 3) := by decide +kernel
theorem dX12_ringsLead_62 : decode cX12_ringsLead 62 = .ok (.goto (-26), 3) := by decide +kernel
theorem dX12_ringsLead_65 : decode cX12_ringsLead 65 = .ok (.aload_n 0, 1) := by decide +kernel
theorem dX12_ringsLead_66 : decode cX12_ringsLead 66 = .ok (.getfield 96, 3) := by decide +kernel
theorem dX12_ringsLead_69 : decode cX12_ringsLead 69 = .ok (.aload_n 0, 1) := by decide +kernel
theorem dX12_ringsLead_70 : decode cX12_ringsLead 70 = .ok (.getfield 399, 3) := by decide +kernel
theorem dX12_ringsLead_73 : decode cX12_ringsLead 73 = .ok (.iload 4, 2) := by decide +kernel
theorem dX12_ringsLead_75 : decode cX12_ringsLead 75 = .ok (.iastore, 1) := by decide +kernel
theorem dX12_ringsLead_76 : decode cX12_ringsLead 76 = .ok (.aload_n 0, 1) := by decide +kernel
theorem dX12_ringsLead_77 : decode cX12_ringsLead 77 = .ok (.dup, 1) := by decide +kernel
theorem dX12_ringsLead_78 : decode cX12_ringsLead 78 = .ok (.getfield 399, 3) := by decide +kernel
theorem dX12_ringsLead_81 : decode cX12_ringsLead 81 = .ok (.iconst 1, 1) := by decide +kernel
theorem dX12_ringsLead_82 : decode cX12_ringsLead 82 = .ok (.iadd, 1) := by decide +kernel
theorem dX12_ringsLead_83 : decode cX12_ringsLead 83 = .ok (.putfield 399, 3) := by decide +kernel
theorem dX12_ringsLead_86 : decode cX12_ringsLead 86 = .ok (.iinc 3 1, 3) := by decide +kernel
theorem dX12_ringsLead_89 : decode cX12_ringsLead 89 = .ok (.goto (-87), 3) := by decide +kernel
theorem dX12_ringsLead_92 : decode cX12_ringsLead 92 = .ok (.iconst 1, 1) := by decide +kernel
theorem dX12_ringsLead_93 : decode cX12_ringsLead 93 = .ok (.ireturn, 1) := by decide +kernel
theorem mi_X12_ringsLead : MI yX12_ringsLead cX12_ringsLead 6 (some FieldType.boolean) 2 := ⟨w_1947, w_118, by decide +kernel, by decide +kernel, by decide +kernel⟩
set_option maxRecDepth 100000 in
set_option maxHeartbeats 4000000 in
theorem C_X12_ringsLead (G : GG) (l : Launch) (th : Nat) (p0 : Int32) (p1 : Int32) (S : St) (Q : Int32 → (Nat → Nat → Int32) → Prop) (hp : P_X12_ringsLead th p0 p1 S Q) : Ctr G l yX12_ringsLead cX12_ringsLead 6 (some FieldType.boolean) 2 44 0 0 [.ref th, .int p0, .int p1] S (fun (v : Option Value) (S9 : St) => ∃ (r : Int32) (I9 : Nat → Nat → Int32), v = some (.int r) ∧ S9 = wI S I9 ∧ Q r I9) := by
  generalize hQQ : (fun (v : Option Value) (S9 : St) => ∃ (r : Int32) (I9 : Nat → Nat → Int32), v = some (.int r) ∧ S9 = wI S I9 ∧ Q r I9) = QQ
  unfold P_X12_ringsLead at hp
  refine Ctr.of (by decide) (Nat.le_of_ble_eq_true rfl) ?_
  intro p e s m args below meth c ls B hr hlk hin hl hH
  generalize hlocs0 : ([] : List Loc) = locs at hH ⊢
  have hx := B.1
  have hb := B.2.1
  have hl : lv_has ls 6 [(0, .ref th), (1, .int p0), (2, .int p1)] := hl
  obtain ⟨hk_th, hp⟩ := hp
  refine lv_iconst (pc := 0) (v := 0) hx hb dX12_ringsLead_0 (by decide) ?_
  refine lv_istore_n (pc := 1) (lv' := [(3, .int 0), (0, .ref th), (1, .int p0), (2, .int p1)]) hx hb dX12_ringsLead_1 rfl hl (by decide) rfl (fun ls hl => ?_)
  obtain ⟨I_1, ⟨k0_1, h0_1⟩, hst_1⟩ := hp
  have kl_1 : ∀ (n_1 : Nat) (x3_2 : Int32) (F_3 : Nat → Nat → Int32) (H : Heap) (locs : List Loc) (ls : Array Slot), I_1 n_1 x3_2 F_3 → Hp G (FA S s.heap.size) s.heap (wI S F_3) H locs → lv_has ls 6 [(0, .ref th), (1, .int p0), (2, .int p1), (3, .int x3_2)] → Wm G p l e { frames := 2, cells := 0, slots := 0, locals := 44 } s m args below meth c S QQ 0 0 H locs 0 0 (F0 m 2 ls []) := by
    intro n_1
    induction n_1 using Nat.strongRecOn with
    | ind n_1 ih_1 =>
      intro x3_2 F_3 H locs ls hq9 hH hl
      have hp := hst_1 n_1 x3_2 F_3 hq9
      refine lv_iload_n (pc := 2) hx hb dX12_ringsLead_2 rfl (lv_at hl 3 rfl) ?_
      refine lv_aload_n (pc := 3) hx hb dX12_ringsLead_3 rfl (lv_at hl 0 rfl) ?_
      refine lv_iload_n (pc := 4) hx hb dX12_ringsLead_4 rfl (lv_at hl 1 rfl) ?_
      refine sx_V (pc := 5) (As := [.int p0]) (rest := [.int x3_2]) B hH hl.1 (C_X12_changesOf G l th p0 _ _ hp) mi_X12_changesOf coX12 hk_th w_1749 w_87 w_1747 rfl rfl ⟨Nat.le_of_ble_eq_true rfl, Nat.le_of_ble_eq_true rfl⟩ (Nat.le_of_ble_eq_true rfl) ⟨Nat.le_of_ble_eq_true rfl, Nat.le_of_ble_eq_true rfl⟩ dX12_ringsLead_5 (fun v S1 H locs hq hH => ?_)
      obtain ⟨r_4, rfl, e9, hp⟩ := hq
      rw [e9] at hH
      refine W.eq (g2 := F0 m 8 ls [.int r_4, .int x3_2]) rfl ?_
      refine lv_icmp_ge (pc := 8) (tgt := 92) hx hb dX12_ringsLead_8 (by decide) (fun cc_5 => ?_) (fun cc_5 => ?_)
      · have hp := hp.1 cc_5
        refine lv_iconst (pc := 92) (v := 1) hx hb dX12_ringsLead_92 (by decide) ?_
        exact sx_zret (pc := 93) B hH hr hlk (Or.inr rfl) (by rw [← hQQ]; exact ⟨_, F_3, rfl, rfl, hp⟩) (Nat.le_of_ble_eq_true rfl) (Nat.le_of_ble_eq_true rfl) dX12_ringsLead_93
      · have hp := hp.2 cc_5
        refine lv_aload_n (pc := 11) hx hb dX12_ringsLead_11 rfl (lv_at hl 0 rfl) ?_
        refine lv_aload_n (pc := 12) hx hb dX12_ringsLead_12 rfl (lv_at hl 0 rfl) ?_
        refine lv_iload_n (pc := 13) hx hb dX12_ringsLead_13 rfl (lv_at hl 1 rfl) ?_
        refine lv_iload_n (pc := 14) hx hb dX12_ringsLead_14 rfl (lv_at hl 2 rfl) ?_
        refine lv_iload_n (pc := 15) hx hb dX12_ringsLead_15 rfl (lv_at hl 3 rfl) ?_
        refine sx_V (pc := 16) (As := [.int p0, .int p1, .int x3_2]) (rest := [.ref th]) B hH hl.1 (C_X12_changeOf G l th p0 p1 x3_2 _ _ hp) mi_X12_changeOf coX12 hk_th w_1760 w_88 w_1758 rfl rfl ⟨Nat.le_of_ble_eq_true rfl, Nat.le_of_ble_eq_true rfl⟩ (Nat.le_of_ble_eq_true rfl) ⟨Nat.le_of_ble_eq_true rfl, Nat.le_of_ble_eq_true rfl⟩ dX12_ringsLead_16 (fun v S1 H locs hq hH => ?_)
        obtain ⟨r_6, rfl, e9, hp⟩ := hq
        rw [e9] at hH
        refine W.eq (g2 := F0 m 19 ls [.int r_6, .ref th]) rfl ?_
        refine lv_iconst (pc := 19) (v := 0) hx hb dX12_ringsLead_19 (by decide) ?_
        refine sx_V (pc := 20) (As := [.int r_6, .int 0]) (rest := []) B hH hl.1 (C_X12_changes0 G l th r_6 0 _ _ hp) mi_X12_changes0 coX12 hk_th w_1712 w_83 w_1710 rfl rfl ⟨Nat.le_of_ble_eq_true rfl, Nat.le_of_ble_eq_true rfl⟩ (Nat.le_of_ble_eq_true rfl) ⟨Nat.le_of_ble_eq_true rfl, Nat.le_of_ble_eq_true rfl⟩ dX12_ringsLead_20 (fun v S1 H locs hq hH => ?_)
        obtain ⟨F_7, rfl, e9, hp⟩ := hq
        rw [e9] at hH
        have hH : Hp G (FA S s.heap.size) s.heap (wI S F_7) H locs := hH
        refine W.eq (g2 := F0 m 23 ls []) rfl ?_
        refine lv_aload_n (pc := 23) hx hb dX12_ringsLead_23 rfl (lv_at hl 0 rfl) ?_
        refine lv_aload_n (pc := 24) hx hb dX12_ringsLead_24 rfl (lv_at hl 0 rfl) ?_
        refine sx_getR (pc := 25) (j := 23) B hH hk_th coX12 rfl w_1327 rfl dX12_ringsLead_25 ?_
        refine W.eq (g2 := F0 m 28 ls [va_rf (gR S th 23), .ref th]) rfl ?_
        obtain ⟨a_8, ha_8, hp⟩ := hp
        refine sx_nonnull (x := a_8) ha_8 ?_
        refine sx_V (pc := 28) (As := [.ref a_8]) (rest := []) B hH hl.1 (C_X12_numberOf G l th a_8 _ _ hp) mi_X12_numberOf coX12 hk_th w_1668 w_77 w_1666 rfl rfl ⟨Nat.le_of_ble_eq_true rfl, Nat.le_of_ble_eq_true rfl⟩ (Nat.le_of_ble_eq_true rfl) ⟨Nat.le_of_ble_eq_true rfl, Nat.le_of_ble_eq_true rfl⟩ dX12_ringsLead_28 (fun v S1 H locs hq hH => ?_)
        obtain ⟨r_9, rfl, e9, hp⟩ := hq
        rw [e9] at hH
        refine W.eq (g2 := F0 m 31 ls [.int r_9]) rfl ?_
        refine lv_istore (pc := 31) (lv' := [(4, .int r_9), (0, .ref th), (1, .int p0), (2, .int p1), (3, .int x3_2)]) hx hb dX12_ringsLead_31 hl (by decide) rfl (fun ls hl => ?_)
        refine lv_iconst (pc := 33) (v := 0) hx hb dX12_ringsLead_33 (by decide) ?_
        refine lv_istore (pc := 34) (lv' := [(5, .int 0), (4, .int r_9), (0, .ref th), (1, .int p0), (2, .int p1), (3, .int x3_2)]) hx hb dX12_ringsLead_34 hl (by decide) rfl (fun ls hl => ?_)
        obtain ⟨I_10, ⟨k0_10, h0_10⟩, hst_10⟩ := hp
        have kl_10 : ∀ (n_10 : Nat) (x5_11 : Int32) (H : Heap) (locs : List Loc) (ls : Array Slot), I_10 n_10 x5_11 → Hp G (FA S s.heap.size) s.heap (wI S F_7) H locs → lv_has ls 6 [(0, .ref th), (1, .int p0), (2, .int p1), (3, .int x3_2), (4, .int r_9), (5, .int x5_11)] → Wm G p l e { frames := 2, cells := 0, slots := 0, locals := 44 } s m args below meth c S QQ 0 0 H locs 0 0 (F0 m 36 ls []) := by
          intro n_10
          induction n_10 using Nat.strongRecOn with
          | ind n_10 ih_10 =>
            intro x5_11 H locs ls hq9 hH hl
            have hp := hst_10 n_10 x5_11 hq9
            refine lv_iload (pc := 36) hx hb dX12_ringsLead_36 (lv_at hl 5 rfl) ?_
            refine lv_aload_n (pc := 38) hx hb dX12_ringsLead_38 rfl (lv_at hl 0 rfl) ?_
            refine sx_getI (pc := 39) (j := 49) B hH hk_th coX12 rfl w_1353 rfl dX12_ringsLead_39 ?_
            refine W.eq (g2 := F0 m 42 ls [.int (F_7 th 49), .int x5_11]) rfl ?_
            refine lv_icmp_ge (pc := 42) (tgt := 65) hx hb dX12_ringsLead_42 (by decide) (fun cc_12 => ?_) (fun cc_12 => ?_)
            · have hp := hp.1 cc_12
              refine lv_aload_n (pc := 65) hx hb dX12_ringsLead_65 rfl (lv_at hl 0 rfl) ?_
              refine sx_getR (pc := 66) (j := 47) B hH hk_th coX12 rfl w_1351 rfl dX12_ringsLead_66 ?_
              refine W.eq (g2 := F0 m 69 ls [va_rf (gR S th 47)]) rfl ?_
              obtain ⟨a_13, ha_13, hp⟩ := hp
              refine sx_nonnull (x := a_13) ha_13 ?_
              refine lv_aload_n (pc := 69) hx hb dX12_ringsLead_69 rfl (lv_at hl 0 rfl) ?_
              refine sx_getI (pc := 70) (j := 49) B hH hk_th coX12 rfl w_1353 rfl dX12_ringsLead_70 ?_
              refine W.eq (g2 := F0 m 73 ls [.int (F_7 th 49), .ref a_13]) rfl ?_
              refine lv_iload (pc := 73) hx hb dX12_ringsLead_73 (lv_at hl 4 rfl) ?_
              obtain ⟨hk_14, hp⟩ := hp
              obtain ⟨hn_15, hp⟩ := hp
              obtain ⟨F_16, eF_16⟩ : ∃ z : Nat → Nat → Int32, z = upI F_7 a_13 ((F_7 th 49).toNatClampNeg) r_9 := ⟨_, rfl⟩
              have hp := hp F_16 eF_16
              refine sx_iast (pc := 75) B hH hk_14 hn_15 dX12_ringsLead_75 (fun H locs hH => ?_)
              have hH : Hp G (FA S s.heap.size) s.heap (wI S F_16) H locs := by rw [eF_16]; exact hH
              refine lv_aload_n (pc := 76) hx hb dX12_ringsLead_76 rfl (lv_at hl 0 rfl) ?_
              refine lv_dup (pc := 77) hx hb dX12_ringsLead_77 rfl ?_
              refine sx_getI (pc := 78) (j := 49) B hH hk_th coX12 rfl w_1353 rfl dX12_ringsLead_78 ?_
              refine W.eq (g2 := F0 m 81 ls [.int (F_16 th 49), .ref th]) rfl ?_
              refine lv_iconst (pc := 81) (v := 1) hx hb dX12_ringsLead_81 (by decide) ?_
              refine lv_iadd (pc := 82) hx hb dX12_ringsLead_82 ?_
              refine lv_topi (fun v_17 ev_17 => ?_)
              have hp := hp v_17 ev_17
              obtain ⟨F_18, eF_18⟩ : ∃ z : Nat → Nat → Int32, z = upI F_16 th 49 v_17 := ⟨_, rfl⟩
              have hp := hp F_18 eF_18
              refine sx_putI (pc := 83) (j := 49) B hH hk_th coX12 rfl w_1353 rfl (Or.inl rfl) rfl dX12_ringsLead_83 (fun H locs hH => ?_)
              have hH : Hp G (FA S s.heap.size) s.heap (wI S F_18) H locs := by rw [eF_18]; exact hH
              obtain ⟨v_19, ev_19⟩ : ∃ y : Int32, y = x3_2 + 1 := ⟨_, rfl⟩
              have hp := hp v_19 ev_19
              refine lv_iinc (pc := 86) (v := v_19) (lv' := [(3, .int v_19), (0, .ref th), (1, .int p0), (2, .int p1), (4, .int r_9), (5, .int x5_11)]) hx hb dX12_ringsLead_86 hl (k := 3) rfl (by rw [ev_19]; rfl) (by decide) rfl (fun ls hl => ?_)
              refine lv_goto (pc := 89) (tgt := 2) hx hb dX12_ringsLead_89 (by decide) ?_
              obtain ⟨k9, hlt9, hp⟩ := hp
              exact ih_1 k9 hlt9 _ _ _ _ _ hp hH (lv_sub hl [1, 2, 3, 0] rfl)
            · have hp := hp.2 cc_12
              refine lv_aload_n (pc := 45) hx hb dX12_ringsLead_45 rfl (lv_at hl 0 rfl) ?_
              refine sx_getR (pc := 46) (j := 47) B hH hk_th coX12 rfl w_1351 rfl dX12_ringsLead_46 ?_
              refine W.eq (g2 := F0 m 49 ls [va_rf (gR S th 47)]) rfl ?_
              obtain ⟨a_20, ha_20, hp⟩ := hp
              refine sx_nonnull (x := a_20) ha_20 ?_
              refine lv_iload (pc := 49) hx hb dX12_ringsLead_49 (lv_at hl 5 rfl) ?_
              obtain ⟨hk_21, hp⟩ := hp
              obtain ⟨hn_22, hp⟩ := hp
              refine sx_iald (pc := 51) B hH hk_21 hn_22 dX12_ringsLead_51 ?_
              refine W.eq (g2 := F0 m 52 ls [.int (F_7 a_20 x5_11.toNatClampNeg)]) rfl ?_
              refine lv_iload (pc := 52) hx hb dX12_ringsLead_52 (lv_at hl 4 rfl) ?_
              refine lv_icmp_ne (pc := 54) (tgt := 59) hx hb dX12_ringsLead_54 (by decide) (fun cc_23 => ?_) (fun cc_23 => ?_)
              · have hp := hp.1 cc_23
                obtain ⟨v_24, ev_24⟩ : ∃ y : Int32, y = x5_11 + 1 := ⟨_, rfl⟩
                have hp := hp v_24 ev_24
                refine lv_iinc (pc := 59) (v := v_24) (lv' := [(5, .int v_24), (0, .ref th), (1, .int p0), (2, .int p1), (3, .int x3_2), (4, .int r_9)]) hx hb dX12_ringsLead_59 hl (k := 5) rfl (by rw [ev_24]; rfl) (by decide) rfl (fun ls hl => ?_)
                refine lv_goto (pc := 62) (tgt := 36) hx hb dX12_ringsLead_62 (by decide) ?_
                obtain ⟨k9, hlt9, hp⟩ := hp
                exact ih_10 k9 hlt9 _ _ _ _ hp hH (lv_sub hl [1, 2, 3, 4, 5, 0] rfl)
              · have hp := hp.2 cc_23
                refine lv_iconst (pc := 57) (v := 0) hx hb dX12_ringsLead_57 (by decide) ?_
                exact sx_zret (pc := 58) B hH hr hlk (Or.inl rfl) (by rw [← hQQ]; exact ⟨_, F_7, rfl, rfl, hp⟩) (Nat.le_of_ble_eq_true rfl) (Nat.le_of_ble_eq_true rfl) dX12_ringsLead_58
        exact kl_10 k0_10 _ _ _ _ h0_10 hH (lv_sub hl [2, 3, 4, 5, 1, 0] rfl)
  exact kl_1 k0_1 _ _ _ _ _ h0_1 hH (lv_sub hl [1, 2, 3, 0] rfl)
theorem dX12_compositions_0 : decode cX12_compositions 0 = .ok (.aload_n 0, 1) := by decide +kernel
theorem dX12_compositions_1 : decode cX12_compositions 1 = .ok (.iload_n 1, 1) := by decide +kernel
theorem dX12_compositions_2 : decode cX12_compositions 2 = .ok (.invokevirtual 317, 3) := by decide +kernel
theorem dX12_compositions_5 : decode cX12_compositions 5 = .ok (.ifCond .eq 27, 3) := by decide +kernel
theorem dX12_compositions_8 : decode cX12_compositions 8 = .ok (.iload_n 2, 1) := by decide +kernel
theorem dX12_compositions_9 : decode cX12_compositions 9 = .ok (.i2l, 1) := by decide +kernel
theorem dX12_compositions_10 : decode cX12_compositions 10 = .ok (.lconst 1, 1) := by decide +kernel
theorem dX12_compositions_11 : decode cX12_compositions 11 = .ok (.ldc2_w 402, 3) := by decide +kernel
theorem dX12_compositions_14 : decode cX12_compositions 14 = .ok (.invokestatic 283, 3) := by decide +kernel
theorem dX12_compositions_17 : decode cX12_compositions 17 = .ok (.ifCond .eq 15, 3) := by decide +kernel
theorem dX12_compositions_20 : decode cX12_compositions 20 = .ok (.iload_n 3, 1) := by decide +kernel
theorem dX12_compositions_21 : decode cX12_compositions 21 = .ok (.i2l, 1) := by decide +kernel
theorem dX12_compositions_22 : decode cX12_compositions 22 = .ok (.lconst 1, 1) := by decide +kernel
theorem dX12_compositions_23 : decode cX12_compositions 23 = .ok (.ldc2_w 404, 3) := by decide +kernel
theorem dX12_compositions_26 : decode cX12_compositions 26 = .ok (.invokestatic 283, 3) := by decide +kernel
theorem dX12_compositions_29 : decode cX12_compositions 29 = .ok (.ifCond .ne 9, 3) := by decide +kernel
theorem dX12_compositions_32 : decode cX12_compositions 32 = .ok (.aload_n 0, 1) := by decide +kernel
theorem dX12_compositions_33 : decode cX12_compositions 33 = .ok (.iconst 1, 1) := by decide +kernel
theorem dX12_compositions_34 : decode cX12_compositions 34 = .ok (.invokevirtual 105, 3) := by decide +kernel
theorem dX12_compositions_37 : decode cX12_compositions 37 = .ok (.ireturn, 1) := by decide +kernel
theorem dX12_compositions_38 : decode cX12_compositions 38 = .ok (.iconst 0, 1) := by decide +kernel
theorem dX12_compositions_39 : decode cX12_compositions 39 = .ok (.istore 4, 2) := by decide +kernel
theorem dX12_compositions_41 : decode cX12_compositions 41 = .ok (.aload_n 0, 1) := by decide +kernel
theorem dX12_compositions_42 : decode cX12_compositions 42 = .ok (.iconst 0, 1) := by decide +kernel
theorem dX12_compositions_43 : decode cX12_compositions 43 = .ok (.putfield 406, 3) := by decide +kernel
theorem dX12_compositions_46 : decode cX12_compositions 46 = .ok (.iconst 0, 1) := by decide +kernel
theorem dX12_compositions_47 : decode cX12_compositions 47 = .ok (.istore 5, 2) := by decide +kernel
theorem dX12_compositions_49 : decode cX12_compositions 49 = .ok (.aload_n 0, 1) := by decide +kernel
theorem dX12_compositions_50 : decode cX12_compositions 50 = .ok (.getfield 93, 3) := by decide +kernel
theorem dX12_compositions_53 : decode cX12_compositions 53 = .ok (.iconst 0, 1) := by decide +kernel
theorem dX12_compositions_54 : decode cX12_compositions 54 = .ok (.iconst 0, 1) := by decide +kernel
theorem dX12_compositions_55 : decode cX12_compositions 55 = .ok (.iastore, 1) := by decide +kernel
theorem dX12_compositions_56 : decode cX12_compositions 56 = .ok (.aload_n 0, 1) := by decide +kernel
theorem dX12_compositions_57 : decode cX12_compositions 57 = .ok (.getfield 87, 3) := by decide +kernel
theorem dX12_compositions_60 : decode cX12_compositions 60 = .ok (.iconst 0, 1) := by decide +kernel
theorem dX12_compositions_61 : decode cX12_compositions 61 = .ok (.iconst (-1), 1) := by decide +kernel
theorem dX12_compositions_62 : decode cX12_compositions 62 = .ok (.iastore, 1) := by decide +kernel
theorem dX12_compositions_63 : decode cX12_compositions 63 = .ok (.iload 5, 2) := by decide +kernel
theorem dX12_compositions_65 : decode cX12_compositions 65 = .ok (.ifCond .lt 188, 3) := by decide +kernel
theorem dX12_compositions_68 : decode cX12_compositions 68 = .ok (.aload_n 0, 1) := by decide +kernel
theorem dX12_compositions_69 : decode cX12_compositions 69 = .ok (.getfield 87, 3) := by decide +kernel
theorem dX12_compositions_72 : decode cX12_compositions 72 = .ok (.iload 5, 2) := by decide +kernel
theorem dX12_compositions_74 : decode cX12_compositions 74 = .ok (.dup2, 1) := by decide +kernel
theorem dX12_compositions_75 : decode cX12_compositions 75 = .ok (.iaload, 1) := by decide +kernel
theorem dX12_compositions_76 : decode cX12_compositions 76 = .ok (.iconst 1, 1) := by decide +kernel
theorem dX12_compositions_77 : decode cX12_compositions 77 = .ok (.iadd, 1) := by decide +kernel
theorem dX12_compositions_78 : decode cX12_compositions 78 = .ok (.iastore, 1) := by decide +kernel
theorem dX12_compositions_79 : decode cX12_compositions 79 = .ok (.aload_n 0, 1) := by decide +kernel
theorem dX12_compositions_80 : decode cX12_compositions 80 = .ok (.getfield 87, 3) := by decide +kernel
theorem dX12_compositions_83 : decode cX12_compositions 83 = .ok (.iload 5, 2) := by decide +kernel
theorem dX12_compositions_85 : decode cX12_compositions 85 = .ok (.iaload, 1) := by decide +kernel
theorem dX12_compositions_86 : decode cX12_compositions 86 = .ok (.iconst 2, 1) := by decide +kernel
theorem dX12_compositions_87 : decode cX12_compositions 87 = .ok (.if_icmp .le 9, 3) := by decide +kernel
theorem dX12_compositions_90 : decode cX12_compositions 90 = .ok (.iinc 5 (-1), 3) := by decide +kernel
theorem dX12_compositions_93 : decode cX12_compositions 93 = .ok (.goto (-30), 3) := by decide +kernel
theorem dX12_compositions_96 : decode cX12_compositions 96 = .ok (.iload_n 3, 1) := by decide +kernel
theorem dX12_compositions_97 : decode cX12_compositions 97 = .ok (.aload_n 0, 1) := by decide +kernel
theorem dX12_compositions_98 : decode cX12_compositions 98 = .ok (.getfield 87, 3) := by decide +kernel
theorem dX12_compositions_101 : decode cX12_compositions 101 = .ok (.iload 5, 2) := by decide +kernel
theorem dX12_compositions_103 : decode cX12_compositions 103 = .ok (.iaload, 1) := by decide +kernel
theorem dX12_compositions_104 : decode cX12_compositions 104 = .ok (.ishr, 1) := by decide +kernel
theorem dX12_compositions_105 : decode cX12_compositions 105 = .ok (.iconst 1, 1) := by decide +kernel
theorem dX12_compositions_106 : decode cX12_compositions 106 = .ok (.iand, 1) := by decide +kernel
theorem dX12_compositions_107 : decode cX12_compositions 107 = .ok (.ifCond .ne 6, 3) := by decide +kernel
theorem dX12_compositions_110 : decode cX12_compositions 110 = .ok (.goto (-47), 3) := by decide +kernel
theorem dX12_compositions_113 : decode cX12_compositions 113 = .ok (.aload_n 0, 1) := by decide +kernel
theorem dX12_compositions_114 : decode cX12_compositions 114 = .ok (.aload_n 0, 1) := by decide +kernel
theorem dX12_compositions_115 : decode cX12_compositions 115 = .ok (.getfield 93, 3) := by decide +kernel
theorem dX12_compositions_118 : decode cX12_compositions 118 = .ok (.iload 5, 2) := by decide +kernel
theorem dX12_compositions_120 : decode cX12_compositions 120 = .ok (.iaload, 1) := by decide +kernel
theorem dX12_compositions_121 : decode cX12_compositions 121 = .ok (.aload_n 0, 1) := by decide +kernel
theorem dX12_compositions_122 : decode cX12_compositions 122 = .ok (.getfield 47, 3) := by decide +kernel
theorem dX12_compositions_125 : decode cX12_compositions 125 = .ok (.invokevirtual 266, 3) := by decide +kernel
theorem dX12_compositions_128 : decode cX12_compositions 128 = .ok (.aload_n 0, 1) := by decide +kernel
theorem dX12_compositions_129 : decode cX12_compositions 129 = .ok (.aload_n 0, 1) := by decide +kernel
theorem dX12_compositions_130 : decode cX12_compositions 130 = .ok (.iload_n 1, 1) := by decide +kernel
theorem dX12_compositions_131 : decode cX12_compositions 131 = .ok (.invokevirtual 314, 3) := by decide +kernel
theorem dX12_compositions_134 : decode cX12_compositions 134 = .ok (.iload 5, 2) := by decide +kernel
theorem dX12_compositions_136 : decode cX12_compositions 136 = .ok (.imul, 1) := by decide +kernel
theorem dX12_compositions_137 : decode cX12_compositions 137 = .ok (.putfield 399, 3) := by decide +kernel
theorem dX12_compositions_140 : decode cX12_compositions 140 = .ok (.aload_n 0, 1) := by decide +kernel
theorem dX12_compositions_141 : decode cX12_compositions 141 = .ok (.iload_n 1, 1) := by decide +kernel
theorem dX12_compositions_142 : decode cX12_compositions 142 = .ok (.aload_n 0, 1) := by decide +kernel
theorem dX12_compositions_143 : decode cX12_compositions 143 = .ok (.getfield 87, 3) := by decide +kernel
theorem dX12_compositions_146 : decode cX12_compositions 146 = .ok (.iload 5, 2) := by decide +kernel
theorem dX12_compositions_148 : decode cX12_compositions 148 = .ok (.iaload, 1) := by decide +kernel
theorem dX12_compositions_149 : decode cX12_compositions 149 = .ok (.invokevirtual 409, 3) := by decide +kernel
theorem dX12_compositions_152 : decode cX12_compositions 152 = .ok (.ifCond .ne 6, 3) := by decide +kernel
theorem dX12_compositions_155 : decode cX12_compositions 155 = .ok (.goto (-92), 3) := by decide +kernel
theorem dX12_compositions_158 : decode cX12_compositions 158 = .ok (.aload_n 0, 1) := by decide +kernel
theorem dX12_compositions_159 : decode cX12_compositions 159 = .ok (.aload_n 0, 1) := by decide +kernel
theorem dX12_compositions_160 : decode cX12_compositions 160 = .ok (.getfield 47, 3) := by decide +kernel
theorem dX12_compositions_163 : decode cX12_compositions 163 = .ok (.invokevirtual 270, 3) := by decide +kernel
theorem dX12_compositions_166 : decode cX12_compositions 166 = .ok (.istore 6, 2) := by decide +kernel
theorem dX12_compositions_168 : decode cX12_compositions 168 = .ok (.iload 5, 2) := by decide +kernel
theorem dX12_compositions_170 : decode cX12_compositions 170 = .ok (.iconst 1, 1) := by decide +kernel
theorem dX12_compositions_171 : decode cX12_compositions 171 = .ok (.iadd, 1) := by decide +kernel
theorem dX12_compositions_172 : decode cX12_compositions 172 = .ok (.iload_n 2, 1) := by decide +kernel
theorem dX12_compositions_173 : decode cX12_compositions 173 = .ok (.if_icmp .ge 26, 3) := by decide +kernel
theorem dX12_compositions_176 : decode cX12_compositions 176 = .ok (.iinc 5 1, 3) := by decide +kernel
theorem dX12_compositions_179 : decode cX12_compositions 179 = .ok (.aload_n 0, 1) := by decide +kernel
theorem dX12_compositions_180 : decode cX12_compositions 180 = .ok (.getfield 93, 3) := by decide +kernel
theorem dX12_compositions_183 : decode cX12_compositions 183 = .ok (.iload 5, 2) := by decide +kernel
theorem dX12_compositions_185 : decode cX12_compositions 185 = .ok (.iload 6, 2) := by decide +kernel
theorem dX12_compositions_187 : decode cX12_compositions 187 = .ok (.iastore, 1) := by decide +kernel
theorem dX12_compositions_188 : decode cX12_compositions 188 = .ok (.aload_n 0, 1) := by decide +kernel
theorem dX12_compositions_189 : decode cX12_compositions 189 = .ok (.getfield 87, 3) := by decide +kernel
theorem dX12_compositions_192 : decode cX12_compositions 192 = .ok (.iload 5, 2) := by decide +kernel
theorem dX12_compositions_194 : decode cX12_compositions 194 = .ok (.iconst (-1), 1) := by decide +kernel
theorem dX12_compositions_195 : decode cX12_compositions 195 = .ok (.iastore, 1) := by decide +kernel
theorem dX12_compositions_196 : decode cX12_compositions 196 = .ok (.goto (-133), 3) := by decide +kernel
theorem dX12_compositions_199 : decode cX12_compositions 199 = .ok (.iload 6, 2) := by decide +kernel
theorem dX12_compositions_201 : decode cX12_compositions 201 = .ok (.ifCond .eq 6, 3) := by decide +kernel
theorem dX12_compositions_204 : decode cX12_compositions 204 = .ok (.goto (-141), 3) := by decide +kernel
theorem dX12_compositions_207 : decode cX12_compositions 207 = .ok (.iinc 4 1, 3) := by decide +kernel
theorem dX12_compositions_210 : decode cX12_compositions 210 = .ok (.iconst 0, 1) := by decide +kernel
theorem dX12_compositions_211 : decode cX12_compositions 211 = .ok (.istore 7, 2) := by decide +kernel
theorem dX12_compositions_213 : decode cX12_compositions 213 = .ok (.iload 7, 2) := by decide +kernel
theorem dX12_compositions_215 : decode cX12_compositions 215 = .ok (.iload_n 2, 1) := by decide +kernel
theorem dX12_compositions_216 : decode cX12_compositions 216 = .ok (.if_icmp .ge 29, 3) := by decide +kernel
theorem dX12_compositions_219 : decode cX12_compositions 219 = .ok (.iload 4, 2) := by decide +kernel
theorem dX12_compositions_221 : decode cX12_compositions 221 = .ok (.iconst 1, 1) := by decide +kernel
theorem dX12_compositions_222 : decode cX12_compositions 222 = .ok (.if_icmp .ne 23, 3) := by decide +kernel
theorem dX12_compositions_225 : decode cX12_compositions 225 = .ok (.aload_n 0, 1) := by decide +kernel
theorem dX12_compositions_226 : decode cX12_compositions 226 = .ok (.getfield 90, 3) := by decide +kernel
theorem dX12_compositions_229 : decode cX12_compositions 229 = .ok (.iload 7, 2) := by decide +kernel
theorem dX12_compositions_231 : decode cX12_compositions 231 = .ok (.aload_n 0, 1) := by decide +kernel
theorem dX12_compositions_232 : decode cX12_compositions 232 = .ok (.getfield 87, 3) := by decide +kernel
theorem dX12_compositions_235 : decode cX12_compositions 235 = .ok (.iload 7, 2) := by decide +kernel
theorem dX12_compositions_237 : decode cX12_compositions 237 = .ok (.iaload, 1) := by decide +kernel
theorem dX12_compositions_238 : decode cX12_compositions 238 = .ok (.iastore, 1) := by decide +kernel
theorem dX12_compositions_239 : decode cX12_compositions 239 = .ok (.iinc 7 1, 3) := by decide +kernel
theorem dX12_compositions_242 : decode cX12_compositions 242 = .ok (.goto (-29), 3) := by decide +kernel
theorem dX12_compositions_245 : decode cX12_compositions 245 = .ok (.aload_n 0, 1) := by decide +kernel
theorem dX12_compositions_246 : decode cX12_compositions 246 = .ok (.iload_n 2, 1) := by decide +kernel
theorem dX12_compositions_247 : decode cX12_compositions 247 = .ok (.putfield 406, 3) := by decide +kernel
theorem dX12_compositions_250 : decode cX12_compositions 250 = .ok (.goto (-187), 3) := by decide +kernel
theorem dX12_compositions_253 : decode cX12_compositions 253 = .ok (.aload_n 0, 1) := by decide +kernel
theorem dX12_compositions_254 : decode cX12_compositions 254 = .ok (.iload 4, 2) := by decide +kernel
theorem dX12_compositions_256 : decode cX12_compositions 256 = .ok (.invokevirtual 109, 3) := by decide +kernel
theorem dX12_compositions_259 : decode cX12_compositions 259 = .ok (.ireturn, 1) := by decide +kernel
theorem mi_X12_compositions : MI yX12_compositions cX12_compositions 8 (some FieldType.int) 3 := ⟨w_1941, w_118, by decide +kernel, by decide +kernel, by decide +kernel⟩
set_option maxRecDepth 100000 in
set_option maxHeartbeats 4000000 in
theorem C_X12_compositions (G : GG) (l : Launch) (th : Nat) (p0 : Int32) (p1 : Int32) (p2 : Int32) (S : St) (Q : Int32 → (Nat → Nat → Int32) → Prop) (hp : P_X12_compositions th p0 p1 p2 S Q) : Ctr G l yX12_compositions cX12_compositions 8 (some FieldType.int) 3 69 0 0 [.ref th, .int p0, .int p1, .int p2] S (fun (v : Option Value) (S9 : St) => ∃ (r : Int32) (I9 : Nat → Nat → Int32), v = some (.int r) ∧ S9 = wI S I9 ∧ Q r I9) := by
  generalize hQQ : (fun (v : Option Value) (S9 : St) => ∃ (r : Int32) (I9 : Nat → Nat → Int32), v = some (.int r) ∧ S9 = wI S I9 ∧ Q r I9) = QQ
  unfold P_X12_compositions at hp
  refine Ctr.of (by decide) (Nat.le_of_ble_eq_true rfl) ?_
  intro p e s m args below meth c ls B hr hlk hin hl hH
  generalize hlocs0 : ([] : List Loc) = locs at hH ⊢
  have hx := B.1
  have hb := B.2.1
  have hl : lv_has ls 8 [(0, .ref th), (1, .int p0), (2, .int p1), (3, .int p2)] := hl
  obtain ⟨hk_th, hp⟩ := hp
  refine lv_aload_n (pc := 0) hx hb dX12_compositions_0 rfl (lv_at hl 0 rfl) ?_
  refine lv_iload_n (pc := 1) hx hb dX12_compositions_1 rfl (lv_at hl 1 rfl) ?_
  refine sx_V (pc := 2) (As := [.int p0]) (rest := []) B hH hl.1 (C_X12_isMethod G l th p0 _ _ hp) mi_X12_isMethod coX12 hk_th w_1745 w_86 w_1743 rfl rfl ⟨Nat.le_of_ble_eq_true rfl, Nat.le_of_ble_eq_true rfl⟩ (Nat.le_of_ble_eq_true rfl) ⟨Nat.le_of_ble_eq_true rfl, Nat.le_of_ble_eq_true rfl⟩ dX12_compositions_2 (fun v S1 H locs hq hH => ?_)
  obtain ⟨r_1, rfl, e9, hp⟩ := hq
  rw [e9] at hH
  refine W.eq (g2 := F0 m 5 ls [.int r_1]) rfl ?_
  obtain ⟨J_3, hj_3, hp⟩ := hp
  have kj_3 : ∀  (H : Heap) (locs : List Loc) (ls : Array Slot), J_3  → Hp G (FA S s.heap.size) s.heap S H locs → lv_has ls 8 [(0, .ref th)] → Wm G p l e { frames := 3, cells := 0, slots := 0, locals := 69 } s m args below meth c S QQ 0 0 H locs 0 0 (F0 m 32 ls []) := by
    intro  H locs ls hq9 hH hl
    have hp := hj_3  hq9
    refine lv_aload_n (pc := 32) hx hb dX12_compositions_32 rfl (lv_at hl 0 rfl) ?_
    refine lv_iconst (pc := 33) (v := 1) hx hb dX12_compositions_33 (by decide) ?_
    refine sx_V (pc := 34) (As := [.int 1]) (rest := []) B hH hl.1 (C_X12_refuse G l th 1 _ _ hp) mi_X12_refuse coX12 hk_th w_1539 w_51 w_1537 rfl rfl ⟨Nat.le_of_ble_eq_true rfl, Nat.le_of_ble_eq_true rfl⟩ (Nat.le_of_ble_eq_true rfl) ⟨Nat.le_of_ble_eq_true rfl, Nat.le_of_ble_eq_true rfl⟩ dX12_compositions_34 (fun v S1 H locs hq hH => ?_)
    obtain ⟨r_4, F_4, rfl, e9, hp⟩ := hq
    rw [e9] at hH
    have hH : Hp G (FA S s.heap.size) s.heap (wI S F_4) H locs := hH
    refine W.eq (g2 := F0 m 37 ls [.int r_4]) rfl ?_
    exact sx_iret (pc := 37) B hH hr hlk (by rw [← hQQ]; exact ⟨_, F_4, rfl, rfl, hp⟩) (Nat.le_of_ble_eq_true rfl) (Nat.le_of_ble_eq_true rfl) dX12_compositions_37
  refine lv_if_eq (pc := 5) (tgt := 32) hx hb dX12_compositions_5 (by decide) (fun cc_2 => ?_) (fun cc_2 => ?_)
  · have hp := hp.1 cc_2
    exact kj_3  _ _ _ hp hH (lv_sub hl [0] rfl)
  · have hp := hp.2 cc_2
    refine lv_iload_n (pc := 8) hx hb dX12_compositions_8 rfl (lv_at hl 2 rfl) ?_
    refine lv_i2l (pc := 9) (v := p1.toInt64) hx hb dX12_compositions_9 rfl ?_
    refine lv_lconst (pc := 10) (v := 1) hx hb dX12_compositions_10 (by decide) ?_
    refine sx_ldc2 (pc := 11) (v := 8) B w_1942 dX12_compositions_11 ?_
    refine sx_S (pc := 14) (As := [.long p1.toInt64, .long 1, .long 8]) (rest := []) B hH hl.1 (C_X12_isFrom G l p1.toInt64 1 8 _ _ hp) mi_X12_isFrom w_1664 w_1663 rfl rfl ⟨Nat.le_of_ble_eq_true rfl, Nat.le_of_ble_eq_true rfl⟩ (Nat.le_of_ble_eq_true rfl) ⟨Nat.le_of_ble_eq_true rfl, Nat.le_of_ble_eq_true rfl⟩ dX12_compositions_14 (fun v S1 H locs hq hH => ?_)
    obtain ⟨r_5, rfl, e9, hp⟩ := hq
    rw [e9] at hH
    refine W.eq (g2 := F0 m 17 ls [.int r_5]) rfl ?_
    refine lv_if_eq (pc := 17) (tgt := 32) hx hb dX12_compositions_17 (by decide) (fun cc_6 => ?_) (fun cc_6 => ?_)
    · have hp := hp.1 cc_6
      exact kj_3  _ _ _ hp hH (lv_sub hl [0] rfl)
    · have hp := hp.2 cc_6
      refine lv_iload_n (pc := 20) hx hb dX12_compositions_20 rfl (lv_at hl 3 rfl) ?_
      refine lv_i2l (pc := 21) (v := p2.toInt64) hx hb dX12_compositions_21 rfl ?_
      refine lv_lconst (pc := 22) (v := 1) hx hb dX12_compositions_22 (by decide) ?_
      refine sx_ldc2 (pc := 23) (v := 7) B w_1943 dX12_compositions_23 ?_
      refine sx_S (pc := 26) (As := [.long p2.toInt64, .long 1, .long 7]) (rest := []) B hH hl.1 (C_X12_isFrom G l p2.toInt64 1 7 _ _ hp) mi_X12_isFrom w_1664 w_1663 rfl rfl ⟨Nat.le_of_ble_eq_true rfl, Nat.le_of_ble_eq_true rfl⟩ (Nat.le_of_ble_eq_true rfl) ⟨Nat.le_of_ble_eq_true rfl, Nat.le_of_ble_eq_true rfl⟩ dX12_compositions_26 (fun v S1 H locs hq hH => ?_)
      obtain ⟨r_7, rfl, e9, hp⟩ := hq
      rw [e9] at hH
      refine W.eq (g2 := F0 m 29 ls [.int r_7]) rfl ?_
      refine lv_if_ne (pc := 29) (tgt := 38) hx hb dX12_compositions_29 (by decide) (fun cc_8 => ?_) (fun cc_8 => ?_)
      · have hp := hp.1 cc_8
        refine lv_iconst (pc := 38) (v := 0) hx hb dX12_compositions_38 (by decide) ?_
        refine lv_istore (pc := 39) (lv' := [(4, .int 0), (0, .ref th), (1, .int p0), (2, .int p1), (3, .int p2)]) hx hb dX12_compositions_39 hl (by decide) rfl (fun ls hl => ?_)
        refine lv_aload_n (pc := 41) hx hb dX12_compositions_41 rfl (lv_at hl 1 rfl) ?_
        refine lv_iconst (pc := 42) (v := 0) hx hb dX12_compositions_42 (by decide) ?_
        obtain ⟨F_9, eF_9⟩ : ∃ z : Nat → Nat → Int32, z = upI (gI S) th 48 0 := ⟨_, rfl⟩
        have hp := hp F_9 eF_9
        refine sx_putI (pc := 43) (j := 48) B hH hk_th coX12 rfl w_1352 rfl (Or.inl rfl) rfl dX12_compositions_43 (fun H locs hH => ?_)
        have hH : Hp G (FA S s.heap.size) s.heap (wI S F_9) H locs := by rw [eF_9]; exact hH
        refine lv_iconst (pc := 46) (v := 0) hx hb dX12_compositions_46 (by decide) ?_
        refine lv_istore (pc := 47) (lv' := [(5, .int 0), (4, .int 0), (0, .ref th), (1, .int p0), (2, .int p1), (3, .int p2)]) hx hb dX12_compositions_47 hl (by decide) rfl (fun ls hl => ?_)
        refine lv_aload_n (pc := 49) hx hb dX12_compositions_49 rfl (lv_at hl 2 rfl) ?_
        refine sx_getR (pc := 50) (j := 46) B hH hk_th coX12 rfl w_1350 rfl dX12_compositions_50 ?_
        refine W.eq (g2 := F0 m 53 ls [va_rf (gR S th 46)]) rfl ?_
        obtain ⟨a_10, ha_10, hp⟩ := hp
        refine sx_nonnull (x := a_10) ha_10 ?_
        refine lv_iconst (pc := 53) (v := 0) hx hb dX12_compositions_53 (by decide) ?_
        refine lv_iconst (pc := 54) (v := 0) hx hb dX12_compositions_54 (by decide) ?_
        obtain ⟨hk_11, hp⟩ := hp
        obtain ⟨hn_12, hp⟩ := hp
        obtain ⟨F_13, eF_13⟩ : ∃ z : Nat → Nat → Int32, z = upI F_9 a_10 0 0 := ⟨_, rfl⟩
        have hp := hp F_13 eF_13
        refine sx_iast (pc := 55) B hH hk_11 hn_12 dX12_compositions_55 (fun H locs hH => ?_)
        have hH : Hp G (FA S s.heap.size) s.heap (wI S F_13) H locs := by rw [eF_13]; exact hH
        refine lv_aload_n (pc := 56) hx hb dX12_compositions_56 rfl (lv_at hl 2 rfl) ?_
        refine sx_getR (pc := 57) (j := 44) B hH hk_th coX12 rfl w_1348 rfl dX12_compositions_57 ?_
        refine W.eq (g2 := F0 m 60 ls [va_rf (gR S th 44)]) rfl ?_
        obtain ⟨a_14, ha_14, hp⟩ := hp
        refine sx_nonnull (x := a_14) ha_14 ?_
        refine lv_iconst (pc := 60) (v := 0) hx hb dX12_compositions_60 (by decide) ?_
        refine lv_iconst (pc := 61) (v := (-1)) hx hb dX12_compositions_61 (by decide) ?_
        obtain ⟨hk_15, hp⟩ := hp
        obtain ⟨hn_16, hp⟩ := hp
        obtain ⟨F_17, eF_17⟩ : ∃ z : Nat → Nat → Int32, z = upI F_13 a_14 0 (-1) := ⟨_, rfl⟩
        have hp := hp F_17 eF_17
        refine sx_iast (pc := 62) B hH hk_15 hn_16 dX12_compositions_62 (fun H locs hH => ?_)
        have hH : Hp G (FA S s.heap.size) s.heap (wI S F_17) H locs := by rw [eF_17]; exact hH
        obtain ⟨I_18, ⟨k0_18, h0_18⟩, hst_18⟩ := hp
        have kl_18 : ∀ (n_18 : Nat) (x4_19 : Int32) (x5_20 : Int32) (F_21 : Nat → Nat → Int32) (H : Heap) (locs : List Loc) (ls : Array Slot), I_18 n_18 x4_19 x5_20 F_21 → Hp G (FA S s.heap.size) s.heap (wI S F_21) H locs → lv_has ls 8 [(0, .ref th), (1, .int p0), (2, .int p1), (3, .int p2), (4, .int x4_19), (5, .int x5_20)] → Wm G p l e { frames := 3, cells := 0, slots := 0, locals := 69 } s m args below meth c S QQ 0 0 H locs 0 0 (F0 m 63 ls []) := by
          intro n_18
          induction n_18 using Nat.strongRecOn with
          | ind n_18 ih_18 =>
            intro x4_19 x5_20 F_21 H locs ls hq9 hH hl
            have hp := hst_18 n_18 x4_19 x5_20 F_21 hq9
            refine lv_iload (pc := 63) hx hb dX12_compositions_63 (lv_at hl 5 rfl) ?_
            refine lv_if_lt (pc := 65) (tgt := 253) hx hb dX12_compositions_65 (by decide) (fun cc_22 => ?_) (fun cc_22 => ?_)
            · have hp := hp.1 cc_22
              refine lv_aload_n (pc := 253) hx hb dX12_compositions_253 rfl (lv_at hl 0 rfl) ?_
              refine lv_iload (pc := 254) hx hb dX12_compositions_254 (lv_at hl 4 rfl) ?_
              refine sx_V (pc := 256) (As := [.int x4_19]) (rest := []) B hH hl.1 (C_X12_gives G l th x4_19 _ _ hp) mi_X12_gives coX12 hk_th w_1617 w_69 w_1615 rfl rfl ⟨Nat.le_of_ble_eq_true rfl, Nat.le_of_ble_eq_true rfl⟩ (Nat.le_of_ble_eq_true rfl) ⟨Nat.le_of_ble_eq_true rfl, Nat.le_of_ble_eq_true rfl⟩ dX12_compositions_256 (fun v S1 H locs hq hH => ?_)
              obtain ⟨r_23, F_23, rfl, e9, hp⟩ := hq
              rw [e9] at hH
              have hH : Hp G (FA S s.heap.size) s.heap (wI S F_23) H locs := hH
              refine W.eq (g2 := F0 m 259 ls [.int r_23]) rfl ?_
              exact sx_iret (pc := 259) B hH hr hlk (by rw [← hQQ]; exact ⟨_, F_23, rfl, rfl, hp⟩) (Nat.le_of_ble_eq_true rfl) (Nat.le_of_ble_eq_true rfl) dX12_compositions_259
            · have hp := hp.2 cc_22
              refine lv_aload_n (pc := 68) hx hb dX12_compositions_68 rfl (lv_at hl 0 rfl) ?_
              refine sx_getR (pc := 69) (j := 44) B hH hk_th coX12 rfl w_1348 rfl dX12_compositions_69 ?_
              refine W.eq (g2 := F0 m 72 ls [va_rf (gR S th 44)]) rfl ?_
              refine sx_nonnull (x := a_14) ha_14 ?_
              refine lv_iload (pc := 72) hx hb dX12_compositions_72 (lv_at hl 5 rfl) ?_
              refine lv_dup2_11 (pc := 74) hx hb dX12_compositions_74 rfl rfl ?_
              obtain ⟨hn_24, hp⟩ := hp
              refine sx_iald (pc := 75) B hH hk_15 hn_24 dX12_compositions_75 ?_
              refine W.eq (g2 := F0 m 76 ls [.int (F_21 a_14 x5_20.toNatClampNeg), .int x5_20, .ref a_14]) rfl ?_
              refine lv_iconst (pc := 76) (v := 1) hx hb dX12_compositions_76 (by decide) ?_
              refine lv_iadd (pc := 77) hx hb dX12_compositions_77 ?_
              refine lv_topi (fun v_25 ev_25 => ?_)
              have hp := hp v_25 ev_25
              obtain ⟨F_26, eF_26⟩ : ∃ z : Nat → Nat → Int32, z = upI F_21 a_14 x5_20.toNatClampNeg v_25 := ⟨_, rfl⟩
              have hp := hp F_26 eF_26
              refine sx_iast (pc := 78) B hH hk_15 hn_24 dX12_compositions_78 (fun H locs hH => ?_)
              have hH : Hp G (FA S s.heap.size) s.heap (wI S F_26) H locs := by rw [eF_26]; exact hH
              refine lv_aload_n (pc := 79) hx hb dX12_compositions_79 rfl (lv_at hl 0 rfl) ?_
              refine sx_getR (pc := 80) (j := 44) B hH hk_th coX12 rfl w_1348 rfl dX12_compositions_80 ?_
              refine W.eq (g2 := F0 m 83 ls [va_rf (gR S th 44)]) rfl ?_
              refine sx_nonnull (x := a_14) ha_14 ?_
              refine lv_iload (pc := 83) hx hb dX12_compositions_83 (lv_at hl 5 rfl) ?_
              refine sx_iald (pc := 85) B hH hk_15 hn_24 dX12_compositions_85 ?_
              refine W.eq (g2 := F0 m 86 ls [.int (F_26 a_14 x5_20.toNatClampNeg)]) rfl ?_
              refine lv_iconst (pc := 86) (v := 2) hx hb dX12_compositions_86 (by decide) ?_
              refine lv_icmp_le (pc := 87) (tgt := 96) hx hb dX12_compositions_87 (by decide) (fun cc_27 => ?_) (fun cc_27 => ?_)
              · have hp := hp.1 cc_27
                refine lv_iload_n (pc := 96) hx hb dX12_compositions_96 rfl (lv_at hl 3 rfl) ?_
                refine lv_aload_n (pc := 97) hx hb dX12_compositions_97 rfl (lv_at hl 0 rfl) ?_
                refine sx_getR (pc := 98) (j := 44) B hH hk_th coX12 rfl w_1348 rfl dX12_compositions_98 ?_
                refine W.eq (g2 := F0 m 101 ls [va_rf (gR S th 44), .int p2]) rfl ?_
                refine sx_nonnull (x := a_14) ha_14 ?_
                refine lv_iload (pc := 101) hx hb dX12_compositions_101 (lv_at hl 5 rfl) ?_
                refine sx_iald (pc := 103) B hH hk_15 hn_24 dX12_compositions_103 ?_
                refine W.eq (g2 := F0 m 104 ls [.int (F_26 a_14 x5_20.toNatClampNeg), .int p2]) rfl ?_
                refine lv_ishr (pc := 104) hx hb dX12_compositions_104 ?_
                refine W.eq (g2 := F0 m 105 ls [.int (shr p2 (F_26 a_14 x5_20.toNatClampNeg))]) rfl ?_
                refine lv_iconst (pc := 105) (v := 1) hx hb dX12_compositions_105 (by decide) ?_
                refine lv_iand (pc := 106) hx hb dX12_compositions_106 ?_
                refine lv_if_ne (pc := 107) (tgt := 113) hx hb dX12_compositions_107 (by decide) (fun cc_28 => ?_) (fun cc_28 => ?_)
                · have hp := hp.1 cc_28
                  refine lv_aload_n (pc := 113) hx hb dX12_compositions_113 rfl (lv_at hl 0 rfl) ?_
                  refine lv_aload_n (pc := 114) hx hb dX12_compositions_114 rfl (lv_at hl 0 rfl) ?_
                  refine sx_getR (pc := 115) (j := 46) B hH hk_th coX12 rfl w_1350 rfl dX12_compositions_115 ?_
                  refine W.eq (g2 := F0 m 118 ls [va_rf (gR S th 46), .ref th]) rfl ?_
                  refine sx_nonnull (x := a_10) ha_10 ?_
                  refine lv_iload (pc := 118) hx hb dX12_compositions_118 (lv_at hl 5 rfl) ?_
                  obtain ⟨hn_29, hp⟩ := hp
                  refine sx_iald (pc := 120) B hH hk_11 hn_29 dX12_compositions_120 ?_
                  refine W.eq (g2 := F0 m 121 ls [.int (F_26 a_10 x5_20.toNatClampNeg), .ref th]) rfl ?_
                  refine lv_aload_n (pc := 121) hx hb dX12_compositions_121 rfl (lv_at hl 0 rfl) ?_
                  refine sx_getR (pc := 122) (j := 23) B hH hk_th coX12 rfl w_1327 rfl dX12_compositions_122 ?_
                  refine W.eq (g2 := F0 m 125 ls [va_rf (gR S th 23), .int (F_26 a_10 x5_20.toNatClampNeg), .ref th]) rfl ?_
                  obtain ⟨a_30, ha_30, hp⟩ := hp
                  refine sx_nonnull (x := a_30) ha_30 ?_
                  refine sx_V (pc := 125) (As := [.int (F_26 a_10 x5_20.toNatClampNeg), .ref a_30]) (rest := []) B hH hl.1 (C_X12_laysRow G l th (F_26 a_10 x5_20.toNatClampNeg) a_30 _ _ hp) mi_X12_laysRow coX12 hk_th w_1657 w_76 w_1655 rfl rfl ⟨Nat.le_of_ble_eq_true rfl, Nat.le_of_ble_eq_true rfl⟩ (Nat.le_of_ble_eq_true rfl) ⟨Nat.le_of_ble_eq_true rfl, Nat.le_of_ble_eq_true rfl⟩ dX12_compositions_125 (fun v S1 H locs hq hH => ?_)
                  obtain ⟨F_31, rfl, e9, hp⟩ := hq
                  rw [e9] at hH
                  have hH : Hp G (FA S s.heap.size) s.heap (wI S F_31) H locs := hH
                  refine W.eq (g2 := F0 m 128 ls []) rfl ?_
                  refine lv_aload_n (pc := 128) hx hb dX12_compositions_128 rfl (lv_at hl 0 rfl) ?_
                  refine lv_aload_n (pc := 129) hx hb dX12_compositions_129 rfl (lv_at hl 0 rfl) ?_
                  refine lv_iload_n (pc := 130) hx hb dX12_compositions_130 rfl (lv_at hl 1 rfl) ?_
                  refine sx_V (pc := 131) (As := [.int p0]) (rest := [.ref th]) B hH hl.1 (C_X12_changesOf G l th p0 _ _ hp) mi_X12_changesOf coX12 hk_th w_1749 w_87 w_1747 rfl rfl ⟨Nat.le_of_ble_eq_true rfl, Nat.le_of_ble_eq_true rfl⟩ (Nat.le_of_ble_eq_true rfl) ⟨Nat.le_of_ble_eq_true rfl, Nat.le_of_ble_eq_true rfl⟩ dX12_compositions_131 (fun v S1 H locs hq hH => ?_)
                  obtain ⟨r_32, rfl, e9, hp⟩ := hq
                  rw [e9] at hH
                  refine W.eq (g2 := F0 m 134 ls [.int r_32, .ref th]) rfl ?_
                  refine lv_iload (pc := 134) hx hb dX12_compositions_134 (lv_at hl 5 rfl) ?_
                  refine lv_imul (pc := 136) hx hb dX12_compositions_136 ?_
                  refine lv_topi (fun v_33 ev_33 => ?_)
                  have hp := hp v_33 ev_33
                  obtain ⟨F_34, eF_34⟩ : ∃ z : Nat → Nat → Int32, z = upI F_31 th 49 v_33 := ⟨_, rfl⟩
                  have hp := hp F_34 eF_34
                  refine sx_putI (pc := 137) (j := 49) B hH hk_th coX12 rfl w_1353 rfl (Or.inl rfl) rfl dX12_compositions_137 (fun H locs hH => ?_)
                  have hH : Hp G (FA S s.heap.size) s.heap (wI S F_34) H locs := by rw [eF_34]; exact hH
                  refine lv_aload_n (pc := 140) hx hb dX12_compositions_140 rfl (lv_at hl 0 rfl) ?_
                  refine lv_iload_n (pc := 141) hx hb dX12_compositions_141 rfl (lv_at hl 1 rfl) ?_
                  refine lv_aload_n (pc := 142) hx hb dX12_compositions_142 rfl (lv_at hl 0 rfl) ?_
                  refine sx_getR (pc := 143) (j := 44) B hH hk_th coX12 rfl w_1348 rfl dX12_compositions_143 ?_
                  refine W.eq (g2 := F0 m 146 ls [va_rf (gR S th 44), .int p0, .ref th]) rfl ?_
                  refine sx_nonnull (x := a_14) ha_14 ?_
                  refine lv_iload (pc := 146) hx hb dX12_compositions_146 (lv_at hl 5 rfl) ?_
                  refine sx_iald (pc := 148) B hH hk_15 hn_24 dX12_compositions_148 ?_
                  refine W.eq (g2 := F0 m 149 ls [.int (F_34 a_14 x5_20.toNatClampNeg), .int p0, .ref th]) rfl ?_
                  refine sx_V (pc := 149) (As := [.int p0, .int (F_34 a_14 x5_20.toNatClampNeg)]) (rest := []) B hH hl.1 (C_X12_ringsLead G l th p0 (F_34 a_14 x5_20.toNatClampNeg) _ _ hp) mi_X12_ringsLead coX12 hk_th w_1946 w_102 w_1944 rfl rfl ⟨Nat.le_of_ble_eq_true rfl, Nat.le_of_ble_eq_true rfl⟩ (Nat.le_of_ble_eq_true rfl) ⟨Nat.le_of_ble_eq_true rfl, Nat.le_of_ble_eq_true rfl⟩ dX12_compositions_149 (fun v S1 H locs hq hH => ?_)
                  obtain ⟨r_35, F_35, rfl, e9, hp⟩ := hq
                  rw [e9] at hH
                  have hH : Hp G (FA S s.heap.size) s.heap (wI S F_35) H locs := hH
                  refine W.eq (g2 := F0 m 152 ls [.int r_35]) rfl ?_
                  refine lv_if_ne (pc := 152) (tgt := 158) hx hb dX12_compositions_152 (by decide) (fun cc_36 => ?_) (fun cc_36 => ?_)
                  · have hp := hp.1 cc_36
                    refine lv_aload_n (pc := 158) hx hb dX12_compositions_158 rfl (lv_at hl 0 rfl) ?_
                    refine lv_aload_n (pc := 159) hx hb dX12_compositions_159 rfl (lv_at hl 0 rfl) ?_
                    refine sx_getR (pc := 160) (j := 23) B hH hk_th coX12 rfl w_1327 rfl dX12_compositions_160 ?_
                    refine W.eq (g2 := F0 m 163 ls [va_rf (gR S th 23), .ref th]) rfl ?_
                    refine sx_nonnull (x := a_30) ha_30 ?_
                    refine sx_V (pc := 163) (As := [.ref a_30]) (rest := []) B hH hl.1 (C_X12_numberOf G l th a_30 _ _ hp) mi_X12_numberOf coX12 hk_th w_1668 w_77 w_1666 rfl rfl ⟨Nat.le_of_ble_eq_true rfl, Nat.le_of_ble_eq_true rfl⟩ (Nat.le_of_ble_eq_true rfl) ⟨Nat.le_of_ble_eq_true rfl, Nat.le_of_ble_eq_true rfl⟩ dX12_compositions_163 (fun v S1 H locs hq hH => ?_)
                    obtain ⟨r_37, rfl, e9, hp⟩ := hq
                    rw [e9] at hH
                    refine W.eq (g2 := F0 m 166 ls [.int r_37]) rfl ?_
                    refine lv_istore (pc := 166) (lv' := [(6, .int r_37), (0, .ref th), (1, .int p0), (2, .int p1), (3, .int p2), (4, .int x4_19), (5, .int x5_20)]) hx hb dX12_compositions_166 hl (by decide) rfl (fun ls hl => ?_)
                    refine lv_iload (pc := 168) hx hb dX12_compositions_168 (lv_at hl 6 rfl) ?_
                    refine lv_iconst (pc := 170) (v := 1) hx hb dX12_compositions_170 (by decide) ?_
                    refine lv_iadd (pc := 171) hx hb dX12_compositions_171 ?_
                    refine lv_iload_n (pc := 172) hx hb dX12_compositions_172 rfl (lv_at hl 3 rfl) ?_
                    refine lv_icmp_ge (pc := 173) (tgt := 199) hx hb dX12_compositions_173 (by decide) (fun cc_38 => ?_) (fun cc_38 => ?_)
                    · have hp := hp.1 cc_38
                      refine lv_iload (pc := 199) hx hb dX12_compositions_199 (lv_at hl 0 rfl) ?_
                      refine lv_if_eq (pc := 201) (tgt := 207) hx hb dX12_compositions_201 (by decide) (fun cc_39 => ?_) (fun cc_39 => ?_)
                      · have hp := hp.1 cc_39
                        obtain ⟨v_40, ev_40⟩ : ∃ y : Int32, y = x4_19 + 1 := ⟨_, rfl⟩
                        have hp := hp v_40 ev_40
                        refine lv_iinc (pc := 207) (v := v_40) (lv' := [(4, .int v_40), (6, .int r_37), (0, .ref th), (1, .int p0), (2, .int p1), (3, .int p2), (5, .int x5_20)]) hx hb dX12_compositions_207 hl (k := 5) rfl (by rw [ev_40]; rfl) (by decide) rfl (fun ls hl => ?_)
                        refine lv_iconst (pc := 210) (v := 0) hx hb dX12_compositions_210 (by decide) ?_
                        refine lv_istore (pc := 211) (lv' := [(7, .int 0), (4, .int v_40), (6, .int r_37), (0, .ref th), (1, .int p0), (2, .int p1), (3, .int p2), (5, .int x5_20)]) hx hb dX12_compositions_211 hl (by decide) rfl (fun ls hl => ?_)
                        obtain ⟨I_41, ⟨k0_41, h0_41⟩, hst_41⟩ := hp
                        have kl_41 : ∀ (n_41 : Nat) (x7_42 : Int32) (F_43 : Nat → Nat → Int32) (H : Heap) (locs : List Loc) (ls : Array Slot), I_41 n_41 x7_42 F_43 → Hp G (FA S s.heap.size) s.heap (wI S F_43) H locs → lv_has ls 8 [(0, .ref th), (1, .int p0), (2, .int p1), (3, .int p2), (4, .int v_40), (5, .int x5_20), (7, .int x7_42)] → Wm G p l e { frames := 3, cells := 0, slots := 0, locals := 69 } s m args below meth c S QQ 0 0 H locs 0 0 (F0 m 213 ls []) := by
                          intro n_41
                          induction n_41 using Nat.strongRecOn with
                          | ind n_41 ih_41 =>
                            intro x7_42 F_43 H locs ls hq9 hH hl
                            have hp := hst_41 n_41 x7_42 F_43 hq9
                            refine lv_iload (pc := 213) hx hb dX12_compositions_213 (lv_at hl 6 rfl) ?_
                            refine lv_iload_n (pc := 215) hx hb dX12_compositions_215 rfl (lv_at hl 2 rfl) ?_
                            obtain ⟨J_45, hj_45, hp⟩ := hp
                            have kj_45 : ∀  (H : Heap) (locs : List Loc) (ls : Array Slot), J_45  → Hp G (FA S s.heap.size) s.heap (wI S F_43) H locs → lv_has ls 8 [(0, .ref th), (1, .int p0), (2, .int p1), (3, .int p2), (4, .int v_40), (5, .int x5_20)] → Wm G p l e { frames := 3, cells := 0, slots := 0, locals := 69 } s m args below meth c S QQ 0 0 H locs 0 0 (F0 m 245 ls []) := by
                              intro  H locs ls hq9 hH hl
                              have hp := hj_45  hq9
                              refine lv_aload_n (pc := 245) hx hb dX12_compositions_245 rfl (lv_at hl 0 rfl) ?_
                              refine lv_iload_n (pc := 246) hx hb dX12_compositions_246 rfl (lv_at hl 2 rfl) ?_
                              obtain ⟨F_46, eF_46⟩ : ∃ z : Nat → Nat → Int32, z = upI F_43 th 48 p1 := ⟨_, rfl⟩
                              have hp := hp F_46 eF_46
                              refine sx_putI (pc := 247) (j := 48) B hH hk_th coX12 rfl w_1352 rfl (Or.inl rfl) rfl dX12_compositions_247 (fun H locs hH => ?_)
                              have hH : Hp G (FA S s.heap.size) s.heap (wI S F_46) H locs := by rw [eF_46]; exact hH
                              refine lv_goto (pc := 250) (tgt := 63) hx hb dX12_compositions_250 (by decide) ?_
                              obtain ⟨k9, hlt9, hp⟩ := hp
                              exact ih_18 k9 hlt9 _ _ _ _ _ _ hp hH (lv_sub hl [0, 1, 2, 3, 4, 5] rfl)
                            refine lv_icmp_ge (pc := 216) (tgt := 245) hx hb dX12_compositions_216 (by decide) (fun cc_44 => ?_) (fun cc_44 => ?_)
                            · have hp := hp.1 cc_44
                              exact kj_45  _ _ _ hp hH (lv_sub hl [0, 1, 2, 3, 4, 5] rfl)
                            · have hp := hp.2 cc_44
                              refine lv_iload (pc := 219) hx hb dX12_compositions_219 (lv_at hl 4 rfl) ?_
                              refine lv_iconst (pc := 221) (v := 1) hx hb dX12_compositions_221 (by decide) ?_
                              refine lv_icmp_ne (pc := 222) (tgt := 245) hx hb dX12_compositions_222 (by decide) (fun cc_47 => ?_) (fun cc_47 => ?_)
                              · have hp := hp.1 cc_47
                                exact kj_45  _ _ _ hp hH (lv_sub hl [0, 1, 2, 3, 4, 5] rfl)
                              · have hp := hp.2 cc_47
                                refine lv_aload_n (pc := 225) hx hb dX12_compositions_225 rfl (lv_at hl 0 rfl) ?_
                                refine sx_getR (pc := 226) (j := 45) B hH hk_th coX12 rfl w_1349 rfl dX12_compositions_226 ?_
                                refine W.eq (g2 := F0 m 229 ls [va_rf (gR S th 45)]) rfl ?_
                                obtain ⟨a_48, ha_48, hp⟩ := hp
                                refine sx_nonnull (x := a_48) ha_48 ?_
                                refine lv_iload (pc := 229) hx hb dX12_compositions_229 (lv_at hl 6 rfl) ?_
                                refine lv_aload_n (pc := 231) hx hb dX12_compositions_231 rfl (lv_at hl 0 rfl) ?_
                                refine sx_getR (pc := 232) (j := 44) B hH hk_th coX12 rfl w_1348 rfl dX12_compositions_232 ?_
                                refine W.eq (g2 := F0 m 235 ls [va_rf (gR S th 44), .int x7_42, .ref a_48]) rfl ?_
                                refine sx_nonnull (x := a_14) ha_14 ?_
                                refine lv_iload (pc := 235) hx hb dX12_compositions_235 (lv_at hl 6 rfl) ?_
                                obtain ⟨hn_49, hp⟩ := hp
                                refine sx_iald (pc := 237) B hH hk_15 hn_49 dX12_compositions_237 ?_
                                refine W.eq (g2 := F0 m 238 ls [.int (F_43 a_14 x7_42.toNatClampNeg), .int x7_42, .ref a_48]) rfl ?_
                                obtain ⟨hk_50, hp⟩ := hp
                                obtain ⟨hn_51, hp⟩ := hp
                                refine lv_topi (fun v_52 ev_52 => ?_)
                                have hp := hp v_52 ev_52
                                obtain ⟨F_53, eF_53⟩ : ∃ z : Nat → Nat → Int32, z = upI F_43 a_48 x7_42.toNatClampNeg v_52 := ⟨_, rfl⟩
                                have hp := hp F_53 eF_53
                                refine sx_iast (pc := 238) B hH hk_50 hn_51 dX12_compositions_238 (fun H locs hH => ?_)
                                have hH : Hp G (FA S s.heap.size) s.heap (wI S F_53) H locs := by rw [eF_53]; exact hH
                                obtain ⟨v_54, ev_54⟩ : ∃ y : Int32, y = x7_42 + 1 := ⟨_, rfl⟩
                                have hp := hp v_54 ev_54
                                refine lv_iinc (pc := 239) (v := v_54) (lv' := [(7, .int v_54), (0, .ref th), (1, .int p0), (2, .int p1), (3, .int p2), (4, .int v_40), (5, .int x5_20)]) hx hb dX12_compositions_239 hl (k := 6) rfl (by rw [ev_54]; rfl) (by decide) rfl (fun ls hl => ?_)
                                refine lv_goto (pc := 242) (tgt := 213) hx hb dX12_compositions_242 (by decide) ?_
                                obtain ⟨k9, hlt9, hp⟩ := hp
                                exact ih_41 k9 hlt9 _ _ _ _ _ hp hH (lv_sub hl [1, 2, 3, 4, 5, 6, 0] rfl)
                        exact kl_41 k0_41 _ _ _ _ _ h0_41 hH (lv_sub hl [3, 4, 5, 6, 1, 7, 0] rfl)
                      · have hp := hp.2 cc_39
                        refine lv_goto (pc := 204) (tgt := 63) hx hb dX12_compositions_204 (by decide) ?_
                        obtain ⟨k9, hlt9, hp⟩ := hp
                        exact ih_18 k9 hlt9 _ _ _ _ _ _ hp hH (lv_sub hl [1, 2, 3, 4, 5, 6] rfl)
                    · have hp := hp.2 cc_38
                      obtain ⟨v_55, ev_55⟩ : ∃ y : Int32, y = x5_20 + 1 := ⟨_, rfl⟩
                      have hp := hp v_55 ev_55
                      refine lv_iinc (pc := 176) (v := v_55) (lv' := [(5, .int v_55), (6, .int r_37), (0, .ref th), (1, .int p0), (2, .int p1), (3, .int p2), (4, .int x4_19)]) hx hb dX12_compositions_176 hl (k := 6) rfl (by rw [ev_55]; rfl) (by decide) rfl (fun ls hl => ?_)
                      refine lv_aload_n (pc := 179) hx hb dX12_compositions_179 rfl (lv_at hl 2 rfl) ?_
                      refine sx_getR (pc := 180) (j := 46) B hH hk_th coX12 rfl w_1350 rfl dX12_compositions_180 ?_
                      refine W.eq (g2 := F0 m 183 ls [va_rf (gR S th 46)]) rfl ?_
                      refine sx_nonnull (x := a_10) ha_10 ?_
                      refine lv_iload (pc := 183) hx hb dX12_compositions_183 (lv_at hl 0 rfl) ?_
                      refine lv_iload (pc := 185) hx hb dX12_compositions_185 (lv_at hl 1 rfl) ?_
                      obtain ⟨hn_56, hp⟩ := hp
                      obtain ⟨F_57, eF_57⟩ : ∃ z : Nat → Nat → Int32, z = upI F_35 a_10 v_55.toNatClampNeg r_37 := ⟨_, rfl⟩
                      have hp := hp F_57 eF_57
                      refine sx_iast (pc := 187) B hH hk_11 hn_56 dX12_compositions_187 (fun H locs hH => ?_)
                      have hH : Hp G (FA S s.heap.size) s.heap (wI S F_57) H locs := by rw [eF_57]; exact hH
                      refine lv_aload_n (pc := 188) hx hb dX12_compositions_188 rfl (lv_at hl 2 rfl) ?_
                      refine sx_getR (pc := 189) (j := 44) B hH hk_th coX12 rfl w_1348 rfl dX12_compositions_189 ?_
                      refine W.eq (g2 := F0 m 192 ls [va_rf (gR S th 44)]) rfl ?_
                      refine sx_nonnull (x := a_14) ha_14 ?_
                      refine lv_iload (pc := 192) hx hb dX12_compositions_192 (lv_at hl 0 rfl) ?_
                      refine lv_iconst (pc := 194) (v := (-1)) hx hb dX12_compositions_194 (by decide) ?_
                      obtain ⟨hn_58, hp⟩ := hp
                      obtain ⟨F_59, eF_59⟩ : ∃ z : Nat → Nat → Int32, z = upI F_57 a_14 v_55.toNatClampNeg (-1) := ⟨_, rfl⟩
                      have hp := hp F_59 eF_59
                      refine sx_iast (pc := 195) B hH hk_15 hn_58 dX12_compositions_195 (fun H locs hH => ?_)
                      have hH : Hp G (FA S s.heap.size) s.heap (wI S F_59) H locs := by rw [eF_59]; exact hH
                      refine lv_goto (pc := 196) (tgt := 63) hx hb dX12_compositions_196 (by decide) ?_
                      obtain ⟨k9, hlt9, hp⟩ := hp
                      exact ih_18 k9 hlt9 _ _ _ _ _ _ hp hH (lv_sub hl [2, 3, 4, 5, 6, 0] rfl)
                  · have hp := hp.2 cc_36
                    refine lv_goto (pc := 155) (tgt := 63) hx hb dX12_compositions_155 (by decide) ?_
                    obtain ⟨k9, hlt9, hp⟩ := hp
                    exact ih_18 k9 hlt9 _ _ _ _ _ _ hp hH (lv_sub hl [0, 1, 2, 3, 4, 5] rfl)
                · have hp := hp.2 cc_28
                  refine lv_goto (pc := 110) (tgt := 63) hx hb dX12_compositions_110 (by decide) ?_
                  obtain ⟨k9, hlt9, hp⟩ := hp
                  exact ih_18 k9 hlt9 _ _ _ _ _ _ hp hH (lv_sub hl [0, 1, 2, 3, 4, 5] rfl)
              · have hp := hp.2 cc_27
                obtain ⟨v_60, ev_60⟩ : ∃ y : Int32, y = x5_20 + (-1) := ⟨_, rfl⟩
                have hp := hp v_60 ev_60
                refine lv_iinc (pc := 90) (v := v_60) (lv' := [(5, .int v_60), (0, .ref th), (1, .int p0), (2, .int p1), (3, .int p2), (4, .int x4_19)]) hx hb dX12_compositions_90 hl (k := 5) rfl (by rw [ev_60]; rfl) (by decide) rfl (fun ls hl => ?_)
                refine lv_goto (pc := 93) (tgt := 63) hx hb dX12_compositions_93 (by decide) ?_
                obtain ⟨k9, hlt9, hp⟩ := hp
                exact ih_18 k9 hlt9 _ _ _ _ _ _ hp hH (lv_sub hl [1, 2, 3, 4, 5, 0] rfl)
        exact kl_18 k0_18 _ _ _ _ _ _ h0_18 hH (lv_sub hl [2, 3, 4, 5, 1, 0] rfl)
      · have hp := hp.2 cc_8
        exact kj_3  _ _ _ hp hH (lv_sub hl [0] rfl)
theorem dX12_callAt_0 : decode cX12_callAt 0 = .ok (.iload_n 1, 1) := by decide +kernel
theorem dX12_callAt_1 : decode cX12_callAt 1 = .ok (.ifCond .lt 11, 3) := by decide +kernel
theorem dX12_callAt_4 : decode cX12_callAt 4 = .ok (.iload_n 1, 1) := by decide +kernel
theorem dX12_callAt_5 : decode cX12_callAt 5 = .ok (.aload_n 0, 1) := by decide +kernel
theorem dX12_callAt_6 : decode cX12_callAt 6 = .ok (.getfield 406, 3) := by decide +kernel
theorem dX12_callAt_9 : decode cX12_callAt 9 = .ok (.if_icmp .lt 12, 3) := by decide +kernel
theorem dX12_callAt_12 : decode cX12_callAt 12 = .ok (.aload_n 0, 1) := by decide +kernel
theorem dX12_callAt_13 : decode cX12_callAt 13 = .ok (.bipush 6, 2) := by decide +kernel
theorem dX12_callAt_15 : decode cX12_callAt 15 = .ok (.invokevirtual 105, 3) := by decide +kernel
theorem dX12_callAt_18 : decode cX12_callAt 18 = .ok (.goto 13, 3) := by decide +kernel
theorem dX12_callAt_21 : decode cX12_callAt 21 = .ok (.aload_n 0, 1) := by decide +kernel
theorem dX12_callAt_22 : decode cX12_callAt 22 = .ok (.aload_n 0, 1) := by decide +kernel
theorem dX12_callAt_23 : decode cX12_callAt 23 = .ok (.getfield 90, 3) := by decide +kernel
theorem dX12_callAt_26 : decode cX12_callAt 26 = .ok (.iload_n 1, 1) := by decide +kernel
theorem dX12_callAt_27 : decode cX12_callAt 27 = .ok (.iaload, 1) := by decide +kernel
theorem dX12_callAt_28 : decode cX12_callAt 28 = .ok (.invokevirtual 109, 3) := by decide +kernel
theorem dX12_callAt_31 : decode cX12_callAt 31 = .ok (.ireturn, 1) := by decide +kernel
theorem mi_X12_callAt : MI yX12_callAt cX12_callAt 2 (some FieldType.int) 1 := ⟨w_1951, w_118, by decide +kernel, by decide +kernel, by decide +kernel⟩
set_option maxRecDepth 100000 in
set_option maxHeartbeats 4000000 in
theorem C_X12_callAt (G : GG) (l : Launch) (th : Nat) (p0 : Int32) (S : St) (Q : Int32 → (Nat → Nat → Int32) → Prop) (hp : P_X12_callAt th p0 S Q) : Ctr G l yX12_callAt cX12_callAt 2 (some FieldType.int) 1 21 0 0 [.ref th, .int p0] S (fun (v : Option Value) (S9 : St) => ∃ (r : Int32) (I9 : Nat → Nat → Int32), v = some (.int r) ∧ S9 = wI S I9 ∧ Q r I9) := by
  generalize hQQ : (fun (v : Option Value) (S9 : St) => ∃ (r : Int32) (I9 : Nat → Nat → Int32), v = some (.int r) ∧ S9 = wI S I9 ∧ Q r I9) = QQ
  unfold P_X12_callAt at hp
  refine Ctr.of (by decide) (Nat.le_of_ble_eq_true rfl) ?_
  intro p e s m args below meth c ls B hr hlk hin hl hH
  generalize hlocs0 : ([] : List Loc) = locs at hH ⊢
  have hx := B.1
  have hb := B.2.1
  have hl : lv_has ls 2 [(0, .ref th), (1, .int p0)] := hl
  obtain ⟨hk_th, hp⟩ := hp
  refine lv_iload_n (pc := 0) hx hb dX12_callAt_0 rfl (lv_at hl 1 rfl) ?_
  obtain ⟨J_2, hj_2, hp⟩ := hp
  have kj_2 : ∀  (H : Heap) (locs : List Loc) (ls : Array Slot), J_2  → Hp G (FA S s.heap.size) s.heap S H locs → lv_has ls 2 [(0, .ref th)] → Wm G p l e { frames := 1, cells := 0, slots := 0, locals := 21 } s m args below meth c S QQ 0 0 H locs 0 0 (F0 m 12 ls []) := by
    intro  H locs ls hq9 hH hl
    have hp := hj_2  hq9
    refine lv_aload_n (pc := 12) hx hb dX12_callAt_12 rfl (lv_at hl 0 rfl) ?_
    refine lv_bipush (pc := 13) (v := 6) hx hb dX12_callAt_13 (by decide) ?_
    refine sx_V (pc := 15) (As := [.int 6]) (rest := []) B hH hl.1 (C_X12_refuse G l th 6 _ _ hp) mi_X12_refuse coX12 hk_th w_1539 w_51 w_1537 rfl rfl ⟨Nat.le_of_ble_eq_true rfl, Nat.le_of_ble_eq_true rfl⟩ (Nat.le_of_ble_eq_true rfl) ⟨Nat.le_of_ble_eq_true rfl, Nat.le_of_ble_eq_true rfl⟩ dX12_callAt_15 (fun v S1 H locs hq hH => ?_)
    obtain ⟨r_3, F_3, rfl, e9, hp⟩ := hq
    rw [e9] at hH
    have hH : Hp G (FA S s.heap.size) s.heap (wI S F_3) H locs := hH
    refine W.eq (g2 := F0 m 18 ls [.int r_3]) rfl ?_
    refine lv_goto (pc := 18) (tgt := 31) hx hb dX12_callAt_18 (by decide) ?_
    exact sx_iret (pc := 31) B hH hr hlk (by rw [← hQQ]; exact ⟨_, F_3, rfl, rfl, hp⟩) (Nat.le_of_ble_eq_true rfl) (Nat.le_of_ble_eq_true rfl) dX12_callAt_31
  refine lv_if_lt (pc := 1) (tgt := 12) hx hb dX12_callAt_1 (by decide) (fun cc_1 => ?_) (fun cc_1 => ?_)
  · have hp := hp.1 cc_1
    exact kj_2  _ _ _ hp hH (lv_sub hl [0] rfl)
  · have hp := hp.2 cc_1
    refine lv_iload_n (pc := 4) hx hb dX12_callAt_4 rfl (lv_at hl 1 rfl) ?_
    refine lv_aload_n (pc := 5) hx hb dX12_callAt_5 rfl (lv_at hl 0 rfl) ?_
    refine sx_getI (pc := 6) (j := 48) B hH hk_th coX12 rfl w_1352 rfl dX12_callAt_6 ?_
    refine W.eq (g2 := F0 m 9 ls [.int (gI S th 48), .int p0]) rfl ?_
    refine lv_icmp_lt (pc := 9) (tgt := 21) hx hb dX12_callAt_9 (by decide) (fun cc_4 => ?_) (fun cc_4 => ?_)
    · have hp := hp.1 cc_4
      refine lv_aload_n (pc := 21) hx hb dX12_callAt_21 rfl (lv_at hl 0 rfl) ?_
      refine lv_aload_n (pc := 22) hx hb dX12_callAt_22 rfl (lv_at hl 0 rfl) ?_
      refine sx_getR (pc := 23) (j := 45) B hH hk_th coX12 rfl w_1349 rfl dX12_callAt_23 ?_
      refine W.eq (g2 := F0 m 26 ls [va_rf (gR S th 45), .ref th]) rfl ?_
      obtain ⟨a_5, ha_5, hp⟩ := hp
      refine sx_nonnull (x := a_5) ha_5 ?_
      refine lv_iload_n (pc := 26) hx hb dX12_callAt_26 rfl (lv_at hl 1 rfl) ?_
      obtain ⟨hk_6, hp⟩ := hp
      obtain ⟨hn_7, hp⟩ := hp
      refine sx_iald (pc := 27) B hH hk_6 hn_7 dX12_callAt_27 ?_
      refine W.eq (g2 := F0 m 28 ls [.int (gI S a_5 p0.toNatClampNeg), .ref th]) rfl ?_
      refine sx_V (pc := 28) (As := [.int (gI S a_5 p0.toNatClampNeg)]) (rest := []) B hH hl.1 (C_X12_gives G l th (gI S a_5 p0.toNatClampNeg) _ _ hp) mi_X12_gives coX12 hk_th w_1617 w_69 w_1615 rfl rfl ⟨Nat.le_of_ble_eq_true rfl, Nat.le_of_ble_eq_true rfl⟩ (Nat.le_of_ble_eq_true rfl) ⟨Nat.le_of_ble_eq_true rfl, Nat.le_of_ble_eq_true rfl⟩ dX12_callAt_28 (fun v S1 H locs hq hH => ?_)
      obtain ⟨r_8, F_8, rfl, e9, hp⟩ := hq
      rw [e9] at hH
      have hH : Hp G (FA S s.heap.size) s.heap (wI S F_8) H locs := hH
      refine W.eq (g2 := F0 m 31 ls [.int r_8]) rfl ?_
      exact sx_iret (pc := 31) B hH hr hlk (by rw [← hQQ]; exact ⟨_, F_8, rfl, rfl, hp⟩) (Nat.le_of_ble_eq_true rfl) (Nat.le_of_ble_eq_true rfl) dX12_callAt_31
    · have hp := hp.2 cc_4
      exact kj_2  _ _ _ hp hH (lv_sub hl [0] rfl)
theorem dX12_copies_0 : decode cX12_copies 0 = .ok (.iconst 0, 1) := by decide +kernel
theorem dX12_copies_1 : decode cX12_copies 1 = .ok (.istore_n 3, 1) := by decide +kernel
theorem dX12_copies_2 : decode cX12_copies 2 = .ok (.iload_n 3, 1) := by decide +kernel
theorem dX12_copies_3 : decode cX12_copies 3 = .ok (.sipush 2420, 3) := by decide +kernel
theorem dX12_copies_6 : decode cX12_copies 6 = .ok (.if_icmp .ge 33, 3) := by decide +kernel
theorem dX12_copies_9 : decode cX12_copies 9 = .ok (.aload_n 0, 1) := by decide +kernel
theorem dX12_copies_10 : decode cX12_copies 10 = .ok (.getfield 7, 3) := by decide +kernel
theorem dX12_copies_13 : decode cX12_copies 13 = .ok (.sipush 2420, 3) := by decide +kernel
theorem dX12_copies_16 : decode cX12_copies 16 = .ok (.iload_n 2, 1) := by decide +kernel
theorem dX12_copies_17 : decode cX12_copies 17 = .ok (.imul, 1) := by decide +kernel
theorem dX12_copies_18 : decode cX12_copies 18 = .ok (.iload_n 3, 1) := by decide +kernel
theorem dX12_copies_19 : decode cX12_copies 19 = .ok (.iadd, 1) := by decide +kernel
theorem dX12_copies_20 : decode cX12_copies 20 = .ok (.aload_n 0, 1) := by decide +kernel
theorem dX12_copies_21 : decode cX12_copies 21 = .ok (.getfield 7, 3) := by decide +kernel
theorem dX12_copies_24 : decode cX12_copies 24 = .ok (.sipush 2420, 3) := by decide +kernel
theorem dX12_copies_27 : decode cX12_copies 27 = .ok (.iload_n 1, 1) := by decide +kernel
theorem dX12_copies_28 : decode cX12_copies 28 = .ok (.imul, 1) := by decide +kernel
theorem dX12_copies_29 : decode cX12_copies 29 = .ok (.iload_n 3, 1) := by decide +kernel
theorem dX12_copies_30 : decode cX12_copies 30 = .ok (.iadd, 1) := by decide +kernel
theorem dX12_copies_31 : decode cX12_copies 31 = .ok (.iaload, 1) := by decide +kernel
theorem dX12_copies_32 : decode cX12_copies 32 = .ok (.iastore, 1) := by decide +kernel
theorem dX12_copies_33 : decode cX12_copies 33 = .ok (.iinc 3 1, 3) := by decide +kernel
theorem dX12_copies_36 : decode cX12_copies 36 = .ok (.goto (-34), 3) := by decide +kernel
theorem dX12_copies_39 : decode cX12_copies 39 = .ok (.iconst 0, 1) := by decide +kernel
theorem dX12_copies_40 : decode cX12_copies 40 = .ok (.istore_n 3, 1) := by decide +kernel
theorem dX12_copies_41 : decode cX12_copies 41 = .ok (.iload_n 3, 1) := by decide +kernel
theorem dX12_copies_42 : decode cX12_copies 42 = .ok (.bipush 12, 2) := by decide +kernel
theorem dX12_copies_44 : decode cX12_copies 44 = .ok (.if_icmp .ge 31, 3) := by decide +kernel
theorem dX12_copies_47 : decode cX12_copies 47 = .ok (.aload_n 0, 1) := by decide +kernel
theorem dX12_copies_48 : decode cX12_copies 48 = .ok (.getfield 13, 3) := by decide +kernel
theorem dX12_copies_51 : decode cX12_copies 51 = .ok (.bipush 12, 2) := by decide +kernel
theorem dX12_copies_53 : decode cX12_copies 53 = .ok (.iload_n 2, 1) := by decide +kernel
theorem dX12_copies_54 : decode cX12_copies 54 = .ok (.imul, 1) := by decide +kernel
theorem dX12_copies_55 : decode cX12_copies 55 = .ok (.iload_n 3, 1) := by decide +kernel
theorem dX12_copies_56 : decode cX12_copies 56 = .ok (.iadd, 1) := by decide +kernel
theorem dX12_copies_57 : decode cX12_copies 57 = .ok (.aload_n 0, 1) := by decide +kernel
theorem dX12_copies_58 : decode cX12_copies 58 = .ok (.getfield 13, 3) := by decide +kernel
theorem dX12_copies_61 : decode cX12_copies 61 = .ok (.bipush 12, 2) := by decide +kernel
theorem dX12_copies_63 : decode cX12_copies 63 = .ok (.iload_n 1, 1) := by decide +kernel
theorem dX12_copies_64 : decode cX12_copies 64 = .ok (.imul, 1) := by decide +kernel
theorem dX12_copies_65 : decode cX12_copies 65 = .ok (.iload_n 3, 1) := by decide +kernel
theorem dX12_copies_66 : decode cX12_copies 66 = .ok (.iadd, 1) := by decide +kernel
theorem dX12_copies_67 : decode cX12_copies 67 = .ok (.laload, 1) := by decide +kernel
theorem dX12_copies_68 : decode cX12_copies 68 = .ok (.lastore, 1) := by decide +kernel
theorem dX12_copies_69 : decode cX12_copies 69 = .ok (.iinc 3 1, 3) := by decide +kernel
theorem dX12_copies_72 : decode cX12_copies 72 = .ok (.goto (-31), 3) := by decide +kernel
theorem dX12_copies_75 : decode cX12_copies 75 = .ok (.return_, 1) := by decide +kernel
theorem mi_X12_copies : MI yX12_copies cX12_copies 4 (none : Option Jvm.ClassFile.FieldType) 2 := ⟨w_1959, w_118, by decide +kernel, by decide +kernel, by decide +kernel⟩
set_option maxRecDepth 100000 in
set_option maxHeartbeats 4000000 in
theorem C_X12_copies (G : GG) (l : Launch) (th : Nat) (p0 : Int32) (p1 : Int32) (S : St) (Q : (Nat → Nat → Int32) → (Nat → Nat → Int64) → Prop) (hp : P_X12_copies th p0 p1 S Q) : Ctr G l yX12_copies cX12_copies 4 (none : Option Jvm.ClassFile.FieldType) 0 0 0 0 [.ref th, .int p0, .int p1] S (fun (v : Option Value) (S9 : St) => ∃ (I9 : Nat → Nat → Int32) (J9 : Nat → Nat → Int64), v = none ∧ S9 = wA S I9 J9 (gR S) ∧ Q I9 J9) := by
  generalize hQQ : (fun (v : Option Value) (S9 : St) => ∃ (I9 : Nat → Nat → Int32) (J9 : Nat → Nat → Int64), v = none ∧ S9 = wA S I9 J9 (gR S) ∧ Q I9 J9) = QQ
  unfold P_X12_copies at hp
  refine Ctr.of (by decide) (Nat.le_of_ble_eq_true rfl) ?_
  intro p e s m args below meth c ls B hr hlk hin hl hH
  generalize hlocs0 : ([] : List Loc) = locs at hH ⊢
  have hx := B.1
  have hb := B.2.1
  have hl : lv_has ls 4 [(0, .ref th), (1, .int p0), (2, .int p1)] := hl
  obtain ⟨hk_th, hp⟩ := hp
  refine lv_iconst (pc := 0) (v := 0) hx hb dX12_copies_0 (by decide) ?_
  refine lv_istore_n (pc := 1) (lv' := [(3, .int 0), (0, .ref th), (1, .int p0), (2, .int p1)]) hx hb dX12_copies_1 rfl hl (by decide) rfl (fun ls hl => ?_)
  obtain ⟨I_1, ⟨k0_1, h0_1⟩, hst_1⟩ := hp
  have kl_1 : ∀ (n_1 : Nat) (x3_2 : Int32) (F_3 : Nat → Nat → Int32) (H : Heap) (locs : List Loc) (ls : Array Slot), I_1 n_1 x3_2 F_3 → Hp G (FA S s.heap.size) s.heap (wI S F_3) H locs → lv_has ls 4 [(0, .ref th), (1, .int p0), (2, .int p1), (3, .int x3_2)] → Wm G p l e { frames := 0, cells := 0, slots := 0, locals := 0 } s m args below meth c S QQ 0 0 H locs 0 0 (F0 m 2 ls []) := by
    intro n_1
    induction n_1 using Nat.strongRecOn with
    | ind n_1 ih_1 =>
      intro x3_2 F_3 H locs ls hq9 hH hl
      have hp := hst_1 n_1 x3_2 F_3 hq9
      refine lv_iload_n (pc := 2) hx hb dX12_copies_2 rfl (lv_at hl 3 rfl) ?_
      refine lv_sipush (pc := 3) (v := 2420) hx hb dX12_copies_3 (by decide) ?_
      refine lv_icmp_ge (pc := 6) (tgt := 39) hx hb dX12_copies_6 (by decide) (fun cc_4 => ?_) (fun cc_4 => ?_)
      · have hp := hp.1 cc_4
        refine lv_iconst (pc := 39) (v := 0) hx hb dX12_copies_39 (by decide) ?_
        refine lv_istore_n (pc := 40) (lv' := [(3, .int 0), (0, .ref th), (1, .int p0), (2, .int p1)]) hx hb dX12_copies_40 rfl hl (by decide) rfl (fun ls hl => ?_)
        obtain ⟨I_5, ⟨k0_5, h0_5⟩, hst_5⟩ := hp
        have kl_5 : ∀ (n_5 : Nat) (x3_6 : Int32) (J_7 : Nat → Nat → Int64) (H : Heap) (locs : List Loc) (ls : Array Slot), I_5 n_5 x3_6 J_7 → Hp G (FA S s.heap.size) s.heap (wA S F_3 J_7 (gR S)) H locs → lv_has ls 4 [(0, .ref th), (1, .int p0), (2, .int p1), (3, .int x3_6)] → Wm G p l e { frames := 0, cells := 0, slots := 0, locals := 0 } s m args below meth c S QQ 0 0 H locs 0 0 (F0 m 41 ls []) := by
          intro n_5
          induction n_5 using Nat.strongRecOn with
          | ind n_5 ih_5 =>
            intro x3_6 J_7 H locs ls hq9 hH hl
            have hp := hst_5 n_5 x3_6 J_7 hq9
            refine lv_iload_n (pc := 41) hx hb dX12_copies_41 rfl (lv_at hl 3 rfl) ?_
            refine lv_bipush (pc := 42) (v := 12) hx hb dX12_copies_42 (by decide) ?_
            refine lv_icmp_ge (pc := 44) (tgt := 75) hx hb dX12_copies_44 (by decide) (fun cc_8 => ?_) (fun cc_8 => ?_)
            · have hp := hp.1 cc_8
              exact sx_vret (pc := 75) B hH hr hlk (by rw [← hQQ]; exact ⟨F_3, J_7, rfl, rfl, hp⟩) (Nat.le_of_ble_eq_true rfl) (Nat.le_of_ble_eq_true rfl) dX12_copies_75
            · have hp := hp.2 cc_8
              refine lv_aload_n (pc := 47) hx hb dX12_copies_47 rfl (lv_at hl 0 rfl) ?_
              refine sx_getR (pc := 48) (j := 1) B hH hk_th coX12 rfl w_1305 rfl dX12_copies_48 ?_
              refine W.eq (g2 := F0 m 51 ls [va_rf (gR S th 1)]) rfl ?_
              obtain ⟨a_9, ha_9, hp⟩ := hp
              refine sx_nonnull (x := a_9) ha_9 ?_
              refine lv_bipush (pc := 51) (v := 12) hx hb dX12_copies_51 (by decide) ?_
              refine lv_iload_n (pc := 53) hx hb dX12_copies_53 rfl (lv_at hl 2 rfl) ?_
              refine lv_imul (pc := 54) hx hb dX12_copies_54 ?_
              refine lv_iload_n (pc := 55) hx hb dX12_copies_55 rfl (lv_at hl 3 rfl) ?_
              refine lv_iadd (pc := 56) hx hb dX12_copies_56 ?_
              refine lv_aload_n (pc := 57) hx hb dX12_copies_57 rfl (lv_at hl 0 rfl) ?_
              refine sx_getR (pc := 58) (j := 1) B hH hk_th coX12 rfl w_1305 rfl dX12_copies_58 ?_
              refine W.eq (g2 := F0 m 61 ls [va_rf (gR S th 1), .int ((12 * p1) + x3_6), .ref a_9]) rfl ?_
              refine sx_nonnull (x := a_9) ha_9 ?_
              refine lv_bipush (pc := 61) (v := 12) hx hb dX12_copies_61 (by decide) ?_
              refine lv_iload_n (pc := 63) hx hb dX12_copies_63 rfl (lv_at hl 1 rfl) ?_
              refine lv_imul (pc := 64) hx hb dX12_copies_64 ?_
              refine lv_iload_n (pc := 65) hx hb dX12_copies_65 rfl (lv_at hl 3 rfl) ?_
              refine lv_iadd (pc := 66) hx hb dX12_copies_66 ?_
              obtain ⟨hk_10, hp⟩ := hp
              obtain ⟨hn_11, hp⟩ := hp
              refine sx_lald (pc := 67) B hH hk_10 hn_11 dX12_copies_67 ?_
              refine W.eq (g2 := F0 m 68 ls [.long (J_7 a_9 (((12 * p0) + x3_6).toNatClampNeg)), .int ((12 * p1) + x3_6), .ref a_9]) rfl ?_
              obtain ⟨hn_12, hp⟩ := hp
              refine lv_topl (fun v_13 ev_13 => ?_)
              have hp := hp v_13 ev_13
              obtain ⟨J_14, eJ_14⟩ : ∃ z : Nat → Nat → Int64, z = upJ J_7 a_9 (((12 * p1) + x3_6).toNatClampNeg) v_13 := ⟨_, rfl⟩
              have hp := hp J_14 eJ_14
              refine sx_last (pc := 68) B hH hk_10 hn_12 dX12_copies_68 (fun H locs hH => ?_)
              have hH : Hp G (FA S s.heap.size) s.heap (wA S F_3 J_14 (gR S)) H locs := by rw [eJ_14]; exact hH
              obtain ⟨v_15, ev_15⟩ : ∃ y : Int32, y = x3_6 + 1 := ⟨_, rfl⟩
              have hp := hp v_15 ev_15
              refine lv_iinc (pc := 69) (v := v_15) (lv' := [(3, .int v_15), (0, .ref th), (1, .int p0), (2, .int p1)]) hx hb dX12_copies_69 hl (k := 3) rfl (by rw [ev_15]; rfl) (by decide) rfl (fun ls hl => ?_)
              refine lv_goto (pc := 72) (tgt := 41) hx hb dX12_copies_72 (by decide) ?_
              obtain ⟨k9, hlt9, hp⟩ := hp
              exact ih_5 k9 hlt9 _ _ _ _ _ hp hH (lv_sub hl [1, 2, 3, 0] rfl)
        exact kl_5 k0_5 _ _ _ _ _ h0_5 hH (lv_sub hl [1, 2, 3, 0] rfl)
      · have hp := hp.2 cc_4
        refine lv_aload_n (pc := 9) hx hb dX12_copies_9 rfl (lv_at hl 0 rfl) ?_
        refine sx_getR (pc := 10) (j := 0) B hH hk_th coX12 rfl w_1304 rfl dX12_copies_10 ?_
        refine W.eq (g2 := F0 m 13 ls [va_rf (gR S th 0)]) rfl ?_
        obtain ⟨a_16, ha_16, hp⟩ := hp
        refine sx_nonnull (x := a_16) ha_16 ?_
        refine lv_sipush (pc := 13) (v := 2420) hx hb dX12_copies_13 (by decide) ?_
        refine lv_iload_n (pc := 16) hx hb dX12_copies_16 rfl (lv_at hl 2 rfl) ?_
        refine lv_imul (pc := 17) hx hb dX12_copies_17 ?_
        refine lv_iload_n (pc := 18) hx hb dX12_copies_18 rfl (lv_at hl 3 rfl) ?_
        refine lv_iadd (pc := 19) hx hb dX12_copies_19 ?_
        refine lv_aload_n (pc := 20) hx hb dX12_copies_20 rfl (lv_at hl 0 rfl) ?_
        refine sx_getR (pc := 21) (j := 0) B hH hk_th coX12 rfl w_1304 rfl dX12_copies_21 ?_
        refine W.eq (g2 := F0 m 24 ls [va_rf (gR S th 0), .int ((2420 * p1) + x3_2), .ref a_16]) rfl ?_
        refine sx_nonnull (x := a_16) ha_16 ?_
        refine lv_sipush (pc := 24) (v := 2420) hx hb dX12_copies_24 (by decide) ?_
        refine lv_iload_n (pc := 27) hx hb dX12_copies_27 rfl (lv_at hl 1 rfl) ?_
        refine lv_imul (pc := 28) hx hb dX12_copies_28 ?_
        refine lv_iload_n (pc := 29) hx hb dX12_copies_29 rfl (lv_at hl 3 rfl) ?_
        refine lv_iadd (pc := 30) hx hb dX12_copies_30 ?_
        obtain ⟨hk_17, hp⟩ := hp
        obtain ⟨hn_18, hp⟩ := hp
        refine sx_iald (pc := 31) B hH hk_17 hn_18 dX12_copies_31 ?_
        refine W.eq (g2 := F0 m 32 ls [.int (F_3 a_16 (((2420 * p0) + x3_2).toNatClampNeg)), .int ((2420 * p1) + x3_2), .ref a_16]) rfl ?_
        obtain ⟨hn_19, hp⟩ := hp
        refine lv_topi (fun v_20 ev_20 => ?_)
        have hp := hp v_20 ev_20
        obtain ⟨F_21, eF_21⟩ : ∃ z : Nat → Nat → Int32, z = upI F_3 a_16 (((2420 * p1) + x3_2).toNatClampNeg) v_20 := ⟨_, rfl⟩
        have hp := hp F_21 eF_21
        refine sx_iast (pc := 32) B hH hk_17 hn_19 dX12_copies_32 (fun H locs hH => ?_)
        have hH : Hp G (FA S s.heap.size) s.heap (wI S F_21) H locs := by rw [eF_21]; exact hH
        obtain ⟨v_22, ev_22⟩ : ∃ y : Int32, y = x3_2 + 1 := ⟨_, rfl⟩
        have hp := hp v_22 ev_22
        refine lv_iinc (pc := 33) (v := v_22) (lv' := [(3, .int v_22), (0, .ref th), (1, .int p0), (2, .int p1)]) hx hb dX12_copies_33 hl (k := 3) rfl (by rw [ev_22]; rfl) (by decide) rfl (fun ls hl => ?_)
        refine lv_goto (pc := 36) (tgt := 2) hx hb dX12_copies_36 (by decide) ?_
        obtain ⟨k9, hlt9, hp⟩ := hp
        exact ih_1 k9 hlt9 _ _ _ _ _ hp hH (lv_sub hl [1, 2, 3, 0] rfl)
  exact kl_1 k0_1 _ _ _ _ _ h0_1 hH (lv_sub hl [1, 2, 3, 0] rfl)
theorem dX12_mark_0 : decode cX12_mark 0 = .ok (.aload_n 0, 1) := by decide +kernel
theorem dX12_mark_1 : decode cX12_mark 1 = .ok (.getfield 412, 3) := by decide +kernel
theorem dX12_mark_4 : decode cX12_mark 4 = .ok (.iconst 3, 1) := by decide +kernel
theorem dX12_mark_5 : decode cX12_mark 5 = .ok (.if_icmp .ne 9, 3) := by decide +kernel
theorem dX12_mark_8 : decode cX12_mark 8 = .ok (.aload_n 0, 1) := by decide +kernel
theorem dX12_mark_9 : decode cX12_mark 9 = .ok (.iconst 4, 1) := by decide +kernel
theorem dX12_mark_10 : decode cX12_mark 10 = .ok (.invokevirtual 105, 3) := by decide +kernel
theorem dX12_mark_13 : decode cX12_mark 13 = .ok (.ireturn, 1) := by decide +kernel
theorem dX12_mark_14 : decode cX12_mark 14 = .ok (.aload_n 0, 1) := by decide +kernel
theorem dX12_mark_15 : decode cX12_mark 15 = .ok (.dup, 1) := by decide +kernel
theorem dX12_mark_16 : decode cX12_mark 16 = .ok (.getfield 412, 3) := by decide +kernel
theorem dX12_mark_19 : decode cX12_mark 19 = .ok (.iconst 1, 1) := by decide +kernel
theorem dX12_mark_20 : decode cX12_mark 20 = .ok (.iadd, 1) := by decide +kernel
theorem dX12_mark_21 : decode cX12_mark 21 = .ok (.putfield 412, 3) := by decide +kernel
theorem dX12_mark_24 : decode cX12_mark 24 = .ok (.aload_n 0, 1) := by decide +kernel
theorem dX12_mark_25 : decode cX12_mark 25 = .ok (.iconst 0, 1) := by decide +kernel
theorem dX12_mark_26 : decode cX12_mark 26 = .ok (.aload_n 0, 1) := by decide +kernel
theorem dX12_mark_27 : decode cX12_mark 27 = .ok (.getfield 412, 3) := by decide +kernel
theorem dX12_mark_30 : decode cX12_mark 30 = .ok (.invokevirtual 415, 3) := by decide +kernel
theorem dX12_mark_33 : decode cX12_mark 33 = .ok (.aload_n 0, 1) := by decide +kernel
theorem dX12_mark_34 : decode cX12_mark 34 = .ok (.aload_n 0, 1) := by decide +kernel
theorem dX12_mark_35 : decode cX12_mark 35 = .ok (.getfield 412, 3) := by decide +kernel
theorem dX12_mark_38 : decode cX12_mark 38 = .ok (.invokevirtual 109, 3) := by decide +kernel
theorem dX12_mark_41 : decode cX12_mark 41 = .ok (.ireturn, 1) := by decide +kernel
theorem mi_X12_mark : MI yX12_mark cX12_mark 1 (some FieldType.int) 0 := ⟨w_1955, w_118, by decide +kernel, by decide +kernel, by decide +kernel⟩
set_option maxRecDepth 100000 in
set_option maxHeartbeats 4000000 in
theorem C_X12_mark (G : GG) (l : Launch) (th : Nat) (S : St) (Q : Int32 → (Nat → Nat → Int32) → (Nat → Nat → Int64) → Prop) (hp : P_X12_mark th S Q) : Ctr G l yX12_mark cX12_mark 1 (some FieldType.int) 1 23 0 0 [.ref th] S (fun (v : Option Value) (S9 : St) => ∃ (r : Int32) (I9 : Nat → Nat → Int32) (J9 : Nat → Nat → Int64), v = some (.int r) ∧ S9 = wA S I9 J9 (gR S) ∧ Q r I9 J9) := by
  generalize hQQ : (fun (v : Option Value) (S9 : St) => ∃ (r : Int32) (I9 : Nat → Nat → Int32) (J9 : Nat → Nat → Int64), v = some (.int r) ∧ S9 = wA S I9 J9 (gR S) ∧ Q r I9 J9) = QQ
  unfold P_X12_mark at hp
  refine Ctr.of (by decide) (Nat.le_of_ble_eq_true rfl) ?_
  intro p e s m args below meth c ls B hr hlk hin hl hH
  generalize hlocs0 : ([] : List Loc) = locs at hH ⊢
  have hx := B.1
  have hb := B.2.1
  have hl : lv_has ls 1 [(0, .ref th)] := hl
  obtain ⟨hk_th, hp⟩ := hp
  refine lv_aload_n (pc := 0) hx hb dX12_mark_0 rfl (lv_at hl 0 rfl) ?_
  refine sx_getI (pc := 1) (j := 50) B hH hk_th coX12 rfl w_1354 rfl dX12_mark_1 ?_
  refine W.eq (g2 := F0 m 4 ls [.int (gI S th 50)]) rfl ?_
  refine lv_iconst (pc := 4) (v := 3) hx hb dX12_mark_4 (by decide) ?_
  refine lv_icmp_ne (pc := 5) (tgt := 14) hx hb dX12_mark_5 (by decide) (fun cc_1 => ?_) (fun cc_1 => ?_)
  · have hp := hp.1 cc_1
    refine lv_aload_n (pc := 14) hx hb dX12_mark_14 rfl (lv_at hl 0 rfl) ?_
    refine lv_dup (pc := 15) hx hb dX12_mark_15 rfl ?_
    refine sx_getI (pc := 16) (j := 50) B hH hk_th coX12 rfl w_1354 rfl dX12_mark_16 ?_
    refine W.eq (g2 := F0 m 19 ls [.int (gI S th 50), .ref th]) rfl ?_
    refine lv_iconst (pc := 19) (v := 1) hx hb dX12_mark_19 (by decide) ?_
    refine lv_iadd (pc := 20) hx hb dX12_mark_20 ?_
    refine lv_topi (fun v_2 ev_2 => ?_)
    have hp := hp v_2 ev_2
    obtain ⟨F_3, eF_3⟩ : ∃ z : Nat → Nat → Int32, z = upI (gI S) th 50 v_2 := ⟨_, rfl⟩
    have hp := hp F_3 eF_3
    refine sx_putI (pc := 21) (j := 50) B hH hk_th coX12 rfl w_1354 rfl (Or.inl rfl) rfl dX12_mark_21 (fun H locs hH => ?_)
    have hH : Hp G (FA S s.heap.size) s.heap (wI S F_3) H locs := by rw [eF_3]; exact hH
    refine lv_aload_n (pc := 24) hx hb dX12_mark_24 rfl (lv_at hl 0 rfl) ?_
    refine lv_iconst (pc := 25) (v := 0) hx hb dX12_mark_25 (by decide) ?_
    refine lv_aload_n (pc := 26) hx hb dX12_mark_26 rfl (lv_at hl 0 rfl) ?_
    refine sx_getI (pc := 27) (j := 50) B hH hk_th coX12 rfl w_1354 rfl dX12_mark_27 ?_
    refine W.eq (g2 := F0 m 30 ls [.int (F_3 th 50), .int 0, .ref th]) rfl ?_
    refine sx_V (pc := 30) (As := [.int 0, .int (F_3 th 50)]) (rest := []) B hH hl.1 (C_X12_copies G l th 0 (F_3 th 50) _ _ hp) mi_X12_copies coX12 hk_th w_1958 w_103 w_1956 rfl rfl ⟨Nat.le_of_ble_eq_true rfl, Nat.le_of_ble_eq_true rfl⟩ (Nat.le_of_ble_eq_true rfl) ⟨Nat.le_of_ble_eq_true rfl, Nat.le_of_ble_eq_true rfl⟩ dX12_mark_30 (fun v S1 H locs hq hH => ?_)
    obtain ⟨F_4, J_4, rfl, e9, hp⟩ := hq
    rw [e9] at hH
    have hH : Hp G (FA S s.heap.size) s.heap (wA S F_4 J_4 (gR S)) H locs := hH
    refine W.eq (g2 := F0 m 33 ls []) rfl ?_
    refine lv_aload_n (pc := 33) hx hb dX12_mark_33 rfl (lv_at hl 0 rfl) ?_
    refine lv_aload_n (pc := 34) hx hb dX12_mark_34 rfl (lv_at hl 0 rfl) ?_
    refine sx_getI (pc := 35) (j := 50) B hH hk_th coX12 rfl w_1354 rfl dX12_mark_35 ?_
    refine W.eq (g2 := F0 m 38 ls [.int (F_4 th 50), .ref th]) rfl ?_
    refine sx_V (pc := 38) (As := [.int (F_4 th 50)]) (rest := []) B hH hl.1 (C_X12_gives G l th (F_4 th 50) _ _ hp) mi_X12_gives coX12 hk_th w_1617 w_69 w_1615 rfl rfl ⟨Nat.le_of_ble_eq_true rfl, Nat.le_of_ble_eq_true rfl⟩ (Nat.le_of_ble_eq_true rfl) ⟨Nat.le_of_ble_eq_true rfl, Nat.le_of_ble_eq_true rfl⟩ dX12_mark_38 (fun v S1 H locs hq hH => ?_)
    obtain ⟨r_5, F_5, rfl, e9, hp⟩ := hq
    rw [e9] at hH
    have hH : Hp G (FA S s.heap.size) s.heap (wA S F_5 J_4 (gR S)) H locs := hH
    refine W.eq (g2 := F0 m 41 ls [.int r_5]) rfl ?_
    exact sx_iret (pc := 41) B hH hr hlk (by rw [← hQQ]; exact ⟨_, F_5, J_4, rfl, rfl, hp⟩) (Nat.le_of_ble_eq_true rfl) (Nat.le_of_ble_eq_true rfl) dX12_mark_41
  · have hp := hp.2 cc_1
    refine lv_aload_n (pc := 8) hx hb dX12_mark_8 rfl (lv_at hl 0 rfl) ?_
    refine lv_iconst (pc := 9) (v := 4) hx hb dX12_mark_9 (by decide) ?_
    refine sx_V (pc := 10) (As := [.int 4]) (rest := []) B hH hl.1 (C_X12_refuse G l th 4 _ _ hp) mi_X12_refuse coX12 hk_th w_1539 w_51 w_1537 rfl rfl ⟨Nat.le_of_ble_eq_true rfl, Nat.le_of_ble_eq_true rfl⟩ (Nat.le_of_ble_eq_true rfl) ⟨Nat.le_of_ble_eq_true rfl, Nat.le_of_ble_eq_true rfl⟩ dX12_mark_10 (fun v S1 H locs hq hH => ?_)
    obtain ⟨r_6, F_6, rfl, e9, hp⟩ := hq
    rw [e9] at hH
    have hH : Hp G (FA S s.heap.size) s.heap (wI S F_6) H locs := hH
    refine W.eq (g2 := F0 m 13 ls [.int r_6]) rfl ?_
    exact sx_iret (pc := 13) B hH hr hlk (by rw [← hQQ]; exact ⟨_, F_6, (gJ S), rfl, rfl, hp⟩) (Nat.le_of_ble_eq_true rfl) (Nat.le_of_ble_eq_true rfl) dX12_mark_13
theorem dX12_back_0 : decode cX12_back 0 = .ok (.aload_n 0, 1) := by decide +kernel
theorem dX12_back_1 : decode cX12_back 1 = .ok (.getfield 412, 3) := by decide +kernel
theorem dX12_back_4 : decode cX12_back 4 = .ok (.ifCond .ne 10, 3) := by decide +kernel
theorem dX12_back_7 : decode cX12_back 7 = .ok (.aload_n 0, 1) := by decide +kernel
theorem dX12_back_8 : decode cX12_back 8 = .ok (.bipush 6, 2) := by decide +kernel
theorem dX12_back_10 : decode cX12_back 10 = .ok (.invokevirtual 105, 3) := by decide +kernel
theorem dX12_back_13 : decode cX12_back 13 = .ok (.ireturn, 1) := by decide +kernel
theorem dX12_back_14 : decode cX12_back 14 = .ok (.aload_n 0, 1) := by decide +kernel
theorem dX12_back_15 : decode cX12_back 15 = .ok (.aload_n 0, 1) := by decide +kernel
theorem dX12_back_16 : decode cX12_back 16 = .ok (.getfield 412, 3) := by decide +kernel
theorem dX12_back_19 : decode cX12_back 19 = .ok (.iconst 0, 1) := by decide +kernel
theorem dX12_back_20 : decode cX12_back 20 = .ok (.invokevirtual 415, 3) := by decide +kernel
theorem dX12_back_23 : decode cX12_back 23 = .ok (.aload_n 0, 1) := by decide +kernel
theorem dX12_back_24 : decode cX12_back 24 = .ok (.dup, 1) := by decide +kernel
theorem dX12_back_25 : decode cX12_back 25 = .ok (.getfield 412, 3) := by decide +kernel
theorem dX12_back_28 : decode cX12_back 28 = .ok (.iconst 1, 1) := by decide +kernel
theorem dX12_back_29 : decode cX12_back 29 = .ok (.isub, 1) := by decide +kernel
theorem dX12_back_30 : decode cX12_back 30 = .ok (.putfield 412, 3) := by decide +kernel
theorem dX12_back_33 : decode cX12_back 33 = .ok (.aload_n 0, 1) := by decide +kernel
theorem dX12_back_34 : decode cX12_back 34 = .ok (.aload_n 0, 1) := by decide +kernel
theorem dX12_back_35 : decode cX12_back 35 = .ok (.getfield 412, 3) := by decide +kernel
theorem dX12_back_38 : decode cX12_back 38 = .ok (.invokevirtual 109, 3) := by decide +kernel
theorem dX12_back_41 : decode cX12_back 41 = .ok (.ireturn, 1) := by decide +kernel
theorem mi_X12_back : MI yX12_back cX12_back 1 (some FieldType.int) 0 := ⟨w_1963, w_118, by decide +kernel, by decide +kernel, by decide +kernel⟩
set_option maxRecDepth 100000 in
set_option maxHeartbeats 4000000 in
theorem C_X12_back (G : GG) (l : Launch) (th : Nat) (S : St) (Q : Int32 → (Nat → Nat → Int32) → (Nat → Nat → Int64) → Prop) (hp : P_X12_back th S Q) : Ctr G l yX12_back cX12_back 1 (some FieldType.int) 1 23 0 0 [.ref th] S (fun (v : Option Value) (S9 : St) => ∃ (r : Int32) (I9 : Nat → Nat → Int32) (J9 : Nat → Nat → Int64), v = some (.int r) ∧ S9 = wA S I9 J9 (gR S) ∧ Q r I9 J9) := by
  generalize hQQ : (fun (v : Option Value) (S9 : St) => ∃ (r : Int32) (I9 : Nat → Nat → Int32) (J9 : Nat → Nat → Int64), v = some (.int r) ∧ S9 = wA S I9 J9 (gR S) ∧ Q r I9 J9) = QQ
  unfold P_X12_back at hp
  refine Ctr.of (by decide) (Nat.le_of_ble_eq_true rfl) ?_
  intro p e s m args below meth c ls B hr hlk hin hl hH
  generalize hlocs0 : ([] : List Loc) = locs at hH ⊢
  have hx := B.1
  have hb := B.2.1
  have hl : lv_has ls 1 [(0, .ref th)] := hl
  obtain ⟨hk_th, hp⟩ := hp
  refine lv_aload_n (pc := 0) hx hb dX12_back_0 rfl (lv_at hl 0 rfl) ?_
  refine sx_getI (pc := 1) (j := 50) B hH hk_th coX12 rfl w_1354 rfl dX12_back_1 ?_
  refine W.eq (g2 := F0 m 4 ls [.int (gI S th 50)]) rfl ?_
  refine lv_if_ne (pc := 4) (tgt := 14) hx hb dX12_back_4 (by decide) (fun cc_1 => ?_) (fun cc_1 => ?_)
  · have hp := hp.1 cc_1
    refine lv_aload_n (pc := 14) hx hb dX12_back_14 rfl (lv_at hl 0 rfl) ?_
    refine lv_aload_n (pc := 15) hx hb dX12_back_15 rfl (lv_at hl 0 rfl) ?_
    refine sx_getI (pc := 16) (j := 50) B hH hk_th coX12 rfl w_1354 rfl dX12_back_16 ?_
    refine W.eq (g2 := F0 m 19 ls [.int (gI S th 50), .ref th]) rfl ?_
    refine lv_iconst (pc := 19) (v := 0) hx hb dX12_back_19 (by decide) ?_
    refine sx_V (pc := 20) (As := [.int (gI S th 50), .int 0]) (rest := []) B hH hl.1 (C_X12_copies G l th (gI S th 50) 0 _ _ hp) mi_X12_copies coX12 hk_th w_1958 w_103 w_1956 rfl rfl ⟨Nat.le_of_ble_eq_true rfl, Nat.le_of_ble_eq_true rfl⟩ (Nat.le_of_ble_eq_true rfl) ⟨Nat.le_of_ble_eq_true rfl, Nat.le_of_ble_eq_true rfl⟩ dX12_back_20 (fun v S1 H locs hq hH => ?_)
    obtain ⟨F_2, J_2, rfl, e9, hp⟩ := hq
    rw [e9] at hH
    have hH : Hp G (FA S s.heap.size) s.heap (wA S F_2 J_2 (gR S)) H locs := hH
    refine W.eq (g2 := F0 m 23 ls []) rfl ?_
    refine lv_aload_n (pc := 23) hx hb dX12_back_23 rfl (lv_at hl 0 rfl) ?_
    refine lv_dup (pc := 24) hx hb dX12_back_24 rfl ?_
    refine sx_getI (pc := 25) (j := 50) B hH hk_th coX12 rfl w_1354 rfl dX12_back_25 ?_
    refine W.eq (g2 := F0 m 28 ls [.int (F_2 th 50), .ref th]) rfl ?_
    refine lv_iconst (pc := 28) (v := 1) hx hb dX12_back_28 (by decide) ?_
    refine lv_isub (pc := 29) hx hb dX12_back_29 ?_
    refine lv_topi (fun v_3 ev_3 => ?_)
    have hp := hp v_3 ev_3
    obtain ⟨F_4, eF_4⟩ : ∃ z : Nat → Nat → Int32, z = upI F_2 th 50 v_3 := ⟨_, rfl⟩
    have hp := hp F_4 eF_4
    refine sx_putI (pc := 30) (j := 50) B hH hk_th coX12 rfl w_1354 rfl (Or.inl rfl) rfl dX12_back_30 (fun H locs hH => ?_)
    have hH : Hp G (FA S s.heap.size) s.heap (wA S F_4 J_2 (gR S)) H locs := by rw [eF_4]; exact hH
    refine lv_aload_n (pc := 33) hx hb dX12_back_33 rfl (lv_at hl 0 rfl) ?_
    refine lv_aload_n (pc := 34) hx hb dX12_back_34 rfl (lv_at hl 0 rfl) ?_
    refine sx_getI (pc := 35) (j := 50) B hH hk_th coX12 rfl w_1354 rfl dX12_back_35 ?_
    refine W.eq (g2 := F0 m 38 ls [.int (F_4 th 50), .ref th]) rfl ?_
    refine sx_V (pc := 38) (As := [.int (F_4 th 50)]) (rest := []) B hH hl.1 (C_X12_gives G l th (F_4 th 50) _ _ hp) mi_X12_gives coX12 hk_th w_1617 w_69 w_1615 rfl rfl ⟨Nat.le_of_ble_eq_true rfl, Nat.le_of_ble_eq_true rfl⟩ (Nat.le_of_ble_eq_true rfl) ⟨Nat.le_of_ble_eq_true rfl, Nat.le_of_ble_eq_true rfl⟩ dX12_back_38 (fun v S1 H locs hq hH => ?_)
    obtain ⟨r_5, F_5, rfl, e9, hp⟩ := hq
    rw [e9] at hH
    have hH : Hp G (FA S s.heap.size) s.heap (wA S F_5 J_2 (gR S)) H locs := hH
    refine W.eq (g2 := F0 m 41 ls [.int r_5]) rfl ?_
    exact sx_iret (pc := 41) B hH hr hlk (by rw [← hQQ]; exact ⟨_, F_5, J_2, rfl, rfl, hp⟩) (Nat.le_of_ble_eq_true rfl) (Nat.le_of_ble_eq_true rfl) dX12_back_41
  · have hp := hp.2 cc_1
    refine lv_aload_n (pc := 7) hx hb dX12_back_7 rfl (lv_at hl 0 rfl) ?_
    refine lv_bipush (pc := 8) (v := 6) hx hb dX12_back_8 (by decide) ?_
    refine sx_V (pc := 10) (As := [.int 6]) (rest := []) B hH hl.1 (C_X12_refuse G l th 6 _ _ hp) mi_X12_refuse coX12 hk_th w_1539 w_51 w_1537 rfl rfl ⟨Nat.le_of_ble_eq_true rfl, Nat.le_of_ble_eq_true rfl⟩ (Nat.le_of_ble_eq_true rfl) ⟨Nat.le_of_ble_eq_true rfl, Nat.le_of_ble_eq_true rfl⟩ dX12_back_10 (fun v S1 H locs hq hH => ?_)
    obtain ⟨r_6, F_6, rfl, e9, hp⟩ := hq
    rw [e9] at hH
    have hH : Hp G (FA S s.heap.size) s.heap (wI S F_6) H locs := hH
    refine W.eq (g2 := F0 m 13 ls [.int r_6]) rfl ?_
    exact sx_iret (pc := 13) B hH hr hlk (by rw [← hQQ]; exact ⟨_, F_6, (gJ S), rfl, rfl, hp⟩) (Nat.le_of_ble_eq_true rfl) (Nat.le_of_ble_eq_true rfl) dX12_back_13
