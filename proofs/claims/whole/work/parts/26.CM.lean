theorem dX12_order_0 : decode cX12_order 0 = .ok (.aload_n 0, 1) := by decide +kernel
theorem dX12_order_1 : decode cX12_order 1 = .ok (.iload_n 1, 1) := by decide +kernel
theorem dX12_order_2 : decode cX12_order 2 = .ok (.invokevirtual 277, 3) := by decide +kernel
theorem dX12_order_5 : decode cX12_order 5 = .ok (.ifCond .eq 15, 3) := by decide +kernel
theorem dX12_order_8 : decode cX12_order 8 = .ok (.aload_n 0, 1) := by decide +kernel
theorem dX12_order_9 : decode cX12_order 9 = .ok (.aload_n 0, 1) := by decide +kernel
theorem dX12_order_10 : decode cX12_order 10 = .ok (.iload_n 1, 1) := by decide +kernel
theorem dX12_order_11 : decode cX12_order 11 = .ok (.invokevirtual 293, 3) := by decide +kernel
theorem dX12_order_14 : decode cX12_order 14 = .ok (.invokevirtual 109, 3) := by decide +kernel
theorem dX12_order_17 : decode cX12_order 17 = .ok (.goto 8, 3) := by decide +kernel
theorem dX12_order_20 : decode cX12_order 20 = .ok (.aload_n 0, 1) := by decide +kernel
theorem dX12_order_21 : decode cX12_order 21 = .ok (.iconst 1, 1) := by decide +kernel
theorem dX12_order_22 : decode cX12_order 22 = .ok (.invokevirtual 105, 3) := by decide +kernel
theorem dX12_order_25 : decode cX12_order 25 = .ok (.ireturn, 1) := by decide +kernel
theorem mi_X12_order : MI yX12_order cX12_order 2 (some FieldType.int) 1 := ⟨w_1689, w_118, by decide +kernel, by decide +kernel, by decide +kernel⟩
set_option maxRecDepth 100000 in
set_option maxHeartbeats 4000000 in
theorem C_X12_order (G : GG) (l : Launch) (th : Nat) (p0 : Int32) (S : St) (Q : Int32 → (Nat → Nat → Int32) → Prop) (hp : P_X12_order th p0 S Q) : Ctr G l yX12_order cX12_order 2 (some FieldType.int) 4 97 0 0 [.ref th, .int p0] S (fun (v : Option Value) (S9 : St) => ∃ (r : Int32) (I9 : Nat → Nat → Int32), v = some (.int r) ∧ S9 = wI S I9 ∧ Q r I9) := by
  generalize hQQ : (fun (v : Option Value) (S9 : St) => ∃ (r : Int32) (I9 : Nat → Nat → Int32), v = some (.int r) ∧ S9 = wI S I9 ∧ Q r I9) = QQ
  unfold P_X12_order at hp
  refine Ctr.of (by decide) (Nat.le_of_ble_eq_true rfl) ?_
  intro p e s m args below meth c ls B hr hlk hin hl hH
  generalize hlocs0 : ([] : List Loc) = locs at hH ⊢
  have hx := B.1
  have hb := B.2.1
  have hl : lv_has ls 2 [(0, .ref th), (1, .int p0)] := hl
  obtain ⟨hk_th, hp⟩ := hp
  refine lv_aload_n (pc := 0) hx hb dX12_order_0 rfl (lv_at hl 0 rfl) ?_
  refine lv_iload_n (pc := 1) hx hb dX12_order_1 rfl (lv_at hl 1 rfl) ?_
  refine sx_V (pc := 2) (As := [.int p0]) (rest := []) B hH hl.1 (C_X12_isRow G l th p0 _ _ hp) mi_X12_isRow coX12 hk_th w_1649 w_74 w_1647 rfl rfl ⟨Nat.le_of_ble_eq_true rfl, Nat.le_of_ble_eq_true rfl⟩ (Nat.le_of_ble_eq_true rfl) ⟨Nat.le_of_ble_eq_true rfl, Nat.le_of_ble_eq_true rfl⟩ dX12_order_2 (fun v S1 H locs hq hH => ?_)
  obtain ⟨r_1, rfl, e9, hp⟩ := hq
  rw [e9] at hH
  refine W.eq (g2 := F0 m 5 ls [.int r_1]) rfl ?_
  refine lv_if_eq (pc := 5) (tgt := 20) hx hb dX12_order_5 (by decide) (fun cc_2 => ?_) (fun cc_2 => ?_)
  · have hp := hp.1 cc_2
    refine lv_aload_n (pc := 20) hx hb dX12_order_20 rfl (lv_at hl 0 rfl) ?_
    refine lv_iconst (pc := 21) (v := 1) hx hb dX12_order_21 (by decide) ?_
    refine sx_V (pc := 22) (As := [.int 1]) (rest := []) B hH hl.1 (C_X12_refuse G l th 1 _ _ hp) mi_X12_refuse coX12 hk_th w_1539 w_51 w_1537 rfl rfl ⟨Nat.le_of_ble_eq_true rfl, Nat.le_of_ble_eq_true rfl⟩ (Nat.le_of_ble_eq_true rfl) ⟨Nat.le_of_ble_eq_true rfl, Nat.le_of_ble_eq_true rfl⟩ dX12_order_22 (fun v S1 H locs hq hH => ?_)
    obtain ⟨r_3, F_3, rfl, e9, hp⟩ := hq
    rw [e9] at hH
    have hH : Hp G (FA S s.heap.size) s.heap (wI S F_3) H locs := hH
    refine W.eq (g2 := F0 m 25 ls [.int r_3]) rfl ?_
    exact sx_iret (pc := 25) B hH hr hlk (by rw [← hQQ]; exact ⟨_, F_3, rfl, rfl, hp⟩) (Nat.le_of_ble_eq_true rfl) (Nat.le_of_ble_eq_true rfl) dX12_order_25
  · have hp := hp.2 cc_2
    refine lv_aload_n (pc := 8) hx hb dX12_order_8 rfl (lv_at hl 0 rfl) ?_
    refine lv_aload_n (pc := 9) hx hb dX12_order_9 rfl (lv_at hl 0 rfl) ?_
    refine lv_iload_n (pc := 10) hx hb dX12_order_10 rfl (lv_at hl 1 rfl) ?_
    refine sx_V (pc := 11) (As := [.int p0]) (rest := [.ref th]) B hH hl.1 (C_X12_orderOf G l th p0 _ _ hp) mi_X12_orderOf coX12 hk_th w_1692 w_80 w_1690 rfl rfl ⟨Nat.le_of_ble_eq_true rfl, Nat.le_of_ble_eq_true rfl⟩ (Nat.le_of_ble_eq_true rfl) ⟨Nat.le_of_ble_eq_true rfl, Nat.le_of_ble_eq_true rfl⟩ dX12_order_11 (fun v S1 H locs hq hH => ?_)
    obtain ⟨r_4, F_4, rfl, e9, hp⟩ := hq
    rw [e9] at hH
    have hH : Hp G (FA S s.heap.size) s.heap (wI S F_4) H locs := hH
    refine W.eq (g2 := F0 m 14 ls [.int r_4, .ref th]) rfl ?_
    refine sx_V (pc := 14) (As := [.int r_4]) (rest := []) B hH hl.1 (C_X12_gives G l th r_4 _ _ hp) mi_X12_gives coX12 hk_th w_1617 w_69 w_1615 rfl rfl ⟨Nat.le_of_ble_eq_true rfl, Nat.le_of_ble_eq_true rfl⟩ (Nat.le_of_ble_eq_true rfl) ⟨Nat.le_of_ble_eq_true rfl, Nat.le_of_ble_eq_true rfl⟩ dX12_order_14 (fun v S1 H locs hq hH => ?_)
    obtain ⟨r_5, F_5, rfl, e9, hp⟩ := hq
    rw [e9] at hH
    have hH : Hp G (FA S s.heap.size) s.heap (wI S F_5) H locs := hH
    refine W.eq (g2 := F0 m 17 ls [.int r_5]) rfl ?_
    refine lv_goto (pc := 17) (tgt := 25) hx hb dX12_order_17 (by decide) ?_
    exact sx_iret (pc := 25) B hH hr hlk (by rw [← hQQ]; exact ⟨_, F_5, rfl, rfl, hp⟩) (Nat.le_of_ble_eq_true rfl) (Nat.le_of_ble_eq_true rfl) dX12_order_25
theorem dX12_isEven_0 : decode cX12_isEven 0 = .ok (.aload_n 0, 1) := by decide +kernel
theorem dX12_isEven_1 : decode cX12_isEven 1 = .ok (.iload_n 1, 1) := by decide +kernel
theorem dX12_isEven_2 : decode cX12_isEven 2 = .ok (.aload_n 0, 1) := by decide +kernel
theorem dX12_isEven_3 : decode cX12_isEven 3 = .ok (.getfield 50, 3) := by decide +kernel
theorem dX12_isEven_6 : decode cX12_isEven 6 = .ok (.invokevirtual 266, 3) := by decide +kernel
theorem dX12_isEven_9 : decode cX12_isEven 9 = .ok (.iconst 0, 1) := by decide +kernel
theorem dX12_isEven_10 : decode cX12_isEven 10 = .ok (.istore_n 2, 1) := by decide +kernel
theorem dX12_isEven_11 : decode cX12_isEven 11 = .ok (.iconst 0, 1) := by decide +kernel
theorem dX12_isEven_12 : decode cX12_isEven 12 = .ok (.istore_n 3, 1) := by decide +kernel
theorem dX12_isEven_13 : decode cX12_isEven 13 = .ok (.iload_n 3, 1) := by decide +kernel
theorem dX12_isEven_14 : decode cX12_isEven 14 = .ok (.aload_n 0, 1) := by decide +kernel
theorem dX12_isEven_15 : decode cX12_isEven 15 = .ok (.getfield 7, 3) := by decide +kernel
theorem dX12_isEven_18 : decode cX12_isEven 18 = .ok (.iconst 0, 1) := by decide +kernel
theorem dX12_isEven_19 : decode cX12_isEven 19 = .ok (.iaload, 1) := by decide +kernel
theorem dX12_isEven_20 : decode cX12_isEven 20 = .ok (.if_icmp .ge 55, 3) := by decide +kernel
theorem dX12_isEven_23 : decode cX12_isEven 23 = .ok (.iload_n 3, 1) := by decide +kernel
theorem dX12_isEven_24 : decode cX12_isEven 24 = .ok (.iconst 1, 1) := by decide +kernel
theorem dX12_isEven_25 : decode cX12_isEven 25 = .ok (.iadd, 1) := by decide +kernel
theorem dX12_isEven_26 : decode cX12_isEven 26 = .ok (.istore 4, 2) := by decide +kernel
theorem dX12_isEven_28 : decode cX12_isEven 28 = .ok (.iload 4, 2) := by decide +kernel
theorem dX12_isEven_30 : decode cX12_isEven 30 = .ok (.aload_n 0, 1) := by decide +kernel
theorem dX12_isEven_31 : decode cX12_isEven 31 = .ok (.getfield 7, 3) := by decide +kernel
theorem dX12_isEven_34 : decode cX12_isEven 34 = .ok (.iconst 0, 1) := by decide +kernel
theorem dX12_isEven_35 : decode cX12_isEven 35 = .ok (.iaload, 1) := by decide +kernel
theorem dX12_isEven_36 : decode cX12_isEven 36 = .ok (.if_icmp .ge 33, 3) := by decide +kernel
theorem dX12_isEven_39 : decode cX12_isEven 39 = .ok (.iload_n 2, 1) := by decide +kernel
theorem dX12_isEven_40 : decode cX12_isEven 40 = .ok (.aload_n 0, 1) := by decide +kernel
theorem dX12_isEven_41 : decode cX12_isEven 41 = .ok (.getfield 50, 3) := by decide +kernel
theorem dX12_isEven_44 : decode cX12_isEven 44 = .ok (.iload 4, 2) := by decide +kernel
theorem dX12_isEven_46 : decode cX12_isEven 46 = .ok (.iaload, 1) := by decide +kernel
theorem dX12_isEven_47 : decode cX12_isEven 47 = .ok (.aload_n 0, 1) := by decide +kernel
theorem dX12_isEven_48 : decode cX12_isEven 48 = .ok (.getfield 50, 3) := by decide +kernel
theorem dX12_isEven_51 : decode cX12_isEven 51 = .ok (.iload_n 3, 1) := by decide +kernel
theorem dX12_isEven_52 : decode cX12_isEven 52 = .ok (.iaload, 1) := by decide +kernel
theorem dX12_isEven_53 : decode cX12_isEven 53 = .ok (.if_icmp .ge 7, 3) := by decide +kernel
theorem dX12_isEven_56 : decode cX12_isEven 56 = .ok (.iconst 1, 1) := by decide +kernel
theorem dX12_isEven_57 : decode cX12_isEven 57 = .ok (.goto 4, 3) := by decide +kernel
theorem dX12_isEven_60 : decode cX12_isEven 60 = .ok (.iconst 0, 1) := by decide +kernel
theorem dX12_isEven_61 : decode cX12_isEven 61 = .ok (.iadd, 1) := by decide +kernel
theorem dX12_isEven_62 : decode cX12_isEven 62 = .ok (.istore_n 2, 1) := by decide +kernel
theorem dX12_isEven_63 : decode cX12_isEven 63 = .ok (.iinc 4 1, 3) := by decide +kernel
theorem dX12_isEven_66 : decode cX12_isEven 66 = .ok (.goto (-38), 3) := by decide +kernel
theorem dX12_isEven_69 : decode cX12_isEven 69 = .ok (.iinc 3 1, 3) := by decide +kernel
theorem dX12_isEven_72 : decode cX12_isEven 72 = .ok (.goto (-59), 3) := by decide +kernel
theorem dX12_isEven_75 : decode cX12_isEven 75 = .ok (.iload_n 2, 1) := by decide +kernel
theorem dX12_isEven_76 : decode cX12_isEven 76 = .ok (.iconst 2, 1) := by decide +kernel
theorem dX12_isEven_77 : decode cX12_isEven 77 = .ok (.irem, 1) := by decide +kernel
theorem dX12_isEven_78 : decode cX12_isEven 78 = .ok (.ifCond .ne 7, 3) := by decide +kernel
theorem dX12_isEven_81 : decode cX12_isEven 81 = .ok (.iconst 1, 1) := by decide +kernel
theorem dX12_isEven_82 : decode cX12_isEven 82 = .ok (.goto 4, 3) := by decide +kernel
theorem dX12_isEven_85 : decode cX12_isEven 85 = .ok (.iconst 0, 1) := by decide +kernel
theorem dX12_isEven_86 : decode cX12_isEven 86 = .ok (.ireturn, 1) := by decide +kernel
theorem mi_X12_isEven : MI yX12_isEven cX12_isEven 5 (some FieldType.boolean) 1 := ⟨w_1701, w_118, by decide +kernel, by decide +kernel, by decide +kernel⟩
set_option maxRecDepth 100000 in
set_option maxHeartbeats 4000000 in
theorem C_X12_isEven (G : GG) (l : Launch) (th : Nat) (p0 : Int32) (S : St) (Q : Int32 → (Nat → Nat → Int32) → Prop) (hp : P_X12_isEven th p0 S Q) : Ctr G l yX12_isEven cX12_isEven 5 (some FieldType.boolean) 2 51 0 0 [.ref th, .int p0] S (fun (v : Option Value) (S9 : St) => ∃ (r : Int32) (I9 : Nat → Nat → Int32), v = some (.int r) ∧ S9 = wI S I9 ∧ Q r I9) := by
  generalize hQQ : (fun (v : Option Value) (S9 : St) => ∃ (r : Int32) (I9 : Nat → Nat → Int32), v = some (.int r) ∧ S9 = wI S I9 ∧ Q r I9) = QQ
  unfold P_X12_isEven at hp
  refine Ctr.of (by decide) (Nat.le_of_ble_eq_true rfl) ?_
  intro p e s m args below meth c ls B hr hlk hin hl hH
  generalize hlocs0 : ([] : List Loc) = locs at hH ⊢
  have hx := B.1
  have hb := B.2.1
  have hl : lv_has ls 5 [(0, .ref th), (1, .int p0)] := hl
  obtain ⟨hk_th, hp⟩ := hp
  refine lv_aload_n (pc := 0) hx hb dX12_isEven_0 rfl (lv_at hl 0 rfl) ?_
  refine lv_iload_n (pc := 1) hx hb dX12_isEven_1 rfl (lv_at hl 1 rfl) ?_
  refine lv_aload_n (pc := 2) hx hb dX12_isEven_2 rfl (lv_at hl 0 rfl) ?_
  refine sx_getR (pc := 3) (j := 24) B hH hk_th coX12 rfl w_1328 rfl dX12_isEven_3 ?_
  refine W.eq (g2 := F0 m 6 ls [va_rf (gR S th 24), .int p0, .ref th]) rfl ?_
  obtain ⟨a_1, ha_1, hp⟩ := hp
  refine sx_nonnull (x := a_1) ha_1 ?_
  refine sx_V (pc := 6) (As := [.int p0, .ref a_1]) (rest := []) B hH hl.1 (C_X12_laysRow G l th p0 a_1 _ _ hp) mi_X12_laysRow coX12 hk_th w_1657 w_76 w_1655 rfl rfl ⟨Nat.le_of_ble_eq_true rfl, Nat.le_of_ble_eq_true rfl⟩ (Nat.le_of_ble_eq_true rfl) ⟨Nat.le_of_ble_eq_true rfl, Nat.le_of_ble_eq_true rfl⟩ dX12_isEven_6 (fun v S1 H locs hq hH => ?_)
  obtain ⟨F_2, rfl, e9, hp⟩ := hq
  rw [e9] at hH
  have hH : Hp G (FA S s.heap.size) s.heap (wI S F_2) H locs := hH
  refine W.eq (g2 := F0 m 9 ls []) rfl ?_
  refine lv_iconst (pc := 9) (v := 0) hx hb dX12_isEven_9 (by decide) ?_
  refine lv_istore_n (pc := 10) (lv' := [(2, .int 0), (0, .ref th), (1, .int p0)]) hx hb dX12_isEven_10 rfl hl (by decide) rfl (fun ls hl => ?_)
  refine lv_iconst (pc := 11) (v := 0) hx hb dX12_isEven_11 (by decide) ?_
  refine lv_istore_n (pc := 12) (lv' := [(3, .int 0), (2, .int 0), (0, .ref th), (1, .int p0)]) hx hb dX12_isEven_12 rfl hl (by decide) rfl (fun ls hl => ?_)
  obtain ⟨I_3, ⟨k0_3, h0_3⟩, hst_3⟩ := hp
  have kl_3 : ∀ (n_3 : Nat) (x2_4 : Int32) (x3_5 : Int32) (H : Heap) (locs : List Loc) (ls : Array Slot), I_3 n_3 x2_4 x3_5 → Hp G (FA S s.heap.size) s.heap (wI S F_2) H locs → lv_has ls 5 [(0, .ref th), (2, .int x2_4), (3, .int x3_5)] → Wm G p l e { frames := 2, cells := 0, slots := 0, locals := 51 } s m args below meth c S QQ 0 0 H locs 0 0 (F0 m 13 ls []) := by
    intro n_3
    induction n_3 using Nat.strongRecOn with
    | ind n_3 ih_3 =>
      intro x2_4 x3_5 H locs ls hq9 hH hl
      have hp := hst_3 n_3 x2_4 x3_5 hq9
      refine lv_iload_n (pc := 13) hx hb dX12_isEven_13 rfl (lv_at hl 2 rfl) ?_
      refine lv_aload_n (pc := 14) hx hb dX12_isEven_14 rfl (lv_at hl 0 rfl) ?_
      refine sx_getR (pc := 15) (j := 0) B hH hk_th coX12 rfl w_1304 rfl dX12_isEven_15 ?_
      refine W.eq (g2 := F0 m 18 ls [va_rf (gR S th 0), .int x3_5]) rfl ?_
      obtain ⟨a_6, ha_6, hp⟩ := hp
      refine sx_nonnull (x := a_6) ha_6 ?_
      refine lv_iconst (pc := 18) (v := 0) hx hb dX12_isEven_18 (by decide) ?_
      obtain ⟨hk_7, hp⟩ := hp
      obtain ⟨hn_8, hp⟩ := hp
      refine sx_iald (pc := 19) B hH hk_7 hn_8 dX12_isEven_19 ?_
      refine W.eq (g2 := F0 m 20 ls [.int (F_2 a_6 0), .int x3_5]) rfl ?_
      refine lv_icmp_ge (pc := 20) (tgt := 75) hx hb dX12_isEven_20 (by decide) (fun cc_9 => ?_) (fun cc_9 => ?_)
      · have hp := hp.1 cc_9
        refine lv_iload_n (pc := 75) hx hb dX12_isEven_75 rfl (lv_at hl 1 rfl) ?_
        refine lv_iconst (pc := 76) (v := 2) hx hb dX12_isEven_76 (by decide) ?_
        refine lv_irem (pc := 77) hx hb dX12_isEven_77 (by decide) ?_
        refine W.eq (g2 := F0 m 78 ls [.int (irm x2_4 2)]) rfl ?_
        refine lv_if_ne (pc := 78) (tgt := 85) hx hb dX12_isEven_78 (by decide) (fun cc_10 => ?_) (fun cc_10 => ?_)
        · have hp := hp.1 cc_10
          refine lv_iconst (pc := 85) (v := 0) hx hb dX12_isEven_85 (by decide) ?_
          exact sx_zret (pc := 86) B hH hr hlk (Or.inl rfl) (by rw [← hQQ]; exact ⟨_, F_2, rfl, rfl, hp⟩) (Nat.le_of_ble_eq_true rfl) (Nat.le_of_ble_eq_true rfl) dX12_isEven_86
        · have hp := hp.2 cc_10
          refine lv_iconst (pc := 81) (v := 1) hx hb dX12_isEven_81 (by decide) ?_
          refine lv_goto (pc := 82) (tgt := 86) hx hb dX12_isEven_82 (by decide) ?_
          exact sx_zret (pc := 86) B hH hr hlk (Or.inr rfl) (by rw [← hQQ]; exact ⟨_, F_2, rfl, rfl, hp⟩) (Nat.le_of_ble_eq_true rfl) (Nat.le_of_ble_eq_true rfl) dX12_isEven_86
      · have hp := hp.2 cc_9
        refine lv_iload_n (pc := 23) hx hb dX12_isEven_23 rfl (lv_at hl 2 rfl) ?_
        refine lv_iconst (pc := 24) (v := 1) hx hb dX12_isEven_24 (by decide) ?_
        refine lv_iadd (pc := 25) hx hb dX12_isEven_25 ?_
        refine lv_topi (fun v_11 ev_11 => ?_)
        have hp := hp v_11 ev_11
        refine lv_istore (pc := 26) (lv' := [(4, .int v_11), (0, .ref th), (2, .int x2_4), (3, .int x3_5)]) hx hb dX12_isEven_26 hl (by decide) rfl (fun ls hl => ?_)
        obtain ⟨I_12, ⟨k0_12, h0_12⟩, hst_12⟩ := hp
        have kl_12 : ∀ (n_12 : Nat) (x2_13 : Int32) (x4_14 : Int32) (H : Heap) (locs : List Loc) (ls : Array Slot), I_12 n_12 x2_13 x4_14 → Hp G (FA S s.heap.size) s.heap (wI S F_2) H locs → lv_has ls 5 [(0, .ref th), (2, .int x2_13), (3, .int x3_5), (4, .int x4_14)] → Wm G p l e { frames := 2, cells := 0, slots := 0, locals := 51 } s m args below meth c S QQ 0 0 H locs 0 0 (F0 m 28 ls []) := by
          intro n_12
          induction n_12 using Nat.strongRecOn with
          | ind n_12 ih_12 =>
            intro x2_13 x4_14 H locs ls hq9 hH hl
            have hp := hst_12 n_12 x2_13 x4_14 hq9
            refine lv_iload (pc := 28) hx hb dX12_isEven_28 (lv_at hl 3 rfl) ?_
            refine lv_aload_n (pc := 30) hx hb dX12_isEven_30 rfl (lv_at hl 0 rfl) ?_
            refine sx_getR (pc := 31) (j := 0) B hH hk_th coX12 rfl w_1304 rfl dX12_isEven_31 ?_
            refine W.eq (g2 := F0 m 34 ls [va_rf (gR S th 0), .int x4_14]) rfl ?_
            refine sx_nonnull (x := a_6) ha_6 ?_
            refine lv_iconst (pc := 34) (v := 0) hx hb dX12_isEven_34 (by decide) ?_
            refine sx_iald (pc := 35) B hH hk_7 hn_8 dX12_isEven_35 ?_
            refine W.eq (g2 := F0 m 36 ls [.int (F_2 a_6 0), .int x4_14]) rfl ?_
            refine lv_icmp_ge (pc := 36) (tgt := 69) hx hb dX12_isEven_36 (by decide) (fun cc_15 => ?_) (fun cc_15 => ?_)
            · have hp := hp.1 cc_15
              obtain ⟨v_16, ev_16⟩ : ∃ y : Int32, y = x3_5 + 1 := ⟨_, rfl⟩
              have hp := hp v_16 ev_16
              refine lv_iinc (pc := 69) (v := v_16) (lv' := [(3, .int v_16), (0, .ref th), (2, .int x2_13), (4, .int x4_14)]) hx hb dX12_isEven_69 hl (k := 2) rfl (by rw [ev_16]; rfl) (by decide) rfl (fun ls hl => ?_)
              refine lv_goto (pc := 72) (tgt := 13) hx hb dX12_isEven_72 (by decide) ?_
              obtain ⟨k9, hlt9, hp⟩ := hp
              exact ih_3 k9 hlt9 _ _ _ _ _ hp hH (lv_sub hl [1, 2, 0] rfl)
            · have hp := hp.2 cc_15
              refine lv_iload_n (pc := 39) hx hb dX12_isEven_39 rfl (lv_at hl 1 rfl) ?_
              refine lv_aload_n (pc := 40) hx hb dX12_isEven_40 rfl (lv_at hl 0 rfl) ?_
              refine sx_getR (pc := 41) (j := 24) B hH hk_th coX12 rfl w_1328 rfl dX12_isEven_41 ?_
              refine W.eq (g2 := F0 m 44 ls [va_rf (gR S th 24), .int x2_13]) rfl ?_
              refine sx_nonnull (x := a_1) ha_1 ?_
              refine lv_iload (pc := 44) hx hb dX12_isEven_44 (lv_at hl 3 rfl) ?_
              obtain ⟨hk_17, hp⟩ := hp
              obtain ⟨hn_18, hp⟩ := hp
              refine sx_iald (pc := 46) B hH hk_17 hn_18 dX12_isEven_46 ?_
              refine W.eq (g2 := F0 m 47 ls [.int (F_2 a_1 x4_14.toNatClampNeg), .int x2_13]) rfl ?_
              refine lv_aload_n (pc := 47) hx hb dX12_isEven_47 rfl (lv_at hl 0 rfl) ?_
              refine sx_getR (pc := 48) (j := 24) B hH hk_th coX12 rfl w_1328 rfl dX12_isEven_48 ?_
              refine W.eq (g2 := F0 m 51 ls [va_rf (gR S th 24), .int (F_2 a_1 x4_14.toNatClampNeg), .int x2_13]) rfl ?_
              refine sx_nonnull (x := a_1) ha_1 ?_
              refine lv_iload_n (pc := 51) hx hb dX12_isEven_51 rfl (lv_at hl 2 rfl) ?_
              obtain ⟨hn_19, hp⟩ := hp
              refine sx_iald (pc := 52) B hH hk_17 hn_19 dX12_isEven_52 ?_
              refine W.eq (g2 := F0 m 53 ls [.int (F_2 a_1 x3_5.toNatClampNeg), .int (F_2 a_1 x4_14.toNatClampNeg), .int x2_13]) rfl ?_
              refine lv_icmp_ge (pc := 53) (tgt := 60) hx hb dX12_isEven_53 (by decide) (fun cc_20 => ?_) (fun cc_20 => ?_)
              · have hp := hp.1 cc_20
                refine lv_iconst (pc := 60) (v := 0) hx hb dX12_isEven_60 (by decide) ?_
                refine lv_iadd (pc := 61) hx hb dX12_isEven_61 ?_
                refine lv_topi (fun v_21 ev_21 => ?_)
                have hp := hp v_21 ev_21
                refine lv_istore_n (pc := 62) (lv' := [(2, .int v_21), (0, .ref th), (3, .int x3_5), (4, .int x4_14)]) hx hb dX12_isEven_62 rfl hl (by decide) rfl (fun ls hl => ?_)
                obtain ⟨v_22, ev_22⟩ : ∃ y : Int32, y = x4_14 + 1 := ⟨_, rfl⟩
                have hp := hp v_22 ev_22
                refine lv_iinc (pc := 63) (v := v_22) (lv' := [(4, .int v_22), (2, .int v_21), (0, .ref th), (3, .int x3_5)]) hx hb dX12_isEven_63 hl (k := 3) rfl (by rw [ev_22]; rfl) (by decide) rfl (fun ls hl => ?_)
                refine lv_goto (pc := 66) (tgt := 28) hx hb dX12_isEven_66 (by decide) ?_
                obtain ⟨k9, hlt9, hp⟩ := hp
                exact ih_12 k9 hlt9 _ _ _ _ _ hp hH (lv_sub hl [2, 1, 3, 0] rfl)
              · have hp := hp.2 cc_20
                refine lv_iconst (pc := 56) (v := 1) hx hb dX12_isEven_56 (by decide) ?_
                refine lv_goto (pc := 57) (tgt := 61) hx hb dX12_isEven_57 (by decide) ?_
                refine lv_iadd (pc := 61) hx hb dX12_isEven_61 ?_
                refine lv_topi (fun v_23 ev_23 => ?_)
                have hp := hp v_23 ev_23
                refine lv_istore_n (pc := 62) (lv' := [(2, .int v_23), (0, .ref th), (3, .int x3_5), (4, .int x4_14)]) hx hb dX12_isEven_62 rfl hl (by decide) rfl (fun ls hl => ?_)
                obtain ⟨v_24, ev_24⟩ : ∃ y : Int32, y = x4_14 + 1 := ⟨_, rfl⟩
                have hp := hp v_24 ev_24
                refine lv_iinc (pc := 63) (v := v_24) (lv' := [(4, .int v_24), (2, .int v_23), (0, .ref th), (3, .int x3_5)]) hx hb dX12_isEven_63 hl (k := 3) rfl (by rw [ev_24]; rfl) (by decide) rfl (fun ls hl => ?_)
                refine lv_goto (pc := 66) (tgt := 28) hx hb dX12_isEven_66 (by decide) ?_
                obtain ⟨k9, hlt9, hp⟩ := hp
                exact ih_12 k9 hlt9 _ _ _ _ _ hp hH (lv_sub hl [2, 1, 3, 0] rfl)
        exact kl_12 k0_12 _ _ _ _ _ h0_12 hH (lv_sub hl [1, 2, 3, 0] rfl)
  exact kl_3 k0_3 _ _ _ _ _ h0_3 hH (lv_sub hl [2, 1, 0] rfl)
theorem dX12_even_0 : decode cX12_even 0 = .ok (.aload_n 0, 1) := by decide +kernel
theorem dX12_even_1 : decode cX12_even 1 = .ok (.iload_n 1, 1) := by decide +kernel
theorem dX12_even_2 : decode cX12_even 2 = .ok (.invokevirtual 277, 3) := by decide +kernel
theorem dX12_even_5 : decode cX12_even 5 = .ok (.ifCond .eq 23, 3) := by decide +kernel
theorem dX12_even_8 : decode cX12_even 8 = .ok (.aload_n 0, 1) := by decide +kernel
theorem dX12_even_9 : decode cX12_even 9 = .ok (.aload_n 0, 1) := by decide +kernel
theorem dX12_even_10 : decode cX12_even 10 = .ok (.iload_n 1, 1) := by decide +kernel
theorem dX12_even_11 : decode cX12_even 11 = .ok (.invokevirtual 296, 3) := by decide +kernel
theorem dX12_even_14 : decode cX12_even 14 = .ok (.ifCond .eq 7, 3) := by decide +kernel
theorem dX12_even_17 : decode cX12_even 17 = .ok (.iconst 1, 1) := by decide +kernel
theorem dX12_even_18 : decode cX12_even 18 = .ok (.goto 4, 3) := by decide +kernel
theorem dX12_even_21 : decode cX12_even 21 = .ok (.iconst 0, 1) := by decide +kernel
theorem dX12_even_22 : decode cX12_even 22 = .ok (.invokevirtual 109, 3) := by decide +kernel
theorem dX12_even_25 : decode cX12_even 25 = .ok (.goto 8, 3) := by decide +kernel
theorem dX12_even_28 : decode cX12_even 28 = .ok (.aload_n 0, 1) := by decide +kernel
theorem dX12_even_29 : decode cX12_even 29 = .ok (.iconst 1, 1) := by decide +kernel
theorem dX12_even_30 : decode cX12_even 30 = .ok (.invokevirtual 105, 3) := by decide +kernel
theorem dX12_even_33 : decode cX12_even 33 = .ok (.ireturn, 1) := by decide +kernel
theorem mi_X12_even : MI yX12_even cX12_even 2 (some FieldType.int) 1 := ⟨w_1697, w_118, by decide +kernel, by decide +kernel, by decide +kernel⟩
set_option maxRecDepth 100000 in
set_option maxHeartbeats 4000000 in
theorem C_X12_even (G : GG) (l : Launch) (th : Nat) (p0 : Int32) (S : St) (Q : Int32 → (Nat → Nat → Int32) → Prop) (hp : P_X12_even th p0 S Q) : Ctr G l yX12_even cX12_even 2 (some FieldType.int) 3 75 0 0 [.ref th, .int p0] S (fun (v : Option Value) (S9 : St) => ∃ (r : Int32) (I9 : Nat → Nat → Int32), v = some (.int r) ∧ S9 = wI S I9 ∧ Q r I9) := by
  generalize hQQ : (fun (v : Option Value) (S9 : St) => ∃ (r : Int32) (I9 : Nat → Nat → Int32), v = some (.int r) ∧ S9 = wI S I9 ∧ Q r I9) = QQ
  unfold P_X12_even at hp
  refine Ctr.of (by decide) (Nat.le_of_ble_eq_true rfl) ?_
  intro p e s m args below meth c ls B hr hlk hin hl hH
  generalize hlocs0 : ([] : List Loc) = locs at hH ⊢
  have hx := B.1
  have hb := B.2.1
  have hl : lv_has ls 2 [(0, .ref th), (1, .int p0)] := hl
  obtain ⟨hk_th, hp⟩ := hp
  refine lv_aload_n (pc := 0) hx hb dX12_even_0 rfl (lv_at hl 0 rfl) ?_
  refine lv_iload_n (pc := 1) hx hb dX12_even_1 rfl (lv_at hl 1 rfl) ?_
  refine sx_V (pc := 2) (As := [.int p0]) (rest := []) B hH hl.1 (C_X12_isRow G l th p0 _ _ hp) mi_X12_isRow coX12 hk_th w_1649 w_74 w_1647 rfl rfl ⟨Nat.le_of_ble_eq_true rfl, Nat.le_of_ble_eq_true rfl⟩ (Nat.le_of_ble_eq_true rfl) ⟨Nat.le_of_ble_eq_true rfl, Nat.le_of_ble_eq_true rfl⟩ dX12_even_2 (fun v S1 H locs hq hH => ?_)
  obtain ⟨r_1, rfl, e9, hp⟩ := hq
  rw [e9] at hH
  refine W.eq (g2 := F0 m 5 ls [.int r_1]) rfl ?_
  refine lv_if_eq (pc := 5) (tgt := 28) hx hb dX12_even_5 (by decide) (fun cc_2 => ?_) (fun cc_2 => ?_)
  · have hp := hp.1 cc_2
    refine lv_aload_n (pc := 28) hx hb dX12_even_28 rfl (lv_at hl 0 rfl) ?_
    refine lv_iconst (pc := 29) (v := 1) hx hb dX12_even_29 (by decide) ?_
    refine sx_V (pc := 30) (As := [.int 1]) (rest := []) B hH hl.1 (C_X12_refuse G l th 1 _ _ hp) mi_X12_refuse coX12 hk_th w_1539 w_51 w_1537 rfl rfl ⟨Nat.le_of_ble_eq_true rfl, Nat.le_of_ble_eq_true rfl⟩ (Nat.le_of_ble_eq_true rfl) ⟨Nat.le_of_ble_eq_true rfl, Nat.le_of_ble_eq_true rfl⟩ dX12_even_30 (fun v S1 H locs hq hH => ?_)
    obtain ⟨r_3, F_3, rfl, e9, hp⟩ := hq
    rw [e9] at hH
    have hH : Hp G (FA S s.heap.size) s.heap (wI S F_3) H locs := hH
    refine W.eq (g2 := F0 m 33 ls [.int r_3]) rfl ?_
    exact sx_iret (pc := 33) B hH hr hlk (by rw [← hQQ]; exact ⟨_, F_3, rfl, rfl, hp⟩) (Nat.le_of_ble_eq_true rfl) (Nat.le_of_ble_eq_true rfl) dX12_even_33
  · have hp := hp.2 cc_2
    refine lv_aload_n (pc := 8) hx hb dX12_even_8 rfl (lv_at hl 0 rfl) ?_
    refine lv_aload_n (pc := 9) hx hb dX12_even_9 rfl (lv_at hl 0 rfl) ?_
    refine lv_iload_n (pc := 10) hx hb dX12_even_10 rfl (lv_at hl 1 rfl) ?_
    refine sx_V (pc := 11) (As := [.int p0]) (rest := [.ref th]) B hH hl.1 (C_X12_isEven G l th p0 _ _ hp) mi_X12_isEven coX12 hk_th w_1700 w_81 w_1698 rfl rfl ⟨Nat.le_of_ble_eq_true rfl, Nat.le_of_ble_eq_true rfl⟩ (Nat.le_of_ble_eq_true rfl) ⟨Nat.le_of_ble_eq_true rfl, Nat.le_of_ble_eq_true rfl⟩ dX12_even_11 (fun v S1 H locs hq hH => ?_)
    obtain ⟨r_4, F_4, rfl, e9, hp⟩ := hq
    rw [e9] at hH
    have hH : Hp G (FA S s.heap.size) s.heap (wI S F_4) H locs := hH
    refine W.eq (g2 := F0 m 14 ls [.int r_4, .ref th]) rfl ?_
    obtain ⟨J_6, hj_6, hp⟩ := hp
    have kj_6 : ∀ (t_7 : Int32) (H : Heap) (locs : List Loc) (ls : Array Slot), J_6 t_7 → Hp G (FA S s.heap.size) s.heap (wI S F_4) H locs → lv_has ls 2 [] → Wm G p l e { frames := 3, cells := 0, slots := 0, locals := 75 } s m args below meth c S QQ 0 0 H locs 0 0 (F0 m 22 ls [.int t_7, .ref th]) := by
      intro t_7 H locs ls hq9 hH hl
      have hp := hj_6 t_7 hq9
      refine sx_V (pc := 22) (As := [.int t_7]) (rest := []) B hH hl.1 (C_X12_gives G l th t_7 _ _ hp) mi_X12_gives coX12 hk_th w_1617 w_69 w_1615 rfl rfl ⟨Nat.le_of_ble_eq_true rfl, Nat.le_of_ble_eq_true rfl⟩ (Nat.le_of_ble_eq_true rfl) ⟨Nat.le_of_ble_eq_true rfl, Nat.le_of_ble_eq_true rfl⟩ dX12_even_22 (fun v S1 H locs hq hH => ?_)
      obtain ⟨r_8, F_8, rfl, e9, hp⟩ := hq
      rw [e9] at hH
      have hH : Hp G (FA S s.heap.size) s.heap (wI S F_8) H locs := hH
      refine W.eq (g2 := F0 m 25 ls [.int r_8]) rfl ?_
      refine lv_goto (pc := 25) (tgt := 33) hx hb dX12_even_25 (by decide) ?_
      exact sx_iret (pc := 33) B hH hr hlk (by rw [← hQQ]; exact ⟨_, F_8, rfl, rfl, hp⟩) (Nat.le_of_ble_eq_true rfl) (Nat.le_of_ble_eq_true rfl) dX12_even_33
    refine lv_if_eq (pc := 14) (tgt := 21) hx hb dX12_even_14 (by decide) (fun cc_5 => ?_) (fun cc_5 => ?_)
    · have hp := hp.1 cc_5
      refine lv_iconst (pc := 21) (v := 0) hx hb dX12_even_21 (by decide) ?_
      exact kj_6 _ _ _ _ hp hH (lv_sub hl [] rfl)
    · have hp := hp.2 cc_5
      refine lv_iconst (pc := 17) (v := 1) hx hb dX12_even_17 (by decide) ?_
      refine lv_goto (pc := 18) (tgt := 22) hx hb dX12_even_18 (by decide) ?_
      exact kj_6 _ _ _ _ hp hH (lv_sub hl [] rfl)
theorem dX12_placesOf_0 : decode cX12_placesOf 0 = .ok (.iconst 0, 1) := by decide +kernel
theorem dX12_placesOf_1 : decode cX12_placesOf 1 = .ok (.istore_n 2, 1) := by decide +kernel
theorem dX12_placesOf_2 : decode cX12_placesOf 2 = .ok (.bipush 9, 2) := by decide +kernel
theorem dX12_placesOf_4 : decode cX12_placesOf 4 = .ok (.istore_n 3, 1) := by decide +kernel
theorem dX12_placesOf_5 : decode cX12_placesOf 5 = .ok (.iload_n 1, 1) := by decide +kernel
theorem dX12_placesOf_6 : decode cX12_placesOf 6 = .ok (.istore 4, 2) := by decide +kernel
theorem dX12_placesOf_8 : decode cX12_placesOf 8 = .ok (.iload 4, 2) := by decide +kernel
theorem dX12_placesOf_10 : decode cX12_placesOf 10 = .ok (.ifCond .le 56, 3) := by decide +kernel
theorem dX12_placesOf_13 : decode cX12_placesOf 13 = .ok (.iload 4, 2) := by decide +kernel
theorem dX12_placesOf_15 : decode cX12_placesOf 15 = .ok (.bipush 10, 2) := by decide +kernel
theorem dX12_placesOf_17 : decode cX12_placesOf 17 = .ok (.irem, 1) := by decide +kernel
theorem dX12_placesOf_18 : decode cX12_placesOf 18 = .ok (.istore 5, 2) := by decide +kernel
theorem dX12_placesOf_20 : decode cX12_placesOf 20 = .ok (.iload 5, 2) := by decide +kernel
theorem dX12_placesOf_22 : decode cX12_placesOf 22 = .ok (.ifCond .eq 20, 3) := by decide +kernel
theorem dX12_placesOf_25 : decode cX12_placesOf 25 = .ok (.iload 5, 2) := by decide +kernel
theorem dX12_placesOf_27 : decode cX12_placesOf 27 = .ok (.iload_n 3, 1) := by decide +kernel
theorem dX12_placesOf_28 : decode cX12_placesOf 28 = .ok (.if_icmp .ge 14, 3) := by decide +kernel
theorem dX12_placesOf_31 : decode cX12_placesOf 31 = .ok (.iload 5, 2) := by decide +kernel
theorem dX12_placesOf_33 : decode cX12_placesOf 33 = .ok (.aload_n 0, 1) := by decide +kernel
theorem dX12_placesOf_34 : decode cX12_placesOf 34 = .ok (.getfield 7, 3) := by decide +kernel
theorem dX12_placesOf_37 : decode cX12_placesOf 37 = .ok (.iconst 0, 1) := by decide +kernel
theorem dX12_placesOf_38 : decode cX12_placesOf 38 = .ok (.iaload, 1) := by decide +kernel
theorem dX12_placesOf_39 : decode cX12_placesOf 39 = .ok (.if_icmp .le 5, 3) := by decide +kernel
theorem dX12_placesOf_42 : decode cX12_placesOf 42 = .ok (.iconst (-1), 1) := by decide +kernel
theorem dX12_placesOf_43 : decode cX12_placesOf 43 = .ok (.ireturn, 1) := by decide +kernel
theorem dX12_placesOf_44 : decode cX12_placesOf 44 = .ok (.iload_n 2, 1) := by decide +kernel
theorem dX12_placesOf_45 : decode cX12_placesOf 45 = .ok (.iconst 1, 1) := by decide +kernel
theorem dX12_placesOf_46 : decode cX12_placesOf 46 = .ok (.iload 5, 2) := by decide +kernel
theorem dX12_placesOf_48 : decode cX12_placesOf 48 = .ok (.iconst 1, 1) := by decide +kernel
theorem dX12_placesOf_49 : decode cX12_placesOf 49 = .ok (.isub, 1) := by decide +kernel
theorem dX12_placesOf_50 : decode cX12_placesOf 50 = .ok (.ishl, 1) := by decide +kernel
theorem dX12_placesOf_51 : decode cX12_placesOf 51 = .ok (.ior, 1) := by decide +kernel
theorem dX12_placesOf_52 : decode cX12_placesOf 52 = .ok (.istore_n 2, 1) := by decide +kernel
theorem dX12_placesOf_53 : decode cX12_placesOf 53 = .ok (.iload 5, 2) := by decide +kernel
theorem dX12_placesOf_55 : decode cX12_placesOf 55 = .ok (.istore_n 3, 1) := by decide +kernel
theorem dX12_placesOf_56 : decode cX12_placesOf 56 = .ok (.iload 4, 2) := by decide +kernel
theorem dX12_placesOf_58 : decode cX12_placesOf 58 = .ok (.bipush 10, 2) := by decide +kernel
theorem dX12_placesOf_60 : decode cX12_placesOf 60 = .ok (.idiv, 1) := by decide +kernel
theorem dX12_placesOf_61 : decode cX12_placesOf 61 = .ok (.istore 4, 2) := by decide +kernel
theorem dX12_placesOf_63 : decode cX12_placesOf 63 = .ok (.goto (-55), 3) := by decide +kernel
theorem dX12_placesOf_66 : decode cX12_placesOf 66 = .ok (.iload_n 2, 1) := by decide +kernel
theorem dX12_placesOf_67 : decode cX12_placesOf 67 = .ok (.aload_n 0, 1) := by decide +kernel
theorem dX12_placesOf_68 : decode cX12_placesOf 68 = .ok (.getfield 7, 3) := by decide +kernel
theorem dX12_placesOf_71 : decode cX12_placesOf 71 = .ok (.iconst 0, 1) := by decide +kernel
theorem dX12_placesOf_72 : decode cX12_placesOf 72 = .ok (.iaload, 1) := by decide +kernel
theorem dX12_placesOf_73 : decode cX12_placesOf 73 = .ok (.invokestatic 201, 3) := by decide +kernel
theorem dX12_placesOf_76 : decode cX12_placesOf 76 = .ok (.ifCond .eq 7, 3) := by decide +kernel
theorem dX12_placesOf_79 : decode cX12_placesOf 79 = .ok (.iload_n 2, 1) := by decide +kernel
theorem dX12_placesOf_80 : decode cX12_placesOf 80 = .ok (.goto 4, 3) := by decide +kernel
theorem dX12_placesOf_83 : decode cX12_placesOf 83 = .ok (.iconst (-1), 1) := by decide +kernel
theorem dX12_placesOf_84 : decode cX12_placesOf 84 = .ok (.ireturn, 1) := by decide +kernel
theorem mi_X12_placesOf : MI yX12_placesOf cX12_placesOf 6 (some FieldType.int) 1 := ⟨w_1709, w_118, by decide +kernel, by decide +kernel, by decide +kernel⟩
set_option maxRecDepth 100000 in
set_option maxHeartbeats 4000000 in
theorem C_X12_placesOf (G : GG) (l : Launch) (th : Nat) (p0 : Int32) (S : St) (Q : Int32 → Prop) (hp : P_X12_placesOf th p0 S Q) : Ctr G l yX12_placesOf cX12_placesOf 6 (some FieldType.int) 1 22 0 0 [.ref th, .int p0] S (fun (v : Option Value) (S9 : St) => ∃ (r : Int32), v = some (.int r) ∧ S9 = S ∧ Q r ) := by
  generalize hQQ : (fun (v : Option Value) (S9 : St) => ∃ (r : Int32), v = some (.int r) ∧ S9 = S ∧ Q r ) = QQ
  unfold P_X12_placesOf at hp
  refine Ctr.of (by decide) (Nat.le_of_ble_eq_true rfl) ?_
  intro p e s m args below meth c ls B hr hlk hin hl hH
  generalize hlocs0 : ([] : List Loc) = locs at hH ⊢
  have hx := B.1
  have hb := B.2.1
  have hl : lv_has ls 6 [(0, .ref th), (1, .int p0)] := hl
  obtain ⟨hk_th, hp⟩ := hp
  refine lv_iconst (pc := 0) (v := 0) hx hb dX12_placesOf_0 (by decide) ?_
  refine lv_istore_n (pc := 1) (lv' := [(2, .int 0), (0, .ref th), (1, .int p0)]) hx hb dX12_placesOf_1 rfl hl (by decide) rfl (fun ls hl => ?_)
  refine lv_bipush (pc := 2) (v := 9) hx hb dX12_placesOf_2 (by decide) ?_
  refine lv_istore_n (pc := 4) (lv' := [(3, .int 9), (2, .int 0), (0, .ref th), (1, .int p0)]) hx hb dX12_placesOf_4 rfl hl (by decide) rfl (fun ls hl => ?_)
  refine lv_iload_n (pc := 5) hx hb dX12_placesOf_5 rfl (lv_at hl 3 rfl) ?_
  refine lv_istore (pc := 6) (lv' := [(4, .int p0), (3, .int 9), (2, .int 0), (0, .ref th), (1, .int p0)]) hx hb dX12_placesOf_6 hl (by decide) rfl (fun ls hl => ?_)
  obtain ⟨I_1, ⟨k0_1, h0_1⟩, hst_1⟩ := hp
  have kl_1 : ∀ (n_1 : Nat) (x2_2 : Int32) (x3_3 : Int32) (x4_4 : Int32) (H : Heap) (locs : List Loc) (ls : Array Slot), I_1 n_1 x2_2 x3_3 x4_4 → Hp G (FA S s.heap.size) s.heap S H locs → lv_has ls 6 [(0, .ref th), (2, .int x2_2), (3, .int x3_3), (4, .int x4_4)] → Wm G p l e { frames := 1, cells := 0, slots := 0, locals := 22 } s m args below meth c S QQ 0 0 H locs 0 0 (F0 m 8 ls []) := by
    intro n_1
    induction n_1 using Nat.strongRecOn with
    | ind n_1 ih_1 =>
      intro x2_2 x3_3 x4_4 H locs ls hq9 hH hl
      have hp := hst_1 n_1 x2_2 x3_3 x4_4 hq9
      refine lv_iload (pc := 8) hx hb dX12_placesOf_8 (lv_at hl 3 rfl) ?_
      refine lv_if_le (pc := 10) (tgt := 66) hx hb dX12_placesOf_10 (by decide) (fun cc_5 => ?_) (fun cc_5 => ?_)
      · have hp := hp.1 cc_5
        refine lv_iload_n (pc := 66) hx hb dX12_placesOf_66 rfl (lv_at hl 1 rfl) ?_
        refine lv_aload_n (pc := 67) hx hb dX12_placesOf_67 rfl (lv_at hl 0 rfl) ?_
        refine sx_getR (pc := 68) (j := 0) B hH hk_th coX12 rfl w_1304 rfl dX12_placesOf_68 ?_
        refine W.eq (g2 := F0 m 71 ls [va_rf (gR S th 0), .int x2_2]) rfl ?_
        obtain ⟨a_6, ha_6, hp⟩ := hp
        refine sx_nonnull (x := a_6) ha_6 ?_
        refine lv_iconst (pc := 71) (v := 0) hx hb dX12_placesOf_71 (by decide) ?_
        obtain ⟨hk_7, hp⟩ := hp
        obtain ⟨hn_8, hp⟩ := hp
        refine sx_iald (pc := 72) B hH hk_7 hn_8 dX12_placesOf_72 ?_
        refine W.eq (g2 := F0 m 73 ls [.int (gI S a_6 0), .int x2_2]) rfl ?_
        refine sx_S (pc := 73) (As := [.int x2_2, .int (gI S a_6 0)]) (rest := []) B hH hl.1 (C_X12_canChange G l x2_2 (gI S a_6 0) _ _ hp) mi_X12_canChange w_1601 w_1600 rfl rfl ⟨Nat.le_of_ble_eq_true rfl, Nat.le_of_ble_eq_true rfl⟩ (Nat.le_of_ble_eq_true rfl) ⟨Nat.le_of_ble_eq_true rfl, Nat.le_of_ble_eq_true rfl⟩ dX12_placesOf_73 (fun v S1 H locs hq hH => ?_)
        obtain ⟨r_9, rfl, e9, hp⟩ := hq
        rw [e9] at hH
        refine W.eq (g2 := F0 m 76 ls [.int r_9]) rfl ?_
        refine lv_if_eq (pc := 76) (tgt := 83) hx hb dX12_placesOf_76 (by decide) (fun cc_10 => ?_) (fun cc_10 => ?_)
        · have hp := hp.1 cc_10
          refine lv_iconst (pc := 83) (v := (-1)) hx hb dX12_placesOf_83 (by decide) ?_
          exact sx_iret (pc := 84) B hH hr hlk (by rw [← hQQ]; exact ⟨_, rfl, rfl, hp⟩) (Nat.le_of_ble_eq_true rfl) (Nat.le_of_ble_eq_true rfl) dX12_placesOf_84
        · have hp := hp.2 cc_10
          refine lv_iload_n (pc := 79) hx hb dX12_placesOf_79 rfl (lv_at hl 1 rfl) ?_
          refine lv_goto (pc := 80) (tgt := 84) hx hb dX12_placesOf_80 (by decide) ?_
          exact sx_iret (pc := 84) B hH hr hlk (by rw [← hQQ]; exact ⟨_, rfl, rfl, hp⟩) (Nat.le_of_ble_eq_true rfl) (Nat.le_of_ble_eq_true rfl) dX12_placesOf_84
      · have hp := hp.2 cc_5
        refine lv_iload (pc := 13) hx hb dX12_placesOf_13 (lv_at hl 3 rfl) ?_
        refine lv_bipush (pc := 15) (v := 10) hx hb dX12_placesOf_15 (by decide) ?_
        refine lv_irem (pc := 17) hx hb dX12_placesOf_17 (by decide) ?_
        refine W.eq (g2 := F0 m 18 ls [.int (irm x4_4 10)]) rfl ?_
        refine lv_topi (fun v_11 ev_11 => ?_)
        have hp := hp v_11 ev_11
        refine lv_istore (pc := 18) (lv' := [(5, .int v_11), (0, .ref th), (2, .int x2_2), (3, .int x3_3), (4, .int x4_4)]) hx hb dX12_placesOf_18 hl (by decide) rfl (fun ls hl => ?_)
        refine lv_iload (pc := 20) hx hb dX12_placesOf_20 (lv_at hl 0 rfl) ?_
        refine lv_if_eq (pc := 22) (tgt := 42) hx hb dX12_placesOf_22 (by decide) (fun cc_12 => ?_) (fun cc_12 => ?_)
        · have hp := hp.1 cc_12
          refine lv_iconst (pc := 42) (v := (-1)) hx hb dX12_placesOf_42 (by decide) ?_
          exact sx_iret (pc := 43) B hH hr hlk (by rw [← hQQ]; exact ⟨_, rfl, rfl, hp⟩) (Nat.le_of_ble_eq_true rfl) (Nat.le_of_ble_eq_true rfl) dX12_placesOf_43
        · have hp := hp.2 cc_12
          refine lv_iload (pc := 25) hx hb dX12_placesOf_25 (lv_at hl 0 rfl) ?_
          refine lv_iload_n (pc := 27) hx hb dX12_placesOf_27 rfl (lv_at hl 3 rfl) ?_
          refine lv_icmp_ge (pc := 28) (tgt := 42) hx hb dX12_placesOf_28 (by decide) (fun cc_13 => ?_) (fun cc_13 => ?_)
          · have hp := hp.1 cc_13
            refine lv_iconst (pc := 42) (v := (-1)) hx hb dX12_placesOf_42 (by decide) ?_
            exact sx_iret (pc := 43) B hH hr hlk (by rw [← hQQ]; exact ⟨_, rfl, rfl, hp⟩) (Nat.le_of_ble_eq_true rfl) (Nat.le_of_ble_eq_true rfl) dX12_placesOf_43
          · have hp := hp.2 cc_13
            refine lv_iload (pc := 31) hx hb dX12_placesOf_31 (lv_at hl 0 rfl) ?_
            refine lv_aload_n (pc := 33) hx hb dX12_placesOf_33 rfl (lv_at hl 1 rfl) ?_
            refine sx_getR (pc := 34) (j := 0) B hH hk_th coX12 rfl w_1304 rfl dX12_placesOf_34 ?_
            refine W.eq (g2 := F0 m 37 ls [va_rf (gR S th 0), .int v_11]) rfl ?_
            obtain ⟨a_14, ha_14, hp⟩ := hp
            refine sx_nonnull (x := a_14) ha_14 ?_
            refine lv_iconst (pc := 37) (v := 0) hx hb dX12_placesOf_37 (by decide) ?_
            obtain ⟨hk_15, hp⟩ := hp
            obtain ⟨hn_16, hp⟩ := hp
            refine sx_iald (pc := 38) B hH hk_15 hn_16 dX12_placesOf_38 ?_
            refine W.eq (g2 := F0 m 39 ls [.int (gI S a_14 0), .int v_11]) rfl ?_
            refine lv_icmp_le (pc := 39) (tgt := 44) hx hb dX12_placesOf_39 (by decide) (fun cc_17 => ?_) (fun cc_17 => ?_)
            · have hp := hp.1 cc_17
              refine lv_iload_n (pc := 44) hx hb dX12_placesOf_44 rfl (lv_at hl 2 rfl) ?_
              refine lv_iconst (pc := 45) (v := 1) hx hb dX12_placesOf_45 (by decide) ?_
              refine lv_iload (pc := 46) hx hb dX12_placesOf_46 (lv_at hl 0 rfl) ?_
              refine lv_iconst (pc := 48) (v := 1) hx hb dX12_placesOf_48 (by decide) ?_
              refine lv_isub (pc := 49) hx hb dX12_placesOf_49 ?_
              refine lv_ishl (pc := 50) hx hb dX12_placesOf_50 ?_
              refine W.eq (g2 := F0 m 51 ls [.int (shl 1 (v_11 - 1)), .int x2_2]) rfl ?_
              refine lv_ior (pc := 51) hx hb dX12_placesOf_51 ?_
              refine lv_topi (fun v_18 ev_18 => ?_)
              have hp := hp v_18 ev_18
              refine lv_istore_n (pc := 52) (lv' := [(2, .int v_18), (5, .int v_11), (0, .ref th), (3, .int x3_3), (4, .int x4_4)]) hx hb dX12_placesOf_52 rfl hl (by decide) rfl (fun ls hl => ?_)
              refine lv_iload (pc := 53) hx hb dX12_placesOf_53 (lv_at hl 1 rfl) ?_
              refine lv_istore_n (pc := 55) (lv' := [(3, .int v_11), (2, .int v_18), (5, .int v_11), (0, .ref th), (4, .int x4_4)]) hx hb dX12_placesOf_55 rfl hl (by decide) rfl (fun ls hl => ?_)
              refine lv_iload (pc := 56) hx hb dX12_placesOf_56 (lv_at hl 4 rfl) ?_
              refine lv_bipush (pc := 58) (v := 10) hx hb dX12_placesOf_58 (by decide) ?_
              refine lv_idiv (pc := 60) hx hb dX12_placesOf_60 (by decide) ?_
              refine lv_topi (fun v_19 ev_19 => ?_)
              have hp := hp v_19 ev_19
              refine lv_istore (pc := 61) (lv' := [(4, .int v_19), (3, .int v_11), (2, .int v_18), (5, .int v_11), (0, .ref th)]) hx hb dX12_placesOf_61 hl (by decide) rfl (fun ls hl => ?_)
              refine lv_goto (pc := 63) (tgt := 8) hx hb dX12_placesOf_63 (by decide) ?_
              obtain ⟨k9, hlt9, hp⟩ := hp
              exact ih_1 k9 hlt9 _ _ _ _ _ _ hp hH (lv_sub hl [4, 2, 1, 0] rfl)
            · have hp := hp.2 cc_17
              refine lv_iconst (pc := 42) (v := (-1)) hx hb dX12_placesOf_42 (by decide) ?_
              exact sx_iret (pc := 43) B hH hr hlk (by rw [← hQQ]; exact ⟨_, rfl, rfl, hp⟩) (Nat.le_of_ble_eq_true rfl) (Nat.le_of_ble_eq_true rfl) dX12_placesOf_43
  exact kl_1 k0_1 _ _ _ _ _ _ h0_1 hH (lv_sub hl [3, 2, 1, 0] rfl)
theorem dX12_done_0 : decode cX12_done 0 = .ok (.aload_n 0, 1) := by decide +kernel
theorem dX12_done_1 : decode cX12_done 1 = .ok (.iload_n 1, 1) := by decide +kernel
theorem dX12_done_2 : decode cX12_done 2 = .ok (.invokevirtual 277, 3) := by decide +kernel
theorem dX12_done_5 : decode cX12_done 5 = .ok (.ifCond .ne 9, 3) := by decide +kernel
theorem dX12_done_8 : decode cX12_done 8 = .ok (.aload_n 0, 1) := by decide +kernel
theorem dX12_done_9 : decode cX12_done 9 = .ok (.iconst 1, 1) := by decide +kernel
theorem dX12_done_10 : decode cX12_done 10 = .ok (.invokevirtual 105, 3) := by decide +kernel
theorem dX12_done_13 : decode cX12_done 13 = .ok (.ireturn, 1) := by decide +kernel
theorem dX12_done_14 : decode cX12_done 14 = .ok (.iload_n 2, 1) := by decide +kernel
theorem dX12_done_15 : decode cX12_done 15 = .ok (.ifCond .ge 7, 3) := by decide +kernel
theorem dX12_done_18 : decode cX12_done 18 = .ok (.iconst (-1), 1) := by decide +kernel
theorem dX12_done_19 : decode cX12_done 19 = .ok (.goto 8, 3) := by decide +kernel
theorem dX12_done_22 : decode cX12_done 22 = .ok (.aload_n 0, 1) := by decide +kernel
theorem dX12_done_23 : decode cX12_done 23 = .ok (.iload_n 2, 1) := by decide +kernel
theorem dX12_done_24 : decode cX12_done 24 = .ok (.invokevirtual 299, 3) := by decide +kernel
theorem dX12_done_27 : decode cX12_done 27 = .ok (.istore_n 3, 1) := by decide +kernel
theorem dX12_done_28 : decode cX12_done 28 = .ok (.iload_n 3, 1) := by decide +kernel
theorem dX12_done_29 : decode cX12_done 29 = .ok (.iconst (-1), 1) := by decide +kernel
theorem dX12_done_30 : decode cX12_done 30 = .ok (.if_icmp .ne 10, 3) := by decide +kernel
theorem dX12_done_33 : decode cX12_done 33 = .ok (.aload_n 0, 1) := by decide +kernel
theorem dX12_done_34 : decode cX12_done 34 = .ok (.bipush 7, 2) := by decide +kernel
theorem dX12_done_36 : decode cX12_done 36 = .ok (.invokevirtual 105, 3) := by decide +kernel
theorem dX12_done_39 : decode cX12_done 39 = .ok (.ireturn, 1) := by decide +kernel
theorem dX12_done_40 : decode cX12_done 40 = .ok (.aload_n 0, 1) := by decide +kernel
theorem dX12_done_41 : decode cX12_done 41 = .ok (.iload_n 1, 1) := by decide +kernel
theorem dX12_done_42 : decode cX12_done 42 = .ok (.aload_n 0, 1) := by decide +kernel
theorem dX12_done_43 : decode cX12_done 43 = .ok (.getfield 47, 3) := by decide +kernel
theorem dX12_done_46 : decode cX12_done 46 = .ok (.invokevirtual 266, 3) := by decide +kernel
theorem dX12_done_49 : decode cX12_done 49 = .ok (.aload_n 0, 1) := by decide +kernel
theorem dX12_done_50 : decode cX12_done 50 = .ok (.iload_n 3, 1) := by decide +kernel
theorem dX12_done_51 : decode cX12_done 51 = .ok (.iconst 0, 1) := by decide +kernel
theorem dX12_done_52 : decode cX12_done 52 = .ok (.invokevirtual 302, 3) := by decide +kernel
theorem dX12_done_55 : decode cX12_done 55 = .ok (.aload_n 0, 1) := by decide +kernel
theorem dX12_done_56 : decode cX12_done 56 = .ok (.aload_n 0, 1) := by decide +kernel
theorem dX12_done_57 : decode cX12_done 57 = .ok (.aload_n 0, 1) := by decide +kernel
theorem dX12_done_58 : decode cX12_done 58 = .ok (.getfield 47, 3) := by decide +kernel
theorem dX12_done_61 : decode cX12_done 61 = .ok (.invokevirtual 270, 3) := by decide +kernel
theorem dX12_done_64 : decode cX12_done 64 = .ok (.invokevirtual 109, 3) := by decide +kernel
theorem dX12_done_67 : decode cX12_done 67 = .ok (.ireturn, 1) := by decide +kernel
theorem mi_X12_done : MI yX12_done cX12_done 4 (some FieldType.int) 2 := ⟨w_1705, w_118, by decide +kernel, by decide +kernel, by decide +kernel⟩
set_option maxRecDepth 100000 in
set_option maxHeartbeats 4000000 in
theorem C_X12_done (G : GG) (l : Launch) (th : Nat) (p0 : Int32) (p1 : Int32) (S : St) (Q : Int32 → (Nat → Nat → Int32) → Prop) (hp : P_X12_done th p0 p1 S Q) : Ctr G l yX12_done cX12_done 4 (some FieldType.int) 2 51 0 0 [.ref th, .int p0, .int p1] S (fun (v : Option Value) (S9 : St) => ∃ (r : Int32) (I9 : Nat → Nat → Int32), v = some (.int r) ∧ S9 = wI S I9 ∧ Q r I9) := by
  generalize hQQ : (fun (v : Option Value) (S9 : St) => ∃ (r : Int32) (I9 : Nat → Nat → Int32), v = some (.int r) ∧ S9 = wI S I9 ∧ Q r I9) = QQ
  unfold P_X12_done at hp
  refine Ctr.of (by decide) (Nat.le_of_ble_eq_true rfl) ?_
  intro p e s m args below meth c ls B hr hlk hin hl hH
  generalize hlocs0 : ([] : List Loc) = locs at hH ⊢
  have hx := B.1
  have hb := B.2.1
  have hl : lv_has ls 4 [(0, .ref th), (1, .int p0), (2, .int p1)] := hl
  obtain ⟨hk_th, hp⟩ := hp
  refine lv_aload_n (pc := 0) hx hb dX12_done_0 rfl (lv_at hl 0 rfl) ?_
  refine lv_iload_n (pc := 1) hx hb dX12_done_1 rfl (lv_at hl 1 rfl) ?_
  refine sx_V (pc := 2) (As := [.int p0]) (rest := []) B hH hl.1 (C_X12_isRow G l th p0 _ _ hp) mi_X12_isRow coX12 hk_th w_1649 w_74 w_1647 rfl rfl ⟨Nat.le_of_ble_eq_true rfl, Nat.le_of_ble_eq_true rfl⟩ (Nat.le_of_ble_eq_true rfl) ⟨Nat.le_of_ble_eq_true rfl, Nat.le_of_ble_eq_true rfl⟩ dX12_done_2 (fun v S1 H locs hq hH => ?_)
  obtain ⟨r_1, rfl, e9, hp⟩ := hq
  rw [e9] at hH
  refine W.eq (g2 := F0 m 5 ls [.int r_1]) rfl ?_
  refine lv_if_ne (pc := 5) (tgt := 14) hx hb dX12_done_5 (by decide) (fun cc_2 => ?_) (fun cc_2 => ?_)
  · have hp := hp.1 cc_2
    refine lv_iload_n (pc := 14) hx hb dX12_done_14 rfl (lv_at hl 2 rfl) ?_
    obtain ⟨J_4, hj_4, hp⟩ := hp
    have kj_4 : ∀ (t_5 : Int32) (H : Heap) (locs : List Loc) (ls : Array Slot), J_4 t_5 → Hp G (FA S s.heap.size) s.heap S H locs → lv_has ls 4 [(0, .ref th), (1, .int p0)] → Wm G p l e { frames := 2, cells := 0, slots := 0, locals := 51 } s m args below meth c S QQ 0 0 H locs 0 0 (F0 m 27 ls [.int t_5]) := by
      intro t_5 H locs ls hq9 hH hl
      have hp := hj_4 t_5 hq9
      refine lv_istore_n (pc := 27) (lv' := [(3, .int t_5), (0, .ref th), (1, .int p0)]) hx hb dX12_done_27 rfl hl (by decide) rfl (fun ls hl => ?_)
      refine lv_iload_n (pc := 28) hx hb dX12_done_28 rfl (lv_at hl 0 rfl) ?_
      refine lv_iconst (pc := 29) (v := (-1)) hx hb dX12_done_29 (by decide) ?_
      refine lv_icmp_ne (pc := 30) (tgt := 40) hx hb dX12_done_30 (by decide) (fun cc_6 => ?_) (fun cc_6 => ?_)
      · have hp := hp.1 cc_6
        refine lv_aload_n (pc := 40) hx hb dX12_done_40 rfl (lv_at hl 1 rfl) ?_
        refine lv_iload_n (pc := 41) hx hb dX12_done_41 rfl (lv_at hl 2 rfl) ?_
        refine lv_aload_n (pc := 42) hx hb dX12_done_42 rfl (lv_at hl 1 rfl) ?_
        refine sx_getR (pc := 43) (j := 23) B hH hk_th coX12 rfl w_1327 rfl dX12_done_43 ?_
        refine W.eq (g2 := F0 m 46 ls [va_rf (gR S th 23), .int p0, .ref th]) rfl ?_
        obtain ⟨a_7, ha_7, hp⟩ := hp
        refine sx_nonnull (x := a_7) ha_7 ?_
        refine sx_V (pc := 46) (As := [.int p0, .ref a_7]) (rest := []) B hH hl.1 (C_X12_laysRow G l th p0 a_7 _ _ hp) mi_X12_laysRow coX12 hk_th w_1657 w_76 w_1655 rfl rfl ⟨Nat.le_of_ble_eq_true rfl, Nat.le_of_ble_eq_true rfl⟩ (Nat.le_of_ble_eq_true rfl) ⟨Nat.le_of_ble_eq_true rfl, Nat.le_of_ble_eq_true rfl⟩ dX12_done_46 (fun v S1 H locs hq hH => ?_)
        obtain ⟨F_8, rfl, e9, hp⟩ := hq
        rw [e9] at hH
        have hH : Hp G (FA S s.heap.size) s.heap (wI S F_8) H locs := hH
        refine W.eq (g2 := F0 m 49 ls []) rfl ?_
        refine lv_aload_n (pc := 49) hx hb dX12_done_49 rfl (lv_at hl 1 rfl) ?_
        refine lv_iload_n (pc := 50) hx hb dX12_done_50 rfl (lv_at hl 0 rfl) ?_
        refine lv_iconst (pc := 51) (v := 0) hx hb dX12_done_51 (by decide) ?_
        refine sx_V (pc := 52) (As := [.int t_5, .int 0]) (rest := []) B hH hl.1 (C_X12_changes0 G l th t_5 0 _ _ hp) mi_X12_changes0 coX12 hk_th w_1712 w_83 w_1710 rfl rfl ⟨Nat.le_of_ble_eq_true rfl, Nat.le_of_ble_eq_true rfl⟩ (Nat.le_of_ble_eq_true rfl) ⟨Nat.le_of_ble_eq_true rfl, Nat.le_of_ble_eq_true rfl⟩ dX12_done_52 (fun v S1 H locs hq hH => ?_)
        obtain ⟨F_9, rfl, e9, hp⟩ := hq
        rw [e9] at hH
        have hH : Hp G (FA S s.heap.size) s.heap (wI S F_9) H locs := hH
        refine W.eq (g2 := F0 m 55 ls []) rfl ?_
        refine lv_aload_n (pc := 55) hx hb dX12_done_55 rfl (lv_at hl 1 rfl) ?_
        refine lv_aload_n (pc := 56) hx hb dX12_done_56 rfl (lv_at hl 1 rfl) ?_
        refine lv_aload_n (pc := 57) hx hb dX12_done_57 rfl (lv_at hl 1 rfl) ?_
        refine sx_getR (pc := 58) (j := 23) B hH hk_th coX12 rfl w_1327 rfl dX12_done_58 ?_
        refine W.eq (g2 := F0 m 61 ls [va_rf (gR S th 23), .ref th, .ref th]) rfl ?_
        refine sx_nonnull (x := a_7) ha_7 ?_
        refine sx_V (pc := 61) (As := [.ref a_7]) (rest := [.ref th]) B hH hl.1 (C_X12_numberOf G l th a_7 _ _ hp) mi_X12_numberOf coX12 hk_th w_1668 w_77 w_1666 rfl rfl ⟨Nat.le_of_ble_eq_true rfl, Nat.le_of_ble_eq_true rfl⟩ (Nat.le_of_ble_eq_true rfl) ⟨Nat.le_of_ble_eq_true rfl, Nat.le_of_ble_eq_true rfl⟩ dX12_done_61 (fun v S1 H locs hq hH => ?_)
        obtain ⟨r_10, rfl, e9, hp⟩ := hq
        rw [e9] at hH
        refine W.eq (g2 := F0 m 64 ls [.int r_10, .ref th]) rfl ?_
        refine sx_V (pc := 64) (As := [.int r_10]) (rest := []) B hH hl.1 (C_X12_gives G l th r_10 _ _ hp) mi_X12_gives coX12 hk_th w_1617 w_69 w_1615 rfl rfl ⟨Nat.le_of_ble_eq_true rfl, Nat.le_of_ble_eq_true rfl⟩ (Nat.le_of_ble_eq_true rfl) ⟨Nat.le_of_ble_eq_true rfl, Nat.le_of_ble_eq_true rfl⟩ dX12_done_64 (fun v S1 H locs hq hH => ?_)
        obtain ⟨r_11, F_11, rfl, e9, hp⟩ := hq
        rw [e9] at hH
        have hH : Hp G (FA S s.heap.size) s.heap (wI S F_11) H locs := hH
        refine W.eq (g2 := F0 m 67 ls [.int r_11]) rfl ?_
        exact sx_iret (pc := 67) B hH hr hlk (by rw [← hQQ]; exact ⟨_, F_11, rfl, rfl, hp⟩) (Nat.le_of_ble_eq_true rfl) (Nat.le_of_ble_eq_true rfl) dX12_done_67
      · have hp := hp.2 cc_6
        refine lv_aload_n (pc := 33) hx hb dX12_done_33 rfl (lv_at hl 1 rfl) ?_
        refine lv_bipush (pc := 34) (v := 7) hx hb dX12_done_34 (by decide) ?_
        refine sx_V (pc := 36) (As := [.int 7]) (rest := []) B hH hl.1 (C_X12_refuse G l th 7 _ _ hp) mi_X12_refuse coX12 hk_th w_1539 w_51 w_1537 rfl rfl ⟨Nat.le_of_ble_eq_true rfl, Nat.le_of_ble_eq_true rfl⟩ (Nat.le_of_ble_eq_true rfl) ⟨Nat.le_of_ble_eq_true rfl, Nat.le_of_ble_eq_true rfl⟩ dX12_done_36 (fun v S1 H locs hq hH => ?_)
        obtain ⟨r_12, F_12, rfl, e9, hp⟩ := hq
        rw [e9] at hH
        have hH : Hp G (FA S s.heap.size) s.heap (wI S F_12) H locs := hH
        refine W.eq (g2 := F0 m 39 ls [.int r_12]) rfl ?_
        exact sx_iret (pc := 39) B hH hr hlk (by rw [← hQQ]; exact ⟨_, F_12, rfl, rfl, hp⟩) (Nat.le_of_ble_eq_true rfl) (Nat.le_of_ble_eq_true rfl) dX12_done_39
    refine lv_if_ge (pc := 15) (tgt := 22) hx hb dX12_done_15 (by decide) (fun cc_3 => ?_) (fun cc_3 => ?_)
    · have hp := hp.1 cc_3
      refine lv_aload_n (pc := 22) hx hb dX12_done_22 rfl (lv_at hl 0 rfl) ?_
      refine lv_iload_n (pc := 23) hx hb dX12_done_23 rfl (lv_at hl 2 rfl) ?_
      refine sx_V (pc := 24) (As := [.int p1]) (rest := []) B hH hl.1 (C_X12_placesOf G l th p1 _ _ hp) mi_X12_placesOf coX12 hk_th w_1708 w_82 w_1706 rfl rfl ⟨Nat.le_of_ble_eq_true rfl, Nat.le_of_ble_eq_true rfl⟩ (Nat.le_of_ble_eq_true rfl) ⟨Nat.le_of_ble_eq_true rfl, Nat.le_of_ble_eq_true rfl⟩ dX12_done_24 (fun v S1 H locs hq hH => ?_)
      obtain ⟨r_13, rfl, e9, hp⟩ := hq
      rw [e9] at hH
      refine W.eq (g2 := F0 m 27 ls [.int r_13]) rfl ?_
      exact kj_4 _ _ _ _ hp hH (lv_sub hl [0, 1] rfl)
    · have hp := hp.2 cc_3
      refine lv_iconst (pc := 18) (v := (-1)) hx hb dX12_done_18 (by decide) ?_
      refine lv_goto (pc := 19) (tgt := 27) hx hb dX12_done_19 (by decide) ?_
      exact kj_4 _ _ _ _ hp hH (lv_sub hl [0, 1] rfl)
  · have hp := hp.2 cc_2
    refine lv_aload_n (pc := 8) hx hb dX12_done_8 rfl (lv_at hl 0 rfl) ?_
    refine lv_iconst (pc := 9) (v := 1) hx hb dX12_done_9 (by decide) ?_
    refine sx_V (pc := 10) (As := [.int 1]) (rest := []) B hH hl.1 (C_X12_refuse G l th 1 _ _ hp) mi_X12_refuse coX12 hk_th w_1539 w_51 w_1537 rfl rfl ⟨Nat.le_of_ble_eq_true rfl, Nat.le_of_ble_eq_true rfl⟩ (Nat.le_of_ble_eq_true rfl) ⟨Nat.le_of_ble_eq_true rfl, Nat.le_of_ble_eq_true rfl⟩ dX12_done_10 (fun v S1 H locs hq hH => ?_)
    obtain ⟨r_14, F_14, rfl, e9, hp⟩ := hq
    rw [e9] at hH
    have hH : Hp G (FA S s.heap.size) s.heap (wI S F_14) H locs := hH
    refine W.eq (g2 := F0 m 13 ls [.int r_14]) rfl ?_
    exact sx_iret (pc := 13) B hH hr hlk (by rw [← hQQ]; exact ⟨_, F_14, rfl, rfl, hp⟩) (Nat.le_of_ble_eq_true rfl) (Nat.le_of_ble_eq_true rfl) dX12_done_13
theorem dX12_power_0 : decode cX12_power 0 = .ok (.aload_n 0, 1) := by decide +kernel
theorem dX12_power_1 : decode cX12_power 1 = .ok (.iload_n 1, 1) := by decide +kernel
theorem dX12_power_2 : decode cX12_power 2 = .ok (.invokevirtual 277, 3) := by decide +kernel
theorem dX12_power_5 : decode cX12_power 5 = .ok (.ifCond .eq 15, 3) := by decide +kernel
theorem dX12_power_8 : decode cX12_power 8 = .ok (.iload_n 2, 1) := by decide +kernel
theorem dX12_power_9 : decode cX12_power 9 = .ok (.i2l, 1) := by decide +kernel
theorem dX12_power_10 : decode cX12_power 10 = .ok (.lconst 0, 1) := by decide +kernel
theorem dX12_power_11 : decode cX12_power 11 = .ok (.ldc2_w 306, 3) := by decide +kernel
theorem dX12_power_14 : decode cX12_power 14 = .ok (.invokestatic 283, 3) := by decide +kernel
theorem dX12_power_17 : decode cX12_power 17 = .ok (.ifCond .ne 9, 3) := by decide +kernel
theorem dX12_power_20 : decode cX12_power 20 = .ok (.aload_n 0, 1) := by decide +kernel
theorem dX12_power_21 : decode cX12_power 21 = .ok (.iconst 1, 1) := by decide +kernel
theorem dX12_power_22 : decode cX12_power 22 = .ok (.invokevirtual 105, 3) := by decide +kernel
theorem dX12_power_25 : decode cX12_power 25 = .ok (.ireturn, 1) := by decide +kernel
theorem dX12_power_26 : decode cX12_power 26 = .ok (.iconst 0, 1) := by decide +kernel
theorem dX12_power_27 : decode cX12_power 27 = .ok (.istore_n 3, 1) := by decide +kernel
theorem dX12_power_28 : decode cX12_power 28 = .ok (.iconst 0, 1) := by decide +kernel
theorem dX12_power_29 : decode cX12_power 29 = .ok (.istore 4, 2) := by decide +kernel
theorem dX12_power_31 : decode cX12_power 31 = .ok (.iload 4, 2) := by decide +kernel
theorem dX12_power_33 : decode cX12_power 33 = .ok (.iload_n 2, 1) := by decide +kernel
theorem dX12_power_34 : decode cX12_power 34 = .ok (.if_icmp .ge 16, 3) := by decide +kernel
theorem dX12_power_37 : decode cX12_power 37 = .ok (.aload_n 0, 1) := by decide +kernel
theorem dX12_power_38 : decode cX12_power 38 = .ok (.iload_n 3, 1) := by decide +kernel
theorem dX12_power_39 : decode cX12_power 39 = .ok (.iload_n 1, 1) := by decide +kernel
theorem dX12_power_40 : decode cX12_power 40 = .ok (.invokevirtual 287, 3) := by decide +kernel
theorem dX12_power_43 : decode cX12_power 43 = .ok (.istore_n 3, 1) := by decide +kernel
theorem dX12_power_44 : decode cX12_power 44 = .ok (.iinc 4 1, 3) := by decide +kernel
theorem dX12_power_47 : decode cX12_power 47 = .ok (.goto (-16), 3) := by decide +kernel
theorem dX12_power_50 : decode cX12_power 50 = .ok (.aload_n 0, 1) := by decide +kernel
theorem dX12_power_51 : decode cX12_power 51 = .ok (.iload_n 3, 1) := by decide +kernel
theorem dX12_power_52 : decode cX12_power 52 = .ok (.invokevirtual 109, 3) := by decide +kernel
theorem dX12_power_55 : decode cX12_power 55 = .ok (.ireturn, 1) := by decide +kernel
theorem mi_X12_power : MI yX12_power cX12_power 5 (some FieldType.int) 2 := ⟨w_1717, w_118, by decide +kernel, by decide +kernel, by decide +kernel⟩
set_option maxRecDepth 100000 in
set_option maxHeartbeats 4000000 in
theorem C_X12_power (G : GG) (l : Launch) (th : Nat) (p0 : Int32) (p1 : Int32) (S : St) (Q : Int32 → (Nat → Nat → Int32) → Prop) (hp : P_X12_power th p0 p1 S Q) : Ctr G l yX12_power cX12_power 5 (some FieldType.int) 3 74 0 0 [.ref th, .int p0, .int p1] S (fun (v : Option Value) (S9 : St) => ∃ (r : Int32) (I9 : Nat → Nat → Int32), v = some (.int r) ∧ S9 = wI S I9 ∧ Q r I9) := by
  generalize hQQ : (fun (v : Option Value) (S9 : St) => ∃ (r : Int32) (I9 : Nat → Nat → Int32), v = some (.int r) ∧ S9 = wI S I9 ∧ Q r I9) = QQ
  unfold P_X12_power at hp
  refine Ctr.of (by decide) (Nat.le_of_ble_eq_true rfl) ?_
  intro p e s m args below meth c ls B hr hlk hin hl hH
  generalize hlocs0 : ([] : List Loc) = locs at hH ⊢
  have hx := B.1
  have hb := B.2.1
  have hl : lv_has ls 5 [(0, .ref th), (1, .int p0), (2, .int p1)] := hl
  obtain ⟨hk_th, hp⟩ := hp
  refine lv_aload_n (pc := 0) hx hb dX12_power_0 rfl (lv_at hl 0 rfl) ?_
  refine lv_iload_n (pc := 1) hx hb dX12_power_1 rfl (lv_at hl 1 rfl) ?_
  refine sx_V (pc := 2) (As := [.int p0]) (rest := []) B hH hl.1 (C_X12_isRow G l th p0 _ _ hp) mi_X12_isRow coX12 hk_th w_1649 w_74 w_1647 rfl rfl ⟨Nat.le_of_ble_eq_true rfl, Nat.le_of_ble_eq_true rfl⟩ (Nat.le_of_ble_eq_true rfl) ⟨Nat.le_of_ble_eq_true rfl, Nat.le_of_ble_eq_true rfl⟩ dX12_power_2 (fun v S1 H locs hq hH => ?_)
  obtain ⟨r_1, rfl, e9, hp⟩ := hq
  rw [e9] at hH
  refine W.eq (g2 := F0 m 5 ls [.int r_1]) rfl ?_
  obtain ⟨J_3, hj_3, hp⟩ := hp
  have kj_3 : ∀  (H : Heap) (locs : List Loc) (ls : Array Slot), J_3  → Hp G (FA S s.heap.size) s.heap S H locs → lv_has ls 5 [(0, .ref th)] → Wm G p l e { frames := 3, cells := 0, slots := 0, locals := 74 } s m args below meth c S QQ 0 0 H locs 0 0 (F0 m 20 ls []) := by
    intro  H locs ls hq9 hH hl
    have hp := hj_3  hq9
    refine lv_aload_n (pc := 20) hx hb dX12_power_20 rfl (lv_at hl 0 rfl) ?_
    refine lv_iconst (pc := 21) (v := 1) hx hb dX12_power_21 (by decide) ?_
    refine sx_V (pc := 22) (As := [.int 1]) (rest := []) B hH hl.1 (C_X12_refuse G l th 1 _ _ hp) mi_X12_refuse coX12 hk_th w_1539 w_51 w_1537 rfl rfl ⟨Nat.le_of_ble_eq_true rfl, Nat.le_of_ble_eq_true rfl⟩ (Nat.le_of_ble_eq_true rfl) ⟨Nat.le_of_ble_eq_true rfl, Nat.le_of_ble_eq_true rfl⟩ dX12_power_22 (fun v S1 H locs hq hH => ?_)
    obtain ⟨r_4, F_4, rfl, e9, hp⟩ := hq
    rw [e9] at hH
    have hH : Hp G (FA S s.heap.size) s.heap (wI S F_4) H locs := hH
    refine W.eq (g2 := F0 m 25 ls [.int r_4]) rfl ?_
    exact sx_iret (pc := 25) B hH hr hlk (by rw [← hQQ]; exact ⟨_, F_4, rfl, rfl, hp⟩) (Nat.le_of_ble_eq_true rfl) (Nat.le_of_ble_eq_true rfl) dX12_power_25
  refine lv_if_eq (pc := 5) (tgt := 20) hx hb dX12_power_5 (by decide) (fun cc_2 => ?_) (fun cc_2 => ?_)
  · have hp := hp.1 cc_2
    exact kj_3  _ _ _ hp hH (lv_sub hl [0] rfl)
  · have hp := hp.2 cc_2
    refine lv_iload_n (pc := 8) hx hb dX12_power_8 rfl (lv_at hl 2 rfl) ?_
    refine lv_i2l (pc := 9) (v := p1.toInt64) hx hb dX12_power_9 rfl ?_
    refine lv_lconst (pc := 10) (v := 0) hx hb dX12_power_10 (by decide) ?_
    refine sx_ldc2 (pc := 11) (v := 99) B w_1718 dX12_power_11 ?_
    refine sx_S (pc := 14) (As := [.long p1.toInt64, .long 0, .long 99]) (rest := []) B hH hl.1 (C_X12_isFrom G l p1.toInt64 0 99 _ _ hp) mi_X12_isFrom w_1664 w_1663 rfl rfl ⟨Nat.le_of_ble_eq_true rfl, Nat.le_of_ble_eq_true rfl⟩ (Nat.le_of_ble_eq_true rfl) ⟨Nat.le_of_ble_eq_true rfl, Nat.le_of_ble_eq_true rfl⟩ dX12_power_14 (fun v S1 H locs hq hH => ?_)
    obtain ⟨r_5, rfl, e9, hp⟩ := hq
    rw [e9] at hH
    refine W.eq (g2 := F0 m 17 ls [.int r_5]) rfl ?_
    refine lv_if_ne (pc := 17) (tgt := 26) hx hb dX12_power_17 (by decide) (fun cc_6 => ?_) (fun cc_6 => ?_)
    · have hp := hp.1 cc_6
      refine lv_iconst (pc := 26) (v := 0) hx hb dX12_power_26 (by decide) ?_
      refine lv_istore_n (pc := 27) (lv' := [(3, .int 0), (0, .ref th), (1, .int p0), (2, .int p1)]) hx hb dX12_power_27 rfl hl (by decide) rfl (fun ls hl => ?_)
      refine lv_iconst (pc := 28) (v := 0) hx hb dX12_power_28 (by decide) ?_
      refine lv_istore (pc := 29) (lv' := [(4, .int 0), (3, .int 0), (0, .ref th), (1, .int p0), (2, .int p1)]) hx hb dX12_power_29 hl (by decide) rfl (fun ls hl => ?_)
      obtain ⟨I_7, ⟨k0_7, h0_7⟩, hst_7⟩ := hp
      have kl_7 : ∀ (n_7 : Nat) (x3_8 : Int32) (x4_9 : Int32) (F_10 : Nat → Nat → Int32) (H : Heap) (locs : List Loc) (ls : Array Slot), I_7 n_7 x3_8 x4_9 F_10 → Hp G (FA S s.heap.size) s.heap (wI S F_10) H locs → lv_has ls 5 [(0, .ref th), (1, .int p0), (2, .int p1), (3, .int x3_8), (4, .int x4_9)] → Wm G p l e { frames := 3, cells := 0, slots := 0, locals := 74 } s m args below meth c S QQ 0 0 H locs 0 0 (F0 m 31 ls []) := by
        intro n_7
        induction n_7 using Nat.strongRecOn with
        | ind n_7 ih_7 =>
          intro x3_8 x4_9 F_10 H locs ls hq9 hH hl
          have hp := hst_7 n_7 x3_8 x4_9 F_10 hq9
          refine lv_iload (pc := 31) hx hb dX12_power_31 (lv_at hl 4 rfl) ?_
          refine lv_iload_n (pc := 33) hx hb dX12_power_33 rfl (lv_at hl 2 rfl) ?_
          refine lv_icmp_ge (pc := 34) (tgt := 50) hx hb dX12_power_34 (by decide) (fun cc_11 => ?_) (fun cc_11 => ?_)
          · have hp := hp.1 cc_11
            refine lv_aload_n (pc := 50) hx hb dX12_power_50 rfl (lv_at hl 0 rfl) ?_
            refine lv_iload_n (pc := 51) hx hb dX12_power_51 rfl (lv_at hl 3 rfl) ?_
            refine sx_V (pc := 52) (As := [.int x3_8]) (rest := []) B hH hl.1 (C_X12_gives G l th x3_8 _ _ hp) mi_X12_gives coX12 hk_th w_1617 w_69 w_1615 rfl rfl ⟨Nat.le_of_ble_eq_true rfl, Nat.le_of_ble_eq_true rfl⟩ (Nat.le_of_ble_eq_true rfl) ⟨Nat.le_of_ble_eq_true rfl, Nat.le_of_ble_eq_true rfl⟩ dX12_power_52 (fun v S1 H locs hq hH => ?_)
            obtain ⟨r_12, F_12, rfl, e9, hp⟩ := hq
            rw [e9] at hH
            have hH : Hp G (FA S s.heap.size) s.heap (wI S F_12) H locs := hH
            refine W.eq (g2 := F0 m 55 ls [.int r_12]) rfl ?_
            exact sx_iret (pc := 55) B hH hr hlk (by rw [← hQQ]; exact ⟨_, F_12, rfl, rfl, hp⟩) (Nat.le_of_ble_eq_true rfl) (Nat.le_of_ble_eq_true rfl) dX12_power_55
          · have hp := hp.2 cc_11
            refine lv_aload_n (pc := 37) hx hb dX12_power_37 rfl (lv_at hl 0 rfl) ?_
            refine lv_iload_n (pc := 38) hx hb dX12_power_38 rfl (lv_at hl 3 rfl) ?_
            refine lv_iload_n (pc := 39) hx hb dX12_power_39 rfl (lv_at hl 1 rfl) ?_
            refine sx_V (pc := 40) (As := [.int x3_8, .int p0]) (rest := []) B hH hl.1 (C_X12_productOf G l th x3_8 p0 _ _ hp) mi_X12_productOf coX12 hk_th w_1676 w_78 w_1674 rfl rfl ⟨Nat.le_of_ble_eq_true rfl, Nat.le_of_ble_eq_true rfl⟩ (Nat.le_of_ble_eq_true rfl) ⟨Nat.le_of_ble_eq_true rfl, Nat.le_of_ble_eq_true rfl⟩ dX12_power_40 (fun v S1 H locs hq hH => ?_)
            obtain ⟨r_13, F_13, rfl, e9, hp⟩ := hq
            rw [e9] at hH
            have hH : Hp G (FA S s.heap.size) s.heap (wI S F_13) H locs := hH
            refine W.eq (g2 := F0 m 43 ls [.int r_13]) rfl ?_
            refine lv_istore_n (pc := 43) (lv' := [(3, .int r_13), (0, .ref th), (1, .int p0), (2, .int p1), (4, .int x4_9)]) hx hb dX12_power_43 rfl hl (by decide) rfl (fun ls hl => ?_)
            obtain ⟨v_14, ev_14⟩ : ∃ y : Int32, y = x4_9 + 1 := ⟨_, rfl⟩
            have hp := hp v_14 ev_14
            refine lv_iinc (pc := 44) (v := v_14) (lv' := [(4, .int v_14), (3, .int r_13), (0, .ref th), (1, .int p0), (2, .int p1)]) hx hb dX12_power_44 hl (k := 4) rfl (by rw [ev_14]; rfl) (by decide) rfl (fun ls hl => ?_)
            refine lv_goto (pc := 47) (tgt := 31) hx hb dX12_power_47 (by decide) ?_
            obtain ⟨k9, hlt9, hp⟩ := hp
            exact ih_7 k9 hlt9 _ _ _ _ _ _ hp hH (lv_sub hl [2, 3, 4, 1, 0] rfl)
      exact kl_7 k0_7 _ _ _ _ _ _ h0_7 hH (lv_sub hl [2, 3, 4, 1, 0] rfl)
    · have hp := hp.2 cc_6
      exact kj_3  _ _ _ hp hH (lv_sub hl [0] rfl)
theorem dX12_cycles_0 : decode cX12_cycles 0 = .ok (.aload_n 0, 1) := by decide +kernel
theorem dX12_cycles_1 : decode cX12_cycles 1 = .ok (.iload_n 1, 1) := by decide +kernel
theorem dX12_cycles_2 : decode cX12_cycles 2 = .ok (.invokevirtual 277, 3) := by decide +kernel
theorem dX12_cycles_5 : decode cX12_cycles 5 = .ok (.ifCond .eq 11, 3) := by decide +kernel
theorem dX12_cycles_8 : decode cX12_cycles 8 = .ok (.aload_n 0, 1) := by decide +kernel
theorem dX12_cycles_9 : decode cX12_cycles 9 = .ok (.iload_n 2, 1) := by decide +kernel
theorem dX12_cycles_10 : decode cX12_cycles 10 = .ok (.invokevirtual 280, 3) := by decide +kernel
theorem dX12_cycles_13 : decode cX12_cycles 13 = .ok (.ifCond .ne 9, 3) := by decide +kernel
theorem dX12_cycles_16 : decode cX12_cycles 16 = .ok (.aload_n 0, 1) := by decide +kernel
theorem dX12_cycles_17 : decode cX12_cycles 17 = .ok (.iconst 1, 1) := by decide +kernel
theorem dX12_cycles_18 : decode cX12_cycles 18 = .ok (.invokevirtual 105, 3) := by decide +kernel
theorem dX12_cycles_21 : decode cX12_cycles 21 = .ok (.ireturn, 1) := by decide +kernel
theorem dX12_cycles_22 : decode cX12_cycles 22 = .ok (.aload_n 0, 1) := by decide +kernel
theorem dX12_cycles_23 : decode cX12_cycles 23 = .ok (.iload_n 1, 1) := by decide +kernel
theorem dX12_cycles_24 : decode cX12_cycles 24 = .ok (.aload_n 0, 1) := by decide +kernel
theorem dX12_cycles_25 : decode cX12_cycles 25 = .ok (.getfield 50, 3) := by decide +kernel
theorem dX12_cycles_28 : decode cX12_cycles 28 = .ok (.invokevirtual 266, 3) := by decide +kernel
theorem dX12_cycles_31 : decode cX12_cycles 31 = .ok (.iconst 0, 1) := by decide +kernel
theorem dX12_cycles_32 : decode cX12_cycles 32 = .ok (.istore_n 3, 1) := by decide +kernel
theorem dX12_cycles_33 : decode cX12_cycles 33 = .ok (.iconst 0, 1) := by decide +kernel
theorem dX12_cycles_34 : decode cX12_cycles 34 = .ok (.istore 4, 2) := by decide +kernel
theorem dX12_cycles_36 : decode cX12_cycles 36 = .ok (.iconst 0, 1) := by decide +kernel
theorem dX12_cycles_37 : decode cX12_cycles 37 = .ok (.istore 5, 2) := by decide +kernel
theorem dX12_cycles_39 : decode cX12_cycles 39 = .ok (.iload 5, 2) := by decide +kernel
theorem dX12_cycles_41 : decode cX12_cycles 41 = .ok (.aload_n 0, 1) := by decide +kernel
theorem dX12_cycles_42 : decode cX12_cycles 42 = .ok (.getfield 7, 3) := by decide +kernel
theorem dX12_cycles_45 : decode cX12_cycles 45 = .ok (.iconst 0, 1) := by decide +kernel
theorem dX12_cycles_46 : decode cX12_cycles 46 = .ok (.iaload, 1) := by decide +kernel
theorem dX12_cycles_47 : decode cX12_cycles 47 = .ok (.if_icmp .ge 64, 3) := by decide +kernel
theorem dX12_cycles_50 : decode cX12_cycles 50 = .ok (.iconst 0, 1) := by decide +kernel
theorem dX12_cycles_51 : decode cX12_cycles 51 = .ok (.istore 6, 2) := by decide +kernel
theorem dX12_cycles_53 : decode cX12_cycles 53 = .ok (.iload 5, 2) := by decide +kernel
theorem dX12_cycles_55 : decode cX12_cycles 55 = .ok (.istore 7, 2) := by decide +kernel
theorem dX12_cycles_57 : decode cX12_cycles 57 = .ok (.iload 4, 2) := by decide +kernel
theorem dX12_cycles_59 : decode cX12_cycles 59 = .ok (.iload 7, 2) := by decide +kernel
theorem dX12_cycles_61 : decode cX12_cycles 61 = .ok (.ishr, 1) := by decide +kernel
theorem dX12_cycles_62 : decode cX12_cycles 62 = .ok (.iconst 1, 1) := by decide +kernel
theorem dX12_cycles_63 : decode cX12_cycles 63 = .ok (.iand, 1) := by decide +kernel
theorem dX12_cycles_64 : decode cX12_cycles 64 = .ok (.ifCond .ne 27, 3) := by decide +kernel
theorem dX12_cycles_67 : decode cX12_cycles 67 = .ok (.iload 4, 2) := by decide +kernel
theorem dX12_cycles_69 : decode cX12_cycles 69 = .ok (.iconst 1, 1) := by decide +kernel
theorem dX12_cycles_70 : decode cX12_cycles 70 = .ok (.iload 7, 2) := by decide +kernel
theorem dX12_cycles_72 : decode cX12_cycles 72 = .ok (.ishl, 1) := by decide +kernel
theorem dX12_cycles_73 : decode cX12_cycles 73 = .ok (.ior, 1) := by decide +kernel
theorem dX12_cycles_74 : decode cX12_cycles 74 = .ok (.istore 4, 2) := by decide +kernel
theorem dX12_cycles_76 : decode cX12_cycles 76 = .ok (.aload_n 0, 1) := by decide +kernel
theorem dX12_cycles_77 : decode cX12_cycles 77 = .ok (.getfield 50, 3) := by decide +kernel
theorem dX12_cycles_80 : decode cX12_cycles 80 = .ok (.iload 7, 2) := by decide +kernel
theorem dX12_cycles_82 : decode cX12_cycles 82 = .ok (.iaload, 1) := by decide +kernel
theorem dX12_cycles_83 : decode cX12_cycles 83 = .ok (.istore 7, 2) := by decide +kernel
theorem dX12_cycles_85 : decode cX12_cycles 85 = .ok (.iinc 6 1, 3) := by decide +kernel
theorem dX12_cycles_88 : decode cX12_cycles 88 = .ok (.goto (-31), 3) := by decide +kernel
theorem dX12_cycles_91 : decode cX12_cycles 91 = .ok (.iload_n 3, 1) := by decide +kernel
theorem dX12_cycles_92 : decode cX12_cycles 92 = .ok (.iload 6, 2) := by decide +kernel
theorem dX12_cycles_94 : decode cX12_cycles 94 = .ok (.iload_n 2, 1) := by decide +kernel
theorem dX12_cycles_95 : decode cX12_cycles 95 = .ok (.if_icmp .ne 7, 3) := by decide +kernel
theorem dX12_cycles_98 : decode cX12_cycles 98 = .ok (.iconst 1, 1) := by decide +kernel
theorem dX12_cycles_99 : decode cX12_cycles 99 = .ok (.goto 4, 3) := by decide +kernel
theorem dX12_cycles_102 : decode cX12_cycles 102 = .ok (.iconst 0, 1) := by decide +kernel
theorem dX12_cycles_103 : decode cX12_cycles 103 = .ok (.iadd, 1) := by decide +kernel
theorem dX12_cycles_104 : decode cX12_cycles 104 = .ok (.istore_n 3, 1) := by decide +kernel
theorem dX12_cycles_105 : decode cX12_cycles 105 = .ok (.iinc 5 1, 3) := by decide +kernel
theorem dX12_cycles_108 : decode cX12_cycles 108 = .ok (.goto (-69), 3) := by decide +kernel
theorem dX12_cycles_111 : decode cX12_cycles 111 = .ok (.aload_n 0, 1) := by decide +kernel
theorem dX12_cycles_112 : decode cX12_cycles 112 = .ok (.iload_n 3, 1) := by decide +kernel
theorem dX12_cycles_113 : decode cX12_cycles 113 = .ok (.invokevirtual 109, 3) := by decide +kernel
theorem dX12_cycles_116 : decode cX12_cycles 116 = .ok (.ireturn, 1) := by decide +kernel
theorem mi_X12_cycles : MI yX12_cycles cX12_cycles 8 (some FieldType.int) 2 := ⟨w_1722, w_118, by decide +kernel, by decide +kernel, by decide +kernel⟩
set_option maxRecDepth 100000 in
set_option maxHeartbeats 4000000 in
theorem C_X12_cycles (G : GG) (l : Launch) (th : Nat) (p0 : Int32) (p1 : Int32) (S : St) (Q : Int32 → (Nat → Nat → Int32) → Prop) (hp : P_X12_cycles th p0 p1 S Q) : Ctr G l yX12_cycles cX12_cycles 8 (some FieldType.int) 2 51 0 0 [.ref th, .int p0, .int p1] S (fun (v : Option Value) (S9 : St) => ∃ (r : Int32) (I9 : Nat → Nat → Int32), v = some (.int r) ∧ S9 = wI S I9 ∧ Q r I9) := by
  generalize hQQ : (fun (v : Option Value) (S9 : St) => ∃ (r : Int32) (I9 : Nat → Nat → Int32), v = some (.int r) ∧ S9 = wI S I9 ∧ Q r I9) = QQ
  unfold P_X12_cycles at hp
  refine Ctr.of (by decide) (Nat.le_of_ble_eq_true rfl) ?_
  intro p e s m args below meth c ls B hr hlk hin hl hH
  generalize hlocs0 : ([] : List Loc) = locs at hH ⊢
  have hx := B.1
  have hb := B.2.1
  have hl : lv_has ls 8 [(0, .ref th), (1, .int p0), (2, .int p1)] := hl
  obtain ⟨hk_th, hp⟩ := hp
  refine lv_aload_n (pc := 0) hx hb dX12_cycles_0 rfl (lv_at hl 0 rfl) ?_
  refine lv_iload_n (pc := 1) hx hb dX12_cycles_1 rfl (lv_at hl 1 rfl) ?_
  refine sx_V (pc := 2) (As := [.int p0]) (rest := []) B hH hl.1 (C_X12_isRow G l th p0 _ _ hp) mi_X12_isRow coX12 hk_th w_1649 w_74 w_1647 rfl rfl ⟨Nat.le_of_ble_eq_true rfl, Nat.le_of_ble_eq_true rfl⟩ (Nat.le_of_ble_eq_true rfl) ⟨Nat.le_of_ble_eq_true rfl, Nat.le_of_ble_eq_true rfl⟩ dX12_cycles_2 (fun v S1 H locs hq hH => ?_)
  obtain ⟨r_1, rfl, e9, hp⟩ := hq
  rw [e9] at hH
  refine W.eq (g2 := F0 m 5 ls [.int r_1]) rfl ?_
  obtain ⟨J_3, hj_3, hp⟩ := hp
  have kj_3 : ∀  (H : Heap) (locs : List Loc) (ls : Array Slot), J_3  → Hp G (FA S s.heap.size) s.heap S H locs → lv_has ls 8 [(0, .ref th)] → Wm G p l e { frames := 2, cells := 0, slots := 0, locals := 51 } s m args below meth c S QQ 0 0 H locs 0 0 (F0 m 16 ls []) := by
    intro  H locs ls hq9 hH hl
    have hp := hj_3  hq9
    refine lv_aload_n (pc := 16) hx hb dX12_cycles_16 rfl (lv_at hl 0 rfl) ?_
    refine lv_iconst (pc := 17) (v := 1) hx hb dX12_cycles_17 (by decide) ?_
    refine sx_V (pc := 18) (As := [.int 1]) (rest := []) B hH hl.1 (C_X12_refuse G l th 1 _ _ hp) mi_X12_refuse coX12 hk_th w_1539 w_51 w_1537 rfl rfl ⟨Nat.le_of_ble_eq_true rfl, Nat.le_of_ble_eq_true rfl⟩ (Nat.le_of_ble_eq_true rfl) ⟨Nat.le_of_ble_eq_true rfl, Nat.le_of_ble_eq_true rfl⟩ dX12_cycles_18 (fun v S1 H locs hq hH => ?_)
    obtain ⟨r_4, F_4, rfl, e9, hp⟩ := hq
    rw [e9] at hH
    have hH : Hp G (FA S s.heap.size) s.heap (wI S F_4) H locs := hH
    refine W.eq (g2 := F0 m 21 ls [.int r_4]) rfl ?_
    exact sx_iret (pc := 21) B hH hr hlk (by rw [← hQQ]; exact ⟨_, F_4, rfl, rfl, hp⟩) (Nat.le_of_ble_eq_true rfl) (Nat.le_of_ble_eq_true rfl) dX12_cycles_21
  refine lv_if_eq (pc := 5) (tgt := 16) hx hb dX12_cycles_5 (by decide) (fun cc_2 => ?_) (fun cc_2 => ?_)
  · have hp := hp.1 cc_2
    exact kj_3  _ _ _ hp hH (lv_sub hl [0] rfl)
  · have hp := hp.2 cc_2
    refine lv_aload_n (pc := 8) hx hb dX12_cycles_8 rfl (lv_at hl 0 rfl) ?_
    refine lv_iload_n (pc := 9) hx hb dX12_cycles_9 rfl (lv_at hl 2 rfl) ?_
    refine sx_V (pc := 10) (As := [.int p1]) (rest := []) B hH hl.1 (C_X12_isBell G l th p1 _ _ hp) mi_X12_isBell coX12 hk_th w_1653 w_75 w_1651 rfl rfl ⟨Nat.le_of_ble_eq_true rfl, Nat.le_of_ble_eq_true rfl⟩ (Nat.le_of_ble_eq_true rfl) ⟨Nat.le_of_ble_eq_true rfl, Nat.le_of_ble_eq_true rfl⟩ dX12_cycles_10 (fun v S1 H locs hq hH => ?_)
    obtain ⟨r_5, rfl, e9, hp⟩ := hq
    rw [e9] at hH
    refine W.eq (g2 := F0 m 13 ls [.int r_5]) rfl ?_
    refine lv_if_ne (pc := 13) (tgt := 22) hx hb dX12_cycles_13 (by decide) (fun cc_6 => ?_) (fun cc_6 => ?_)
    · have hp := hp.1 cc_6
      refine lv_aload_n (pc := 22) hx hb dX12_cycles_22 rfl (lv_at hl 0 rfl) ?_
      refine lv_iload_n (pc := 23) hx hb dX12_cycles_23 rfl (lv_at hl 1 rfl) ?_
      refine lv_aload_n (pc := 24) hx hb dX12_cycles_24 rfl (lv_at hl 0 rfl) ?_
      refine sx_getR (pc := 25) (j := 24) B hH hk_th coX12 rfl w_1328 rfl dX12_cycles_25 ?_
      refine W.eq (g2 := F0 m 28 ls [va_rf (gR S th 24), .int p0, .ref th]) rfl ?_
      obtain ⟨a_7, ha_7, hp⟩ := hp
      refine sx_nonnull (x := a_7) ha_7 ?_
      refine sx_V (pc := 28) (As := [.int p0, .ref a_7]) (rest := []) B hH hl.1 (C_X12_laysRow G l th p0 a_7 _ _ hp) mi_X12_laysRow coX12 hk_th w_1657 w_76 w_1655 rfl rfl ⟨Nat.le_of_ble_eq_true rfl, Nat.le_of_ble_eq_true rfl⟩ (Nat.le_of_ble_eq_true rfl) ⟨Nat.le_of_ble_eq_true rfl, Nat.le_of_ble_eq_true rfl⟩ dX12_cycles_28 (fun v S1 H locs hq hH => ?_)
      obtain ⟨F_8, rfl, e9, hp⟩ := hq
      rw [e9] at hH
      have hH : Hp G (FA S s.heap.size) s.heap (wI S F_8) H locs := hH
      refine W.eq (g2 := F0 m 31 ls []) rfl ?_
      refine lv_iconst (pc := 31) (v := 0) hx hb dX12_cycles_31 (by decide) ?_
      refine lv_istore_n (pc := 32) (lv' := [(3, .int 0), (0, .ref th), (1, .int p0), (2, .int p1)]) hx hb dX12_cycles_32 rfl hl (by decide) rfl (fun ls hl => ?_)
      refine lv_iconst (pc := 33) (v := 0) hx hb dX12_cycles_33 (by decide) ?_
      refine lv_istore (pc := 34) (lv' := [(4, .int 0), (3, .int 0), (0, .ref th), (1, .int p0), (2, .int p1)]) hx hb dX12_cycles_34 hl (by decide) rfl (fun ls hl => ?_)
      refine lv_iconst (pc := 36) (v := 0) hx hb dX12_cycles_36 (by decide) ?_
      refine lv_istore (pc := 37) (lv' := [(5, .int 0), (4, .int 0), (3, .int 0), (0, .ref th), (1, .int p0), (2, .int p1)]) hx hb dX12_cycles_37 hl (by decide) rfl (fun ls hl => ?_)
      obtain ⟨I_9, ⟨k0_9, h0_9⟩, hst_9⟩ := hp
      have kl_9 : ∀ (n_9 : Nat) (x3_10 : Int32) (x4_11 : Int32) (x5_12 : Int32) (H : Heap) (locs : List Loc) (ls : Array Slot), I_9 n_9 x3_10 x4_11 x5_12 → Hp G (FA S s.heap.size) s.heap (wI S F_8) H locs → lv_has ls 8 [(0, .ref th), (2, .int p1), (3, .int x3_10), (4, .int x4_11), (5, .int x5_12)] → Wm G p l e { frames := 2, cells := 0, slots := 0, locals := 51 } s m args below meth c S QQ 0 0 H locs 0 0 (F0 m 39 ls []) := by
        intro n_9
        induction n_9 using Nat.strongRecOn with
        | ind n_9 ih_9 =>
          intro x3_10 x4_11 x5_12 H locs ls hq9 hH hl
          have hp := hst_9 n_9 x3_10 x4_11 x5_12 hq9
          refine lv_iload (pc := 39) hx hb dX12_cycles_39 (lv_at hl 4 rfl) ?_
          refine lv_aload_n (pc := 41) hx hb dX12_cycles_41 rfl (lv_at hl 0 rfl) ?_
          refine sx_getR (pc := 42) (j := 0) B hH hk_th coX12 rfl w_1304 rfl dX12_cycles_42 ?_
          refine W.eq (g2 := F0 m 45 ls [va_rf (gR S th 0), .int x5_12]) rfl ?_
          obtain ⟨a_13, ha_13, hp⟩ := hp
          refine sx_nonnull (x := a_13) ha_13 ?_
          refine lv_iconst (pc := 45) (v := 0) hx hb dX12_cycles_45 (by decide) ?_
          obtain ⟨hk_14, hp⟩ := hp
          obtain ⟨hn_15, hp⟩ := hp
          refine sx_iald (pc := 46) B hH hk_14 hn_15 dX12_cycles_46 ?_
          refine W.eq (g2 := F0 m 47 ls [.int (F_8 a_13 0), .int x5_12]) rfl ?_
          refine lv_icmp_ge (pc := 47) (tgt := 111) hx hb dX12_cycles_47 (by decide) (fun cc_16 => ?_) (fun cc_16 => ?_)
          · have hp := hp.1 cc_16
            refine lv_aload_n (pc := 111) hx hb dX12_cycles_111 rfl (lv_at hl 0 rfl) ?_
            refine lv_iload_n (pc := 112) hx hb dX12_cycles_112 rfl (lv_at hl 2 rfl) ?_
            refine sx_V (pc := 113) (As := [.int x3_10]) (rest := []) B hH hl.1 (C_X12_gives G l th x3_10 _ _ hp) mi_X12_gives coX12 hk_th w_1617 w_69 w_1615 rfl rfl ⟨Nat.le_of_ble_eq_true rfl, Nat.le_of_ble_eq_true rfl⟩ (Nat.le_of_ble_eq_true rfl) ⟨Nat.le_of_ble_eq_true rfl, Nat.le_of_ble_eq_true rfl⟩ dX12_cycles_113 (fun v S1 H locs hq hH => ?_)
            obtain ⟨r_17, F_17, rfl, e9, hp⟩ := hq
            rw [e9] at hH
            have hH : Hp G (FA S s.heap.size) s.heap (wI S F_17) H locs := hH
            refine W.eq (g2 := F0 m 116 ls [.int r_17]) rfl ?_
            exact sx_iret (pc := 116) B hH hr hlk (by rw [← hQQ]; exact ⟨_, F_17, rfl, rfl, hp⟩) (Nat.le_of_ble_eq_true rfl) (Nat.le_of_ble_eq_true rfl) dX12_cycles_116
          · have hp := hp.2 cc_16
            refine lv_iconst (pc := 50) (v := 0) hx hb dX12_cycles_50 (by decide) ?_
            refine lv_istore (pc := 51) (lv' := [(6, .int 0), (0, .ref th), (2, .int p1), (3, .int x3_10), (4, .int x4_11), (5, .int x5_12)]) hx hb dX12_cycles_51 hl (by decide) rfl (fun ls hl => ?_)
            refine lv_iload (pc := 53) hx hb dX12_cycles_53 (lv_at hl 5 rfl) ?_
            refine lv_istore (pc := 55) (lv' := [(7, .int x5_12), (6, .int 0), (0, .ref th), (2, .int p1), (3, .int x3_10), (4, .int x4_11), (5, .int x5_12)]) hx hb dX12_cycles_55 hl (by decide) rfl (fun ls hl => ?_)
            obtain ⟨I_18, ⟨k0_18, h0_18⟩, hst_18⟩ := hp
            have kl_18 : ∀ (n_18 : Nat) (x4_19 : Int32) (x6_20 : Int32) (x7_21 : Int32) (H : Heap) (locs : List Loc) (ls : Array Slot), I_18 n_18 x4_19 x6_20 x7_21 → Hp G (FA S s.heap.size) s.heap (wI S F_8) H locs → lv_has ls 8 [(0, .ref th), (2, .int p1), (3, .int x3_10), (4, .int x4_19), (5, .int x5_12), (6, .int x6_20), (7, .int x7_21)] → Wm G p l e { frames := 2, cells := 0, slots := 0, locals := 51 } s m args below meth c S QQ 0 0 H locs 0 0 (F0 m 57 ls []) := by
              intro n_18
              induction n_18 using Nat.strongRecOn with
              | ind n_18 ih_18 =>
                intro x4_19 x6_20 x7_21 H locs ls hq9 hH hl
                have hp := hst_18 n_18 x4_19 x6_20 x7_21 hq9
                refine lv_iload (pc := 57) hx hb dX12_cycles_57 (lv_at hl 3 rfl) ?_
                refine lv_iload (pc := 59) hx hb dX12_cycles_59 (lv_at hl 6 rfl) ?_
                refine lv_ishr (pc := 61) hx hb dX12_cycles_61 ?_
                refine W.eq (g2 := F0 m 62 ls [.int (shr x4_19 x7_21)]) rfl ?_
                refine lv_iconst (pc := 62) (v := 1) hx hb dX12_cycles_62 (by decide) ?_
                refine lv_iand (pc := 63) hx hb dX12_cycles_63 ?_
                refine lv_if_ne (pc := 64) (tgt := 91) hx hb dX12_cycles_64 (by decide) (fun cc_22 => ?_) (fun cc_22 => ?_)
                · have hp := hp.1 cc_22
                  refine lv_iload_n (pc := 91) hx hb dX12_cycles_91 rfl (lv_at hl 2 rfl) ?_
                  refine lv_iload (pc := 92) hx hb dX12_cycles_92 (lv_at hl 5 rfl) ?_
                  refine lv_iload_n (pc := 94) hx hb dX12_cycles_94 rfl (lv_at hl 1 rfl) ?_
                  refine lv_icmp_ne (pc := 95) (tgt := 102) hx hb dX12_cycles_95 (by decide) (fun cc_23 => ?_) (fun cc_23 => ?_)
                  · have hp := hp.1 cc_23
                    refine lv_iconst (pc := 102) (v := 0) hx hb dX12_cycles_102 (by decide) ?_
                    refine lv_iadd (pc := 103) hx hb dX12_cycles_103 ?_
                    refine lv_topi (fun v_24 ev_24 => ?_)
                    have hp := hp v_24 ev_24
                    refine lv_istore_n (pc := 104) (lv' := [(3, .int v_24), (0, .ref th), (2, .int p1), (4, .int x4_19), (5, .int x5_12), (6, .int x6_20), (7, .int x7_21)]) hx hb dX12_cycles_104 rfl hl (by decide) rfl (fun ls hl => ?_)
                    obtain ⟨v_25, ev_25⟩ : ∃ y : Int32, y = x5_12 + 1 := ⟨_, rfl⟩
                    have hp := hp v_25 ev_25
                    refine lv_iinc (pc := 105) (v := v_25) (lv' := [(5, .int v_25), (3, .int v_24), (0, .ref th), (2, .int p1), (4, .int x4_19), (6, .int x6_20), (7, .int x7_21)]) hx hb dX12_cycles_105 hl (k := 4) rfl (by rw [ev_25]; rfl) (by decide) rfl (fun ls hl => ?_)
                    refine lv_goto (pc := 108) (tgt := 39) hx hb dX12_cycles_108 (by decide) ?_
                    obtain ⟨k9, hlt9, hp⟩ := hp
                    exact ih_9 k9 hlt9 _ _ _ _ _ _ hp hH (lv_sub hl [2, 3, 1, 4, 0] rfl)
                  · have hp := hp.2 cc_23
                    refine lv_iconst (pc := 98) (v := 1) hx hb dX12_cycles_98 (by decide) ?_
                    refine lv_goto (pc := 99) (tgt := 103) hx hb dX12_cycles_99 (by decide) ?_
                    refine lv_iadd (pc := 103) hx hb dX12_cycles_103 ?_
                    refine lv_topi (fun v_26 ev_26 => ?_)
                    have hp := hp v_26 ev_26
                    refine lv_istore_n (pc := 104) (lv' := [(3, .int v_26), (0, .ref th), (2, .int p1), (4, .int x4_19), (5, .int x5_12), (6, .int x6_20), (7, .int x7_21)]) hx hb dX12_cycles_104 rfl hl (by decide) rfl (fun ls hl => ?_)
                    obtain ⟨v_27, ev_27⟩ : ∃ y : Int32, y = x5_12 + 1 := ⟨_, rfl⟩
                    have hp := hp v_27 ev_27
                    refine lv_iinc (pc := 105) (v := v_27) (lv' := [(5, .int v_27), (3, .int v_26), (0, .ref th), (2, .int p1), (4, .int x4_19), (6, .int x6_20), (7, .int x7_21)]) hx hb dX12_cycles_105 hl (k := 4) rfl (by rw [ev_27]; rfl) (by decide) rfl (fun ls hl => ?_)
                    refine lv_goto (pc := 108) (tgt := 39) hx hb dX12_cycles_108 (by decide) ?_
                    obtain ⟨k9, hlt9, hp⟩ := hp
                    exact ih_9 k9 hlt9 _ _ _ _ _ _ hp hH (lv_sub hl [2, 3, 1, 4, 0] rfl)
                · have hp := hp.2 cc_22
                  refine lv_iload (pc := 67) hx hb dX12_cycles_67 (lv_at hl 3 rfl) ?_
                  refine lv_iconst (pc := 69) (v := 1) hx hb dX12_cycles_69 (by decide) ?_
                  refine lv_iload (pc := 70) hx hb dX12_cycles_70 (lv_at hl 6 rfl) ?_
                  refine lv_ishl (pc := 72) hx hb dX12_cycles_72 ?_
                  refine W.eq (g2 := F0 m 73 ls [.int (shl 1 x7_21), .int x4_19]) rfl ?_
                  refine lv_ior (pc := 73) hx hb dX12_cycles_73 ?_
                  refine lv_topi (fun v_28 ev_28 => ?_)
                  have hp := hp v_28 ev_28
                  refine lv_istore (pc := 74) (lv' := [(4, .int v_28), (0, .ref th), (2, .int p1), (3, .int x3_10), (5, .int x5_12), (6, .int x6_20), (7, .int x7_21)]) hx hb dX12_cycles_74 hl (by decide) rfl (fun ls hl => ?_)
                  refine lv_aload_n (pc := 76) hx hb dX12_cycles_76 rfl (lv_at hl 1 rfl) ?_
                  refine sx_getR (pc := 77) (j := 24) B hH hk_th coX12 rfl w_1328 rfl dX12_cycles_77 ?_
                  refine W.eq (g2 := F0 m 80 ls [va_rf (gR S th 24)]) rfl ?_
                  refine sx_nonnull (x := a_7) ha_7 ?_
                  refine lv_iload (pc := 80) hx hb dX12_cycles_80 (lv_at hl 6 rfl) ?_
                  obtain ⟨hk_29, hp⟩ := hp
                  obtain ⟨hn_30, hp⟩ := hp
                  refine sx_iald (pc := 82) B hH hk_29 hn_30 dX12_cycles_82 ?_
                  refine W.eq (g2 := F0 m 83 ls [.int (F_8 a_7 x7_21.toNatClampNeg)]) rfl ?_
                  refine lv_topi (fun v_31 ev_31 => ?_)
                  have hp := hp v_31 ev_31
                  refine lv_istore (pc := 83) (lv' := [(7, .int v_31), (4, .int v_28), (0, .ref th), (2, .int p1), (3, .int x3_10), (5, .int x5_12), (6, .int x6_20)]) hx hb dX12_cycles_83 hl (by decide) rfl (fun ls hl => ?_)
                  obtain ⟨v_32, ev_32⟩ : ∃ y : Int32, y = x6_20 + 1 := ⟨_, rfl⟩
                  have hp := hp v_32 ev_32
                  refine lv_iinc (pc := 85) (v := v_32) (lv' := [(6, .int v_32), (7, .int v_31), (4, .int v_28), (0, .ref th), (2, .int p1), (3, .int x3_10), (5, .int x5_12)]) hx hb dX12_cycles_85 hl (k := 6) rfl (by rw [ev_32]; rfl) (by decide) rfl (fun ls hl => ?_)
                  refine lv_goto (pc := 88) (tgt := 57) hx hb dX12_cycles_88 (by decide) ?_
                  obtain ⟨k9, hlt9, hp⟩ := hp
                  exact ih_18 k9 hlt9 _ _ _ _ _ _ hp hH (lv_sub hl [3, 4, 5, 2, 6, 0, 1] rfl)
            exact kl_18 k0_18 _ _ _ _ _ _ h0_18 hH (lv_sub hl [2, 3, 4, 5, 6, 1, 0] rfl)
      exact kl_9 k0_9 _ _ _ _ _ _ h0_9 hH (lv_sub hl [3, 5, 2, 1, 0] rfl)
    · have hp := hp.2 cc_6
      exact kj_3  _ _ _ hp hH (lv_sub hl [0] rfl)
theorem dX12_distance_0 : decode cX12_distance 0 = .ok (.aload_n 0, 1) := by decide +kernel
theorem dX12_distance_1 : decode cX12_distance 1 = .ok (.iload_n 1, 1) := by decide +kernel
theorem dX12_distance_2 : decode cX12_distance 2 = .ok (.invokevirtual 277, 3) := by decide +kernel
theorem dX12_distance_5 : decode cX12_distance 5 = .ok (.ifCond .eq 11, 3) := by decide +kernel
theorem dX12_distance_8 : decode cX12_distance 8 = .ok (.aload_n 0, 1) := by decide +kernel
theorem dX12_distance_9 : decode cX12_distance 9 = .ok (.iload_n 2, 1) := by decide +kernel
theorem dX12_distance_10 : decode cX12_distance 10 = .ok (.invokevirtual 277, 3) := by decide +kernel
theorem dX12_distance_13 : decode cX12_distance 13 = .ok (.ifCond .ne 9, 3) := by decide +kernel
theorem dX12_distance_16 : decode cX12_distance 16 = .ok (.aload_n 0, 1) := by decide +kernel
theorem dX12_distance_17 : decode cX12_distance 17 = .ok (.iconst 1, 1) := by decide +kernel
theorem dX12_distance_18 : decode cX12_distance 18 = .ok (.invokevirtual 105, 3) := by decide +kernel
theorem dX12_distance_21 : decode cX12_distance 21 = .ok (.ireturn, 1) := by decide +kernel
theorem dX12_distance_22 : decode cX12_distance 22 = .ok (.aload_n 0, 1) := by decide +kernel
theorem dX12_distance_23 : decode cX12_distance 23 = .ok (.aload_n 0, 1) := by decide +kernel
theorem dX12_distance_24 : decode cX12_distance 24 = .ok (.iload_n 2, 1) := by decide +kernel
theorem dX12_distance_25 : decode cX12_distance 25 = .ok (.invokevirtual 290, 3) := by decide +kernel
theorem dX12_distance_28 : decode cX12_distance 28 = .ok (.aload_n 0, 1) := by decide +kernel
theorem dX12_distance_29 : decode cX12_distance 29 = .ok (.getfield 53, 3) := by decide +kernel
theorem dX12_distance_32 : decode cX12_distance 32 = .ok (.invokevirtual 266, 3) := by decide +kernel
theorem dX12_distance_35 : decode cX12_distance 35 = .ok (.aload_n 0, 1) := by decide +kernel
theorem dX12_distance_36 : decode cX12_distance 36 = .ok (.iload_n 1, 1) := by decide +kernel
theorem dX12_distance_37 : decode cX12_distance 37 = .ok (.aload_n 0, 1) := by decide +kernel
theorem dX12_distance_38 : decode cX12_distance 38 = .ok (.getfield 47, 3) := by decide +kernel
theorem dX12_distance_41 : decode cX12_distance 41 = .ok (.invokevirtual 266, 3) := by decide +kernel
theorem dX12_distance_44 : decode cX12_distance 44 = .ok (.iconst 0, 1) := by decide +kernel
theorem dX12_distance_45 : decode cX12_distance 45 = .ok (.istore_n 3, 1) := by decide +kernel
theorem dX12_distance_46 : decode cX12_distance 46 = .ok (.iconst 0, 1) := by decide +kernel
theorem dX12_distance_47 : decode cX12_distance 47 = .ok (.istore 4, 2) := by decide +kernel
theorem dX12_distance_49 : decode cX12_distance 49 = .ok (.iload 4, 2) := by decide +kernel
theorem dX12_distance_51 : decode cX12_distance 51 = .ok (.aload_n 0, 1) := by decide +kernel
theorem dX12_distance_52 : decode cX12_distance 52 = .ok (.getfield 7, 3) := by decide +kernel
theorem dX12_distance_55 : decode cX12_distance 55 = .ok (.iconst 0, 1) := by decide +kernel
theorem dX12_distance_56 : decode cX12_distance 56 = .ok (.iaload, 1) := by decide +kernel
theorem dX12_distance_57 : decode cX12_distance 57 = .ok (.if_icmp .ge 67, 3) := by decide +kernel
theorem dX12_distance_60 : decode cX12_distance 60 = .ok (.iload 4, 2) := by decide +kernel
theorem dX12_distance_62 : decode cX12_distance 62 = .ok (.iconst 1, 1) := by decide +kernel
theorem dX12_distance_63 : decode cX12_distance 63 = .ok (.iadd, 1) := by decide +kernel
theorem dX12_distance_64 : decode cX12_distance 64 = .ok (.istore 5, 2) := by decide +kernel
theorem dX12_distance_66 : decode cX12_distance 66 = .ok (.iload 5, 2) := by decide +kernel
theorem dX12_distance_68 : decode cX12_distance 68 = .ok (.aload_n 0, 1) := by decide +kernel
theorem dX12_distance_69 : decode cX12_distance 69 = .ok (.getfield 7, 3) := by decide +kernel
theorem dX12_distance_72 : decode cX12_distance 72 = .ok (.iconst 0, 1) := by decide +kernel
theorem dX12_distance_73 : decode cX12_distance 73 = .ok (.iaload, 1) := by decide +kernel
theorem dX12_distance_74 : decode cX12_distance 74 = .ok (.if_icmp .ge 44, 3) := by decide +kernel
theorem dX12_distance_77 : decode cX12_distance 77 = .ok (.iload_n 3, 1) := by decide +kernel
theorem dX12_distance_78 : decode cX12_distance 78 = .ok (.aload_n 0, 1) := by decide +kernel
theorem dX12_distance_79 : decode cX12_distance 79 = .ok (.getfield 53, 3) := by decide +kernel
theorem dX12_distance_82 : decode cX12_distance 82 = .ok (.aload_n 0, 1) := by decide +kernel
theorem dX12_distance_83 : decode cX12_distance 83 = .ok (.getfield 47, 3) := by decide +kernel
theorem dX12_distance_86 : decode cX12_distance 86 = .ok (.iload 4, 2) := by decide +kernel
theorem dX12_distance_88 : decode cX12_distance 88 = .ok (.iaload, 1) := by decide +kernel
theorem dX12_distance_89 : decode cX12_distance 89 = .ok (.iaload, 1) := by decide +kernel
theorem dX12_distance_90 : decode cX12_distance 90 = .ok (.aload_n 0, 1) := by decide +kernel
theorem dX12_distance_91 : decode cX12_distance 91 = .ok (.getfield 53, 3) := by decide +kernel
theorem dX12_distance_94 : decode cX12_distance 94 = .ok (.aload_n 0, 1) := by decide +kernel
theorem dX12_distance_95 : decode cX12_distance 95 = .ok (.getfield 47, 3) := by decide +kernel
theorem dX12_distance_98 : decode cX12_distance 98 = .ok (.iload 5, 2) := by decide +kernel
theorem dX12_distance_100 : decode cX12_distance 100 = .ok (.iaload, 1) := by decide +kernel
theorem dX12_distance_101 : decode cX12_distance 101 = .ok (.iaload, 1) := by decide +kernel
theorem dX12_distance_102 : decode cX12_distance 102 = .ok (.if_icmp .le 7, 3) := by decide +kernel
theorem dX12_distance_105 : decode cX12_distance 105 = .ok (.iconst 1, 1) := by decide +kernel
theorem dX12_distance_106 : decode cX12_distance 106 = .ok (.goto 4, 3) := by decide +kernel
theorem dX12_distance_109 : decode cX12_distance 109 = .ok (.iconst 0, 1) := by decide +kernel
theorem dX12_distance_110 : decode cX12_distance 110 = .ok (.iadd, 1) := by decide +kernel
theorem dX12_distance_111 : decode cX12_distance 111 = .ok (.istore_n 3, 1) := by decide +kernel
theorem dX12_distance_112 : decode cX12_distance 112 = .ok (.iinc 5 1, 3) := by decide +kernel
theorem dX12_distance_115 : decode cX12_distance 115 = .ok (.goto (-49), 3) := by decide +kernel
theorem dX12_distance_118 : decode cX12_distance 118 = .ok (.iinc 4 1, 3) := by decide +kernel
theorem dX12_distance_121 : decode cX12_distance 121 = .ok (.goto (-72), 3) := by decide +kernel
theorem dX12_distance_124 : decode cX12_distance 124 = .ok (.aload_n 0, 1) := by decide +kernel
theorem dX12_distance_125 : decode cX12_distance 125 = .ok (.iload_n 3, 1) := by decide +kernel
theorem dX12_distance_126 : decode cX12_distance 126 = .ok (.invokevirtual 109, 3) := by decide +kernel
theorem dX12_distance_129 : decode cX12_distance 129 = .ok (.ireturn, 1) := by decide +kernel
theorem mi_X12_distance : MI yX12_distance cX12_distance 6 (some FieldType.int) 2 := ⟨w_1726, w_118, by decide +kernel, by decide +kernel, by decide +kernel⟩
set_option maxRecDepth 100000 in
set_option maxHeartbeats 4000000 in
theorem C_X12_distance (G : GG) (l : Launch) (th : Nat) (p0 : Int32) (p1 : Int32) (S : St) (Q : Int32 → (Nat → Nat → Int32) → Prop) (hp : P_X12_distance th p0 p1 S Q) : Ctr G l yX12_distance cX12_distance 6 (some FieldType.int) 3 73 0 0 [.ref th, .int p0, .int p1] S (fun (v : Option Value) (S9 : St) => ∃ (r : Int32) (I9 : Nat → Nat → Int32), v = some (.int r) ∧ S9 = wI S I9 ∧ Q r I9) := by
  generalize hQQ : (fun (v : Option Value) (S9 : St) => ∃ (r : Int32) (I9 : Nat → Nat → Int32), v = some (.int r) ∧ S9 = wI S I9 ∧ Q r I9) = QQ
  unfold P_X12_distance at hp
  refine Ctr.of (by decide) (Nat.le_of_ble_eq_true rfl) ?_
  intro p e s m args below meth c ls B hr hlk hin hl hH
  generalize hlocs0 : ([] : List Loc) = locs at hH ⊢
  have hx := B.1
  have hb := B.2.1
  have hl : lv_has ls 6 [(0, .ref th), (1, .int p0), (2, .int p1)] := hl
  obtain ⟨hk_th, hp⟩ := hp
  refine lv_aload_n (pc := 0) hx hb dX12_distance_0 rfl (lv_at hl 0 rfl) ?_
  refine lv_iload_n (pc := 1) hx hb dX12_distance_1 rfl (lv_at hl 1 rfl) ?_
  refine sx_V (pc := 2) (As := [.int p0]) (rest := []) B hH hl.1 (C_X12_isRow G l th p0 _ _ hp) mi_X12_isRow coX12 hk_th w_1649 w_74 w_1647 rfl rfl ⟨Nat.le_of_ble_eq_true rfl, Nat.le_of_ble_eq_true rfl⟩ (Nat.le_of_ble_eq_true rfl) ⟨Nat.le_of_ble_eq_true rfl, Nat.le_of_ble_eq_true rfl⟩ dX12_distance_2 (fun v S1 H locs hq hH => ?_)
  obtain ⟨r_1, rfl, e9, hp⟩ := hq
  rw [e9] at hH
  refine W.eq (g2 := F0 m 5 ls [.int r_1]) rfl ?_
  obtain ⟨J_3, hj_3, hp⟩ := hp
  have kj_3 : ∀  (H : Heap) (locs : List Loc) (ls : Array Slot), J_3  → Hp G (FA S s.heap.size) s.heap S H locs → lv_has ls 6 [(0, .ref th)] → Wm G p l e { frames := 3, cells := 0, slots := 0, locals := 73 } s m args below meth c S QQ 0 0 H locs 0 0 (F0 m 16 ls []) := by
    intro  H locs ls hq9 hH hl
    have hp := hj_3  hq9
    refine lv_aload_n (pc := 16) hx hb dX12_distance_16 rfl (lv_at hl 0 rfl) ?_
    refine lv_iconst (pc := 17) (v := 1) hx hb dX12_distance_17 (by decide) ?_
    refine sx_V (pc := 18) (As := [.int 1]) (rest := []) B hH hl.1 (C_X12_refuse G l th 1 _ _ hp) mi_X12_refuse coX12 hk_th w_1539 w_51 w_1537 rfl rfl ⟨Nat.le_of_ble_eq_true rfl, Nat.le_of_ble_eq_true rfl⟩ (Nat.le_of_ble_eq_true rfl) ⟨Nat.le_of_ble_eq_true rfl, Nat.le_of_ble_eq_true rfl⟩ dX12_distance_18 (fun v S1 H locs hq hH => ?_)
    obtain ⟨r_4, F_4, rfl, e9, hp⟩ := hq
    rw [e9] at hH
    have hH : Hp G (FA S s.heap.size) s.heap (wI S F_4) H locs := hH
    refine W.eq (g2 := F0 m 21 ls [.int r_4]) rfl ?_
    exact sx_iret (pc := 21) B hH hr hlk (by rw [← hQQ]; exact ⟨_, F_4, rfl, rfl, hp⟩) (Nat.le_of_ble_eq_true rfl) (Nat.le_of_ble_eq_true rfl) dX12_distance_21
  refine lv_if_eq (pc := 5) (tgt := 16) hx hb dX12_distance_5 (by decide) (fun cc_2 => ?_) (fun cc_2 => ?_)
  · have hp := hp.1 cc_2
    exact kj_3  _ _ _ hp hH (lv_sub hl [0] rfl)
  · have hp := hp.2 cc_2
    refine lv_aload_n (pc := 8) hx hb dX12_distance_8 rfl (lv_at hl 0 rfl) ?_
    refine lv_iload_n (pc := 9) hx hb dX12_distance_9 rfl (lv_at hl 2 rfl) ?_
    refine sx_V (pc := 10) (As := [.int p1]) (rest := []) B hH hl.1 (C_X12_isRow G l th p1 _ _ hp) mi_X12_isRow coX12 hk_th w_1649 w_74 w_1647 rfl rfl ⟨Nat.le_of_ble_eq_true rfl, Nat.le_of_ble_eq_true rfl⟩ (Nat.le_of_ble_eq_true rfl) ⟨Nat.le_of_ble_eq_true rfl, Nat.le_of_ble_eq_true rfl⟩ dX12_distance_10 (fun v S1 H locs hq hH => ?_)
    obtain ⟨r_5, rfl, e9, hp⟩ := hq
    rw [e9] at hH
    refine W.eq (g2 := F0 m 13 ls [.int r_5]) rfl ?_
    refine lv_if_ne (pc := 13) (tgt := 22) hx hb dX12_distance_13 (by decide) (fun cc_6 => ?_) (fun cc_6 => ?_)
    · have hp := hp.1 cc_6
      refine lv_aload_n (pc := 22) hx hb dX12_distance_22 rfl (lv_at hl 0 rfl) ?_
      refine lv_aload_n (pc := 23) hx hb dX12_distance_23 rfl (lv_at hl 0 rfl) ?_
      refine lv_iload_n (pc := 24) hx hb dX12_distance_24 rfl (lv_at hl 2 rfl) ?_
      refine sx_V (pc := 25) (As := [.int p1]) (rest := [.ref th]) B hH hl.1 (C_X12_inverseOf G l th p1 _ _ hp) mi_X12_inverseOf coX12 hk_th w_1684 w_79 w_1682 rfl rfl ⟨Nat.le_of_ble_eq_true rfl, Nat.le_of_ble_eq_true rfl⟩ (Nat.le_of_ble_eq_true rfl) ⟨Nat.le_of_ble_eq_true rfl, Nat.le_of_ble_eq_true rfl⟩ dX12_distance_25 (fun v S1 H locs hq hH => ?_)
      obtain ⟨r_7, F_7, rfl, e9, hp⟩ := hq
      rw [e9] at hH
      have hH : Hp G (FA S s.heap.size) s.heap (wI S F_7) H locs := hH
      refine W.eq (g2 := F0 m 28 ls [.int r_7, .ref th]) rfl ?_
      refine lv_aload_n (pc := 28) hx hb dX12_distance_28 rfl (lv_at hl 0 rfl) ?_
      refine sx_getR (pc := 29) (j := 25) B hH hk_th coX12 rfl w_1329 rfl dX12_distance_29 ?_
      refine W.eq (g2 := F0 m 32 ls [va_rf (gR S th 25), .int r_7, .ref th]) rfl ?_
      obtain ⟨a_8, ha_8, hp⟩ := hp
      refine sx_nonnull (x := a_8) ha_8 ?_
      refine sx_V (pc := 32) (As := [.int r_7, .ref a_8]) (rest := []) B hH hl.1 (C_X12_laysRow G l th r_7 a_8 _ _ hp) mi_X12_laysRow coX12 hk_th w_1657 w_76 w_1655 rfl rfl ⟨Nat.le_of_ble_eq_true rfl, Nat.le_of_ble_eq_true rfl⟩ (Nat.le_of_ble_eq_true rfl) ⟨Nat.le_of_ble_eq_true rfl, Nat.le_of_ble_eq_true rfl⟩ dX12_distance_32 (fun v S1 H locs hq hH => ?_)
      obtain ⟨F_9, rfl, e9, hp⟩ := hq
      rw [e9] at hH
      have hH : Hp G (FA S s.heap.size) s.heap (wI S F_9) H locs := hH
      refine W.eq (g2 := F0 m 35 ls []) rfl ?_
      refine lv_aload_n (pc := 35) hx hb dX12_distance_35 rfl (lv_at hl 0 rfl) ?_
      refine lv_iload_n (pc := 36) hx hb dX12_distance_36 rfl (lv_at hl 1 rfl) ?_
      refine lv_aload_n (pc := 37) hx hb dX12_distance_37 rfl (lv_at hl 0 rfl) ?_
      refine sx_getR (pc := 38) (j := 23) B hH hk_th coX12 rfl w_1327 rfl dX12_distance_38 ?_
      refine W.eq (g2 := F0 m 41 ls [va_rf (gR S th 23), .int p0, .ref th]) rfl ?_
      obtain ⟨a_10, ha_10, hp⟩ := hp
      refine sx_nonnull (x := a_10) ha_10 ?_
      refine sx_V (pc := 41) (As := [.int p0, .ref a_10]) (rest := []) B hH hl.1 (C_X12_laysRow G l th p0 a_10 _ _ hp) mi_X12_laysRow coX12 hk_th w_1657 w_76 w_1655 rfl rfl ⟨Nat.le_of_ble_eq_true rfl, Nat.le_of_ble_eq_true rfl⟩ (Nat.le_of_ble_eq_true rfl) ⟨Nat.le_of_ble_eq_true rfl, Nat.le_of_ble_eq_true rfl⟩ dX12_distance_41 (fun v S1 H locs hq hH => ?_)
      obtain ⟨F_11, rfl, e9, hp⟩ := hq
      rw [e9] at hH
      have hH : Hp G (FA S s.heap.size) s.heap (wI S F_11) H locs := hH
      refine W.eq (g2 := F0 m 44 ls []) rfl ?_
      refine lv_iconst (pc := 44) (v := 0) hx hb dX12_distance_44 (by decide) ?_
      refine lv_istore_n (pc := 45) (lv' := [(3, .int 0), (0, .ref th), (1, .int p0), (2, .int p1)]) hx hb dX12_distance_45 rfl hl (by decide) rfl (fun ls hl => ?_)
      refine lv_iconst (pc := 46) (v := 0) hx hb dX12_distance_46 (by decide) ?_
      refine lv_istore (pc := 47) (lv' := [(4, .int 0), (3, .int 0), (0, .ref th), (1, .int p0), (2, .int p1)]) hx hb dX12_distance_47 hl (by decide) rfl (fun ls hl => ?_)
      obtain ⟨I_12, ⟨k0_12, h0_12⟩, hst_12⟩ := hp
      have kl_12 : ∀ (n_12 : Nat) (x3_13 : Int32) (x4_14 : Int32) (H : Heap) (locs : List Loc) (ls : Array Slot), I_12 n_12 x3_13 x4_14 → Hp G (FA S s.heap.size) s.heap (wI S F_11) H locs → lv_has ls 6 [(0, .ref th), (3, .int x3_13), (4, .int x4_14)] → Wm G p l e { frames := 3, cells := 0, slots := 0, locals := 73 } s m args below meth c S QQ 0 0 H locs 0 0 (F0 m 49 ls []) := by
        intro n_12
        induction n_12 using Nat.strongRecOn with
        | ind n_12 ih_12 =>
          intro x3_13 x4_14 H locs ls hq9 hH hl
          have hp := hst_12 n_12 x3_13 x4_14 hq9
          refine lv_iload (pc := 49) hx hb dX12_distance_49 (lv_at hl 2 rfl) ?_
          refine lv_aload_n (pc := 51) hx hb dX12_distance_51 rfl (lv_at hl 0 rfl) ?_
          refine sx_getR (pc := 52) (j := 0) B hH hk_th coX12 rfl w_1304 rfl dX12_distance_52 ?_
          refine W.eq (g2 := F0 m 55 ls [va_rf (gR S th 0), .int x4_14]) rfl ?_
          obtain ⟨a_15, ha_15, hp⟩ := hp
          refine sx_nonnull (x := a_15) ha_15 ?_
          refine lv_iconst (pc := 55) (v := 0) hx hb dX12_distance_55 (by decide) ?_
          obtain ⟨hk_16, hp⟩ := hp
          obtain ⟨hn_17, hp⟩ := hp
          refine sx_iald (pc := 56) B hH hk_16 hn_17 dX12_distance_56 ?_
          refine W.eq (g2 := F0 m 57 ls [.int (F_11 a_15 0), .int x4_14]) rfl ?_
          refine lv_icmp_ge (pc := 57) (tgt := 124) hx hb dX12_distance_57 (by decide) (fun cc_18 => ?_) (fun cc_18 => ?_)
          · have hp := hp.1 cc_18
            refine lv_aload_n (pc := 124) hx hb dX12_distance_124 rfl (lv_at hl 0 rfl) ?_
            refine lv_iload_n (pc := 125) hx hb dX12_distance_125 rfl (lv_at hl 1 rfl) ?_
            refine sx_V (pc := 126) (As := [.int x3_13]) (rest := []) B hH hl.1 (C_X12_gives G l th x3_13 _ _ hp) mi_X12_gives coX12 hk_th w_1617 w_69 w_1615 rfl rfl ⟨Nat.le_of_ble_eq_true rfl, Nat.le_of_ble_eq_true rfl⟩ (Nat.le_of_ble_eq_true rfl) ⟨Nat.le_of_ble_eq_true rfl, Nat.le_of_ble_eq_true rfl⟩ dX12_distance_126 (fun v S1 H locs hq hH => ?_)
            obtain ⟨r_19, F_19, rfl, e9, hp⟩ := hq
            rw [e9] at hH
            have hH : Hp G (FA S s.heap.size) s.heap (wI S F_19) H locs := hH
            refine W.eq (g2 := F0 m 129 ls [.int r_19]) rfl ?_
            exact sx_iret (pc := 129) B hH hr hlk (by rw [← hQQ]; exact ⟨_, F_19, rfl, rfl, hp⟩) (Nat.le_of_ble_eq_true rfl) (Nat.le_of_ble_eq_true rfl) dX12_distance_129
          · have hp := hp.2 cc_18
            refine lv_iload (pc := 60) hx hb dX12_distance_60 (lv_at hl 2 rfl) ?_
            refine lv_iconst (pc := 62) (v := 1) hx hb dX12_distance_62 (by decide) ?_
            refine lv_iadd (pc := 63) hx hb dX12_distance_63 ?_
            refine lv_topi (fun v_20 ev_20 => ?_)
            have hp := hp v_20 ev_20
            refine lv_istore (pc := 64) (lv' := [(5, .int v_20), (0, .ref th), (3, .int x3_13), (4, .int x4_14)]) hx hb dX12_distance_64 hl (by decide) rfl (fun ls hl => ?_)
            obtain ⟨I_21, ⟨k0_21, h0_21⟩, hst_21⟩ := hp
            have kl_21 : ∀ (n_21 : Nat) (x3_22 : Int32) (x5_23 : Int32) (H : Heap) (locs : List Loc) (ls : Array Slot), I_21 n_21 x3_22 x5_23 → Hp G (FA S s.heap.size) s.heap (wI S F_11) H locs → lv_has ls 6 [(0, .ref th), (3, .int x3_22), (4, .int x4_14), (5, .int x5_23)] → Wm G p l e { frames := 3, cells := 0, slots := 0, locals := 73 } s m args below meth c S QQ 0 0 H locs 0 0 (F0 m 66 ls []) := by
              intro n_21
              induction n_21 using Nat.strongRecOn with
              | ind n_21 ih_21 =>
                intro x3_22 x5_23 H locs ls hq9 hH hl
                have hp := hst_21 n_21 x3_22 x5_23 hq9
                refine lv_iload (pc := 66) hx hb dX12_distance_66 (lv_at hl 3 rfl) ?_
                refine lv_aload_n (pc := 68) hx hb dX12_distance_68 rfl (lv_at hl 0 rfl) ?_
                refine sx_getR (pc := 69) (j := 0) B hH hk_th coX12 rfl w_1304 rfl dX12_distance_69 ?_
                refine W.eq (g2 := F0 m 72 ls [va_rf (gR S th 0), .int x5_23]) rfl ?_
                refine sx_nonnull (x := a_15) ha_15 ?_
                refine lv_iconst (pc := 72) (v := 0) hx hb dX12_distance_72 (by decide) ?_
                refine sx_iald (pc := 73) B hH hk_16 hn_17 dX12_distance_73 ?_
                refine W.eq (g2 := F0 m 74 ls [.int (F_11 a_15 0), .int x5_23]) rfl ?_
                refine lv_icmp_ge (pc := 74) (tgt := 118) hx hb dX12_distance_74 (by decide) (fun cc_24 => ?_) (fun cc_24 => ?_)
                · have hp := hp.1 cc_24
                  obtain ⟨v_25, ev_25⟩ : ∃ y : Int32, y = x4_14 + 1 := ⟨_, rfl⟩
                  have hp := hp v_25 ev_25
                  refine lv_iinc (pc := 118) (v := v_25) (lv' := [(4, .int v_25), (0, .ref th), (3, .int x3_22), (5, .int x5_23)]) hx hb dX12_distance_118 hl (k := 2) rfl (by rw [ev_25]; rfl) (by decide) rfl (fun ls hl => ?_)
                  refine lv_goto (pc := 121) (tgt := 49) hx hb dX12_distance_121 (by decide) ?_
                  obtain ⟨k9, hlt9, hp⟩ := hp
                  exact ih_12 k9 hlt9 _ _ _ _ _ hp hH (lv_sub hl [1, 2, 0] rfl)
                · have hp := hp.2 cc_24
                  refine lv_iload_n (pc := 77) hx hb dX12_distance_77 rfl (lv_at hl 1 rfl) ?_
                  refine lv_aload_n (pc := 78) hx hb dX12_distance_78 rfl (lv_at hl 0 rfl) ?_
                  refine sx_getR (pc := 79) (j := 25) B hH hk_th coX12 rfl w_1329 rfl dX12_distance_79 ?_
                  refine W.eq (g2 := F0 m 82 ls [va_rf (gR S th 25), .int x3_22]) rfl ?_
                  refine sx_nonnull (x := a_8) ha_8 ?_
                  refine lv_aload_n (pc := 82) hx hb dX12_distance_82 rfl (lv_at hl 0 rfl) ?_
                  refine sx_getR (pc := 83) (j := 23) B hH hk_th coX12 rfl w_1327 rfl dX12_distance_83 ?_
                  refine W.eq (g2 := F0 m 86 ls [va_rf (gR S th 23), .ref a_8, .int x3_22]) rfl ?_
                  refine sx_nonnull (x := a_10) ha_10 ?_
                  refine lv_iload (pc := 86) hx hb dX12_distance_86 (lv_at hl 2 rfl) ?_
                  obtain ⟨hk_26, hp⟩ := hp
                  obtain ⟨hn_27, hp⟩ := hp
                  refine sx_iald (pc := 88) B hH hk_26 hn_27 dX12_distance_88 ?_
                  refine W.eq (g2 := F0 m 89 ls [.int (F_11 a_10 x4_14.toNatClampNeg), .ref a_8, .int x3_22]) rfl ?_
                  obtain ⟨hk_28, hp⟩ := hp
                  obtain ⟨hn_29, hp⟩ := hp
                  refine sx_iald (pc := 89) B hH hk_28 hn_29 dX12_distance_89 ?_
                  refine W.eq (g2 := F0 m 90 ls [.int (F_11 a_8 ((F_11 a_10 x4_14.toNatClampNeg).toNatClampNeg)), .int x3_22]) rfl ?_
                  refine lv_aload_n (pc := 90) hx hb dX12_distance_90 rfl (lv_at hl 0 rfl) ?_
                  refine sx_getR (pc := 91) (j := 25) B hH hk_th coX12 rfl w_1329 rfl dX12_distance_91 ?_
                  refine W.eq (g2 := F0 m 94 ls [va_rf (gR S th 25), .int (F_11 a_8 ((F_11 a_10 x4_14.toNatClampNeg).toNatClampNeg)), .int x3_22]) rfl ?_
                  refine sx_nonnull (x := a_8) ha_8 ?_
                  refine lv_aload_n (pc := 94) hx hb dX12_distance_94 rfl (lv_at hl 0 rfl) ?_
                  refine sx_getR (pc := 95) (j := 23) B hH hk_th coX12 rfl w_1327 rfl dX12_distance_95 ?_
                  refine W.eq (g2 := F0 m 98 ls [va_rf (gR S th 23), .ref a_8, .int (F_11 a_8 ((F_11 a_10 x4_14.toNatClampNeg).toNatClampNeg)), .int x3_22]) rfl ?_
                  refine sx_nonnull (x := a_10) ha_10 ?_
                  refine lv_iload (pc := 98) hx hb dX12_distance_98 (lv_at hl 3 rfl) ?_
                  obtain ⟨hn_30, hp⟩ := hp
                  refine sx_iald (pc := 100) B hH hk_26 hn_30 dX12_distance_100 ?_
                  refine W.eq (g2 := F0 m 101 ls [.int (F_11 a_10 x5_23.toNatClampNeg), .ref a_8, .int (F_11 a_8 ((F_11 a_10 x4_14.toNatClampNeg).toNatClampNeg)), .int x3_22]) rfl ?_
                  obtain ⟨hn_31, hp⟩ := hp
                  refine sx_iald (pc := 101) B hH hk_28 hn_31 dX12_distance_101 ?_
                  refine W.eq (g2 := F0 m 102 ls [.int (F_11 a_8 ((F_11 a_10 x5_23.toNatClampNeg).toNatClampNeg)), .int (F_11 a_8 ((F_11 a_10 x4_14.toNatClampNeg).toNatClampNeg)), .int x3_22]) rfl ?_
                  refine lv_icmp_le (pc := 102) (tgt := 109) hx hb dX12_distance_102 (by decide) (fun cc_32 => ?_) (fun cc_32 => ?_)
                  · have hp := hp.1 cc_32
                    refine lv_iconst (pc := 109) (v := 0) hx hb dX12_distance_109 (by decide) ?_
                    refine lv_iadd (pc := 110) hx hb dX12_distance_110 ?_
                    refine lv_topi (fun v_33 ev_33 => ?_)
                    have hp := hp v_33 ev_33
                    refine lv_istore_n (pc := 111) (lv' := [(3, .int v_33), (0, .ref th), (4, .int x4_14), (5, .int x5_23)]) hx hb dX12_distance_111 rfl hl (by decide) rfl (fun ls hl => ?_)
                    obtain ⟨v_34, ev_34⟩ : ∃ y : Int32, y = x5_23 + 1 := ⟨_, rfl⟩
                    have hp := hp v_34 ev_34
                    refine lv_iinc (pc := 112) (v := v_34) (lv' := [(5, .int v_34), (3, .int v_33), (0, .ref th), (4, .int x4_14)]) hx hb dX12_distance_112 hl (k := 3) rfl (by rw [ev_34]; rfl) (by decide) rfl (fun ls hl => ?_)
                    refine lv_goto (pc := 115) (tgt := 66) hx hb dX12_distance_115 (by decide) ?_
                    obtain ⟨k9, hlt9, hp⟩ := hp
                    exact ih_21 k9 hlt9 _ _ _ _ _ hp hH (lv_sub hl [2, 1, 3, 0] rfl)
                  · have hp := hp.2 cc_32
                    refine lv_iconst (pc := 105) (v := 1) hx hb dX12_distance_105 (by decide) ?_
                    refine lv_goto (pc := 106) (tgt := 110) hx hb dX12_distance_106 (by decide) ?_
                    refine lv_iadd (pc := 110) hx hb dX12_distance_110 ?_
                    refine lv_topi (fun v_35 ev_35 => ?_)
                    have hp := hp v_35 ev_35
                    refine lv_istore_n (pc := 111) (lv' := [(3, .int v_35), (0, .ref th), (4, .int x4_14), (5, .int x5_23)]) hx hb dX12_distance_111 rfl hl (by decide) rfl (fun ls hl => ?_)
                    obtain ⟨v_36, ev_36⟩ : ∃ y : Int32, y = x5_23 + 1 := ⟨_, rfl⟩
                    have hp := hp v_36 ev_36
                    refine lv_iinc (pc := 112) (v := v_36) (lv' := [(5, .int v_36), (3, .int v_35), (0, .ref th), (4, .int x4_14)]) hx hb dX12_distance_112 hl (k := 3) rfl (by rw [ev_36]; rfl) (by decide) rfl (fun ls hl => ?_)
                    refine lv_goto (pc := 115) (tgt := 66) hx hb dX12_distance_115 (by decide) ?_
                    obtain ⟨k9, hlt9, hp⟩ := hp
                    exact ih_21 k9 hlt9 _ _ _ _ _ hp hH (lv_sub hl [2, 1, 3, 0] rfl)
            exact kl_21 k0_21 _ _ _ _ _ h0_21 hH (lv_sub hl [1, 2, 3, 0] rfl)
      exact kl_12 k0_12 _ _ _ _ _ h0_12 hH (lv_sub hl [2, 1, 0] rfl)
    · have hp := hp.2 cc_6
      exact kj_3  _ _ _ hp hH (lv_sub hl [0] rfl)
theorem dX12_numberOfPlaces_0 : decode cX12_numberOfPlaces 0 = .ok (.iconst 0, 1) := by decide +kernel
theorem dX12_numberOfPlaces_1 : decode cX12_numberOfPlaces 1 = .ok (.istore_n 2, 1) := by decide +kernel
theorem dX12_numberOfPlaces_2 : decode cX12_numberOfPlaces 2 = .ok (.iconst 0, 1) := by decide +kernel
theorem dX12_numberOfPlaces_3 : decode cX12_numberOfPlaces 3 = .ok (.istore_n 3, 1) := by decide +kernel
theorem dX12_numberOfPlaces_4 : decode cX12_numberOfPlaces 4 = .ok (.iload_n 3, 1) := by decide +kernel
theorem dX12_numberOfPlaces_5 : decode cX12_numberOfPlaces 5 = .ok (.aload_n 0, 1) := by decide +kernel
theorem dX12_numberOfPlaces_6 : decode cX12_numberOfPlaces 6 = .ok (.getfield 7, 3) := by decide +kernel
theorem dX12_numberOfPlaces_9 : decode cX12_numberOfPlaces 9 = .ok (.iconst 0, 1) := by decide +kernel
theorem dX12_numberOfPlaces_10 : decode cX12_numberOfPlaces 10 = .ok (.iaload, 1) := by decide +kernel
theorem dX12_numberOfPlaces_11 : decode cX12_numberOfPlaces 11 = .ok (.if_icmp .ge 31, 3) := by decide +kernel
theorem dX12_numberOfPlaces_14 : decode cX12_numberOfPlaces 14 = .ok (.iload_n 1, 1) := by decide +kernel
theorem dX12_numberOfPlaces_15 : decode cX12_numberOfPlaces 15 = .ok (.iload_n 3, 1) := by decide +kernel
theorem dX12_numberOfPlaces_16 : decode cX12_numberOfPlaces 16 = .ok (.ishr, 1) := by decide +kernel
theorem dX12_numberOfPlaces_17 : decode cX12_numberOfPlaces 17 = .ok (.iconst 1, 1) := by decide +kernel
theorem dX12_numberOfPlaces_18 : decode cX12_numberOfPlaces 18 = .ok (.iand, 1) := by decide +kernel
theorem dX12_numberOfPlaces_19 : decode cX12_numberOfPlaces 19 = .ok (.iconst 1, 1) := by decide +kernel
theorem dX12_numberOfPlaces_20 : decode cX12_numberOfPlaces 20 = .ok (.if_icmp .ne 14, 3) := by decide +kernel
theorem dX12_numberOfPlaces_23 : decode cX12_numberOfPlaces 23 = .ok (.bipush 10, 2) := by decide +kernel
theorem dX12_numberOfPlaces_25 : decode cX12_numberOfPlaces 25 = .ok (.iload_n 2, 1) := by decide +kernel
theorem dX12_numberOfPlaces_26 : decode cX12_numberOfPlaces 26 = .ok (.imul, 1) := by decide +kernel
theorem dX12_numberOfPlaces_27 : decode cX12_numberOfPlaces 27 = .ok (.iload_n 3, 1) := by decide +kernel
theorem dX12_numberOfPlaces_28 : decode cX12_numberOfPlaces 28 = .ok (.iadd, 1) := by decide +kernel
theorem dX12_numberOfPlaces_29 : decode cX12_numberOfPlaces 29 = .ok (.iconst 1, 1) := by decide +kernel
theorem dX12_numberOfPlaces_30 : decode cX12_numberOfPlaces 30 = .ok (.iadd, 1) := by decide +kernel
theorem dX12_numberOfPlaces_31 : decode cX12_numberOfPlaces 31 = .ok (.goto 4, 3) := by decide +kernel
theorem dX12_numberOfPlaces_34 : decode cX12_numberOfPlaces 34 = .ok (.iload_n 2, 1) := by decide +kernel
theorem dX12_numberOfPlaces_35 : decode cX12_numberOfPlaces 35 = .ok (.istore_n 2, 1) := by decide +kernel
theorem dX12_numberOfPlaces_36 : decode cX12_numberOfPlaces 36 = .ok (.iinc 3 1, 3) := by decide +kernel
theorem dX12_numberOfPlaces_39 : decode cX12_numberOfPlaces 39 = .ok (.goto (-35), 3) := by decide +kernel
theorem dX12_numberOfPlaces_42 : decode cX12_numberOfPlaces 42 = .ok (.iload_n 2, 1) := by decide +kernel
theorem dX12_numberOfPlaces_43 : decode cX12_numberOfPlaces 43 = .ok (.ireturn, 1) := by decide +kernel
theorem mi_X12_numberOfPlaces : MI yX12_numberOfPlaces cX12_numberOfPlaces 4 (some FieldType.int) 1 := ⟨w_1738, w_118, by decide +kernel, by decide +kernel, by decide +kernel⟩
set_option maxRecDepth 100000 in
set_option maxHeartbeats 4000000 in
theorem C_X12_numberOfPlaces (G : GG) (l : Launch) (th : Nat) (p0 : Int32) (S : St) (Q : Int32 → Prop) (hp : P_X12_numberOfPlaces th p0 S Q) : Ctr G l yX12_numberOfPlaces cX12_numberOfPlaces 4 (some FieldType.int) 0 0 0 0 [.ref th, .int p0] S (fun (v : Option Value) (S9 : St) => ∃ (r : Int32), v = some (.int r) ∧ S9 = S ∧ Q r ) := by
  generalize hQQ : (fun (v : Option Value) (S9 : St) => ∃ (r : Int32), v = some (.int r) ∧ S9 = S ∧ Q r ) = QQ
  unfold P_X12_numberOfPlaces at hp
  refine Ctr.of (by decide) (Nat.le_of_ble_eq_true rfl) ?_
  intro p e s m args below meth c ls B hr hlk hin hl hH
  generalize hlocs0 : ([] : List Loc) = locs at hH ⊢
  have hx := B.1
  have hb := B.2.1
  have hl : lv_has ls 4 [(0, .ref th), (1, .int p0)] := hl
  obtain ⟨hk_th, hp⟩ := hp
  refine lv_iconst (pc := 0) (v := 0) hx hb dX12_numberOfPlaces_0 (by decide) ?_
  refine lv_istore_n (pc := 1) (lv' := [(2, .int 0), (0, .ref th), (1, .int p0)]) hx hb dX12_numberOfPlaces_1 rfl hl (by decide) rfl (fun ls hl => ?_)
  refine lv_iconst (pc := 2) (v := 0) hx hb dX12_numberOfPlaces_2 (by decide) ?_
  refine lv_istore_n (pc := 3) (lv' := [(3, .int 0), (2, .int 0), (0, .ref th), (1, .int p0)]) hx hb dX12_numberOfPlaces_3 rfl hl (by decide) rfl (fun ls hl => ?_)
  obtain ⟨I_1, ⟨k0_1, h0_1⟩, hst_1⟩ := hp
  have kl_1 : ∀ (n_1 : Nat) (x2_2 : Int32) (x3_3 : Int32) (H : Heap) (locs : List Loc) (ls : Array Slot), I_1 n_1 x2_2 x3_3 → Hp G (FA S s.heap.size) s.heap S H locs → lv_has ls 4 [(0, .ref th), (1, .int p0), (2, .int x2_2), (3, .int x3_3)] → Wm G p l e { frames := 0, cells := 0, slots := 0, locals := 0 } s m args below meth c S QQ 0 0 H locs 0 0 (F0 m 4 ls []) := by
    intro n_1
    induction n_1 using Nat.strongRecOn with
    | ind n_1 ih_1 =>
      intro x2_2 x3_3 H locs ls hq9 hH hl
      have hp := hst_1 n_1 x2_2 x3_3 hq9
      refine lv_iload_n (pc := 4) hx hb dX12_numberOfPlaces_4 rfl (lv_at hl 3 rfl) ?_
      refine lv_aload_n (pc := 5) hx hb dX12_numberOfPlaces_5 rfl (lv_at hl 0 rfl) ?_
      refine sx_getR (pc := 6) (j := 0) B hH hk_th coX12 rfl w_1304 rfl dX12_numberOfPlaces_6 ?_
      refine W.eq (g2 := F0 m 9 ls [va_rf (gR S th 0), .int x3_3]) rfl ?_
      obtain ⟨a_4, ha_4, hp⟩ := hp
      refine sx_nonnull (x := a_4) ha_4 ?_
      refine lv_iconst (pc := 9) (v := 0) hx hb dX12_numberOfPlaces_9 (by decide) ?_
      obtain ⟨hk_5, hp⟩ := hp
      obtain ⟨hn_6, hp⟩ := hp
      refine sx_iald (pc := 10) B hH hk_5 hn_6 dX12_numberOfPlaces_10 ?_
      refine W.eq (g2 := F0 m 11 ls [.int (gI S a_4 0), .int x3_3]) rfl ?_
      refine lv_icmp_ge (pc := 11) (tgt := 42) hx hb dX12_numberOfPlaces_11 (by decide) (fun cc_7 => ?_) (fun cc_7 => ?_)
      · have hp := hp.1 cc_7
        refine lv_iload_n (pc := 42) hx hb dX12_numberOfPlaces_42 rfl (lv_at hl 2 rfl) ?_
        exact sx_iret (pc := 43) B hH hr hlk (by rw [← hQQ]; exact ⟨_, rfl, rfl, hp⟩) (Nat.le_of_ble_eq_true rfl) (Nat.le_of_ble_eq_true rfl) dX12_numberOfPlaces_43
      · have hp := hp.2 cc_7
        refine lv_iload_n (pc := 14) hx hb dX12_numberOfPlaces_14 rfl (lv_at hl 1 rfl) ?_
        refine lv_iload_n (pc := 15) hx hb dX12_numberOfPlaces_15 rfl (lv_at hl 3 rfl) ?_
        refine lv_ishr (pc := 16) hx hb dX12_numberOfPlaces_16 ?_
        refine W.eq (g2 := F0 m 17 ls [.int (shr p0 x3_3)]) rfl ?_
        refine lv_iconst (pc := 17) (v := 1) hx hb dX12_numberOfPlaces_17 (by decide) ?_
        refine lv_iand (pc := 18) hx hb dX12_numberOfPlaces_18 ?_
        refine lv_iconst (pc := 19) (v := 1) hx hb dX12_numberOfPlaces_19 (by decide) ?_
        refine lv_icmp_ne (pc := 20) (tgt := 34) hx hb dX12_numberOfPlaces_20 (by decide) (fun cc_8 => ?_) (fun cc_8 => ?_)
        · have hp := hp.1 cc_8
          refine lv_iload_n (pc := 34) hx hb dX12_numberOfPlaces_34 rfl (lv_at hl 2 rfl) ?_
          refine lv_istore_n (pc := 35) (lv' := [(2, .int x2_2), (0, .ref th), (1, .int p0), (3, .int x3_3)]) hx hb dX12_numberOfPlaces_35 rfl hl (by decide) rfl (fun ls hl => ?_)
          obtain ⟨v_9, ev_9⟩ : ∃ y : Int32, y = x3_3 + 1 := ⟨_, rfl⟩
          have hp := hp v_9 ev_9
          refine lv_iinc (pc := 36) (v := v_9) (lv' := [(3, .int v_9), (2, .int x2_2), (0, .ref th), (1, .int p0)]) hx hb dX12_numberOfPlaces_36 hl (k := 3) rfl (by rw [ev_9]; rfl) (by decide) rfl (fun ls hl => ?_)
          refine lv_goto (pc := 39) (tgt := 4) hx hb dX12_numberOfPlaces_39 (by decide) ?_
          obtain ⟨k9, hlt9, hp⟩ := hp
          exact ih_1 k9 hlt9 _ _ _ _ _ hp hH (lv_sub hl [2, 3, 1, 0] rfl)
        · have hp := hp.2 cc_8
          refine lv_bipush (pc := 23) (v := 10) hx hb dX12_numberOfPlaces_23 (by decide) ?_
          refine lv_iload_n (pc := 25) hx hb dX12_numberOfPlaces_25 rfl (lv_at hl 2 rfl) ?_
          refine lv_imul (pc := 26) hx hb dX12_numberOfPlaces_26 ?_
          refine lv_iload_n (pc := 27) hx hb dX12_numberOfPlaces_27 rfl (lv_at hl 3 rfl) ?_
          refine lv_iadd (pc := 28) hx hb dX12_numberOfPlaces_28 ?_
          refine lv_iconst (pc := 29) (v := 1) hx hb dX12_numberOfPlaces_29 (by decide) ?_
          refine lv_iadd (pc := 30) hx hb dX12_numberOfPlaces_30 ?_
          refine lv_goto (pc := 31) (tgt := 35) hx hb dX12_numberOfPlaces_31 (by decide) ?_
          refine lv_topi (fun v_10 ev_10 => ?_)
          have hp := hp v_10 ev_10
          refine lv_istore_n (pc := 35) (lv' := [(2, .int v_10), (0, .ref th), (1, .int p0), (3, .int x3_3)]) hx hb dX12_numberOfPlaces_35 rfl hl (by decide) rfl (fun ls hl => ?_)
          obtain ⟨v_11, ev_11⟩ : ∃ y : Int32, y = x3_3 + 1 := ⟨_, rfl⟩
          have hp := hp v_11 ev_11
          refine lv_iinc (pc := 36) (v := v_11) (lv' := [(3, .int v_11), (2, .int v_10), (0, .ref th), (1, .int p0)]) hx hb dX12_numberOfPlaces_36 hl (k := 3) rfl (by rw [ev_11]; rfl) (by decide) rfl (fun ls hl => ?_)
          refine lv_goto (pc := 39) (tgt := 4) hx hb dX12_numberOfPlaces_39 (by decide) ?_
          obtain ⟨k9, hlt9, hp⟩ := hp
          exact ih_1 k9 hlt9 _ _ _ _ _ hp hH (lv_sub hl [2, 3, 1, 0] rfl)
  exact kl_1 k0_1 _ _ _ _ _ h0_1 hH (lv_sub hl [2, 3, 1, 0] rfl)
theorem dX12_staysIn_0 : decode cX12_staysIn 0 = .ok (.aload_n 0, 1) := by decide +kernel
theorem dX12_staysIn_1 : decode cX12_staysIn 1 = .ok (.iload_n 1, 1) := by decide +kernel
theorem dX12_staysIn_2 : decode cX12_staysIn 2 = .ok (.aload_n 0, 1) := by decide +kernel
theorem dX12_staysIn_3 : decode cX12_staysIn 3 = .ok (.getfield 47, 3) := by decide +kernel
theorem dX12_staysIn_6 : decode cX12_staysIn 6 = .ok (.invokevirtual 266, 3) := by decide +kernel
theorem dX12_staysIn_9 : decode cX12_staysIn 9 = .ok (.aload_n 0, 1) := by decide +kernel
theorem dX12_staysIn_10 : decode cX12_staysIn 10 = .ok (.iload_n 2, 1) := by decide +kernel
theorem dX12_staysIn_11 : decode cX12_staysIn 11 = .ok (.aload_n 0, 1) := by decide +kernel
theorem dX12_staysIn_12 : decode cX12_staysIn 12 = .ok (.getfield 50, 3) := by decide +kernel
theorem dX12_staysIn_15 : decode cX12_staysIn 15 = .ok (.invokevirtual 266, 3) := by decide +kernel
theorem dX12_staysIn_18 : decode cX12_staysIn 18 = .ok (.iconst 0, 1) := by decide +kernel
theorem dX12_staysIn_19 : decode cX12_staysIn 19 = .ok (.istore_n 3, 1) := by decide +kernel
theorem dX12_staysIn_20 : decode cX12_staysIn 20 = .ok (.iconst 0, 1) := by decide +kernel
theorem dX12_staysIn_21 : decode cX12_staysIn 21 = .ok (.istore 4, 2) := by decide +kernel
theorem dX12_staysIn_23 : decode cX12_staysIn 23 = .ok (.iload 4, 2) := by decide +kernel
theorem dX12_staysIn_25 : decode cX12_staysIn 25 = .ok (.aload_n 0, 1) := by decide +kernel
theorem dX12_staysIn_26 : decode cX12_staysIn 26 = .ok (.getfield 7, 3) := by decide +kernel
theorem dX12_staysIn_29 : decode cX12_staysIn 29 = .ok (.iconst 0, 1) := by decide +kernel
theorem dX12_staysIn_30 : decode cX12_staysIn 30 = .ok (.iaload, 1) := by decide +kernel
theorem dX12_staysIn_31 : decode cX12_staysIn 31 = .ok (.if_icmp .ge 37, 3) := by decide +kernel
theorem dX12_staysIn_34 : decode cX12_staysIn 34 = .ok (.iload_n 3, 1) := by decide +kernel
theorem dX12_staysIn_35 : decode cX12_staysIn 35 = .ok (.aload_n 0, 1) := by decide +kernel
theorem dX12_staysIn_36 : decode cX12_staysIn 36 = .ok (.getfield 47, 3) := by decide +kernel
theorem dX12_staysIn_39 : decode cX12_staysIn 39 = .ok (.iload 4, 2) := by decide +kernel
theorem dX12_staysIn_41 : decode cX12_staysIn 41 = .ok (.iaload, 1) := by decide +kernel
theorem dX12_staysIn_42 : decode cX12_staysIn 42 = .ok (.aload_n 0, 1) := by decide +kernel
theorem dX12_staysIn_43 : decode cX12_staysIn 43 = .ok (.getfield 50, 3) := by decide +kernel
theorem dX12_staysIn_46 : decode cX12_staysIn 46 = .ok (.iload 4, 2) := by decide +kernel
theorem dX12_staysIn_48 : decode cX12_staysIn 48 = .ok (.iaload, 1) := by decide +kernel
theorem dX12_staysIn_49 : decode cX12_staysIn 49 = .ok (.if_icmp .ne 10, 3) := by decide +kernel
theorem dX12_staysIn_52 : decode cX12_staysIn 52 = .ok (.iconst 1, 1) := by decide +kernel
theorem dX12_staysIn_53 : decode cX12_staysIn 53 = .ok (.iload 4, 2) := by decide +kernel
theorem dX12_staysIn_55 : decode cX12_staysIn 55 = .ok (.ishl, 1) := by decide +kernel
theorem dX12_staysIn_56 : decode cX12_staysIn 56 = .ok (.goto 4, 3) := by decide +kernel
theorem dX12_staysIn_59 : decode cX12_staysIn 59 = .ok (.iconst 0, 1) := by decide +kernel
theorem dX12_staysIn_60 : decode cX12_staysIn 60 = .ok (.ior, 1) := by decide +kernel
theorem dX12_staysIn_61 : decode cX12_staysIn 61 = .ok (.istore_n 3, 1) := by decide +kernel
theorem dX12_staysIn_62 : decode cX12_staysIn 62 = .ok (.iinc 4 1, 3) := by decide +kernel
theorem dX12_staysIn_65 : decode cX12_staysIn 65 = .ok (.goto (-42), 3) := by decide +kernel
theorem dX12_staysIn_68 : decode cX12_staysIn 68 = .ok (.iload_n 3, 1) := by decide +kernel
theorem dX12_staysIn_69 : decode cX12_staysIn 69 = .ok (.ireturn, 1) := by decide +kernel
theorem mi_X12_staysIn : MI yX12_staysIn cX12_staysIn 5 (some FieldType.int) 2 := ⟨w_1734, w_118, by decide +kernel, by decide +kernel, by decide +kernel⟩
set_option maxRecDepth 100000 in
set_option maxHeartbeats 4000000 in
theorem C_X12_staysIn (G : GG) (l : Launch) (th : Nat) (p0 : Int32) (p1 : Int32) (S : St) (Q : Int32 → (Nat → Nat → Int32) → Prop) (hp : P_X12_staysIn th p0 p1 S Q) : Ctr G l yX12_staysIn cX12_staysIn 5 (some FieldType.int) 2 51 0 0 [.ref th, .int p0, .int p1] S (fun (v : Option Value) (S9 : St) => ∃ (r : Int32) (I9 : Nat → Nat → Int32), v = some (.int r) ∧ S9 = wI S I9 ∧ Q r I9) := by
  generalize hQQ : (fun (v : Option Value) (S9 : St) => ∃ (r : Int32) (I9 : Nat → Nat → Int32), v = some (.int r) ∧ S9 = wI S I9 ∧ Q r I9) = QQ
  unfold P_X12_staysIn at hp
  refine Ctr.of (by decide) (Nat.le_of_ble_eq_true rfl) ?_
  intro p e s m args below meth c ls B hr hlk hin hl hH
  generalize hlocs0 : ([] : List Loc) = locs at hH ⊢
  have hx := B.1
  have hb := B.2.1
  have hl : lv_has ls 5 [(0, .ref th), (1, .int p0), (2, .int p1)] := hl
  obtain ⟨hk_th, hp⟩ := hp
  refine lv_aload_n (pc := 0) hx hb dX12_staysIn_0 rfl (lv_at hl 0 rfl) ?_
  refine lv_iload_n (pc := 1) hx hb dX12_staysIn_1 rfl (lv_at hl 1 rfl) ?_
  refine lv_aload_n (pc := 2) hx hb dX12_staysIn_2 rfl (lv_at hl 0 rfl) ?_
  refine sx_getR (pc := 3) (j := 23) B hH hk_th coX12 rfl w_1327 rfl dX12_staysIn_3 ?_
  refine W.eq (g2 := F0 m 6 ls [va_rf (gR S th 23), .int p0, .ref th]) rfl ?_
  obtain ⟨a_1, ha_1, hp⟩ := hp
  refine sx_nonnull (x := a_1) ha_1 ?_
  refine sx_V (pc := 6) (As := [.int p0, .ref a_1]) (rest := []) B hH hl.1 (C_X12_laysRow G l th p0 a_1 _ _ hp) mi_X12_laysRow coX12 hk_th w_1657 w_76 w_1655 rfl rfl ⟨Nat.le_of_ble_eq_true rfl, Nat.le_of_ble_eq_true rfl⟩ (Nat.le_of_ble_eq_true rfl) ⟨Nat.le_of_ble_eq_true rfl, Nat.le_of_ble_eq_true rfl⟩ dX12_staysIn_6 (fun v S1 H locs hq hH => ?_)
  obtain ⟨F_2, rfl, e9, hp⟩ := hq
  rw [e9] at hH
  have hH : Hp G (FA S s.heap.size) s.heap (wI S F_2) H locs := hH
  refine W.eq (g2 := F0 m 9 ls []) rfl ?_
  refine lv_aload_n (pc := 9) hx hb dX12_staysIn_9 rfl (lv_at hl 0 rfl) ?_
  refine lv_iload_n (pc := 10) hx hb dX12_staysIn_10 rfl (lv_at hl 2 rfl) ?_
  refine lv_aload_n (pc := 11) hx hb dX12_staysIn_11 rfl (lv_at hl 0 rfl) ?_
  refine sx_getR (pc := 12) (j := 24) B hH hk_th coX12 rfl w_1328 rfl dX12_staysIn_12 ?_
  refine W.eq (g2 := F0 m 15 ls [va_rf (gR S th 24), .int p1, .ref th]) rfl ?_
  obtain ⟨a_3, ha_3, hp⟩ := hp
  refine sx_nonnull (x := a_3) ha_3 ?_
  refine sx_V (pc := 15) (As := [.int p1, .ref a_3]) (rest := []) B hH hl.1 (C_X12_laysRow G l th p1 a_3 _ _ hp) mi_X12_laysRow coX12 hk_th w_1657 w_76 w_1655 rfl rfl ⟨Nat.le_of_ble_eq_true rfl, Nat.le_of_ble_eq_true rfl⟩ (Nat.le_of_ble_eq_true rfl) ⟨Nat.le_of_ble_eq_true rfl, Nat.le_of_ble_eq_true rfl⟩ dX12_staysIn_15 (fun v S1 H locs hq hH => ?_)
  obtain ⟨F_4, rfl, e9, hp⟩ := hq
  rw [e9] at hH
  have hH : Hp G (FA S s.heap.size) s.heap (wI S F_4) H locs := hH
  refine W.eq (g2 := F0 m 18 ls []) rfl ?_
  refine lv_iconst (pc := 18) (v := 0) hx hb dX12_staysIn_18 (by decide) ?_
  refine lv_istore_n (pc := 19) (lv' := [(3, .int 0), (0, .ref th), (1, .int p0), (2, .int p1)]) hx hb dX12_staysIn_19 rfl hl (by decide) rfl (fun ls hl => ?_)
  refine lv_iconst (pc := 20) (v := 0) hx hb dX12_staysIn_20 (by decide) ?_
  refine lv_istore (pc := 21) (lv' := [(4, .int 0), (3, .int 0), (0, .ref th), (1, .int p0), (2, .int p1)]) hx hb dX12_staysIn_21 hl (by decide) rfl (fun ls hl => ?_)
  obtain ⟨I_5, ⟨k0_5, h0_5⟩, hst_5⟩ := hp
  have kl_5 : ∀ (n_5 : Nat) (x3_6 : Int32) (x4_7 : Int32) (H : Heap) (locs : List Loc) (ls : Array Slot), I_5 n_5 x3_6 x4_7 → Hp G (FA S s.heap.size) s.heap (wI S F_4) H locs → lv_has ls 5 [(0, .ref th), (3, .int x3_6), (4, .int x4_7)] → Wm G p l e { frames := 2, cells := 0, slots := 0, locals := 51 } s m args below meth c S QQ 0 0 H locs 0 0 (F0 m 23 ls []) := by
    intro n_5
    induction n_5 using Nat.strongRecOn with
    | ind n_5 ih_5 =>
      intro x3_6 x4_7 H locs ls hq9 hH hl
      have hp := hst_5 n_5 x3_6 x4_7 hq9
      refine lv_iload (pc := 23) hx hb dX12_staysIn_23 (lv_at hl 2 rfl) ?_
      refine lv_aload_n (pc := 25) hx hb dX12_staysIn_25 rfl (lv_at hl 0 rfl) ?_
      refine sx_getR (pc := 26) (j := 0) B hH hk_th coX12 rfl w_1304 rfl dX12_staysIn_26 ?_
      refine W.eq (g2 := F0 m 29 ls [va_rf (gR S th 0), .int x4_7]) rfl ?_
      obtain ⟨a_8, ha_8, hp⟩ := hp
      refine sx_nonnull (x := a_8) ha_8 ?_
      refine lv_iconst (pc := 29) (v := 0) hx hb dX12_staysIn_29 (by decide) ?_
      obtain ⟨hk_9, hp⟩ := hp
      obtain ⟨hn_10, hp⟩ := hp
      refine sx_iald (pc := 30) B hH hk_9 hn_10 dX12_staysIn_30 ?_
      refine W.eq (g2 := F0 m 31 ls [.int (F_4 a_8 0), .int x4_7]) rfl ?_
      refine lv_icmp_ge (pc := 31) (tgt := 68) hx hb dX12_staysIn_31 (by decide) (fun cc_11 => ?_) (fun cc_11 => ?_)
      · have hp := hp.1 cc_11
        refine lv_iload_n (pc := 68) hx hb dX12_staysIn_68 rfl (lv_at hl 1 rfl) ?_
        exact sx_iret (pc := 69) B hH hr hlk (by rw [← hQQ]; exact ⟨_, F_4, rfl, rfl, hp⟩) (Nat.le_of_ble_eq_true rfl) (Nat.le_of_ble_eq_true rfl) dX12_staysIn_69
      · have hp := hp.2 cc_11
        refine lv_iload_n (pc := 34) hx hb dX12_staysIn_34 rfl (lv_at hl 1 rfl) ?_
        refine lv_aload_n (pc := 35) hx hb dX12_staysIn_35 rfl (lv_at hl 0 rfl) ?_
        refine sx_getR (pc := 36) (j := 23) B hH hk_th coX12 rfl w_1327 rfl dX12_staysIn_36 ?_
        refine W.eq (g2 := F0 m 39 ls [va_rf (gR S th 23), .int x3_6]) rfl ?_
        refine sx_nonnull (x := a_1) ha_1 ?_
        refine lv_iload (pc := 39) hx hb dX12_staysIn_39 (lv_at hl 2 rfl) ?_
        obtain ⟨hk_12, hp⟩ := hp
        obtain ⟨hn_13, hp⟩ := hp
        refine sx_iald (pc := 41) B hH hk_12 hn_13 dX12_staysIn_41 ?_
        refine W.eq (g2 := F0 m 42 ls [.int (F_4 a_1 x4_7.toNatClampNeg), .int x3_6]) rfl ?_
        refine lv_aload_n (pc := 42) hx hb dX12_staysIn_42 rfl (lv_at hl 0 rfl) ?_
        refine sx_getR (pc := 43) (j := 24) B hH hk_th coX12 rfl w_1328 rfl dX12_staysIn_43 ?_
        refine W.eq (g2 := F0 m 46 ls [va_rf (gR S th 24), .int (F_4 a_1 x4_7.toNatClampNeg), .int x3_6]) rfl ?_
        refine sx_nonnull (x := a_3) ha_3 ?_
        refine lv_iload (pc := 46) hx hb dX12_staysIn_46 (lv_at hl 2 rfl) ?_
        obtain ⟨hk_14, hp⟩ := hp
        obtain ⟨hn_15, hp⟩ := hp
        refine sx_iald (pc := 48) B hH hk_14 hn_15 dX12_staysIn_48 ?_
        refine W.eq (g2 := F0 m 49 ls [.int (F_4 a_3 x4_7.toNatClampNeg), .int (F_4 a_1 x4_7.toNatClampNeg), .int x3_6]) rfl ?_
        refine lv_icmp_ne (pc := 49) (tgt := 59) hx hb dX12_staysIn_49 (by decide) (fun cc_16 => ?_) (fun cc_16 => ?_)
        · have hp := hp.1 cc_16
          refine lv_iconst (pc := 59) (v := 0) hx hb dX12_staysIn_59 (by decide) ?_
          refine lv_ior (pc := 60) hx hb dX12_staysIn_60 ?_
          refine lv_topi (fun v_17 ev_17 => ?_)
          have hp := hp v_17 ev_17
          refine lv_istore_n (pc := 61) (lv' := [(3, .int v_17), (0, .ref th), (4, .int x4_7)]) hx hb dX12_staysIn_61 rfl hl (by decide) rfl (fun ls hl => ?_)
          obtain ⟨v_18, ev_18⟩ : ∃ y : Int32, y = x4_7 + 1 := ⟨_, rfl⟩
          have hp := hp v_18 ev_18
          refine lv_iinc (pc := 62) (v := v_18) (lv' := [(4, .int v_18), (3, .int v_17), (0, .ref th)]) hx hb dX12_staysIn_62 hl (k := 2) rfl (by rw [ev_18]; rfl) (by decide) rfl (fun ls hl => ?_)
          refine lv_goto (pc := 65) (tgt := 23) hx hb dX12_staysIn_65 (by decide) ?_
          obtain ⟨k9, hlt9, hp⟩ := hp
          exact ih_5 k9 hlt9 _ _ _ _ _ hp hH (lv_sub hl [2, 1, 0] rfl)
        · have hp := hp.2 cc_16
          refine lv_iconst (pc := 52) (v := 1) hx hb dX12_staysIn_52 (by decide) ?_
          refine lv_iload (pc := 53) hx hb dX12_staysIn_53 (lv_at hl 2 rfl) ?_
          refine lv_ishl (pc := 55) hx hb dX12_staysIn_55 ?_
          refine W.eq (g2 := F0 m 56 ls [.int (shl 1 x4_7), .int x3_6]) rfl ?_
          refine lv_goto (pc := 56) (tgt := 60) hx hb dX12_staysIn_56 (by decide) ?_
          refine lv_ior (pc := 60) hx hb dX12_staysIn_60 ?_
          refine lv_topi (fun v_19 ev_19 => ?_)
          have hp := hp v_19 ev_19
          refine lv_istore_n (pc := 61) (lv' := [(3, .int v_19), (0, .ref th), (4, .int x4_7)]) hx hb dX12_staysIn_61 rfl hl (by decide) rfl (fun ls hl => ?_)
          obtain ⟨v_20, ev_20⟩ : ∃ y : Int32, y = x4_7 + 1 := ⟨_, rfl⟩
          have hp := hp v_20 ev_20
          refine lv_iinc (pc := 62) (v := v_20) (lv' := [(4, .int v_20), (3, .int v_19), (0, .ref th)]) hx hb dX12_staysIn_62 hl (k := 2) rfl (by rw [ev_20]; rfl) (by decide) rfl (fun ls hl => ?_)
          refine lv_goto (pc := 65) (tgt := 23) hx hb dX12_staysIn_65 (by decide) ?_
          obtain ⟨k9, hlt9, hp⟩ := hp
          exact ih_5 k9 hlt9 _ _ _ _ _ hp hH (lv_sub hl [2, 1, 0] rfl)
  exact kl_5 k0_5 _ _ _ _ _ h0_5 hH (lv_sub hl [2, 1, 0] rfl)
theorem dX12_between_0 : decode cX12_between 0 = .ok (.aload_n 0, 1) := by decide +kernel
theorem dX12_between_1 : decode cX12_between 1 = .ok (.iload_n 1, 1) := by decide +kernel
theorem dX12_between_2 : decode cX12_between 2 = .ok (.invokevirtual 277, 3) := by decide +kernel
theorem dX12_between_5 : decode cX12_between 5 = .ok (.ifCond .eq 11, 3) := by decide +kernel
theorem dX12_between_8 : decode cX12_between 8 = .ok (.aload_n 0, 1) := by decide +kernel
theorem dX12_between_9 : decode cX12_between 9 = .ok (.iload_n 2, 1) := by decide +kernel
theorem dX12_between_10 : decode cX12_between 10 = .ok (.invokevirtual 277, 3) := by decide +kernel
theorem dX12_between_13 : decode cX12_between 13 = .ok (.ifCond .ne 9, 3) := by decide +kernel
theorem dX12_between_16 : decode cX12_between 16 = .ok (.aload_n 0, 1) := by decide +kernel
theorem dX12_between_17 : decode cX12_between 17 = .ok (.iconst 1, 1) := by decide +kernel
theorem dX12_between_18 : decode cX12_between 18 = .ok (.invokevirtual 105, 3) := by decide +kernel
theorem dX12_between_21 : decode cX12_between 21 = .ok (.ireturn, 1) := by decide +kernel
theorem dX12_between_22 : decode cX12_between 22 = .ok (.aload_n 0, 1) := by decide +kernel
theorem dX12_between_23 : decode cX12_between 23 = .ok (.iload_n 1, 1) := by decide +kernel
theorem dX12_between_24 : decode cX12_between 24 = .ok (.iload_n 2, 1) := by decide +kernel
theorem dX12_between_25 : decode cX12_between 25 = .ok (.invokevirtual 308, 3) := by decide +kernel
theorem dX12_between_28 : decode cX12_between 28 = .ok (.istore_n 3, 1) := by decide +kernel
theorem dX12_between_29 : decode cX12_between 29 = .ok (.iload_n 3, 1) := by decide +kernel
theorem dX12_between_30 : decode cX12_between 30 = .ok (.aload_n 0, 1) := by decide +kernel
theorem dX12_between_31 : decode cX12_between 31 = .ok (.getfield 7, 3) := by decide +kernel
theorem dX12_between_34 : decode cX12_between 34 = .ok (.iconst 0, 1) := by decide +kernel
theorem dX12_between_35 : decode cX12_between 35 = .ok (.iaload, 1) := by decide +kernel
theorem dX12_between_36 : decode cX12_between 36 = .ok (.invokestatic 201, 3) := by decide +kernel
theorem dX12_between_39 : decode cX12_between 39 = .ok (.ifCond .ne 10, 3) := by decide +kernel
theorem dX12_between_42 : decode cX12_between 42 = .ok (.aload_n 0, 1) := by decide +kernel
theorem dX12_between_43 : decode cX12_between 43 = .ok (.bipush 7, 2) := by decide +kernel
theorem dX12_between_45 : decode cX12_between 45 = .ok (.invokevirtual 105, 3) := by decide +kernel
theorem dX12_between_48 : decode cX12_between 48 = .ok (.ireturn, 1) := by decide +kernel
theorem dX12_between_49 : decode cX12_between 49 = .ok (.aload_n 0, 1) := by decide +kernel
theorem dX12_between_50 : decode cX12_between 50 = .ok (.iload_n 3, 1) := by decide +kernel
theorem dX12_between_51 : decode cX12_between 51 = .ok (.iconst 0, 1) := by decide +kernel
theorem dX12_between_52 : decode cX12_between 52 = .ok (.invokevirtual 302, 3) := by decide +kernel
theorem dX12_between_55 : decode cX12_between 55 = .ok (.aload_n 0, 1) := by decide +kernel
theorem dX12_between_56 : decode cX12_between 56 = .ok (.aload_n 0, 1) := by decide +kernel
theorem dX12_between_57 : decode cX12_between 57 = .ok (.getfield 47, 3) := by decide +kernel
theorem dX12_between_60 : decode cX12_between 60 = .ok (.invokevirtual 270, 3) := by decide +kernel
theorem dX12_between_63 : decode cX12_between 63 = .ok (.iload_n 2, 1) := by decide +kernel
theorem dX12_between_64 : decode cX12_between 64 = .ok (.if_icmp .ne 15, 3) := by decide +kernel
theorem dX12_between_67 : decode cX12_between 67 = .ok (.aload_n 0, 1) := by decide +kernel
theorem dX12_between_68 : decode cX12_between 68 = .ok (.aload_n 0, 1) := by decide +kernel
theorem dX12_between_69 : decode cX12_between 69 = .ok (.iload_n 3, 1) := by decide +kernel
theorem dX12_between_70 : decode cX12_between 70 = .ok (.invokevirtual 311, 3) := by decide +kernel
theorem dX12_between_73 : decode cX12_between 73 = .ok (.invokevirtual 109, 3) := by decide +kernel
theorem dX12_between_76 : decode cX12_between 76 = .ok (.goto 9, 3) := by decide +kernel
theorem dX12_between_79 : decode cX12_between 79 = .ok (.aload_n 0, 1) := by decide +kernel
theorem dX12_between_80 : decode cX12_between 80 = .ok (.bipush 7, 2) := by decide +kernel
theorem dX12_between_82 : decode cX12_between 82 = .ok (.invokevirtual 105, 3) := by decide +kernel
theorem dX12_between_85 : decode cX12_between 85 = .ok (.ireturn, 1) := by decide +kernel
theorem mi_X12_between : MI yX12_between cX12_between 4 (some FieldType.int) 2 := ⟨w_1730, w_118, by decide +kernel, by decide +kernel, by decide +kernel⟩
set_option maxRecDepth 100000 in
set_option maxHeartbeats 4000000 in
theorem C_X12_between (G : GG) (l : Launch) (th : Nat) (p0 : Int32) (p1 : Int32) (S : St) (Q : Int32 → (Nat → Nat → Int32) → Prop) (hp : P_X12_between th p0 p1 S Q) : Ctr G l yX12_between cX12_between 4 (some FieldType.int) 3 75 0 0 [.ref th, .int p0, .int p1] S (fun (v : Option Value) (S9 : St) => ∃ (r : Int32) (I9 : Nat → Nat → Int32), v = some (.int r) ∧ S9 = wI S I9 ∧ Q r I9) := by
  generalize hQQ : (fun (v : Option Value) (S9 : St) => ∃ (r : Int32) (I9 : Nat → Nat → Int32), v = some (.int r) ∧ S9 = wI S I9 ∧ Q r I9) = QQ
  unfold P_X12_between at hp
  refine Ctr.of (by decide) (Nat.le_of_ble_eq_true rfl) ?_
  intro p e s m args below meth c ls B hr hlk hin hl hH
  generalize hlocs0 : ([] : List Loc) = locs at hH ⊢
  have hx := B.1
  have hb := B.2.1
  have hl : lv_has ls 4 [(0, .ref th), (1, .int p0), (2, .int p1)] := hl
  obtain ⟨hk_th, hp⟩ := hp
  refine lv_aload_n (pc := 0) hx hb dX12_between_0 rfl (lv_at hl 0 rfl) ?_
  refine lv_iload_n (pc := 1) hx hb dX12_between_1 rfl (lv_at hl 1 rfl) ?_
  refine sx_V (pc := 2) (As := [.int p0]) (rest := []) B hH hl.1 (C_X12_isRow G l th p0 _ _ hp) mi_X12_isRow coX12 hk_th w_1649 w_74 w_1647 rfl rfl ⟨Nat.le_of_ble_eq_true rfl, Nat.le_of_ble_eq_true rfl⟩ (Nat.le_of_ble_eq_true rfl) ⟨Nat.le_of_ble_eq_true rfl, Nat.le_of_ble_eq_true rfl⟩ dX12_between_2 (fun v S1 H locs hq hH => ?_)
  obtain ⟨r_1, rfl, e9, hp⟩ := hq
  rw [e9] at hH
  refine W.eq (g2 := F0 m 5 ls [.int r_1]) rfl ?_
  obtain ⟨J_3, hj_3, hp⟩ := hp
  have kj_3 : ∀  (H : Heap) (locs : List Loc) (ls : Array Slot), J_3  → Hp G (FA S s.heap.size) s.heap S H locs → lv_has ls 4 [(0, .ref th)] → Wm G p l e { frames := 3, cells := 0, slots := 0, locals := 75 } s m args below meth c S QQ 0 0 H locs 0 0 (F0 m 16 ls []) := by
    intro  H locs ls hq9 hH hl
    have hp := hj_3  hq9
    refine lv_aload_n (pc := 16) hx hb dX12_between_16 rfl (lv_at hl 0 rfl) ?_
    refine lv_iconst (pc := 17) (v := 1) hx hb dX12_between_17 (by decide) ?_
    refine sx_V (pc := 18) (As := [.int 1]) (rest := []) B hH hl.1 (C_X12_refuse G l th 1 _ _ hp) mi_X12_refuse coX12 hk_th w_1539 w_51 w_1537 rfl rfl ⟨Nat.le_of_ble_eq_true rfl, Nat.le_of_ble_eq_true rfl⟩ (Nat.le_of_ble_eq_true rfl) ⟨Nat.le_of_ble_eq_true rfl, Nat.le_of_ble_eq_true rfl⟩ dX12_between_18 (fun v S1 H locs hq hH => ?_)
    obtain ⟨r_4, F_4, rfl, e9, hp⟩ := hq
    rw [e9] at hH
    have hH : Hp G (FA S s.heap.size) s.heap (wI S F_4) H locs := hH
    refine W.eq (g2 := F0 m 21 ls [.int r_4]) rfl ?_
    exact sx_iret (pc := 21) B hH hr hlk (by rw [← hQQ]; exact ⟨_, F_4, rfl, rfl, hp⟩) (Nat.le_of_ble_eq_true rfl) (Nat.le_of_ble_eq_true rfl) dX12_between_21
  refine lv_if_eq (pc := 5) (tgt := 16) hx hb dX12_between_5 (by decide) (fun cc_2 => ?_) (fun cc_2 => ?_)
  · have hp := hp.1 cc_2
    exact kj_3  _ _ _ hp hH (lv_sub hl [0] rfl)
  · have hp := hp.2 cc_2
    refine lv_aload_n (pc := 8) hx hb dX12_between_8 rfl (lv_at hl 0 rfl) ?_
    refine lv_iload_n (pc := 9) hx hb dX12_between_9 rfl (lv_at hl 2 rfl) ?_
    refine sx_V (pc := 10) (As := [.int p1]) (rest := []) B hH hl.1 (C_X12_isRow G l th p1 _ _ hp) mi_X12_isRow coX12 hk_th w_1649 w_74 w_1647 rfl rfl ⟨Nat.le_of_ble_eq_true rfl, Nat.le_of_ble_eq_true rfl⟩ (Nat.le_of_ble_eq_true rfl) ⟨Nat.le_of_ble_eq_true rfl, Nat.le_of_ble_eq_true rfl⟩ dX12_between_10 (fun v S1 H locs hq hH => ?_)
    obtain ⟨r_5, rfl, e9, hp⟩ := hq
    rw [e9] at hH
    refine W.eq (g2 := F0 m 13 ls [.int r_5]) rfl ?_
    refine lv_if_ne (pc := 13) (tgt := 22) hx hb dX12_between_13 (by decide) (fun cc_6 => ?_) (fun cc_6 => ?_)
    · have hp := hp.1 cc_6
      refine lv_aload_n (pc := 22) hx hb dX12_between_22 rfl (lv_at hl 0 rfl) ?_
      refine lv_iload_n (pc := 23) hx hb dX12_between_23 rfl (lv_at hl 1 rfl) ?_
      refine lv_iload_n (pc := 24) hx hb dX12_between_24 rfl (lv_at hl 2 rfl) ?_
      refine sx_V (pc := 25) (As := [.int p0, .int p1]) (rest := []) B hH hl.1 (C_X12_staysIn G l th p0 p1 _ _ hp) mi_X12_staysIn coX12 hk_th w_1733 w_84 w_1731 rfl rfl ⟨Nat.le_of_ble_eq_true rfl, Nat.le_of_ble_eq_true rfl⟩ (Nat.le_of_ble_eq_true rfl) ⟨Nat.le_of_ble_eq_true rfl, Nat.le_of_ble_eq_true rfl⟩ dX12_between_25 (fun v S1 H locs hq hH => ?_)
      obtain ⟨r_7, F_7, rfl, e9, hp⟩ := hq
      rw [e9] at hH
      have hH : Hp G (FA S s.heap.size) s.heap (wI S F_7) H locs := hH
      refine W.eq (g2 := F0 m 28 ls [.int r_7]) rfl ?_
      refine lv_istore_n (pc := 28) (lv' := [(3, .int r_7), (0, .ref th), (1, .int p0), (2, .int p1)]) hx hb dX12_between_28 rfl hl (by decide) rfl (fun ls hl => ?_)
      refine lv_iload_n (pc := 29) hx hb dX12_between_29 rfl (lv_at hl 0 rfl) ?_
      refine lv_aload_n (pc := 30) hx hb dX12_between_30 rfl (lv_at hl 1 rfl) ?_
      refine sx_getR (pc := 31) (j := 0) B hH hk_th coX12 rfl w_1304 rfl dX12_between_31 ?_
      refine W.eq (g2 := F0 m 34 ls [va_rf (gR S th 0), .int r_7]) rfl ?_
      obtain ⟨a_8, ha_8, hp⟩ := hp
      refine sx_nonnull (x := a_8) ha_8 ?_
      refine lv_iconst (pc := 34) (v := 0) hx hb dX12_between_34 (by decide) ?_
      obtain ⟨hk_9, hp⟩ := hp
      obtain ⟨hn_10, hp⟩ := hp
      refine sx_iald (pc := 35) B hH hk_9 hn_10 dX12_between_35 ?_
      refine W.eq (g2 := F0 m 36 ls [.int (F_7 a_8 0), .int r_7]) rfl ?_
      refine sx_S (pc := 36) (As := [.int r_7, .int (F_7 a_8 0)]) (rest := []) B hH hl.1 (C_X12_canChange G l r_7 (F_7 a_8 0) _ _ hp) mi_X12_canChange w_1601 w_1600 rfl rfl ⟨Nat.le_of_ble_eq_true rfl, Nat.le_of_ble_eq_true rfl⟩ (Nat.le_of_ble_eq_true rfl) ⟨Nat.le_of_ble_eq_true rfl, Nat.le_of_ble_eq_true rfl⟩ dX12_between_36 (fun v S1 H locs hq hH => ?_)
      obtain ⟨r_11, rfl, e9, hp⟩ := hq
      rw [e9] at hH
      refine W.eq (g2 := F0 m 39 ls [.int r_11]) rfl ?_
      refine lv_if_ne (pc := 39) (tgt := 49) hx hb dX12_between_39 (by decide) (fun cc_12 => ?_) (fun cc_12 => ?_)
      · have hp := hp.1 cc_12
        refine lv_aload_n (pc := 49) hx hb dX12_between_49 rfl (lv_at hl 1 rfl) ?_
        refine lv_iload_n (pc := 50) hx hb dX12_between_50 rfl (lv_at hl 0 rfl) ?_
        refine lv_iconst (pc := 51) (v := 0) hx hb dX12_between_51 (by decide) ?_
        refine sx_V (pc := 52) (As := [.int r_7, .int 0]) (rest := []) B hH hl.1 (C_X12_changes0 G l th r_7 0 _ _ hp) mi_X12_changes0 coX12 hk_th w_1712 w_83 w_1710 rfl rfl ⟨Nat.le_of_ble_eq_true rfl, Nat.le_of_ble_eq_true rfl⟩ (Nat.le_of_ble_eq_true rfl) ⟨Nat.le_of_ble_eq_true rfl, Nat.le_of_ble_eq_true rfl⟩ dX12_between_52 (fun v S1 H locs hq hH => ?_)
        obtain ⟨F_13, rfl, e9, hp⟩ := hq
        rw [e9] at hH
        have hH : Hp G (FA S s.heap.size) s.heap (wI S F_13) H locs := hH
        refine W.eq (g2 := F0 m 55 ls []) rfl ?_
        refine lv_aload_n (pc := 55) hx hb dX12_between_55 rfl (lv_at hl 1 rfl) ?_
        refine lv_aload_n (pc := 56) hx hb dX12_between_56 rfl (lv_at hl 1 rfl) ?_
        refine sx_getR (pc := 57) (j := 23) B hH hk_th coX12 rfl w_1327 rfl dX12_between_57 ?_
        refine W.eq (g2 := F0 m 60 ls [va_rf (gR S th 23), .ref th]) rfl ?_
        obtain ⟨a_14, ha_14, hp⟩ := hp
        refine sx_nonnull (x := a_14) ha_14 ?_
        refine sx_V (pc := 60) (As := [.ref a_14]) (rest := []) B hH hl.1 (C_X12_numberOf G l th a_14 _ _ hp) mi_X12_numberOf coX12 hk_th w_1668 w_77 w_1666 rfl rfl ⟨Nat.le_of_ble_eq_true rfl, Nat.le_of_ble_eq_true rfl⟩ (Nat.le_of_ble_eq_true rfl) ⟨Nat.le_of_ble_eq_true rfl, Nat.le_of_ble_eq_true rfl⟩ dX12_between_60 (fun v S1 H locs hq hH => ?_)
        obtain ⟨r_15, rfl, e9, hp⟩ := hq
        rw [e9] at hH
        refine W.eq (g2 := F0 m 63 ls [.int r_15]) rfl ?_
        refine lv_iload_n (pc := 63) hx hb dX12_between_63 rfl (lv_at hl 3 rfl) ?_
        refine lv_icmp_ne (pc := 64) (tgt := 79) hx hb dX12_between_64 (by decide) (fun cc_16 => ?_) (fun cc_16 => ?_)
        · have hp := hp.1 cc_16
          refine lv_aload_n (pc := 79) hx hb dX12_between_79 rfl (lv_at hl 1 rfl) ?_
          refine lv_bipush (pc := 80) (v := 7) hx hb dX12_between_80 (by decide) ?_
          refine sx_V (pc := 82) (As := [.int 7]) (rest := []) B hH hl.1 (C_X12_refuse G l th 7 _ _ hp) mi_X12_refuse coX12 hk_th w_1539 w_51 w_1537 rfl rfl ⟨Nat.le_of_ble_eq_true rfl, Nat.le_of_ble_eq_true rfl⟩ (Nat.le_of_ble_eq_true rfl) ⟨Nat.le_of_ble_eq_true rfl, Nat.le_of_ble_eq_true rfl⟩ dX12_between_82 (fun v S1 H locs hq hH => ?_)
          obtain ⟨r_17, F_17, rfl, e9, hp⟩ := hq
          rw [e9] at hH
          have hH : Hp G (FA S s.heap.size) s.heap (wI S F_17) H locs := hH
          refine W.eq (g2 := F0 m 85 ls [.int r_17]) rfl ?_
          exact sx_iret (pc := 85) B hH hr hlk (by rw [← hQQ]; exact ⟨_, F_17, rfl, rfl, hp⟩) (Nat.le_of_ble_eq_true rfl) (Nat.le_of_ble_eq_true rfl) dX12_between_85
        · have hp := hp.2 cc_16
          refine lv_aload_n (pc := 67) hx hb dX12_between_67 rfl (lv_at hl 1 rfl) ?_
          refine lv_aload_n (pc := 68) hx hb dX12_between_68 rfl (lv_at hl 1 rfl) ?_
          refine lv_iload_n (pc := 69) hx hb dX12_between_69 rfl (lv_at hl 0 rfl) ?_
          refine sx_V (pc := 70) (As := [.int r_7]) (rest := [.ref th]) B hH hl.1 (C_X12_numberOfPlaces G l th r_7 _ _ hp) mi_X12_numberOfPlaces coX12 hk_th w_1737 w_85 w_1735 rfl rfl ⟨Nat.le_of_ble_eq_true rfl, Nat.le_of_ble_eq_true rfl⟩ (Nat.le_of_ble_eq_true rfl) ⟨Nat.le_of_ble_eq_true rfl, Nat.le_of_ble_eq_true rfl⟩ dX12_between_70 (fun v S1 H locs hq hH => ?_)
          obtain ⟨r_18, rfl, e9, hp⟩ := hq
          rw [e9] at hH
          refine W.eq (g2 := F0 m 73 ls [.int r_18, .ref th]) rfl ?_
          refine sx_V (pc := 73) (As := [.int r_18]) (rest := []) B hH hl.1 (C_X12_gives G l th r_18 _ _ hp) mi_X12_gives coX12 hk_th w_1617 w_69 w_1615 rfl rfl ⟨Nat.le_of_ble_eq_true rfl, Nat.le_of_ble_eq_true rfl⟩ (Nat.le_of_ble_eq_true rfl) ⟨Nat.le_of_ble_eq_true rfl, Nat.le_of_ble_eq_true rfl⟩ dX12_between_73 (fun v S1 H locs hq hH => ?_)
          obtain ⟨r_19, F_19, rfl, e9, hp⟩ := hq
          rw [e9] at hH
          have hH : Hp G (FA S s.heap.size) s.heap (wI S F_19) H locs := hH
          refine W.eq (g2 := F0 m 76 ls [.int r_19]) rfl ?_
          refine lv_goto (pc := 76) (tgt := 85) hx hb dX12_between_76 (by decide) ?_
          exact sx_iret (pc := 85) B hH hr hlk (by rw [← hQQ]; exact ⟨_, F_19, rfl, rfl, hp⟩) (Nat.le_of_ble_eq_true rfl) (Nat.le_of_ble_eq_true rfl) dX12_between_85
      · have hp := hp.2 cc_12
        refine lv_aload_n (pc := 42) hx hb dX12_between_42 rfl (lv_at hl 1 rfl) ?_
        refine lv_bipush (pc := 43) (v := 7) hx hb dX12_between_43 (by decide) ?_
        refine sx_V (pc := 45) (As := [.int 7]) (rest := []) B hH hl.1 (C_X12_refuse G l th 7 _ _ hp) mi_X12_refuse coX12 hk_th w_1539 w_51 w_1537 rfl rfl ⟨Nat.le_of_ble_eq_true rfl, Nat.le_of_ble_eq_true rfl⟩ (Nat.le_of_ble_eq_true rfl) ⟨Nat.le_of_ble_eq_true rfl, Nat.le_of_ble_eq_true rfl⟩ dX12_between_45 (fun v S1 H locs hq hH => ?_)
        obtain ⟨r_20, F_20, rfl, e9, hp⟩ := hq
        rw [e9] at hH
        have hH : Hp G (FA S s.heap.size) s.heap (wI S F_20) H locs := hH
        refine W.eq (g2 := F0 m 48 ls [.int r_20]) rfl ?_
        exact sx_iret (pc := 48) B hH hr hlk (by rw [← hQQ]; exact ⟨_, F_20, rfl, rfl, hp⟩) (Nat.le_of_ble_eq_true rfl) (Nat.le_of_ble_eq_true rfl) dX12_between_48
    · have hp := hp.2 cc_6
      exact kj_3  _ _ _ hp hH (lv_sub hl [0] rfl)
theorem dX12_changesOf_0 : decode cX12_changesOf 0 = .ok (.aload_n 0, 1) := by decide +kernel
theorem dX12_changesOf_1 : decode cX12_changesOf 1 = .ok (.getfield 7, 3) := by decide +kernel
theorem dX12_changesOf_4 : decode cX12_changesOf 4 = .ok (.bipush 10, 2) := by decide +kernel
theorem dX12_changesOf_6 : decode cX12_changesOf 6 = .ok (.bipush 40, 2) := by decide +kernel
theorem dX12_changesOf_8 : decode cX12_changesOf 8 = .ok (.iload_n 1, 1) := by decide +kernel
theorem dX12_changesOf_9 : decode cX12_changesOf 9 = .ok (.imul, 1) := by decide +kernel
theorem dX12_changesOf_10 : decode cX12_changesOf 10 = .ok (.iadd, 1) := by decide +kernel
theorem dX12_changesOf_11 : decode cX12_changesOf 11 = .ok (.iaload, 1) := by decide +kernel
theorem dX12_changesOf_12 : decode cX12_changesOf 12 = .ok (.ireturn, 1) := by decide +kernel
theorem mi_X12_changesOf : MI yX12_changesOf cX12_changesOf 2 (some FieldType.int) 1 := ⟨w_1750, w_118, by decide +kernel, by decide +kernel, by decide +kernel⟩
set_option maxRecDepth 100000 in
set_option maxHeartbeats 4000000 in
theorem C_X12_changesOf (G : GG) (l : Launch) (th : Nat) (p0 : Int32) (S : St) (Q : Int32 → Prop) (hp : P_X12_changesOf th p0 S Q) : Ctr G l yX12_changesOf cX12_changesOf 2 (some FieldType.int) 0 0 0 0 [.ref th, .int p0] S (fun (v : Option Value) (S9 : St) => ∃ (r : Int32), v = some (.int r) ∧ S9 = S ∧ Q r ) := by
  generalize hQQ : (fun (v : Option Value) (S9 : St) => ∃ (r : Int32), v = some (.int r) ∧ S9 = S ∧ Q r ) = QQ
  unfold P_X12_changesOf at hp
  refine Ctr.of (by decide) (Nat.le_of_ble_eq_true rfl) ?_
  intro p e s m args below meth c ls B hr hlk hin hl hH
  generalize hlocs0 : ([] : List Loc) = locs at hH ⊢
  have hx := B.1
  have hb := B.2.1
  have hl : lv_has ls 2 [(0, .ref th), (1, .int p0)] := hl
  obtain ⟨hk_th, hp⟩ := hp
  refine lv_aload_n (pc := 0) hx hb dX12_changesOf_0 rfl (lv_at hl 0 rfl) ?_
  refine sx_getR (pc := 1) (j := 0) B hH hk_th coX12 rfl w_1304 rfl dX12_changesOf_1 ?_
  refine W.eq (g2 := F0 m 4 ls [va_rf (gR S th 0)]) rfl ?_
  obtain ⟨a_1, ha_1, hp⟩ := hp
  refine sx_nonnull (x := a_1) ha_1 ?_
  refine lv_bipush (pc := 4) (v := 10) hx hb dX12_changesOf_4 (by decide) ?_
  refine lv_bipush (pc := 6) (v := 40) hx hb dX12_changesOf_6 (by decide) ?_
  refine lv_iload_n (pc := 8) hx hb dX12_changesOf_8 rfl (lv_at hl 1 rfl) ?_
  refine lv_imul (pc := 9) hx hb dX12_changesOf_9 ?_
  refine lv_iadd (pc := 10) hx hb dX12_changesOf_10 ?_
  obtain ⟨hk_2, hp⟩ := hp
  obtain ⟨hn_3, hp⟩ := hp
  refine sx_iald (pc := 11) B hH hk_2 hn_3 dX12_changesOf_11 ?_
  refine W.eq (g2 := F0 m 12 ls [.int (gI S a_1 ((10 + (40 * p0)).toNatClampNeg))]) rfl ?_
  exact sx_iret (pc := 12) B hH hr hlk (by rw [← hQQ]; exact ⟨_, rfl, rfl, hp⟩) (Nat.le_of_ble_eq_true rfl) (Nat.le_of_ble_eq_true rfl) dX12_changesOf_12
theorem dX12_changeOf_0 : decode cX12_changeOf 0 = .ok (.aload_n 0, 1) := by decide +kernel
theorem dX12_changeOf_1 : decode cX12_changeOf 1 = .ok (.getfield 7, 3) := by decide +kernel
theorem dX12_changeOf_4 : decode cX12_changeOf 4 = .ok (.bipush 10, 2) := by decide +kernel
theorem dX12_changeOf_6 : decode cX12_changeOf 6 = .ok (.bipush 40, 2) := by decide +kernel
theorem dX12_changeOf_8 : decode cX12_changeOf 8 = .ok (.iload_n 1, 1) := by decide +kernel
theorem dX12_changeOf_9 : decode cX12_changeOf 9 = .ok (.imul, 1) := by decide +kernel
theorem dX12_changeOf_10 : decode cX12_changeOf 10 = .ok (.iadd, 1) := by decide +kernel
theorem dX12_changeOf_11 : decode cX12_changeOf 11 = .ok (.iload_n 3, 1) := by decide +kernel
theorem dX12_changeOf_12 : decode cX12_changeOf 12 = .ok (.iconst 1, 1) := by decide +kernel
theorem dX12_changeOf_13 : decode cX12_changeOf 13 = .ok (.iadd, 1) := by decide +kernel
theorem dX12_changeOf_14 : decode cX12_changeOf 14 = .ok (.aload_n 0, 1) := by decide +kernel
theorem dX12_changeOf_15 : decode cX12_changeOf 15 = .ok (.iload_n 1, 1) := by decide +kernel
theorem dX12_changeOf_16 : decode cX12_changeOf 16 = .ok (.invokevirtual 314, 3) := by decide +kernel
theorem dX12_changeOf_19 : decode cX12_changeOf 19 = .ok (.if_icmp .lt 7, 3) := by decide +kernel
theorem dX12_changeOf_22 : decode cX12_changeOf 22 = .ok (.iload_n 2, 1) := by decide +kernel
theorem dX12_changeOf_23 : decode cX12_changeOf 23 = .ok (.ifCond .ne 9, 3) := by decide +kernel
theorem dX12_changeOf_26 : decode cX12_changeOf 26 = .ok (.iconst 1, 1) := by decide +kernel
theorem dX12_changeOf_27 : decode cX12_changeOf 27 = .ok (.iload_n 3, 1) := by decide +kernel
theorem dX12_changeOf_28 : decode cX12_changeOf 28 = .ok (.iadd, 1) := by decide +kernel
theorem dX12_changeOf_29 : decode cX12_changeOf 29 = .ok (.goto 15, 3) := by decide +kernel
theorem dX12_changeOf_32 : decode cX12_changeOf 32 = .ok (.iload_n 2, 1) := by decide +kernel
theorem dX12_changeOf_33 : decode cX12_changeOf 33 = .ok (.iconst 1, 1) := by decide +kernel
theorem dX12_changeOf_34 : decode cX12_changeOf 34 = .ok (.if_icmp .ne 8, 3) := by decide +kernel
theorem dX12_changeOf_37 : decode cX12_changeOf 37 = .ok (.bipush 33, 2) := by decide +kernel
theorem dX12_changeOf_39 : decode cX12_changeOf 39 = .ok (.goto 5, 3) := by decide +kernel
theorem dX12_changeOf_42 : decode cX12_changeOf 42 = .ok (.bipush 34, 2) := by decide +kernel
theorem dX12_changeOf_44 : decode cX12_changeOf 44 = .ok (.iadd, 1) := by decide +kernel
theorem dX12_changeOf_45 : decode cX12_changeOf 45 = .ok (.iaload, 1) := by decide +kernel
theorem dX12_changeOf_46 : decode cX12_changeOf 46 = .ok (.ireturn, 1) := by decide +kernel
theorem mi_X12_changeOf : MI yX12_changeOf cX12_changeOf 4 (some FieldType.int) 3 := ⟨w_1761, w_118, by decide +kernel, by decide +kernel, by decide +kernel⟩
set_option maxRecDepth 100000 in
set_option maxHeartbeats 4000000 in
theorem C_X12_changeOf (G : GG) (l : Launch) (th : Nat) (p0 : Int32) (p1 : Int32) (p2 : Int32) (S : St) (Q : Int32 → Prop) (hp : P_X12_changeOf th p0 p1 p2 S Q) : Ctr G l yX12_changeOf cX12_changeOf 4 (some FieldType.int) 1 21 0 0 [.ref th, .int p0, .int p1, .int p2] S (fun (v : Option Value) (S9 : St) => ∃ (r : Int32), v = some (.int r) ∧ S9 = S ∧ Q r ) := by
  generalize hQQ : (fun (v : Option Value) (S9 : St) => ∃ (r : Int32), v = some (.int r) ∧ S9 = S ∧ Q r ) = QQ
  unfold P_X12_changeOf at hp
  refine Ctr.of (by decide) (Nat.le_of_ble_eq_true rfl) ?_
  intro p e s m args below meth c ls B hr hlk hin hl hH
  generalize hlocs0 : ([] : List Loc) = locs at hH ⊢
  have hx := B.1
  have hb := B.2.1
  have hl : lv_has ls 4 [(0, .ref th), (1, .int p0), (2, .int p1), (3, .int p2)] := hl
  obtain ⟨hk_th, hp⟩ := hp
  refine lv_aload_n (pc := 0) hx hb dX12_changeOf_0 rfl (lv_at hl 0 rfl) ?_
  refine sx_getR (pc := 1) (j := 0) B hH hk_th coX12 rfl w_1304 rfl dX12_changeOf_1 ?_
  refine W.eq (g2 := F0 m 4 ls [va_rf (gR S th 0)]) rfl ?_
  obtain ⟨a_1, ha_1, hp⟩ := hp
  refine sx_nonnull (x := a_1) ha_1 ?_
  refine lv_bipush (pc := 4) (v := 10) hx hb dX12_changeOf_4 (by decide) ?_
  refine lv_bipush (pc := 6) (v := 40) hx hb dX12_changeOf_6 (by decide) ?_
  refine lv_iload_n (pc := 8) hx hb dX12_changeOf_8 rfl (lv_at hl 1 rfl) ?_
  refine lv_imul (pc := 9) hx hb dX12_changeOf_9 ?_
  refine lv_iadd (pc := 10) hx hb dX12_changeOf_10 ?_
  refine lv_iload_n (pc := 11) hx hb dX12_changeOf_11 rfl (lv_at hl 3 rfl) ?_
  refine lv_iconst (pc := 12) (v := 1) hx hb dX12_changeOf_12 (by decide) ?_
  refine lv_iadd (pc := 13) hx hb dX12_changeOf_13 ?_
  refine lv_aload_n (pc := 14) hx hb dX12_changeOf_14 rfl (lv_at hl 0 rfl) ?_
  refine lv_iload_n (pc := 15) hx hb dX12_changeOf_15 rfl (lv_at hl 1 rfl) ?_
  refine sx_V (pc := 16) (As := [.int p0]) (rest := [.int (p2 + 1), .int (10 + (40 * p0)), .ref a_1]) B hH hl.1 (C_X12_changesOf G l th p0 _ _ hp) mi_X12_changesOf coX12 hk_th w_1749 w_87 w_1747 rfl rfl ⟨Nat.le_of_ble_eq_true rfl, Nat.le_of_ble_eq_true rfl⟩ (Nat.le_of_ble_eq_true rfl) ⟨Nat.le_of_ble_eq_true rfl, Nat.le_of_ble_eq_true rfl⟩ dX12_changeOf_16 (fun v S1 H locs hq hH => ?_)
  obtain ⟨r_2, rfl, e9, hp⟩ := hq
  rw [e9] at hH
  refine W.eq (g2 := F0 m 19 ls [.int r_2, .int (p2 + 1), .int (10 + (40 * p0)), .ref a_1]) rfl ?_
  obtain ⟨J_4, hj_4, hp⟩ := hp
  have kj_4 : ∀  (H : Heap) (locs : List Loc) (ls : Array Slot), J_4  → Hp G (FA S s.heap.size) s.heap S H locs → lv_has ls 4 [(3, .int p2)] → Wm G p l e { frames := 1, cells := 0, slots := 0, locals := 21 } s m args below meth c S QQ 0 0 H locs 0 0 (F0 m 26 ls [.int (10 + (40 * p0)), .ref a_1]) := by
    intro  H locs ls hq9 hH hl
    have hp := hj_4  hq9
    refine lv_iconst (pc := 26) (v := 1) hx hb dX12_changeOf_26 (by decide) ?_
    refine lv_iload_n (pc := 27) hx hb dX12_changeOf_27 rfl (lv_at hl 0 rfl) ?_
    refine lv_iadd (pc := 28) hx hb dX12_changeOf_28 ?_
    refine lv_goto (pc := 29) (tgt := 44) hx hb dX12_changeOf_29 (by decide) ?_
    refine lv_iadd (pc := 44) hx hb dX12_changeOf_44 ?_
    obtain ⟨hk_5, hp⟩ := hp
    obtain ⟨hn_6, hp⟩ := hp
    refine sx_iald (pc := 45) B hH hk_5 hn_6 dX12_changeOf_45 ?_
    refine W.eq (g2 := F0 m 46 ls [.int (gI S a_1 (((10 + (40 * p0)) + (1 + p2)).toNatClampNeg))]) rfl ?_
    exact sx_iret (pc := 46) B hH hr hlk (by rw [← hQQ]; exact ⟨_, rfl, rfl, hp⟩) (Nat.le_of_ble_eq_true rfl) (Nat.le_of_ble_eq_true rfl) dX12_changeOf_46
  refine lv_icmp_lt (pc := 19) (tgt := 26) hx hb dX12_changeOf_19 (by decide) (fun cc_3 => ?_) (fun cc_3 => ?_)
  · have hp := hp.1 cc_3
    exact kj_4  _ _ _ hp hH (lv_sub hl [3] rfl)
  · have hp := hp.2 cc_3
    refine lv_iload_n (pc := 22) hx hb dX12_changeOf_22 rfl (lv_at hl 2 rfl) ?_
    refine lv_if_ne (pc := 23) (tgt := 32) hx hb dX12_changeOf_23 (by decide) (fun cc_7 => ?_) (fun cc_7 => ?_)
    · have hp := hp.1 cc_7
      refine lv_iload_n (pc := 32) hx hb dX12_changeOf_32 rfl (lv_at hl 2 rfl) ?_
      refine lv_iconst (pc := 33) (v := 1) hx hb dX12_changeOf_33 (by decide) ?_
      refine lv_icmp_ne (pc := 34) (tgt := 42) hx hb dX12_changeOf_34 (by decide) (fun cc_8 => ?_) (fun cc_8 => ?_)
      · have hp := hp.1 cc_8
        refine lv_bipush (pc := 42) (v := 34) hx hb dX12_changeOf_42 (by decide) ?_
        refine lv_iadd (pc := 44) hx hb dX12_changeOf_44 ?_
        obtain ⟨hk_9, hp⟩ := hp
        obtain ⟨hn_10, hp⟩ := hp
        refine sx_iald (pc := 45) B hH hk_9 hn_10 dX12_changeOf_45 ?_
        refine W.eq (g2 := F0 m 46 ls [.int (gI S a_1 (((10 + (40 * p0)) + 34).toNatClampNeg))]) rfl ?_
        exact sx_iret (pc := 46) B hH hr hlk (by rw [← hQQ]; exact ⟨_, rfl, rfl, hp⟩) (Nat.le_of_ble_eq_true rfl) (Nat.le_of_ble_eq_true rfl) dX12_changeOf_46
      · have hp := hp.2 cc_8
        refine lv_bipush (pc := 37) (v := 33) hx hb dX12_changeOf_37 (by decide) ?_
        refine lv_goto (pc := 39) (tgt := 44) hx hb dX12_changeOf_39 (by decide) ?_
        refine lv_iadd (pc := 44) hx hb dX12_changeOf_44 ?_
        obtain ⟨hk_11, hp⟩ := hp
        obtain ⟨hn_12, hp⟩ := hp
        refine sx_iald (pc := 45) B hH hk_11 hn_12 dX12_changeOf_45 ?_
        refine W.eq (g2 := F0 m 46 ls [.int (gI S a_1 (((10 + (40 * p0)) + 33).toNatClampNeg))]) rfl ?_
        exact sx_iret (pc := 46) B hH hr hlk (by rw [← hQQ]; exact ⟨_, rfl, rfl, hp⟩) (Nat.le_of_ble_eq_true rfl) (Nat.le_of_ble_eq_true rfl) dX12_changeOf_46
    · have hp := hp.2 cc_7
      exact kj_4  _ _ _ hp hH (lv_sub hl [3] rfl)
theorem dX12_changes_0 : decode cX12_changes 0 = .ok (.aload_n 0, 1) := by decide +kernel
theorem dX12_changes_1 : decode cX12_changes 1 = .ok (.iload_n 1, 1) := by decide +kernel
theorem dX12_changes_2 : decode cX12_changes 2 = .ok (.invokevirtual 317, 3) := by decide +kernel
theorem dX12_changes_5 : decode cX12_changes 5 = .ok (.ifCond .eq 15, 3) := by decide +kernel
theorem dX12_changes_8 : decode cX12_changes 8 = .ok (.aload_n 0, 1) := by decide +kernel
theorem dX12_changes_9 : decode cX12_changes 9 = .ok (.aload_n 0, 1) := by decide +kernel
theorem dX12_changes_10 : decode cX12_changes 10 = .ok (.iload_n 1, 1) := by decide +kernel
theorem dX12_changes_11 : decode cX12_changes 11 = .ok (.invokevirtual 314, 3) := by decide +kernel
theorem dX12_changes_14 : decode cX12_changes 14 = .ok (.invokevirtual 109, 3) := by decide +kernel
theorem dX12_changes_17 : decode cX12_changes 17 = .ok (.goto 8, 3) := by decide +kernel
theorem dX12_changes_20 : decode cX12_changes 20 = .ok (.aload_n 0, 1) := by decide +kernel
theorem dX12_changes_21 : decode cX12_changes 21 = .ok (.iconst 1, 1) := by decide +kernel
theorem dX12_changes_22 : decode cX12_changes 22 = .ok (.invokevirtual 105, 3) := by decide +kernel
theorem dX12_changes_25 : decode cX12_changes 25 = .ok (.ireturn, 1) := by decide +kernel
theorem mi_X12_changes : MI yX12_changes cX12_changes 2 (some FieldType.int) 1 := ⟨w_1742, w_118, by decide +kernel, by decide +kernel, by decide +kernel⟩
set_option maxRecDepth 100000 in
set_option maxHeartbeats 4000000 in
theorem C_X12_changes (G : GG) (l : Launch) (th : Nat) (p0 : Int32) (S : St) (Q : Int32 → (Nat → Nat → Int32) → Prop) (hp : P_X12_changes th p0 S Q) : Ctr G l yX12_changes cX12_changes 2 (some FieldType.int) 1 21 0 0 [.ref th, .int p0] S (fun (v : Option Value) (S9 : St) => ∃ (r : Int32) (I9 : Nat → Nat → Int32), v = some (.int r) ∧ S9 = wI S I9 ∧ Q r I9) := by
  generalize hQQ : (fun (v : Option Value) (S9 : St) => ∃ (r : Int32) (I9 : Nat → Nat → Int32), v = some (.int r) ∧ S9 = wI S I9 ∧ Q r I9) = QQ
  unfold P_X12_changes at hp
  refine Ctr.of (by decide) (Nat.le_of_ble_eq_true rfl) ?_
  intro p e s m args below meth c ls B hr hlk hin hl hH
  generalize hlocs0 : ([] : List Loc) = locs at hH ⊢
  have hx := B.1
  have hb := B.2.1
  have hl : lv_has ls 2 [(0, .ref th), (1, .int p0)] := hl
  obtain ⟨hk_th, hp⟩ := hp
  refine lv_aload_n (pc := 0) hx hb dX12_changes_0 rfl (lv_at hl 0 rfl) ?_
  refine lv_iload_n (pc := 1) hx hb dX12_changes_1 rfl (lv_at hl 1 rfl) ?_
  refine sx_V (pc := 2) (As := [.int p0]) (rest := []) B hH hl.1 (C_X12_isMethod G l th p0 _ _ hp) mi_X12_isMethod coX12 hk_th w_1745 w_86 w_1743 rfl rfl ⟨Nat.le_of_ble_eq_true rfl, Nat.le_of_ble_eq_true rfl⟩ (Nat.le_of_ble_eq_true rfl) ⟨Nat.le_of_ble_eq_true rfl, Nat.le_of_ble_eq_true rfl⟩ dX12_changes_2 (fun v S1 H locs hq hH => ?_)
  obtain ⟨r_1, rfl, e9, hp⟩ := hq
  rw [e9] at hH
  refine W.eq (g2 := F0 m 5 ls [.int r_1]) rfl ?_
  refine lv_if_eq (pc := 5) (tgt := 20) hx hb dX12_changes_5 (by decide) (fun cc_2 => ?_) (fun cc_2 => ?_)
  · have hp := hp.1 cc_2
    refine lv_aload_n (pc := 20) hx hb dX12_changes_20 rfl (lv_at hl 0 rfl) ?_
    refine lv_iconst (pc := 21) (v := 1) hx hb dX12_changes_21 (by decide) ?_
    refine sx_V (pc := 22) (As := [.int 1]) (rest := []) B hH hl.1 (C_X12_refuse G l th 1 _ _ hp) mi_X12_refuse coX12 hk_th w_1539 w_51 w_1537 rfl rfl ⟨Nat.le_of_ble_eq_true rfl, Nat.le_of_ble_eq_true rfl⟩ (Nat.le_of_ble_eq_true rfl) ⟨Nat.le_of_ble_eq_true rfl, Nat.le_of_ble_eq_true rfl⟩ dX12_changes_22 (fun v S1 H locs hq hH => ?_)
    obtain ⟨r_3, F_3, rfl, e9, hp⟩ := hq
    rw [e9] at hH
    have hH : Hp G (FA S s.heap.size) s.heap (wI S F_3) H locs := hH
    refine W.eq (g2 := F0 m 25 ls [.int r_3]) rfl ?_
    exact sx_iret (pc := 25) B hH hr hlk (by rw [← hQQ]; exact ⟨_, F_3, rfl, rfl, hp⟩) (Nat.le_of_ble_eq_true rfl) (Nat.le_of_ble_eq_true rfl) dX12_changes_25
  · have hp := hp.2 cc_2
    refine lv_aload_n (pc := 8) hx hb dX12_changes_8 rfl (lv_at hl 0 rfl) ?_
    refine lv_aload_n (pc := 9) hx hb dX12_changes_9 rfl (lv_at hl 0 rfl) ?_
    refine lv_iload_n (pc := 10) hx hb dX12_changes_10 rfl (lv_at hl 1 rfl) ?_
    refine sx_V (pc := 11) (As := [.int p0]) (rest := [.ref th]) B hH hl.1 (C_X12_changesOf G l th p0 _ _ hp) mi_X12_changesOf coX12 hk_th w_1749 w_87 w_1747 rfl rfl ⟨Nat.le_of_ble_eq_true rfl, Nat.le_of_ble_eq_true rfl⟩ (Nat.le_of_ble_eq_true rfl) ⟨Nat.le_of_ble_eq_true rfl, Nat.le_of_ble_eq_true rfl⟩ dX12_changes_11 (fun v S1 H locs hq hH => ?_)
    obtain ⟨r_4, rfl, e9, hp⟩ := hq
    rw [e9] at hH
    refine W.eq (g2 := F0 m 14 ls [.int r_4, .ref th]) rfl ?_
    refine sx_V (pc := 14) (As := [.int r_4]) (rest := []) B hH hl.1 (C_X12_gives G l th r_4 _ _ hp) mi_X12_gives coX12 hk_th w_1617 w_69 w_1615 rfl rfl ⟨Nat.le_of_ble_eq_true rfl, Nat.le_of_ble_eq_true rfl⟩ (Nat.le_of_ble_eq_true rfl) ⟨Nat.le_of_ble_eq_true rfl, Nat.le_of_ble_eq_true rfl⟩ dX12_changes_14 (fun v S1 H locs hq hH => ?_)
    obtain ⟨r_5, F_5, rfl, e9, hp⟩ := hq
    rw [e9] at hH
    have hH : Hp G (FA S s.heap.size) s.heap (wI S F_5) H locs := hH
    refine W.eq (g2 := F0 m 17 ls [.int r_5]) rfl ?_
    refine lv_goto (pc := 17) (tgt := 25) hx hb dX12_changes_17 (by decide) ?_
    exact sx_iret (pc := 25) B hH hr hlk (by rw [← hQQ]; exact ⟨_, F_5, rfl, rfl, hp⟩) (Nat.le_of_ble_eq_true rfl) (Nat.le_of_ble_eq_true rfl) dX12_changes_25
theorem dX12_change_0 : decode cX12_change 0 = .ok (.aload_n 0, 1) := by decide +kernel
theorem dX12_change_1 : decode cX12_change 1 = .ok (.iload_n 1, 1) := by decide +kernel
theorem dX12_change_2 : decode cX12_change 2 = .ok (.invokevirtual 317, 3) := by decide +kernel
theorem dX12_change_5 : decode cX12_change 5 = .ok (.ifCond .eq 23, 3) := by decide +kernel
theorem dX12_change_8 : decode cX12_change 8 = .ok (.iload_n 2, 1) := by decide +kernel
theorem dX12_change_9 : decode cX12_change 9 = .ok (.invokestatic 320, 3) := by decide +kernel
theorem dX12_change_12 : decode cX12_change 12 = .ok (.ifCond .eq 16, 3) := by decide +kernel
theorem dX12_change_15 : decode cX12_change 15 = .ok (.iload_n 3, 1) := by decide +kernel
theorem dX12_change_16 : decode cX12_change 16 = .ok (.ifCond .lt 12, 3) := by decide +kernel
theorem dX12_change_19 : decode cX12_change 19 = .ok (.iload_n 3, 1) := by decide +kernel
theorem dX12_change_20 : decode cX12_change 20 = .ok (.aload_n 0, 1) := by decide +kernel
theorem dX12_change_21 : decode cX12_change 21 = .ok (.iload_n 1, 1) := by decide +kernel
theorem dX12_change_22 : decode cX12_change 22 = .ok (.invokevirtual 314, 3) := by decide +kernel
theorem dX12_change_25 : decode cX12_change 25 = .ok (.if_icmp .lt 9, 3) := by decide +kernel
theorem dX12_change_28 : decode cX12_change 28 = .ok (.aload_n 0, 1) := by decide +kernel
theorem dX12_change_29 : decode cX12_change 29 = .ok (.iconst 1, 1) := by decide +kernel
theorem dX12_change_30 : decode cX12_change 30 = .ok (.invokevirtual 105, 3) := by decide +kernel
theorem dX12_change_33 : decode cX12_change 33 = .ok (.ireturn, 1) := by decide +kernel
theorem dX12_change_34 : decode cX12_change 34 = .ok (.aload_n 0, 1) := by decide +kernel
theorem dX12_change_35 : decode cX12_change 35 = .ok (.aload_n 0, 1) := by decide +kernel
theorem dX12_change_36 : decode cX12_change 36 = .ok (.aload_n 0, 1) := by decide +kernel
theorem dX12_change_37 : decode cX12_change 37 = .ok (.iload_n 1, 1) := by decide +kernel
theorem dX12_change_38 : decode cX12_change 38 = .ok (.iload_n 2, 1) := by decide +kernel
theorem dX12_change_39 : decode cX12_change 39 = .ok (.iload_n 3, 1) := by decide +kernel
theorem dX12_change_40 : decode cX12_change 40 = .ok (.invokevirtual 323, 3) := by decide +kernel
theorem dX12_change_43 : decode cX12_change 43 = .ok (.invokevirtual 311, 3) := by decide +kernel
theorem dX12_change_46 : decode cX12_change 46 = .ok (.invokevirtual 109, 3) := by decide +kernel
theorem dX12_change_49 : decode cX12_change 49 = .ok (.ireturn, 1) := by decide +kernel
theorem mi_X12_change : MI yX12_change cX12_change 4 (some FieldType.int) 3 := ⟨w_1754, w_118, by decide +kernel, by decide +kernel, by decide +kernel⟩
set_option maxRecDepth 100000 in
set_option maxHeartbeats 4000000 in
theorem C_X12_change (G : GG) (l : Launch) (th : Nat) (p0 : Int32) (p1 : Int32) (p2 : Int32) (S : St) (Q : Int32 → (Nat → Nat → Int32) → Prop) (hp : P_X12_change th p0 p1 p2 S Q) : Ctr G l yX12_change cX12_change 4 (some FieldType.int) 2 44 0 0 [.ref th, .int p0, .int p1, .int p2] S (fun (v : Option Value) (S9 : St) => ∃ (r : Int32) (I9 : Nat → Nat → Int32), v = some (.int r) ∧ S9 = wI S I9 ∧ Q r I9) := by
  generalize hQQ : (fun (v : Option Value) (S9 : St) => ∃ (r : Int32) (I9 : Nat → Nat → Int32), v = some (.int r) ∧ S9 = wI S I9 ∧ Q r I9) = QQ
  unfold P_X12_change at hp
  refine Ctr.of (by decide) (Nat.le_of_ble_eq_true rfl) ?_
  intro p e s m args below meth c ls B hr hlk hin hl hH
  generalize hlocs0 : ([] : List Loc) = locs at hH ⊢
  have hx := B.1
  have hb := B.2.1
  have hl : lv_has ls 4 [(0, .ref th), (1, .int p0), (2, .int p1), (3, .int p2)] := hl
  obtain ⟨hk_th, hp⟩ := hp
  refine lv_aload_n (pc := 0) hx hb dX12_change_0 rfl (lv_at hl 0 rfl) ?_
  refine lv_iload_n (pc := 1) hx hb dX12_change_1 rfl (lv_at hl 1 rfl) ?_
  refine sx_V (pc := 2) (As := [.int p0]) (rest := []) B hH hl.1 (C_X12_isMethod G l th p0 _ _ hp) mi_X12_isMethod coX12 hk_th w_1745 w_86 w_1743 rfl rfl ⟨Nat.le_of_ble_eq_true rfl, Nat.le_of_ble_eq_true rfl⟩ (Nat.le_of_ble_eq_true rfl) ⟨Nat.le_of_ble_eq_true rfl, Nat.le_of_ble_eq_true rfl⟩ dX12_change_2 (fun v S1 H locs hq hH => ?_)
  obtain ⟨r_1, rfl, e9, hp⟩ := hq
  rw [e9] at hH
  refine W.eq (g2 := F0 m 5 ls [.int r_1]) rfl ?_
  obtain ⟨J_3, hj_3, hp⟩ := hp
  have kj_3 : ∀  (H : Heap) (locs : List Loc) (ls : Array Slot), J_3  → Hp G (FA S s.heap.size) s.heap S H locs → lv_has ls 4 [(0, .ref th)] → Wm G p l e { frames := 2, cells := 0, slots := 0, locals := 44 } s m args below meth c S QQ 0 0 H locs 0 0 (F0 m 28 ls []) := by
    intro  H locs ls hq9 hH hl
    have hp := hj_3  hq9
    refine lv_aload_n (pc := 28) hx hb dX12_change_28 rfl (lv_at hl 0 rfl) ?_
    refine lv_iconst (pc := 29) (v := 1) hx hb dX12_change_29 (by decide) ?_
    refine sx_V (pc := 30) (As := [.int 1]) (rest := []) B hH hl.1 (C_X12_refuse G l th 1 _ _ hp) mi_X12_refuse coX12 hk_th w_1539 w_51 w_1537 rfl rfl ⟨Nat.le_of_ble_eq_true rfl, Nat.le_of_ble_eq_true rfl⟩ (Nat.le_of_ble_eq_true rfl) ⟨Nat.le_of_ble_eq_true rfl, Nat.le_of_ble_eq_true rfl⟩ dX12_change_30 (fun v S1 H locs hq hH => ?_)
    obtain ⟨r_4, F_4, rfl, e9, hp⟩ := hq
    rw [e9] at hH
    have hH : Hp G (FA S s.heap.size) s.heap (wI S F_4) H locs := hH
    refine W.eq (g2 := F0 m 33 ls [.int r_4]) rfl ?_
    exact sx_iret (pc := 33) B hH hr hlk (by rw [← hQQ]; exact ⟨_, F_4, rfl, rfl, hp⟩) (Nat.le_of_ble_eq_true rfl) (Nat.le_of_ble_eq_true rfl) dX12_change_33
  refine lv_if_eq (pc := 5) (tgt := 28) hx hb dX12_change_5 (by decide) (fun cc_2 => ?_) (fun cc_2 => ?_)
  · have hp := hp.1 cc_2
    exact kj_3  _ _ _ hp hH (lv_sub hl [0] rfl)
  · have hp := hp.2 cc_2
    refine lv_iload_n (pc := 8) hx hb dX12_change_8 rfl (lv_at hl 2 rfl) ?_
    refine sx_S (pc := 9) (As := [.int p1]) (rest := []) B hH hl.1 (C_X12_isCall G l p1 _ _ hp) mi_X12_isCall w_1756 w_1755 rfl rfl ⟨Nat.le_of_ble_eq_true rfl, Nat.le_of_ble_eq_true rfl⟩ (Nat.le_of_ble_eq_true rfl) ⟨Nat.le_of_ble_eq_true rfl, Nat.le_of_ble_eq_true rfl⟩ dX12_change_9 (fun v S1 H locs hq hH => ?_)
    obtain ⟨r_5, rfl, e9, hp⟩ := hq
    rw [e9] at hH
    refine W.eq (g2 := F0 m 12 ls [.int r_5]) rfl ?_
    refine lv_if_eq (pc := 12) (tgt := 28) hx hb dX12_change_12 (by decide) (fun cc_6 => ?_) (fun cc_6 => ?_)
    · have hp := hp.1 cc_6
      exact kj_3  _ _ _ hp hH (lv_sub hl [0] rfl)
    · have hp := hp.2 cc_6
      refine lv_iload_n (pc := 15) hx hb dX12_change_15 rfl (lv_at hl 3 rfl) ?_
      refine lv_if_lt (pc := 16) (tgt := 28) hx hb dX12_change_16 (by decide) (fun cc_7 => ?_) (fun cc_7 => ?_)
      · have hp := hp.1 cc_7
        exact kj_3  _ _ _ hp hH (lv_sub hl [0] rfl)
      · have hp := hp.2 cc_7
        refine lv_iload_n (pc := 19) hx hb dX12_change_19 rfl (lv_at hl 3 rfl) ?_
        refine lv_aload_n (pc := 20) hx hb dX12_change_20 rfl (lv_at hl 0 rfl) ?_
        refine lv_iload_n (pc := 21) hx hb dX12_change_21 rfl (lv_at hl 1 rfl) ?_
        refine sx_V (pc := 22) (As := [.int p0]) (rest := [.int p2]) B hH hl.1 (C_X12_changesOf G l th p0 _ _ hp) mi_X12_changesOf coX12 hk_th w_1749 w_87 w_1747 rfl rfl ⟨Nat.le_of_ble_eq_true rfl, Nat.le_of_ble_eq_true rfl⟩ (Nat.le_of_ble_eq_true rfl) ⟨Nat.le_of_ble_eq_true rfl, Nat.le_of_ble_eq_true rfl⟩ dX12_change_22 (fun v S1 H locs hq hH => ?_)
        obtain ⟨r_8, rfl, e9, hp⟩ := hq
        rw [e9] at hH
        refine W.eq (g2 := F0 m 25 ls [.int r_8, .int p2]) rfl ?_
        refine lv_icmp_lt (pc := 25) (tgt := 34) hx hb dX12_change_25 (by decide) (fun cc_9 => ?_) (fun cc_9 => ?_)
        · have hp := hp.1 cc_9
          refine lv_aload_n (pc := 34) hx hb dX12_change_34 rfl (lv_at hl 0 rfl) ?_
          refine lv_aload_n (pc := 35) hx hb dX12_change_35 rfl (lv_at hl 0 rfl) ?_
          refine lv_aload_n (pc := 36) hx hb dX12_change_36 rfl (lv_at hl 0 rfl) ?_
          refine lv_iload_n (pc := 37) hx hb dX12_change_37 rfl (lv_at hl 1 rfl) ?_
          refine lv_iload_n (pc := 38) hx hb dX12_change_38 rfl (lv_at hl 2 rfl) ?_
          refine lv_iload_n (pc := 39) hx hb dX12_change_39 rfl (lv_at hl 3 rfl) ?_
          refine sx_V (pc := 40) (As := [.int p0, .int p1, .int p2]) (rest := [.ref th, .ref th]) B hH hl.1 (C_X12_changeOf G l th p0 p1 p2 _ _ hp) mi_X12_changeOf coX12 hk_th w_1760 w_88 w_1758 rfl rfl ⟨Nat.le_of_ble_eq_true rfl, Nat.le_of_ble_eq_true rfl⟩ (Nat.le_of_ble_eq_true rfl) ⟨Nat.le_of_ble_eq_true rfl, Nat.le_of_ble_eq_true rfl⟩ dX12_change_40 (fun v S1 H locs hq hH => ?_)
          obtain ⟨r_10, rfl, e9, hp⟩ := hq
          rw [e9] at hH
          refine W.eq (g2 := F0 m 43 ls [.int r_10, .ref th, .ref th]) rfl ?_
          refine sx_V (pc := 43) (As := [.int r_10]) (rest := [.ref th]) B hH hl.1 (C_X12_numberOfPlaces G l th r_10 _ _ hp) mi_X12_numberOfPlaces coX12 hk_th w_1737 w_85 w_1735 rfl rfl ⟨Nat.le_of_ble_eq_true rfl, Nat.le_of_ble_eq_true rfl⟩ (Nat.le_of_ble_eq_true rfl) ⟨Nat.le_of_ble_eq_true rfl, Nat.le_of_ble_eq_true rfl⟩ dX12_change_43 (fun v S1 H locs hq hH => ?_)
          obtain ⟨r_11, rfl, e9, hp⟩ := hq
          rw [e9] at hH
          refine W.eq (g2 := F0 m 46 ls [.int r_11, .ref th]) rfl ?_
          refine sx_V (pc := 46) (As := [.int r_11]) (rest := []) B hH hl.1 (C_X12_gives G l th r_11 _ _ hp) mi_X12_gives coX12 hk_th w_1617 w_69 w_1615 rfl rfl ⟨Nat.le_of_ble_eq_true rfl, Nat.le_of_ble_eq_true rfl⟩ (Nat.le_of_ble_eq_true rfl) ⟨Nat.le_of_ble_eq_true rfl, Nat.le_of_ble_eq_true rfl⟩ dX12_change_46 (fun v S1 H locs hq hH => ?_)
          obtain ⟨r_12, F_12, rfl, e9, hp⟩ := hq
          rw [e9] at hH
          have hH : Hp G (FA S s.heap.size) s.heap (wI S F_12) H locs := hH
          refine W.eq (g2 := F0 m 49 ls [.int r_12]) rfl ?_
          exact sx_iret (pc := 49) B hH hr hlk (by rw [← hQQ]; exact ⟨_, F_12, rfl, rfl, hp⟩) (Nat.le_of_ble_eq_true rfl) (Nat.le_of_ble_eq_true rfl) dX12_change_49
        · have hp := hp.2 cc_9
          exact kj_3  _ _ _ hp hH (lv_sub hl [0] rfl)
theorem dX12_leadFrom_0 : decode cX12_leadFrom 0 = .ok (.aload_n 0, 1) := by decide +kernel
theorem dX12_leadFrom_1 : decode cX12_leadFrom 1 = .ok (.iload_n 1, 1) := by decide +kernel
theorem dX12_leadFrom_2 : decode cX12_leadFrom 2 = .ok (.aload_n 0, 1) := by decide +kernel
theorem dX12_leadFrom_3 : decode cX12_leadFrom 3 = .ok (.getfield 47, 3) := by decide +kernel
theorem dX12_leadFrom_6 : decode cX12_leadFrom 6 = .ok (.invokevirtual 266, 3) := by decide +kernel
theorem dX12_leadFrom_9 : decode cX12_leadFrom 9 = .ok (.iconst 0, 1) := by decide +kernel
theorem dX12_leadFrom_10 : decode cX12_leadFrom 10 = .ok (.istore 4, 2) := by decide +kernel
theorem dX12_leadFrom_12 : decode cX12_leadFrom 12 = .ok (.iload 4, 2) := by decide +kernel
theorem dX12_leadFrom_14 : decode cX12_leadFrom 14 = .ok (.aload_n 0, 1) := by decide +kernel
theorem dX12_leadFrom_15 : decode cX12_leadFrom 15 = .ok (.iload_n 2, 1) := by decide +kernel
theorem dX12_leadFrom_16 : decode cX12_leadFrom 16 = .ok (.invokevirtual 314, 3) := by decide +kernel
theorem dX12_leadFrom_19 : decode cX12_leadFrom 19 = .ok (.if_icmp .ge 22, 3) := by decide +kernel
theorem dX12_leadFrom_22 : decode cX12_leadFrom 22 = .ok (.aload_n 0, 1) := by decide +kernel
theorem dX12_leadFrom_23 : decode cX12_leadFrom 23 = .ok (.aload_n 0, 1) := by decide +kernel
theorem dX12_leadFrom_24 : decode cX12_leadFrom 24 = .ok (.iload_n 2, 1) := by decide +kernel
theorem dX12_leadFrom_25 : decode cX12_leadFrom 25 = .ok (.iload_n 3, 1) := by decide +kernel
theorem dX12_leadFrom_26 : decode cX12_leadFrom 26 = .ok (.iload 4, 2) := by decide +kernel
theorem dX12_leadFrom_28 : decode cX12_leadFrom 28 = .ok (.invokevirtual 323, 3) := by decide +kernel
theorem dX12_leadFrom_31 : decode cX12_leadFrom 31 = .ok (.iconst 0, 1) := by decide +kernel
theorem dX12_leadFrom_32 : decode cX12_leadFrom 32 = .ok (.invokevirtual 302, 3) := by decide +kernel
theorem dX12_leadFrom_35 : decode cX12_leadFrom 35 = .ok (.iinc 4 1, 3) := by decide +kernel
theorem dX12_leadFrom_38 : decode cX12_leadFrom 38 = .ok (.goto (-26), 3) := by decide +kernel
theorem dX12_leadFrom_41 : decode cX12_leadFrom 41 = .ok (.aload_n 0, 1) := by decide +kernel
theorem dX12_leadFrom_42 : decode cX12_leadFrom 42 = .ok (.aload_n 0, 1) := by decide +kernel
theorem dX12_leadFrom_43 : decode cX12_leadFrom 43 = .ok (.getfield 47, 3) := by decide +kernel
theorem dX12_leadFrom_46 : decode cX12_leadFrom 46 = .ok (.invokevirtual 270, 3) := by decide +kernel
theorem dX12_leadFrom_49 : decode cX12_leadFrom 49 = .ok (.ireturn, 1) := by decide +kernel
theorem mi_X12_leadFrom : MI yX12_leadFrom cX12_leadFrom 5 (some FieldType.int) 3 := ⟨w_1769, w_118, by decide +kernel, by decide +kernel, by decide +kernel⟩
set_option maxRecDepth 100000 in
set_option maxHeartbeats 4000000 in
theorem C_X12_leadFrom (G : GG) (l : Launch) (th : Nat) (p0 : Int32) (p1 : Int32) (p2 : Int32) (S : St) (Q : Int32 → (Nat → Nat → Int32) → Prop) (hp : P_X12_leadFrom th p0 p1 p2 S Q) : Ctr G l yX12_leadFrom cX12_leadFrom 5 (some FieldType.int) 2 51 0 0 [.ref th, .int p0, .int p1, .int p2] S (fun (v : Option Value) (S9 : St) => ∃ (r : Int32) (I9 : Nat → Nat → Int32), v = some (.int r) ∧ S9 = wI S I9 ∧ Q r I9) := by
  generalize hQQ : (fun (v : Option Value) (S9 : St) => ∃ (r : Int32) (I9 : Nat → Nat → Int32), v = some (.int r) ∧ S9 = wI S I9 ∧ Q r I9) = QQ
  unfold P_X12_leadFrom at hp
  refine Ctr.of (by decide) (Nat.le_of_ble_eq_true rfl) ?_
  intro p e s m args below meth c ls B hr hlk hin hl hH
  generalize hlocs0 : ([] : List Loc) = locs at hH ⊢
  have hx := B.1
  have hb := B.2.1
  have hl : lv_has ls 5 [(0, .ref th), (1, .int p0), (2, .int p1), (3, .int p2)] := hl
  obtain ⟨hk_th, hp⟩ := hp
  refine lv_aload_n (pc := 0) hx hb dX12_leadFrom_0 rfl (lv_at hl 0 rfl) ?_
  refine lv_iload_n (pc := 1) hx hb dX12_leadFrom_1 rfl (lv_at hl 1 rfl) ?_
  refine lv_aload_n (pc := 2) hx hb dX12_leadFrom_2 rfl (lv_at hl 0 rfl) ?_
  refine sx_getR (pc := 3) (j := 23) B hH hk_th coX12 rfl w_1327 rfl dX12_leadFrom_3 ?_
  refine W.eq (g2 := F0 m 6 ls [va_rf (gR S th 23), .int p0, .ref th]) rfl ?_
  obtain ⟨a_1, ha_1, hp⟩ := hp
  refine sx_nonnull (x := a_1) ha_1 ?_
  refine sx_V (pc := 6) (As := [.int p0, .ref a_1]) (rest := []) B hH hl.1 (C_X12_laysRow G l th p0 a_1 _ _ hp) mi_X12_laysRow coX12 hk_th w_1657 w_76 w_1655 rfl rfl ⟨Nat.le_of_ble_eq_true rfl, Nat.le_of_ble_eq_true rfl⟩ (Nat.le_of_ble_eq_true rfl) ⟨Nat.le_of_ble_eq_true rfl, Nat.le_of_ble_eq_true rfl⟩ dX12_leadFrom_6 (fun v S1 H locs hq hH => ?_)
  obtain ⟨F_2, rfl, e9, hp⟩ := hq
  rw [e9] at hH
  have hH : Hp G (FA S s.heap.size) s.heap (wI S F_2) H locs := hH
  refine W.eq (g2 := F0 m 9 ls []) rfl ?_
  refine lv_iconst (pc := 9) (v := 0) hx hb dX12_leadFrom_9 (by decide) ?_
  refine lv_istore (pc := 10) (lv' := [(4, .int 0), (0, .ref th), (1, .int p0), (2, .int p1), (3, .int p2)]) hx hb dX12_leadFrom_10 hl (by decide) rfl (fun ls hl => ?_)
  obtain ⟨I_3, ⟨k0_3, h0_3⟩, hst_3⟩ := hp
  have kl_3 : ∀ (n_3 : Nat) (x4_4 : Int32) (F_5 : Nat → Nat → Int32) (H : Heap) (locs : List Loc) (ls : Array Slot), I_3 n_3 x4_4 F_5 → Hp G (FA S s.heap.size) s.heap (wI S F_5) H locs → lv_has ls 5 [(0, .ref th), (2, .int p1), (3, .int p2), (4, .int x4_4)] → Wm G p l e { frames := 2, cells := 0, slots := 0, locals := 51 } s m args below meth c S QQ 0 0 H locs 0 0 (F0 m 12 ls []) := by
    intro n_3
    induction n_3 using Nat.strongRecOn with
    | ind n_3 ih_3 =>
      intro x4_4 F_5 H locs ls hq9 hH hl
      have hp := hst_3 n_3 x4_4 F_5 hq9
      refine lv_iload (pc := 12) hx hb dX12_leadFrom_12 (lv_at hl 3 rfl) ?_
      refine lv_aload_n (pc := 14) hx hb dX12_leadFrom_14 rfl (lv_at hl 0 rfl) ?_
      refine lv_iload_n (pc := 15) hx hb dX12_leadFrom_15 rfl (lv_at hl 1 rfl) ?_
      refine sx_V (pc := 16) (As := [.int p1]) (rest := [.int x4_4]) B hH hl.1 (C_X12_changesOf G l th p1 _ _ hp) mi_X12_changesOf coX12 hk_th w_1749 w_87 w_1747 rfl rfl ⟨Nat.le_of_ble_eq_true rfl, Nat.le_of_ble_eq_true rfl⟩ (Nat.le_of_ble_eq_true rfl) ⟨Nat.le_of_ble_eq_true rfl, Nat.le_of_ble_eq_true rfl⟩ dX12_leadFrom_16 (fun v S1 H locs hq hH => ?_)
      obtain ⟨r_6, rfl, e9, hp⟩ := hq
      rw [e9] at hH
      refine W.eq (g2 := F0 m 19 ls [.int r_6, .int x4_4]) rfl ?_
      refine lv_icmp_ge (pc := 19) (tgt := 41) hx hb dX12_leadFrom_19 (by decide) (fun cc_7 => ?_) (fun cc_7 => ?_)
      · have hp := hp.1 cc_7
        refine lv_aload_n (pc := 41) hx hb dX12_leadFrom_41 rfl (lv_at hl 0 rfl) ?_
        refine lv_aload_n (pc := 42) hx hb dX12_leadFrom_42 rfl (lv_at hl 0 rfl) ?_
        refine sx_getR (pc := 43) (j := 23) B hH hk_th coX12 rfl w_1327 rfl dX12_leadFrom_43 ?_
        refine W.eq (g2 := F0 m 46 ls [va_rf (gR S th 23), .ref th]) rfl ?_
        refine sx_nonnull (x := a_1) ha_1 ?_
        refine sx_V (pc := 46) (As := [.ref a_1]) (rest := []) B hH hl.1 (C_X12_numberOf G l th a_1 _ _ hp) mi_X12_numberOf coX12 hk_th w_1668 w_77 w_1666 rfl rfl ⟨Nat.le_of_ble_eq_true rfl, Nat.le_of_ble_eq_true rfl⟩ (Nat.le_of_ble_eq_true rfl) ⟨Nat.le_of_ble_eq_true rfl, Nat.le_of_ble_eq_true rfl⟩ dX12_leadFrom_46 (fun v S1 H locs hq hH => ?_)
        obtain ⟨r_8, rfl, e9, hp⟩ := hq
        rw [e9] at hH
        refine W.eq (g2 := F0 m 49 ls [.int r_8]) rfl ?_
        exact sx_iret (pc := 49) B hH hr hlk (by rw [← hQQ]; exact ⟨_, F_5, rfl, rfl, hp⟩) (Nat.le_of_ble_eq_true rfl) (Nat.le_of_ble_eq_true rfl) dX12_leadFrom_49
      · have hp := hp.2 cc_7
        refine lv_aload_n (pc := 22) hx hb dX12_leadFrom_22 rfl (lv_at hl 0 rfl) ?_
        refine lv_aload_n (pc := 23) hx hb dX12_leadFrom_23 rfl (lv_at hl 0 rfl) ?_
        refine lv_iload_n (pc := 24) hx hb dX12_leadFrom_24 rfl (lv_at hl 1 rfl) ?_
        refine lv_iload_n (pc := 25) hx hb dX12_leadFrom_25 rfl (lv_at hl 2 rfl) ?_
        refine lv_iload (pc := 26) hx hb dX12_leadFrom_26 (lv_at hl 3 rfl) ?_
        refine sx_V (pc := 28) (As := [.int p1, .int p2, .int x4_4]) (rest := [.ref th]) B hH hl.1 (C_X12_changeOf G l th p1 p2 x4_4 _ _ hp) mi_X12_changeOf coX12 hk_th w_1760 w_88 w_1758 rfl rfl ⟨Nat.le_of_ble_eq_true rfl, Nat.le_of_ble_eq_true rfl⟩ (Nat.le_of_ble_eq_true rfl) ⟨Nat.le_of_ble_eq_true rfl, Nat.le_of_ble_eq_true rfl⟩ dX12_leadFrom_28 (fun v S1 H locs hq hH => ?_)
        obtain ⟨r_9, rfl, e9, hp⟩ := hq
        rw [e9] at hH
        refine W.eq (g2 := F0 m 31 ls [.int r_9, .ref th]) rfl ?_
        refine lv_iconst (pc := 31) (v := 0) hx hb dX12_leadFrom_31 (by decide) ?_
        refine sx_V (pc := 32) (As := [.int r_9, .int 0]) (rest := []) B hH hl.1 (C_X12_changes0 G l th r_9 0 _ _ hp) mi_X12_changes0 coX12 hk_th w_1712 w_83 w_1710 rfl rfl ⟨Nat.le_of_ble_eq_true rfl, Nat.le_of_ble_eq_true rfl⟩ (Nat.le_of_ble_eq_true rfl) ⟨Nat.le_of_ble_eq_true rfl, Nat.le_of_ble_eq_true rfl⟩ dX12_leadFrom_32 (fun v S1 H locs hq hH => ?_)
        obtain ⟨F_10, rfl, e9, hp⟩ := hq
        rw [e9] at hH
        have hH : Hp G (FA S s.heap.size) s.heap (wI S F_10) H locs := hH
        refine W.eq (g2 := F0 m 35 ls []) rfl ?_
        obtain ⟨v_11, ev_11⟩ : ∃ y : Int32, y = x4_4 + 1 := ⟨_, rfl⟩
        have hp := hp v_11 ev_11
        refine lv_iinc (pc := 35) (v := v_11) (lv' := [(4, .int v_11), (0, .ref th), (2, .int p1), (3, .int p2)]) hx hb dX12_leadFrom_35 hl (k := 3) rfl (by rw [ev_11]; rfl) (by decide) rfl (fun ls hl => ?_)
        refine lv_goto (pc := 38) (tgt := 12) hx hb dX12_leadFrom_38 (by decide) ?_
        obtain ⟨k9, hlt9, hp⟩ := hp
        exact ih_3 k9 hlt9 _ _ _ _ _ hp hH (lv_sub hl [1, 2, 3, 0] rfl)
  exact kl_3 k0_3 _ _ _ _ _ h0_3 hH (lv_sub hl [1, 3, 4, 0] rfl)
theorem dX12_head_0 : decode cX12_head 0 = .ok (.aload_n 0, 1) := by decide +kernel
theorem dX12_head_1 : decode cX12_head 1 = .ok (.iload_n 1, 1) := by decide +kernel
theorem dX12_head_2 : decode cX12_head 2 = .ok (.invokevirtual 317, 3) := by decide +kernel
theorem dX12_head_5 : decode cX12_head 5 = .ok (.ifCond .eq 24, 3) := by decide +kernel
theorem dX12_head_8 : decode cX12_head 8 = .ok (.iload_n 2, 1) := by decide +kernel
theorem dX12_head_9 : decode cX12_head 9 = .ok (.invokestatic 320, 3) := by decide +kernel
theorem dX12_head_12 : decode cX12_head 12 = .ok (.ifCond .eq 17, 3) := by decide +kernel
theorem dX12_head_15 : decode cX12_head 15 = .ok (.aload_n 0, 1) := by decide +kernel
theorem dX12_head_16 : decode cX12_head 16 = .ok (.aload_n 0, 1) := by decide +kernel
theorem dX12_head_17 : decode cX12_head 17 = .ok (.iconst 0, 1) := by decide +kernel
theorem dX12_head_18 : decode cX12_head 18 = .ok (.iload_n 1, 1) := by decide +kernel
theorem dX12_head_19 : decode cX12_head 19 = .ok (.iload_n 2, 1) := by decide +kernel
theorem dX12_head_20 : decode cX12_head 20 = .ok (.invokevirtual 327, 3) := by decide +kernel
theorem dX12_head_23 : decode cX12_head 23 = .ok (.invokevirtual 109, 3) := by decide +kernel
theorem dX12_head_26 : decode cX12_head 26 = .ok (.goto 8, 3) := by decide +kernel
theorem dX12_head_29 : decode cX12_head 29 = .ok (.aload_n 0, 1) := by decide +kernel
theorem dX12_head_30 : decode cX12_head 30 = .ok (.iconst 1, 1) := by decide +kernel
theorem dX12_head_31 : decode cX12_head 31 = .ok (.invokevirtual 105, 3) := by decide +kernel
theorem dX12_head_34 : decode cX12_head 34 = .ok (.ireturn, 1) := by decide +kernel
theorem mi_X12_head : MI yX12_head cX12_head 3 (some FieldType.int) 2 := ⟨w_1765, w_118, by decide +kernel, by decide +kernel, by decide +kernel⟩
set_option maxRecDepth 100000 in
set_option maxHeartbeats 4000000 in
theorem C_X12_head (G : GG) (l : Launch) (th : Nat) (p0 : Int32) (p1 : Int32) (S : St) (Q : Int32 → (Nat → Nat → Int32) → Prop) (hp : P_X12_head th p0 p1 S Q) : Ctr G l yX12_head cX12_head 3 (some FieldType.int) 3 75 0 0 [.ref th, .int p0, .int p1] S (fun (v : Option Value) (S9 : St) => ∃ (r : Int32) (I9 : Nat → Nat → Int32), v = some (.int r) ∧ S9 = wI S I9 ∧ Q r I9) := by
  generalize hQQ : (fun (v : Option Value) (S9 : St) => ∃ (r : Int32) (I9 : Nat → Nat → Int32), v = some (.int r) ∧ S9 = wI S I9 ∧ Q r I9) = QQ
  unfold P_X12_head at hp
  refine Ctr.of (by decide) (Nat.le_of_ble_eq_true rfl) ?_
  intro p e s m args below meth c ls B hr hlk hin hl hH
  generalize hlocs0 : ([] : List Loc) = locs at hH ⊢
  have hx := B.1
  have hb := B.2.1
  have hl : lv_has ls 3 [(0, .ref th), (1, .int p0), (2, .int p1)] := hl
  obtain ⟨hk_th, hp⟩ := hp
  refine lv_aload_n (pc := 0) hx hb dX12_head_0 rfl (lv_at hl 0 rfl) ?_
  refine lv_iload_n (pc := 1) hx hb dX12_head_1 rfl (lv_at hl 1 rfl) ?_
  refine sx_V (pc := 2) (As := [.int p0]) (rest := []) B hH hl.1 (C_X12_isMethod G l th p0 _ _ hp) mi_X12_isMethod coX12 hk_th w_1745 w_86 w_1743 rfl rfl ⟨Nat.le_of_ble_eq_true rfl, Nat.le_of_ble_eq_true rfl⟩ (Nat.le_of_ble_eq_true rfl) ⟨Nat.le_of_ble_eq_true rfl, Nat.le_of_ble_eq_true rfl⟩ dX12_head_2 (fun v S1 H locs hq hH => ?_)
  obtain ⟨r_1, rfl, e9, hp⟩ := hq
  rw [e9] at hH
  refine W.eq (g2 := F0 m 5 ls [.int r_1]) rfl ?_
  obtain ⟨J_3, hj_3, hp⟩ := hp
  have kj_3 : ∀  (H : Heap) (locs : List Loc) (ls : Array Slot), J_3  → Hp G (FA S s.heap.size) s.heap S H locs → lv_has ls 3 [(0, .ref th)] → Wm G p l e { frames := 3, cells := 0, slots := 0, locals := 75 } s m args below meth c S QQ 0 0 H locs 0 0 (F0 m 29 ls []) := by
    intro  H locs ls hq9 hH hl
    have hp := hj_3  hq9
    refine lv_aload_n (pc := 29) hx hb dX12_head_29 rfl (lv_at hl 0 rfl) ?_
    refine lv_iconst (pc := 30) (v := 1) hx hb dX12_head_30 (by decide) ?_
    refine sx_V (pc := 31) (As := [.int 1]) (rest := []) B hH hl.1 (C_X12_refuse G l th 1 _ _ hp) mi_X12_refuse coX12 hk_th w_1539 w_51 w_1537 rfl rfl ⟨Nat.le_of_ble_eq_true rfl, Nat.le_of_ble_eq_true rfl⟩ (Nat.le_of_ble_eq_true rfl) ⟨Nat.le_of_ble_eq_true rfl, Nat.le_of_ble_eq_true rfl⟩ dX12_head_31 (fun v S1 H locs hq hH => ?_)
    obtain ⟨r_4, F_4, rfl, e9, hp⟩ := hq
    rw [e9] at hH
    have hH : Hp G (FA S s.heap.size) s.heap (wI S F_4) H locs := hH
    refine W.eq (g2 := F0 m 34 ls [.int r_4]) rfl ?_
    exact sx_iret (pc := 34) B hH hr hlk (by rw [← hQQ]; exact ⟨_, F_4, rfl, rfl, hp⟩) (Nat.le_of_ble_eq_true rfl) (Nat.le_of_ble_eq_true rfl) dX12_head_34
  refine lv_if_eq (pc := 5) (tgt := 29) hx hb dX12_head_5 (by decide) (fun cc_2 => ?_) (fun cc_2 => ?_)
  · have hp := hp.1 cc_2
    exact kj_3  _ _ _ hp hH (lv_sub hl [0] rfl)
  · have hp := hp.2 cc_2
    refine lv_iload_n (pc := 8) hx hb dX12_head_8 rfl (lv_at hl 2 rfl) ?_
    refine sx_S (pc := 9) (As := [.int p1]) (rest := []) B hH hl.1 (C_X12_isCall G l p1 _ _ hp) mi_X12_isCall w_1756 w_1755 rfl rfl ⟨Nat.le_of_ble_eq_true rfl, Nat.le_of_ble_eq_true rfl⟩ (Nat.le_of_ble_eq_true rfl) ⟨Nat.le_of_ble_eq_true rfl, Nat.le_of_ble_eq_true rfl⟩ dX12_head_9 (fun v S1 H locs hq hH => ?_)
    obtain ⟨r_5, rfl, e9, hp⟩ := hq
    rw [e9] at hH
    refine W.eq (g2 := F0 m 12 ls [.int r_5]) rfl ?_
    refine lv_if_eq (pc := 12) (tgt := 29) hx hb dX12_head_12 (by decide) (fun cc_6 => ?_) (fun cc_6 => ?_)
    · have hp := hp.1 cc_6
      exact kj_3  _ _ _ hp hH (lv_sub hl [0] rfl)
    · have hp := hp.2 cc_6
      refine lv_aload_n (pc := 15) hx hb dX12_head_15 rfl (lv_at hl 0 rfl) ?_
      refine lv_aload_n (pc := 16) hx hb dX12_head_16 rfl (lv_at hl 0 rfl) ?_
      refine lv_iconst (pc := 17) (v := 0) hx hb dX12_head_17 (by decide) ?_
      refine lv_iload_n (pc := 18) hx hb dX12_head_18 rfl (lv_at hl 1 rfl) ?_
      refine lv_iload_n (pc := 19) hx hb dX12_head_19 rfl (lv_at hl 2 rfl) ?_
      refine sx_V (pc := 20) (As := [.int 0, .int p0, .int p1]) (rest := [.ref th]) B hH hl.1 (C_X12_leadFrom G l th 0 p0 p1 _ _ hp) mi_X12_leadFrom coX12 hk_th w_1768 w_89 w_1766 rfl rfl ⟨Nat.le_of_ble_eq_true rfl, Nat.le_of_ble_eq_true rfl⟩ (Nat.le_of_ble_eq_true rfl) ⟨Nat.le_of_ble_eq_true rfl, Nat.le_of_ble_eq_true rfl⟩ dX12_head_20 (fun v S1 H locs hq hH => ?_)
      obtain ⟨r_7, F_7, rfl, e9, hp⟩ := hq
      rw [e9] at hH
      have hH : Hp G (FA S s.heap.size) s.heap (wI S F_7) H locs := hH
      refine W.eq (g2 := F0 m 23 ls [.int r_7, .ref th]) rfl ?_
      refine sx_V (pc := 23) (As := [.int r_7]) (rest := []) B hH hl.1 (C_X12_gives G l th r_7 _ _ hp) mi_X12_gives coX12 hk_th w_1617 w_69 w_1615 rfl rfl ⟨Nat.le_of_ble_eq_true rfl, Nat.le_of_ble_eq_true rfl⟩ (Nat.le_of_ble_eq_true rfl) ⟨Nat.le_of_ble_eq_true rfl, Nat.le_of_ble_eq_true rfl⟩ dX12_head_23 (fun v S1 H locs hq hH => ?_)
      obtain ⟨r_8, F_8, rfl, e9, hp⟩ := hq
      rw [e9] at hH
      have hH : Hp G (FA S s.heap.size) s.heap (wI S F_8) H locs := hH
      refine W.eq (g2 := F0 m 26 ls [.int r_8]) rfl ?_
      refine lv_goto (pc := 26) (tgt := 34) hx hb dX12_head_26 (by decide) ?_
      exact sx_iret (pc := 34) B hH hr hlk (by rw [← hQQ]; exact ⟨_, F_8, rfl, rfl, hp⟩) (Nat.le_of_ble_eq_true rfl) (Nat.le_of_ble_eq_true rfl) dX12_head_34
theorem dX12_course_0 : decode cX12_course 0 = .ok (.aload_n 0, 1) := by decide +kernel
theorem dX12_course_1 : decode cX12_course 1 = .ok (.iload_n 1, 1) := by decide +kernel
theorem dX12_course_2 : decode cX12_course 2 = .ok (.invokevirtual 317, 3) := by decide +kernel
theorem dX12_course_5 : decode cX12_course 5 = .ok (.ifCond .eq 28, 3) := by decide +kernel
theorem dX12_course_8 : decode cX12_course 8 = .ok (.iload_n 2, 1) := by decide +kernel
theorem dX12_course_9 : decode cX12_course 9 = .ok (.invokestatic 320, 3) := by decide +kernel
theorem dX12_course_12 : decode cX12_course 12 = .ok (.ifCond .eq 21, 3) := by decide +kernel
theorem dX12_course_15 : decode cX12_course 15 = .ok (.aload_n 0, 1) := by decide +kernel
theorem dX12_course_16 : decode cX12_course 16 = .ok (.aload_n 0, 1) := by decide +kernel
theorem dX12_course_17 : decode cX12_course 17 = .ok (.aload_n 0, 1) := by decide +kernel
theorem dX12_course_18 : decode cX12_course 18 = .ok (.iconst 0, 1) := by decide +kernel
theorem dX12_course_19 : decode cX12_course 19 = .ok (.iload_n 1, 1) := by decide +kernel
theorem dX12_course_20 : decode cX12_course 20 = .ok (.iload_n 2, 1) := by decide +kernel
theorem dX12_course_21 : decode cX12_course 21 = .ok (.invokevirtual 327, 3) := by decide +kernel
theorem dX12_course_24 : decode cX12_course 24 = .ok (.invokevirtual 293, 3) := by decide +kernel
theorem dX12_course_27 : decode cX12_course 27 = .ok (.invokevirtual 109, 3) := by decide +kernel
theorem dX12_course_30 : decode cX12_course 30 = .ok (.goto 8, 3) := by decide +kernel
theorem dX12_course_33 : decode cX12_course 33 = .ok (.aload_n 0, 1) := by decide +kernel
theorem dX12_course_34 : decode cX12_course 34 = .ok (.iconst 1, 1) := by decide +kernel
theorem dX12_course_35 : decode cX12_course 35 = .ok (.invokevirtual 105, 3) := by decide +kernel
theorem dX12_course_38 : decode cX12_course 38 = .ok (.ireturn, 1) := by decide +kernel
theorem mi_X12_course : MI yX12_course cX12_course 3 (some FieldType.int) 2 := ⟨w_1773, w_118, by decide +kernel, by decide +kernel, by decide +kernel⟩
set_option maxRecDepth 100000 in
set_option maxHeartbeats 4000000 in
theorem C_X12_course (G : GG) (l : Launch) (th : Nat) (p0 : Int32) (p1 : Int32) (S : St) (Q : Int32 → (Nat → Nat → Int32) → Prop) (hp : P_X12_course th p0 p1 S Q) : Ctr G l yX12_course cX12_course 3 (some FieldType.int) 4 97 0 0 [.ref th, .int p0, .int p1] S (fun (v : Option Value) (S9 : St) => ∃ (r : Int32) (I9 : Nat → Nat → Int32), v = some (.int r) ∧ S9 = wI S I9 ∧ Q r I9) := by
  generalize hQQ : (fun (v : Option Value) (S9 : St) => ∃ (r : Int32) (I9 : Nat → Nat → Int32), v = some (.int r) ∧ S9 = wI S I9 ∧ Q r I9) = QQ
  unfold P_X12_course at hp
  refine Ctr.of (by decide) (Nat.le_of_ble_eq_true rfl) ?_
  intro p e s m args below meth c ls B hr hlk hin hl hH
  generalize hlocs0 : ([] : List Loc) = locs at hH ⊢
  have hx := B.1
  have hb := B.2.1
  have hl : lv_has ls 3 [(0, .ref th), (1, .int p0), (2, .int p1)] := hl
  obtain ⟨hk_th, hp⟩ := hp
  refine lv_aload_n (pc := 0) hx hb dX12_course_0 rfl (lv_at hl 0 rfl) ?_
  refine lv_iload_n (pc := 1) hx hb dX12_course_1 rfl (lv_at hl 1 rfl) ?_
  refine sx_V (pc := 2) (As := [.int p0]) (rest := []) B hH hl.1 (C_X12_isMethod G l th p0 _ _ hp) mi_X12_isMethod coX12 hk_th w_1745 w_86 w_1743 rfl rfl ⟨Nat.le_of_ble_eq_true rfl, Nat.le_of_ble_eq_true rfl⟩ (Nat.le_of_ble_eq_true rfl) ⟨Nat.le_of_ble_eq_true rfl, Nat.le_of_ble_eq_true rfl⟩ dX12_course_2 (fun v S1 H locs hq hH => ?_)
  obtain ⟨r_1, rfl, e9, hp⟩ := hq
  rw [e9] at hH
  refine W.eq (g2 := F0 m 5 ls [.int r_1]) rfl ?_
  obtain ⟨J_3, hj_3, hp⟩ := hp
  have kj_3 : ∀  (H : Heap) (locs : List Loc) (ls : Array Slot), J_3  → Hp G (FA S s.heap.size) s.heap S H locs → lv_has ls 3 [(0, .ref th)] → Wm G p l e { frames := 4, cells := 0, slots := 0, locals := 97 } s m args below meth c S QQ 0 0 H locs 0 0 (F0 m 33 ls []) := by
    intro  H locs ls hq9 hH hl
    have hp := hj_3  hq9
    refine lv_aload_n (pc := 33) hx hb dX12_course_33 rfl (lv_at hl 0 rfl) ?_
    refine lv_iconst (pc := 34) (v := 1) hx hb dX12_course_34 (by decide) ?_
    refine sx_V (pc := 35) (As := [.int 1]) (rest := []) B hH hl.1 (C_X12_refuse G l th 1 _ _ hp) mi_X12_refuse coX12 hk_th w_1539 w_51 w_1537 rfl rfl ⟨Nat.le_of_ble_eq_true rfl, Nat.le_of_ble_eq_true rfl⟩ (Nat.le_of_ble_eq_true rfl) ⟨Nat.le_of_ble_eq_true rfl, Nat.le_of_ble_eq_true rfl⟩ dX12_course_35 (fun v S1 H locs hq hH => ?_)
    obtain ⟨r_4, F_4, rfl, e9, hp⟩ := hq
    rw [e9] at hH
    have hH : Hp G (FA S s.heap.size) s.heap (wI S F_4) H locs := hH
    refine W.eq (g2 := F0 m 38 ls [.int r_4]) rfl ?_
    exact sx_iret (pc := 38) B hH hr hlk (by rw [← hQQ]; exact ⟨_, F_4, rfl, rfl, hp⟩) (Nat.le_of_ble_eq_true rfl) (Nat.le_of_ble_eq_true rfl) dX12_course_38
  refine lv_if_eq (pc := 5) (tgt := 33) hx hb dX12_course_5 (by decide) (fun cc_2 => ?_) (fun cc_2 => ?_)
  · have hp := hp.1 cc_2
    exact kj_3  _ _ _ hp hH (lv_sub hl [0] rfl)
  · have hp := hp.2 cc_2
    refine lv_iload_n (pc := 8) hx hb dX12_course_8 rfl (lv_at hl 2 rfl) ?_
    refine sx_S (pc := 9) (As := [.int p1]) (rest := []) B hH hl.1 (C_X12_isCall G l p1 _ _ hp) mi_X12_isCall w_1756 w_1755 rfl rfl ⟨Nat.le_of_ble_eq_true rfl, Nat.le_of_ble_eq_true rfl⟩ (Nat.le_of_ble_eq_true rfl) ⟨Nat.le_of_ble_eq_true rfl, Nat.le_of_ble_eq_true rfl⟩ dX12_course_9 (fun v S1 H locs hq hH => ?_)
    obtain ⟨r_5, rfl, e9, hp⟩ := hq
    rw [e9] at hH
    refine W.eq (g2 := F0 m 12 ls [.int r_5]) rfl ?_
    refine lv_if_eq (pc := 12) (tgt := 33) hx hb dX12_course_12 (by decide) (fun cc_6 => ?_) (fun cc_6 => ?_)
    · have hp := hp.1 cc_6
      exact kj_3  _ _ _ hp hH (lv_sub hl [0] rfl)
    · have hp := hp.2 cc_6
      refine lv_aload_n (pc := 15) hx hb dX12_course_15 rfl (lv_at hl 0 rfl) ?_
      refine lv_aload_n (pc := 16) hx hb dX12_course_16 rfl (lv_at hl 0 rfl) ?_
      refine lv_aload_n (pc := 17) hx hb dX12_course_17 rfl (lv_at hl 0 rfl) ?_
      refine lv_iconst (pc := 18) (v := 0) hx hb dX12_course_18 (by decide) ?_
      refine lv_iload_n (pc := 19) hx hb dX12_course_19 rfl (lv_at hl 1 rfl) ?_
      refine lv_iload_n (pc := 20) hx hb dX12_course_20 rfl (lv_at hl 2 rfl) ?_
      refine sx_V (pc := 21) (As := [.int 0, .int p0, .int p1]) (rest := [.ref th, .ref th]) B hH hl.1 (C_X12_leadFrom G l th 0 p0 p1 _ _ hp) mi_X12_leadFrom coX12 hk_th w_1768 w_89 w_1766 rfl rfl ⟨Nat.le_of_ble_eq_true rfl, Nat.le_of_ble_eq_true rfl⟩ (Nat.le_of_ble_eq_true rfl) ⟨Nat.le_of_ble_eq_true rfl, Nat.le_of_ble_eq_true rfl⟩ dX12_course_21 (fun v S1 H locs hq hH => ?_)
      obtain ⟨r_7, F_7, rfl, e9, hp⟩ := hq
      rw [e9] at hH
      have hH : Hp G (FA S s.heap.size) s.heap (wI S F_7) H locs := hH
      refine W.eq (g2 := F0 m 24 ls [.int r_7, .ref th, .ref th]) rfl ?_
      refine sx_V (pc := 24) (As := [.int r_7]) (rest := [.ref th]) B hH hl.1 (C_X12_orderOf G l th r_7 _ _ hp) mi_X12_orderOf coX12 hk_th w_1692 w_80 w_1690 rfl rfl ⟨Nat.le_of_ble_eq_true rfl, Nat.le_of_ble_eq_true rfl⟩ (Nat.le_of_ble_eq_true rfl) ⟨Nat.le_of_ble_eq_true rfl, Nat.le_of_ble_eq_true rfl⟩ dX12_course_24 (fun v S1 H locs hq hH => ?_)
      obtain ⟨r_8, F_8, rfl, e9, hp⟩ := hq
      rw [e9] at hH
      have hH : Hp G (FA S s.heap.size) s.heap (wI S F_8) H locs := hH
      refine W.eq (g2 := F0 m 27 ls [.int r_8, .ref th]) rfl ?_
      refine sx_V (pc := 27) (As := [.int r_8]) (rest := []) B hH hl.1 (C_X12_gives G l th r_8 _ _ hp) mi_X12_gives coX12 hk_th w_1617 w_69 w_1615 rfl rfl ⟨Nat.le_of_ble_eq_true rfl, Nat.le_of_ble_eq_true rfl⟩ (Nat.le_of_ble_eq_true rfl) ⟨Nat.le_of_ble_eq_true rfl, Nat.le_of_ble_eq_true rfl⟩ dX12_course_27 (fun v S1 H locs hq hH => ?_)
      obtain ⟨r_9, F_9, rfl, e9, hp⟩ := hq
      rw [e9] at hH
      have hH : Hp G (FA S s.heap.size) s.heap (wI S F_9) H locs := hH
      refine W.eq (g2 := F0 m 30 ls [.int r_9]) rfl ?_
      refine lv_goto (pc := 30) (tgt := 38) hx hb dX12_course_30 (by decide) ?_
      exact sx_iret (pc := 38) B hH hr hlk (by rw [← hQQ]; exact ⟨_, F_9, rfl, rfl, hp⟩) (Nat.le_of_ble_eq_true rfl) (Nat.le_of_ble_eq_true rfl) dX12_course_38
theorem dX12_fixed_0 : decode cX12_fixed 0 = .ok (.aload_n 0, 1) := by decide +kernel
theorem dX12_fixed_1 : decode cX12_fixed 1 = .ok (.iload_n 1, 1) := by decide +kernel
theorem dX12_fixed_2 : decode cX12_fixed 2 = .ok (.invokevirtual 317, 3) := by decide +kernel
theorem dX12_fixed_5 : decode cX12_fixed 5 = .ok (.ifCond .eq 10, 3) := by decide +kernel
theorem dX12_fixed_8 : decode cX12_fixed 8 = .ok (.iload_n 2, 1) := by decide +kernel
theorem dX12_fixed_9 : decode cX12_fixed 9 = .ok (.invokestatic 320, 3) := by decide +kernel
theorem dX12_fixed_12 : decode cX12_fixed 12 = .ok (.ifCond .ne 9, 3) := by decide +kernel
theorem dX12_fixed_15 : decode cX12_fixed 15 = .ok (.aload_n 0, 1) := by decide +kernel
theorem dX12_fixed_16 : decode cX12_fixed 16 = .ok (.iconst 1, 1) := by decide +kernel
theorem dX12_fixed_17 : decode cX12_fixed 17 = .ok (.invokevirtual 105, 3) := by decide +kernel
theorem dX12_fixed_20 : decode cX12_fixed 20 = .ok (.ireturn, 1) := by decide +kernel
theorem dX12_fixed_21 : decode cX12_fixed 21 = .ok (.aload_n 0, 1) := by decide +kernel
theorem dX12_fixed_22 : decode cX12_fixed 22 = .ok (.aload_n 0, 1) := by decide +kernel
theorem dX12_fixed_23 : decode cX12_fixed 23 = .ok (.iconst 0, 1) := by decide +kernel
theorem dX12_fixed_24 : decode cX12_fixed 24 = .ok (.iload_n 1, 1) := by decide +kernel
theorem dX12_fixed_25 : decode cX12_fixed 25 = .ok (.iload_n 2, 1) := by decide +kernel
theorem dX12_fixed_26 : decode cX12_fixed 26 = .ok (.invokevirtual 327, 3) := by decide +kernel
theorem dX12_fixed_29 : decode cX12_fixed 29 = .ok (.aload_n 0, 1) := by decide +kernel
theorem dX12_fixed_30 : decode cX12_fixed 30 = .ok (.getfield 50, 3) := by decide +kernel
theorem dX12_fixed_33 : decode cX12_fixed 33 = .ok (.invokevirtual 266, 3) := by decide +kernel
theorem dX12_fixed_36 : decode cX12_fixed 36 = .ok (.iconst 0, 1) := by decide +kernel
theorem dX12_fixed_37 : decode cX12_fixed 37 = .ok (.istore_n 3, 1) := by decide +kernel
theorem dX12_fixed_38 : decode cX12_fixed 38 = .ok (.iconst 0, 1) := by decide +kernel
theorem dX12_fixed_39 : decode cX12_fixed 39 = .ok (.istore 4, 2) := by decide +kernel
theorem dX12_fixed_41 : decode cX12_fixed 41 = .ok (.iload 4, 2) := by decide +kernel
theorem dX12_fixed_43 : decode cX12_fixed 43 = .ok (.aload_n 0, 1) := by decide +kernel
theorem dX12_fixed_44 : decode cX12_fixed 44 = .ok (.getfield 7, 3) := by decide +kernel
theorem dX12_fixed_47 : decode cX12_fixed 47 = .ok (.iconst 0, 1) := by decide +kernel
theorem dX12_fixed_48 : decode cX12_fixed 48 = .ok (.iaload, 1) := by decide +kernel
theorem dX12_fixed_49 : decode cX12_fixed 49 = .ok (.if_icmp .ge 32, 3) := by decide +kernel
theorem dX12_fixed_52 : decode cX12_fixed 52 = .ok (.iload_n 3, 1) := by decide +kernel
theorem dX12_fixed_53 : decode cX12_fixed 53 = .ok (.aload_n 0, 1) := by decide +kernel
theorem dX12_fixed_54 : decode cX12_fixed 54 = .ok (.getfield 50, 3) := by decide +kernel
theorem dX12_fixed_57 : decode cX12_fixed 57 = .ok (.iload 4, 2) := by decide +kernel
theorem dX12_fixed_59 : decode cX12_fixed 59 = .ok (.iaload, 1) := by decide +kernel
theorem dX12_fixed_60 : decode cX12_fixed 60 = .ok (.iload 4, 2) := by decide +kernel
theorem dX12_fixed_62 : decode cX12_fixed 62 = .ok (.if_icmp .ne 10, 3) := by decide +kernel
theorem dX12_fixed_65 : decode cX12_fixed 65 = .ok (.iconst 1, 1) := by decide +kernel
theorem dX12_fixed_66 : decode cX12_fixed 66 = .ok (.iload 4, 2) := by decide +kernel
theorem dX12_fixed_68 : decode cX12_fixed 68 = .ok (.ishl, 1) := by decide +kernel
theorem dX12_fixed_69 : decode cX12_fixed 69 = .ok (.goto 4, 3) := by decide +kernel
theorem dX12_fixed_72 : decode cX12_fixed 72 = .ok (.iconst 0, 1) := by decide +kernel
theorem dX12_fixed_73 : decode cX12_fixed 73 = .ok (.ior, 1) := by decide +kernel
theorem dX12_fixed_74 : decode cX12_fixed 74 = .ok (.istore_n 3, 1) := by decide +kernel
theorem dX12_fixed_75 : decode cX12_fixed 75 = .ok (.iinc 4 1, 3) := by decide +kernel
theorem dX12_fixed_78 : decode cX12_fixed 78 = .ok (.goto (-37), 3) := by decide +kernel
theorem dX12_fixed_81 : decode cX12_fixed 81 = .ok (.aload_n 0, 1) := by decide +kernel
theorem dX12_fixed_82 : decode cX12_fixed 82 = .ok (.iload_n 3, 1) := by decide +kernel
theorem dX12_fixed_83 : decode cX12_fixed 83 = .ok (.invokevirtual 109, 3) := by decide +kernel
theorem dX12_fixed_86 : decode cX12_fixed 86 = .ok (.ireturn, 1) := by decide +kernel
theorem mi_X12_fixed : MI yX12_fixed cX12_fixed 5 (some FieldType.int) 2 := ⟨w_1777, w_118, by decide +kernel, by decide +kernel, by decide +kernel⟩
set_option maxRecDepth 100000 in
set_option maxHeartbeats 4000000 in
theorem C_X12_fixed (G : GG) (l : Launch) (th : Nat) (p0 : Int32) (p1 : Int32) (S : St) (Q : Int32 → (Nat → Nat → Int32) → Prop) (hp : P_X12_fixed th p0 p1 S Q) : Ctr G l yX12_fixed cX12_fixed 5 (some FieldType.int) 3 75 0 0 [.ref th, .int p0, .int p1] S (fun (v : Option Value) (S9 : St) => ∃ (r : Int32) (I9 : Nat → Nat → Int32), v = some (.int r) ∧ S9 = wI S I9 ∧ Q r I9) := by
  generalize hQQ : (fun (v : Option Value) (S9 : St) => ∃ (r : Int32) (I9 : Nat → Nat → Int32), v = some (.int r) ∧ S9 = wI S I9 ∧ Q r I9) = QQ
  unfold P_X12_fixed at hp
  refine Ctr.of (by decide) (Nat.le_of_ble_eq_true rfl) ?_
  intro p e s m args below meth c ls B hr hlk hin hl hH
  generalize hlocs0 : ([] : List Loc) = locs at hH ⊢
  have hx := B.1
  have hb := B.2.1
  have hl : lv_has ls 5 [(0, .ref th), (1, .int p0), (2, .int p1)] := hl
  obtain ⟨hk_th, hp⟩ := hp
  refine lv_aload_n (pc := 0) hx hb dX12_fixed_0 rfl (lv_at hl 0 rfl) ?_
  refine lv_iload_n (pc := 1) hx hb dX12_fixed_1 rfl (lv_at hl 1 rfl) ?_
  refine sx_V (pc := 2) (As := [.int p0]) (rest := []) B hH hl.1 (C_X12_isMethod G l th p0 _ _ hp) mi_X12_isMethod coX12 hk_th w_1745 w_86 w_1743 rfl rfl ⟨Nat.le_of_ble_eq_true rfl, Nat.le_of_ble_eq_true rfl⟩ (Nat.le_of_ble_eq_true rfl) ⟨Nat.le_of_ble_eq_true rfl, Nat.le_of_ble_eq_true rfl⟩ dX12_fixed_2 (fun v S1 H locs hq hH => ?_)
  obtain ⟨r_1, rfl, e9, hp⟩ := hq
  rw [e9] at hH
  refine W.eq (g2 := F0 m 5 ls [.int r_1]) rfl ?_
  obtain ⟨J_3, hj_3, hp⟩ := hp
  have kj_3 : ∀  (H : Heap) (locs : List Loc) (ls : Array Slot), J_3  → Hp G (FA S s.heap.size) s.heap S H locs → lv_has ls 5 [(0, .ref th)] → Wm G p l e { frames := 3, cells := 0, slots := 0, locals := 75 } s m args below meth c S QQ 0 0 H locs 0 0 (F0 m 15 ls []) := by
    intro  H locs ls hq9 hH hl
    have hp := hj_3  hq9
    refine lv_aload_n (pc := 15) hx hb dX12_fixed_15 rfl (lv_at hl 0 rfl) ?_
    refine lv_iconst (pc := 16) (v := 1) hx hb dX12_fixed_16 (by decide) ?_
    refine sx_V (pc := 17) (As := [.int 1]) (rest := []) B hH hl.1 (C_X12_refuse G l th 1 _ _ hp) mi_X12_refuse coX12 hk_th w_1539 w_51 w_1537 rfl rfl ⟨Nat.le_of_ble_eq_true rfl, Nat.le_of_ble_eq_true rfl⟩ (Nat.le_of_ble_eq_true rfl) ⟨Nat.le_of_ble_eq_true rfl, Nat.le_of_ble_eq_true rfl⟩ dX12_fixed_17 (fun v S1 H locs hq hH => ?_)
    obtain ⟨r_4, F_4, rfl, e9, hp⟩ := hq
    rw [e9] at hH
    have hH : Hp G (FA S s.heap.size) s.heap (wI S F_4) H locs := hH
    refine W.eq (g2 := F0 m 20 ls [.int r_4]) rfl ?_
    exact sx_iret (pc := 20) B hH hr hlk (by rw [← hQQ]; exact ⟨_, F_4, rfl, rfl, hp⟩) (Nat.le_of_ble_eq_true rfl) (Nat.le_of_ble_eq_true rfl) dX12_fixed_20
  refine lv_if_eq (pc := 5) (tgt := 15) hx hb dX12_fixed_5 (by decide) (fun cc_2 => ?_) (fun cc_2 => ?_)
  · have hp := hp.1 cc_2
    exact kj_3  _ _ _ hp hH (lv_sub hl [0] rfl)
  · have hp := hp.2 cc_2
    refine lv_iload_n (pc := 8) hx hb dX12_fixed_8 rfl (lv_at hl 2 rfl) ?_
    refine sx_S (pc := 9) (As := [.int p1]) (rest := []) B hH hl.1 (C_X12_isCall G l p1 _ _ hp) mi_X12_isCall w_1756 w_1755 rfl rfl ⟨Nat.le_of_ble_eq_true rfl, Nat.le_of_ble_eq_true rfl⟩ (Nat.le_of_ble_eq_true rfl) ⟨Nat.le_of_ble_eq_true rfl, Nat.le_of_ble_eq_true rfl⟩ dX12_fixed_9 (fun v S1 H locs hq hH => ?_)
    obtain ⟨r_5, rfl, e9, hp⟩ := hq
    rw [e9] at hH
    refine W.eq (g2 := F0 m 12 ls [.int r_5]) rfl ?_
    refine lv_if_ne (pc := 12) (tgt := 21) hx hb dX12_fixed_12 (by decide) (fun cc_6 => ?_) (fun cc_6 => ?_)
    · have hp := hp.1 cc_6
      refine lv_aload_n (pc := 21) hx hb dX12_fixed_21 rfl (lv_at hl 0 rfl) ?_
      refine lv_aload_n (pc := 22) hx hb dX12_fixed_22 rfl (lv_at hl 0 rfl) ?_
      refine lv_iconst (pc := 23) (v := 0) hx hb dX12_fixed_23 (by decide) ?_
      refine lv_iload_n (pc := 24) hx hb dX12_fixed_24 rfl (lv_at hl 1 rfl) ?_
      refine lv_iload_n (pc := 25) hx hb dX12_fixed_25 rfl (lv_at hl 2 rfl) ?_
      refine sx_V (pc := 26) (As := [.int 0, .int p0, .int p1]) (rest := [.ref th]) B hH hl.1 (C_X12_leadFrom G l th 0 p0 p1 _ _ hp) mi_X12_leadFrom coX12 hk_th w_1768 w_89 w_1766 rfl rfl ⟨Nat.le_of_ble_eq_true rfl, Nat.le_of_ble_eq_true rfl⟩ (Nat.le_of_ble_eq_true rfl) ⟨Nat.le_of_ble_eq_true rfl, Nat.le_of_ble_eq_true rfl⟩ dX12_fixed_26 (fun v S1 H locs hq hH => ?_)
      obtain ⟨r_7, F_7, rfl, e9, hp⟩ := hq
      rw [e9] at hH
      have hH : Hp G (FA S s.heap.size) s.heap (wI S F_7) H locs := hH
      refine W.eq (g2 := F0 m 29 ls [.int r_7, .ref th]) rfl ?_
      refine lv_aload_n (pc := 29) hx hb dX12_fixed_29 rfl (lv_at hl 0 rfl) ?_
      refine sx_getR (pc := 30) (j := 24) B hH hk_th coX12 rfl w_1328 rfl dX12_fixed_30 ?_
      refine W.eq (g2 := F0 m 33 ls [va_rf (gR S th 24), .int r_7, .ref th]) rfl ?_
      obtain ⟨a_8, ha_8, hp⟩ := hp
      refine sx_nonnull (x := a_8) ha_8 ?_
      refine sx_V (pc := 33) (As := [.int r_7, .ref a_8]) (rest := []) B hH hl.1 (C_X12_laysRow G l th r_7 a_8 _ _ hp) mi_X12_laysRow coX12 hk_th w_1657 w_76 w_1655 rfl rfl ⟨Nat.le_of_ble_eq_true rfl, Nat.le_of_ble_eq_true rfl⟩ (Nat.le_of_ble_eq_true rfl) ⟨Nat.le_of_ble_eq_true rfl, Nat.le_of_ble_eq_true rfl⟩ dX12_fixed_33 (fun v S1 H locs hq hH => ?_)
      obtain ⟨F_9, rfl, e9, hp⟩ := hq
      rw [e9] at hH
      have hH : Hp G (FA S s.heap.size) s.heap (wI S F_9) H locs := hH
      refine W.eq (g2 := F0 m 36 ls []) rfl ?_
      refine lv_iconst (pc := 36) (v := 0) hx hb dX12_fixed_36 (by decide) ?_
      refine lv_istore_n (pc := 37) (lv' := [(3, .int 0), (0, .ref th), (1, .int p0), (2, .int p1)]) hx hb dX12_fixed_37 rfl hl (by decide) rfl (fun ls hl => ?_)
      refine lv_iconst (pc := 38) (v := 0) hx hb dX12_fixed_38 (by decide) ?_
      refine lv_istore (pc := 39) (lv' := [(4, .int 0), (3, .int 0), (0, .ref th), (1, .int p0), (2, .int p1)]) hx hb dX12_fixed_39 hl (by decide) rfl (fun ls hl => ?_)
      obtain ⟨I_10, ⟨k0_10, h0_10⟩, hst_10⟩ := hp
      have kl_10 : ∀ (n_10 : Nat) (x3_11 : Int32) (x4_12 : Int32) (H : Heap) (locs : List Loc) (ls : Array Slot), I_10 n_10 x3_11 x4_12 → Hp G (FA S s.heap.size) s.heap (wI S F_9) H locs → lv_has ls 5 [(0, .ref th), (3, .int x3_11), (4, .int x4_12)] → Wm G p l e { frames := 3, cells := 0, slots := 0, locals := 75 } s m args below meth c S QQ 0 0 H locs 0 0 (F0 m 41 ls []) := by
        intro n_10
        induction n_10 using Nat.strongRecOn with
        | ind n_10 ih_10 =>
          intro x3_11 x4_12 H locs ls hq9 hH hl
          have hp := hst_10 n_10 x3_11 x4_12 hq9
          refine lv_iload (pc := 41) hx hb dX12_fixed_41 (lv_at hl 2 rfl) ?_
          refine lv_aload_n (pc := 43) hx hb dX12_fixed_43 rfl (lv_at hl 0 rfl) ?_
          refine sx_getR (pc := 44) (j := 0) B hH hk_th coX12 rfl w_1304 rfl dX12_fixed_44 ?_
          refine W.eq (g2 := F0 m 47 ls [va_rf (gR S th 0), .int x4_12]) rfl ?_
          obtain ⟨a_13, ha_13, hp⟩ := hp
          refine sx_nonnull (x := a_13) ha_13 ?_
          refine lv_iconst (pc := 47) (v := 0) hx hb dX12_fixed_47 (by decide) ?_
          obtain ⟨hk_14, hp⟩ := hp
          obtain ⟨hn_15, hp⟩ := hp
          refine sx_iald (pc := 48) B hH hk_14 hn_15 dX12_fixed_48 ?_
          refine W.eq (g2 := F0 m 49 ls [.int (F_9 a_13 0), .int x4_12]) rfl ?_
          refine lv_icmp_ge (pc := 49) (tgt := 81) hx hb dX12_fixed_49 (by decide) (fun cc_16 => ?_) (fun cc_16 => ?_)
          · have hp := hp.1 cc_16
            refine lv_aload_n (pc := 81) hx hb dX12_fixed_81 rfl (lv_at hl 0 rfl) ?_
            refine lv_iload_n (pc := 82) hx hb dX12_fixed_82 rfl (lv_at hl 1 rfl) ?_
            refine sx_V (pc := 83) (As := [.int x3_11]) (rest := []) B hH hl.1 (C_X12_gives G l th x3_11 _ _ hp) mi_X12_gives coX12 hk_th w_1617 w_69 w_1615 rfl rfl ⟨Nat.le_of_ble_eq_true rfl, Nat.le_of_ble_eq_true rfl⟩ (Nat.le_of_ble_eq_true rfl) ⟨Nat.le_of_ble_eq_true rfl, Nat.le_of_ble_eq_true rfl⟩ dX12_fixed_83 (fun v S1 H locs hq hH => ?_)
            obtain ⟨r_17, F_17, rfl, e9, hp⟩ := hq
            rw [e9] at hH
            have hH : Hp G (FA S s.heap.size) s.heap (wI S F_17) H locs := hH
            refine W.eq (g2 := F0 m 86 ls [.int r_17]) rfl ?_
            exact sx_iret (pc := 86) B hH hr hlk (by rw [← hQQ]; exact ⟨_, F_17, rfl, rfl, hp⟩) (Nat.le_of_ble_eq_true rfl) (Nat.le_of_ble_eq_true rfl) dX12_fixed_86
          · have hp := hp.2 cc_16
            refine lv_iload_n (pc := 52) hx hb dX12_fixed_52 rfl (lv_at hl 1 rfl) ?_
            refine lv_aload_n (pc := 53) hx hb dX12_fixed_53 rfl (lv_at hl 0 rfl) ?_
            refine sx_getR (pc := 54) (j := 24) B hH hk_th coX12 rfl w_1328 rfl dX12_fixed_54 ?_
            refine W.eq (g2 := F0 m 57 ls [va_rf (gR S th 24), .int x3_11]) rfl ?_
            refine sx_nonnull (x := a_8) ha_8 ?_
            refine lv_iload (pc := 57) hx hb dX12_fixed_57 (lv_at hl 2 rfl) ?_
            obtain ⟨hk_18, hp⟩ := hp
            obtain ⟨hn_19, hp⟩ := hp
            refine sx_iald (pc := 59) B hH hk_18 hn_19 dX12_fixed_59 ?_
            refine W.eq (g2 := F0 m 60 ls [.int (F_9 a_8 x4_12.toNatClampNeg), .int x3_11]) rfl ?_
            refine lv_iload (pc := 60) hx hb dX12_fixed_60 (lv_at hl 2 rfl) ?_
            refine lv_icmp_ne (pc := 62) (tgt := 72) hx hb dX12_fixed_62 (by decide) (fun cc_20 => ?_) (fun cc_20 => ?_)
            · have hp := hp.1 cc_20
              refine lv_iconst (pc := 72) (v := 0) hx hb dX12_fixed_72 (by decide) ?_
              refine lv_ior (pc := 73) hx hb dX12_fixed_73 ?_
              refine lv_topi (fun v_21 ev_21 => ?_)
              have hp := hp v_21 ev_21
              refine lv_istore_n (pc := 74) (lv' := [(3, .int v_21), (0, .ref th), (4, .int x4_12)]) hx hb dX12_fixed_74 rfl hl (by decide) rfl (fun ls hl => ?_)
              obtain ⟨v_22, ev_22⟩ : ∃ y : Int32, y = x4_12 + 1 := ⟨_, rfl⟩
              have hp := hp v_22 ev_22
              refine lv_iinc (pc := 75) (v := v_22) (lv' := [(4, .int v_22), (3, .int v_21), (0, .ref th)]) hx hb dX12_fixed_75 hl (k := 2) rfl (by rw [ev_22]; rfl) (by decide) rfl (fun ls hl => ?_)
              refine lv_goto (pc := 78) (tgt := 41) hx hb dX12_fixed_78 (by decide) ?_
              obtain ⟨k9, hlt9, hp⟩ := hp
              exact ih_10 k9 hlt9 _ _ _ _ _ hp hH (lv_sub hl [2, 1, 0] rfl)
            · have hp := hp.2 cc_20
              refine lv_iconst (pc := 65) (v := 1) hx hb dX12_fixed_65 (by decide) ?_
              refine lv_iload (pc := 66) hx hb dX12_fixed_66 (lv_at hl 2 rfl) ?_
              refine lv_ishl (pc := 68) hx hb dX12_fixed_68 ?_
              refine W.eq (g2 := F0 m 69 ls [.int (shl 1 x4_12), .int x3_11]) rfl ?_
              refine lv_goto (pc := 69) (tgt := 73) hx hb dX12_fixed_69 (by decide) ?_
              refine lv_ior (pc := 73) hx hb dX12_fixed_73 ?_
              refine lv_topi (fun v_23 ev_23 => ?_)
              have hp := hp v_23 ev_23
              refine lv_istore_n (pc := 74) (lv' := [(3, .int v_23), (0, .ref th), (4, .int x4_12)]) hx hb dX12_fixed_74 rfl hl (by decide) rfl (fun ls hl => ?_)
              obtain ⟨v_24, ev_24⟩ : ∃ y : Int32, y = x4_12 + 1 := ⟨_, rfl⟩
              have hp := hp v_24 ev_24
              refine lv_iinc (pc := 75) (v := v_24) (lv' := [(4, .int v_24), (3, .int v_23), (0, .ref th)]) hx hb dX12_fixed_75 hl (k := 2) rfl (by rw [ev_24]; rfl) (by decide) rfl (fun ls hl => ?_)
              refine lv_goto (pc := 78) (tgt := 41) hx hb dX12_fixed_78 (by decide) ?_
              obtain ⟨k9, hlt9, hp⟩ := hp
              exact ih_10 k9 hlt9 _ _ _ _ _ hp hH (lv_sub hl [2, 1, 0] rfl)
      exact kl_10 k0_10 _ _ _ _ _ h0_10 hH (lv_sub hl [2, 1, 0] rfl)
    · have hp := hp.2 cc_6
      exact kj_3  _ _ _ hp hH (lv_sub hl [0] rfl)
theorem dX12_symmetric_0 : decode cX12_symmetric 0 = .ok (.aload_n 0, 1) := by decide +kernel
theorem dX12_symmetric_1 : decode cX12_symmetric 1 = .ok (.iload_n 1, 1) := by decide +kernel
theorem dX12_symmetric_2 : decode cX12_symmetric 2 = .ok (.invokevirtual 317, 3) := by decide +kernel
theorem dX12_symmetric_5 : decode cX12_symmetric 5 = .ok (.ifCond .ne 9, 3) := by decide +kernel
theorem dX12_symmetric_8 : decode cX12_symmetric 8 = .ok (.aload_n 0, 1) := by decide +kernel
theorem dX12_symmetric_9 : decode cX12_symmetric 9 = .ok (.iconst 1, 1) := by decide +kernel
theorem dX12_symmetric_10 : decode cX12_symmetric 10 = .ok (.invokevirtual 105, 3) := by decide +kernel
theorem dX12_symmetric_13 : decode cX12_symmetric 13 = .ok (.ireturn, 1) := by decide +kernel
theorem dX12_symmetric_14 : decode cX12_symmetric 14 = .ok (.aload_n 0, 1) := by decide +kernel
theorem dX12_symmetric_15 : decode cX12_symmetric 15 = .ok (.iload_n 1, 1) := by decide +kernel
theorem dX12_symmetric_16 : decode cX12_symmetric 16 = .ok (.invokevirtual 314, 3) := by decide +kernel
theorem dX12_symmetric_19 : decode cX12_symmetric 19 = .ok (.iconst 1, 1) := by decide +kernel
theorem dX12_symmetric_20 : decode cX12_symmetric 20 = .ok (.isub, 1) := by decide +kernel
theorem dX12_symmetric_21 : decode cX12_symmetric 21 = .ok (.istore_n 2, 1) := by decide +kernel
theorem dX12_symmetric_22 : decode cX12_symmetric 22 = .ok (.iconst 1, 1) := by decide +kernel
theorem dX12_symmetric_23 : decode cX12_symmetric 23 = .ok (.istore_n 3, 1) := by decide +kernel
theorem dX12_symmetric_24 : decode cX12_symmetric 24 = .ok (.iconst 0, 1) := by decide +kernel
theorem dX12_symmetric_25 : decode cX12_symmetric 25 = .ok (.istore 4, 2) := by decide +kernel
theorem dX12_symmetric_27 : decode cX12_symmetric 27 = .ok (.iload 4, 2) := by decide +kernel
theorem dX12_symmetric_29 : decode cX12_symmetric 29 = .ok (.iload_n 2, 1) := by decide +kernel
theorem dX12_symmetric_30 : decode cX12_symmetric 30 = .ok (.if_icmp .ge 42, 3) := by decide +kernel
theorem dX12_symmetric_33 : decode cX12_symmetric 33 = .ok (.iload_n 3, 1) := by decide +kernel
theorem dX12_symmetric_34 : decode cX12_symmetric 34 = .ok (.ifCond .eq 30, 3) := by decide +kernel
theorem dX12_symmetric_37 : decode cX12_symmetric 37 = .ok (.aload_n 0, 1) := by decide +kernel
theorem dX12_symmetric_38 : decode cX12_symmetric 38 = .ok (.iload_n 1, 1) := by decide +kernel
theorem dX12_symmetric_39 : decode cX12_symmetric 39 = .ok (.iconst 0, 1) := by decide +kernel
theorem dX12_symmetric_40 : decode cX12_symmetric 40 = .ok (.iload 4, 2) := by decide +kernel
theorem dX12_symmetric_42 : decode cX12_symmetric 42 = .ok (.invokevirtual 323, 3) := by decide +kernel
theorem dX12_symmetric_45 : decode cX12_symmetric 45 = .ok (.aload_n 0, 1) := by decide +kernel
theorem dX12_symmetric_46 : decode cX12_symmetric 46 = .ok (.iload_n 1, 1) := by decide +kernel
theorem dX12_symmetric_47 : decode cX12_symmetric 47 = .ok (.iconst 0, 1) := by decide +kernel
theorem dX12_symmetric_48 : decode cX12_symmetric 48 = .ok (.iload_n 2, 1) := by decide +kernel
theorem dX12_symmetric_49 : decode cX12_symmetric 49 = .ok (.iconst 1, 1) := by decide +kernel
theorem dX12_symmetric_50 : decode cX12_symmetric 50 = .ok (.isub, 1) := by decide +kernel
theorem dX12_symmetric_51 : decode cX12_symmetric 51 = .ok (.iload 4, 2) := by decide +kernel
theorem dX12_symmetric_53 : decode cX12_symmetric 53 = .ok (.isub, 1) := by decide +kernel
theorem dX12_symmetric_54 : decode cX12_symmetric 54 = .ok (.invokevirtual 323, 3) := by decide +kernel
theorem dX12_symmetric_57 : decode cX12_symmetric 57 = .ok (.if_icmp .ne 7, 3) := by decide +kernel
theorem dX12_symmetric_60 : decode cX12_symmetric 60 = .ok (.iconst 1, 1) := by decide +kernel
theorem dX12_symmetric_61 : decode cX12_symmetric 61 = .ok (.goto 4, 3) := by decide +kernel
theorem dX12_symmetric_64 : decode cX12_symmetric 64 = .ok (.iconst 0, 1) := by decide +kernel
theorem dX12_symmetric_65 : decode cX12_symmetric 65 = .ok (.istore_n 3, 1) := by decide +kernel
theorem dX12_symmetric_66 : decode cX12_symmetric 66 = .ok (.iinc 4 1, 3) := by decide +kernel
theorem dX12_symmetric_69 : decode cX12_symmetric 69 = .ok (.goto (-42), 3) := by decide +kernel
theorem dX12_symmetric_72 : decode cX12_symmetric 72 = .ok (.aload_n 0, 1) := by decide +kernel
theorem dX12_symmetric_73 : decode cX12_symmetric 73 = .ok (.iload_n 3, 1) := by decide +kernel
theorem dX12_symmetric_74 : decode cX12_symmetric 74 = .ok (.ifCond .eq 7, 3) := by decide +kernel
theorem dX12_symmetric_77 : decode cX12_symmetric 77 = .ok (.iconst 1, 1) := by decide +kernel
theorem dX12_symmetric_78 : decode cX12_symmetric 78 = .ok (.goto 4, 3) := by decide +kernel
theorem dX12_symmetric_81 : decode cX12_symmetric 81 = .ok (.iconst 0, 1) := by decide +kernel
theorem dX12_symmetric_82 : decode cX12_symmetric 82 = .ok (.invokevirtual 109, 3) := by decide +kernel
theorem dX12_symmetric_85 : decode cX12_symmetric 85 = .ok (.ireturn, 1) := by decide +kernel
theorem mi_X12_symmetric : MI yX12_symmetric cX12_symmetric 5 (some FieldType.int) 1 := ⟨w_1781, w_118, by decide +kernel, by decide +kernel, by decide +kernel⟩
set_option maxRecDepth 100000 in
set_option maxHeartbeats 4000000 in
theorem C_X12_symmetric (G : GG) (l : Launch) (th : Nat) (p0 : Int32) (S : St) (Q : Int32 → (Nat → Nat → Int32) → Prop) (hp : P_X12_symmetric th p0 S Q) : Ctr G l yX12_symmetric cX12_symmetric 5 (some FieldType.int) 2 44 0 0 [.ref th, .int p0] S (fun (v : Option Value) (S9 : St) => ∃ (r : Int32) (I9 : Nat → Nat → Int32), v = some (.int r) ∧ S9 = wI S I9 ∧ Q r I9) := by
  generalize hQQ : (fun (v : Option Value) (S9 : St) => ∃ (r : Int32) (I9 : Nat → Nat → Int32), v = some (.int r) ∧ S9 = wI S I9 ∧ Q r I9) = QQ
  unfold P_X12_symmetric at hp
  refine Ctr.of (by decide) (Nat.le_of_ble_eq_true rfl) ?_
  intro p e s m args below meth c ls B hr hlk hin hl hH
  generalize hlocs0 : ([] : List Loc) = locs at hH ⊢
  have hx := B.1
  have hb := B.2.1
  have hl : lv_has ls 5 [(0, .ref th), (1, .int p0)] := hl
  obtain ⟨hk_th, hp⟩ := hp
  refine lv_aload_n (pc := 0) hx hb dX12_symmetric_0 rfl (lv_at hl 0 rfl) ?_
  refine lv_iload_n (pc := 1) hx hb dX12_symmetric_1 rfl (lv_at hl 1 rfl) ?_
  refine sx_V (pc := 2) (As := [.int p0]) (rest := []) B hH hl.1 (C_X12_isMethod G l th p0 _ _ hp) mi_X12_isMethod coX12 hk_th w_1745 w_86 w_1743 rfl rfl ⟨Nat.le_of_ble_eq_true rfl, Nat.le_of_ble_eq_true rfl⟩ (Nat.le_of_ble_eq_true rfl) ⟨Nat.le_of_ble_eq_true rfl, Nat.le_of_ble_eq_true rfl⟩ dX12_symmetric_2 (fun v S1 H locs hq hH => ?_)
  obtain ⟨r_1, rfl, e9, hp⟩ := hq
  rw [e9] at hH
  refine W.eq (g2 := F0 m 5 ls [.int r_1]) rfl ?_
  refine lv_if_ne (pc := 5) (tgt := 14) hx hb dX12_symmetric_5 (by decide) (fun cc_2 => ?_) (fun cc_2 => ?_)
  · have hp := hp.1 cc_2
    refine lv_aload_n (pc := 14) hx hb dX12_symmetric_14 rfl (lv_at hl 0 rfl) ?_
    refine lv_iload_n (pc := 15) hx hb dX12_symmetric_15 rfl (lv_at hl 1 rfl) ?_
    refine sx_V (pc := 16) (As := [.int p0]) (rest := []) B hH hl.1 (C_X12_changesOf G l th p0 _ _ hp) mi_X12_changesOf coX12 hk_th w_1749 w_87 w_1747 rfl rfl ⟨Nat.le_of_ble_eq_true rfl, Nat.le_of_ble_eq_true rfl⟩ (Nat.le_of_ble_eq_true rfl) ⟨Nat.le_of_ble_eq_true rfl, Nat.le_of_ble_eq_true rfl⟩ dX12_symmetric_16 (fun v S1 H locs hq hH => ?_)
    obtain ⟨r_3, rfl, e9, hp⟩ := hq
    rw [e9] at hH
    refine W.eq (g2 := F0 m 19 ls [.int r_3]) rfl ?_
    refine lv_iconst (pc := 19) (v := 1) hx hb dX12_symmetric_19 (by decide) ?_
    refine lv_isub (pc := 20) hx hb dX12_symmetric_20 ?_
    refine lv_topi (fun v_4 ev_4 => ?_)
    have hp := hp v_4 ev_4
    refine lv_istore_n (pc := 21) (lv' := [(2, .int v_4), (0, .ref th), (1, .int p0)]) hx hb dX12_symmetric_21 rfl hl (by decide) rfl (fun ls hl => ?_)
    refine lv_iconst (pc := 22) (v := 1) hx hb dX12_symmetric_22 (by decide) ?_
    refine lv_istore_n (pc := 23) (lv' := [(3, .int 1), (2, .int v_4), (0, .ref th), (1, .int p0)]) hx hb dX12_symmetric_23 rfl hl (by decide) rfl (fun ls hl => ?_)
    refine lv_iconst (pc := 24) (v := 0) hx hb dX12_symmetric_24 (by decide) ?_
    refine lv_istore (pc := 25) (lv' := [(4, .int 0), (3, .int 1), (2, .int v_4), (0, .ref th), (1, .int p0)]) hx hb dX12_symmetric_25 hl (by decide) rfl (fun ls hl => ?_)
    obtain ⟨I_5, ⟨k0_5, h0_5⟩, hst_5⟩ := hp
    have kl_5 : ∀ (n_5 : Nat) (x3_6 : Int32) (x4_7 : Int32) (H : Heap) (locs : List Loc) (ls : Array Slot), I_5 n_5 x3_6 x4_7 → Hp G (FA S s.heap.size) s.heap S H locs → lv_has ls 5 [(0, .ref th), (1, .int p0), (2, .int v_4), (3, .int x3_6), (4, .int x4_7)] → Wm G p l e { frames := 2, cells := 0, slots := 0, locals := 44 } s m args below meth c S QQ 0 0 H locs 0 0 (F0 m 27 ls []) := by
      intro n_5
      induction n_5 using Nat.strongRecOn with
      | ind n_5 ih_5 =>
        intro x3_6 x4_7 H locs ls hq9 hH hl
        have hp := hst_5 n_5 x3_6 x4_7 hq9
        refine lv_iload (pc := 27) hx hb dX12_symmetric_27 (lv_at hl 4 rfl) ?_
        refine lv_iload_n (pc := 29) hx hb dX12_symmetric_29 rfl (lv_at hl 2 rfl) ?_
        refine lv_icmp_ge (pc := 30) (tgt := 72) hx hb dX12_symmetric_30 (by decide) (fun cc_8 => ?_) (fun cc_8 => ?_)
        · have hp := hp.1 cc_8
          refine lv_aload_n (pc := 72) hx hb dX12_symmetric_72 rfl (lv_at hl 0 rfl) ?_
          refine lv_iload_n (pc := 73) hx hb dX12_symmetric_73 rfl (lv_at hl 3 rfl) ?_
          obtain ⟨J_10, hj_10, hp⟩ := hp
          have kj_10 : ∀ (t_11 : Int32) (H : Heap) (locs : List Loc) (ls : Array Slot), J_10 t_11 → Hp G (FA S s.heap.size) s.heap S H locs → lv_has ls 5 [] → Wm G p l e { frames := 2, cells := 0, slots := 0, locals := 44 } s m args below meth c S QQ 0 0 H locs 0 0 (F0 m 82 ls [.int t_11, .ref th]) := by
            intro t_11 H locs ls hq9 hH hl
            have hp := hj_10 t_11 hq9
            refine sx_V (pc := 82) (As := [.int t_11]) (rest := []) B hH hl.1 (C_X12_gives G l th t_11 _ _ hp) mi_X12_gives coX12 hk_th w_1617 w_69 w_1615 rfl rfl ⟨Nat.le_of_ble_eq_true rfl, Nat.le_of_ble_eq_true rfl⟩ (Nat.le_of_ble_eq_true rfl) ⟨Nat.le_of_ble_eq_true rfl, Nat.le_of_ble_eq_true rfl⟩ dX12_symmetric_82 (fun v S1 H locs hq hH => ?_)
            obtain ⟨r_12, F_12, rfl, e9, hp⟩ := hq
            rw [e9] at hH
            have hH : Hp G (FA S s.heap.size) s.heap (wI S F_12) H locs := hH
            refine W.eq (g2 := F0 m 85 ls [.int r_12]) rfl ?_
            exact sx_iret (pc := 85) B hH hr hlk (by rw [← hQQ]; exact ⟨_, F_12, rfl, rfl, hp⟩) (Nat.le_of_ble_eq_true rfl) (Nat.le_of_ble_eq_true rfl) dX12_symmetric_85
          refine lv_if_eq (pc := 74) (tgt := 81) hx hb dX12_symmetric_74 (by decide) (fun cc_9 => ?_) (fun cc_9 => ?_)
          · have hp := hp.1 cc_9
            refine lv_iconst (pc := 81) (v := 0) hx hb dX12_symmetric_81 (by decide) ?_
            exact kj_10 _ _ _ _ hp hH (lv_sub hl [] rfl)
          · have hp := hp.2 cc_9
            refine lv_iconst (pc := 77) (v := 1) hx hb dX12_symmetric_77 (by decide) ?_
            refine lv_goto (pc := 78) (tgt := 82) hx hb dX12_symmetric_78 (by decide) ?_
            exact kj_10 _ _ _ _ hp hH (lv_sub hl [] rfl)
        · have hp := hp.2 cc_8
          refine lv_iload_n (pc := 33) hx hb dX12_symmetric_33 rfl (lv_at hl 3 rfl) ?_
          refine lv_if_eq (pc := 34) (tgt := 64) hx hb dX12_symmetric_34 (by decide) (fun cc_13 => ?_) (fun cc_13 => ?_)
          · have hp := hp.1 cc_13
            refine lv_iconst (pc := 64) (v := 0) hx hb dX12_symmetric_64 (by decide) ?_
            refine lv_istore_n (pc := 65) (lv' := [(3, .int 0), (0, .ref th), (1, .int p0), (2, .int v_4), (4, .int x4_7)]) hx hb dX12_symmetric_65 rfl hl (by decide) rfl (fun ls hl => ?_)
            obtain ⟨v_14, ev_14⟩ : ∃ y : Int32, y = x4_7 + 1 := ⟨_, rfl⟩
            have hp := hp v_14 ev_14
            refine lv_iinc (pc := 66) (v := v_14) (lv' := [(4, .int v_14), (3, .int 0), (0, .ref th), (1, .int p0), (2, .int v_4)]) hx hb dX12_symmetric_66 hl (k := 4) rfl (by rw [ev_14]; rfl) (by decide) rfl (fun ls hl => ?_)
            refine lv_goto (pc := 69) (tgt := 27) hx hb dX12_symmetric_69 (by decide) ?_
            obtain ⟨k9, hlt9, hp⟩ := hp
            exact ih_5 k9 hlt9 _ _ _ _ _ hp hH (lv_sub hl [2, 3, 4, 1, 0] rfl)
          · have hp := hp.2 cc_13
            refine lv_aload_n (pc := 37) hx hb dX12_symmetric_37 rfl (lv_at hl 0 rfl) ?_
            refine lv_iload_n (pc := 38) hx hb dX12_symmetric_38 rfl (lv_at hl 1 rfl) ?_
            refine lv_iconst (pc := 39) (v := 0) hx hb dX12_symmetric_39 (by decide) ?_
            refine lv_iload (pc := 40) hx hb dX12_symmetric_40 (lv_at hl 4 rfl) ?_
            refine sx_V (pc := 42) (As := [.int p0, .int 0, .int x4_7]) (rest := []) B hH hl.1 (C_X12_changeOf G l th p0 0 x4_7 _ _ hp) mi_X12_changeOf coX12 hk_th w_1760 w_88 w_1758 rfl rfl ⟨Nat.le_of_ble_eq_true rfl, Nat.le_of_ble_eq_true rfl⟩ (Nat.le_of_ble_eq_true rfl) ⟨Nat.le_of_ble_eq_true rfl, Nat.le_of_ble_eq_true rfl⟩ dX12_symmetric_42 (fun v S1 H locs hq hH => ?_)
            obtain ⟨r_15, rfl, e9, hp⟩ := hq
            rw [e9] at hH
            refine W.eq (g2 := F0 m 45 ls [.int r_15]) rfl ?_
            refine lv_aload_n (pc := 45) hx hb dX12_symmetric_45 rfl (lv_at hl 0 rfl) ?_
            refine lv_iload_n (pc := 46) hx hb dX12_symmetric_46 rfl (lv_at hl 1 rfl) ?_
            refine lv_iconst (pc := 47) (v := 0) hx hb dX12_symmetric_47 (by decide) ?_
            refine lv_iload_n (pc := 48) hx hb dX12_symmetric_48 rfl (lv_at hl 2 rfl) ?_
            refine lv_iconst (pc := 49) (v := 1) hx hb dX12_symmetric_49 (by decide) ?_
            refine lv_isub (pc := 50) hx hb dX12_symmetric_50 ?_
            refine lv_iload (pc := 51) hx hb dX12_symmetric_51 (lv_at hl 4 rfl) ?_
            refine lv_isub (pc := 53) hx hb dX12_symmetric_53 ?_
            refine sx_V (pc := 54) (As := [.int p0, .int 0, .int ((v_4 - 1) - x4_7)]) (rest := [.int r_15]) B hH hl.1 (C_X12_changeOf G l th p0 0 ((v_4 - 1) - x4_7) _ _ hp) mi_X12_changeOf coX12 hk_th w_1760 w_88 w_1758 rfl rfl ⟨Nat.le_of_ble_eq_true rfl, Nat.le_of_ble_eq_true rfl⟩ (Nat.le_of_ble_eq_true rfl) ⟨Nat.le_of_ble_eq_true rfl, Nat.le_of_ble_eq_true rfl⟩ dX12_symmetric_54 (fun v S1 H locs hq hH => ?_)
            obtain ⟨r_16, rfl, e9, hp⟩ := hq
            rw [e9] at hH
            refine W.eq (g2 := F0 m 57 ls [.int r_16, .int r_15]) rfl ?_
            refine lv_icmp_ne (pc := 57) (tgt := 64) hx hb dX12_symmetric_57 (by decide) (fun cc_17 => ?_) (fun cc_17 => ?_)
            · have hp := hp.1 cc_17
              refine lv_iconst (pc := 64) (v := 0) hx hb dX12_symmetric_64 (by decide) ?_
              refine lv_istore_n (pc := 65) (lv' := [(3, .int 0), (0, .ref th), (1, .int p0), (2, .int v_4), (4, .int x4_7)]) hx hb dX12_symmetric_65 rfl hl (by decide) rfl (fun ls hl => ?_)
              obtain ⟨v_18, ev_18⟩ : ∃ y : Int32, y = x4_7 + 1 := ⟨_, rfl⟩
              have hp := hp v_18 ev_18
              refine lv_iinc (pc := 66) (v := v_18) (lv' := [(4, .int v_18), (3, .int 0), (0, .ref th), (1, .int p0), (2, .int v_4)]) hx hb dX12_symmetric_66 hl (k := 4) rfl (by rw [ev_18]; rfl) (by decide) rfl (fun ls hl => ?_)
              refine lv_goto (pc := 69) (tgt := 27) hx hb dX12_symmetric_69 (by decide) ?_
              obtain ⟨k9, hlt9, hp⟩ := hp
              exact ih_5 k9 hlt9 _ _ _ _ _ hp hH (lv_sub hl [2, 3, 4, 1, 0] rfl)
            · have hp := hp.2 cc_17
              refine lv_iconst (pc := 60) (v := 1) hx hb dX12_symmetric_60 (by decide) ?_
              refine lv_goto (pc := 61) (tgt := 65) hx hb dX12_symmetric_61 (by decide) ?_
              refine lv_istore_n (pc := 65) (lv' := [(3, .int 1), (0, .ref th), (1, .int p0), (2, .int v_4), (4, .int x4_7)]) hx hb dX12_symmetric_65 rfl hl (by decide) rfl (fun ls hl => ?_)
              obtain ⟨v_19, ev_19⟩ : ∃ y : Int32, y = x4_7 + 1 := ⟨_, rfl⟩
              have hp := hp v_19 ev_19
              refine lv_iinc (pc := 66) (v := v_19) (lv' := [(4, .int v_19), (3, .int 1), (0, .ref th), (1, .int p0), (2, .int v_4)]) hx hb dX12_symmetric_66 hl (k := 4) rfl (by rw [ev_19]; rfl) (by decide) rfl (fun ls hl => ?_)
              refine lv_goto (pc := 69) (tgt := 27) hx hb dX12_symmetric_69 (by decide) ?_
              obtain ⟨k9, hlt9, hp⟩ := hp
              exact ih_5 k9 hlt9 _ _ _ _ _ hp hH (lv_sub hl [2, 3, 4, 1, 0] rfl)
    exact kl_5 k0_5 _ _ _ _ _ h0_5 hH (lv_sub hl [3, 4, 2, 1, 0] rfl)
  · have hp := hp.2 cc_2
    refine lv_aload_n (pc := 8) hx hb dX12_symmetric_8 rfl (lv_at hl 0 rfl) ?_
    refine lv_iconst (pc := 9) (v := 1) hx hb dX12_symmetric_9 (by decide) ?_
    refine sx_V (pc := 10) (As := [.int 1]) (rest := []) B hH hl.1 (C_X12_refuse G l th 1 _ _ hp) mi_X12_refuse coX12 hk_th w_1539 w_51 w_1537 rfl rfl ⟨Nat.le_of_ble_eq_true rfl, Nat.le_of_ble_eq_true rfl⟩ (Nat.le_of_ble_eq_true rfl) ⟨Nat.le_of_ble_eq_true rfl, Nat.le_of_ble_eq_true rfl⟩ dX12_symmetric_10 (fun v S1 H locs hq hH => ?_)
    obtain ⟨r_20, F_20, rfl, e9, hp⟩ := hq
    rw [e9] at hH
    have hH : Hp G (FA S s.heap.size) s.heap (wI S F_20) H locs := hH
    refine W.eq (g2 := F0 m 13 ls [.int r_20]) rfl ?_
    exact sx_iret (pc := 13) B hH hr hlk (by rw [← hQQ]; exact ⟨_, F_20, rfl, rfl, hp⟩) (Nat.le_of_ble_eq_true rfl) (Nat.le_of_ble_eq_true rfl) dX12_symmetric_13
theorem dX12_laysLead_0 : decode cX12_laysLead 0 = .ok (.iconst 0, 1) := by decide +kernel
theorem dX12_laysLead_1 : decode cX12_laysLead 1 = .ok (.istore_n 2, 1) := by decide +kernel
theorem dX12_laysLead_2 : decode cX12_laysLead 2 = .ok (.iload_n 2, 1) := by decide +kernel
theorem dX12_laysLead_3 : decode cX12_laysLead 3 = .ok (.aload_n 0, 1) := by decide +kernel
theorem dX12_laysLead_4 : decode cX12_laysLead 4 = .ok (.getfield 7, 3) := by decide +kernel
theorem dX12_laysLead_7 : decode cX12_laysLead 7 = .ok (.iconst 0, 1) := by decide +kernel
theorem dX12_laysLead_8 : decode cX12_laysLead 8 = .ok (.iaload, 1) := by decide +kernel
theorem dX12_laysLead_9 : decode cX12_laysLead 9 = .ok (.if_icmp .ge 16, 3) := by decide +kernel
theorem dX12_laysLead_12 : decode cX12_laysLead 12 = .ok (.aload_n 0, 1) := by decide +kernel
theorem dX12_laysLead_13 : decode cX12_laysLead 13 = .ok (.getfield 47, 3) := by decide +kernel
theorem dX12_laysLead_16 : decode cX12_laysLead 16 = .ok (.iload_n 2, 1) := by decide +kernel
theorem dX12_laysLead_17 : decode cX12_laysLead 17 = .ok (.iload_n 2, 1) := by decide +kernel
theorem dX12_laysLead_18 : decode cX12_laysLead 18 = .ok (.iastore, 1) := by decide +kernel
theorem dX12_laysLead_19 : decode cX12_laysLead 19 = .ok (.iinc 2 1, 3) := by decide +kernel
theorem dX12_laysLead_22 : decode cX12_laysLead 22 = .ok (.goto (-20), 3) := by decide +kernel
theorem dX12_laysLead_25 : decode cX12_laysLead 25 = .ok (.iconst 0, 1) := by decide +kernel
theorem dX12_laysLead_26 : decode cX12_laysLead 26 = .ok (.istore_n 2, 1) := by decide +kernel
theorem dX12_laysLead_27 : decode cX12_laysLead 27 = .ok (.iload_n 2, 1) := by decide +kernel
theorem dX12_laysLead_28 : decode cX12_laysLead 28 = .ok (.aload_n 0, 1) := by decide +kernel
theorem dX12_laysLead_29 : decode cX12_laysLead 29 = .ok (.iload_n 1, 1) := by decide +kernel
theorem dX12_laysLead_30 : decode cX12_laysLead 30 = .ok (.invokevirtual 314, 3) := by decide +kernel
theorem dX12_laysLead_33 : decode cX12_laysLead 33 = .ok (.if_icmp .ge 35, 3) := by decide +kernel
theorem dX12_laysLead_36 : decode cX12_laysLead 36 = .ok (.aload_n 0, 1) := by decide +kernel
theorem dX12_laysLead_37 : decode cX12_laysLead 37 = .ok (.aload_n 0, 1) := by decide +kernel
theorem dX12_laysLead_38 : decode cX12_laysLead 38 = .ok (.iload_n 1, 1) := by decide +kernel
theorem dX12_laysLead_39 : decode cX12_laysLead 39 = .ok (.iconst 0, 1) := by decide +kernel
theorem dX12_laysLead_40 : decode cX12_laysLead 40 = .ok (.iload_n 2, 1) := by decide +kernel
theorem dX12_laysLead_41 : decode cX12_laysLead 41 = .ok (.invokevirtual 323, 3) := by decide +kernel
theorem dX12_laysLead_44 : decode cX12_laysLead 44 = .ok (.iconst 0, 1) := by decide +kernel
theorem dX12_laysLead_45 : decode cX12_laysLead 45 = .ok (.invokevirtual 302, 3) := by decide +kernel
theorem dX12_laysLead_48 : decode cX12_laysLead 48 = .ok (.aload_n 0, 1) := by decide +kernel
theorem dX12_laysLead_49 : decode cX12_laysLead 49 = .ok (.getfield 56, 3) := by decide +kernel
theorem dX12_laysLead_52 : decode cX12_laysLead 52 = .ok (.iload_n 2, 1) := by decide +kernel
theorem dX12_laysLead_53 : decode cX12_laysLead 53 = .ok (.aload_n 0, 1) := by decide +kernel
theorem dX12_laysLead_54 : decode cX12_laysLead 54 = .ok (.aload_n 0, 1) := by decide +kernel
theorem dX12_laysLead_55 : decode cX12_laysLead 55 = .ok (.getfield 47, 3) := by decide +kernel
theorem dX12_laysLead_58 : decode cX12_laysLead 58 = .ok (.invokevirtual 270, 3) := by decide +kernel
theorem dX12_laysLead_61 : decode cX12_laysLead 61 = .ok (.iastore, 1) := by decide +kernel
theorem dX12_laysLead_62 : decode cX12_laysLead 62 = .ok (.iinc 2 1, 3) := by decide +kernel
theorem dX12_laysLead_65 : decode cX12_laysLead 65 = .ok (.goto (-38), 3) := by decide +kernel
theorem dX12_laysLead_68 : decode cX12_laysLead 68 = .ok (.iconst 0, 1) := by decide +kernel
theorem dX12_laysLead_69 : decode cX12_laysLead 69 = .ok (.istore_n 2, 1) := by decide +kernel
theorem dX12_laysLead_70 : decode cX12_laysLead 70 = .ok (.iload_n 2, 1) := by decide +kernel
theorem dX12_laysLead_71 : decode cX12_laysLead 71 = .ok (.aload_n 0, 1) := by decide +kernel
theorem dX12_laysLead_72 : decode cX12_laysLead 72 = .ok (.iload_n 1, 1) := by decide +kernel
theorem dX12_laysLead_73 : decode cX12_laysLead 73 = .ok (.invokevirtual 314, 3) := by decide +kernel
theorem dX12_laysLead_76 : decode cX12_laysLead 76 = .ok (.if_icmp .ge 25, 3) := by decide +kernel
theorem dX12_laysLead_79 : decode cX12_laysLead 79 = .ok (.aload_n 0, 1) := by decide +kernel
theorem dX12_laysLead_80 : decode cX12_laysLead 80 = .ok (.getfield 59, 3) := by decide +kernel
theorem dX12_laysLead_83 : decode cX12_laysLead 83 = .ok (.iload_n 2, 1) := by decide +kernel
theorem dX12_laysLead_84 : decode cX12_laysLead 84 = .ok (.aload_n 0, 1) := by decide +kernel
theorem dX12_laysLead_85 : decode cX12_laysLead 85 = .ok (.aload_n 0, 1) := by decide +kernel
theorem dX12_laysLead_86 : decode cX12_laysLead 86 = .ok (.getfield 56, 3) := by decide +kernel
theorem dX12_laysLead_89 : decode cX12_laysLead 89 = .ok (.iload_n 2, 1) := by decide +kernel
theorem dX12_laysLead_90 : decode cX12_laysLead 90 = .ok (.iaload, 1) := by decide +kernel
theorem dX12_laysLead_91 : decode cX12_laysLead 91 = .ok (.invokevirtual 290, 3) := by decide +kernel
theorem dX12_laysLead_94 : decode cX12_laysLead 94 = .ok (.iastore, 1) := by decide +kernel
theorem dX12_laysLead_95 : decode cX12_laysLead 95 = .ok (.iinc 2 1, 3) := by decide +kernel
theorem dX12_laysLead_98 : decode cX12_laysLead 98 = .ok (.goto (-28), 3) := by decide +kernel
theorem dX12_laysLead_101 : decode cX12_laysLead 101 = .ok (.return_, 1) := by decide +kernel
theorem mi_X12_laysLead : MI yX12_laysLead cX12_laysLead 3 (none : Option Jvm.ClassFile.FieldType) 1 := ⟨w_1793, w_118, by decide +kernel, by decide +kernel, by decide +kernel⟩
set_option maxRecDepth 100000 in
set_option maxHeartbeats 4000000 in
theorem C_X12_laysLead (G : GG) (l : Launch) (th : Nat) (p0 : Int32) (S : St) (Q : (Nat → Nat → Int32) → Prop) (hp : P_X12_laysLead th p0 S Q) : Ctr G l yX12_laysLead cX12_laysLead 3 (none : Option Jvm.ClassFile.FieldType) 3 73 0 0 [.ref th, .int p0] S (fun (v : Option Value) (S9 : St) => ∃ (I9 : Nat → Nat → Int32), v = none ∧ S9 = wI S I9 ∧ Q I9) := by
  generalize hQQ : (fun (v : Option Value) (S9 : St) => ∃ (I9 : Nat → Nat → Int32), v = none ∧ S9 = wI S I9 ∧ Q I9) = QQ
  unfold P_X12_laysLead at hp
  refine Ctr.of (by decide) (Nat.le_of_ble_eq_true rfl) ?_
  intro p e s m args below meth c ls B hr hlk hin hl hH
  generalize hlocs0 : ([] : List Loc) = locs at hH ⊢
  have hx := B.1
  have hb := B.2.1
  have hl : lv_has ls 3 [(0, .ref th), (1, .int p0)] := hl
  obtain ⟨hk_th, hp⟩ := hp
  refine lv_iconst (pc := 0) (v := 0) hx hb dX12_laysLead_0 (by decide) ?_
  refine lv_istore_n (pc := 1) (lv' := [(2, .int 0), (0, .ref th), (1, .int p0)]) hx hb dX12_laysLead_1 rfl hl (by decide) rfl (fun ls hl => ?_)
  obtain ⟨I_1, ⟨k0_1, h0_1⟩, hst_1⟩ := hp
  have kl_1 : ∀ (n_1 : Nat) (x2_2 : Int32) (F_3 : Nat → Nat → Int32) (H : Heap) (locs : List Loc) (ls : Array Slot), I_1 n_1 x2_2 F_3 → Hp G (FA S s.heap.size) s.heap (wI S F_3) H locs → lv_has ls 3 [(0, .ref th), (1, .int p0), (2, .int x2_2)] → Wm G p l e { frames := 3, cells := 0, slots := 0, locals := 73 } s m args below meth c S QQ 0 0 H locs 0 0 (F0 m 2 ls []) := by
    intro n_1
    induction n_1 using Nat.strongRecOn with
    | ind n_1 ih_1 =>
      intro x2_2 F_3 H locs ls hq9 hH hl
      have hp := hst_1 n_1 x2_2 F_3 hq9
      refine lv_iload_n (pc := 2) hx hb dX12_laysLead_2 rfl (lv_at hl 2 rfl) ?_
      refine lv_aload_n (pc := 3) hx hb dX12_laysLead_3 rfl (lv_at hl 0 rfl) ?_
      refine sx_getR (pc := 4) (j := 0) B hH hk_th coX12 rfl w_1304 rfl dX12_laysLead_4 ?_
      refine W.eq (g2 := F0 m 7 ls [va_rf (gR S th 0), .int x2_2]) rfl ?_
      obtain ⟨a_4, ha_4, hp⟩ := hp
      refine sx_nonnull (x := a_4) ha_4 ?_
      refine lv_iconst (pc := 7) (v := 0) hx hb dX12_laysLead_7 (by decide) ?_
      obtain ⟨hk_5, hp⟩ := hp
      obtain ⟨hn_6, hp⟩ := hp
      refine sx_iald (pc := 8) B hH hk_5 hn_6 dX12_laysLead_8 ?_
      refine W.eq (g2 := F0 m 9 ls [.int (F_3 a_4 0), .int x2_2]) rfl ?_
      refine lv_icmp_ge (pc := 9) (tgt := 25) hx hb dX12_laysLead_9 (by decide) (fun cc_7 => ?_) (fun cc_7 => ?_)
      · have hp := hp.1 cc_7
        refine lv_iconst (pc := 25) (v := 0) hx hb dX12_laysLead_25 (by decide) ?_
        refine lv_istore_n (pc := 26) (lv' := [(2, .int 0), (0, .ref th), (1, .int p0)]) hx hb dX12_laysLead_26 rfl hl (by decide) rfl (fun ls hl => ?_)
        obtain ⟨I_8, ⟨k0_8, h0_8⟩, hst_8⟩ := hp
        have kl_8 : ∀ (n_8 : Nat) (x2_9 : Int32) (F_10 : Nat → Nat → Int32) (H : Heap) (locs : List Loc) (ls : Array Slot), I_8 n_8 x2_9 F_10 → Hp G (FA S s.heap.size) s.heap (wI S F_10) H locs → lv_has ls 3 [(0, .ref th), (1, .int p0), (2, .int x2_9)] → Wm G p l e { frames := 3, cells := 0, slots := 0, locals := 73 } s m args below meth c S QQ 0 0 H locs 0 0 (F0 m 27 ls []) := by
          intro n_8
          induction n_8 using Nat.strongRecOn with
          | ind n_8 ih_8 =>
            intro x2_9 F_10 H locs ls hq9 hH hl
            have hp := hst_8 n_8 x2_9 F_10 hq9
            refine lv_iload_n (pc := 27) hx hb dX12_laysLead_27 rfl (lv_at hl 2 rfl) ?_
            refine lv_aload_n (pc := 28) hx hb dX12_laysLead_28 rfl (lv_at hl 0 rfl) ?_
            refine lv_iload_n (pc := 29) hx hb dX12_laysLead_29 rfl (lv_at hl 1 rfl) ?_
            refine sx_V (pc := 30) (As := [.int p0]) (rest := [.int x2_9]) B hH hl.1 (C_X12_changesOf G l th p0 _ _ hp) mi_X12_changesOf coX12 hk_th w_1749 w_87 w_1747 rfl rfl ⟨Nat.le_of_ble_eq_true rfl, Nat.le_of_ble_eq_true rfl⟩ (Nat.le_of_ble_eq_true rfl) ⟨Nat.le_of_ble_eq_true rfl, Nat.le_of_ble_eq_true rfl⟩ dX12_laysLead_30 (fun v S1 H locs hq hH => ?_)
            obtain ⟨r_11, rfl, e9, hp⟩ := hq
            rw [e9] at hH
            refine W.eq (g2 := F0 m 33 ls [.int r_11, .int x2_9]) rfl ?_
            refine lv_icmp_ge (pc := 33) (tgt := 68) hx hb dX12_laysLead_33 (by decide) (fun cc_12 => ?_) (fun cc_12 => ?_)
            · have hp := hp.1 cc_12
              refine lv_iconst (pc := 68) (v := 0) hx hb dX12_laysLead_68 (by decide) ?_
              refine lv_istore_n (pc := 69) (lv' := [(2, .int 0), (0, .ref th), (1, .int p0)]) hx hb dX12_laysLead_69 rfl hl (by decide) rfl (fun ls hl => ?_)
              obtain ⟨I_13, ⟨k0_13, h0_13⟩, hst_13⟩ := hp
              have kl_13 : ∀ (n_13 : Nat) (x2_14 : Int32) (F_15 : Nat → Nat → Int32) (H : Heap) (locs : List Loc) (ls : Array Slot), I_13 n_13 x2_14 F_15 → Hp G (FA S s.heap.size) s.heap (wI S F_15) H locs → lv_has ls 3 [(0, .ref th), (1, .int p0), (2, .int x2_14)] → Wm G p l e { frames := 3, cells := 0, slots := 0, locals := 73 } s m args below meth c S QQ 0 0 H locs 0 0 (F0 m 70 ls []) := by
                intro n_13
                induction n_13 using Nat.strongRecOn with
                | ind n_13 ih_13 =>
                  intro x2_14 F_15 H locs ls hq9 hH hl
                  have hp := hst_13 n_13 x2_14 F_15 hq9
                  refine lv_iload_n (pc := 70) hx hb dX12_laysLead_70 rfl (lv_at hl 2 rfl) ?_
                  refine lv_aload_n (pc := 71) hx hb dX12_laysLead_71 rfl (lv_at hl 0 rfl) ?_
                  refine lv_iload_n (pc := 72) hx hb dX12_laysLead_72 rfl (lv_at hl 1 rfl) ?_
                  refine sx_V (pc := 73) (As := [.int p0]) (rest := [.int x2_14]) B hH hl.1 (C_X12_changesOf G l th p0 _ _ hp) mi_X12_changesOf coX12 hk_th w_1749 w_87 w_1747 rfl rfl ⟨Nat.le_of_ble_eq_true rfl, Nat.le_of_ble_eq_true rfl⟩ (Nat.le_of_ble_eq_true rfl) ⟨Nat.le_of_ble_eq_true rfl, Nat.le_of_ble_eq_true rfl⟩ dX12_laysLead_73 (fun v S1 H locs hq hH => ?_)
                  obtain ⟨r_16, rfl, e9, hp⟩ := hq
                  rw [e9] at hH
                  refine W.eq (g2 := F0 m 76 ls [.int r_16, .int x2_14]) rfl ?_
                  refine lv_icmp_ge (pc := 76) (tgt := 101) hx hb dX12_laysLead_76 (by decide) (fun cc_17 => ?_) (fun cc_17 => ?_)
                  · have hp := hp.1 cc_17
                    exact sx_vret (pc := 101) B hH hr hlk (by rw [← hQQ]; exact ⟨F_15, rfl, rfl, hp⟩) (Nat.le_of_ble_eq_true rfl) (Nat.le_of_ble_eq_true rfl) dX12_laysLead_101
                  · have hp := hp.2 cc_17
                    refine lv_aload_n (pc := 79) hx hb dX12_laysLead_79 rfl (lv_at hl 0 rfl) ?_
                    refine sx_getR (pc := 80) (j := 27) B hH hk_th coX12 rfl w_1331 rfl dX12_laysLead_80 ?_
                    refine W.eq (g2 := F0 m 83 ls [va_rf (gR S th 27)]) rfl ?_
                    obtain ⟨a_18, ha_18, hp⟩ := hp
                    refine sx_nonnull (x := a_18) ha_18 ?_
                    refine lv_iload_n (pc := 83) hx hb dX12_laysLead_83 rfl (lv_at hl 2 rfl) ?_
                    refine lv_aload_n (pc := 84) hx hb dX12_laysLead_84 rfl (lv_at hl 0 rfl) ?_
                    refine lv_aload_n (pc := 85) hx hb dX12_laysLead_85 rfl (lv_at hl 0 rfl) ?_
                    refine sx_getR (pc := 86) (j := 26) B hH hk_th coX12 rfl w_1330 rfl dX12_laysLead_86 ?_
                    refine W.eq (g2 := F0 m 89 ls [va_rf (gR S th 26), .ref th, .int x2_14, .ref a_18]) rfl ?_
                    obtain ⟨a_19, ha_19, hp⟩ := hp
                    refine sx_nonnull (x := a_19) ha_19 ?_
                    refine lv_iload_n (pc := 89) hx hb dX12_laysLead_89 rfl (lv_at hl 2 rfl) ?_
                    obtain ⟨hk_20, hp⟩ := hp
                    obtain ⟨hn_21, hp⟩ := hp
                    refine sx_iald (pc := 90) B hH hk_20 hn_21 dX12_laysLead_90 ?_
                    refine W.eq (g2 := F0 m 91 ls [.int (F_15 a_19 x2_14.toNatClampNeg), .ref th, .int x2_14, .ref a_18]) rfl ?_
                    refine sx_V (pc := 91) (As := [.int (F_15 a_19 x2_14.toNatClampNeg)]) (rest := [.int x2_14, .ref a_18]) B hH hl.1 (C_X12_inverseOf G l th (F_15 a_19 x2_14.toNatClampNeg) _ _ hp) mi_X12_inverseOf coX12 hk_th w_1684 w_79 w_1682 rfl rfl ⟨Nat.le_of_ble_eq_true rfl, Nat.le_of_ble_eq_true rfl⟩ (Nat.le_of_ble_eq_true rfl) ⟨Nat.le_of_ble_eq_true rfl, Nat.le_of_ble_eq_true rfl⟩ dX12_laysLead_91 (fun v S1 H locs hq hH => ?_)
                    obtain ⟨r_22, F_22, rfl, e9, hp⟩ := hq
                    rw [e9] at hH
                    have hH : Hp G (FA S s.heap.size) s.heap (wI S F_22) H locs := hH
                    refine W.eq (g2 := F0 m 94 ls [.int r_22, .int x2_14, .ref a_18]) rfl ?_
                    obtain ⟨hk_23, hp⟩ := hp
                    obtain ⟨hn_24, hp⟩ := hp
                    obtain ⟨F_25, eF_25⟩ : ∃ z : Nat → Nat → Int32, z = upI F_22 a_18 x2_14.toNatClampNeg r_22 := ⟨_, rfl⟩
                    have hp := hp F_25 eF_25
                    refine sx_iast (pc := 94) B hH hk_23 hn_24 dX12_laysLead_94 (fun H locs hH => ?_)
                    have hH : Hp G (FA S s.heap.size) s.heap (wI S F_25) H locs := by rw [eF_25]; exact hH
                    obtain ⟨v_26, ev_26⟩ : ∃ y : Int32, y = x2_14 + 1 := ⟨_, rfl⟩
                    have hp := hp v_26 ev_26
                    refine lv_iinc (pc := 95) (v := v_26) (lv' := [(2, .int v_26), (0, .ref th), (1, .int p0)]) hx hb dX12_laysLead_95 hl (k := 2) rfl (by rw [ev_26]; rfl) (by decide) rfl (fun ls hl => ?_)
                    refine lv_goto (pc := 98) (tgt := 70) hx hb dX12_laysLead_98 (by decide) ?_
                    obtain ⟨k9, hlt9, hp⟩ := hp
                    exact ih_13 k9 hlt9 _ _ _ _ _ hp hH (lv_sub hl [1, 2, 0] rfl)
              exact kl_13 k0_13 _ _ _ _ _ h0_13 hH (lv_sub hl [1, 2, 0] rfl)
            · have hp := hp.2 cc_12
              refine lv_aload_n (pc := 36) hx hb dX12_laysLead_36 rfl (lv_at hl 0 rfl) ?_
              refine lv_aload_n (pc := 37) hx hb dX12_laysLead_37 rfl (lv_at hl 0 rfl) ?_
              refine lv_iload_n (pc := 38) hx hb dX12_laysLead_38 rfl (lv_at hl 1 rfl) ?_
              refine lv_iconst (pc := 39) (v := 0) hx hb dX12_laysLead_39 (by decide) ?_
              refine lv_iload_n (pc := 40) hx hb dX12_laysLead_40 rfl (lv_at hl 2 rfl) ?_
              refine sx_V (pc := 41) (As := [.int p0, .int 0, .int x2_9]) (rest := [.ref th]) B hH hl.1 (C_X12_changeOf G l th p0 0 x2_9 _ _ hp) mi_X12_changeOf coX12 hk_th w_1760 w_88 w_1758 rfl rfl ⟨Nat.le_of_ble_eq_true rfl, Nat.le_of_ble_eq_true rfl⟩ (Nat.le_of_ble_eq_true rfl) ⟨Nat.le_of_ble_eq_true rfl, Nat.le_of_ble_eq_true rfl⟩ dX12_laysLead_41 (fun v S1 H locs hq hH => ?_)
              obtain ⟨r_27, rfl, e9, hp⟩ := hq
              rw [e9] at hH
              refine W.eq (g2 := F0 m 44 ls [.int r_27, .ref th]) rfl ?_
              refine lv_iconst (pc := 44) (v := 0) hx hb dX12_laysLead_44 (by decide) ?_
              refine sx_V (pc := 45) (As := [.int r_27, .int 0]) (rest := []) B hH hl.1 (C_X12_changes0 G l th r_27 0 _ _ hp) mi_X12_changes0 coX12 hk_th w_1712 w_83 w_1710 rfl rfl ⟨Nat.le_of_ble_eq_true rfl, Nat.le_of_ble_eq_true rfl⟩ (Nat.le_of_ble_eq_true rfl) ⟨Nat.le_of_ble_eq_true rfl, Nat.le_of_ble_eq_true rfl⟩ dX12_laysLead_45 (fun v S1 H locs hq hH => ?_)
              obtain ⟨F_28, rfl, e9, hp⟩ := hq
              rw [e9] at hH
              have hH : Hp G (FA S s.heap.size) s.heap (wI S F_28) H locs := hH
              refine W.eq (g2 := F0 m 48 ls []) rfl ?_
              refine lv_aload_n (pc := 48) hx hb dX12_laysLead_48 rfl (lv_at hl 0 rfl) ?_
              refine sx_getR (pc := 49) (j := 26) B hH hk_th coX12 rfl w_1330 rfl dX12_laysLead_49 ?_
              refine W.eq (g2 := F0 m 52 ls [va_rf (gR S th 26)]) rfl ?_
              obtain ⟨a_29, ha_29, hp⟩ := hp
              refine sx_nonnull (x := a_29) ha_29 ?_
              refine lv_iload_n (pc := 52) hx hb dX12_laysLead_52 rfl (lv_at hl 2 rfl) ?_
              refine lv_aload_n (pc := 53) hx hb dX12_laysLead_53 rfl (lv_at hl 0 rfl) ?_
              refine lv_aload_n (pc := 54) hx hb dX12_laysLead_54 rfl (lv_at hl 0 rfl) ?_
              refine sx_getR (pc := 55) (j := 23) B hH hk_th coX12 rfl w_1327 rfl dX12_laysLead_55 ?_
              refine W.eq (g2 := F0 m 58 ls [va_rf (gR S th 23), .ref th, .int x2_9, .ref a_29]) rfl ?_
              obtain ⟨a_30, ha_30, hp⟩ := hp
              refine sx_nonnull (x := a_30) ha_30 ?_
              refine sx_V (pc := 58) (As := [.ref a_30]) (rest := [.int x2_9, .ref a_29]) B hH hl.1 (C_X12_numberOf G l th a_30 _ _ hp) mi_X12_numberOf coX12 hk_th w_1668 w_77 w_1666 rfl rfl ⟨Nat.le_of_ble_eq_true rfl, Nat.le_of_ble_eq_true rfl⟩ (Nat.le_of_ble_eq_true rfl) ⟨Nat.le_of_ble_eq_true rfl, Nat.le_of_ble_eq_true rfl⟩ dX12_laysLead_58 (fun v S1 H locs hq hH => ?_)
              obtain ⟨r_31, rfl, e9, hp⟩ := hq
              rw [e9] at hH
              refine W.eq (g2 := F0 m 61 ls [.int r_31, .int x2_9, .ref a_29]) rfl ?_
              obtain ⟨hk_32, hp⟩ := hp
              obtain ⟨hn_33, hp⟩ := hp
              obtain ⟨F_34, eF_34⟩ : ∃ z : Nat → Nat → Int32, z = upI F_28 a_29 x2_9.toNatClampNeg r_31 := ⟨_, rfl⟩
              have hp := hp F_34 eF_34
              refine sx_iast (pc := 61) B hH hk_32 hn_33 dX12_laysLead_61 (fun H locs hH => ?_)
              have hH : Hp G (FA S s.heap.size) s.heap (wI S F_34) H locs := by rw [eF_34]; exact hH
              obtain ⟨v_35, ev_35⟩ : ∃ y : Int32, y = x2_9 + 1 := ⟨_, rfl⟩
              have hp := hp v_35 ev_35
              refine lv_iinc (pc := 62) (v := v_35) (lv' := [(2, .int v_35), (0, .ref th), (1, .int p0)]) hx hb dX12_laysLead_62 hl (k := 2) rfl (by rw [ev_35]; rfl) (by decide) rfl (fun ls hl => ?_)
              refine lv_goto (pc := 65) (tgt := 27) hx hb dX12_laysLead_65 (by decide) ?_
              obtain ⟨k9, hlt9, hp⟩ := hp
              exact ih_8 k9 hlt9 _ _ _ _ _ hp hH (lv_sub hl [1, 2, 0] rfl)
        exact kl_8 k0_8 _ _ _ _ _ h0_8 hH (lv_sub hl [1, 2, 0] rfl)
      · have hp := hp.2 cc_7
        refine lv_aload_n (pc := 12) hx hb dX12_laysLead_12 rfl (lv_at hl 0 rfl) ?_
        refine sx_getR (pc := 13) (j := 23) B hH hk_th coX12 rfl w_1327 rfl dX12_laysLead_13 ?_
        refine W.eq (g2 := F0 m 16 ls [va_rf (gR S th 23)]) rfl ?_
        obtain ⟨a_36, ha_36, hp⟩ := hp
        refine sx_nonnull (x := a_36) ha_36 ?_
        refine lv_iload_n (pc := 16) hx hb dX12_laysLead_16 rfl (lv_at hl 2 rfl) ?_
        refine lv_iload_n (pc := 17) hx hb dX12_laysLead_17 rfl (lv_at hl 2 rfl) ?_
        obtain ⟨hk_37, hp⟩ := hp
        obtain ⟨hn_38, hp⟩ := hp
        obtain ⟨F_39, eF_39⟩ : ∃ z : Nat → Nat → Int32, z = upI F_3 a_36 x2_2.toNatClampNeg x2_2 := ⟨_, rfl⟩
        have hp := hp F_39 eF_39
        refine sx_iast (pc := 18) B hH hk_37 hn_38 dX12_laysLead_18 (fun H locs hH => ?_)
        have hH : Hp G (FA S s.heap.size) s.heap (wI S F_39) H locs := by rw [eF_39]; exact hH
        obtain ⟨v_40, ev_40⟩ : ∃ y : Int32, y = x2_2 + 1 := ⟨_, rfl⟩
        have hp := hp v_40 ev_40
        refine lv_iinc (pc := 19) (v := v_40) (lv' := [(2, .int v_40), (0, .ref th), (1, .int p0)]) hx hb dX12_laysLead_19 hl (k := 2) rfl (by rw [ev_40]; rfl) (by decide) rfl (fun ls hl => ?_)
        refine lv_goto (pc := 22) (tgt := 2) hx hb dX12_laysLead_22 (by decide) ?_
        obtain ⟨k9, hlt9, hp⟩ := hp
        exact ih_1 k9 hlt9 _ _ _ _ _ hp hH (lv_sub hl [1, 2, 0] rfl)
  exact kl_1 k0_1 _ _ _ _ _ h0_1 hH (lv_sub hl [1, 2, 0] rfl)
theorem dX12_leadsTo_0 : decode cX12_leadsTo 0 = .ok (.aload_n 0, 1) := by decide +kernel
theorem dX12_leadsTo_1 : decode cX12_leadsTo 1 = .ok (.iload_n 1, 1) := by decide +kernel
theorem dX12_leadsTo_2 : decode cX12_leadsTo 2 = .ok (.invokevirtual 317, 3) := by decide +kernel
theorem dX12_leadsTo_5 : decode cX12_leadsTo 5 = .ok (.ifCond .eq 11, 3) := by decide +kernel
theorem dX12_leadsTo_8 : decode cX12_leadsTo 8 = .ok (.aload_n 0, 1) := by decide +kernel
theorem dX12_leadsTo_9 : decode cX12_leadsTo 9 = .ok (.iload_n 2, 1) := by decide +kernel
theorem dX12_leadsTo_10 : decode cX12_leadsTo 10 = .ok (.invokevirtual 277, 3) := by decide +kernel
theorem dX12_leadsTo_13 : decode cX12_leadsTo 13 = .ok (.ifCond .ne 9, 3) := by decide +kernel
theorem dX12_leadsTo_16 : decode cX12_leadsTo 16 = .ok (.aload_n 0, 1) := by decide +kernel
theorem dX12_leadsTo_17 : decode cX12_leadsTo 17 = .ok (.iconst 1, 1) := by decide +kernel
theorem dX12_leadsTo_18 : decode cX12_leadsTo 18 = .ok (.invokevirtual 105, 3) := by decide +kernel
theorem dX12_leadsTo_21 : decode cX12_leadsTo 21 = .ok (.ireturn, 1) := by decide +kernel
theorem dX12_leadsTo_22 : decode cX12_leadsTo 22 = .ok (.aload_n 0, 1) := by decide +kernel
theorem dX12_leadsTo_23 : decode cX12_leadsTo 23 = .ok (.iconst 0, 1) := by decide +kernel
theorem dX12_leadsTo_24 : decode cX12_leadsTo 24 = .ok (.iload_n 1, 1) := by decide +kernel
theorem dX12_leadsTo_25 : decode cX12_leadsTo 25 = .ok (.iconst 0, 1) := by decide +kernel
theorem dX12_leadsTo_26 : decode cX12_leadsTo 26 = .ok (.invokevirtual 327, 3) := by decide +kernel
theorem dX12_leadsTo_29 : decode cX12_leadsTo 29 = .ok (.istore_n 3, 1) := by decide +kernel
theorem dX12_leadsTo_30 : decode cX12_leadsTo 30 = .ok (.iconst 0, 1) := by decide +kernel
theorem dX12_leadsTo_31 : decode cX12_leadsTo 31 = .ok (.istore 4, 2) := by decide +kernel
theorem dX12_leadsTo_33 : decode cX12_leadsTo 33 = .ok (.iconst 0, 1) := by decide +kernel
theorem dX12_leadsTo_34 : decode cX12_leadsTo 34 = .ok (.istore 5, 2) := by decide +kernel
theorem dX12_leadsTo_36 : decode cX12_leadsTo 36 = .ok (.iload 4, 2) := by decide +kernel
theorem dX12_leadsTo_38 : decode cX12_leadsTo 38 = .ok (.iload_n 2, 1) := by decide +kernel
theorem dX12_leadsTo_39 : decode cX12_leadsTo 39 = .ok (.if_icmp .eq 27, 3) := by decide +kernel
theorem dX12_leadsTo_42 : decode cX12_leadsTo 42 = .ok (.aload_n 0, 1) := by decide +kernel
theorem dX12_leadsTo_43 : decode cX12_leadsTo 43 = .ok (.iload 4, 2) := by decide +kernel
theorem dX12_leadsTo_45 : decode cX12_leadsTo 45 = .ok (.iload_n 3, 1) := by decide +kernel
theorem dX12_leadsTo_46 : decode cX12_leadsTo 46 = .ok (.invokevirtual 287, 3) := by decide +kernel
theorem dX12_leadsTo_49 : decode cX12_leadsTo 49 = .ok (.istore 4, 2) := by decide +kernel
theorem dX12_leadsTo_51 : decode cX12_leadsTo 51 = .ok (.iinc 5 1, 3) := by decide +kernel
theorem dX12_leadsTo_54 : decode cX12_leadsTo 54 = .ok (.iload 4, 2) := by decide +kernel
theorem dX12_leadsTo_56 : decode cX12_leadsTo 56 = .ok (.ifCond .ne (-20), 3) := by decide +kernel
theorem dX12_leadsTo_59 : decode cX12_leadsTo 59 = .ok (.aload_n 0, 1) := by decide +kernel
theorem dX12_leadsTo_60 : decode cX12_leadsTo 60 = .ok (.bipush 6, 2) := by decide +kernel
theorem dX12_leadsTo_62 : decode cX12_leadsTo 62 = .ok (.invokevirtual 105, 3) := by decide +kernel
theorem dX12_leadsTo_65 : decode cX12_leadsTo 65 = .ok (.ireturn, 1) := by decide +kernel
theorem dX12_leadsTo_66 : decode cX12_leadsTo 66 = .ok (.aload_n 0, 1) := by decide +kernel
theorem dX12_leadsTo_67 : decode cX12_leadsTo 67 = .ok (.iload 5, 2) := by decide +kernel
theorem dX12_leadsTo_69 : decode cX12_leadsTo 69 = .ok (.invokevirtual 109, 3) := by decide +kernel
theorem dX12_leadsTo_72 : decode cX12_leadsTo 72 = .ok (.ireturn, 1) := by decide +kernel
theorem mi_X12_leadsTo : MI yX12_leadsTo cX12_leadsTo 6 (some FieldType.int) 2 := ⟨w_1785, w_118, by decide +kernel, by decide +kernel, by decide +kernel⟩
set_option maxRecDepth 100000 in
set_option maxHeartbeats 4000000 in
theorem C_X12_leadsTo (G : GG) (l : Launch) (th : Nat) (p0 : Int32) (p1 : Int32) (S : St) (Q : Int32 → (Nat → Nat → Int32) → Prop) (hp : P_X12_leadsTo th p0 p1 S Q) : Ctr G l yX12_leadsTo cX12_leadsTo 6 (some FieldType.int) 3 75 0 0 [.ref th, .int p0, .int p1] S (fun (v : Option Value) (S9 : St) => ∃ (r : Int32) (I9 : Nat → Nat → Int32), v = some (.int r) ∧ S9 = wI S I9 ∧ Q r I9) := by
  generalize hQQ : (fun (v : Option Value) (S9 : St) => ∃ (r : Int32) (I9 : Nat → Nat → Int32), v = some (.int r) ∧ S9 = wI S I9 ∧ Q r I9) = QQ
  unfold P_X12_leadsTo at hp
  refine Ctr.of (by decide) (Nat.le_of_ble_eq_true rfl) ?_
  intro p e s m args below meth c ls B hr hlk hin hl hH
  generalize hlocs0 : ([] : List Loc) = locs at hH ⊢
  have hx := B.1
  have hb := B.2.1
  have hl : lv_has ls 6 [(0, .ref th), (1, .int p0), (2, .int p1)] := hl
  obtain ⟨hk_th, hp⟩ := hp
  refine lv_aload_n (pc := 0) hx hb dX12_leadsTo_0 rfl (lv_at hl 0 rfl) ?_
  refine lv_iload_n (pc := 1) hx hb dX12_leadsTo_1 rfl (lv_at hl 1 rfl) ?_
  refine sx_V (pc := 2) (As := [.int p0]) (rest := []) B hH hl.1 (C_X12_isMethod G l th p0 _ _ hp) mi_X12_isMethod coX12 hk_th w_1745 w_86 w_1743 rfl rfl ⟨Nat.le_of_ble_eq_true rfl, Nat.le_of_ble_eq_true rfl⟩ (Nat.le_of_ble_eq_true rfl) ⟨Nat.le_of_ble_eq_true rfl, Nat.le_of_ble_eq_true rfl⟩ dX12_leadsTo_2 (fun v S1 H locs hq hH => ?_)
  obtain ⟨r_1, rfl, e9, hp⟩ := hq
  rw [e9] at hH
  refine W.eq (g2 := F0 m 5 ls [.int r_1]) rfl ?_
  obtain ⟨J_3, hj_3, hp⟩ := hp
  have kj_3 : ∀  (H : Heap) (locs : List Loc) (ls : Array Slot), J_3  → Hp G (FA S s.heap.size) s.heap S H locs → lv_has ls 6 [(0, .ref th)] → Wm G p l e { frames := 3, cells := 0, slots := 0, locals := 75 } s m args below meth c S QQ 0 0 H locs 0 0 (F0 m 16 ls []) := by
    intro  H locs ls hq9 hH hl
    have hp := hj_3  hq9
    refine lv_aload_n (pc := 16) hx hb dX12_leadsTo_16 rfl (lv_at hl 0 rfl) ?_
    refine lv_iconst (pc := 17) (v := 1) hx hb dX12_leadsTo_17 (by decide) ?_
    refine sx_V (pc := 18) (As := [.int 1]) (rest := []) B hH hl.1 (C_X12_refuse G l th 1 _ _ hp) mi_X12_refuse coX12 hk_th w_1539 w_51 w_1537 rfl rfl ⟨Nat.le_of_ble_eq_true rfl, Nat.le_of_ble_eq_true rfl⟩ (Nat.le_of_ble_eq_true rfl) ⟨Nat.le_of_ble_eq_true rfl, Nat.le_of_ble_eq_true rfl⟩ dX12_leadsTo_18 (fun v S1 H locs hq hH => ?_)
    obtain ⟨r_4, F_4, rfl, e9, hp⟩ := hq
    rw [e9] at hH
    have hH : Hp G (FA S s.heap.size) s.heap (wI S F_4) H locs := hH
    refine W.eq (g2 := F0 m 21 ls [.int r_4]) rfl ?_
    exact sx_iret (pc := 21) B hH hr hlk (by rw [← hQQ]; exact ⟨_, F_4, rfl, rfl, hp⟩) (Nat.le_of_ble_eq_true rfl) (Nat.le_of_ble_eq_true rfl) dX12_leadsTo_21
  refine lv_if_eq (pc := 5) (tgt := 16) hx hb dX12_leadsTo_5 (by decide) (fun cc_2 => ?_) (fun cc_2 => ?_)
  · have hp := hp.1 cc_2
    exact kj_3  _ _ _ hp hH (lv_sub hl [0] rfl)
  · have hp := hp.2 cc_2
    refine lv_aload_n (pc := 8) hx hb dX12_leadsTo_8 rfl (lv_at hl 0 rfl) ?_
    refine lv_iload_n (pc := 9) hx hb dX12_leadsTo_9 rfl (lv_at hl 2 rfl) ?_
    refine sx_V (pc := 10) (As := [.int p1]) (rest := []) B hH hl.1 (C_X12_isRow G l th p1 _ _ hp) mi_X12_isRow coX12 hk_th w_1649 w_74 w_1647 rfl rfl ⟨Nat.le_of_ble_eq_true rfl, Nat.le_of_ble_eq_true rfl⟩ (Nat.le_of_ble_eq_true rfl) ⟨Nat.le_of_ble_eq_true rfl, Nat.le_of_ble_eq_true rfl⟩ dX12_leadsTo_10 (fun v S1 H locs hq hH => ?_)
    obtain ⟨r_5, rfl, e9, hp⟩ := hq
    rw [e9] at hH
    refine W.eq (g2 := F0 m 13 ls [.int r_5]) rfl ?_
    refine lv_if_ne (pc := 13) (tgt := 22) hx hb dX12_leadsTo_13 (by decide) (fun cc_6 => ?_) (fun cc_6 => ?_)
    · have hp := hp.1 cc_6
      refine lv_aload_n (pc := 22) hx hb dX12_leadsTo_22 rfl (lv_at hl 0 rfl) ?_
      refine lv_iconst (pc := 23) (v := 0) hx hb dX12_leadsTo_23 (by decide) ?_
      refine lv_iload_n (pc := 24) hx hb dX12_leadsTo_24 rfl (lv_at hl 1 rfl) ?_
      refine lv_iconst (pc := 25) (v := 0) hx hb dX12_leadsTo_25 (by decide) ?_
      refine sx_V (pc := 26) (As := [.int 0, .int p0, .int 0]) (rest := []) B hH hl.1 (C_X12_leadFrom G l th 0 p0 0 _ _ hp) mi_X12_leadFrom coX12 hk_th w_1768 w_89 w_1766 rfl rfl ⟨Nat.le_of_ble_eq_true rfl, Nat.le_of_ble_eq_true rfl⟩ (Nat.le_of_ble_eq_true rfl) ⟨Nat.le_of_ble_eq_true rfl, Nat.le_of_ble_eq_true rfl⟩ dX12_leadsTo_26 (fun v S1 H locs hq hH => ?_)
      obtain ⟨r_7, F_7, rfl, e9, hp⟩ := hq
      rw [e9] at hH
      have hH : Hp G (FA S s.heap.size) s.heap (wI S F_7) H locs := hH
      refine W.eq (g2 := F0 m 29 ls [.int r_7]) rfl ?_
      refine lv_istore_n (pc := 29) (lv' := [(3, .int r_7), (0, .ref th), (1, .int p0), (2, .int p1)]) hx hb dX12_leadsTo_29 rfl hl (by decide) rfl (fun ls hl => ?_)
      refine lv_iconst (pc := 30) (v := 0) hx hb dX12_leadsTo_30 (by decide) ?_
      refine lv_istore (pc := 31) (lv' := [(4, .int 0), (3, .int r_7), (0, .ref th), (1, .int p0), (2, .int p1)]) hx hb dX12_leadsTo_31 hl (by decide) rfl (fun ls hl => ?_)
      refine lv_iconst (pc := 33) (v := 0) hx hb dX12_leadsTo_33 (by decide) ?_
      refine lv_istore (pc := 34) (lv' := [(5, .int 0), (4, .int 0), (3, .int r_7), (0, .ref th), (1, .int p0), (2, .int p1)]) hx hb dX12_leadsTo_34 hl (by decide) rfl (fun ls hl => ?_)
      obtain ⟨I_8, ⟨k0_8, h0_8⟩, hst_8⟩ := hp
      have kl_8 : ∀ (n_8 : Nat) (x4_9 : Int32) (x5_10 : Int32) (F_11 : Nat → Nat → Int32) (H : Heap) (locs : List Loc) (ls : Array Slot), I_8 n_8 x4_9 x5_10 F_11 → Hp G (FA S s.heap.size) s.heap (wI S F_11) H locs → lv_has ls 6 [(0, .ref th), (2, .int p1), (3, .int r_7), (4, .int x4_9), (5, .int x5_10)] → Wm G p l e { frames := 3, cells := 0, slots := 0, locals := 75 } s m args below meth c S QQ 0 0 H locs 0 0 (F0 m 36 ls []) := by
        intro n_8
        induction n_8 using Nat.strongRecOn with
        | ind n_8 ih_8 =>
          intro x4_9 x5_10 F_11 H locs ls hq9 hH hl
          have hp := hst_8 n_8 x4_9 x5_10 F_11 hq9
          refine lv_iload (pc := 36) hx hb dX12_leadsTo_36 (lv_at hl 3 rfl) ?_
          refine lv_iload_n (pc := 38) hx hb dX12_leadsTo_38 rfl (lv_at hl 1 rfl) ?_
          refine lv_icmp_eq (pc := 39) (tgt := 66) hx hb dX12_leadsTo_39 (by decide) (fun cc_12 => ?_) (fun cc_12 => ?_)
          · have hp := hp.1 cc_12
            refine lv_aload_n (pc := 66) hx hb dX12_leadsTo_66 rfl (lv_at hl 0 rfl) ?_
            refine lv_iload (pc := 67) hx hb dX12_leadsTo_67 (lv_at hl 4 rfl) ?_
            refine sx_V (pc := 69) (As := [.int x5_10]) (rest := []) B hH hl.1 (C_X12_gives G l th x5_10 _ _ hp) mi_X12_gives coX12 hk_th w_1617 w_69 w_1615 rfl rfl ⟨Nat.le_of_ble_eq_true rfl, Nat.le_of_ble_eq_true rfl⟩ (Nat.le_of_ble_eq_true rfl) ⟨Nat.le_of_ble_eq_true rfl, Nat.le_of_ble_eq_true rfl⟩ dX12_leadsTo_69 (fun v S1 H locs hq hH => ?_)
            obtain ⟨r_13, F_13, rfl, e9, hp⟩ := hq
            rw [e9] at hH
            have hH : Hp G (FA S s.heap.size) s.heap (wI S F_13) H locs := hH
            refine W.eq (g2 := F0 m 72 ls [.int r_13]) rfl ?_
            exact sx_iret (pc := 72) B hH hr hlk (by rw [← hQQ]; exact ⟨_, F_13, rfl, rfl, hp⟩) (Nat.le_of_ble_eq_true rfl) (Nat.le_of_ble_eq_true rfl) dX12_leadsTo_72
          · have hp := hp.2 cc_12
            refine lv_aload_n (pc := 42) hx hb dX12_leadsTo_42 rfl (lv_at hl 0 rfl) ?_
            refine lv_iload (pc := 43) hx hb dX12_leadsTo_43 (lv_at hl 3 rfl) ?_
            refine lv_iload_n (pc := 45) hx hb dX12_leadsTo_45 rfl (lv_at hl 2 rfl) ?_
            refine sx_V (pc := 46) (As := [.int x4_9, .int r_7]) (rest := []) B hH hl.1 (C_X12_productOf G l th x4_9 r_7 _ _ hp) mi_X12_productOf coX12 hk_th w_1676 w_78 w_1674 rfl rfl ⟨Nat.le_of_ble_eq_true rfl, Nat.le_of_ble_eq_true rfl⟩ (Nat.le_of_ble_eq_true rfl) ⟨Nat.le_of_ble_eq_true rfl, Nat.le_of_ble_eq_true rfl⟩ dX12_leadsTo_46 (fun v S1 H locs hq hH => ?_)
            obtain ⟨r_14, F_14, rfl, e9, hp⟩ := hq
            rw [e9] at hH
            have hH : Hp G (FA S s.heap.size) s.heap (wI S F_14) H locs := hH
            refine W.eq (g2 := F0 m 49 ls [.int r_14]) rfl ?_
            refine lv_istore (pc := 49) (lv' := [(4, .int r_14), (0, .ref th), (2, .int p1), (3, .int r_7), (5, .int x5_10)]) hx hb dX12_leadsTo_49 hl (by decide) rfl (fun ls hl => ?_)
            obtain ⟨v_15, ev_15⟩ : ∃ y : Int32, y = x5_10 + 1 := ⟨_, rfl⟩
            have hp := hp v_15 ev_15
            refine lv_iinc (pc := 51) (v := v_15) (lv' := [(5, .int v_15), (4, .int r_14), (0, .ref th), (2, .int p1), (3, .int r_7)]) hx hb dX12_leadsTo_51 hl (k := 4) rfl (by rw [ev_15]; rfl) (by decide) rfl (fun ls hl => ?_)
            refine lv_iload (pc := 54) hx hb dX12_leadsTo_54 (lv_at hl 1 rfl) ?_
            refine lv_if_ne (pc := 56) (tgt := 36) hx hb dX12_leadsTo_56 (by decide) (fun cc_16 => ?_) (fun cc_16 => ?_)
            · have hp := hp.1 cc_16
              obtain ⟨k9, hlt9, hp⟩ := hp
              exact ih_8 k9 hlt9 _ _ _ _ _ _ hp hH (lv_sub hl [2, 3, 4, 1, 0] rfl)
            · have hp := hp.2 cc_16
              refine lv_aload_n (pc := 59) hx hb dX12_leadsTo_59 rfl (lv_at hl 2 rfl) ?_
              refine lv_bipush (pc := 60) (v := 6) hx hb dX12_leadsTo_60 (by decide) ?_
              refine sx_V (pc := 62) (As := [.int 6]) (rest := []) B hH hl.1 (C_X12_refuse G l th 6 _ _ hp) mi_X12_refuse coX12 hk_th w_1539 w_51 w_1537 rfl rfl ⟨Nat.le_of_ble_eq_true rfl, Nat.le_of_ble_eq_true rfl⟩ (Nat.le_of_ble_eq_true rfl) ⟨Nat.le_of_ble_eq_true rfl, Nat.le_of_ble_eq_true rfl⟩ dX12_leadsTo_62 (fun v S1 H locs hq hH => ?_)
              obtain ⟨r_17, F_17, rfl, e9, hp⟩ := hq
              rw [e9] at hH
              have hH : Hp G (FA S s.heap.size) s.heap (wI S F_17) H locs := hH
              refine W.eq (g2 := F0 m 65 ls [.int r_17]) rfl ?_
              exact sx_iret (pc := 65) B hH hr hlk (by rw [← hQQ]; exact ⟨_, F_17, rfl, rfl, hp⟩) (Nat.le_of_ble_eq_true rfl) (Nat.le_of_ble_eq_true rfl) dX12_leadsTo_65
      exact kl_8 k0_8 _ _ _ _ _ _ h0_8 hH (lv_sub hl [3, 5, 2, 1, 0] rfl)
    · have hp := hp.2 cc_6
      exact kj_3  _ _ _ hp hH (lv_sub hl [0] rfl)
theorem dX12_inLead_0 : decode cX12_inLead 0 = .ok (.aload_n 0, 1) := by decide +kernel
theorem dX12_inLead_1 : decode cX12_inLead 1 = .ok (.iload_n 1, 1) := by decide +kernel
theorem dX12_inLead_2 : decode cX12_inLead 2 = .ok (.invokevirtual 317, 3) := by decide +kernel
theorem dX12_inLead_5 : decode cX12_inLead 5 = .ok (.ifCond .eq 11, 3) := by decide +kernel
theorem dX12_inLead_8 : decode cX12_inLead 8 = .ok (.aload_n 0, 1) := by decide +kernel
theorem dX12_inLead_9 : decode cX12_inLead 9 = .ok (.iload_n 2, 1) := by decide +kernel
theorem dX12_inLead_10 : decode cX12_inLead 10 = .ok (.invokevirtual 277, 3) := by decide +kernel
theorem dX12_inLead_13 : decode cX12_inLead 13 = .ok (.ifCond .ne 9, 3) := by decide +kernel
theorem dX12_inLead_16 : decode cX12_inLead 16 = .ok (.aload_n 0, 1) := by decide +kernel
theorem dX12_inLead_17 : decode cX12_inLead 17 = .ok (.iconst 1, 1) := by decide +kernel
theorem dX12_inLead_18 : decode cX12_inLead 18 = .ok (.invokevirtual 105, 3) := by decide +kernel
theorem dX12_inLead_21 : decode cX12_inLead 21 = .ok (.ireturn, 1) := by decide +kernel
theorem dX12_inLead_22 : decode cX12_inLead 22 = .ok (.aload_n 0, 1) := by decide +kernel
theorem dX12_inLead_23 : decode cX12_inLead 23 = .ok (.iload_n 1, 1) := by decide +kernel
theorem dX12_inLead_24 : decode cX12_inLead 24 = .ok (.invokevirtual 330, 3) := by decide +kernel
theorem dX12_inLead_27 : decode cX12_inLead 27 = .ok (.iconst 0, 1) := by decide +kernel
theorem dX12_inLead_28 : decode cX12_inLead 28 = .ok (.istore_n 3, 1) := by decide +kernel
theorem dX12_inLead_29 : decode cX12_inLead 29 = .ok (.iload_n 3, 1) := by decide +kernel
theorem dX12_inLead_30 : decode cX12_inLead 30 = .ok (.aload_n 0, 1) := by decide +kernel
theorem dX12_inLead_31 : decode cX12_inLead 31 = .ok (.iload_n 1, 1) := by decide +kernel
theorem dX12_inLead_32 : decode cX12_inLead 32 = .ok (.invokevirtual 314, 3) := by decide +kernel
theorem dX12_inLead_35 : decode cX12_inLead 35 = .ok (.if_icmp .ge 27, 3) := by decide +kernel
theorem dX12_inLead_38 : decode cX12_inLead 38 = .ok (.aload_n 0, 1) := by decide +kernel
theorem dX12_inLead_39 : decode cX12_inLead 39 = .ok (.getfield 56, 3) := by decide +kernel
theorem dX12_inLead_42 : decode cX12_inLead 42 = .ok (.iload_n 3, 1) := by decide +kernel
theorem dX12_inLead_43 : decode cX12_inLead 43 = .ok (.iaload, 1) := by decide +kernel
theorem dX12_inLead_44 : decode cX12_inLead 44 = .ok (.iload_n 2, 1) := by decide +kernel
theorem dX12_inLead_45 : decode cX12_inLead 45 = .ok (.if_icmp .ne 11, 3) := by decide +kernel
theorem dX12_inLead_48 : decode cX12_inLead 48 = .ok (.aload_n 0, 1) := by decide +kernel
theorem dX12_inLead_49 : decode cX12_inLead 49 = .ok (.iload_n 3, 1) := by decide +kernel
theorem dX12_inLead_50 : decode cX12_inLead 50 = .ok (.iconst 1, 1) := by decide +kernel
theorem dX12_inLead_51 : decode cX12_inLead 51 = .ok (.iadd, 1) := by decide +kernel
theorem dX12_inLead_52 : decode cX12_inLead 52 = .ok (.invokevirtual 109, 3) := by decide +kernel
theorem dX12_inLead_55 : decode cX12_inLead 55 = .ok (.ireturn, 1) := by decide +kernel
theorem dX12_inLead_56 : decode cX12_inLead 56 = .ok (.iinc 3 1, 3) := by decide +kernel
theorem dX12_inLead_59 : decode cX12_inLead 59 = .ok (.goto (-30), 3) := by decide +kernel
theorem dX12_inLead_62 : decode cX12_inLead 62 = .ok (.aload_n 0, 1) := by decide +kernel
theorem dX12_inLead_63 : decode cX12_inLead 63 = .ok (.bipush 6, 2) := by decide +kernel
theorem dX12_inLead_65 : decode cX12_inLead 65 = .ok (.invokevirtual 105, 3) := by decide +kernel
theorem dX12_inLead_68 : decode cX12_inLead 68 = .ok (.ireturn, 1) := by decide +kernel
theorem mi_X12_inLead : MI yX12_inLead cX12_inLead 4 (some FieldType.int) 2 := ⟨w_1789, w_118, by decide +kernel, by decide +kernel, by decide +kernel⟩
set_option maxRecDepth 100000 in
set_option maxHeartbeats 4000000 in
theorem C_X12_inLead (G : GG) (l : Launch) (th : Nat) (p0 : Int32) (p1 : Int32) (S : St) (Q : Int32 → (Nat → Nat → Int32) → Prop) (hp : P_X12_inLead th p0 p1 S Q) : Ctr G l yX12_inLead cX12_inLead 4 (some FieldType.int) 4 95 0 0 [.ref th, .int p0, .int p1] S (fun (v : Option Value) (S9 : St) => ∃ (r : Int32) (I9 : Nat → Nat → Int32), v = some (.int r) ∧ S9 = wI S I9 ∧ Q r I9) := by
  generalize hQQ : (fun (v : Option Value) (S9 : St) => ∃ (r : Int32) (I9 : Nat → Nat → Int32), v = some (.int r) ∧ S9 = wI S I9 ∧ Q r I9) = QQ
  unfold P_X12_inLead at hp
  refine Ctr.of (by decide) (Nat.le_of_ble_eq_true rfl) ?_
  intro p e s m args below meth c ls B hr hlk hin hl hH
  generalize hlocs0 : ([] : List Loc) = locs at hH ⊢
  have hx := B.1
  have hb := B.2.1
  have hl : lv_has ls 4 [(0, .ref th), (1, .int p0), (2, .int p1)] := hl
  obtain ⟨hk_th, hp⟩ := hp
  refine lv_aload_n (pc := 0) hx hb dX12_inLead_0 rfl (lv_at hl 0 rfl) ?_
  refine lv_iload_n (pc := 1) hx hb dX12_inLead_1 rfl (lv_at hl 1 rfl) ?_
  refine sx_V (pc := 2) (As := [.int p0]) (rest := []) B hH hl.1 (C_X12_isMethod G l th p0 _ _ hp) mi_X12_isMethod coX12 hk_th w_1745 w_86 w_1743 rfl rfl ⟨Nat.le_of_ble_eq_true rfl, Nat.le_of_ble_eq_true rfl⟩ (Nat.le_of_ble_eq_true rfl) ⟨Nat.le_of_ble_eq_true rfl, Nat.le_of_ble_eq_true rfl⟩ dX12_inLead_2 (fun v S1 H locs hq hH => ?_)
  obtain ⟨r_1, rfl, e9, hp⟩ := hq
  rw [e9] at hH
  refine W.eq (g2 := F0 m 5 ls [.int r_1]) rfl ?_
  obtain ⟨J_3, hj_3, hp⟩ := hp
  have kj_3 : ∀  (H : Heap) (locs : List Loc) (ls : Array Slot), J_3  → Hp G (FA S s.heap.size) s.heap S H locs → lv_has ls 4 [(0, .ref th)] → Wm G p l e { frames := 4, cells := 0, slots := 0, locals := 95 } s m args below meth c S QQ 0 0 H locs 0 0 (F0 m 16 ls []) := by
    intro  H locs ls hq9 hH hl
    have hp := hj_3  hq9
    refine lv_aload_n (pc := 16) hx hb dX12_inLead_16 rfl (lv_at hl 0 rfl) ?_
    refine lv_iconst (pc := 17) (v := 1) hx hb dX12_inLead_17 (by decide) ?_
    refine sx_V (pc := 18) (As := [.int 1]) (rest := []) B hH hl.1 (C_X12_refuse G l th 1 _ _ hp) mi_X12_refuse coX12 hk_th w_1539 w_51 w_1537 rfl rfl ⟨Nat.le_of_ble_eq_true rfl, Nat.le_of_ble_eq_true rfl⟩ (Nat.le_of_ble_eq_true rfl) ⟨Nat.le_of_ble_eq_true rfl, Nat.le_of_ble_eq_true rfl⟩ dX12_inLead_18 (fun v S1 H locs hq hH => ?_)
    obtain ⟨r_4, F_4, rfl, e9, hp⟩ := hq
    rw [e9] at hH
    have hH : Hp G (FA S s.heap.size) s.heap (wI S F_4) H locs := hH
    refine W.eq (g2 := F0 m 21 ls [.int r_4]) rfl ?_
    exact sx_iret (pc := 21) B hH hr hlk (by rw [← hQQ]; exact ⟨_, F_4, rfl, rfl, hp⟩) (Nat.le_of_ble_eq_true rfl) (Nat.le_of_ble_eq_true rfl) dX12_inLead_21
  refine lv_if_eq (pc := 5) (tgt := 16) hx hb dX12_inLead_5 (by decide) (fun cc_2 => ?_) (fun cc_2 => ?_)
  · have hp := hp.1 cc_2
    exact kj_3  _ _ _ hp hH (lv_sub hl [0] rfl)
  · have hp := hp.2 cc_2
    refine lv_aload_n (pc := 8) hx hb dX12_inLead_8 rfl (lv_at hl 0 rfl) ?_
    refine lv_iload_n (pc := 9) hx hb dX12_inLead_9 rfl (lv_at hl 2 rfl) ?_
    refine sx_V (pc := 10) (As := [.int p1]) (rest := []) B hH hl.1 (C_X12_isRow G l th p1 _ _ hp) mi_X12_isRow coX12 hk_th w_1649 w_74 w_1647 rfl rfl ⟨Nat.le_of_ble_eq_true rfl, Nat.le_of_ble_eq_true rfl⟩ (Nat.le_of_ble_eq_true rfl) ⟨Nat.le_of_ble_eq_true rfl, Nat.le_of_ble_eq_true rfl⟩ dX12_inLead_10 (fun v S1 H locs hq hH => ?_)
    obtain ⟨r_5, rfl, e9, hp⟩ := hq
    rw [e9] at hH
    refine W.eq (g2 := F0 m 13 ls [.int r_5]) rfl ?_
    refine lv_if_ne (pc := 13) (tgt := 22) hx hb dX12_inLead_13 (by decide) (fun cc_6 => ?_) (fun cc_6 => ?_)
    · have hp := hp.1 cc_6
      refine lv_aload_n (pc := 22) hx hb dX12_inLead_22 rfl (lv_at hl 0 rfl) ?_
      refine lv_iload_n (pc := 23) hx hb dX12_inLead_23 rfl (lv_at hl 1 rfl) ?_
      refine sx_V (pc := 24) (As := [.int p0]) (rest := []) B hH hl.1 (C_X12_laysLead G l th p0 _ _ hp) mi_X12_laysLead coX12 hk_th w_1792 w_90 w_1790 rfl rfl ⟨Nat.le_of_ble_eq_true rfl, Nat.le_of_ble_eq_true rfl⟩ (Nat.le_of_ble_eq_true rfl) ⟨Nat.le_of_ble_eq_true rfl, Nat.le_of_ble_eq_true rfl⟩ dX12_inLead_24 (fun v S1 H locs hq hH => ?_)
      obtain ⟨F_7, rfl, e9, hp⟩ := hq
      rw [e9] at hH
      have hH : Hp G (FA S s.heap.size) s.heap (wI S F_7) H locs := hH
      refine W.eq (g2 := F0 m 27 ls []) rfl ?_
      refine lv_iconst (pc := 27) (v := 0) hx hb dX12_inLead_27 (by decide) ?_
      refine lv_istore_n (pc := 28) (lv' := [(3, .int 0), (0, .ref th), (1, .int p0), (2, .int p1)]) hx hb dX12_inLead_28 rfl hl (by decide) rfl (fun ls hl => ?_)
      obtain ⟨I_8, ⟨k0_8, h0_8⟩, hst_8⟩ := hp
      have kl_8 : ∀ (n_8 : Nat) (x3_9 : Int32) (H : Heap) (locs : List Loc) (ls : Array Slot), I_8 n_8 x3_9 → Hp G (FA S s.heap.size) s.heap (wI S F_7) H locs → lv_has ls 4 [(0, .ref th), (1, .int p0), (2, .int p1), (3, .int x3_9)] → Wm G p l e { frames := 4, cells := 0, slots := 0, locals := 95 } s m args below meth c S QQ 0 0 H locs 0 0 (F0 m 29 ls []) := by
        intro n_8
        induction n_8 using Nat.strongRecOn with
        | ind n_8 ih_8 =>
          intro x3_9 H locs ls hq9 hH hl
          have hp := hst_8 n_8 x3_9 hq9
          refine lv_iload_n (pc := 29) hx hb dX12_inLead_29 rfl (lv_at hl 3 rfl) ?_
          refine lv_aload_n (pc := 30) hx hb dX12_inLead_30 rfl (lv_at hl 0 rfl) ?_
          refine lv_iload_n (pc := 31) hx hb dX12_inLead_31 rfl (lv_at hl 1 rfl) ?_
          refine sx_V (pc := 32) (As := [.int p0]) (rest := [.int x3_9]) B hH hl.1 (C_X12_changesOf G l th p0 _ _ hp) mi_X12_changesOf coX12 hk_th w_1749 w_87 w_1747 rfl rfl ⟨Nat.le_of_ble_eq_true rfl, Nat.le_of_ble_eq_true rfl⟩ (Nat.le_of_ble_eq_true rfl) ⟨Nat.le_of_ble_eq_true rfl, Nat.le_of_ble_eq_true rfl⟩ dX12_inLead_32 (fun v S1 H locs hq hH => ?_)
          obtain ⟨r_10, rfl, e9, hp⟩ := hq
          rw [e9] at hH
          refine W.eq (g2 := F0 m 35 ls [.int r_10, .int x3_9]) rfl ?_
          refine lv_icmp_ge (pc := 35) (tgt := 62) hx hb dX12_inLead_35 (by decide) (fun cc_11 => ?_) (fun cc_11 => ?_)
          · have hp := hp.1 cc_11
            refine lv_aload_n (pc := 62) hx hb dX12_inLead_62 rfl (lv_at hl 0 rfl) ?_
            refine lv_bipush (pc := 63) (v := 6) hx hb dX12_inLead_63 (by decide) ?_
            refine sx_V (pc := 65) (As := [.int 6]) (rest := []) B hH hl.1 (C_X12_refuse G l th 6 _ _ hp) mi_X12_refuse coX12 hk_th w_1539 w_51 w_1537 rfl rfl ⟨Nat.le_of_ble_eq_true rfl, Nat.le_of_ble_eq_true rfl⟩ (Nat.le_of_ble_eq_true rfl) ⟨Nat.le_of_ble_eq_true rfl, Nat.le_of_ble_eq_true rfl⟩ dX12_inLead_65 (fun v S1 H locs hq hH => ?_)
            obtain ⟨r_12, F_12, rfl, e9, hp⟩ := hq
            rw [e9] at hH
            have hH : Hp G (FA S s.heap.size) s.heap (wI S F_12) H locs := hH
            refine W.eq (g2 := F0 m 68 ls [.int r_12]) rfl ?_
            exact sx_iret (pc := 68) B hH hr hlk (by rw [← hQQ]; exact ⟨_, F_12, rfl, rfl, hp⟩) (Nat.le_of_ble_eq_true rfl) (Nat.le_of_ble_eq_true rfl) dX12_inLead_68
          · have hp := hp.2 cc_11
            refine lv_aload_n (pc := 38) hx hb dX12_inLead_38 rfl (lv_at hl 0 rfl) ?_
            refine sx_getR (pc := 39) (j := 26) B hH hk_th coX12 rfl w_1330 rfl dX12_inLead_39 ?_
            refine W.eq (g2 := F0 m 42 ls [va_rf (gR S th 26)]) rfl ?_
            obtain ⟨a_13, ha_13, hp⟩ := hp
            refine sx_nonnull (x := a_13) ha_13 ?_
            refine lv_iload_n (pc := 42) hx hb dX12_inLead_42 rfl (lv_at hl 3 rfl) ?_
            obtain ⟨hk_14, hp⟩ := hp
            obtain ⟨hn_15, hp⟩ := hp
            refine sx_iald (pc := 43) B hH hk_14 hn_15 dX12_inLead_43 ?_
            refine W.eq (g2 := F0 m 44 ls [.int (F_7 a_13 x3_9.toNatClampNeg)]) rfl ?_
            refine lv_iload_n (pc := 44) hx hb dX12_inLead_44 rfl (lv_at hl 2 rfl) ?_
            refine lv_icmp_ne (pc := 45) (tgt := 56) hx hb dX12_inLead_45 (by decide) (fun cc_16 => ?_) (fun cc_16 => ?_)
            · have hp := hp.1 cc_16
              obtain ⟨v_17, ev_17⟩ : ∃ y : Int32, y = x3_9 + 1 := ⟨_, rfl⟩
              have hp := hp v_17 ev_17
              refine lv_iinc (pc := 56) (v := v_17) (lv' := [(3, .int v_17), (0, .ref th), (1, .int p0), (2, .int p1)]) hx hb dX12_inLead_56 hl (k := 3) rfl (by rw [ev_17]; rfl) (by decide) rfl (fun ls hl => ?_)
              refine lv_goto (pc := 59) (tgt := 29) hx hb dX12_inLead_59 (by decide) ?_
              obtain ⟨k9, hlt9, hp⟩ := hp
              exact ih_8 k9 hlt9 _ _ _ _ hp hH (lv_sub hl [1, 2, 3, 0] rfl)
            · have hp := hp.2 cc_16
              refine lv_aload_n (pc := 48) hx hb dX12_inLead_48 rfl (lv_at hl 0 rfl) ?_
              refine lv_iload_n (pc := 49) hx hb dX12_inLead_49 rfl (lv_at hl 3 rfl) ?_
              refine lv_iconst (pc := 50) (v := 1) hx hb dX12_inLead_50 (by decide) ?_
              refine lv_iadd (pc := 51) hx hb dX12_inLead_51 ?_
              refine sx_V (pc := 52) (As := [.int (x3_9 + 1)]) (rest := []) B hH hl.1 (C_X12_gives G l th (x3_9 + 1) _ _ hp) mi_X12_gives coX12 hk_th w_1617 w_69 w_1615 rfl rfl ⟨Nat.le_of_ble_eq_true rfl, Nat.le_of_ble_eq_true rfl⟩ (Nat.le_of_ble_eq_true rfl) ⟨Nat.le_of_ble_eq_true rfl, Nat.le_of_ble_eq_true rfl⟩ dX12_inLead_52 (fun v S1 H locs hq hH => ?_)
              obtain ⟨r_18, F_18, rfl, e9, hp⟩ := hq
              rw [e9] at hH
              have hH : Hp G (FA S s.heap.size) s.heap (wI S F_18) H locs := hH
              refine W.eq (g2 := F0 m 55 ls [.int r_18]) rfl ?_
              exact sx_iret (pc := 55) B hH hr hlk (by rw [← hQQ]; exact ⟨_, F_18, rfl, rfl, hp⟩) (Nat.le_of_ble_eq_true rfl) (Nat.le_of_ble_eq_true rfl) dX12_inLead_55
      exact kl_8 k0_8 _ _ _ _ h0_8 hH (lv_sub hl [1, 2, 3, 0] rfl)
    · have hp := hp.2 cc_6
      exact kj_3  _ _ _ hp hH (lv_sub hl [0] rfl)
theorem dX12_leadTrue_0 : decode cX12_leadTrue 0 = .ok (.aload_n 0, 1) := by decide +kernel
theorem dX12_leadTrue_1 : decode cX12_leadTrue 1 = .ok (.iload_n 1, 1) := by decide +kernel
theorem dX12_leadTrue_2 : decode cX12_leadTrue 2 = .ok (.invokevirtual 317, 3) := by decide +kernel
theorem dX12_leadTrue_5 : decode cX12_leadTrue 5 = .ok (.ifCond .ne 9, 3) := by decide +kernel
theorem dX12_leadTrue_8 : decode cX12_leadTrue 8 = .ok (.aload_n 0, 1) := by decide +kernel
theorem dX12_leadTrue_9 : decode cX12_leadTrue 9 = .ok (.iconst 1, 1) := by decide +kernel
theorem dX12_leadTrue_10 : decode cX12_leadTrue 10 = .ok (.invokevirtual 105, 3) := by decide +kernel
theorem dX12_leadTrue_13 : decode cX12_leadTrue 13 = .ok (.ireturn, 1) := by decide +kernel
theorem dX12_leadTrue_14 : decode cX12_leadTrue 14 = .ok (.aload_n 0, 1) := by decide +kernel
theorem dX12_leadTrue_15 : decode cX12_leadTrue 15 = .ok (.iload_n 1, 1) := by decide +kernel
theorem dX12_leadTrue_16 : decode cX12_leadTrue 16 = .ok (.invokevirtual 330, 3) := by decide +kernel
theorem dX12_leadTrue_19 : decode cX12_leadTrue 19 = .ok (.iconst 0, 1) := by decide +kernel
theorem dX12_leadTrue_20 : decode cX12_leadTrue 20 = .ok (.istore_n 2, 1) := by decide +kernel
theorem dX12_leadTrue_21 : decode cX12_leadTrue 21 = .ok (.iload_n 2, 1) := by decide +kernel
theorem dX12_leadTrue_22 : decode cX12_leadTrue 22 = .ok (.aload_n 0, 1) := by decide +kernel
theorem dX12_leadTrue_23 : decode cX12_leadTrue 23 = .ok (.iload_n 1, 1) := by decide +kernel
theorem dX12_leadTrue_24 : decode cX12_leadTrue 24 = .ok (.invokevirtual 314, 3) := by decide +kernel
theorem dX12_leadTrue_27 : decode cX12_leadTrue 27 = .ok (.if_icmp .ge 43, 3) := by decide +kernel
theorem dX12_leadTrue_30 : decode cX12_leadTrue 30 = .ok (.iconst 0, 1) := by decide +kernel
theorem dX12_leadTrue_31 : decode cX12_leadTrue 31 = .ok (.istore_n 3, 1) := by decide +kernel
theorem dX12_leadTrue_32 : decode cX12_leadTrue 32 = .ok (.iload_n 3, 1) := by decide +kernel
theorem dX12_leadTrue_33 : decode cX12_leadTrue 33 = .ok (.iload_n 2, 1) := by decide +kernel
theorem dX12_leadTrue_34 : decode cX12_leadTrue 34 = .ok (.if_icmp .ge 30, 3) := by decide +kernel
theorem dX12_leadTrue_37 : decode cX12_leadTrue 37 = .ok (.aload_n 0, 1) := by decide +kernel
theorem dX12_leadTrue_38 : decode cX12_leadTrue 38 = .ok (.getfield 56, 3) := by decide +kernel
theorem dX12_leadTrue_41 : decode cX12_leadTrue 41 = .ok (.iload_n 3, 1) := by decide +kernel
theorem dX12_leadTrue_42 : decode cX12_leadTrue 42 = .ok (.iaload, 1) := by decide +kernel
theorem dX12_leadTrue_43 : decode cX12_leadTrue 43 = .ok (.aload_n 0, 1) := by decide +kernel
theorem dX12_leadTrue_44 : decode cX12_leadTrue 44 = .ok (.getfield 56, 3) := by decide +kernel
theorem dX12_leadTrue_47 : decode cX12_leadTrue 47 = .ok (.iload_n 2, 1) := by decide +kernel
theorem dX12_leadTrue_48 : decode cX12_leadTrue 48 = .ok (.iaload, 1) := by decide +kernel
theorem dX12_leadTrue_49 : decode cX12_leadTrue 49 = .ok (.if_icmp .ne 9, 3) := by decide +kernel
theorem dX12_leadTrue_52 : decode cX12_leadTrue 52 = .ok (.aload_n 0, 1) := by decide +kernel
theorem dX12_leadTrue_53 : decode cX12_leadTrue 53 = .ok (.iconst 0, 1) := by decide +kernel
theorem dX12_leadTrue_54 : decode cX12_leadTrue 54 = .ok (.invokevirtual 109, 3) := by decide +kernel
theorem dX12_leadTrue_57 : decode cX12_leadTrue 57 = .ok (.ireturn, 1) := by decide +kernel
theorem dX12_leadTrue_58 : decode cX12_leadTrue 58 = .ok (.iinc 3 1, 3) := by decide +kernel
theorem dX12_leadTrue_61 : decode cX12_leadTrue 61 = .ok (.goto (-29), 3) := by decide +kernel
theorem dX12_leadTrue_64 : decode cX12_leadTrue 64 = .ok (.iinc 2 1, 3) := by decide +kernel
theorem dX12_leadTrue_67 : decode cX12_leadTrue 67 = .ok (.goto (-46), 3) := by decide +kernel
theorem dX12_leadTrue_70 : decode cX12_leadTrue 70 = .ok (.aload_n 0, 1) := by decide +kernel
theorem dX12_leadTrue_71 : decode cX12_leadTrue 71 = .ok (.iconst 1, 1) := by decide +kernel
theorem dX12_leadTrue_72 : decode cX12_leadTrue 72 = .ok (.invokevirtual 109, 3) := by decide +kernel
theorem dX12_leadTrue_75 : decode cX12_leadTrue 75 = .ok (.ireturn, 1) := by decide +kernel
theorem mi_X12_leadTrue : MI yX12_leadTrue cX12_leadTrue 4 (some FieldType.int) 1 := ⟨w_1797, w_118, by decide +kernel, by decide +kernel, by decide +kernel⟩
set_option maxRecDepth 100000 in
set_option maxHeartbeats 4000000 in
theorem C_X12_leadTrue (G : GG) (l : Launch) (th : Nat) (p0 : Int32) (S : St) (Q : Int32 → (Nat → Nat → Int32) → Prop) (hp : P_X12_leadTrue th p0 S Q) : Ctr G l yX12_leadTrue cX12_leadTrue 4 (some FieldType.int) 4 95 0 0 [.ref th, .int p0] S (fun (v : Option Value) (S9 : St) => ∃ (r : Int32) (I9 : Nat → Nat → Int32), v = some (.int r) ∧ S9 = wI S I9 ∧ Q r I9) := by
  generalize hQQ : (fun (v : Option Value) (S9 : St) => ∃ (r : Int32) (I9 : Nat → Nat → Int32), v = some (.int r) ∧ S9 = wI S I9 ∧ Q r I9) = QQ
  unfold P_X12_leadTrue at hp
  refine Ctr.of (by decide) (Nat.le_of_ble_eq_true rfl) ?_
  intro p e s m args below meth c ls B hr hlk hin hl hH
  generalize hlocs0 : ([] : List Loc) = locs at hH ⊢
  have hx := B.1
  have hb := B.2.1
  have hl : lv_has ls 4 [(0, .ref th), (1, .int p0)] := hl
  obtain ⟨hk_th, hp⟩ := hp
  refine lv_aload_n (pc := 0) hx hb dX12_leadTrue_0 rfl (lv_at hl 0 rfl) ?_
  refine lv_iload_n (pc := 1) hx hb dX12_leadTrue_1 rfl (lv_at hl 1 rfl) ?_
  refine sx_V (pc := 2) (As := [.int p0]) (rest := []) B hH hl.1 (C_X12_isMethod G l th p0 _ _ hp) mi_X12_isMethod coX12 hk_th w_1745 w_86 w_1743 rfl rfl ⟨Nat.le_of_ble_eq_true rfl, Nat.le_of_ble_eq_true rfl⟩ (Nat.le_of_ble_eq_true rfl) ⟨Nat.le_of_ble_eq_true rfl, Nat.le_of_ble_eq_true rfl⟩ dX12_leadTrue_2 (fun v S1 H locs hq hH => ?_)
  obtain ⟨r_1, rfl, e9, hp⟩ := hq
  rw [e9] at hH
  refine W.eq (g2 := F0 m 5 ls [.int r_1]) rfl ?_
  refine lv_if_ne (pc := 5) (tgt := 14) hx hb dX12_leadTrue_5 (by decide) (fun cc_2 => ?_) (fun cc_2 => ?_)
  · have hp := hp.1 cc_2
    refine lv_aload_n (pc := 14) hx hb dX12_leadTrue_14 rfl (lv_at hl 0 rfl) ?_
    refine lv_iload_n (pc := 15) hx hb dX12_leadTrue_15 rfl (lv_at hl 1 rfl) ?_
    refine sx_V (pc := 16) (As := [.int p0]) (rest := []) B hH hl.1 (C_X12_laysLead G l th p0 _ _ hp) mi_X12_laysLead coX12 hk_th w_1792 w_90 w_1790 rfl rfl ⟨Nat.le_of_ble_eq_true rfl, Nat.le_of_ble_eq_true rfl⟩ (Nat.le_of_ble_eq_true rfl) ⟨Nat.le_of_ble_eq_true rfl, Nat.le_of_ble_eq_true rfl⟩ dX12_leadTrue_16 (fun v S1 H locs hq hH => ?_)
    obtain ⟨F_3, rfl, e9, hp⟩ := hq
    rw [e9] at hH
    have hH : Hp G (FA S s.heap.size) s.heap (wI S F_3) H locs := hH
    refine W.eq (g2 := F0 m 19 ls []) rfl ?_
    refine lv_iconst (pc := 19) (v := 0) hx hb dX12_leadTrue_19 (by decide) ?_
    refine lv_istore_n (pc := 20) (lv' := [(2, .int 0), (0, .ref th), (1, .int p0)]) hx hb dX12_leadTrue_20 rfl hl (by decide) rfl (fun ls hl => ?_)
    obtain ⟨I_4, ⟨k0_4, h0_4⟩, hst_4⟩ := hp
    have kl_4 : ∀ (n_4 : Nat) (x2_5 : Int32) (H : Heap) (locs : List Loc) (ls : Array Slot), I_4 n_4 x2_5 → Hp G (FA S s.heap.size) s.heap (wI S F_3) H locs → lv_has ls 4 [(0, .ref th), (1, .int p0), (2, .int x2_5)] → Wm G p l e { frames := 4, cells := 0, slots := 0, locals := 95 } s m args below meth c S QQ 0 0 H locs 0 0 (F0 m 21 ls []) := by
      intro n_4
      induction n_4 using Nat.strongRecOn with
      | ind n_4 ih_4 =>
        intro x2_5 H locs ls hq9 hH hl
        have hp := hst_4 n_4 x2_5 hq9
        refine lv_iload_n (pc := 21) hx hb dX12_leadTrue_21 rfl (lv_at hl 2 rfl) ?_
        refine lv_aload_n (pc := 22) hx hb dX12_leadTrue_22 rfl (lv_at hl 0 rfl) ?_
        refine lv_iload_n (pc := 23) hx hb dX12_leadTrue_23 rfl (lv_at hl 1 rfl) ?_
        refine sx_V (pc := 24) (As := [.int p0]) (rest := [.int x2_5]) B hH hl.1 (C_X12_changesOf G l th p0 _ _ hp) mi_X12_changesOf coX12 hk_th w_1749 w_87 w_1747 rfl rfl ⟨Nat.le_of_ble_eq_true rfl, Nat.le_of_ble_eq_true rfl⟩ (Nat.le_of_ble_eq_true rfl) ⟨Nat.le_of_ble_eq_true rfl, Nat.le_of_ble_eq_true rfl⟩ dX12_leadTrue_24 (fun v S1 H locs hq hH => ?_)
        obtain ⟨r_6, rfl, e9, hp⟩ := hq
        rw [e9] at hH
        refine W.eq (g2 := F0 m 27 ls [.int r_6, .int x2_5]) rfl ?_
        refine lv_icmp_ge (pc := 27) (tgt := 70) hx hb dX12_leadTrue_27 (by decide) (fun cc_7 => ?_) (fun cc_7 => ?_)
        · have hp := hp.1 cc_7
          refine lv_aload_n (pc := 70) hx hb dX12_leadTrue_70 rfl (lv_at hl 0 rfl) ?_
          refine lv_iconst (pc := 71) (v := 1) hx hb dX12_leadTrue_71 (by decide) ?_
          refine sx_V (pc := 72) (As := [.int 1]) (rest := []) B hH hl.1 (C_X12_gives G l th 1 _ _ hp) mi_X12_gives coX12 hk_th w_1617 w_69 w_1615 rfl rfl ⟨Nat.le_of_ble_eq_true rfl, Nat.le_of_ble_eq_true rfl⟩ (Nat.le_of_ble_eq_true rfl) ⟨Nat.le_of_ble_eq_true rfl, Nat.le_of_ble_eq_true rfl⟩ dX12_leadTrue_72 (fun v S1 H locs hq hH => ?_)
          obtain ⟨r_8, F_8, rfl, e9, hp⟩ := hq
          rw [e9] at hH
          have hH : Hp G (FA S s.heap.size) s.heap (wI S F_8) H locs := hH
          refine W.eq (g2 := F0 m 75 ls [.int r_8]) rfl ?_
          exact sx_iret (pc := 75) B hH hr hlk (by rw [← hQQ]; exact ⟨_, F_8, rfl, rfl, hp⟩) (Nat.le_of_ble_eq_true rfl) (Nat.le_of_ble_eq_true rfl) dX12_leadTrue_75
        · have hp := hp.2 cc_7
          refine lv_iconst (pc := 30) (v := 0) hx hb dX12_leadTrue_30 (by decide) ?_
          refine lv_istore_n (pc := 31) (lv' := [(3, .int 0), (0, .ref th), (1, .int p0), (2, .int x2_5)]) hx hb dX12_leadTrue_31 rfl hl (by decide) rfl (fun ls hl => ?_)
          obtain ⟨I_9, ⟨k0_9, h0_9⟩, hst_9⟩ := hp
          have kl_9 : ∀ (n_9 : Nat) (x3_10 : Int32) (H : Heap) (locs : List Loc) (ls : Array Slot), I_9 n_9 x3_10 → Hp G (FA S s.heap.size) s.heap (wI S F_3) H locs → lv_has ls 4 [(0, .ref th), (1, .int p0), (2, .int x2_5), (3, .int x3_10)] → Wm G p l e { frames := 4, cells := 0, slots := 0, locals := 95 } s m args below meth c S QQ 0 0 H locs 0 0 (F0 m 32 ls []) := by
            intro n_9
            induction n_9 using Nat.strongRecOn with
            | ind n_9 ih_9 =>
              intro x3_10 H locs ls hq9 hH hl
              have hp := hst_9 n_9 x3_10 hq9
              refine lv_iload_n (pc := 32) hx hb dX12_leadTrue_32 rfl (lv_at hl 3 rfl) ?_
              refine lv_iload_n (pc := 33) hx hb dX12_leadTrue_33 rfl (lv_at hl 2 rfl) ?_
              refine lv_icmp_ge (pc := 34) (tgt := 64) hx hb dX12_leadTrue_34 (by decide) (fun cc_11 => ?_) (fun cc_11 => ?_)
              · have hp := hp.1 cc_11
                obtain ⟨v_12, ev_12⟩ : ∃ y : Int32, y = x2_5 + 1 := ⟨_, rfl⟩
                have hp := hp v_12 ev_12
                refine lv_iinc (pc := 64) (v := v_12) (lv' := [(2, .int v_12), (0, .ref th), (1, .int p0), (3, .int x3_10)]) hx hb dX12_leadTrue_64 hl (k := 2) rfl (by rw [ev_12]; rfl) (by decide) rfl (fun ls hl => ?_)
                refine lv_goto (pc := 67) (tgt := 21) hx hb dX12_leadTrue_67 (by decide) ?_
                obtain ⟨k9, hlt9, hp⟩ := hp
                exact ih_4 k9 hlt9 _ _ _ _ hp hH (lv_sub hl [1, 2, 0] rfl)
              · have hp := hp.2 cc_11
                refine lv_aload_n (pc := 37) hx hb dX12_leadTrue_37 rfl (lv_at hl 0 rfl) ?_
                refine sx_getR (pc := 38) (j := 26) B hH hk_th coX12 rfl w_1330 rfl dX12_leadTrue_38 ?_
                refine W.eq (g2 := F0 m 41 ls [va_rf (gR S th 26)]) rfl ?_
                obtain ⟨a_13, ha_13, hp⟩ := hp
                refine sx_nonnull (x := a_13) ha_13 ?_
                refine lv_iload_n (pc := 41) hx hb dX12_leadTrue_41 rfl (lv_at hl 3 rfl) ?_
                obtain ⟨hk_14, hp⟩ := hp
                obtain ⟨hn_15, hp⟩ := hp
                refine sx_iald (pc := 42) B hH hk_14 hn_15 dX12_leadTrue_42 ?_
                refine W.eq (g2 := F0 m 43 ls [.int (F_3 a_13 x3_10.toNatClampNeg)]) rfl ?_
                refine lv_aload_n (pc := 43) hx hb dX12_leadTrue_43 rfl (lv_at hl 0 rfl) ?_
                refine sx_getR (pc := 44) (j := 26) B hH hk_th coX12 rfl w_1330 rfl dX12_leadTrue_44 ?_
                refine W.eq (g2 := F0 m 47 ls [va_rf (gR S th 26), .int (F_3 a_13 x3_10.toNatClampNeg)]) rfl ?_
                refine sx_nonnull (x := a_13) ha_13 ?_
                refine lv_iload_n (pc := 47) hx hb dX12_leadTrue_47 rfl (lv_at hl 2 rfl) ?_
                obtain ⟨hn_16, hp⟩ := hp
                refine sx_iald (pc := 48) B hH hk_14 hn_16 dX12_leadTrue_48 ?_
                refine W.eq (g2 := F0 m 49 ls [.int (F_3 a_13 x2_5.toNatClampNeg), .int (F_3 a_13 x3_10.toNatClampNeg)]) rfl ?_
                refine lv_icmp_ne (pc := 49) (tgt := 58) hx hb dX12_leadTrue_49 (by decide) (fun cc_17 => ?_) (fun cc_17 => ?_)
                · have hp := hp.1 cc_17
                  obtain ⟨v_18, ev_18⟩ : ∃ y : Int32, y = x3_10 + 1 := ⟨_, rfl⟩
                  have hp := hp v_18 ev_18
                  refine lv_iinc (pc := 58) (v := v_18) (lv' := [(3, .int v_18), (0, .ref th), (1, .int p0), (2, .int x2_5)]) hx hb dX12_leadTrue_58 hl (k := 3) rfl (by rw [ev_18]; rfl) (by decide) rfl (fun ls hl => ?_)
                  refine lv_goto (pc := 61) (tgt := 32) hx hb dX12_leadTrue_61 (by decide) ?_
                  obtain ⟨k9, hlt9, hp⟩ := hp
                  exact ih_9 k9 hlt9 _ _ _ _ hp hH (lv_sub hl [1, 2, 3, 0] rfl)
                · have hp := hp.2 cc_17
                  refine lv_aload_n (pc := 52) hx hb dX12_leadTrue_52 rfl (lv_at hl 0 rfl) ?_
                  refine lv_iconst (pc := 53) (v := 0) hx hb dX12_leadTrue_53 (by decide) ?_
                  refine sx_V (pc := 54) (As := [.int 0]) (rest := []) B hH hl.1 (C_X12_gives G l th 0 _ _ hp) mi_X12_gives coX12 hk_th w_1617 w_69 w_1615 rfl rfl ⟨Nat.le_of_ble_eq_true rfl, Nat.le_of_ble_eq_true rfl⟩ (Nat.le_of_ble_eq_true rfl) ⟨Nat.le_of_ble_eq_true rfl, Nat.le_of_ble_eq_true rfl⟩ dX12_leadTrue_54 (fun v S1 H locs hq hH => ?_)
                  obtain ⟨r_19, F_19, rfl, e9, hp⟩ := hq
                  rw [e9] at hH
                  have hH : Hp G (FA S s.heap.size) s.heap (wI S F_19) H locs := hH
                  refine W.eq (g2 := F0 m 57 ls [.int r_19]) rfl ?_
                  exact sx_iret (pc := 57) B hH hr hlk (by rw [← hQQ]; exact ⟨_, F_19, rfl, rfl, hp⟩) (Nat.le_of_ble_eq_true rfl) (Nat.le_of_ble_eq_true rfl) dX12_leadTrue_57
          exact kl_9 k0_9 _ _ _ _ h0_9 hH (lv_sub hl [1, 2, 3, 0] rfl)
    exact kl_4 k0_4 _ _ _ _ h0_4 hH (lv_sub hl [1, 2, 0] rfl)
  · have hp := hp.2 cc_2
    refine lv_aload_n (pc := 8) hx hb dX12_leadTrue_8 rfl (lv_at hl 0 rfl) ?_
    refine lv_iconst (pc := 9) (v := 1) hx hb dX12_leadTrue_9 (by decide) ?_
    refine sx_V (pc := 10) (As := [.int 1]) (rest := []) B hH hl.1 (C_X12_refuse G l th 1 _ _ hp) mi_X12_refuse coX12 hk_th w_1539 w_51 w_1537 rfl rfl ⟨Nat.le_of_ble_eq_true rfl, Nat.le_of_ble_eq_true rfl⟩ (Nat.le_of_ble_eq_true rfl) ⟨Nat.le_of_ble_eq_true rfl, Nat.le_of_ble_eq_true rfl⟩ dX12_leadTrue_10 (fun v S1 H locs hq hH => ?_)
    obtain ⟨r_20, F_20, rfl, e9, hp⟩ := hq
    rw [e9] at hH
    have hH : Hp G (FA S s.heap.size) s.heap (wI S F_20) H locs := hH
    refine W.eq (g2 := F0 m 13 ls [.int r_20]) rfl ?_
    exact sx_iret (pc := 13) B hH hr hlk (by rw [← hQQ]; exact ⟨_, F_20, rfl, rfl, hp⟩) (Nat.le_of_ble_eq_true rfl) (Nat.le_of_ble_eq_true rfl) dX12_leadTrue_13
theorem dX12_marksFalse_0 : decode cX12_marksFalse 0 = .ok (.aload_n 0, 1) := by decide +kernel
theorem dX12_marksFalse_1 : decode cX12_marksFalse 1 = .ok (.iload_n 1, 1) := by decide +kernel
theorem dX12_marksFalse_2 : decode cX12_marksFalse 2 = .ok (.invokevirtual 330, 3) := by decide +kernel
theorem dX12_marksFalse_5 : decode cX12_marksFalse 5 = .ok (.aload_n 0, 1) := by decide +kernel
theorem dX12_marksFalse_6 : decode cX12_marksFalse 6 = .ok (.dup, 1) := by decide +kernel
theorem dX12_marksFalse_7 : decode cX12_marksFalse 7 = .ok (.getfield 333, 3) := by decide +kernel
theorem dX12_marksFalse_10 : decode cX12_marksFalse 10 = .ok (.iconst 1, 1) := by decide +kernel
theorem dX12_marksFalse_11 : decode cX12_marksFalse 11 = .ok (.iadd, 1) := by decide +kernel
theorem dX12_marksFalse_12 : decode cX12_marksFalse 12 = .ok (.putfield 333, 3) := by decide +kernel
theorem dX12_marksFalse_15 : decode cX12_marksFalse 15 = .ok (.iconst 0, 1) := by decide +kernel
theorem dX12_marksFalse_16 : decode cX12_marksFalse 16 = .ok (.istore_n 2, 1) := by decide +kernel
theorem dX12_marksFalse_17 : decode cX12_marksFalse 17 = .ok (.iconst 0, 1) := by decide +kernel
theorem dX12_marksFalse_18 : decode cX12_marksFalse 18 = .ok (.istore_n 3, 1) := by decide +kernel
theorem dX12_marksFalse_19 : decode cX12_marksFalse 19 = .ok (.iload_n 3, 1) := by decide +kernel
theorem dX12_marksFalse_20 : decode cX12_marksFalse 20 = .ok (.aload_n 0, 1) := by decide +kernel
theorem dX12_marksFalse_21 : decode cX12_marksFalse 21 = .ok (.iload_n 1, 1) := by decide +kernel
theorem dX12_marksFalse_22 : decode cX12_marksFalse 22 = .ok (.invokevirtual 314, 3) := by decide +kernel
theorem dX12_marksFalse_25 : decode cX12_marksFalse 25 = .ok (.if_icmp .ge 83, 3) := by decide +kernel
theorem dX12_marksFalse_28 : decode cX12_marksFalse 28 = .ok (.iconst 0, 1) := by decide +kernel
theorem dX12_marksFalse_29 : decode cX12_marksFalse 29 = .ok (.istore 4, 2) := by decide +kernel
theorem dX12_marksFalse_31 : decode cX12_marksFalse 31 = .ok (.iload 4, 2) := by decide +kernel
theorem dX12_marksFalse_33 : decode cX12_marksFalse 33 = .ok (.aload_n 0, 1) := by decide +kernel
theorem dX12_marksFalse_34 : decode cX12_marksFalse 34 = .ok (.iload_n 1, 1) := by decide +kernel
theorem dX12_marksFalse_35 : decode cX12_marksFalse 35 = .ok (.invokevirtual 314, 3) := by decide +kernel
theorem dX12_marksFalse_38 : decode cX12_marksFalse 38 = .ok (.if_icmp .ge 64, 3) := by decide +kernel
theorem dX12_marksFalse_41 : decode cX12_marksFalse 41 = .ok (.aload_n 0, 1) := by decide +kernel
theorem dX12_marksFalse_42 : decode cX12_marksFalse 42 = .ok (.aload_n 0, 1) := by decide +kernel
theorem dX12_marksFalse_43 : decode cX12_marksFalse 43 = .ok (.getfield 56, 3) := by decide +kernel
theorem dX12_marksFalse_46 : decode cX12_marksFalse 46 = .ok (.iload_n 3, 1) := by decide +kernel
theorem dX12_marksFalse_47 : decode cX12_marksFalse 47 = .ok (.iaload, 1) := by decide +kernel
theorem dX12_marksFalse_48 : decode cX12_marksFalse 48 = .ok (.aload_n 0, 1) := by decide +kernel
theorem dX12_marksFalse_49 : decode cX12_marksFalse 49 = .ok (.getfield 59, 3) := by decide +kernel
theorem dX12_marksFalse_52 : decode cX12_marksFalse 52 = .ok (.iload 4, 2) := by decide +kernel
theorem dX12_marksFalse_54 : decode cX12_marksFalse 54 = .ok (.iaload, 1) := by decide +kernel
theorem dX12_marksFalse_55 : decode cX12_marksFalse 55 = .ok (.invokevirtual 287, 3) := by decide +kernel
theorem dX12_marksFalse_58 : decode cX12_marksFalse 58 = .ok (.istore 5, 2) := by decide +kernel
theorem dX12_marksFalse_60 : decode cX12_marksFalse 60 = .ok (.iload 5, 2) := by decide +kernel
theorem dX12_marksFalse_62 : decode cX12_marksFalse 62 = .ok (.ifCond .eq 34, 3) := by decide +kernel
theorem dX12_marksFalse_65 : decode cX12_marksFalse 65 = .ok (.aload_n 0, 1) := by decide +kernel
theorem dX12_marksFalse_66 : decode cX12_marksFalse 66 = .ok (.getfield 63, 3) := by decide +kernel
theorem dX12_marksFalse_69 : decode cX12_marksFalse 69 = .ok (.iload 5, 2) := by decide +kernel
theorem dX12_marksFalse_71 : decode cX12_marksFalse 71 = .ok (.iaload, 1) := by decide +kernel
theorem dX12_marksFalse_72 : decode cX12_marksFalse 72 = .ok (.aload_n 0, 1) := by decide +kernel
theorem dX12_marksFalse_73 : decode cX12_marksFalse 73 = .ok (.getfield 333, 3) := by decide +kernel
theorem dX12_marksFalse_76 : decode cX12_marksFalse 76 = .ok (.if_icmp .ne 6, 3) := by decide +kernel
theorem dX12_marksFalse_79 : decode cX12_marksFalse 79 = .ok (.goto 17, 3) := by decide +kernel
theorem dX12_marksFalse_82 : decode cX12_marksFalse 82 = .ok (.aload_n 0, 1) := by decide +kernel
theorem dX12_marksFalse_83 : decode cX12_marksFalse 83 = .ok (.getfield 63, 3) := by decide +kernel
theorem dX12_marksFalse_86 : decode cX12_marksFalse 86 = .ok (.iload 5, 2) := by decide +kernel
theorem dX12_marksFalse_88 : decode cX12_marksFalse 88 = .ok (.aload_n 0, 1) := by decide +kernel
theorem dX12_marksFalse_89 : decode cX12_marksFalse 89 = .ok (.getfield 333, 3) := by decide +kernel
theorem dX12_marksFalse_92 : decode cX12_marksFalse 92 = .ok (.iastore, 1) := by decide +kernel
theorem dX12_marksFalse_93 : decode cX12_marksFalse 93 = .ok (.iinc 2 1, 3) := by decide +kernel
theorem dX12_marksFalse_96 : decode cX12_marksFalse 96 = .ok (.iinc 4 1, 3) := by decide +kernel
theorem dX12_marksFalse_99 : decode cX12_marksFalse 99 = .ok (.goto (-68), 3) := by decide +kernel
theorem dX12_marksFalse_102 : decode cX12_marksFalse 102 = .ok (.iinc 3 1, 3) := by decide +kernel
theorem dX12_marksFalse_105 : decode cX12_marksFalse 105 = .ok (.goto (-86), 3) := by decide +kernel
theorem dX12_marksFalse_108 : decode cX12_marksFalse 108 = .ok (.iload_n 2, 1) := by decide +kernel
theorem dX12_marksFalse_109 : decode cX12_marksFalse 109 = .ok (.ireturn, 1) := by decide +kernel
theorem mi_X12_marksFalse : MI yX12_marksFalse cX12_marksFalse 6 (some FieldType.int) 1 := ⟨w_1805, w_118, by decide +kernel, by decide +kernel, by decide +kernel⟩
set_option maxRecDepth 100000 in
set_option maxHeartbeats 4000000 in
theorem C_X12_marksFalse (G : GG) (l : Launch) (th : Nat) (p0 : Int32) (S : St) (Q : Int32 → (Nat → Nat → Int32) → Prop) (hp : P_X12_marksFalse th p0 S Q) : Ctr G l yX12_marksFalse cX12_marksFalse 6 (some FieldType.int) 4 95 0 0 [.ref th, .int p0] S (fun (v : Option Value) (S9 : St) => ∃ (r : Int32) (I9 : Nat → Nat → Int32), v = some (.int r) ∧ S9 = wI S I9 ∧ Q r I9) := by
  generalize hQQ : (fun (v : Option Value) (S9 : St) => ∃ (r : Int32) (I9 : Nat → Nat → Int32), v = some (.int r) ∧ S9 = wI S I9 ∧ Q r I9) = QQ
  unfold P_X12_marksFalse at hp
  refine Ctr.of (by decide) (Nat.le_of_ble_eq_true rfl) ?_
  intro p e s m args below meth c ls B hr hlk hin hl hH
  generalize hlocs0 : ([] : List Loc) = locs at hH ⊢
  have hx := B.1
  have hb := B.2.1
  have hl : lv_has ls 6 [(0, .ref th), (1, .int p0)] := hl
  obtain ⟨hk_th, hp⟩ := hp
  refine lv_aload_n (pc := 0) hx hb dX12_marksFalse_0 rfl (lv_at hl 0 rfl) ?_
  refine lv_iload_n (pc := 1) hx hb dX12_marksFalse_1 rfl (lv_at hl 1 rfl) ?_
  refine sx_V (pc := 2) (As := [.int p0]) (rest := []) B hH hl.1 (C_X12_laysLead G l th p0 _ _ hp) mi_X12_laysLead coX12 hk_th w_1792 w_90 w_1790 rfl rfl ⟨Nat.le_of_ble_eq_true rfl, Nat.le_of_ble_eq_true rfl⟩ (Nat.le_of_ble_eq_true rfl) ⟨Nat.le_of_ble_eq_true rfl, Nat.le_of_ble_eq_true rfl⟩ dX12_marksFalse_2 (fun v S1 H locs hq hH => ?_)
  obtain ⟨F_1, rfl, e9, hp⟩ := hq
  rw [e9] at hH
  have hH : Hp G (FA S s.heap.size) s.heap (wI S F_1) H locs := hH
  refine W.eq (g2 := F0 m 5 ls []) rfl ?_
  refine lv_aload_n (pc := 5) hx hb dX12_marksFalse_5 rfl (lv_at hl 0 rfl) ?_
  refine lv_dup (pc := 6) hx hb dX12_marksFalse_6 rfl ?_
  refine sx_getI (pc := 7) (j := 29) B hH hk_th coX12 rfl w_1333 rfl dX12_marksFalse_7 ?_
  refine W.eq (g2 := F0 m 10 ls [.int (F_1 th 29), .ref th]) rfl ?_
  refine lv_iconst (pc := 10) (v := 1) hx hb dX12_marksFalse_10 (by decide) ?_
  refine lv_iadd (pc := 11) hx hb dX12_marksFalse_11 ?_
  refine lv_topi (fun v_2 ev_2 => ?_)
  have hp := hp v_2 ev_2
  obtain ⟨F_3, eF_3⟩ : ∃ z : Nat → Nat → Int32, z = upI F_1 th 29 v_2 := ⟨_, rfl⟩
  have hp := hp F_3 eF_3
  refine sx_putI (pc := 12) (j := 29) B hH hk_th coX12 rfl w_1333 rfl (Or.inl rfl) rfl dX12_marksFalse_12 (fun H locs hH => ?_)
  have hH : Hp G (FA S s.heap.size) s.heap (wI S F_3) H locs := by rw [eF_3]; exact hH
  refine lv_iconst (pc := 15) (v := 0) hx hb dX12_marksFalse_15 (by decide) ?_
  refine lv_istore_n (pc := 16) (lv' := [(2, .int 0), (0, .ref th), (1, .int p0)]) hx hb dX12_marksFalse_16 rfl hl (by decide) rfl (fun ls hl => ?_)
  refine lv_iconst (pc := 17) (v := 0) hx hb dX12_marksFalse_17 (by decide) ?_
  refine lv_istore_n (pc := 18) (lv' := [(3, .int 0), (2, .int 0), (0, .ref th), (1, .int p0)]) hx hb dX12_marksFalse_18 rfl hl (by decide) rfl (fun ls hl => ?_)
  obtain ⟨I_4, ⟨k0_4, h0_4⟩, hst_4⟩ := hp
  have kl_4 : ∀ (n_4 : Nat) (x2_5 : Int32) (x3_6 : Int32) (F_7 : Nat → Nat → Int32) (H : Heap) (locs : List Loc) (ls : Array Slot), I_4 n_4 x2_5 x3_6 F_7 → Hp G (FA S s.heap.size) s.heap (wI S F_7) H locs → lv_has ls 6 [(0, .ref th), (1, .int p0), (2, .int x2_5), (3, .int x3_6)] → Wm G p l e { frames := 4, cells := 0, slots := 0, locals := 95 } s m args below meth c S QQ 0 0 H locs 0 0 (F0 m 19 ls []) := by
    intro n_4
    induction n_4 using Nat.strongRecOn with
    | ind n_4 ih_4 =>
      intro x2_5 x3_6 F_7 H locs ls hq9 hH hl
      have hp := hst_4 n_4 x2_5 x3_6 F_7 hq9
      refine lv_iload_n (pc := 19) hx hb dX12_marksFalse_19 rfl (lv_at hl 3 rfl) ?_
      refine lv_aload_n (pc := 20) hx hb dX12_marksFalse_20 rfl (lv_at hl 0 rfl) ?_
      refine lv_iload_n (pc := 21) hx hb dX12_marksFalse_21 rfl (lv_at hl 1 rfl) ?_
      refine sx_V (pc := 22) (As := [.int p0]) (rest := [.int x3_6]) B hH hl.1 (C_X12_changesOf G l th p0 _ _ hp) mi_X12_changesOf coX12 hk_th w_1749 w_87 w_1747 rfl rfl ⟨Nat.le_of_ble_eq_true rfl, Nat.le_of_ble_eq_true rfl⟩ (Nat.le_of_ble_eq_true rfl) ⟨Nat.le_of_ble_eq_true rfl, Nat.le_of_ble_eq_true rfl⟩ dX12_marksFalse_22 (fun v S1 H locs hq hH => ?_)
      obtain ⟨r_8, rfl, e9, hp⟩ := hq
      rw [e9] at hH
      refine W.eq (g2 := F0 m 25 ls [.int r_8, .int x3_6]) rfl ?_
      refine lv_icmp_ge (pc := 25) (tgt := 108) hx hb dX12_marksFalse_25 (by decide) (fun cc_9 => ?_) (fun cc_9 => ?_)
      · have hp := hp.1 cc_9
        refine lv_iload_n (pc := 108) hx hb dX12_marksFalse_108 rfl (lv_at hl 2 rfl) ?_
        exact sx_iret (pc := 109) B hH hr hlk (by rw [← hQQ]; exact ⟨_, F_7, rfl, rfl, hp⟩) (Nat.le_of_ble_eq_true rfl) (Nat.le_of_ble_eq_true rfl) dX12_marksFalse_109
      · have hp := hp.2 cc_9
        refine lv_iconst (pc := 28) (v := 0) hx hb dX12_marksFalse_28 (by decide) ?_
        refine lv_istore (pc := 29) (lv' := [(4, .int 0), (0, .ref th), (1, .int p0), (2, .int x2_5), (3, .int x3_6)]) hx hb dX12_marksFalse_29 hl (by decide) rfl (fun ls hl => ?_)
        obtain ⟨I_10, ⟨k0_10, h0_10⟩, hst_10⟩ := hp
        have kl_10 : ∀ (n_10 : Nat) (x2_11 : Int32) (x4_12 : Int32) (F_13 : Nat → Nat → Int32) (H : Heap) (locs : List Loc) (ls : Array Slot), I_10 n_10 x2_11 x4_12 F_13 → Hp G (FA S s.heap.size) s.heap (wI S F_13) H locs → lv_has ls 6 [(0, .ref th), (1, .int p0), (2, .int x2_11), (3, .int x3_6), (4, .int x4_12)] → Wm G p l e { frames := 4, cells := 0, slots := 0, locals := 95 } s m args below meth c S QQ 0 0 H locs 0 0 (F0 m 31 ls []) := by
          intro n_10
          induction n_10 using Nat.strongRecOn with
          | ind n_10 ih_10 =>
            intro x2_11 x4_12 F_13 H locs ls hq9 hH hl
            have hp := hst_10 n_10 x2_11 x4_12 F_13 hq9
            refine lv_iload (pc := 31) hx hb dX12_marksFalse_31 (lv_at hl 4 rfl) ?_
            refine lv_aload_n (pc := 33) hx hb dX12_marksFalse_33 rfl (lv_at hl 0 rfl) ?_
            refine lv_iload_n (pc := 34) hx hb dX12_marksFalse_34 rfl (lv_at hl 1 rfl) ?_
            refine sx_V (pc := 35) (As := [.int p0]) (rest := [.int x4_12]) B hH hl.1 (C_X12_changesOf G l th p0 _ _ hp) mi_X12_changesOf coX12 hk_th w_1749 w_87 w_1747 rfl rfl ⟨Nat.le_of_ble_eq_true rfl, Nat.le_of_ble_eq_true rfl⟩ (Nat.le_of_ble_eq_true rfl) ⟨Nat.le_of_ble_eq_true rfl, Nat.le_of_ble_eq_true rfl⟩ dX12_marksFalse_35 (fun v S1 H locs hq hH => ?_)
            obtain ⟨r_14, rfl, e9, hp⟩ := hq
            rw [e9] at hH
            refine W.eq (g2 := F0 m 38 ls [.int r_14, .int x4_12]) rfl ?_
            refine lv_icmp_ge (pc := 38) (tgt := 102) hx hb dX12_marksFalse_38 (by decide) (fun cc_15 => ?_) (fun cc_15 => ?_)
            · have hp := hp.1 cc_15
              obtain ⟨v_16, ev_16⟩ : ∃ y : Int32, y = x3_6 + 1 := ⟨_, rfl⟩
              have hp := hp v_16 ev_16
              refine lv_iinc (pc := 102) (v := v_16) (lv' := [(3, .int v_16), (0, .ref th), (1, .int p0), (2, .int x2_11), (4, .int x4_12)]) hx hb dX12_marksFalse_102 hl (k := 3) rfl (by rw [ev_16]; rfl) (by decide) rfl (fun ls hl => ?_)
              refine lv_goto (pc := 105) (tgt := 19) hx hb dX12_marksFalse_105 (by decide) ?_
              obtain ⟨k9, hlt9, hp⟩ := hp
              exact ih_4 k9 hlt9 _ _ _ _ _ _ hp hH (lv_sub hl [1, 2, 3, 0] rfl)
            · have hp := hp.2 cc_15
              refine lv_aload_n (pc := 41) hx hb dX12_marksFalse_41 rfl (lv_at hl 0 rfl) ?_
              refine lv_aload_n (pc := 42) hx hb dX12_marksFalse_42 rfl (lv_at hl 0 rfl) ?_
              refine sx_getR (pc := 43) (j := 26) B hH hk_th coX12 rfl w_1330 rfl dX12_marksFalse_43 ?_
              refine W.eq (g2 := F0 m 46 ls [va_rf (gR S th 26), .ref th]) rfl ?_
              obtain ⟨a_17, ha_17, hp⟩ := hp
              refine sx_nonnull (x := a_17) ha_17 ?_
              refine lv_iload_n (pc := 46) hx hb dX12_marksFalse_46 rfl (lv_at hl 3 rfl) ?_
              obtain ⟨hk_18, hp⟩ := hp
              obtain ⟨hn_19, hp⟩ := hp
              refine sx_iald (pc := 47) B hH hk_18 hn_19 dX12_marksFalse_47 ?_
              refine W.eq (g2 := F0 m 48 ls [.int (F_13 a_17 x3_6.toNatClampNeg), .ref th]) rfl ?_
              refine lv_aload_n (pc := 48) hx hb dX12_marksFalse_48 rfl (lv_at hl 0 rfl) ?_
              refine sx_getR (pc := 49) (j := 27) B hH hk_th coX12 rfl w_1331 rfl dX12_marksFalse_49 ?_
              refine W.eq (g2 := F0 m 52 ls [va_rf (gR S th 27), .int (F_13 a_17 x3_6.toNatClampNeg), .ref th]) rfl ?_
              obtain ⟨a_20, ha_20, hp⟩ := hp
              refine sx_nonnull (x := a_20) ha_20 ?_
              refine lv_iload (pc := 52) hx hb dX12_marksFalse_52 (lv_at hl 4 rfl) ?_
              obtain ⟨hk_21, hp⟩ := hp
              obtain ⟨hn_22, hp⟩ := hp
              refine sx_iald (pc := 54) B hH hk_21 hn_22 dX12_marksFalse_54 ?_
              refine W.eq (g2 := F0 m 55 ls [.int (F_13 a_20 x4_12.toNatClampNeg), .int (F_13 a_17 x3_6.toNatClampNeg), .ref th]) rfl ?_
              refine sx_V (pc := 55) (As := [.int (F_13 a_17 x3_6.toNatClampNeg), .int (F_13 a_20 x4_12.toNatClampNeg)]) (rest := []) B hH hl.1 (C_X12_productOf G l th (F_13 a_17 x3_6.toNatClampNeg) (F_13 a_20 x4_12.toNatClampNeg) _ _ hp) mi_X12_productOf coX12 hk_th w_1676 w_78 w_1674 rfl rfl ⟨Nat.le_of_ble_eq_true rfl, Nat.le_of_ble_eq_true rfl⟩ (Nat.le_of_ble_eq_true rfl) ⟨Nat.le_of_ble_eq_true rfl, Nat.le_of_ble_eq_true rfl⟩ dX12_marksFalse_55 (fun v S1 H locs hq hH => ?_)
              obtain ⟨r_23, F_23, rfl, e9, hp⟩ := hq
              rw [e9] at hH
              have hH : Hp G (FA S s.heap.size) s.heap (wI S F_23) H locs := hH
              refine W.eq (g2 := F0 m 58 ls [.int r_23]) rfl ?_
              refine lv_istore (pc := 58) (lv' := [(5, .int r_23), (0, .ref th), (1, .int p0), (2, .int x2_11), (3, .int x3_6), (4, .int x4_12)]) hx hb dX12_marksFalse_58 hl (by decide) rfl (fun ls hl => ?_)
              refine lv_iload (pc := 60) hx hb dX12_marksFalse_60 (lv_at hl 0 rfl) ?_
              refine lv_if_eq (pc := 62) (tgt := 96) hx hb dX12_marksFalse_62 (by decide) (fun cc_24 => ?_) (fun cc_24 => ?_)
              · have hp := hp.1 cc_24
                obtain ⟨v_25, ev_25⟩ : ∃ y : Int32, y = x4_12 + 1 := ⟨_, rfl⟩
                have hp := hp v_25 ev_25
                refine lv_iinc (pc := 96) (v := v_25) (lv' := [(4, .int v_25), (5, .int r_23), (0, .ref th), (1, .int p0), (2, .int x2_11), (3, .int x3_6)]) hx hb dX12_marksFalse_96 hl (k := 5) rfl (by rw [ev_25]; rfl) (by decide) rfl (fun ls hl => ?_)
                refine lv_goto (pc := 99) (tgt := 31) hx hb dX12_marksFalse_99 (by decide) ?_
                obtain ⟨k9, hlt9, hp⟩ := hp
                exact ih_10 k9 hlt9 _ _ _ _ _ _ hp hH (lv_sub hl [2, 3, 4, 5, 0] rfl)
              · have hp := hp.2 cc_24
                refine lv_aload_n (pc := 65) hx hb dX12_marksFalse_65 rfl (lv_at hl 1 rfl) ?_
                refine sx_getR (pc := 66) (j := 28) B hH hk_th coX12 rfl w_1332 rfl dX12_marksFalse_66 ?_
                refine W.eq (g2 := F0 m 69 ls [va_rf (gR S th 28)]) rfl ?_
                obtain ⟨a_26, ha_26, hp⟩ := hp
                refine sx_nonnull (x := a_26) ha_26 ?_
                refine lv_iload (pc := 69) hx hb dX12_marksFalse_69 (lv_at hl 0 rfl) ?_
                obtain ⟨hk_27, hp⟩ := hp
                obtain ⟨hn_28, hp⟩ := hp
                refine sx_iald (pc := 71) B hH hk_27 hn_28 dX12_marksFalse_71 ?_
                refine W.eq (g2 := F0 m 72 ls [.int (F_23 a_26 r_23.toNatClampNeg)]) rfl ?_
                refine lv_aload_n (pc := 72) hx hb dX12_marksFalse_72 rfl (lv_at hl 1 rfl) ?_
                refine sx_getI (pc := 73) (j := 29) B hH hk_th coX12 rfl w_1333 rfl dX12_marksFalse_73 ?_
                refine W.eq (g2 := F0 m 76 ls [.int (F_23 th 29), .int (F_23 a_26 r_23.toNatClampNeg)]) rfl ?_
                refine lv_icmp_ne (pc := 76) (tgt := 82) hx hb dX12_marksFalse_76 (by decide) (fun cc_29 => ?_) (fun cc_29 => ?_)
                · have hp := hp.1 cc_29
                  refine lv_aload_n (pc := 82) hx hb dX12_marksFalse_82 rfl (lv_at hl 1 rfl) ?_
                  refine sx_getR (pc := 83) (j := 28) B hH hk_th coX12 rfl w_1332 rfl dX12_marksFalse_83 ?_
                  refine W.eq (g2 := F0 m 86 ls [va_rf (gR S th 28)]) rfl ?_
                  refine sx_nonnull (x := a_26) ha_26 ?_
                  refine lv_iload (pc := 86) hx hb dX12_marksFalse_86 (lv_at hl 0 rfl) ?_
                  refine lv_aload_n (pc := 88) hx hb dX12_marksFalse_88 rfl (lv_at hl 1 rfl) ?_
                  refine sx_getI (pc := 89) (j := 29) B hH hk_th coX12 rfl w_1333 rfl dX12_marksFalse_89 ?_
                  refine W.eq (g2 := F0 m 92 ls [.int (F_23 th 29), .int r_23, .ref a_26]) rfl ?_
                  refine lv_topi (fun v_30 ev_30 => ?_)
                  have hp := hp v_30 ev_30
                  obtain ⟨F_31, eF_31⟩ : ∃ z : Nat → Nat → Int32, z = upI F_23 a_26 r_23.toNatClampNeg v_30 := ⟨_, rfl⟩
                  have hp := hp F_31 eF_31
                  refine sx_iast (pc := 92) B hH hk_27 hn_28 dX12_marksFalse_92 (fun H locs hH => ?_)
                  have hH : Hp G (FA S s.heap.size) s.heap (wI S F_31) H locs := by rw [eF_31]; exact hH
                  obtain ⟨v_32, ev_32⟩ : ∃ y : Int32, y = x2_11 + 1 := ⟨_, rfl⟩
                  have hp := hp v_32 ev_32
                  refine lv_iinc (pc := 93) (v := v_32) (lv' := [(2, .int v_32), (5, .int r_23), (0, .ref th), (1, .int p0), (3, .int x3_6), (4, .int x4_12)]) hx hb dX12_marksFalse_93 hl (k := 3) rfl (by rw [ev_32]; rfl) (by decide) rfl (fun ls hl => ?_)
                  obtain ⟨v_33, ev_33⟩ : ∃ y : Int32, y = x4_12 + 1 := ⟨_, rfl⟩
                  have hp := hp v_33 ev_33
                  refine lv_iinc (pc := 96) (v := v_33) (lv' := [(4, .int v_33), (2, .int v_32), (5, .int r_23), (0, .ref th), (1, .int p0), (3, .int x3_6)]) hx hb dX12_marksFalse_96 hl (k := 5) rfl (by rw [ev_33]; rfl) (by decide) rfl (fun ls hl => ?_)
                  refine lv_goto (pc := 99) (tgt := 31) hx hb dX12_marksFalse_99 (by decide) ?_
                  obtain ⟨k9, hlt9, hp⟩ := hp
                  exact ih_10 k9 hlt9 _ _ _ _ _ _ hp hH (lv_sub hl [3, 4, 1, 5, 0] rfl)
                · have hp := hp.2 cc_29
                  refine lv_goto (pc := 79) (tgt := 96) hx hb dX12_marksFalse_79 (by decide) ?_
                  obtain ⟨v_34, ev_34⟩ : ∃ y : Int32, y = x4_12 + 1 := ⟨_, rfl⟩
                  have hp := hp v_34 ev_34
                  refine lv_iinc (pc := 96) (v := v_34) (lv' := [(4, .int v_34), (5, .int r_23), (0, .ref th), (1, .int p0), (2, .int x2_11), (3, .int x3_6)]) hx hb dX12_marksFalse_96 hl (k := 5) rfl (by rw [ev_34]; rfl) (by decide) rfl (fun ls hl => ?_)
                  refine lv_goto (pc := 99) (tgt := 31) hx hb dX12_marksFalse_99 (by decide) ?_
                  obtain ⟨k9, hlt9, hp⟩ := hp
                  exact ih_10 k9 hlt9 _ _ _ _ _ _ hp hH (lv_sub hl [2, 3, 4, 5, 0] rfl)
        exact kl_10 k0_10 _ _ _ _ _ _ h0_10 hH (lv_sub hl [1, 2, 3, 4, 0] rfl)
  exact kl_4 k0_4 _ _ _ _ _ _ h0_4 hH (lv_sub hl [2, 3, 1, 0] rfl)
theorem dX12_falseAgainst_0 : decode cX12_falseAgainst 0 = .ok (.aload_n 0, 1) := by decide +kernel
theorem dX12_falseAgainst_1 : decode cX12_falseAgainst 1 = .ok (.iload_n 1, 1) := by decide +kernel
theorem dX12_falseAgainst_2 : decode cX12_falseAgainst 2 = .ok (.invokevirtual 317, 3) := by decide +kernel
theorem dX12_falseAgainst_5 : decode cX12_falseAgainst 5 = .ok (.ifCond .eq 11, 3) := by decide +kernel
theorem dX12_falseAgainst_8 : decode cX12_falseAgainst 8 = .ok (.aload_n 0, 1) := by decide +kernel
theorem dX12_falseAgainst_9 : decode cX12_falseAgainst 9 = .ok (.iload_n 2, 1) := by decide +kernel
theorem dX12_falseAgainst_10 : decode cX12_falseAgainst 10 = .ok (.invokevirtual 277, 3) := by decide +kernel
theorem dX12_falseAgainst_13 : decode cX12_falseAgainst 13 = .ok (.ifCond .ne 9, 3) := by decide +kernel
theorem dX12_falseAgainst_16 : decode cX12_falseAgainst 16 = .ok (.aload_n 0, 1) := by decide +kernel
theorem dX12_falseAgainst_17 : decode cX12_falseAgainst 17 = .ok (.iconst 1, 1) := by decide +kernel
theorem dX12_falseAgainst_18 : decode cX12_falseAgainst 18 = .ok (.invokevirtual 105, 3) := by decide +kernel
theorem dX12_falseAgainst_21 : decode cX12_falseAgainst 21 = .ok (.ireturn, 1) := by decide +kernel
theorem dX12_falseAgainst_22 : decode cX12_falseAgainst 22 = .ok (.aload_n 0, 1) := by decide +kernel
theorem dX12_falseAgainst_23 : decode cX12_falseAgainst 23 = .ok (.iload_n 1, 1) := by decide +kernel
theorem dX12_falseAgainst_24 : decode cX12_falseAgainst 24 = .ok (.invokevirtual 336, 3) := by decide +kernel
theorem dX12_falseAgainst_27 : decode cX12_falseAgainst 27 = .ok (.istore_n 3, 1) := by decide +kernel
theorem dX12_falseAgainst_28 : decode cX12_falseAgainst 28 = .ok (.aload_n 0, 1) := by decide +kernel
theorem dX12_falseAgainst_29 : decode cX12_falseAgainst 29 = .ok (.iload_n 3, 1) := by decide +kernel
theorem dX12_falseAgainst_30 : decode cX12_falseAgainst 30 = .ok (.ifCond .le 20, 3) := by decide +kernel
theorem dX12_falseAgainst_33 : decode cX12_falseAgainst 33 = .ok (.aload_n 0, 1) := by decide +kernel
theorem dX12_falseAgainst_34 : decode cX12_falseAgainst 34 = .ok (.getfield 63, 3) := by decide +kernel
theorem dX12_falseAgainst_37 : decode cX12_falseAgainst 37 = .ok (.iload_n 2, 1) := by decide +kernel
theorem dX12_falseAgainst_38 : decode cX12_falseAgainst 38 = .ok (.iaload, 1) := by decide +kernel
theorem dX12_falseAgainst_39 : decode cX12_falseAgainst 39 = .ok (.aload_n 0, 1) := by decide +kernel
theorem dX12_falseAgainst_40 : decode cX12_falseAgainst 40 = .ok (.getfield 333, 3) := by decide +kernel
theorem dX12_falseAgainst_43 : decode cX12_falseAgainst 43 = .ok (.if_icmp .ne 7, 3) := by decide +kernel
theorem dX12_falseAgainst_46 : decode cX12_falseAgainst 46 = .ok (.iconst 1, 1) := by decide +kernel
theorem dX12_falseAgainst_47 : decode cX12_falseAgainst 47 = .ok (.goto 4, 3) := by decide +kernel
theorem dX12_falseAgainst_50 : decode cX12_falseAgainst 50 = .ok (.iconst 0, 1) := by decide +kernel
theorem dX12_falseAgainst_51 : decode cX12_falseAgainst 51 = .ok (.invokevirtual 109, 3) := by decide +kernel
theorem dX12_falseAgainst_54 : decode cX12_falseAgainst 54 = .ok (.ireturn, 1) := by decide +kernel
theorem mi_X12_falseAgainst : MI yX12_falseAgainst cX12_falseAgainst 4 (some FieldType.int) 2 := ⟨w_1801, w_118, by decide +kernel, by decide +kernel, by decide +kernel⟩
set_option maxRecDepth 100000 in
set_option maxHeartbeats 4000000 in
theorem C_X12_falseAgainst (G : GG) (l : Launch) (th : Nat) (p0 : Int32) (p1 : Int32) (S : St) (Q : Int32 → (Nat → Nat → Int32) → Prop) (hp : P_X12_falseAgainst th p0 p1 S Q) : Ctr G l yX12_falseAgainst cX12_falseAgainst 4 (some FieldType.int) 5 120 0 0 [.ref th, .int p0, .int p1] S (fun (v : Option Value) (S9 : St) => ∃ (r : Int32) (I9 : Nat → Nat → Int32), v = some (.int r) ∧ S9 = wI S I9 ∧ Q r I9) := by
  generalize hQQ : (fun (v : Option Value) (S9 : St) => ∃ (r : Int32) (I9 : Nat → Nat → Int32), v = some (.int r) ∧ S9 = wI S I9 ∧ Q r I9) = QQ
  unfold P_X12_falseAgainst at hp
  refine Ctr.of (by decide) (Nat.le_of_ble_eq_true rfl) ?_
  intro p e s m args below meth c ls B hr hlk hin hl hH
  generalize hlocs0 : ([] : List Loc) = locs at hH ⊢
  have hx := B.1
  have hb := B.2.1
  have hl : lv_has ls 4 [(0, .ref th), (1, .int p0), (2, .int p1)] := hl
  obtain ⟨hk_th, hp⟩ := hp
  refine lv_aload_n (pc := 0) hx hb dX12_falseAgainst_0 rfl (lv_at hl 0 rfl) ?_
  refine lv_iload_n (pc := 1) hx hb dX12_falseAgainst_1 rfl (lv_at hl 1 rfl) ?_
  refine sx_V (pc := 2) (As := [.int p0]) (rest := []) B hH hl.1 (C_X12_isMethod G l th p0 _ _ hp) mi_X12_isMethod coX12 hk_th w_1745 w_86 w_1743 rfl rfl ⟨Nat.le_of_ble_eq_true rfl, Nat.le_of_ble_eq_true rfl⟩ (Nat.le_of_ble_eq_true rfl) ⟨Nat.le_of_ble_eq_true rfl, Nat.le_of_ble_eq_true rfl⟩ dX12_falseAgainst_2 (fun v S1 H locs hq hH => ?_)
  obtain ⟨r_1, rfl, e9, hp⟩ := hq
  rw [e9] at hH
  refine W.eq (g2 := F0 m 5 ls [.int r_1]) rfl ?_
  obtain ⟨J_3, hj_3, hp⟩ := hp
  have kj_3 : ∀  (H : Heap) (locs : List Loc) (ls : Array Slot), J_3  → Hp G (FA S s.heap.size) s.heap S H locs → lv_has ls 4 [(0, .ref th)] → Wm G p l e { frames := 5, cells := 0, slots := 0, locals := 120 } s m args below meth c S QQ 0 0 H locs 0 0 (F0 m 16 ls []) := by
    intro  H locs ls hq9 hH hl
    have hp := hj_3  hq9
    refine lv_aload_n (pc := 16) hx hb dX12_falseAgainst_16 rfl (lv_at hl 0 rfl) ?_
    refine lv_iconst (pc := 17) (v := 1) hx hb dX12_falseAgainst_17 (by decide) ?_
    refine sx_V (pc := 18) (As := [.int 1]) (rest := []) B hH hl.1 (C_X12_refuse G l th 1 _ _ hp) mi_X12_refuse coX12 hk_th w_1539 w_51 w_1537 rfl rfl ⟨Nat.le_of_ble_eq_true rfl, Nat.le_of_ble_eq_true rfl⟩ (Nat.le_of_ble_eq_true rfl) ⟨Nat.le_of_ble_eq_true rfl, Nat.le_of_ble_eq_true rfl⟩ dX12_falseAgainst_18 (fun v S1 H locs hq hH => ?_)
    obtain ⟨r_4, F_4, rfl, e9, hp⟩ := hq
    rw [e9] at hH
    have hH : Hp G (FA S s.heap.size) s.heap (wI S F_4) H locs := hH
    refine W.eq (g2 := F0 m 21 ls [.int r_4]) rfl ?_
    exact sx_iret (pc := 21) B hH hr hlk (by rw [← hQQ]; exact ⟨_, F_4, rfl, rfl, hp⟩) (Nat.le_of_ble_eq_true rfl) (Nat.le_of_ble_eq_true rfl) dX12_falseAgainst_21
  refine lv_if_eq (pc := 5) (tgt := 16) hx hb dX12_falseAgainst_5 (by decide) (fun cc_2 => ?_) (fun cc_2 => ?_)
  · have hp := hp.1 cc_2
    exact kj_3  _ _ _ hp hH (lv_sub hl [0] rfl)
  · have hp := hp.2 cc_2
    refine lv_aload_n (pc := 8) hx hb dX12_falseAgainst_8 rfl (lv_at hl 0 rfl) ?_
    refine lv_iload_n (pc := 9) hx hb dX12_falseAgainst_9 rfl (lv_at hl 2 rfl) ?_
    refine sx_V (pc := 10) (As := [.int p1]) (rest := []) B hH hl.1 (C_X12_isRow G l th p1 _ _ hp) mi_X12_isRow coX12 hk_th w_1649 w_74 w_1647 rfl rfl ⟨Nat.le_of_ble_eq_true rfl, Nat.le_of_ble_eq_true rfl⟩ (Nat.le_of_ble_eq_true rfl) ⟨Nat.le_of_ble_eq_true rfl, Nat.le_of_ble_eq_true rfl⟩ dX12_falseAgainst_10 (fun v S1 H locs hq hH => ?_)
    obtain ⟨r_5, rfl, e9, hp⟩ := hq
    rw [e9] at hH
    refine W.eq (g2 := F0 m 13 ls [.int r_5]) rfl ?_
    refine lv_if_ne (pc := 13) (tgt := 22) hx hb dX12_falseAgainst_13 (by decide) (fun cc_6 => ?_) (fun cc_6 => ?_)
    · have hp := hp.1 cc_6
      refine lv_aload_n (pc := 22) hx hb dX12_falseAgainst_22 rfl (lv_at hl 0 rfl) ?_
      refine lv_iload_n (pc := 23) hx hb dX12_falseAgainst_23 rfl (lv_at hl 1 rfl) ?_
      refine sx_V (pc := 24) (As := [.int p0]) (rest := []) B hH hl.1 (C_X12_marksFalse G l th p0 _ _ hp) mi_X12_marksFalse coX12 hk_th w_1804 w_91 w_1802 rfl rfl ⟨Nat.le_of_ble_eq_true rfl, Nat.le_of_ble_eq_true rfl⟩ (Nat.le_of_ble_eq_true rfl) ⟨Nat.le_of_ble_eq_true rfl, Nat.le_of_ble_eq_true rfl⟩ dX12_falseAgainst_24 (fun v S1 H locs hq hH => ?_)
      obtain ⟨r_7, F_7, rfl, e9, hp⟩ := hq
      rw [e9] at hH
      have hH : Hp G (FA S s.heap.size) s.heap (wI S F_7) H locs := hH
      refine W.eq (g2 := F0 m 27 ls [.int r_7]) rfl ?_
      refine lv_istore_n (pc := 27) (lv' := [(3, .int r_7), (0, .ref th), (1, .int p0), (2, .int p1)]) hx hb dX12_falseAgainst_27 rfl hl (by decide) rfl (fun ls hl => ?_)
      refine lv_aload_n (pc := 28) hx hb dX12_falseAgainst_28 rfl (lv_at hl 1 rfl) ?_
      refine lv_iload_n (pc := 29) hx hb dX12_falseAgainst_29 rfl (lv_at hl 0 rfl) ?_
      obtain ⟨J_9, hj_9, hp⟩ := hp
      have kj_9 : ∀ (t_10 : Int32) (H : Heap) (locs : List Loc) (ls : Array Slot), J_9 t_10 → Hp G (FA S s.heap.size) s.heap (wI S F_7) H locs → lv_has ls 4 [] → Wm G p l e { frames := 5, cells := 0, slots := 0, locals := 120 } s m args below meth c S QQ 0 0 H locs 0 0 (F0 m 51 ls [.int t_10, .ref th]) := by
        intro t_10 H locs ls hq9 hH hl
        have hp := hj_9 t_10 hq9
        refine sx_V (pc := 51) (As := [.int t_10]) (rest := []) B hH hl.1 (C_X12_gives G l th t_10 _ _ hp) mi_X12_gives coX12 hk_th w_1617 w_69 w_1615 rfl rfl ⟨Nat.le_of_ble_eq_true rfl, Nat.le_of_ble_eq_true rfl⟩ (Nat.le_of_ble_eq_true rfl) ⟨Nat.le_of_ble_eq_true rfl, Nat.le_of_ble_eq_true rfl⟩ dX12_falseAgainst_51 (fun v S1 H locs hq hH => ?_)
        obtain ⟨r_11, F_11, rfl, e9, hp⟩ := hq
        rw [e9] at hH
        have hH : Hp G (FA S s.heap.size) s.heap (wI S F_11) H locs := hH
        refine W.eq (g2 := F0 m 54 ls [.int r_11]) rfl ?_
        exact sx_iret (pc := 54) B hH hr hlk (by rw [← hQQ]; exact ⟨_, F_11, rfl, rfl, hp⟩) (Nat.le_of_ble_eq_true rfl) (Nat.le_of_ble_eq_true rfl) dX12_falseAgainst_54
      refine lv_if_le (pc := 30) (tgt := 50) hx hb dX12_falseAgainst_30 (by decide) (fun cc_8 => ?_) (fun cc_8 => ?_)
      · have hp := hp.1 cc_8
        refine lv_iconst (pc := 50) (v := 0) hx hb dX12_falseAgainst_50 (by decide) ?_
        exact kj_9 _ _ _ _ hp hH (lv_sub hl [] rfl)
      · have hp := hp.2 cc_8
        refine lv_aload_n (pc := 33) hx hb dX12_falseAgainst_33 rfl (lv_at hl 1 rfl) ?_
        refine sx_getR (pc := 34) (j := 28) B hH hk_th coX12 rfl w_1332 rfl dX12_falseAgainst_34 ?_
        refine W.eq (g2 := F0 m 37 ls [va_rf (gR S th 28), .ref th]) rfl ?_
        obtain ⟨a_12, ha_12, hp⟩ := hp
        refine sx_nonnull (x := a_12) ha_12 ?_
        refine lv_iload_n (pc := 37) hx hb dX12_falseAgainst_37 rfl (lv_at hl 3 rfl) ?_
        obtain ⟨hk_13, hp⟩ := hp
        obtain ⟨hn_14, hp⟩ := hp
        refine sx_iald (pc := 38) B hH hk_13 hn_14 dX12_falseAgainst_38 ?_
        refine W.eq (g2 := F0 m 39 ls [.int (F_7 a_12 p1.toNatClampNeg), .ref th]) rfl ?_
        refine lv_aload_n (pc := 39) hx hb dX12_falseAgainst_39 rfl (lv_at hl 1 rfl) ?_
        refine sx_getI (pc := 40) (j := 29) B hH hk_th coX12 rfl w_1333 rfl dX12_falseAgainst_40 ?_
        refine W.eq (g2 := F0 m 43 ls [.int (F_7 th 29), .int (F_7 a_12 p1.toNatClampNeg), .ref th]) rfl ?_
        refine lv_icmp_ne (pc := 43) (tgt := 50) hx hb dX12_falseAgainst_43 (by decide) (fun cc_15 => ?_) (fun cc_15 => ?_)
        · have hp := hp.1 cc_15
          refine lv_iconst (pc := 50) (v := 0) hx hb dX12_falseAgainst_50 (by decide) ?_
          exact kj_9 _ _ _ _ hp hH (lv_sub hl [] rfl)
        · have hp := hp.2 cc_15
          refine lv_iconst (pc := 46) (v := 1) hx hb dX12_falseAgainst_46 (by decide) ?_
          refine lv_goto (pc := 47) (tgt := 51) hx hb dX12_falseAgainst_47 (by decide) ?_
          exact kj_9 _ _ _ _ hp hH (lv_sub hl [] rfl)
    · have hp := hp.2 cc_6
      exact kj_3  _ _ _ hp hH (lv_sub hl [0] rfl)
theorem dX12_falses_0 : decode cX12_falses 0 = .ok (.aload_n 0, 1) := by decide +kernel
theorem dX12_falses_1 : decode cX12_falses 1 = .ok (.iload_n 1, 1) := by decide +kernel
theorem dX12_falses_2 : decode cX12_falses 2 = .ok (.invokevirtual 317, 3) := by decide +kernel
theorem dX12_falses_5 : decode cX12_falses 5 = .ok (.ifCond .eq 15, 3) := by decide +kernel
theorem dX12_falses_8 : decode cX12_falses 8 = .ok (.aload_n 0, 1) := by decide +kernel
theorem dX12_falses_9 : decode cX12_falses 9 = .ok (.aload_n 0, 1) := by decide +kernel
theorem dX12_falses_10 : decode cX12_falses 10 = .ok (.iload_n 1, 1) := by decide +kernel
theorem dX12_falses_11 : decode cX12_falses 11 = .ok (.invokevirtual 336, 3) := by decide +kernel
theorem dX12_falses_14 : decode cX12_falses 14 = .ok (.invokevirtual 109, 3) := by decide +kernel
theorem dX12_falses_17 : decode cX12_falses 17 = .ok (.goto 8, 3) := by decide +kernel
theorem dX12_falses_20 : decode cX12_falses 20 = .ok (.aload_n 0, 1) := by decide +kernel
theorem dX12_falses_21 : decode cX12_falses 21 = .ok (.iconst 1, 1) := by decide +kernel
theorem dX12_falses_22 : decode cX12_falses 22 = .ok (.invokevirtual 105, 3) := by decide +kernel
theorem dX12_falses_25 : decode cX12_falses 25 = .ok (.ireturn, 1) := by decide +kernel
theorem mi_X12_falses : MI yX12_falses cX12_falses 2 (some FieldType.int) 1 := ⟨w_1809, w_118, by decide +kernel, by decide +kernel, by decide +kernel⟩
set_option maxRecDepth 100000 in
set_option maxHeartbeats 4000000 in
theorem C_X12_falses (G : GG) (l : Launch) (th : Nat) (p0 : Int32) (S : St) (Q : Int32 → (Nat → Nat → Int32) → Prop) (hp : P_X12_falses th p0 S Q) : Ctr G l yX12_falses cX12_falses 2 (some FieldType.int) 5 120 0 0 [.ref th, .int p0] S (fun (v : Option Value) (S9 : St) => ∃ (r : Int32) (I9 : Nat → Nat → Int32), v = some (.int r) ∧ S9 = wI S I9 ∧ Q r I9) := by
  generalize hQQ : (fun (v : Option Value) (S9 : St) => ∃ (r : Int32) (I9 : Nat → Nat → Int32), v = some (.int r) ∧ S9 = wI S I9 ∧ Q r I9) = QQ
  unfold P_X12_falses at hp
  refine Ctr.of (by decide) (Nat.le_of_ble_eq_true rfl) ?_
  intro p e s m args below meth c ls B hr hlk hin hl hH
  generalize hlocs0 : ([] : List Loc) = locs at hH ⊢
  have hx := B.1
  have hb := B.2.1
  have hl : lv_has ls 2 [(0, .ref th), (1, .int p0)] := hl
  obtain ⟨hk_th, hp⟩ := hp
  refine lv_aload_n (pc := 0) hx hb dX12_falses_0 rfl (lv_at hl 0 rfl) ?_
  refine lv_iload_n (pc := 1) hx hb dX12_falses_1 rfl (lv_at hl 1 rfl) ?_
  refine sx_V (pc := 2) (As := [.int p0]) (rest := []) B hH hl.1 (C_X12_isMethod G l th p0 _ _ hp) mi_X12_isMethod coX12 hk_th w_1745 w_86 w_1743 rfl rfl ⟨Nat.le_of_ble_eq_true rfl, Nat.le_of_ble_eq_true rfl⟩ (Nat.le_of_ble_eq_true rfl) ⟨Nat.le_of_ble_eq_true rfl, Nat.le_of_ble_eq_true rfl⟩ dX12_falses_2 (fun v S1 H locs hq hH => ?_)
  obtain ⟨r_1, rfl, e9, hp⟩ := hq
  rw [e9] at hH
  refine W.eq (g2 := F0 m 5 ls [.int r_1]) rfl ?_
  refine lv_if_eq (pc := 5) (tgt := 20) hx hb dX12_falses_5 (by decide) (fun cc_2 => ?_) (fun cc_2 => ?_)
  · have hp := hp.1 cc_2
    refine lv_aload_n (pc := 20) hx hb dX12_falses_20 rfl (lv_at hl 0 rfl) ?_
    refine lv_iconst (pc := 21) (v := 1) hx hb dX12_falses_21 (by decide) ?_
    refine sx_V (pc := 22) (As := [.int 1]) (rest := []) B hH hl.1 (C_X12_refuse G l th 1 _ _ hp) mi_X12_refuse coX12 hk_th w_1539 w_51 w_1537 rfl rfl ⟨Nat.le_of_ble_eq_true rfl, Nat.le_of_ble_eq_true rfl⟩ (Nat.le_of_ble_eq_true rfl) ⟨Nat.le_of_ble_eq_true rfl, Nat.le_of_ble_eq_true rfl⟩ dX12_falses_22 (fun v S1 H locs hq hH => ?_)
    obtain ⟨r_3, F_3, rfl, e9, hp⟩ := hq
    rw [e9] at hH
    have hH : Hp G (FA S s.heap.size) s.heap (wI S F_3) H locs := hH
    refine W.eq (g2 := F0 m 25 ls [.int r_3]) rfl ?_
    exact sx_iret (pc := 25) B hH hr hlk (by rw [← hQQ]; exact ⟨_, F_3, rfl, rfl, hp⟩) (Nat.le_of_ble_eq_true rfl) (Nat.le_of_ble_eq_true rfl) dX12_falses_25
  · have hp := hp.2 cc_2
    refine lv_aload_n (pc := 8) hx hb dX12_falses_8 rfl (lv_at hl 0 rfl) ?_
    refine lv_aload_n (pc := 9) hx hb dX12_falses_9 rfl (lv_at hl 0 rfl) ?_
    refine lv_iload_n (pc := 10) hx hb dX12_falses_10 rfl (lv_at hl 1 rfl) ?_
    refine sx_V (pc := 11) (As := [.int p0]) (rest := [.ref th]) B hH hl.1 (C_X12_marksFalse G l th p0 _ _ hp) mi_X12_marksFalse coX12 hk_th w_1804 w_91 w_1802 rfl rfl ⟨Nat.le_of_ble_eq_true rfl, Nat.le_of_ble_eq_true rfl⟩ (Nat.le_of_ble_eq_true rfl) ⟨Nat.le_of_ble_eq_true rfl, Nat.le_of_ble_eq_true rfl⟩ dX12_falses_11 (fun v S1 H locs hq hH => ?_)
    obtain ⟨r_4, F_4, rfl, e9, hp⟩ := hq
    rw [e9] at hH
    have hH : Hp G (FA S s.heap.size) s.heap (wI S F_4) H locs := hH
    refine W.eq (g2 := F0 m 14 ls [.int r_4, .ref th]) rfl ?_
    refine sx_V (pc := 14) (As := [.int r_4]) (rest := []) B hH hl.1 (C_X12_gives G l th r_4 _ _ hp) mi_X12_gives coX12 hk_th w_1617 w_69 w_1615 rfl rfl ⟨Nat.le_of_ble_eq_true rfl, Nat.le_of_ble_eq_true rfl⟩ (Nat.le_of_ble_eq_true rfl) ⟨Nat.le_of_ble_eq_true rfl, Nat.le_of_ble_eq_true rfl⟩ dX12_falses_14 (fun v S1 H locs hq hH => ?_)
    obtain ⟨r_5, F_5, rfl, e9, hp⟩ := hq
    rw [e9] at hH
    have hH : Hp G (FA S s.heap.size) s.heap (wI S F_5) H locs := hH
    refine W.eq (g2 := F0 m 17 ls [.int r_5]) rfl ?_
    refine lv_goto (pc := 17) (tgt := 25) hx hb dX12_falses_17 (by decide) ?_
    exact sx_iret (pc := 25) B hH hr hlk (by rw [← hQQ]; exact ⟨_, F_5, rfl, rfl, hp⟩) (Nat.le_of_ble_eq_true rfl) (Nat.le_of_ble_eq_true rfl) dX12_falses_25
theorem dX12_strays_0 : decode cX12_strays 0 = .ok (.iload_n 1, 1) := by decide +kernel
theorem dX12_strays_1 : decode cX12_strays 1 = .ok (.iconst (-1), 1) := by decide +kernel
theorem dX12_strays_2 : decode cX12_strays 2 = .ok (.if_icmp .ne 5, 3) := by decide +kernel
theorem dX12_strays_5 : decode cX12_strays 5 = .ok (.iconst 0, 1) := by decide +kernel
theorem dX12_strays_6 : decode cX12_strays 6 = .ok (.ireturn, 1) := by decide +kernel
theorem dX12_strays_7 : decode cX12_strays 7 = .ok (.aload_n 0, 1) := by decide +kernel
theorem dX12_strays_8 : decode cX12_strays 8 = .ok (.aload_n 0, 1) := by decide +kernel
theorem dX12_strays_9 : decode cX12_strays 9 = .ok (.getfield 339, 3) := by decide +kernel
theorem dX12_strays_12 : decode cX12_strays 12 = .ok (.sipush 2693, 3) := by decide +kernel
theorem dX12_strays_15 : decode cX12_strays 15 = .ok (.imul, 1) := by decide +kernel
theorem dX12_strays_16 : decode cX12_strays 16 = .ok (.sipush 10007, 3) := by decide +kernel
theorem dX12_strays_19 : decode cX12_strays 19 = .ok (.iadd, 1) := by decide +kernel
theorem dX12_strays_20 : decode cX12_strays 20 = .ok (.ldc_w 342, 3) := by decide +kernel
theorem dX12_strays_23 : decode cX12_strays 23 = .ok (.irem, 1) := by decide +kernel
theorem dX12_strays_24 : decode cX12_strays 24 = .ok (.putfield 339, 3) := by decide +kernel
theorem dX12_strays_27 : decode cX12_strays 27 = .ok (.aload_n 0, 1) := by decide +kernel
theorem dX12_strays_28 : decode cX12_strays 28 = .ok (.getfield 339, 3) := by decide +kernel
theorem dX12_strays_31 : decode cX12_strays 31 = .ok (.bipush 8, 2) := by decide +kernel
theorem dX12_strays_33 : decode cX12_strays 33 = .ok (.idiv, 1) := by decide +kernel
theorem dX12_strays_34 : decode cX12_strays 34 = .ok (.bipush 16, 2) := by decide +kernel
theorem dX12_strays_36 : decode cX12_strays 36 = .ok (.irem, 1) := by decide +kernel
theorem dX12_strays_37 : decode cX12_strays 37 = .ok (.iload_n 1, 1) := by decide +kernel
theorem dX12_strays_38 : decode cX12_strays 38 = .ok (.if_icmp .ge 7, 3) := by decide +kernel
theorem dX12_strays_41 : decode cX12_strays 41 = .ok (.iconst 1, 1) := by decide +kernel
theorem dX12_strays_42 : decode cX12_strays 42 = .ok (.goto 4, 3) := by decide +kernel
theorem dX12_strays_45 : decode cX12_strays 45 = .ok (.iconst 0, 1) := by decide +kernel
theorem dX12_strays_46 : decode cX12_strays 46 = .ok (.ireturn, 1) := by decide +kernel
theorem mi_X12_strays : MI yX12_strays cX12_strays 2 (some FieldType.boolean) 1 := ⟨w_1825, w_118, by decide +kernel, by decide +kernel, by decide +kernel⟩
set_option maxRecDepth 100000 in
set_option maxHeartbeats 4000000 in
theorem C_X12_strays (G : GG) (l : Launch) (th : Nat) (p0 : Int32) (S : St) (Q : Int32 → (Nat → Nat → Int32) → Prop) (hp : P_X12_strays th p0 S Q) : Ctr G l yX12_strays cX12_strays 2 (some FieldType.boolean) 0 0 0 0 [.ref th, .int p0] S (fun (v : Option Value) (S9 : St) => ∃ (r : Int32) (I9 : Nat → Nat → Int32), v = some (.int r) ∧ S9 = wI S I9 ∧ Q r I9) := by
  generalize hQQ : (fun (v : Option Value) (S9 : St) => ∃ (r : Int32) (I9 : Nat → Nat → Int32), v = some (.int r) ∧ S9 = wI S I9 ∧ Q r I9) = QQ
  unfold P_X12_strays at hp
  refine Ctr.of (by decide) (Nat.le_of_ble_eq_true rfl) ?_
  intro p e s m args below meth c ls B hr hlk hin hl hH
  generalize hlocs0 : ([] : List Loc) = locs at hH ⊢
  have hx := B.1
  have hb := B.2.1
  have hl : lv_has ls 2 [(0, .ref th), (1, .int p0)] := hl
  obtain ⟨hk_th, hp⟩ := hp
  refine lv_iload_n (pc := 0) hx hb dX12_strays_0 rfl (lv_at hl 1 rfl) ?_
  refine lv_iconst (pc := 1) (v := (-1)) hx hb dX12_strays_1 (by decide) ?_
  refine lv_icmp_ne (pc := 2) (tgt := 7) hx hb dX12_strays_2 (by decide) (fun cc_1 => ?_) (fun cc_1 => ?_)
  · have hp := hp.1 cc_1
    refine lv_aload_n (pc := 7) hx hb dX12_strays_7 rfl (lv_at hl 0 rfl) ?_
    refine lv_aload_n (pc := 8) hx hb dX12_strays_8 rfl (lv_at hl 0 rfl) ?_
    refine sx_getI (pc := 9) (j := 31) B hH hk_th coX12 rfl w_1335 rfl dX12_strays_9 ?_
    refine W.eq (g2 := F0 m 12 ls [.int (gI S th 31), .ref th]) rfl ?_
    refine lv_sipush (pc := 12) (v := 2693) hx hb dX12_strays_12 (by decide) ?_
    refine lv_imul (pc := 15) hx hb dX12_strays_15 ?_
    refine lv_sipush (pc := 16) (v := 10007) hx hb dX12_strays_16 (by decide) ?_
    refine lv_iadd (pc := 19) hx hb dX12_strays_19 ?_
    refine sx_ldcw (pc := 20) (v := 65536) B w_1826 dX12_strays_20 ?_
    refine lv_irem (pc := 23) hx hb dX12_strays_23 (by decide) ?_
    refine W.eq (g2 := F0 m 24 ls [.int (irm (((gI S th 31) * 2693) + 10007) 65536), .ref th]) rfl ?_
    refine lv_topi (fun v_2 ev_2 => ?_)
    have hp := hp v_2 ev_2
    obtain ⟨F_3, eF_3⟩ : ∃ z : Nat → Nat → Int32, z = upI (gI S) th 31 v_2 := ⟨_, rfl⟩
    have hp := hp F_3 eF_3
    refine sx_putI (pc := 24) (j := 31) B hH hk_th coX12 rfl w_1335 rfl (Or.inl rfl) rfl dX12_strays_24 (fun H locs hH => ?_)
    have hH : Hp G (FA S s.heap.size) s.heap (wI S F_3) H locs := by rw [eF_3]; exact hH
    refine lv_aload_n (pc := 27) hx hb dX12_strays_27 rfl (lv_at hl 0 rfl) ?_
    refine sx_getI (pc := 28) (j := 31) B hH hk_th coX12 rfl w_1335 rfl dX12_strays_28 ?_
    refine W.eq (g2 := F0 m 31 ls [.int (F_3 th 31)]) rfl ?_
    refine lv_bipush (pc := 31) (v := 8) hx hb dX12_strays_31 (by decide) ?_
    refine lv_idiv (pc := 33) hx hb dX12_strays_33 (by decide) ?_
    refine lv_bipush (pc := 34) (v := 16) hx hb dX12_strays_34 (by decide) ?_
    refine lv_irem (pc := 36) hx hb dX12_strays_36 (by decide) ?_
    refine W.eq (g2 := F0 m 37 ls [.int (irm ((F_3 th 31) / 8) 16)]) rfl ?_
    refine lv_iload_n (pc := 37) hx hb dX12_strays_37 rfl (lv_at hl 1 rfl) ?_
    refine lv_icmp_ge (pc := 38) (tgt := 45) hx hb dX12_strays_38 (by decide) (fun cc_4 => ?_) (fun cc_4 => ?_)
    · have hp := hp.1 cc_4
      refine lv_iconst (pc := 45) (v := 0) hx hb dX12_strays_45 (by decide) ?_
      exact sx_zret (pc := 46) B hH hr hlk (Or.inl rfl) (by rw [← hQQ]; exact ⟨_, F_3, rfl, rfl, hp⟩) (Nat.le_of_ble_eq_true rfl) (Nat.le_of_ble_eq_true rfl) dX12_strays_46
    · have hp := hp.2 cc_4
      refine lv_iconst (pc := 41) (v := 1) hx hb dX12_strays_41 (by decide) ?_
      refine lv_goto (pc := 42) (tgt := 46) hx hb dX12_strays_42 (by decide) ?_
      exact sx_zret (pc := 46) B hH hr hlk (Or.inr rfl) (by rw [← hQQ]; exact ⟨_, F_3, rfl, rfl, hp⟩) (Nat.le_of_ble_eq_true rfl) (Nat.le_of_ble_eq_true rfl) dX12_strays_46
  · have hp := hp.2 cc_1
    refine lv_iconst (pc := 5) (v := 0) hx hb dX12_strays_5 (by decide) ?_
    exact sx_zret (pc := 6) B hH hr hlk (Or.inl rfl) (by rw [← hQQ]; exact ⟨_, (gI S), rfl, rfl, hp⟩) (Nat.le_of_ble_eq_true rfl) (Nat.le_of_ble_eq_true rfl) dX12_strays_6
theorem dX12_rings_0 : decode cX12_rings 0 = .ok (.aload_n 0, 1) := by decide +kernel
theorem dX12_rings_1 : decode cX12_rings 1 = .ok (.getfield 7, 3) := by decide +kernel
theorem dX12_rings_4 : decode cX12_rings 4 = .ok (.iload_n 1, 1) := by decide +kernel
theorem dX12_rings_5 : decode cX12_rings 5 = .ok (.iconst 1, 1) := by decide +kernel
theorem dX12_rings_6 : decode cX12_rings 6 = .ok (.iadd, 1) := by decide +kernel
theorem dX12_rings_7 : decode cX12_rings 7 = .ok (.iaload, 1) := by decide +kernel
theorem dX12_rings_8 : decode cX12_rings 8 = .ok (.istore 4, 2) := by decide +kernel
theorem dX12_rings_10 : decode cX12_rings 10 = .ok (.aload_n 0, 1) := by decide +kernel
theorem dX12_rings_11 : decode cX12_rings 11 = .ok (.getfield 7, 3) := by decide +kernel
theorem dX12_rings_14 : decode cX12_rings 14 = .ok (.iload_n 1, 1) := by decide +kernel
theorem dX12_rings_15 : decode cX12_rings 15 = .ok (.iaload, 1) := by decide +kernel
theorem dX12_rings_16 : decode cX12_rings 16 = .ok (.iconst 5, 1) := by decide +kernel
theorem dX12_rings_17 : decode cX12_rings 17 = .ok (.if_icmp .ne 7, 3) := by decide +kernel
theorem dX12_rings_20 : decode cX12_rings 20 = .ok (.iconst 1, 1) := by decide +kernel
theorem dX12_rings_21 : decode cX12_rings 21 = .ok (.goto 19, 3) := by decide +kernel
theorem dX12_rings_24 : decode cX12_rings 24 = .ok (.aload_n 0, 1) := by decide +kernel
theorem dX12_rings_25 : decode cX12_rings 25 = .ok (.getfield 7, 3) := by decide +kernel
theorem dX12_rings_28 : decode cX12_rings 28 = .ok (.iload_n 1, 1) := by decide +kernel
theorem dX12_rings_29 : decode cX12_rings 29 = .ok (.iaload, 1) := by decide +kernel
theorem dX12_rings_30 : decode cX12_rings 30 = .ok (.bipush 6, 2) := by decide +kernel
theorem dX12_rings_32 : decode cX12_rings 32 = .ok (.if_icmp .ne 7, 3) := by decide +kernel
theorem dX12_rings_35 : decode cX12_rings 35 = .ok (.iconst 2, 1) := by decide +kernel
theorem dX12_rings_36 : decode cX12_rings 36 = .ok (.goto 4, 3) := by decide +kernel
theorem dX12_rings_39 : decode cX12_rings 39 = .ok (.iconst 0, 1) := by decide +kernel
theorem dX12_rings_40 : decode cX12_rings 40 = .ok (.istore 5, 2) := by decide +kernel
theorem dX12_rings_42 : decode cX12_rings 42 = .ok (.aload_n 0, 1) := by decide +kernel
theorem dX12_rings_43 : decode cX12_rings 43 = .ok (.getfield 7, 3) := by decide +kernel
theorem dX12_rings_46 : decode cX12_rings 46 = .ok (.iload_n 1, 1) := by decide +kernel
theorem dX12_rings_47 : decode cX12_rings 47 = .ok (.iaload, 1) := by decide +kernel
theorem dX12_rings_48 : decode cX12_rings 48 = .ok (.bipush 8, 2) := by decide +kernel
theorem dX12_rings_50 : decode cX12_rings 50 = .ok (.if_icmp .ne 14, 3) := by decide +kernel
theorem dX12_rings_53 : decode cX12_rings 53 = .ok (.aload_n 0, 1) := by decide +kernel
theorem dX12_rings_54 : decode cX12_rings 54 = .ok (.getfield 7, 3) := by decide +kernel
theorem dX12_rings_57 : decode cX12_rings 57 = .ok (.iload_n 1, 1) := by decide +kernel
theorem dX12_rings_58 : decode cX12_rings 58 = .ok (.iconst 2, 1) := by decide +kernel
theorem dX12_rings_59 : decode cX12_rings 59 = .ok (.iadd, 1) := by decide +kernel
theorem dX12_rings_60 : decode cX12_rings 60 = .ok (.iaload, 1) := by decide +kernel
theorem dX12_rings_61 : decode cX12_rings 61 = .ok (.goto 9, 3) := by decide +kernel
theorem dX12_rings_64 : decode cX12_rings 64 = .ok (.aload_n 0, 1) := by decide +kernel
theorem dX12_rings_65 : decode cX12_rings 65 = .ok (.iload 4, 2) := by decide +kernel
theorem dX12_rings_67 : decode cX12_rings 67 = .ok (.invokevirtual 314, 3) := by decide +kernel
theorem dX12_rings_70 : decode cX12_rings 70 = .ok (.istore 6, 2) := by decide +kernel
theorem dX12_rings_72 : decode cX12_rings 72 = .ok (.iconst 0, 1) := by decide +kernel
theorem dX12_rings_73 : decode cX12_rings 73 = .ok (.istore 7, 2) := by decide +kernel
theorem dX12_rings_75 : decode cX12_rings 75 = .ok (.iload 7, 2) := by decide +kernel
theorem dX12_rings_77 : decode cX12_rings 77 = .ok (.iload 6, 2) := by decide +kernel
theorem dX12_rings_79 : decode cX12_rings 79 = .ok (.if_icmp .ge 74, 3) := by decide +kernel
theorem dX12_rings_82 : decode cX12_rings 82 = .ok (.aload_n 0, 1) := by decide +kernel
theorem dX12_rings_83 : decode cX12_rings 83 = .ok (.getfield 343, 3) := by decide +kernel
theorem dX12_rings_86 : decode cX12_rings 86 = .ok (.sipush 2000, 3) := by decide +kernel
theorem dX12_rings_89 : decode cX12_rings 89 = .ok (.if_icmp .ne 5, 3) := by decide +kernel
theorem dX12_rings_92 : decode cX12_rings 92 = .ok (.iconst 0, 1) := by decide +kernel
theorem dX12_rings_93 : decode cX12_rings 93 = .ok (.ireturn, 1) := by decide +kernel
theorem dX12_rings_94 : decode cX12_rings 94 = .ok (.aload_n 0, 1) := by decide +kernel
theorem dX12_rings_95 : decode cX12_rings 95 = .ok (.aload_n 0, 1) := by decide +kernel
theorem dX12_rings_96 : decode cX12_rings 96 = .ok (.iload 4, 2) := by decide +kernel
theorem dX12_rings_98 : decode cX12_rings 98 = .ok (.iload 5, 2) := by decide +kernel
theorem dX12_rings_100 : decode cX12_rings 100 = .ok (.iload 7, 2) := by decide +kernel
theorem dX12_rings_102 : decode cX12_rings 102 = .ok (.invokevirtual 323, 3) := by decide +kernel
theorem dX12_rings_105 : decode cX12_rings 105 = .ok (.aload_n 0, 1) := by decide +kernel
theorem dX12_rings_106 : decode cX12_rings 106 = .ok (.iload_n 2, 1) := by decide +kernel
theorem dX12_rings_107 : decode cX12_rings 107 = .ok (.invokevirtual 346, 3) := by decide +kernel
theorem dX12_rings_110 : decode cX12_rings 110 = .ok (.invokevirtual 302, 3) := by decide +kernel
theorem dX12_rings_113 : decode cX12_rings 113 = .ok (.aload_n 0, 1) := by decide +kernel
theorem dX12_rings_114 : decode cX12_rings 114 = .ok (.dup, 1) := by decide +kernel
theorem dX12_rings_115 : decode cX12_rings 115 = .ok (.getfield 343, 3) := by decide +kernel
theorem dX12_rings_118 : decode cX12_rings 118 = .ok (.iconst 1, 1) := by decide +kernel
theorem dX12_rings_119 : decode cX12_rings 119 = .ok (.iadd, 1) := by decide +kernel
theorem dX12_rings_120 : decode cX12_rings 120 = .ok (.putfield 343, 3) := by decide +kernel
theorem dX12_rings_123 : decode cX12_rings 123 = .ok (.iload_n 3, 1) := by decide +kernel
theorem dX12_rings_124 : decode cX12_rings 124 = .ok (.iconst (-1), 1) := by decide +kernel
theorem dX12_rings_125 : decode cX12_rings 125 = .ok (.if_icmp .eq 22, 3) := by decide +kernel
theorem dX12_rings_128 : decode cX12_rings 128 = .ok (.aload_n 0, 1) := by decide +kernel
theorem dX12_rings_129 : decode cX12_rings 129 = .ok (.getfield 7, 3) := by decide +kernel
theorem dX12_rings_132 : decode cX12_rings 132 = .ok (.iload_n 3, 1) := by decide +kernel
theorem dX12_rings_133 : decode cX12_rings 133 = .ok (.aload_n 0, 1) := by decide +kernel
theorem dX12_rings_134 : decode cX12_rings 134 = .ok (.getfield 343, 3) := by decide +kernel
theorem dX12_rings_137 : decode cX12_rings 137 = .ok (.iadd, 1) := by decide +kernel
theorem dX12_rings_138 : decode cX12_rings 138 = .ok (.aload_n 0, 1) := by decide +kernel
theorem dX12_rings_139 : decode cX12_rings 139 = .ok (.aload_n 0, 1) := by decide +kernel
theorem dX12_rings_140 : decode cX12_rings 140 = .ok (.getfield 47, 3) := by decide +kernel
theorem dX12_rings_143 : decode cX12_rings 143 = .ok (.invokevirtual 270, 3) := by decide +kernel
theorem dX12_rings_146 : decode cX12_rings 146 = .ok (.iastore, 1) := by decide +kernel
theorem dX12_rings_147 : decode cX12_rings 147 = .ok (.iinc 7 1, 3) := by decide +kernel
theorem dX12_rings_150 : decode cX12_rings 150 = .ok (.goto (-75), 3) := by decide +kernel
theorem dX12_rings_153 : decode cX12_rings 153 = .ok (.iconst 1, 1) := by decide +kernel
theorem dX12_rings_154 : decode cX12_rings 154 = .ok (.ireturn, 1) := by decide +kernel
theorem mi_X12_rings : MI yX12_rings cX12_rings 8 (some FieldType.boolean) 3 := ⟨w_1821, w_118, by decide +kernel, by decide +kernel, by decide +kernel⟩
set_option maxRecDepth 100000 in
set_option maxHeartbeats 4000000 in
theorem C_X12_rings (G : GG) (l : Launch) (th : Nat) (p0 : Int32) (p1 : Int32) (p2 : Int32) (S : St) (Q : Int32 → (Nat → Nat → Int32) → Prop) (hp : P_X12_rings th p0 p1 p2 S Q) : Ctr G l yX12_rings cX12_rings 8 (some FieldType.boolean) 2 44 0 0 [.ref th, .int p0, .int p1, .int p2] S (fun (v : Option Value) (S9 : St) => ∃ (r : Int32) (I9 : Nat → Nat → Int32), v = some (.int r) ∧ S9 = wI S I9 ∧ Q r I9) := by
  generalize hQQ : (fun (v : Option Value) (S9 : St) => ∃ (r : Int32) (I9 : Nat → Nat → Int32), v = some (.int r) ∧ S9 = wI S I9 ∧ Q r I9) = QQ
  unfold P_X12_rings at hp
  refine Ctr.of (by decide) (Nat.le_of_ble_eq_true rfl) ?_
  intro p e s m args below meth c ls B hr hlk hin hl hH
  generalize hlocs0 : ([] : List Loc) = locs at hH ⊢
  have hx := B.1
  have hb := B.2.1
  have hl : lv_has ls 8 [(0, .ref th), (1, .int p0), (2, .int p1), (3, .int p2)] := hl
  obtain ⟨hk_th, hp⟩ := hp
  refine lv_aload_n (pc := 0) hx hb dX12_rings_0 rfl (lv_at hl 0 rfl) ?_
  refine sx_getR (pc := 1) (j := 0) B hH hk_th coX12 rfl w_1304 rfl dX12_rings_1 ?_
  refine W.eq (g2 := F0 m 4 ls [va_rf (gR S th 0)]) rfl ?_
  obtain ⟨a_1, ha_1, hp⟩ := hp
  refine sx_nonnull (x := a_1) ha_1 ?_
  refine lv_iload_n (pc := 4) hx hb dX12_rings_4 rfl (lv_at hl 1 rfl) ?_
  refine lv_iconst (pc := 5) (v := 1) hx hb dX12_rings_5 (by decide) ?_
  refine lv_iadd (pc := 6) hx hb dX12_rings_6 ?_
  obtain ⟨hk_2, hp⟩ := hp
  obtain ⟨hn_3, hp⟩ := hp
  refine sx_iald (pc := 7) B hH hk_2 hn_3 dX12_rings_7 ?_
  refine W.eq (g2 := F0 m 8 ls [.int (gI S a_1 ((p0 + 1).toNatClampNeg))]) rfl ?_
  refine lv_topi (fun v_4 ev_4 => ?_)
  have hp := hp v_4 ev_4
  refine lv_istore (pc := 8) (lv' := [(4, .int v_4), (0, .ref th), (1, .int p0), (2, .int p1), (3, .int p2)]) hx hb dX12_rings_8 hl (by decide) rfl (fun ls hl => ?_)
  refine lv_aload_n (pc := 10) hx hb dX12_rings_10 rfl (lv_at hl 1 rfl) ?_
  refine sx_getR (pc := 11) (j := 0) B hH hk_th coX12 rfl w_1304 rfl dX12_rings_11 ?_
  refine W.eq (g2 := F0 m 14 ls [va_rf (gR S th 0)]) rfl ?_
  refine sx_nonnull (x := a_1) ha_1 ?_
  refine lv_iload_n (pc := 14) hx hb dX12_rings_14 rfl (lv_at hl 2 rfl) ?_
  obtain ⟨hn_5, hp⟩ := hp
  refine sx_iald (pc := 15) B hH hk_2 hn_5 dX12_rings_15 ?_
  refine W.eq (g2 := F0 m 16 ls [.int (gI S a_1 p0.toNatClampNeg)]) rfl ?_
  refine lv_iconst (pc := 16) (v := 5) hx hb dX12_rings_16 (by decide) ?_
  obtain ⟨J_7, hj_7, hp⟩ := hp
  have kj_7 : ∀ (t_8 : Int32) (H : Heap) (locs : List Loc) (ls : Array Slot), J_7 t_8 → Hp G (FA S s.heap.size) s.heap S H locs → lv_has ls 8 [(0, .ref th), (1, .int p0), (2, .int p1), (3, .int p2), (4, .int v_4)] → Wm G p l e { frames := 2, cells := 0, slots := 0, locals := 44 } s m args below meth c S QQ 0 0 H locs 0 0 (F0 m 40 ls [.int t_8]) := by
    intro t_8 H locs ls hq9 hH hl
    have hp := hj_7 t_8 hq9
    refine lv_istore (pc := 40) (lv' := [(5, .int t_8), (0, .ref th), (1, .int p0), (2, .int p1), (3, .int p2), (4, .int v_4)]) hx hb dX12_rings_40 hl (by decide) rfl (fun ls hl => ?_)
    refine lv_aload_n (pc := 42) hx hb dX12_rings_42 rfl (lv_at hl 1 rfl) ?_
    refine sx_getR (pc := 43) (j := 0) B hH hk_th coX12 rfl w_1304 rfl dX12_rings_43 ?_
    refine W.eq (g2 := F0 m 46 ls [va_rf (gR S th 0)]) rfl ?_
    refine sx_nonnull (x := a_1) ha_1 ?_
    refine lv_iload_n (pc := 46) hx hb dX12_rings_46 rfl (lv_at hl 2 rfl) ?_
    refine sx_iald (pc := 47) B hH hk_2 hn_5 dX12_rings_47 ?_
    refine W.eq (g2 := F0 m 48 ls [.int (gI S a_1 p0.toNatClampNeg)]) rfl ?_
    refine lv_bipush (pc := 48) (v := 8) hx hb dX12_rings_48 (by decide) ?_
    refine lv_icmp_ne (pc := 50) (tgt := 64) hx hb dX12_rings_50 (by decide) (fun cc_9 => ?_) (fun cc_9 => ?_)
    · have hp := hp.1 cc_9
      refine lv_aload_n (pc := 64) hx hb dX12_rings_64 rfl (lv_at hl 1 rfl) ?_
      refine lv_iload (pc := 65) hx hb dX12_rings_65 (lv_at hl 5 rfl) ?_
      refine sx_V (pc := 67) (As := [.int v_4]) (rest := []) B hH hl.1 (C_X12_changesOf G l th v_4 _ _ hp) mi_X12_changesOf coX12 hk_th w_1749 w_87 w_1747 rfl rfl ⟨Nat.le_of_ble_eq_true rfl, Nat.le_of_ble_eq_true rfl⟩ (Nat.le_of_ble_eq_true rfl) ⟨Nat.le_of_ble_eq_true rfl, Nat.le_of_ble_eq_true rfl⟩ dX12_rings_67 (fun v S1 H locs hq hH => ?_)
      obtain ⟨r_10, rfl, e9, hp⟩ := hq
      rw [e9] at hH
      refine W.eq (g2 := F0 m 70 ls [.int r_10]) rfl ?_
      refine lv_istore (pc := 70) (lv' := [(6, .int r_10), (5, .int t_8), (0, .ref th), (1, .int p0), (2, .int p1), (3, .int p2), (4, .int v_4)]) hx hb dX12_rings_70 hl (by decide) rfl (fun ls hl => ?_)
      refine lv_iconst (pc := 72) (v := 0) hx hb dX12_rings_72 (by decide) ?_
      refine lv_istore (pc := 73) (lv' := [(7, .int 0), (6, .int r_10), (5, .int t_8), (0, .ref th), (1, .int p0), (2, .int p1), (3, .int p2), (4, .int v_4)]) hx hb dX12_rings_73 hl (by decide) rfl (fun ls hl => ?_)
      obtain ⟨I_11, ⟨k0_11, h0_11⟩, hst_11⟩ := hp
      have kl_11 : ∀ (n_11 : Nat) (x7_12 : Int32) (F_13 : Nat → Nat → Int32) (H : Heap) (locs : List Loc) (ls : Array Slot), I_11 n_11 x7_12 F_13 → Hp G (FA S s.heap.size) s.heap (wI S F_13) H locs → lv_has ls 8 [(0, .ref th), (2, .int p1), (3, .int p2), (4, .int v_4), (5, .int t_8), (6, .int r_10), (7, .int x7_12)] → Wm G p l e { frames := 2, cells := 0, slots := 0, locals := 44 } s m args below meth c S QQ 0 0 H locs 0 0 (F0 m 75 ls []) := by
        intro n_11
        induction n_11 using Nat.strongRecOn with
        | ind n_11 ih_11 =>
          intro x7_12 F_13 H locs ls hq9 hH hl
          have hp := hst_11 n_11 x7_12 F_13 hq9
          refine lv_iload (pc := 75) hx hb dX12_rings_75 (lv_at hl 6 rfl) ?_
          refine lv_iload (pc := 77) hx hb dX12_rings_77 (lv_at hl 5 rfl) ?_
          refine lv_icmp_ge (pc := 79) (tgt := 153) hx hb dX12_rings_79 (by decide) (fun cc_14 => ?_) (fun cc_14 => ?_)
          · have hp := hp.1 cc_14
            refine lv_iconst (pc := 153) (v := 1) hx hb dX12_rings_153 (by decide) ?_
            exact sx_zret (pc := 154) B hH hr hlk (Or.inr rfl) (by rw [← hQQ]; exact ⟨_, F_13, rfl, rfl, hp⟩) (Nat.le_of_ble_eq_true rfl) (Nat.le_of_ble_eq_true rfl) dX12_rings_154
          · have hp := hp.2 cc_14
            refine lv_aload_n (pc := 82) hx hb dX12_rings_82 rfl (lv_at hl 0 rfl) ?_
            refine sx_getI (pc := 83) (j := 32) B hH hk_th coX12 rfl w_1336 rfl dX12_rings_83 ?_
            refine W.eq (g2 := F0 m 86 ls [.int (F_13 th 32)]) rfl ?_
            refine lv_sipush (pc := 86) (v := 2000) hx hb dX12_rings_86 (by decide) ?_
            refine lv_icmp_ne (pc := 89) (tgt := 94) hx hb dX12_rings_89 (by decide) (fun cc_15 => ?_) (fun cc_15 => ?_)
            · have hp := hp.1 cc_15
              refine lv_aload_n (pc := 94) hx hb dX12_rings_94 rfl (lv_at hl 0 rfl) ?_
              refine lv_aload_n (pc := 95) hx hb dX12_rings_95 rfl (lv_at hl 0 rfl) ?_
              refine lv_iload (pc := 96) hx hb dX12_rings_96 (lv_at hl 3 rfl) ?_
              refine lv_iload (pc := 98) hx hb dX12_rings_98 (lv_at hl 4 rfl) ?_
              refine lv_iload (pc := 100) hx hb dX12_rings_100 (lv_at hl 6 rfl) ?_
              refine sx_V (pc := 102) (As := [.int v_4, .int t_8, .int x7_12]) (rest := [.ref th]) B hH hl.1 (C_X12_changeOf G l th v_4 t_8 x7_12 _ _ hp) mi_X12_changeOf coX12 hk_th w_1760 w_88 w_1758 rfl rfl ⟨Nat.le_of_ble_eq_true rfl, Nat.le_of_ble_eq_true rfl⟩ (Nat.le_of_ble_eq_true rfl) ⟨Nat.le_of_ble_eq_true rfl, Nat.le_of_ble_eq_true rfl⟩ dX12_rings_102 (fun v S1 H locs hq hH => ?_)
              obtain ⟨r_16, rfl, e9, hp⟩ := hq
              rw [e9] at hH
              refine W.eq (g2 := F0 m 105 ls [.int r_16, .ref th]) rfl ?_
              refine lv_aload_n (pc := 105) hx hb dX12_rings_105 rfl (lv_at hl 0 rfl) ?_
              refine lv_iload_n (pc := 106) hx hb dX12_rings_106 rfl (lv_at hl 1 rfl) ?_
              refine sx_V (pc := 107) (As := [.int p1]) (rest := [.int r_16, .ref th]) B hH hl.1 (C_X12_strays G l th p1 _ _ hp) mi_X12_strays coX12 hk_th w_1824 w_94 w_1822 rfl rfl ⟨Nat.le_of_ble_eq_true rfl, Nat.le_of_ble_eq_true rfl⟩ (Nat.le_of_ble_eq_true rfl) ⟨Nat.le_of_ble_eq_true rfl, Nat.le_of_ble_eq_true rfl⟩ dX12_rings_107 (fun v S1 H locs hq hH => ?_)
              obtain ⟨r_17, F_17, rfl, e9, hp⟩ := hq
              rw [e9] at hH
              have hH : Hp G (FA S s.heap.size) s.heap (wI S F_17) H locs := hH
              refine W.eq (g2 := F0 m 110 ls [.int r_17, .int r_16, .ref th]) rfl ?_
              refine sx_V (pc := 110) (As := [.int r_16, .int r_17]) (rest := []) B hH hl.1 (C_X12_changes0 G l th r_16 r_17 _ _ hp) mi_X12_changes0 coX12 hk_th w_1712 w_83 w_1710 rfl rfl ⟨Nat.le_of_ble_eq_true rfl, Nat.le_of_ble_eq_true rfl⟩ (Nat.le_of_ble_eq_true rfl) ⟨Nat.le_of_ble_eq_true rfl, Nat.le_of_ble_eq_true rfl⟩ dX12_rings_110 (fun v S1 H locs hq hH => ?_)
              obtain ⟨F_18, rfl, e9, hp⟩ := hq
              rw [e9] at hH
              have hH : Hp G (FA S s.heap.size) s.heap (wI S F_18) H locs := hH
              refine W.eq (g2 := F0 m 113 ls []) rfl ?_
              refine lv_aload_n (pc := 113) hx hb dX12_rings_113 rfl (lv_at hl 0 rfl) ?_
              refine lv_dup (pc := 114) hx hb dX12_rings_114 rfl ?_
              refine sx_getI (pc := 115) (j := 32) B hH hk_th coX12 rfl w_1336 rfl dX12_rings_115 ?_
              refine W.eq (g2 := F0 m 118 ls [.int (F_18 th 32), .ref th]) rfl ?_
              refine lv_iconst (pc := 118) (v := 1) hx hb dX12_rings_118 (by decide) ?_
              refine lv_iadd (pc := 119) hx hb dX12_rings_119 ?_
              refine lv_topi (fun v_19 ev_19 => ?_)
              have hp := hp v_19 ev_19
              obtain ⟨F_20, eF_20⟩ : ∃ z : Nat → Nat → Int32, z = upI F_18 th 32 v_19 := ⟨_, rfl⟩
              have hp := hp F_20 eF_20
              refine sx_putI (pc := 120) (j := 32) B hH hk_th coX12 rfl w_1336 rfl (Or.inl rfl) rfl dX12_rings_120 (fun H locs hH => ?_)
              have hH : Hp G (FA S s.heap.size) s.heap (wI S F_20) H locs := by rw [eF_20]; exact hH
              refine lv_iload_n (pc := 123) hx hb dX12_rings_123 rfl (lv_at hl 2 rfl) ?_
              refine lv_iconst (pc := 124) (v := (-1)) hx hb dX12_rings_124 (by decide) ?_
              refine lv_icmp_eq (pc := 125) (tgt := 147) hx hb dX12_rings_125 (by decide) (fun cc_21 => ?_) (fun cc_21 => ?_)
              · have hp := hp.1 cc_21
                obtain ⟨v_22, ev_22⟩ : ∃ y : Int32, y = x7_12 + 1 := ⟨_, rfl⟩
                have hp := hp v_22 ev_22
                refine lv_iinc (pc := 147) (v := v_22) (lv' := [(7, .int v_22), (0, .ref th), (2, .int p1), (3, .int p2), (4, .int v_4), (5, .int t_8), (6, .int r_10)]) hx hb dX12_rings_147 hl (k := 6) rfl (by rw [ev_22]; rfl) (by decide) rfl (fun ls hl => ?_)
                refine lv_goto (pc := 150) (tgt := 75) hx hb dX12_rings_150 (by decide) ?_
                obtain ⟨k9, hlt9, hp⟩ := hp
                exact ih_11 k9 hlt9 _ _ _ _ _ hp hH (lv_sub hl [1, 2, 3, 4, 5, 6, 0] rfl)
              · have hp := hp.2 cc_21
                refine lv_aload_n (pc := 128) hx hb dX12_rings_128 rfl (lv_at hl 0 rfl) ?_
                refine sx_getR (pc := 129) (j := 0) B hH hk_th coX12 rfl w_1304 rfl dX12_rings_129 ?_
                refine W.eq (g2 := F0 m 132 ls [va_rf (gR S th 0)]) rfl ?_
                refine sx_nonnull (x := a_1) ha_1 ?_
                refine lv_iload_n (pc := 132) hx hb dX12_rings_132 rfl (lv_at hl 2 rfl) ?_
                refine lv_aload_n (pc := 133) hx hb dX12_rings_133 rfl (lv_at hl 0 rfl) ?_
                refine sx_getI (pc := 134) (j := 32) B hH hk_th coX12 rfl w_1336 rfl dX12_rings_134 ?_
                refine W.eq (g2 := F0 m 137 ls [.int (F_20 th 32), .int p2, .ref a_1]) rfl ?_
                refine lv_iadd (pc := 137) hx hb dX12_rings_137 ?_
                refine lv_aload_n (pc := 138) hx hb dX12_rings_138 rfl (lv_at hl 0 rfl) ?_
                refine lv_aload_n (pc := 139) hx hb dX12_rings_139 rfl (lv_at hl 0 rfl) ?_
                refine sx_getR (pc := 140) (j := 23) B hH hk_th coX12 rfl w_1327 rfl dX12_rings_140 ?_
                refine W.eq (g2 := F0 m 143 ls [va_rf (gR S th 23), .ref th, .int (p2 + (F_20 th 32)), .ref a_1]) rfl ?_
                obtain ⟨a_23, ha_23, hp⟩ := hp
                refine sx_nonnull (x := a_23) ha_23 ?_
                refine sx_V (pc := 143) (As := [.ref a_23]) (rest := [.int (p2 + (F_20 th 32)), .ref a_1]) B hH hl.1 (C_X12_numberOf G l th a_23 _ _ hp) mi_X12_numberOf coX12 hk_th w_1668 w_77 w_1666 rfl rfl ⟨Nat.le_of_ble_eq_true rfl, Nat.le_of_ble_eq_true rfl⟩ (Nat.le_of_ble_eq_true rfl) ⟨Nat.le_of_ble_eq_true rfl, Nat.le_of_ble_eq_true rfl⟩ dX12_rings_143 (fun v S1 H locs hq hH => ?_)
                obtain ⟨r_24, rfl, e9, hp⟩ := hq
                rw [e9] at hH
                refine W.eq (g2 := F0 m 146 ls [.int r_24, .int (p2 + (F_20 th 32)), .ref a_1]) rfl ?_
                obtain ⟨hn_25, hp⟩ := hp
                obtain ⟨F_26, eF_26⟩ : ∃ z : Nat → Nat → Int32, z = upI F_20 a_1 ((p2 + (F_20 th 32)).toNatClampNeg) r_24 := ⟨_, rfl⟩
                have hp := hp F_26 eF_26
                refine sx_iast (pc := 146) B hH hk_2 hn_25 dX12_rings_146 (fun H locs hH => ?_)
                have hH : Hp G (FA S s.heap.size) s.heap (wI S F_26) H locs := by rw [eF_26]; exact hH
                obtain ⟨v_27, ev_27⟩ : ∃ y : Int32, y = x7_12 + 1 := ⟨_, rfl⟩
                have hp := hp v_27 ev_27
                refine lv_iinc (pc := 147) (v := v_27) (lv' := [(7, .int v_27), (0, .ref th), (2, .int p1), (3, .int p2), (4, .int v_4), (5, .int t_8), (6, .int r_10)]) hx hb dX12_rings_147 hl (k := 6) rfl (by rw [ev_27]; rfl) (by decide) rfl (fun ls hl => ?_)
                refine lv_goto (pc := 150) (tgt := 75) hx hb dX12_rings_150 (by decide) ?_
                obtain ⟨k9, hlt9, hp⟩ := hp
                exact ih_11 k9 hlt9 _ _ _ _ _ hp hH (lv_sub hl [1, 2, 3, 4, 5, 6, 0] rfl)
            · have hp := hp.2 cc_15
              refine lv_iconst (pc := 92) (v := 0) hx hb dX12_rings_92 (by decide) ?_
              exact sx_zret (pc := 93) B hH hr hlk (Or.inl rfl) (by rw [← hQQ]; exact ⟨_, F_13, rfl, rfl, hp⟩) (Nat.le_of_ble_eq_true rfl) (Nat.le_of_ble_eq_true rfl) dX12_rings_93
      exact kl_11 k0_11 _ _ _ _ _ h0_11 hH (lv_sub hl [3, 5, 6, 7, 2, 1, 0] rfl)
    · have hp := hp.2 cc_9
      refine lv_aload_n (pc := 53) hx hb dX12_rings_53 rfl (lv_at hl 1 rfl) ?_
      refine sx_getR (pc := 54) (j := 0) B hH hk_th coX12 rfl w_1304 rfl dX12_rings_54 ?_
      refine W.eq (g2 := F0 m 57 ls [va_rf (gR S th 0)]) rfl ?_
      refine sx_nonnull (x := a_1) ha_1 ?_
      refine lv_iload_n (pc := 57) hx hb dX12_rings_57 rfl (lv_at hl 2 rfl) ?_
      refine lv_iconst (pc := 58) (v := 2) hx hb dX12_rings_58 (by decide) ?_
      refine lv_iadd (pc := 59) hx hb dX12_rings_59 ?_
      obtain ⟨hn_28, hp⟩ := hp
      refine sx_iald (pc := 60) B hH hk_2 hn_28 dX12_rings_60 ?_
      refine W.eq (g2 := F0 m 61 ls [.int (gI S a_1 ((p0 + 2).toNatClampNeg))]) rfl ?_
      refine lv_goto (pc := 61) (tgt := 70) hx hb dX12_rings_61 (by decide) ?_
      refine lv_topi (fun v_29 ev_29 => ?_)
      have hp := hp v_29 ev_29
      refine lv_istore (pc := 70) (lv' := [(6, .int v_29), (5, .int t_8), (0, .ref th), (1, .int p0), (2, .int p1), (3, .int p2), (4, .int v_4)]) hx hb dX12_rings_70 hl (by decide) rfl (fun ls hl => ?_)
      refine lv_iconst (pc := 72) (v := 0) hx hb dX12_rings_72 (by decide) ?_
      refine lv_istore (pc := 73) (lv' := [(7, .int 0), (6, .int v_29), (5, .int t_8), (0, .ref th), (1, .int p0), (2, .int p1), (3, .int p2), (4, .int v_4)]) hx hb dX12_rings_73 hl (by decide) rfl (fun ls hl => ?_)
      obtain ⟨I_30, ⟨k0_30, h0_30⟩, hst_30⟩ := hp
      have kl_30 : ∀ (n_30 : Nat) (x7_31 : Int32) (F_32 : Nat → Nat → Int32) (H : Heap) (locs : List Loc) (ls : Array Slot), I_30 n_30 x7_31 F_32 → Hp G (FA S s.heap.size) s.heap (wI S F_32) H locs → lv_has ls 8 [(0, .ref th), (2, .int p1), (3, .int p2), (4, .int v_4), (5, .int t_8), (6, .int v_29), (7, .int x7_31)] → Wm G p l e { frames := 2, cells := 0, slots := 0, locals := 44 } s m args below meth c S QQ 0 0 H locs 0 0 (F0 m 75 ls []) := by
        intro n_30
        induction n_30 using Nat.strongRecOn with
        | ind n_30 ih_30 =>
          intro x7_31 F_32 H locs ls hq9 hH hl
          have hp := hst_30 n_30 x7_31 F_32 hq9
          refine lv_iload (pc := 75) hx hb dX12_rings_75 (lv_at hl 6 rfl) ?_
          refine lv_iload (pc := 77) hx hb dX12_rings_77 (lv_at hl 5 rfl) ?_
          refine lv_icmp_ge (pc := 79) (tgt := 153) hx hb dX12_rings_79 (by decide) (fun cc_33 => ?_) (fun cc_33 => ?_)
          · have hp := hp.1 cc_33
            refine lv_iconst (pc := 153) (v := 1) hx hb dX12_rings_153 (by decide) ?_
            exact sx_zret (pc := 154) B hH hr hlk (Or.inr rfl) (by rw [← hQQ]; exact ⟨_, F_32, rfl, rfl, hp⟩) (Nat.le_of_ble_eq_true rfl) (Nat.le_of_ble_eq_true rfl) dX12_rings_154
          · have hp := hp.2 cc_33
            refine lv_aload_n (pc := 82) hx hb dX12_rings_82 rfl (lv_at hl 0 rfl) ?_
            refine sx_getI (pc := 83) (j := 32) B hH hk_th coX12 rfl w_1336 rfl dX12_rings_83 ?_
            refine W.eq (g2 := F0 m 86 ls [.int (F_32 th 32)]) rfl ?_
            refine lv_sipush (pc := 86) (v := 2000) hx hb dX12_rings_86 (by decide) ?_
            refine lv_icmp_ne (pc := 89) (tgt := 94) hx hb dX12_rings_89 (by decide) (fun cc_34 => ?_) (fun cc_34 => ?_)
            · have hp := hp.1 cc_34
              refine lv_aload_n (pc := 94) hx hb dX12_rings_94 rfl (lv_at hl 0 rfl) ?_
              refine lv_aload_n (pc := 95) hx hb dX12_rings_95 rfl (lv_at hl 0 rfl) ?_
              refine lv_iload (pc := 96) hx hb dX12_rings_96 (lv_at hl 3 rfl) ?_
              refine lv_iload (pc := 98) hx hb dX12_rings_98 (lv_at hl 4 rfl) ?_
              refine lv_iload (pc := 100) hx hb dX12_rings_100 (lv_at hl 6 rfl) ?_
              refine sx_V (pc := 102) (As := [.int v_4, .int t_8, .int x7_31]) (rest := [.ref th]) B hH hl.1 (C_X12_changeOf G l th v_4 t_8 x7_31 _ _ hp) mi_X12_changeOf coX12 hk_th w_1760 w_88 w_1758 rfl rfl ⟨Nat.le_of_ble_eq_true rfl, Nat.le_of_ble_eq_true rfl⟩ (Nat.le_of_ble_eq_true rfl) ⟨Nat.le_of_ble_eq_true rfl, Nat.le_of_ble_eq_true rfl⟩ dX12_rings_102 (fun v S1 H locs hq hH => ?_)
              obtain ⟨r_35, rfl, e9, hp⟩ := hq
              rw [e9] at hH
              refine W.eq (g2 := F0 m 105 ls [.int r_35, .ref th]) rfl ?_
              refine lv_aload_n (pc := 105) hx hb dX12_rings_105 rfl (lv_at hl 0 rfl) ?_
              refine lv_iload_n (pc := 106) hx hb dX12_rings_106 rfl (lv_at hl 1 rfl) ?_
              refine sx_V (pc := 107) (As := [.int p1]) (rest := [.int r_35, .ref th]) B hH hl.1 (C_X12_strays G l th p1 _ _ hp) mi_X12_strays coX12 hk_th w_1824 w_94 w_1822 rfl rfl ⟨Nat.le_of_ble_eq_true rfl, Nat.le_of_ble_eq_true rfl⟩ (Nat.le_of_ble_eq_true rfl) ⟨Nat.le_of_ble_eq_true rfl, Nat.le_of_ble_eq_true rfl⟩ dX12_rings_107 (fun v S1 H locs hq hH => ?_)
              obtain ⟨r_36, F_36, rfl, e9, hp⟩ := hq
              rw [e9] at hH
              have hH : Hp G (FA S s.heap.size) s.heap (wI S F_36) H locs := hH
              refine W.eq (g2 := F0 m 110 ls [.int r_36, .int r_35, .ref th]) rfl ?_
              refine sx_V (pc := 110) (As := [.int r_35, .int r_36]) (rest := []) B hH hl.1 (C_X12_changes0 G l th r_35 r_36 _ _ hp) mi_X12_changes0 coX12 hk_th w_1712 w_83 w_1710 rfl rfl ⟨Nat.le_of_ble_eq_true rfl, Nat.le_of_ble_eq_true rfl⟩ (Nat.le_of_ble_eq_true rfl) ⟨Nat.le_of_ble_eq_true rfl, Nat.le_of_ble_eq_true rfl⟩ dX12_rings_110 (fun v S1 H locs hq hH => ?_)
              obtain ⟨F_37, rfl, e9, hp⟩ := hq
              rw [e9] at hH
              have hH : Hp G (FA S s.heap.size) s.heap (wI S F_37) H locs := hH
              refine W.eq (g2 := F0 m 113 ls []) rfl ?_
              refine lv_aload_n (pc := 113) hx hb dX12_rings_113 rfl (lv_at hl 0 rfl) ?_
              refine lv_dup (pc := 114) hx hb dX12_rings_114 rfl ?_
              refine sx_getI (pc := 115) (j := 32) B hH hk_th coX12 rfl w_1336 rfl dX12_rings_115 ?_
              refine W.eq (g2 := F0 m 118 ls [.int (F_37 th 32), .ref th]) rfl ?_
              refine lv_iconst (pc := 118) (v := 1) hx hb dX12_rings_118 (by decide) ?_
              refine lv_iadd (pc := 119) hx hb dX12_rings_119 ?_
              refine lv_topi (fun v_38 ev_38 => ?_)
              have hp := hp v_38 ev_38
              obtain ⟨F_39, eF_39⟩ : ∃ z : Nat → Nat → Int32, z = upI F_37 th 32 v_38 := ⟨_, rfl⟩
              have hp := hp F_39 eF_39
              refine sx_putI (pc := 120) (j := 32) B hH hk_th coX12 rfl w_1336 rfl (Or.inl rfl) rfl dX12_rings_120 (fun H locs hH => ?_)
              have hH : Hp G (FA S s.heap.size) s.heap (wI S F_39) H locs := by rw [eF_39]; exact hH
              refine lv_iload_n (pc := 123) hx hb dX12_rings_123 rfl (lv_at hl 2 rfl) ?_
              refine lv_iconst (pc := 124) (v := (-1)) hx hb dX12_rings_124 (by decide) ?_
              refine lv_icmp_eq (pc := 125) (tgt := 147) hx hb dX12_rings_125 (by decide) (fun cc_40 => ?_) (fun cc_40 => ?_)
              · have hp := hp.1 cc_40
                obtain ⟨v_41, ev_41⟩ : ∃ y : Int32, y = x7_31 + 1 := ⟨_, rfl⟩
                have hp := hp v_41 ev_41
                refine lv_iinc (pc := 147) (v := v_41) (lv' := [(7, .int v_41), (0, .ref th), (2, .int p1), (3, .int p2), (4, .int v_4), (5, .int t_8), (6, .int v_29)]) hx hb dX12_rings_147 hl (k := 6) rfl (by rw [ev_41]; rfl) (by decide) rfl (fun ls hl => ?_)
                refine lv_goto (pc := 150) (tgt := 75) hx hb dX12_rings_150 (by decide) ?_
                obtain ⟨k9, hlt9, hp⟩ := hp
                exact ih_30 k9 hlt9 _ _ _ _ _ hp hH (lv_sub hl [1, 2, 3, 4, 5, 6, 0] rfl)
              · have hp := hp.2 cc_40
                refine lv_aload_n (pc := 128) hx hb dX12_rings_128 rfl (lv_at hl 0 rfl) ?_
                refine sx_getR (pc := 129) (j := 0) B hH hk_th coX12 rfl w_1304 rfl dX12_rings_129 ?_
                refine W.eq (g2 := F0 m 132 ls [va_rf (gR S th 0)]) rfl ?_
                refine sx_nonnull (x := a_1) ha_1 ?_
                refine lv_iload_n (pc := 132) hx hb dX12_rings_132 rfl (lv_at hl 2 rfl) ?_
                refine lv_aload_n (pc := 133) hx hb dX12_rings_133 rfl (lv_at hl 0 rfl) ?_
                refine sx_getI (pc := 134) (j := 32) B hH hk_th coX12 rfl w_1336 rfl dX12_rings_134 ?_
                refine W.eq (g2 := F0 m 137 ls [.int (F_39 th 32), .int p2, .ref a_1]) rfl ?_
                refine lv_iadd (pc := 137) hx hb dX12_rings_137 ?_
                refine lv_aload_n (pc := 138) hx hb dX12_rings_138 rfl (lv_at hl 0 rfl) ?_
                refine lv_aload_n (pc := 139) hx hb dX12_rings_139 rfl (lv_at hl 0 rfl) ?_
                refine sx_getR (pc := 140) (j := 23) B hH hk_th coX12 rfl w_1327 rfl dX12_rings_140 ?_
                refine W.eq (g2 := F0 m 143 ls [va_rf (gR S th 23), .ref th, .int (p2 + (F_39 th 32)), .ref a_1]) rfl ?_
                obtain ⟨a_42, ha_42, hp⟩ := hp
                refine sx_nonnull (x := a_42) ha_42 ?_
                refine sx_V (pc := 143) (As := [.ref a_42]) (rest := [.int (p2 + (F_39 th 32)), .ref a_1]) B hH hl.1 (C_X12_numberOf G l th a_42 _ _ hp) mi_X12_numberOf coX12 hk_th w_1668 w_77 w_1666 rfl rfl ⟨Nat.le_of_ble_eq_true rfl, Nat.le_of_ble_eq_true rfl⟩ (Nat.le_of_ble_eq_true rfl) ⟨Nat.le_of_ble_eq_true rfl, Nat.le_of_ble_eq_true rfl⟩ dX12_rings_143 (fun v S1 H locs hq hH => ?_)
                obtain ⟨r_43, rfl, e9, hp⟩ := hq
                rw [e9] at hH
                refine W.eq (g2 := F0 m 146 ls [.int r_43, .int (p2 + (F_39 th 32)), .ref a_1]) rfl ?_
                obtain ⟨hn_44, hp⟩ := hp
                obtain ⟨F_45, eF_45⟩ : ∃ z : Nat → Nat → Int32, z = upI F_39 a_1 ((p2 + (F_39 th 32)).toNatClampNeg) r_43 := ⟨_, rfl⟩
                have hp := hp F_45 eF_45
                refine sx_iast (pc := 146) B hH hk_2 hn_44 dX12_rings_146 (fun H locs hH => ?_)
                have hH : Hp G (FA S s.heap.size) s.heap (wI S F_45) H locs := by rw [eF_45]; exact hH
                obtain ⟨v_46, ev_46⟩ : ∃ y : Int32, y = x7_31 + 1 := ⟨_, rfl⟩
                have hp := hp v_46 ev_46
                refine lv_iinc (pc := 147) (v := v_46) (lv' := [(7, .int v_46), (0, .ref th), (2, .int p1), (3, .int p2), (4, .int v_4), (5, .int t_8), (6, .int v_29)]) hx hb dX12_rings_147 hl (k := 6) rfl (by rw [ev_46]; rfl) (by decide) rfl (fun ls hl => ?_)
                refine lv_goto (pc := 150) (tgt := 75) hx hb dX12_rings_150 (by decide) ?_
                obtain ⟨k9, hlt9, hp⟩ := hp
                exact ih_30 k9 hlt9 _ _ _ _ _ hp hH (lv_sub hl [1, 2, 3, 4, 5, 6, 0] rfl)
            · have hp := hp.2 cc_34
              refine lv_iconst (pc := 92) (v := 0) hx hb dX12_rings_92 (by decide) ?_
              exact sx_zret (pc := 93) B hH hr hlk (Or.inl rfl) (by rw [← hQQ]; exact ⟨_, F_32, rfl, rfl, hp⟩) (Nat.le_of_ble_eq_true rfl) (Nat.le_of_ble_eq_true rfl) dX12_rings_93
      exact kl_30 k0_30 _ _ _ _ _ h0_30 hH (lv_sub hl [3, 5, 6, 7, 2, 1, 0] rfl)
  refine lv_icmp_ne (pc := 17) (tgt := 24) hx hb dX12_rings_17 (by decide) (fun cc_6 => ?_) (fun cc_6 => ?_)
  · have hp := hp.1 cc_6
    refine lv_aload_n (pc := 24) hx hb dX12_rings_24 rfl (lv_at hl 1 rfl) ?_
    refine sx_getR (pc := 25) (j := 0) B hH hk_th coX12 rfl w_1304 rfl dX12_rings_25 ?_
    refine W.eq (g2 := F0 m 28 ls [va_rf (gR S th 0)]) rfl ?_
    refine sx_nonnull (x := a_1) ha_1 ?_
    refine lv_iload_n (pc := 28) hx hb dX12_rings_28 rfl (lv_at hl 2 rfl) ?_
    refine sx_iald (pc := 29) B hH hk_2 hn_5 dX12_rings_29 ?_
    refine W.eq (g2 := F0 m 30 ls [.int (gI S a_1 p0.toNatClampNeg)]) rfl ?_
    refine lv_bipush (pc := 30) (v := 6) hx hb dX12_rings_30 (by decide) ?_
    refine lv_icmp_ne (pc := 32) (tgt := 39) hx hb dX12_rings_32 (by decide) (fun cc_47 => ?_) (fun cc_47 => ?_)
    · have hp := hp.1 cc_47
      refine lv_iconst (pc := 39) (v := 0) hx hb dX12_rings_39 (by decide) ?_
      exact kj_7 _ _ _ _ hp hH (lv_sub hl [1, 2, 3, 4, 0] rfl)
    · have hp := hp.2 cc_47
      refine lv_iconst (pc := 35) (v := 2) hx hb dX12_rings_35 (by decide) ?_
      refine lv_goto (pc := 36) (tgt := 40) hx hb dX12_rings_36 (by decide) ?_
      exact kj_7 _ _ _ _ hp hH (lv_sub hl [1, 2, 3, 4, 0] rfl)
  · have hp := hp.2 cc_6
    refine lv_iconst (pc := 20) (v := 1) hx hb dX12_rings_20 (by decide) ?_
    refine lv_goto (pc := 21) (tgt := 40) hx hb dX12_rings_21 (by decide) ?_
    exact kj_7 _ _ _ _ hp hH (lv_sub hl [1, 2, 3, 4, 0] rfl)
theorem dX12_behindEnds_0 : decode cX12_behindEnds 0 = .ok (.iload_n 1, 1) := by decide +kernel
theorem dX12_behindEnds_1 : decode cX12_behindEnds 1 = .ok (.istore_n 2, 1) := by decide +kernel
theorem dX12_behindEnds_2 : decode cX12_behindEnds 2 = .ok (.iload_n 2, 1) := by decide +kernel
theorem dX12_behindEnds_3 : decode cX12_behindEnds 3 = .ok (.aload_n 0, 1) := by decide +kernel
theorem dX12_behindEnds_4 : decode cX12_behindEnds 4 = .ok (.getfield 7, 3) := by decide +kernel
theorem dX12_behindEnds_7 : decode cX12_behindEnds 7 = .ok (.iconst 4, 1) := by decide +kernel
theorem dX12_behindEnds_8 : decode cX12_behindEnds 8 = .ok (.iaload, 1) := by decide +kernel
theorem dX12_behindEnds_9 : decode cX12_behindEnds 9 = .ok (.if_icmp .ge 88, 3) := by decide +kernel
theorem dX12_behindEnds_12 : decode cX12_behindEnds 12 = .ok (.aload_n 0, 1) := by decide +kernel
theorem dX12_behindEnds_13 : decode cX12_behindEnds 13 = .ok (.getfield 7, 3) := by decide +kernel
theorem dX12_behindEnds_16 : decode cX12_behindEnds 16 = .ok (.sipush 170, 3) := by decide +kernel
theorem dX12_behindEnds_19 : decode cX12_behindEnds 19 = .ok (.iconst 4, 1) := by decide +kernel
theorem dX12_behindEnds_20 : decode cX12_behindEnds 20 = .ok (.iload_n 2, 1) := by decide +kernel
theorem dX12_behindEnds_21 : decode cX12_behindEnds 21 = .ok (.imul, 1) := by decide +kernel
theorem dX12_behindEnds_22 : decode cX12_behindEnds 22 = .ok (.iadd, 1) := by decide +kernel
theorem dX12_behindEnds_23 : decode cX12_behindEnds 23 = .ok (.iaload, 1) := by decide +kernel
theorem dX12_behindEnds_24 : decode cX12_behindEnds 24 = .ok (.bipush 10, 2) := by decide +kernel
theorem dX12_behindEnds_26 : decode cX12_behindEnds 26 = .ok (.if_icmp .ne 71, 3) := by decide +kernel
theorem dX12_behindEnds_29 : decode cX12_behindEnds 29 = .ok (.aload_n 0, 1) := by decide +kernel
theorem dX12_behindEnds_30 : decode cX12_behindEnds 30 = .ok (.getfield 7, 3) := by decide +kernel
theorem dX12_behindEnds_33 : decode cX12_behindEnds 33 = .ok (.sipush 170, 3) := by decide +kernel
theorem dX12_behindEnds_36 : decode cX12_behindEnds 36 = .ok (.iconst 4, 1) := by decide +kernel
theorem dX12_behindEnds_37 : decode cX12_behindEnds 37 = .ok (.iload_n 2, 1) := by decide +kernel
theorem dX12_behindEnds_38 : decode cX12_behindEnds 38 = .ok (.imul, 1) := by decide +kernel
theorem dX12_behindEnds_39 : decode cX12_behindEnds 39 = .ok (.iadd, 1) := by decide +kernel
theorem dX12_behindEnds_40 : decode cX12_behindEnds 40 = .ok (.iconst 3, 1) := by decide +kernel
theorem dX12_behindEnds_41 : decode cX12_behindEnds 41 = .ok (.iadd, 1) := by decide +kernel
theorem dX12_behindEnds_42 : decode cX12_behindEnds 42 = .ok (.iaload, 1) := by decide +kernel
theorem dX12_behindEnds_43 : decode cX12_behindEnds 43 = .ok (.istore_n 3, 1) := by decide +kernel
theorem dX12_behindEnds_44 : decode cX12_behindEnds 44 = .ok (.aload_n 0, 1) := by decide +kernel
theorem dX12_behindEnds_45 : decode cX12_behindEnds 45 = .ok (.getfield 66, 3) := by decide +kernel
theorem dX12_behindEnds_48 : decode cX12_behindEnds 48 = .ok (.iload_n 3, 1) := by decide +kernel
theorem dX12_behindEnds_49 : decode cX12_behindEnds 49 = .ok (.iaload, 1) := by decide +kernel
theorem dX12_behindEnds_50 : decode cX12_behindEnds 50 = .ok (.ifCond .le 7, 3) := by decide +kernel
theorem dX12_behindEnds_53 : decode cX12_behindEnds 53 = .ok (.iconst 1, 1) := by decide +kernel
theorem dX12_behindEnds_54 : decode cX12_behindEnds 54 = .ok (.goto 4, 3) := by decide +kernel
theorem dX12_behindEnds_57 : decode cX12_behindEnds 57 = .ok (.iconst 0, 1) := by decide +kernel
theorem dX12_behindEnds_58 : decode cX12_behindEnds 58 = .ok (.istore 4, 2) := by decide +kernel
theorem dX12_behindEnds_60 : decode cX12_behindEnds 60 = .ok (.aload_n 0, 1) := by decide +kernel
theorem dX12_behindEnds_61 : decode cX12_behindEnds 61 = .ok (.getfield 66, 3) := by decide +kernel
theorem dX12_behindEnds_64 : decode cX12_behindEnds 64 = .ok (.iload_n 3, 1) := by decide +kernel
theorem dX12_behindEnds_65 : decode cX12_behindEnds 65 = .ok (.dup2, 1) := by decide +kernel
theorem dX12_behindEnds_66 : decode cX12_behindEnds 66 = .ok (.iaload, 1) := by decide +kernel
theorem dX12_behindEnds_67 : decode cX12_behindEnds 67 = .ok (.iload 4, 2) := by decide +kernel
theorem dX12_behindEnds_69 : decode cX12_behindEnds 69 = .ok (.ifCond .eq 7, 3) := by decide +kernel
theorem dX12_behindEnds_72 : decode cX12_behindEnds 72 = .ok (.iconst 1, 1) := by decide +kernel
theorem dX12_behindEnds_73 : decode cX12_behindEnds 73 = .ok (.goto 4, 3) := by decide +kernel
theorem dX12_behindEnds_76 : decode cX12_behindEnds 76 = .ok (.iconst 0, 1) := by decide +kernel
theorem dX12_behindEnds_77 : decode cX12_behindEnds 77 = .ok (.isub, 1) := by decide +kernel
theorem dX12_behindEnds_78 : decode cX12_behindEnds 78 = .ok (.iastore, 1) := by decide +kernel
theorem dX12_behindEnds_79 : decode cX12_behindEnds 79 = .ok (.iload 4, 2) := by decide +kernel
theorem dX12_behindEnds_81 : decode cX12_behindEnds 81 = .ok (.ifCond .eq 9, 3) := by decide +kernel
theorem dX12_behindEnds_84 : decode cX12_behindEnds 84 = .ok (.iload_n 3, 1) := by decide +kernel
theorem dX12_behindEnds_85 : decode cX12_behindEnds 85 = .ok (.iconst 1, 1) := by decide +kernel
theorem dX12_behindEnds_86 : decode cX12_behindEnds 86 = .ok (.iadd, 1) := by decide +kernel
theorem dX12_behindEnds_87 : decode cX12_behindEnds 87 = .ok (.goto 6, 3) := by decide +kernel
theorem dX12_behindEnds_90 : decode cX12_behindEnds 90 = .ok (.iload_n 2, 1) := by decide +kernel
theorem dX12_behindEnds_91 : decode cX12_behindEnds 91 = .ok (.iconst 1, 1) := by decide +kernel
theorem dX12_behindEnds_92 : decode cX12_behindEnds 92 = .ok (.iadd, 1) := by decide +kernel
theorem dX12_behindEnds_93 : decode cX12_behindEnds 93 = .ok (.istore_n 2, 1) := by decide +kernel
theorem dX12_behindEnds_94 : decode cX12_behindEnds 94 = .ok (.goto (-92), 3) := by decide +kernel
theorem dX12_behindEnds_97 : decode cX12_behindEnds 97 = .ok (.iload_n 2, 1) := by decide +kernel
theorem dX12_behindEnds_98 : decode cX12_behindEnds 98 = .ok (.ireturn, 1) := by decide +kernel
theorem mi_X12_behindEnds : MI yX12_behindEnds cX12_behindEnds 5 (some FieldType.int) 1 := ⟨w_1830, w_118, by decide +kernel, by decide +kernel, by decide +kernel⟩
set_option maxRecDepth 100000 in
set_option maxHeartbeats 4000000 in
theorem C_X12_behindEnds (G : GG) (l : Launch) (th : Nat) (p0 : Int32) (S : St) (Q : Int32 → (Nat → Nat → Int32) → Prop) (hp : P_X12_behindEnds th p0 S Q) : Ctr G l yX12_behindEnds cX12_behindEnds 5 (some FieldType.int) 0 0 0 0 [.ref th, .int p0] S (fun (v : Option Value) (S9 : St) => ∃ (r : Int32) (I9 : Nat → Nat → Int32), v = some (.int r) ∧ S9 = wI S I9 ∧ Q r I9) := by
  generalize hQQ : (fun (v : Option Value) (S9 : St) => ∃ (r : Int32) (I9 : Nat → Nat → Int32), v = some (.int r) ∧ S9 = wI S I9 ∧ Q r I9) = QQ
  unfold P_X12_behindEnds at hp
  refine Ctr.of (by decide) (Nat.le_of_ble_eq_true rfl) ?_
  intro p e s m args below meth c ls B hr hlk hin hl hH
  generalize hlocs0 : ([] : List Loc) = locs at hH ⊢
  have hx := B.1
  have hb := B.2.1
  have hl : lv_has ls 5 [(0, .ref th), (1, .int p0)] := hl
  obtain ⟨hk_th, hp⟩ := hp
  refine lv_iload_n (pc := 0) hx hb dX12_behindEnds_0 rfl (lv_at hl 1 rfl) ?_
  refine lv_istore_n (pc := 1) (lv' := [(2, .int p0), (0, .ref th), (1, .int p0)]) hx hb dX12_behindEnds_1 rfl hl (by decide) rfl (fun ls hl => ?_)
  obtain ⟨I_1, ⟨k0_1, h0_1⟩, hst_1⟩ := hp
  have kl_1 : ∀ (n_1 : Nat) (x2_2 : Int32) (F_3 : Nat → Nat → Int32) (H : Heap) (locs : List Loc) (ls : Array Slot), I_1 n_1 x2_2 F_3 → Hp G (FA S s.heap.size) s.heap (wI S F_3) H locs → lv_has ls 5 [(0, .ref th), (2, .int x2_2)] → Wm G p l e { frames := 0, cells := 0, slots := 0, locals := 0 } s m args below meth c S QQ 0 0 H locs 0 0 (F0 m 2 ls []) := by
    intro n_1
    induction n_1 using Nat.strongRecOn with
    | ind n_1 ih_1 =>
      intro x2_2 F_3 H locs ls hq9 hH hl
      have hp := hst_1 n_1 x2_2 F_3 hq9
      refine lv_iload_n (pc := 2) hx hb dX12_behindEnds_2 rfl (lv_at hl 1 rfl) ?_
      refine lv_aload_n (pc := 3) hx hb dX12_behindEnds_3 rfl (lv_at hl 0 rfl) ?_
      refine sx_getR (pc := 4) (j := 0) B hH hk_th coX12 rfl w_1304 rfl dX12_behindEnds_4 ?_
      refine W.eq (g2 := F0 m 7 ls [va_rf (gR S th 0), .int x2_2]) rfl ?_
      obtain ⟨a_4, ha_4, hp⟩ := hp
      refine sx_nonnull (x := a_4) ha_4 ?_
      refine lv_iconst (pc := 7) (v := 4) hx hb dX12_behindEnds_7 (by decide) ?_
      obtain ⟨hk_5, hp⟩ := hp
      obtain ⟨hn_6, hp⟩ := hp
      refine sx_iald (pc := 8) B hH hk_5 hn_6 dX12_behindEnds_8 ?_
      refine W.eq (g2 := F0 m 9 ls [.int (F_3 a_4 4), .int x2_2]) rfl ?_
      refine lv_icmp_ge (pc := 9) (tgt := 97) hx hb dX12_behindEnds_9 (by decide) (fun cc_7 => ?_) (fun cc_7 => ?_)
      · have hp := hp.1 cc_7
        refine lv_iload_n (pc := 97) hx hb dX12_behindEnds_97 rfl (lv_at hl 1 rfl) ?_
        exact sx_iret (pc := 98) B hH hr hlk (by rw [← hQQ]; exact ⟨_, F_3, rfl, rfl, hp⟩) (Nat.le_of_ble_eq_true rfl) (Nat.le_of_ble_eq_true rfl) dX12_behindEnds_98
      · have hp := hp.2 cc_7
        refine lv_aload_n (pc := 12) hx hb dX12_behindEnds_12 rfl (lv_at hl 0 rfl) ?_
        refine sx_getR (pc := 13) (j := 0) B hH hk_th coX12 rfl w_1304 rfl dX12_behindEnds_13 ?_
        refine W.eq (g2 := F0 m 16 ls [va_rf (gR S th 0)]) rfl ?_
        refine sx_nonnull (x := a_4) ha_4 ?_
        refine lv_sipush (pc := 16) (v := 170) hx hb dX12_behindEnds_16 (by decide) ?_
        refine lv_iconst (pc := 19) (v := 4) hx hb dX12_behindEnds_19 (by decide) ?_
        refine lv_iload_n (pc := 20) hx hb dX12_behindEnds_20 rfl (lv_at hl 1 rfl) ?_
        refine lv_imul (pc := 21) hx hb dX12_behindEnds_21 ?_
        refine lv_iadd (pc := 22) hx hb dX12_behindEnds_22 ?_
        obtain ⟨hn_8, hp⟩ := hp
        refine sx_iald (pc := 23) B hH hk_5 hn_8 dX12_behindEnds_23 ?_
        refine W.eq (g2 := F0 m 24 ls [.int (F_3 a_4 ((170 + (4 * x2_2)).toNatClampNeg))]) rfl ?_
        refine lv_bipush (pc := 24) (v := 10) hx hb dX12_behindEnds_24 (by decide) ?_
        refine lv_icmp_ne (pc := 26) (tgt := 97) hx hb dX12_behindEnds_26 (by decide) (fun cc_9 => ?_) (fun cc_9 => ?_)
        · have hp := hp.1 cc_9
          refine lv_iload_n (pc := 97) hx hb dX12_behindEnds_97 rfl (lv_at hl 1 rfl) ?_
          exact sx_iret (pc := 98) B hH hr hlk (by rw [← hQQ]; exact ⟨_, F_3, rfl, rfl, hp⟩) (Nat.le_of_ble_eq_true rfl) (Nat.le_of_ble_eq_true rfl) dX12_behindEnds_98
        · have hp := hp.2 cc_9
          refine lv_aload_n (pc := 29) hx hb dX12_behindEnds_29 rfl (lv_at hl 0 rfl) ?_
          refine sx_getR (pc := 30) (j := 0) B hH hk_th coX12 rfl w_1304 rfl dX12_behindEnds_30 ?_
          refine W.eq (g2 := F0 m 33 ls [va_rf (gR S th 0)]) rfl ?_
          refine sx_nonnull (x := a_4) ha_4 ?_
          refine lv_sipush (pc := 33) (v := 170) hx hb dX12_behindEnds_33 (by decide) ?_
          refine lv_iconst (pc := 36) (v := 4) hx hb dX12_behindEnds_36 (by decide) ?_
          refine lv_iload_n (pc := 37) hx hb dX12_behindEnds_37 rfl (lv_at hl 1 rfl) ?_
          refine lv_imul (pc := 38) hx hb dX12_behindEnds_38 ?_
          refine lv_iadd (pc := 39) hx hb dX12_behindEnds_39 ?_
          refine lv_iconst (pc := 40) (v := 3) hx hb dX12_behindEnds_40 (by decide) ?_
          refine lv_iadd (pc := 41) hx hb dX12_behindEnds_41 ?_
          obtain ⟨hn_10, hp⟩ := hp
          refine sx_iald (pc := 42) B hH hk_5 hn_10 dX12_behindEnds_42 ?_
          refine W.eq (g2 := F0 m 43 ls [.int (F_3 a_4 (((170 + (4 * x2_2)) + 3).toNatClampNeg))]) rfl ?_
          refine lv_topi (fun v_11 ev_11 => ?_)
          have hp := hp v_11 ev_11
          refine lv_istore_n (pc := 43) (lv' := [(3, .int v_11), (0, .ref th), (2, .int x2_2)]) hx hb dX12_behindEnds_43 rfl hl (by decide) rfl (fun ls hl => ?_)
          refine lv_aload_n (pc := 44) hx hb dX12_behindEnds_44 rfl (lv_at hl 1 rfl) ?_
          refine sx_getR (pc := 45) (j := 30) B hH hk_th coX12 rfl w_1334 rfl dX12_behindEnds_45 ?_
          refine W.eq (g2 := F0 m 48 ls [va_rf (gR S th 30)]) rfl ?_
          obtain ⟨a_12, ha_12, hp⟩ := hp
          refine sx_nonnull (x := a_12) ha_12 ?_
          refine lv_iload_n (pc := 48) hx hb dX12_behindEnds_48 rfl (lv_at hl 0 rfl) ?_
          obtain ⟨hk_13, hp⟩ := hp
          obtain ⟨hn_14, hp⟩ := hp
          refine sx_iald (pc := 49) B hH hk_13 hn_14 dX12_behindEnds_49 ?_
          refine W.eq (g2 := F0 m 50 ls [.int (F_3 a_12 v_11.toNatClampNeg)]) rfl ?_
          obtain ⟨J_16, hj_16, hp⟩ := hp
          have kj_16 : ∀ (t_17 : Int32) (H : Heap) (locs : List Loc) (ls : Array Slot), J_16 t_17 → Hp G (FA S s.heap.size) s.heap (wI S F_3) H locs → lv_has ls 5 [(0, .ref th), (2, .int x2_2), (3, .int v_11)] → Wm G p l e { frames := 0, cells := 0, slots := 0, locals := 0 } s m args below meth c S QQ 0 0 H locs 0 0 (F0 m 58 ls [.int t_17]) := by
            intro t_17 H locs ls hq9 hH hl
            have hp := hj_16 t_17 hq9
            refine lv_istore (pc := 58) (lv' := [(4, .int t_17), (0, .ref th), (2, .int x2_2), (3, .int v_11)]) hx hb dX12_behindEnds_58 hl (by decide) rfl (fun ls hl => ?_)
            refine lv_aload_n (pc := 60) hx hb dX12_behindEnds_60 rfl (lv_at hl 1 rfl) ?_
            refine sx_getR (pc := 61) (j := 30) B hH hk_th coX12 rfl w_1334 rfl dX12_behindEnds_61 ?_
            refine W.eq (g2 := F0 m 64 ls [va_rf (gR S th 30)]) rfl ?_
            refine sx_nonnull (x := a_12) ha_12 ?_
            refine lv_iload_n (pc := 64) hx hb dX12_behindEnds_64 rfl (lv_at hl 3 rfl) ?_
            refine lv_dup2_11 (pc := 65) hx hb dX12_behindEnds_65 rfl rfl ?_
            refine sx_iald (pc := 66) B hH hk_13 hn_14 dX12_behindEnds_66 ?_
            refine W.eq (g2 := F0 m 67 ls [.int (F_3 a_12 v_11.toNatClampNeg), .int v_11, .ref a_12]) rfl ?_
            refine lv_iload (pc := 67) hx hb dX12_behindEnds_67 (lv_at hl 0 rfl) ?_
            obtain ⟨J_19, hj_19, hp⟩ := hp
            have kj_19 : ∀ (t_20 : Int32) (H : Heap) (locs : List Loc) (ls : Array Slot), J_19 t_20 → Hp G (FA S s.heap.size) s.heap (wI S F_3) H locs → lv_has ls 5 [(0, .ref th), (2, .int x2_2), (3, .int v_11), (4, .int t_17)] → Wm G p l e { frames := 0, cells := 0, slots := 0, locals := 0 } s m args below meth c S QQ 0 0 H locs 0 0 (F0 m 77 ls [.int t_20, .int (F_3 a_12 v_11.toNatClampNeg), .int v_11, .ref a_12]) := by
              intro t_20 H locs ls hq9 hH hl
              have hp := hj_19 t_20 hq9
              refine lv_isub (pc := 77) hx hb dX12_behindEnds_77 ?_
              refine lv_topi (fun v_21 ev_21 => ?_)
              have hp := hp v_21 ev_21
              obtain ⟨F_22, eF_22⟩ : ∃ z : Nat → Nat → Int32, z = upI F_3 a_12 v_11.toNatClampNeg v_21 := ⟨_, rfl⟩
              have hp := hp F_22 eF_22
              refine sx_iast (pc := 78) B hH hk_13 hn_14 dX12_behindEnds_78 (fun H locs hH => ?_)
              have hH : Hp G (FA S s.heap.size) s.heap (wI S F_22) H locs := by rw [eF_22]; exact hH
              refine lv_iload (pc := 79) hx hb dX12_behindEnds_79 (lv_at hl 3 rfl) ?_
              refine lv_if_eq (pc := 81) (tgt := 90) hx hb dX12_behindEnds_81 (by decide) (fun cc_23 => ?_) (fun cc_23 => ?_)
              · have hp := hp.1 cc_23
                refine lv_iload_n (pc := 90) hx hb dX12_behindEnds_90 rfl (lv_at hl 1 rfl) ?_
                refine lv_iconst (pc := 91) (v := 1) hx hb dX12_behindEnds_91 (by decide) ?_
                refine lv_iadd (pc := 92) hx hb dX12_behindEnds_92 ?_
                refine lv_topi (fun v_24 ev_24 => ?_)
                have hp := hp v_24 ev_24
                refine lv_istore_n (pc := 93) (lv' := [(2, .int v_24), (0, .ref th), (3, .int v_11), (4, .int t_17)]) hx hb dX12_behindEnds_93 rfl hl (by decide) rfl (fun ls hl => ?_)
                refine lv_goto (pc := 94) (tgt := 2) hx hb dX12_behindEnds_94 (by decide) ?_
                obtain ⟨k9, hlt9, hp⟩ := hp
                exact ih_1 k9 hlt9 _ _ _ _ _ hp hH (lv_sub hl [1, 0] rfl)
              · have hp := hp.2 cc_23
                refine lv_iload_n (pc := 84) hx hb dX12_behindEnds_84 rfl (lv_at hl 2 rfl) ?_
                refine lv_iconst (pc := 85) (v := 1) hx hb dX12_behindEnds_85 (by decide) ?_
                refine lv_iadd (pc := 86) hx hb dX12_behindEnds_86 ?_
                refine lv_goto (pc := 87) (tgt := 93) hx hb dX12_behindEnds_87 (by decide) ?_
                refine lv_topi (fun v_25 ev_25 => ?_)
                have hp := hp v_25 ev_25
                refine lv_istore_n (pc := 93) (lv' := [(2, .int v_25), (0, .ref th), (3, .int v_11), (4, .int t_17)]) hx hb dX12_behindEnds_93 rfl hl (by decide) rfl (fun ls hl => ?_)
                refine lv_goto (pc := 94) (tgt := 2) hx hb dX12_behindEnds_94 (by decide) ?_
                obtain ⟨k9, hlt9, hp⟩ := hp
                exact ih_1 k9 hlt9 _ _ _ _ _ hp hH (lv_sub hl [1, 0] rfl)
            refine lv_if_eq (pc := 69) (tgt := 76) hx hb dX12_behindEnds_69 (by decide) (fun cc_18 => ?_) (fun cc_18 => ?_)
            · have hp := hp.1 cc_18
              refine lv_iconst (pc := 76) (v := 0) hx hb dX12_behindEnds_76 (by decide) ?_
              exact kj_19 _ _ _ _ hp hH (lv_sub hl [1, 2, 3, 0] rfl)
            · have hp := hp.2 cc_18
              refine lv_iconst (pc := 72) (v := 1) hx hb dX12_behindEnds_72 (by decide) ?_
              refine lv_goto (pc := 73) (tgt := 77) hx hb dX12_behindEnds_73 (by decide) ?_
              exact kj_19 _ _ _ _ hp hH (lv_sub hl [1, 2, 3, 0] rfl)
          refine lv_if_le (pc := 50) (tgt := 57) hx hb dX12_behindEnds_50 (by decide) (fun cc_15 => ?_) (fun cc_15 => ?_)
          · have hp := hp.1 cc_15
            refine lv_iconst (pc := 57) (v := 0) hx hb dX12_behindEnds_57 (by decide) ?_
            exact kj_16 _ _ _ _ hp hH (lv_sub hl [1, 2, 0] rfl)
          · have hp := hp.2 cc_15
            refine lv_iconst (pc := 53) (v := 1) hx hb dX12_behindEnds_53 (by decide) ?_
            refine lv_goto (pc := 54) (tgt := 58) hx hb dX12_behindEnds_54 (by decide) ?_
            exact kj_16 _ _ _ _ hp hH (lv_sub hl [1, 2, 0] rfl)
  exact kl_1 k0_1 _ _ _ _ _ h0_1 hH (lv_sub hl [1, 0] rfl)
theorem dX12_ringsAll_0 : decode cX12_ringsAll 0 = .ok (.iconst 0, 1) := by decide +kernel
theorem dX12_ringsAll_1 : decode cX12_ringsAll 1 = .ok (.istore_n 3, 1) := by decide +kernel
theorem dX12_ringsAll_2 : decode cX12_ringsAll 2 = .ok (.iload_n 3, 1) := by decide +kernel
theorem dX12_ringsAll_3 : decode cX12_ringsAll 3 = .ok (.aload_n 0, 1) := by decide +kernel
theorem dX12_ringsAll_4 : decode cX12_ringsAll 4 = .ok (.getfield 7, 3) := by decide +kernel
theorem dX12_ringsAll_7 : decode cX12_ringsAll 7 = .ok (.iconst 0, 1) := by decide +kernel
theorem dX12_ringsAll_8 : decode cX12_ringsAll 8 = .ok (.iaload, 1) := by decide +kernel
theorem dX12_ringsAll_9 : decode cX12_ringsAll 9 = .ok (.if_icmp .ge 16, 3) := by decide +kernel
theorem dX12_ringsAll_12 : decode cX12_ringsAll 12 = .ok (.aload_n 0, 1) := by decide +kernel
theorem dX12_ringsAll_13 : decode cX12_ringsAll 13 = .ok (.getfield 47, 3) := by decide +kernel
theorem dX12_ringsAll_16 : decode cX12_ringsAll 16 = .ok (.iload_n 3, 1) := by decide +kernel
theorem dX12_ringsAll_17 : decode cX12_ringsAll 17 = .ok (.iload_n 3, 1) := by decide +kernel
theorem dX12_ringsAll_18 : decode cX12_ringsAll 18 = .ok (.iastore, 1) := by decide +kernel
theorem dX12_ringsAll_19 : decode cX12_ringsAll 19 = .ok (.iinc 3 1, 3) := by decide +kernel
theorem dX12_ringsAll_22 : decode cX12_ringsAll 22 = .ok (.goto (-20), 3) := by decide +kernel
theorem dX12_ringsAll_25 : decode cX12_ringsAll 25 = .ok (.aload_n 0, 1) := by decide +kernel
theorem dX12_ringsAll_26 : decode cX12_ringsAll 26 = .ok (.iconst 0, 1) := by decide +kernel
theorem dX12_ringsAll_27 : decode cX12_ringsAll 27 = .ok (.putfield 343, 3) := by decide +kernel
theorem dX12_ringsAll_30 : decode cX12_ringsAll 30 = .ok (.iload_n 2, 1) := by decide +kernel
theorem dX12_ringsAll_31 : decode cX12_ringsAll 31 = .ok (.iconst (-1), 1) := by decide +kernel
theorem dX12_ringsAll_32 : decode cX12_ringsAll 32 = .ok (.if_icmp .eq 10, 3) := by decide +kernel
theorem dX12_ringsAll_35 : decode cX12_ringsAll 35 = .ok (.aload_n 0, 1) := by decide +kernel
theorem dX12_ringsAll_36 : decode cX12_ringsAll 36 = .ok (.getfield 7, 3) := by decide +kernel
theorem dX12_ringsAll_39 : decode cX12_ringsAll 39 = .ok (.iload_n 2, 1) := by decide +kernel
theorem dX12_ringsAll_40 : decode cX12_ringsAll 40 = .ok (.iconst 0, 1) := by decide +kernel
theorem dX12_ringsAll_41 : decode cX12_ringsAll 41 = .ok (.iastore, 1) := by decide +kernel
theorem dX12_ringsAll_42 : decode cX12_ringsAll 42 = .ok (.iconst 0, 1) := by decide +kernel
theorem dX12_ringsAll_43 : decode cX12_ringsAll 43 = .ok (.istore_n 3, 1) := by decide +kernel
theorem dX12_ringsAll_44 : decode cX12_ringsAll 44 = .ok (.iconst 1, 1) := by decide +kernel
theorem dX12_ringsAll_45 : decode cX12_ringsAll 45 = .ok (.istore 4, 2) := by decide +kernel
theorem dX12_ringsAll_47 : decode cX12_ringsAll 47 = .ok (.iconst 0, 1) := by decide +kernel
theorem dX12_ringsAll_48 : decode cX12_ringsAll 48 = .ok (.istore 5, 2) := by decide +kernel
theorem dX12_ringsAll_50 : decode cX12_ringsAll 50 = .ok (.iload 5, 2) := by decide +kernel
theorem dX12_ringsAll_52 : decode cX12_ringsAll 52 = .ok (.sipush 300, 3) := by decide +kernel
theorem dX12_ringsAll_55 : decode cX12_ringsAll 55 = .ok (.if_icmp .ge 100, 3) := by decide +kernel
theorem dX12_ringsAll_58 : decode cX12_ringsAll 58 = .ok (.iload 4, 2) := by decide +kernel
theorem dX12_ringsAll_60 : decode cX12_ringsAll 60 = .ok (.ifCond .eq 95, 3) := by decide +kernel
theorem dX12_ringsAll_63 : decode cX12_ringsAll 63 = .ok (.iload_n 3, 1) := by decide +kernel
theorem dX12_ringsAll_64 : decode cX12_ringsAll 64 = .ok (.aload_n 0, 1) := by decide +kernel
theorem dX12_ringsAll_65 : decode cX12_ringsAll 65 = .ok (.getfield 7, 3) := by decide +kernel
theorem dX12_ringsAll_68 : decode cX12_ringsAll 68 = .ok (.iconst 4, 1) := by decide +kernel
theorem dX12_ringsAll_69 : decode cX12_ringsAll 69 = .ok (.iaload, 1) := by decide +kernel
theorem dX12_ringsAll_70 : decode cX12_ringsAll 70 = .ok (.if_icmp .ge 85, 3) := by decide +kernel
theorem dX12_ringsAll_73 : decode cX12_ringsAll 73 = .ok (.aload_n 0, 1) := by decide +kernel
theorem dX12_ringsAll_74 : decode cX12_ringsAll 74 = .ok (.getfield 7, 3) := by decide +kernel
theorem dX12_ringsAll_77 : decode cX12_ringsAll 77 = .ok (.sipush 170, 3) := by decide +kernel
theorem dX12_ringsAll_80 : decode cX12_ringsAll 80 = .ok (.iconst 4, 1) := by decide +kernel
theorem dX12_ringsAll_81 : decode cX12_ringsAll 81 = .ok (.iload_n 3, 1) := by decide +kernel
theorem dX12_ringsAll_82 : decode cX12_ringsAll 82 = .ok (.imul, 1) := by decide +kernel
theorem dX12_ringsAll_83 : decode cX12_ringsAll 83 = .ok (.iadd, 1) := by decide +kernel
theorem dX12_ringsAll_84 : decode cX12_ringsAll 84 = .ok (.iaload, 1) := by decide +kernel
theorem dX12_ringsAll_85 : decode cX12_ringsAll 85 = .ok (.bipush 11, 2) := by decide +kernel
theorem dX12_ringsAll_87 : decode cX12_ringsAll 87 = .ok (.if_icmp .eq 68, 3) := by decide +kernel
theorem dX12_ringsAll_90 : decode cX12_ringsAll 90 = .ok (.sipush 170, 3) := by decide +kernel
theorem dX12_ringsAll_93 : decode cX12_ringsAll 93 = .ok (.iconst 4, 1) := by decide +kernel
theorem dX12_ringsAll_94 : decode cX12_ringsAll 94 = .ok (.iload_n 3, 1) := by decide +kernel
theorem dX12_ringsAll_95 : decode cX12_ringsAll 95 = .ok (.imul, 1) := by decide +kernel
theorem dX12_ringsAll_96 : decode cX12_ringsAll 96 = .ok (.iadd, 1) := by decide +kernel
theorem dX12_ringsAll_97 : decode cX12_ringsAll 97 = .ok (.istore 6, 2) := by decide +kernel
theorem dX12_ringsAll_99 : decode cX12_ringsAll 99 = .ok (.aload_n 0, 1) := by decide +kernel
theorem dX12_ringsAll_100 : decode cX12_ringsAll 100 = .ok (.getfield 7, 3) := by decide +kernel
theorem dX12_ringsAll_103 : decode cX12_ringsAll 103 = .ok (.iload 6, 2) := by decide +kernel
theorem dX12_ringsAll_105 : decode cX12_ringsAll 105 = .ok (.iaload, 1) := by decide +kernel
theorem dX12_ringsAll_106 : decode cX12_ringsAll 106 = .ok (.bipush 9, 2) := by decide +kernel
theorem dX12_ringsAll_108 : decode cX12_ringsAll 108 = .ok (.if_icmp .ne 23, 3) := by decide +kernel
theorem dX12_ringsAll_111 : decode cX12_ringsAll 111 = .ok (.aload_n 0, 1) := by decide +kernel
theorem dX12_ringsAll_112 : decode cX12_ringsAll 112 = .ok (.getfield 66, 3) := by decide +kernel
theorem dX12_ringsAll_115 : decode cX12_ringsAll 115 = .ok (.iload_n 3, 1) := by decide +kernel
theorem dX12_ringsAll_116 : decode cX12_ringsAll 116 = .ok (.aload_n 0, 1) := by decide +kernel
theorem dX12_ringsAll_117 : decode cX12_ringsAll 117 = .ok (.getfield 7, 3) := by decide +kernel
theorem dX12_ringsAll_120 : decode cX12_ringsAll 120 = .ok (.iload 6, 2) := by decide +kernel
theorem dX12_ringsAll_122 : decode cX12_ringsAll 122 = .ok (.iconst 2, 1) := by decide +kernel
theorem dX12_ringsAll_123 : decode cX12_ringsAll 123 = .ok (.iadd, 1) := by decide +kernel
theorem dX12_ringsAll_124 : decode cX12_ringsAll 124 = .ok (.iaload, 1) := by decide +kernel
theorem dX12_ringsAll_125 : decode cX12_ringsAll 125 = .ok (.iconst 1, 1) := by decide +kernel
theorem dX12_ringsAll_126 : decode cX12_ringsAll 126 = .ok (.isub, 1) := by decide +kernel
theorem dX12_ringsAll_127 : decode cX12_ringsAll 127 = .ok (.iastore, 1) := by decide +kernel
theorem dX12_ringsAll_128 : decode cX12_ringsAll 128 = .ok (.goto 13, 3) := by decide +kernel
theorem dX12_ringsAll_131 : decode cX12_ringsAll 131 = .ok (.aload_n 0, 1) := by decide +kernel
theorem dX12_ringsAll_132 : decode cX12_ringsAll 132 = .ok (.iload 6, 2) := by decide +kernel
theorem dX12_ringsAll_134 : decode cX12_ringsAll 134 = .ok (.iload_n 1, 1) := by decide +kernel
theorem dX12_ringsAll_135 : decode cX12_ringsAll 135 = .ok (.iload_n 2, 1) := by decide +kernel
theorem dX12_ringsAll_136 : decode cX12_ringsAll 136 = .ok (.invokevirtual 349, 3) := by decide +kernel
theorem dX12_ringsAll_139 : decode cX12_ringsAll 139 = .ok (.istore 4, 2) := by decide +kernel
theorem dX12_ringsAll_141 : decode cX12_ringsAll 141 = .ok (.aload_n 0, 1) := by decide +kernel
theorem dX12_ringsAll_142 : decode cX12_ringsAll 142 = .ok (.iload_n 3, 1) := by decide +kernel
theorem dX12_ringsAll_143 : decode cX12_ringsAll 143 = .ok (.iconst 1, 1) := by decide +kernel
theorem dX12_ringsAll_144 : decode cX12_ringsAll 144 = .ok (.iadd, 1) := by decide +kernel
theorem dX12_ringsAll_145 : decode cX12_ringsAll 145 = .ok (.invokevirtual 352, 3) := by decide +kernel
theorem dX12_ringsAll_148 : decode cX12_ringsAll 148 = .ok (.istore_n 3, 1) := by decide +kernel
theorem dX12_ringsAll_149 : decode cX12_ringsAll 149 = .ok (.iinc 5 1, 3) := by decide +kernel
theorem dX12_ringsAll_152 : decode cX12_ringsAll 152 = .ok (.goto (-102), 3) := by decide +kernel
theorem dX12_ringsAll_155 : decode cX12_ringsAll 155 = .ok (.aload_n 0, 1) := by decide +kernel
theorem dX12_ringsAll_156 : decode cX12_ringsAll 156 = .ok (.aload_n 0, 1) := by decide +kernel
theorem dX12_ringsAll_157 : decode cX12_ringsAll 157 = .ok (.aload_n 0, 1) := by decide +kernel
theorem dX12_ringsAll_158 : decode cX12_ringsAll 158 = .ok (.getfield 47, 3) := by decide +kernel
theorem dX12_ringsAll_161 : decode cX12_ringsAll 161 = .ok (.invokevirtual 270, 3) := by decide +kernel
theorem dX12_ringsAll_164 : decode cX12_ringsAll 164 = .ok (.putfield 355, 3) := by decide +kernel
theorem dX12_ringsAll_167 : decode cX12_ringsAll 167 = .ok (.return_, 1) := by decide +kernel
theorem mi_X12_ringsAll : MI yX12_ringsAll cX12_ringsAll 7 (none : Option Jvm.ClassFile.FieldType) 2 := ⟨w_1817, w_118, by decide +kernel, by decide +kernel, by decide +kernel⟩
set_option maxRecDepth 100000 in
set_option maxHeartbeats 4000000 in
theorem C_X12_ringsAll (G : GG) (l : Launch) (th : Nat) (p0 : Int32) (p1 : Int32) (S : St) (Q : (Nat → Nat → Int32) → Prop) (hp : P_X12_ringsAll th p0 p1 S Q) : Ctr G l yX12_ringsAll cX12_ringsAll 7 (none : Option Jvm.ClassFile.FieldType) 3 71 0 0 [.ref th, .int p0, .int p1] S (fun (v : Option Value) (S9 : St) => ∃ (I9 : Nat → Nat → Int32), v = none ∧ S9 = wI S I9 ∧ Q I9) := by
  generalize hQQ : (fun (v : Option Value) (S9 : St) => ∃ (I9 : Nat → Nat → Int32), v = none ∧ S9 = wI S I9 ∧ Q I9) = QQ
  unfold P_X12_ringsAll at hp
  refine Ctr.of (by decide) (Nat.le_of_ble_eq_true rfl) ?_
  intro p e s m args below meth c ls B hr hlk hin hl hH
  generalize hlocs0 : ([] : List Loc) = locs at hH ⊢
  have hx := B.1
  have hb := B.2.1
  have hl : lv_has ls 7 [(0, .ref th), (1, .int p0), (2, .int p1)] := hl
  obtain ⟨hk_th, hp⟩ := hp
  refine lv_iconst (pc := 0) (v := 0) hx hb dX12_ringsAll_0 (by decide) ?_
  refine lv_istore_n (pc := 1) (lv' := [(3, .int 0), (0, .ref th), (1, .int p0), (2, .int p1)]) hx hb dX12_ringsAll_1 rfl hl (by decide) rfl (fun ls hl => ?_)
  obtain ⟨I_1, ⟨k0_1, h0_1⟩, hst_1⟩ := hp
  have kl_1 : ∀ (n_1 : Nat) (x3_2 : Int32) (F_3 : Nat → Nat → Int32) (H : Heap) (locs : List Loc) (ls : Array Slot), I_1 n_1 x3_2 F_3 → Hp G (FA S s.heap.size) s.heap (wI S F_3) H locs → lv_has ls 7 [(0, .ref th), (1, .int p0), (2, .int p1), (3, .int x3_2)] → Wm G p l e { frames := 3, cells := 0, slots := 0, locals := 71 } s m args below meth c S QQ 0 0 H locs 0 0 (F0 m 2 ls []) := by
    intro n_1
    induction n_1 using Nat.strongRecOn with
    | ind n_1 ih_1 =>
      intro x3_2 F_3 H locs ls hq9 hH hl
      have hp := hst_1 n_1 x3_2 F_3 hq9
      refine lv_iload_n (pc := 2) hx hb dX12_ringsAll_2 rfl (lv_at hl 3 rfl) ?_
      refine lv_aload_n (pc := 3) hx hb dX12_ringsAll_3 rfl (lv_at hl 0 rfl) ?_
      refine sx_getR (pc := 4) (j := 0) B hH hk_th coX12 rfl w_1304 rfl dX12_ringsAll_4 ?_
      refine W.eq (g2 := F0 m 7 ls [va_rf (gR S th 0), .int x3_2]) rfl ?_
      obtain ⟨a_4, ha_4, hp⟩ := hp
      refine sx_nonnull (x := a_4) ha_4 ?_
      refine lv_iconst (pc := 7) (v := 0) hx hb dX12_ringsAll_7 (by decide) ?_
      obtain ⟨hk_5, hp⟩ := hp
      obtain ⟨hn_6, hp⟩ := hp
      refine sx_iald (pc := 8) B hH hk_5 hn_6 dX12_ringsAll_8 ?_
      refine W.eq (g2 := F0 m 9 ls [.int (F_3 a_4 0), .int x3_2]) rfl ?_
      refine lv_icmp_ge (pc := 9) (tgt := 25) hx hb dX12_ringsAll_9 (by decide) (fun cc_7 => ?_) (fun cc_7 => ?_)
      · have hp := hp.1 cc_7
        refine lv_aload_n (pc := 25) hx hb dX12_ringsAll_25 rfl (lv_at hl 0 rfl) ?_
        refine lv_iconst (pc := 26) (v := 0) hx hb dX12_ringsAll_26 (by decide) ?_
        obtain ⟨F_8, eF_8⟩ : ∃ z : Nat → Nat → Int32, z = upI F_3 th 32 0 := ⟨_, rfl⟩
        have hp := hp F_8 eF_8
        refine sx_putI (pc := 27) (j := 32) B hH hk_th coX12 rfl w_1336 rfl (Or.inl rfl) rfl dX12_ringsAll_27 (fun H locs hH => ?_)
        have hH : Hp G (FA S s.heap.size) s.heap (wI S F_8) H locs := by rw [eF_8]; exact hH
        refine lv_iload_n (pc := 30) hx hb dX12_ringsAll_30 rfl (lv_at hl 2 rfl) ?_
        refine lv_iconst (pc := 31) (v := (-1)) hx hb dX12_ringsAll_31 (by decide) ?_
        refine lv_icmp_eq (pc := 32) (tgt := 42) hx hb dX12_ringsAll_32 (by decide) (fun cc_9 => ?_) (fun cc_9 => ?_)
        · have hp := hp.1 cc_9
          refine lv_iconst (pc := 42) (v := 0) hx hb dX12_ringsAll_42 (by decide) ?_
          refine lv_istore_n (pc := 43) (lv' := [(3, .int 0), (0, .ref th), (1, .int p0), (2, .int p1)]) hx hb dX12_ringsAll_43 rfl hl (by decide) rfl (fun ls hl => ?_)
          refine lv_iconst (pc := 44) (v := 1) hx hb dX12_ringsAll_44 (by decide) ?_
          refine lv_istore (pc := 45) (lv' := [(4, .int 1), (3, .int 0), (0, .ref th), (1, .int p0), (2, .int p1)]) hx hb dX12_ringsAll_45 hl (by decide) rfl (fun ls hl => ?_)
          refine lv_iconst (pc := 47) (v := 0) hx hb dX12_ringsAll_47 (by decide) ?_
          refine lv_istore (pc := 48) (lv' := [(5, .int 0), (4, .int 1), (3, .int 0), (0, .ref th), (1, .int p0), (2, .int p1)]) hx hb dX12_ringsAll_48 hl (by decide) rfl (fun ls hl => ?_)
          obtain ⟨I_10, ⟨k0_10, h0_10⟩, hst_10⟩ := hp
          have kl_10 : ∀ (n_10 : Nat) (x3_11 : Int32) (x4_12 : Int32) (x5_13 : Int32) (F_14 : Nat → Nat → Int32) (H : Heap) (locs : List Loc) (ls : Array Slot), I_10 n_10 x3_11 x4_12 x5_13 F_14 → Hp G (FA S s.heap.size) s.heap (wI S F_14) H locs → lv_has ls 7 [(0, .ref th), (1, .int p0), (2, .int p1), (3, .int x3_11), (4, .int x4_12), (5, .int x5_13)] → Wm G p l e { frames := 3, cells := 0, slots := 0, locals := 71 } s m args below meth c S QQ 0 0 H locs 0 0 (F0 m 50 ls []) := by
            intro n_10
            induction n_10 using Nat.strongRecOn with
            | ind n_10 ih_10 =>
              intro x3_11 x4_12 x5_13 F_14 H locs ls hq9 hH hl
              have hp := hst_10 n_10 x3_11 x4_12 x5_13 F_14 hq9
              refine lv_iload (pc := 50) hx hb dX12_ringsAll_50 (lv_at hl 5 rfl) ?_
              refine lv_sipush (pc := 52) (v := 300) hx hb dX12_ringsAll_52 (by decide) ?_
              obtain ⟨J_16, hj_16, hp⟩ := hp
              have kj_16 : ∀  (H : Heap) (locs : List Loc) (ls : Array Slot), J_16  → Hp G (FA S s.heap.size) s.heap (wI S F_14) H locs → lv_has ls 7 [(0, .ref th)] → Wm G p l e { frames := 3, cells := 0, slots := 0, locals := 71 } s m args below meth c S QQ 0 0 H locs 0 0 (F0 m 155 ls []) := by
                intro  H locs ls hq9 hH hl
                have hp := hj_16  hq9
                refine lv_aload_n (pc := 155) hx hb dX12_ringsAll_155 rfl (lv_at hl 0 rfl) ?_
                refine lv_aload_n (pc := 156) hx hb dX12_ringsAll_156 rfl (lv_at hl 0 rfl) ?_
                refine lv_aload_n (pc := 157) hx hb dX12_ringsAll_157 rfl (lv_at hl 0 rfl) ?_
                refine sx_getR (pc := 158) (j := 23) B hH hk_th coX12 rfl w_1327 rfl dX12_ringsAll_158 ?_
                refine W.eq (g2 := F0 m 161 ls [va_rf (gR S th 23), .ref th, .ref th]) rfl ?_
                obtain ⟨a_17, ha_17, hp⟩ := hp
                refine sx_nonnull (x := a_17) ha_17 ?_
                refine sx_V (pc := 161) (As := [.ref a_17]) (rest := [.ref th]) B hH hl.1 (C_X12_numberOf G l th a_17 _ _ hp) mi_X12_numberOf coX12 hk_th w_1668 w_77 w_1666 rfl rfl ⟨Nat.le_of_ble_eq_true rfl, Nat.le_of_ble_eq_true rfl⟩ (Nat.le_of_ble_eq_true rfl) ⟨Nat.le_of_ble_eq_true rfl, Nat.le_of_ble_eq_true rfl⟩ dX12_ringsAll_161 (fun v S1 H locs hq hH => ?_)
                obtain ⟨r_18, rfl, e9, hp⟩ := hq
                rw [e9] at hH
                refine W.eq (g2 := F0 m 164 ls [.int r_18, .ref th]) rfl ?_
                obtain ⟨F_19, eF_19⟩ : ∃ z : Nat → Nat → Int32, z = upI F_14 th 33 r_18 := ⟨_, rfl⟩
                have hp := hp F_19 eF_19
                refine sx_putI (pc := 164) (j := 33) B hH hk_th coX12 rfl w_1337 rfl (Or.inl rfl) rfl dX12_ringsAll_164 (fun H locs hH => ?_)
                have hH : Hp G (FA S s.heap.size) s.heap (wI S F_19) H locs := by rw [eF_19]; exact hH
                exact sx_vret (pc := 167) B hH hr hlk (by rw [← hQQ]; exact ⟨F_19, rfl, rfl, hp⟩) (Nat.le_of_ble_eq_true rfl) (Nat.le_of_ble_eq_true rfl) dX12_ringsAll_167
              refine lv_icmp_ge (pc := 55) (tgt := 155) hx hb dX12_ringsAll_55 (by decide) (fun cc_15 => ?_) (fun cc_15 => ?_)
              · have hp := hp.1 cc_15
                exact kj_16  _ _ _ hp hH (lv_sub hl [0] rfl)
              · have hp := hp.2 cc_15
                refine lv_iload (pc := 58) hx hb dX12_ringsAll_58 (lv_at hl 4 rfl) ?_
                refine lv_if_eq (pc := 60) (tgt := 155) hx hb dX12_ringsAll_60 (by decide) (fun cc_20 => ?_) (fun cc_20 => ?_)
                · have hp := hp.1 cc_20
                  exact kj_16  _ _ _ hp hH (lv_sub hl [0] rfl)
                · have hp := hp.2 cc_20
                  refine lv_iload_n (pc := 63) hx hb dX12_ringsAll_63 rfl (lv_at hl 3 rfl) ?_
                  refine lv_aload_n (pc := 64) hx hb dX12_ringsAll_64 rfl (lv_at hl 0 rfl) ?_
                  refine sx_getR (pc := 65) (j := 0) B hH hk_th coX12 rfl w_1304 rfl dX12_ringsAll_65 ?_
                  refine W.eq (g2 := F0 m 68 ls [va_rf (gR S th 0), .int x3_11]) rfl ?_
                  refine sx_nonnull (x := a_4) ha_4 ?_
                  refine lv_iconst (pc := 68) (v := 4) hx hb dX12_ringsAll_68 (by decide) ?_
                  obtain ⟨hn_21, hp⟩ := hp
                  refine sx_iald (pc := 69) B hH hk_5 hn_21 dX12_ringsAll_69 ?_
                  refine W.eq (g2 := F0 m 70 ls [.int (F_14 a_4 4), .int x3_11]) rfl ?_
                  refine lv_icmp_ge (pc := 70) (tgt := 155) hx hb dX12_ringsAll_70 (by decide) (fun cc_22 => ?_) (fun cc_22 => ?_)
                  · have hp := hp.1 cc_22
                    exact kj_16  _ _ _ hp hH (lv_sub hl [0] rfl)
                  · have hp := hp.2 cc_22
                    refine lv_aload_n (pc := 73) hx hb dX12_ringsAll_73 rfl (lv_at hl 0 rfl) ?_
                    refine sx_getR (pc := 74) (j := 0) B hH hk_th coX12 rfl w_1304 rfl dX12_ringsAll_74 ?_
                    refine W.eq (g2 := F0 m 77 ls [va_rf (gR S th 0)]) rfl ?_
                    refine sx_nonnull (x := a_4) ha_4 ?_
                    refine lv_sipush (pc := 77) (v := 170) hx hb dX12_ringsAll_77 (by decide) ?_
                    refine lv_iconst (pc := 80) (v := 4) hx hb dX12_ringsAll_80 (by decide) ?_
                    refine lv_iload_n (pc := 81) hx hb dX12_ringsAll_81 rfl (lv_at hl 3 rfl) ?_
                    refine lv_imul (pc := 82) hx hb dX12_ringsAll_82 ?_
                    refine lv_iadd (pc := 83) hx hb dX12_ringsAll_83 ?_
                    obtain ⟨hn_23, hp⟩ := hp
                    refine sx_iald (pc := 84) B hH hk_5 hn_23 dX12_ringsAll_84 ?_
                    refine W.eq (g2 := F0 m 85 ls [.int (F_14 a_4 ((170 + (4 * x3_11)).toNatClampNeg))]) rfl ?_
                    refine lv_bipush (pc := 85) (v := 11) hx hb dX12_ringsAll_85 (by decide) ?_
                    refine lv_icmp_eq (pc := 87) (tgt := 155) hx hb dX12_ringsAll_87 (by decide) (fun cc_24 => ?_) (fun cc_24 => ?_)
                    · have hp := hp.1 cc_24
                      exact kj_16  _ _ _ hp hH (lv_sub hl [0] rfl)
                    · have hp := hp.2 cc_24
                      refine lv_sipush (pc := 90) (v := 170) hx hb dX12_ringsAll_90 (by decide) ?_
                      refine lv_iconst (pc := 93) (v := 4) hx hb dX12_ringsAll_93 (by decide) ?_
                      refine lv_iload_n (pc := 94) hx hb dX12_ringsAll_94 rfl (lv_at hl 3 rfl) ?_
                      refine lv_imul (pc := 95) hx hb dX12_ringsAll_95 ?_
                      refine lv_iadd (pc := 96) hx hb dX12_ringsAll_96 ?_
                      refine lv_topi (fun v_25 ev_25 => ?_)
                      have hp := hp v_25 ev_25
                      refine lv_istore (pc := 97) (lv' := [(6, .int v_25), (0, .ref th), (1, .int p0), (2, .int p1), (3, .int x3_11), (4, .int x4_12), (5, .int x5_13)]) hx hb dX12_ringsAll_97 hl (by decide) rfl (fun ls hl => ?_)
                      refine lv_aload_n (pc := 99) hx hb dX12_ringsAll_99 rfl (lv_at hl 1 rfl) ?_
                      refine sx_getR (pc := 100) (j := 0) B hH hk_th coX12 rfl w_1304 rfl dX12_ringsAll_100 ?_
                      refine W.eq (g2 := F0 m 103 ls [va_rf (gR S th 0)]) rfl ?_
                      refine sx_nonnull (x := a_4) ha_4 ?_
                      refine lv_iload (pc := 103) hx hb dX12_ringsAll_103 (lv_at hl 0 rfl) ?_
                      obtain ⟨hn_26, hp⟩ := hp
                      refine sx_iald (pc := 105) B hH hk_5 hn_26 dX12_ringsAll_105 ?_
                      refine W.eq (g2 := F0 m 106 ls [.int (F_14 a_4 v_25.toNatClampNeg)]) rfl ?_
                      refine lv_bipush (pc := 106) (v := 9) hx hb dX12_ringsAll_106 (by decide) ?_
                      obtain ⟨J_28, hj_28, hp⟩ := hp
                      have kj_28 : ∀ (x4_29 : Int32) (F_30 : Nat → Nat → Int32) (H : Heap) (locs : List Loc) (ls : Array Slot), J_28 x4_29 F_30 → Hp G (FA S s.heap.size) s.heap (wI S F_30) H locs → lv_has ls 7 [(0, .ref th), (1, .int p0), (2, .int p1), (3, .int x3_11), (4, .int x4_29), (5, .int x5_13)] → Wm G p l e { frames := 3, cells := 0, slots := 0, locals := 71 } s m args below meth c S QQ 0 0 H locs 0 0 (F0 m 141 ls []) := by
                        intro x4_29 F_30 H locs ls hq9 hH hl
                        have hp := hj_28 x4_29 F_30 hq9
                        refine lv_aload_n (pc := 141) hx hb dX12_ringsAll_141 rfl (lv_at hl 0 rfl) ?_
                        refine lv_iload_n (pc := 142) hx hb dX12_ringsAll_142 rfl (lv_at hl 3 rfl) ?_
                        refine lv_iconst (pc := 143) (v := 1) hx hb dX12_ringsAll_143 (by decide) ?_
                        refine lv_iadd (pc := 144) hx hb dX12_ringsAll_144 ?_
                        refine sx_V (pc := 145) (As := [.int (x3_11 + 1)]) (rest := []) B hH hl.1 (C_X12_behindEnds G l th (x3_11 + 1) _ _ hp) mi_X12_behindEnds coX12 hk_th w_1829 w_95 w_1827 rfl rfl ⟨Nat.le_of_ble_eq_true rfl, Nat.le_of_ble_eq_true rfl⟩ (Nat.le_of_ble_eq_true rfl) ⟨Nat.le_of_ble_eq_true rfl, Nat.le_of_ble_eq_true rfl⟩ dX12_ringsAll_145 (fun v S1 H locs hq hH => ?_)
                        obtain ⟨r_31, F_31, rfl, e9, hp⟩ := hq
                        rw [e9] at hH
                        have hH : Hp G (FA S s.heap.size) s.heap (wI S F_31) H locs := hH
                        refine W.eq (g2 := F0 m 148 ls [.int r_31]) rfl ?_
                        refine lv_istore_n (pc := 148) (lv' := [(3, .int r_31), (0, .ref th), (1, .int p0), (2, .int p1), (4, .int x4_29), (5, .int x5_13)]) hx hb dX12_ringsAll_148 rfl hl (by decide) rfl (fun ls hl => ?_)
                        obtain ⟨v_32, ev_32⟩ : ∃ y : Int32, y = x5_13 + 1 := ⟨_, rfl⟩
                        have hp := hp v_32 ev_32
                        refine lv_iinc (pc := 149) (v := v_32) (lv' := [(5, .int v_32), (3, .int r_31), (0, .ref th), (1, .int p0), (2, .int p1), (4, .int x4_29)]) hx hb dX12_ringsAll_149 hl (k := 5) rfl (by rw [ev_32]; rfl) (by decide) rfl (fun ls hl => ?_)
                        refine lv_goto (pc := 152) (tgt := 50) hx hb dX12_ringsAll_152 (by decide) ?_
                        obtain ⟨k9, hlt9, hp⟩ := hp
                        exact ih_10 k9 hlt9 _ _ _ _ _ _ _ hp hH (lv_sub hl [2, 3, 4, 1, 5, 0] rfl)
                      refine lv_icmp_ne (pc := 108) (tgt := 131) hx hb dX12_ringsAll_108 (by decide) (fun cc_27 => ?_) (fun cc_27 => ?_)
                      · have hp := hp.1 cc_27
                        refine lv_aload_n (pc := 131) hx hb dX12_ringsAll_131 rfl (lv_at hl 1 rfl) ?_
                        refine lv_iload (pc := 132) hx hb dX12_ringsAll_132 (lv_at hl 0 rfl) ?_
                        refine lv_iload_n (pc := 134) hx hb dX12_ringsAll_134 rfl (lv_at hl 2 rfl) ?_
                        refine lv_iload_n (pc := 135) hx hb dX12_ringsAll_135 rfl (lv_at hl 3 rfl) ?_
                        refine sx_V (pc := 136) (As := [.int v_25, .int p0, .int p1]) (rest := []) B hH hl.1 (C_X12_rings G l th v_25 p0 p1 _ _ hp) mi_X12_rings coX12 hk_th w_1820 w_93 w_1818 rfl rfl ⟨Nat.le_of_ble_eq_true rfl, Nat.le_of_ble_eq_true rfl⟩ (Nat.le_of_ble_eq_true rfl) ⟨Nat.le_of_ble_eq_true rfl, Nat.le_of_ble_eq_true rfl⟩ dX12_ringsAll_136 (fun v S1 H locs hq hH => ?_)
                        obtain ⟨r_33, F_33, rfl, e9, hp⟩ := hq
                        rw [e9] at hH
                        have hH : Hp G (FA S s.heap.size) s.heap (wI S F_33) H locs := hH
                        refine W.eq (g2 := F0 m 139 ls [.int r_33]) rfl ?_
                        refine lv_istore (pc := 139) (lv' := [(4, .int r_33), (6, .int v_25), (0, .ref th), (1, .int p0), (2, .int p1), (3, .int x3_11), (5, .int x5_13)]) hx hb dX12_ringsAll_139 hl (by decide) rfl (fun ls hl => ?_)
                        exact kj_28 _ _ _ _ _ hp hH (lv_sub hl [2, 3, 4, 5, 0, 6] rfl)
                      · have hp := hp.2 cc_27
                        refine lv_aload_n (pc := 111) hx hb dX12_ringsAll_111 rfl (lv_at hl 1 rfl) ?_
                        refine sx_getR (pc := 112) (j := 30) B hH hk_th coX12 rfl w_1334 rfl dX12_ringsAll_112 ?_
                        refine W.eq (g2 := F0 m 115 ls [va_rf (gR S th 30)]) rfl ?_
                        obtain ⟨a_34, ha_34, hp⟩ := hp
                        refine sx_nonnull (x := a_34) ha_34 ?_
                        refine lv_iload_n (pc := 115) hx hb dX12_ringsAll_115 rfl (lv_at hl 4 rfl) ?_
                        refine lv_aload_n (pc := 116) hx hb dX12_ringsAll_116 rfl (lv_at hl 1 rfl) ?_
                        refine sx_getR (pc := 117) (j := 0) B hH hk_th coX12 rfl w_1304 rfl dX12_ringsAll_117 ?_
                        refine W.eq (g2 := F0 m 120 ls [va_rf (gR S th 0), .int x3_11, .ref a_34]) rfl ?_
                        refine sx_nonnull (x := a_4) ha_4 ?_
                        refine lv_iload (pc := 120) hx hb dX12_ringsAll_120 (lv_at hl 0 rfl) ?_
                        refine lv_iconst (pc := 122) (v := 2) hx hb dX12_ringsAll_122 (by decide) ?_
                        refine lv_iadd (pc := 123) hx hb dX12_ringsAll_123 ?_
                        obtain ⟨hn_35, hp⟩ := hp
                        refine sx_iald (pc := 124) B hH hk_5 hn_35 dX12_ringsAll_124 ?_
                        refine W.eq (g2 := F0 m 125 ls [.int (F_14 a_4 ((v_25 + 2).toNatClampNeg)), .int x3_11, .ref a_34]) rfl ?_
                        refine lv_iconst (pc := 125) (v := 1) hx hb dX12_ringsAll_125 (by decide) ?_
                        refine lv_isub (pc := 126) hx hb dX12_ringsAll_126 ?_
                        obtain ⟨hk_36, hp⟩ := hp
                        obtain ⟨hn_37, hp⟩ := hp
                        refine lv_topi (fun v_38 ev_38 => ?_)
                        have hp := hp v_38 ev_38
                        obtain ⟨F_39, eF_39⟩ : ∃ z : Nat → Nat → Int32, z = upI F_14 a_34 x3_11.toNatClampNeg v_38 := ⟨_, rfl⟩
                        have hp := hp F_39 eF_39
                        refine sx_iast (pc := 127) B hH hk_36 hn_37 dX12_ringsAll_127 (fun H locs hH => ?_)
                        have hH : Hp G (FA S s.heap.size) s.heap (wI S F_39) H locs := by rw [eF_39]; exact hH
                        refine lv_goto (pc := 128) (tgt := 141) hx hb dX12_ringsAll_128 (by decide) ?_
                        exact kj_28 _ _ _ _ _ hp hH (lv_sub hl [1, 2, 3, 4, 5, 6] rfl)
          exact kl_10 k0_10 _ _ _ _ _ _ _ h0_10 hH (lv_sub hl [3, 4, 5, 2, 1, 0] rfl)
        · have hp := hp.2 cc_9
          refine lv_aload_n (pc := 35) hx hb dX12_ringsAll_35 rfl (lv_at hl 0 rfl) ?_
          refine sx_getR (pc := 36) (j := 0) B hH hk_th coX12 rfl w_1304 rfl dX12_ringsAll_36 ?_
          refine W.eq (g2 := F0 m 39 ls [va_rf (gR S th 0)]) rfl ?_
          refine sx_nonnull (x := a_4) ha_4 ?_
          refine lv_iload_n (pc := 39) hx hb dX12_ringsAll_39 rfl (lv_at hl 2 rfl) ?_
          refine lv_iconst (pc := 40) (v := 0) hx hb dX12_ringsAll_40 (by decide) ?_
          obtain ⟨hn_40, hp⟩ := hp
          obtain ⟨F_41, eF_41⟩ : ∃ z : Nat → Nat → Int32, z = upI F_8 a_4 p1.toNatClampNeg 0 := ⟨_, rfl⟩
          have hp := hp F_41 eF_41
          refine sx_iast (pc := 41) B hH hk_5 hn_40 dX12_ringsAll_41 (fun H locs hH => ?_)
          have hH : Hp G (FA S s.heap.size) s.heap (wI S F_41) H locs := by rw [eF_41]; exact hH
          refine lv_iconst (pc := 42) (v := 0) hx hb dX12_ringsAll_42 (by decide) ?_
          refine lv_istore_n (pc := 43) (lv' := [(3, .int 0), (0, .ref th), (1, .int p0), (2, .int p1)]) hx hb dX12_ringsAll_43 rfl hl (by decide) rfl (fun ls hl => ?_)
          refine lv_iconst (pc := 44) (v := 1) hx hb dX12_ringsAll_44 (by decide) ?_
          refine lv_istore (pc := 45) (lv' := [(4, .int 1), (3, .int 0), (0, .ref th), (1, .int p0), (2, .int p1)]) hx hb dX12_ringsAll_45 hl (by decide) rfl (fun ls hl => ?_)
          refine lv_iconst (pc := 47) (v := 0) hx hb dX12_ringsAll_47 (by decide) ?_
          refine lv_istore (pc := 48) (lv' := [(5, .int 0), (4, .int 1), (3, .int 0), (0, .ref th), (1, .int p0), (2, .int p1)]) hx hb dX12_ringsAll_48 hl (by decide) rfl (fun ls hl => ?_)
          obtain ⟨I_42, ⟨k0_42, h0_42⟩, hst_42⟩ := hp
          have kl_42 : ∀ (n_42 : Nat) (x3_43 : Int32) (x4_44 : Int32) (x5_45 : Int32) (F_46 : Nat → Nat → Int32) (H : Heap) (locs : List Loc) (ls : Array Slot), I_42 n_42 x3_43 x4_44 x5_45 F_46 → Hp G (FA S s.heap.size) s.heap (wI S F_46) H locs → lv_has ls 7 [(0, .ref th), (1, .int p0), (2, .int p1), (3, .int x3_43), (4, .int x4_44), (5, .int x5_45)] → Wm G p l e { frames := 3, cells := 0, slots := 0, locals := 71 } s m args below meth c S QQ 0 0 H locs 0 0 (F0 m 50 ls []) := by
            intro n_42
            induction n_42 using Nat.strongRecOn with
            | ind n_42 ih_42 =>
              intro x3_43 x4_44 x5_45 F_46 H locs ls hq9 hH hl
              have hp := hst_42 n_42 x3_43 x4_44 x5_45 F_46 hq9
              refine lv_iload (pc := 50) hx hb dX12_ringsAll_50 (lv_at hl 5 rfl) ?_
              refine lv_sipush (pc := 52) (v := 300) hx hb dX12_ringsAll_52 (by decide) ?_
              obtain ⟨J_48, hj_48, hp⟩ := hp
              have kj_48 : ∀  (H : Heap) (locs : List Loc) (ls : Array Slot), J_48  → Hp G (FA S s.heap.size) s.heap (wI S F_46) H locs → lv_has ls 7 [(0, .ref th)] → Wm G p l e { frames := 3, cells := 0, slots := 0, locals := 71 } s m args below meth c S QQ 0 0 H locs 0 0 (F0 m 155 ls []) := by
                intro  H locs ls hq9 hH hl
                have hp := hj_48  hq9
                refine lv_aload_n (pc := 155) hx hb dX12_ringsAll_155 rfl (lv_at hl 0 rfl) ?_
                refine lv_aload_n (pc := 156) hx hb dX12_ringsAll_156 rfl (lv_at hl 0 rfl) ?_
                refine lv_aload_n (pc := 157) hx hb dX12_ringsAll_157 rfl (lv_at hl 0 rfl) ?_
                refine sx_getR (pc := 158) (j := 23) B hH hk_th coX12 rfl w_1327 rfl dX12_ringsAll_158 ?_
                refine W.eq (g2 := F0 m 161 ls [va_rf (gR S th 23), .ref th, .ref th]) rfl ?_
                obtain ⟨a_49, ha_49, hp⟩ := hp
                refine sx_nonnull (x := a_49) ha_49 ?_
                refine sx_V (pc := 161) (As := [.ref a_49]) (rest := [.ref th]) B hH hl.1 (C_X12_numberOf G l th a_49 _ _ hp) mi_X12_numberOf coX12 hk_th w_1668 w_77 w_1666 rfl rfl ⟨Nat.le_of_ble_eq_true rfl, Nat.le_of_ble_eq_true rfl⟩ (Nat.le_of_ble_eq_true rfl) ⟨Nat.le_of_ble_eq_true rfl, Nat.le_of_ble_eq_true rfl⟩ dX12_ringsAll_161 (fun v S1 H locs hq hH => ?_)
                obtain ⟨r_50, rfl, e9, hp⟩ := hq
                rw [e9] at hH
                refine W.eq (g2 := F0 m 164 ls [.int r_50, .ref th]) rfl ?_
                obtain ⟨F_51, eF_51⟩ : ∃ z : Nat → Nat → Int32, z = upI F_46 th 33 r_50 := ⟨_, rfl⟩
                have hp := hp F_51 eF_51
                refine sx_putI (pc := 164) (j := 33) B hH hk_th coX12 rfl w_1337 rfl (Or.inl rfl) rfl dX12_ringsAll_164 (fun H locs hH => ?_)
                have hH : Hp G (FA S s.heap.size) s.heap (wI S F_51) H locs := by rw [eF_51]; exact hH
                exact sx_vret (pc := 167) B hH hr hlk (by rw [← hQQ]; exact ⟨F_51, rfl, rfl, hp⟩) (Nat.le_of_ble_eq_true rfl) (Nat.le_of_ble_eq_true rfl) dX12_ringsAll_167
              refine lv_icmp_ge (pc := 55) (tgt := 155) hx hb dX12_ringsAll_55 (by decide) (fun cc_47 => ?_) (fun cc_47 => ?_)
              · have hp := hp.1 cc_47
                exact kj_48  _ _ _ hp hH (lv_sub hl [0] rfl)
              · have hp := hp.2 cc_47
                refine lv_iload (pc := 58) hx hb dX12_ringsAll_58 (lv_at hl 4 rfl) ?_
                refine lv_if_eq (pc := 60) (tgt := 155) hx hb dX12_ringsAll_60 (by decide) (fun cc_52 => ?_) (fun cc_52 => ?_)
                · have hp := hp.1 cc_52
                  exact kj_48  _ _ _ hp hH (lv_sub hl [0] rfl)
                · have hp := hp.2 cc_52
                  refine lv_iload_n (pc := 63) hx hb dX12_ringsAll_63 rfl (lv_at hl 3 rfl) ?_
                  refine lv_aload_n (pc := 64) hx hb dX12_ringsAll_64 rfl (lv_at hl 0 rfl) ?_
                  refine sx_getR (pc := 65) (j := 0) B hH hk_th coX12 rfl w_1304 rfl dX12_ringsAll_65 ?_
                  refine W.eq (g2 := F0 m 68 ls [va_rf (gR S th 0), .int x3_43]) rfl ?_
                  refine sx_nonnull (x := a_4) ha_4 ?_
                  refine lv_iconst (pc := 68) (v := 4) hx hb dX12_ringsAll_68 (by decide) ?_
                  obtain ⟨hn_53, hp⟩ := hp
                  refine sx_iald (pc := 69) B hH hk_5 hn_53 dX12_ringsAll_69 ?_
                  refine W.eq (g2 := F0 m 70 ls [.int (F_46 a_4 4), .int x3_43]) rfl ?_
                  refine lv_icmp_ge (pc := 70) (tgt := 155) hx hb dX12_ringsAll_70 (by decide) (fun cc_54 => ?_) (fun cc_54 => ?_)
                  · have hp := hp.1 cc_54
                    exact kj_48  _ _ _ hp hH (lv_sub hl [0] rfl)
                  · have hp := hp.2 cc_54
                    refine lv_aload_n (pc := 73) hx hb dX12_ringsAll_73 rfl (lv_at hl 0 rfl) ?_
                    refine sx_getR (pc := 74) (j := 0) B hH hk_th coX12 rfl w_1304 rfl dX12_ringsAll_74 ?_
                    refine W.eq (g2 := F0 m 77 ls [va_rf (gR S th 0)]) rfl ?_
                    refine sx_nonnull (x := a_4) ha_4 ?_
                    refine lv_sipush (pc := 77) (v := 170) hx hb dX12_ringsAll_77 (by decide) ?_
                    refine lv_iconst (pc := 80) (v := 4) hx hb dX12_ringsAll_80 (by decide) ?_
                    refine lv_iload_n (pc := 81) hx hb dX12_ringsAll_81 rfl (lv_at hl 3 rfl) ?_
                    refine lv_imul (pc := 82) hx hb dX12_ringsAll_82 ?_
                    refine lv_iadd (pc := 83) hx hb dX12_ringsAll_83 ?_
                    obtain ⟨hn_55, hp⟩ := hp
                    refine sx_iald (pc := 84) B hH hk_5 hn_55 dX12_ringsAll_84 ?_
                    refine W.eq (g2 := F0 m 85 ls [.int (F_46 a_4 ((170 + (4 * x3_43)).toNatClampNeg))]) rfl ?_
                    refine lv_bipush (pc := 85) (v := 11) hx hb dX12_ringsAll_85 (by decide) ?_
                    refine lv_icmp_eq (pc := 87) (tgt := 155) hx hb dX12_ringsAll_87 (by decide) (fun cc_56 => ?_) (fun cc_56 => ?_)
                    · have hp := hp.1 cc_56
                      exact kj_48  _ _ _ hp hH (lv_sub hl [0] rfl)
                    · have hp := hp.2 cc_56
                      refine lv_sipush (pc := 90) (v := 170) hx hb dX12_ringsAll_90 (by decide) ?_
                      refine lv_iconst (pc := 93) (v := 4) hx hb dX12_ringsAll_93 (by decide) ?_
                      refine lv_iload_n (pc := 94) hx hb dX12_ringsAll_94 rfl (lv_at hl 3 rfl) ?_
                      refine lv_imul (pc := 95) hx hb dX12_ringsAll_95 ?_
                      refine lv_iadd (pc := 96) hx hb dX12_ringsAll_96 ?_
                      refine lv_topi (fun v_57 ev_57 => ?_)
                      have hp := hp v_57 ev_57
                      refine lv_istore (pc := 97) (lv' := [(6, .int v_57), (0, .ref th), (1, .int p0), (2, .int p1), (3, .int x3_43), (4, .int x4_44), (5, .int x5_45)]) hx hb dX12_ringsAll_97 hl (by decide) rfl (fun ls hl => ?_)
                      refine lv_aload_n (pc := 99) hx hb dX12_ringsAll_99 rfl (lv_at hl 1 rfl) ?_
                      refine sx_getR (pc := 100) (j := 0) B hH hk_th coX12 rfl w_1304 rfl dX12_ringsAll_100 ?_
                      refine W.eq (g2 := F0 m 103 ls [va_rf (gR S th 0)]) rfl ?_
                      refine sx_nonnull (x := a_4) ha_4 ?_
                      refine lv_iload (pc := 103) hx hb dX12_ringsAll_103 (lv_at hl 0 rfl) ?_
                      obtain ⟨hn_58, hp⟩ := hp
                      refine sx_iald (pc := 105) B hH hk_5 hn_58 dX12_ringsAll_105 ?_
                      refine W.eq (g2 := F0 m 106 ls [.int (F_46 a_4 v_57.toNatClampNeg)]) rfl ?_
                      refine lv_bipush (pc := 106) (v := 9) hx hb dX12_ringsAll_106 (by decide) ?_
                      obtain ⟨J_60, hj_60, hp⟩ := hp
                      have kj_60 : ∀ (x4_61 : Int32) (F_62 : Nat → Nat → Int32) (H : Heap) (locs : List Loc) (ls : Array Slot), J_60 x4_61 F_62 → Hp G (FA S s.heap.size) s.heap (wI S F_62) H locs → lv_has ls 7 [(0, .ref th), (1, .int p0), (2, .int p1), (3, .int x3_43), (4, .int x4_61), (5, .int x5_45)] → Wm G p l e { frames := 3, cells := 0, slots := 0, locals := 71 } s m args below meth c S QQ 0 0 H locs 0 0 (F0 m 141 ls []) := by
                        intro x4_61 F_62 H locs ls hq9 hH hl
                        have hp := hj_60 x4_61 F_62 hq9
                        refine lv_aload_n (pc := 141) hx hb dX12_ringsAll_141 rfl (lv_at hl 0 rfl) ?_
                        refine lv_iload_n (pc := 142) hx hb dX12_ringsAll_142 rfl (lv_at hl 3 rfl) ?_
                        refine lv_iconst (pc := 143) (v := 1) hx hb dX12_ringsAll_143 (by decide) ?_
                        refine lv_iadd (pc := 144) hx hb dX12_ringsAll_144 ?_
                        refine sx_V (pc := 145) (As := [.int (x3_43 + 1)]) (rest := []) B hH hl.1 (C_X12_behindEnds G l th (x3_43 + 1) _ _ hp) mi_X12_behindEnds coX12 hk_th w_1829 w_95 w_1827 rfl rfl ⟨Nat.le_of_ble_eq_true rfl, Nat.le_of_ble_eq_true rfl⟩ (Nat.le_of_ble_eq_true rfl) ⟨Nat.le_of_ble_eq_true rfl, Nat.le_of_ble_eq_true rfl⟩ dX12_ringsAll_145 (fun v S1 H locs hq hH => ?_)
                        obtain ⟨r_63, F_63, rfl, e9, hp⟩ := hq
                        rw [e9] at hH
                        have hH : Hp G (FA S s.heap.size) s.heap (wI S F_63) H locs := hH
                        refine W.eq (g2 := F0 m 148 ls [.int r_63]) rfl ?_
                        refine lv_istore_n (pc := 148) (lv' := [(3, .int r_63), (0, .ref th), (1, .int p0), (2, .int p1), (4, .int x4_61), (5, .int x5_45)]) hx hb dX12_ringsAll_148 rfl hl (by decide) rfl (fun ls hl => ?_)
                        obtain ⟨v_64, ev_64⟩ : ∃ y : Int32, y = x5_45 + 1 := ⟨_, rfl⟩
                        have hp := hp v_64 ev_64
                        refine lv_iinc (pc := 149) (v := v_64) (lv' := [(5, .int v_64), (3, .int r_63), (0, .ref th), (1, .int p0), (2, .int p1), (4, .int x4_61)]) hx hb dX12_ringsAll_149 hl (k := 5) rfl (by rw [ev_64]; rfl) (by decide) rfl (fun ls hl => ?_)
                        refine lv_goto (pc := 152) (tgt := 50) hx hb dX12_ringsAll_152 (by decide) ?_
                        obtain ⟨k9, hlt9, hp⟩ := hp
                        exact ih_42 k9 hlt9 _ _ _ _ _ _ _ hp hH (lv_sub hl [2, 3, 4, 1, 5, 0] rfl)
                      refine lv_icmp_ne (pc := 108) (tgt := 131) hx hb dX12_ringsAll_108 (by decide) (fun cc_59 => ?_) (fun cc_59 => ?_)
                      · have hp := hp.1 cc_59
                        refine lv_aload_n (pc := 131) hx hb dX12_ringsAll_131 rfl (lv_at hl 1 rfl) ?_
                        refine lv_iload (pc := 132) hx hb dX12_ringsAll_132 (lv_at hl 0 rfl) ?_
                        refine lv_iload_n (pc := 134) hx hb dX12_ringsAll_134 rfl (lv_at hl 2 rfl) ?_
                        refine lv_iload_n (pc := 135) hx hb dX12_ringsAll_135 rfl (lv_at hl 3 rfl) ?_
                        refine sx_V (pc := 136) (As := [.int v_57, .int p0, .int p1]) (rest := []) B hH hl.1 (C_X12_rings G l th v_57 p0 p1 _ _ hp) mi_X12_rings coX12 hk_th w_1820 w_93 w_1818 rfl rfl ⟨Nat.le_of_ble_eq_true rfl, Nat.le_of_ble_eq_true rfl⟩ (Nat.le_of_ble_eq_true rfl) ⟨Nat.le_of_ble_eq_true rfl, Nat.le_of_ble_eq_true rfl⟩ dX12_ringsAll_136 (fun v S1 H locs hq hH => ?_)
                        obtain ⟨r_65, F_65, rfl, e9, hp⟩ := hq
                        rw [e9] at hH
                        have hH : Hp G (FA S s.heap.size) s.heap (wI S F_65) H locs := hH
                        refine W.eq (g2 := F0 m 139 ls [.int r_65]) rfl ?_
                        refine lv_istore (pc := 139) (lv' := [(4, .int r_65), (6, .int v_57), (0, .ref th), (1, .int p0), (2, .int p1), (3, .int x3_43), (5, .int x5_45)]) hx hb dX12_ringsAll_139 hl (by decide) rfl (fun ls hl => ?_)
                        exact kj_60 _ _ _ _ _ hp hH (lv_sub hl [2, 3, 4, 5, 0, 6] rfl)
                      · have hp := hp.2 cc_59
                        refine lv_aload_n (pc := 111) hx hb dX12_ringsAll_111 rfl (lv_at hl 1 rfl) ?_
                        refine sx_getR (pc := 112) (j := 30) B hH hk_th coX12 rfl w_1334 rfl dX12_ringsAll_112 ?_
                        refine W.eq (g2 := F0 m 115 ls [va_rf (gR S th 30)]) rfl ?_
                        obtain ⟨a_66, ha_66, hp⟩ := hp
                        refine sx_nonnull (x := a_66) ha_66 ?_
                        refine lv_iload_n (pc := 115) hx hb dX12_ringsAll_115 rfl (lv_at hl 4 rfl) ?_
                        refine lv_aload_n (pc := 116) hx hb dX12_ringsAll_116 rfl (lv_at hl 1 rfl) ?_
                        refine sx_getR (pc := 117) (j := 0) B hH hk_th coX12 rfl w_1304 rfl dX12_ringsAll_117 ?_
                        refine W.eq (g2 := F0 m 120 ls [va_rf (gR S th 0), .int x3_43, .ref a_66]) rfl ?_
                        refine sx_nonnull (x := a_4) ha_4 ?_
                        refine lv_iload (pc := 120) hx hb dX12_ringsAll_120 (lv_at hl 0 rfl) ?_
                        refine lv_iconst (pc := 122) (v := 2) hx hb dX12_ringsAll_122 (by decide) ?_
                        refine lv_iadd (pc := 123) hx hb dX12_ringsAll_123 ?_
                        obtain ⟨hn_67, hp⟩ := hp
                        refine sx_iald (pc := 124) B hH hk_5 hn_67 dX12_ringsAll_124 ?_
                        refine W.eq (g2 := F0 m 125 ls [.int (F_46 a_4 ((v_57 + 2).toNatClampNeg)), .int x3_43, .ref a_66]) rfl ?_
                        refine lv_iconst (pc := 125) (v := 1) hx hb dX12_ringsAll_125 (by decide) ?_
                        refine lv_isub (pc := 126) hx hb dX12_ringsAll_126 ?_
                        obtain ⟨hk_68, hp⟩ := hp
                        obtain ⟨hn_69, hp⟩ := hp
                        refine lv_topi (fun v_70 ev_70 => ?_)
                        have hp := hp v_70 ev_70
                        obtain ⟨F_71, eF_71⟩ : ∃ z : Nat → Nat → Int32, z = upI F_46 a_66 x3_43.toNatClampNeg v_70 := ⟨_, rfl⟩
                        have hp := hp F_71 eF_71
                        refine sx_iast (pc := 127) B hH hk_68 hn_69 dX12_ringsAll_127 (fun H locs hH => ?_)
                        have hH : Hp G (FA S s.heap.size) s.heap (wI S F_71) H locs := by rw [eF_71]; exact hH
                        refine lv_goto (pc := 128) (tgt := 141) hx hb dX12_ringsAll_128 (by decide) ?_
                        exact kj_60 _ _ _ _ _ hp hH (lv_sub hl [1, 2, 3, 4, 5, 6] rfl)
          exact kl_42 k0_42 _ _ _ _ _ _ _ h0_42 hH (lv_sub hl [3, 4, 5, 2, 1, 0] rfl)
      · have hp := hp.2 cc_7
        refine lv_aload_n (pc := 12) hx hb dX12_ringsAll_12 rfl (lv_at hl 0 rfl) ?_
        refine sx_getR (pc := 13) (j := 23) B hH hk_th coX12 rfl w_1327 rfl dX12_ringsAll_13 ?_
        refine W.eq (g2 := F0 m 16 ls [va_rf (gR S th 23)]) rfl ?_
        obtain ⟨a_72, ha_72, hp⟩ := hp
        refine sx_nonnull (x := a_72) ha_72 ?_
        refine lv_iload_n (pc := 16) hx hb dX12_ringsAll_16 rfl (lv_at hl 3 rfl) ?_
        refine lv_iload_n (pc := 17) hx hb dX12_ringsAll_17 rfl (lv_at hl 3 rfl) ?_
        obtain ⟨hk_73, hp⟩ := hp
        obtain ⟨hn_74, hp⟩ := hp
        obtain ⟨F_75, eF_75⟩ : ∃ z : Nat → Nat → Int32, z = upI F_3 a_72 x3_2.toNatClampNeg x3_2 := ⟨_, rfl⟩
        have hp := hp F_75 eF_75
        refine sx_iast (pc := 18) B hH hk_73 hn_74 dX12_ringsAll_18 (fun H locs hH => ?_)
        have hH : Hp G (FA S s.heap.size) s.heap (wI S F_75) H locs := by rw [eF_75]; exact hH
        obtain ⟨v_76, ev_76⟩ : ∃ y : Int32, y = x3_2 + 1 := ⟨_, rfl⟩
        have hp := hp v_76 ev_76
        refine lv_iinc (pc := 19) (v := v_76) (lv' := [(3, .int v_76), (0, .ref th), (1, .int p0), (2, .int p1)]) hx hb dX12_ringsAll_19 hl (k := 3) rfl (by rw [ev_76]; rfl) (by decide) rfl (fun ls hl => ?_)
        refine lv_goto (pc := 22) (tgt := 2) hx hb dX12_ringsAll_22 (by decide) ?_
        obtain ⟨k9, hlt9, hp⟩ := hp
        exact ih_1 k9 hlt9 _ _ _ _ _ hp hH (lv_sub hl [1, 2, 3, 0] rfl)
  exact kl_1 k0_1 _ _ _ _ _ h0_1 hH (lv_sub hl [1, 2, 3, 0] rfl)
