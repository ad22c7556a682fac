theorem dX11_init_0 : decode cX11_init 0 = .ok (.aload_n 0, 1) := by decide +kernel
theorem dX11_init_1 : decode cX11_init 1 = .ok (.invokespecial 1, 3) := by decide +kernel
theorem dX11_init_4 : decode cX11_init 4 = .ok (.aload_n 0, 1) := by decide +kernel
theorem dX11_init_5 : decode cX11_init 5 = .ok (.iconst 0, 1) := by decide +kernel
theorem dX11_init_6 : decode cX11_init 6 = .ok (.putfield 9, 3) := by decide +kernel
theorem dX11_init_9 : decode cX11_init 9 = .ok (.aload_n 0, 1) := by decide +kernel
theorem dX11_init_10 : decode cX11_init 10 = .ok (.lconst 0, 1) := by decide +kernel
theorem dX11_init_11 : decode cX11_init 11 = .ok (.putfield 13, 3) := by decide +kernel
theorem dX11_init_14 : decode cX11_init 14 = .ok (.aload_n 0, 1) := by decide +kernel
theorem dX11_init_15 : decode cX11_init 15 = .ok (.lconst 1, 1) := by decide +kernel
theorem dX11_init_16 : decode cX11_init 16 = .ok (.putfield 17, 3) := by decide +kernel
theorem dX11_init_19 : decode cX11_init 19 = .ok (.aload_n 0, 1) := by decide +kernel
theorem dX11_init_20 : decode cX11_init 20 = .ok (.iconst 4, 1) := by decide +kernel
theorem dX11_init_21 : decode cX11_init 21 = .ok (.anewarray 20, 3) := by decide +kernel
theorem dX11_init_24 : decode cX11_init 24 = .ok (.putfield 22, 3) := by decide +kernel
theorem dX11_init_27 : decode cX11_init 27 = .ok (.aload_n 0, 1) := by decide +kernel
theorem dX11_init_28 : decode cX11_init 28 = .ok (.new 26, 3) := by decide +kernel
theorem dX11_init_31 : decode cX11_init 31 = .ok (.dup, 1) := by decide +kernel
theorem dX11_init_32 : decode cX11_init 32 = .ok (.invokespecial 28, 3) := by decide +kernel
theorem dX11_init_35 : decode cX11_init 35 = .ok (.putfield 29, 3) := by decide +kernel
theorem dX11_init_38 : decode cX11_init 38 = .ok (.aload_n 0, 1) := by decide +kernel
theorem dX11_init_39 : decode cX11_init 39 = .ok (.new 33, 3) := by decide +kernel
theorem dX11_init_42 : decode cX11_init 42 = .ok (.dup, 1) := by decide +kernel
theorem dX11_init_43 : decode cX11_init 43 = .ok (.aload_n 0, 1) := by decide +kernel
theorem dX11_init_44 : decode cX11_init 44 = .ok (.getfield 29, 3) := by decide +kernel
theorem dX11_init_47 : decode cX11_init 47 = .ok (.invokespecial 35, 3) := by decide +kernel
theorem dX11_init_50 : decode cX11_init 50 = .ok (.putfield 38, 3) := by decide +kernel
theorem dX11_init_53 : decode cX11_init 53 = .ok (.aload_n 0, 1) := by decide +kernel
theorem dX11_init_54 : decode cX11_init 54 = .ok (.new 42, 3) := by decide +kernel
theorem dX11_init_57 : decode cX11_init 57 = .ok (.dup, 1) := by decide +kernel
theorem dX11_init_58 : decode cX11_init 58 = .ok (.aload_n 0, 1) := by decide +kernel
theorem dX11_init_59 : decode cX11_init 59 = .ok (.getfield 29, 3) := by decide +kernel
theorem dX11_init_62 : decode cX11_init 62 = .ok (.invokespecial 44, 3) := by decide +kernel
theorem dX11_init_65 : decode cX11_init 65 = .ok (.putfield 45, 3) := by decide +kernel
theorem dX11_init_68 : decode cX11_init 68 = .ok (.aload_n 0, 1) := by decide +kernel
theorem dX11_init_69 : decode cX11_init 69 = .ok (.new 49, 3) := by decide +kernel
theorem dX11_init_72 : decode cX11_init 72 = .ok (.dup, 1) := by decide +kernel
theorem dX11_init_73 : decode cX11_init 73 = .ok (.iconst 4, 1) := by decide +kernel
theorem dX11_init_74 : decode cX11_init 74 = .ok (.iconst 4, 1) := by decide +kernel
theorem dX11_init_75 : decode cX11_init 75 = .ok (.invokestatic 51, 3) := by decide +kernel
theorem dX11_init_78 : decode cX11_init 78 = .ok (.iconst 0, 1) := by decide +kernel
theorem dX11_init_79 : decode cX11_init 79 = .ok (.anewarray 57, 3) := by decide +kernel
theorem dX11_init_82 : decode cX11_init 82 = .ok (.invokespecial 59, 3) := by decide +kernel
theorem dX11_init_85 : decode cX11_init 85 = .ok (.putfield 62, 3) := by decide +kernel
theorem dX11_init_88 : decode cX11_init 88 = .ok (.aload_n 0, 1) := by decide +kernel
theorem dX11_init_89 : decode cX11_init 89 = .ok (.aconst_null, 1) := by decide +kernel
theorem dX11_init_90 : decode cX11_init 90 = .ok (.putfield 66, 3) := by decide +kernel
theorem dX11_init_93 : decode cX11_init 93 = .ok (.aload_n 0, 1) := by decide +kernel
theorem dX11_init_94 : decode cX11_init 94 = .ok (.aconst_null, 1) := by decide +kernel
theorem dX11_init_95 : decode cX11_init 95 = .ok (.putfield 70, 3) := by decide +kernel
theorem dX11_init_98 : decode cX11_init 98 = .ok (.aload_n 0, 1) := by decide +kernel
theorem dX11_init_99 : decode cX11_init 99 = .ok (.iconst 3, 1) := by decide +kernel
theorem dX11_init_100 : decode cX11_init 100 = .ok (.anewarray 49, 3) := by decide +kernel
theorem dX11_init_103 : decode cX11_init 103 = .ok (.putfield 73, 3) := by decide +kernel
theorem dX11_init_106 : decode cX11_init 106 = .ok (.aload_n 0, 1) := by decide +kernel
theorem dX11_init_107 : decode cX11_init 107 = .ok (.iconst 3, 1) := by decide +kernel
theorem dX11_init_108 : decode cX11_init 108 = .ok (.anewarray 77, 3) := by decide +kernel
theorem dX11_init_111 : decode cX11_init 111 = .ok (.putfield 79, 3) := by decide +kernel
theorem dX11_init_114 : decode cX11_init 114 = .ok (.aload_n 0, 1) := by decide +kernel
theorem dX11_init_115 : decode cX11_init 115 = .ok (.iconst 3, 1) := by decide +kernel
theorem dX11_init_116 : decode cX11_init 116 = .ok (.anewarray 77, 3) := by decide +kernel
theorem dX11_init_119 : decode cX11_init 119 = .ok (.putfield 83, 3) := by decide +kernel
theorem dX11_init_122 : decode cX11_init 122 = .ok (.aload_n 0, 1) := by decide +kernel
theorem dX11_init_123 : decode cX11_init 123 = .ok (.iconst 0, 1) := by decide +kernel
theorem dX11_init_124 : decode cX11_init 124 = .ok (.putfield 86, 3) := by decide +kernel
theorem dX11_init_127 : decode cX11_init 127 = .ok (.aload_n 0, 1) := by decide +kernel
theorem dX11_init_128 : decode cX11_init 128 = .ok (.new 89, 3) := by decide +kernel
theorem dX11_init_131 : decode cX11_init 131 = .ok (.dup, 1) := by decide +kernel
theorem dX11_init_132 : decode cX11_init 132 = .ok (.invokespecial 91, 3) := by decide +kernel
theorem dX11_init_135 : decode cX11_init 135 = .ok (.putfield 92, 3) := by decide +kernel
theorem dX11_init_138 : decode cX11_init 138 = .ok (.aload_n 0, 1) := by decide +kernel
theorem dX11_init_139 : decode cX11_init 139 = .ok (.new 96, 3) := by decide +kernel
theorem dX11_init_142 : decode cX11_init 142 = .ok (.dup, 1) := by decide +kernel
theorem dX11_init_143 : decode cX11_init 143 = .ok (.invokespecial 98, 3) := by decide +kernel
theorem dX11_init_146 : decode cX11_init 146 = .ok (.putfield 99, 3) := by decide +kernel
theorem dX11_init_149 : decode cX11_init 149 = .ok (.aload_n 0, 1) := by decide +kernel
theorem dX11_init_150 : decode cX11_init 150 = .ok (.new 103, 3) := by decide +kernel
theorem dX11_init_153 : decode cX11_init 153 = .ok (.dup, 1) := by decide +kernel
theorem dX11_init_154 : decode cX11_init 154 = .ok (.invokespecial 105, 3) := by decide +kernel
theorem dX11_init_157 : decode cX11_init 157 = .ok (.putfield 106, 3) := by decide +kernel
theorem dX11_init_160 : decode cX11_init 160 = .ok (.return_, 1) := by decide +kernel
theorem mi_X11_init : MI yX11_init cX11_init 1 (none : Option Jvm.ClassFile.FieldType) 0 := ⟨w_129, w_105, by decide +kernel, by decide +kernel, by decide +kernel⟩
set_option maxRecDepth 100000 in
set_option maxHeartbeats 4000000 in
theorem C_X11_init (G : GG) (l : Launch) (th : Nat) (S : St) (bc bs : Nat) (Q : St → Prop) (hp : P_X11_init th S bc bs Q) : Ctr G l yX11_init cX11_init 1 (none : Option Jvm.ClassFile.FieldType) 6 128 bc bs [.ref th] S (fun (v : Option Value) (S9 : St) => v = none ∧ Q S9) := by
  generalize hQQ : (fun (v : Option Value) (S9 : St) => v = none ∧ Q S9) = QQ
  unfold P_X11_init at hp
  refine Ctr.of (by decide) (Nat.le_of_ble_eq_true rfl) ?_
  intro p e s m args below meth c ls B hr hlk hin hl hH
  generalize hlocs0 : ([] : List Loc) = locs at hH ⊢
  have hx := B.1
  have hb := B.2.1
  have hl : lv_has ls 1 [(0, .ref th)] := hl
  obtain ⟨hk_th, hp⟩ := hp
  refine lv_aload_n (pc := 0) hx hb dX11_init_0 rfl (lv_at hl 0 rfl) ?_
  refine sx_objInit (pc := 1) (rest := []) B hl.1 w_130 w_131 w_obj (Nat.le_of_ble_eq_true rfl) (Nat.le_of_ble_eq_true rfl) dX11_init_1 ?_
  refine W.eq (g2 := F0 m 4 ls []) rfl ?_
  refine lv_aload_n (pc := 4) hx hb dX11_init_4 rfl (lv_at hl 0 rfl) ?_
  refine lv_iconst (pc := 5) (v := 0) hx hb dX11_init_5 (by decide) ?_
  obtain ⟨F_1, eF_1⟩ : ∃ z : Nat → Nat → Int32, z = upI (gI S) th 0 0 := ⟨_, rfl⟩
  have hp := hp F_1 eF_1
  refine sx_putI (pc := 6) (j := 0) B hH hk_th coX11 rfl w_456 rfl (Or.inl rfl) rfl dX11_init_6 (fun H locs hH => ?_)
  have hH : Hp G (FA S s.heap.size) s.heap (wI S F_1) H locs := by rw [eF_1]; exact hH
  refine lv_aload_n (pc := 9) hx hb dX11_init_9 rfl (lv_at hl 0 rfl) ?_
  refine lv_lconst (pc := 10) (v := 0) hx hb dX11_init_10 (by decide) ?_
  obtain ⟨J_2, eJ_2⟩ : ∃ z : Nat → Nat → Int64, z = upJ (gJ S) th 1 0 := ⟨_, rfl⟩
  have hp := hp J_2 eJ_2
  refine sx_putJ (pc := 11) (j := 1) B hH hk_th coX11 rfl w_457 rfl (Or.inl rfl) rfl dX11_init_11 (fun H locs hH => ?_)
  have hH : Hp G (FA S s.heap.size) s.heap (wA S F_1 J_2 (gR S)) H locs := by rw [eJ_2]; exact hH
  refine lv_aload_n (pc := 14) hx hb dX11_init_14 rfl (lv_at hl 0 rfl) ?_
  refine lv_lconst (pc := 15) (v := 1) hx hb dX11_init_15 (by decide) ?_
  obtain ⟨J_3, eJ_3⟩ : ∃ z : Nat → Nat → Int64, z = upJ J_2 th 2 1 := ⟨_, rfl⟩
  have hp := hp J_3 eJ_3
  refine sx_putJ (pc := 16) (j := 2) B hH hk_th coX11 rfl w_458 rfl (Or.inl rfl) rfl dX11_init_16 (fun H locs hH => ?_)
  have hH : Hp G (FA S s.heap.size) s.heap (wA S F_1 J_3 (gR S)) H locs := by rw [eJ_3]; exact hH
  refine lv_aload_n (pc := 19) hx hb dX11_init_19 rfl (lv_at hl 0 rfl) ?_
  refine lv_iconst (pc := 20) (v := 4) hx hb dX11_init_20 (by decide) ?_
  obtain ⟨hc_5, hp⟩ := hp
  obtain ⟨hc_6, hp⟩ := hp
  refine sx_newq (pc := 21) (S := (wA S F_1 J_3 (gR S))) (k0 := 6) B hH B.2.2.2.2.2.1.2.1.2.2.2.1 (by decide) rfl w_133 (by decide) (by decide) (by decide) (show _ + 1 ≤ bc by omega) (show _ + 4 ≤ bs by omega) dX11_init_21 (fun q_4 H hq_4 hH => ?_)
  obtain ⟨S_4, eS_4⟩ : ∃ z : St, z = alo (wA S F_1 J_3 (gR S)) q_4 26 4 := ⟨_, rfl⟩
  have hp := hp q_4 hq_4 S_4 eS_4
  have hH : Hp G (FA S s.heap.size) s.heap S_4 H locs := by rw [eS_4]; exact hH
  have hk_4 : kd S_4 q_4 = 26 := by rw [eS_4]; exact kd_alo
  refine W.eq (g2 := F0 m 24 ls [.ref q_4, .ref th]) rfl ?_
  obtain ⟨hk_7, hp⟩ := hp
  obtain ⟨R_8, eR_8⟩ : ∃ z : Nat → Nat → Option Nat, z = upR (gR S_4) th 3 (some q_4) := ⟨_, rfl⟩
  have hp := hp R_8 eR_8
  refine sx_putR (pc := 24) (j := 3) (x := (some q_4)) B hH hk_7 coX11 rfl w_459 rfl (Or.inr ⟨rfl, hin, rfl⟩) rfl dX11_init_24 (fun H locs hH => ?_)
  have hH : Hp G (FA S s.heap.size) s.heap (wA S_4 (gI S_4) (gJ S_4) R_8) H locs := by rw [eR_8]; exact hH
  refine lv_aload_n (pc := 27) hx hb dX11_init_27 rfl (lv_at hl 0 rfl) ?_
  obtain ⟨hc_10, hp⟩ := hp
  obtain ⟨hc_11, hp⟩ := hp
  refine sx_new (pc := 28) (S := (wA S_4 (gI S_4) (gJ S_4) R_8)) B hH coX7 dvX7 w_135 w_136 w_106 (show _ + 1 ≤ bc by omega) (show _ + 11 ≤ bs by omega) dX11_init_28 (fun q_9 H hq_9 hH => ?_)
  obtain ⟨S_9, eS_9⟩ : ∃ z : St, z = alo (wA S_4 (gI S_4) (gJ S_4) R_8) q_9 7 0 := ⟨_, rfl⟩
  have hp := hp q_9 hq_9 S_9 eS_9
  have hH : Hp G (FA S s.heap.size) s.heap S_9 H locs := by rw [eS_9]; exact hH
  have hk_9 : kd S_9 q_9 = 7 := by rw [eS_9]; exact kd_alo
  refine W.eq (g2 := F0 m 31 ls [.ref q_9, .ref th]) rfl ?_
  refine lv_dup (pc := 31) hx hb dX11_init_31 rfl ?_
  obtain ⟨c_12, s_12, hb_12, hs_12, hp⟩ := hp
  refine sx_I (pc := 32) (As := []) (rest := [.ref q_9, .ref th]) B hH hl.1 (C_X7_init G l q_9 _ c_12 s_12 _ hp) mi_X7_init rfl w_138 w_137 rfl rfl ⟨Nat.le_of_ble_eq_true rfl, Nat.le_of_ble_eq_true rfl⟩ (Nat.le_of_ble_eq_true rfl) ⟨(show _ + c_12 ≤ bc by omega), (show _ + s_12 ≤ bs by omega)⟩ dX11_init_32 (fun v S1 H locs hq hH => ?_)
  obtain ⟨rfl, hp⟩ := hq
  obtain ⟨S_13, eS_13⟩ : ∃ z : St, z = S1 := ⟨_, rfl⟩
  rw [← eS_13] at hp hH
  refine W.eq (g2 := F0 m 35 ls [.ref q_9, .ref th]) rfl ?_
  obtain ⟨hk_14, hp⟩ := hp
  obtain ⟨R_15, eR_15⟩ : ∃ z : Nat → Nat → Option Nat, z = upR (gR S_13) th 4 (some q_9) := ⟨_, rfl⟩
  have hp := hp R_15 eR_15
  refine sx_putR (pc := 35) (j := 4) (x := (some q_9)) B hH hk_14 coX11 rfl w_460 rfl (Or.inr ⟨rfl, hin, rfl⟩) rfl dX11_init_35 (fun H locs hH => ?_)
  have hH : Hp G (FA S s.heap.size) s.heap (wA S_13 (gI S_13) (gJ S_13) R_15) H locs := by rw [eR_15]; exact hH
  refine lv_aload_n (pc := 38) hx hb dX11_init_38 rfl (lv_at hl 0 rfl) ?_
  obtain ⟨hc_17, hp⟩ := hp
  obtain ⟨hc_18, hp⟩ := hp
  refine sx_new (pc := 39) (S := (wA S_13 (gI S_13) (gJ S_13) R_15)) B hH coX1 dvX1 w_249 w_250 w_111 (show _ + 1 ≤ bc by omega) (show _ + 12 ≤ bs by omega) dX11_init_39 (fun q_16 H hq_16 hH => ?_)
  obtain ⟨S_16, eS_16⟩ : ∃ z : St, z = alo (wA S_13 (gI S_13) (gJ S_13) R_15) q_16 2 0 := ⟨_, rfl⟩
  have hp := hp q_16 hq_16 S_16 eS_16
  have hH : Hp G (FA S s.heap.size) s.heap S_16 H locs := by rw [eS_16]; exact hH
  have hk_16 : kd S_16 q_16 = 2 := by rw [eS_16]; exact kd_alo
  refine W.eq (g2 := F0 m 42 ls [.ref q_16, .ref th]) rfl ?_
  refine lv_dup (pc := 42) hx hb dX11_init_42 rfl ?_
  refine lv_aload_n (pc := 43) hx hb dX11_init_43 rfl (lv_at hl 0 rfl) ?_
  obtain ⟨hk_19, hp⟩ := hp
  refine sx_getR (pc := 44) (j := 4) B hH hk_19 coX11 rfl w_460 rfl dX11_init_44 ?_
  refine W.eq (g2 := F0 m 47 ls [va_rf (gR S_16 th 4), .ref q_16, .ref q_16, .ref th]) rfl ?_
  obtain ⟨a_20, ha_20, hp⟩ := hp
  refine sx_nonnull (x := a_20) ha_20 ?_
  obtain ⟨c_21, s_21, hb_21, hs_21, hp⟩ := hp
  refine sx_I (pc := 47) (As := [.ref a_20]) (rest := [.ref q_16, .ref th]) B hH hl.1 (C_X1_init G l q_16 a_20 _ c_21 s_21 _ hp) mi_X1_init rfl w_252 w_251 rfl rfl ⟨Nat.le_of_ble_eq_true rfl, Nat.le_of_ble_eq_true rfl⟩ (Nat.le_of_ble_eq_true rfl) ⟨(show _ + c_21 ≤ bc by omega), (show _ + s_21 ≤ bs by omega)⟩ dX11_init_47 (fun v S1 H locs hq hH => ?_)
  obtain ⟨rfl, hp⟩ := hq
  obtain ⟨S_22, eS_22⟩ : ∃ z : St, z = S1 := ⟨_, rfl⟩
  rw [← eS_22] at hp hH
  refine W.eq (g2 := F0 m 50 ls [.ref q_16, .ref th]) rfl ?_
  obtain ⟨hk_23, hp⟩ := hp
  obtain ⟨R_24, eR_24⟩ : ∃ z : Nat → Nat → Option Nat, z = upR (gR S_22) th 5 (some q_16) := ⟨_, rfl⟩
  have hp := hp R_24 eR_24
  refine sx_putR (pc := 50) (j := 5) (x := (some q_16)) B hH hk_23 coX11 rfl w_461 rfl (Or.inr ⟨rfl, hin, rfl⟩) rfl dX11_init_50 (fun H locs hH => ?_)
  have hH : Hp G (FA S s.heap.size) s.heap (wA S_22 (gI S_22) (gJ S_22) R_24) H locs := by rw [eR_24]; exact hH
  refine lv_aload_n (pc := 53) hx hb dX11_init_53 rfl (lv_at hl 0 rfl) ?_
  obtain ⟨hc_26, hp⟩ := hp
  obtain ⟨hc_27, hp⟩ := hp
  refine sx_new (pc := 54) (S := (wA S_22 (gI S_22) (gJ S_22) R_24)) B hH coX9 dvX9 w_295 w_296 w_112 (show _ + 1 ≤ bc by omega) (show _ + 11 ≤ bs by omega) dX11_init_54 (fun q_25 H hq_25 hH => ?_)
  obtain ⟨S_25, eS_25⟩ : ∃ z : St, z = alo (wA S_22 (gI S_22) (gJ S_22) R_24) q_25 9 0 := ⟨_, rfl⟩
  have hp := hp q_25 hq_25 S_25 eS_25
  have hH : Hp G (FA S s.heap.size) s.heap S_25 H locs := by rw [eS_25]; exact hH
  have hk_25 : kd S_25 q_25 = 9 := by rw [eS_25]; exact kd_alo
  refine W.eq (g2 := F0 m 57 ls [.ref q_25, .ref th]) rfl ?_
  refine lv_dup (pc := 57) hx hb dX11_init_57 rfl ?_
  refine lv_aload_n (pc := 58) hx hb dX11_init_58 rfl (lv_at hl 0 rfl) ?_
  obtain ⟨hk_28, hp⟩ := hp
  refine sx_getR (pc := 59) (j := 4) B hH hk_28 coX11 rfl w_460 rfl dX11_init_59 ?_
  refine W.eq (g2 := F0 m 62 ls [va_rf (gR S_25 th 4), .ref q_25, .ref q_25, .ref th]) rfl ?_
  obtain ⟨a_29, ha_29, hp⟩ := hp
  refine sx_nonnull (x := a_29) ha_29 ?_
  obtain ⟨c_30, s_30, hb_30, hs_30, hp⟩ := hp
  refine sx_I (pc := 62) (As := [.ref a_29]) (rest := [.ref q_25, .ref th]) B hH hl.1 (C_X9_init G l q_25 a_29 _ c_30 s_30 _ hp) mi_X9_init rfl w_298 w_297 rfl rfl ⟨Nat.le_of_ble_eq_true rfl, Nat.le_of_ble_eq_true rfl⟩ (Nat.le_of_ble_eq_true rfl) ⟨(show _ + c_30 ≤ bc by omega), (show _ + s_30 ≤ bs by omega)⟩ dX11_init_62 (fun v S1 H locs hq hH => ?_)
  obtain ⟨rfl, hp⟩ := hq
  obtain ⟨S_31, eS_31⟩ : ∃ z : St, z = S1 := ⟨_, rfl⟩
  rw [← eS_31] at hp hH
  refine W.eq (g2 := F0 m 65 ls [.ref q_25, .ref th]) rfl ?_
  obtain ⟨hk_32, hp⟩ := hp
  obtain ⟨R_33, eR_33⟩ : ∃ z : Nat → Nat → Option Nat, z = upR (gR S_31) th 6 (some q_25) := ⟨_, rfl⟩
  have hp := hp R_33 eR_33
  refine sx_putR (pc := 65) (j := 6) (x := (some q_25)) B hH hk_32 coX11 rfl w_462 rfl (Or.inr ⟨rfl, hin, rfl⟩) rfl dX11_init_65 (fun H locs hH => ?_)
  have hH : Hp G (FA S s.heap.size) s.heap (wA S_31 (gI S_31) (gJ S_31) R_33) H locs := by rw [eR_33]; exact hH
  refine lv_aload_n (pc := 68) hx hb dX11_init_68 rfl (lv_at hl 0 rfl) ?_
  obtain ⟨hc_35, hp⟩ := hp
  obtain ⟨hc_36, hp⟩ := hp
  refine sx_new (pc := 69) (S := (wA S_31 (gI S_31) (gJ S_31) R_33)) B hH coX0 dvX0 w_337 w_338 w_113 (show _ + 1 ≤ bc by omega) (show _ + 4 ≤ bs by omega) dX11_init_69 (fun q_34 H hq_34 hH => ?_)
  obtain ⟨S_34, eS_34⟩ : ∃ z : St, z = alo (wA S_31 (gI S_31) (gJ S_31) R_33) q_34 1 0 := ⟨_, rfl⟩
  have hp := hp q_34 hq_34 S_34 eS_34
  have hH : Hp G (FA S s.heap.size) s.heap S_34 H locs := by rw [eS_34]; exact hH
  have hk_34 : kd S_34 q_34 = 1 := by rw [eS_34]; exact kd_alo
  refine W.eq (g2 := F0 m 72 ls [.ref q_34, .ref th]) rfl ?_
  refine lv_dup (pc := 72) hx hb dX11_init_72 rfl ?_
  refine lv_iconst (pc := 73) (v := 4) hx hb dX11_init_73 (by decide) ?_
  refine lv_iconst (pc := 74) (v := 4) hx hb dX11_init_74 (by decide) ?_
  refine sx_S (pc := 75) (As := [.int 4]) (rest := [.int 4, .ref q_34, .ref q_34, .ref th]) B hH hl.1 (C_X4_allBells G l 4 _ _ hp) mi_X4_allBells w_340 w_339 rfl rfl ⟨Nat.le_of_ble_eq_true rfl, Nat.le_of_ble_eq_true rfl⟩ (Nat.le_of_ble_eq_true rfl) ⟨(show _ + 0 ≤ bc by omega), (show _ + 0 ≤ bs by omega)⟩ dX11_init_75 (fun v S1 H locs hq hH => ?_)
  obtain ⟨r_37, rfl, e9, hp⟩ := hq
  rw [e9] at hH
  refine W.eq (g2 := F0 m 78 ls [.int r_37, .int 4, .ref q_34, .ref q_34, .ref th]) rfl ?_
  refine lv_iconst (pc := 78) (v := 0) hx hb dX11_init_78 (by decide) ?_
  obtain ⟨hc_39, hp⟩ := hp
  obtain ⟨hc_40, hp⟩ := hp
  refine sx_newq (pc := 79) (S := S_34) (k0 := 4) B hH B.2.2.2.2.2.1.2.1.2.1 (by decide) rfl w_342 (by decide) (by decide) (by decide) (show _ + 1 ≤ bc by omega) (show _ + 0 ≤ bs by omega) dX11_init_79 (fun q_38 H hq_38 hH => ?_)
  obtain ⟨S_38, eS_38⟩ : ∃ z : St, z = alo S_34 q_38 24 0 := ⟨_, rfl⟩
  have hp := hp q_38 hq_38 S_38 eS_38
  have hH : Hp G (FA S s.heap.size) s.heap S_38 H locs := by rw [eS_38]; exact hH
  have hk_38 : kd S_38 q_38 = 24 := by rw [eS_38]; exact kd_alo
  refine W.eq (g2 := F0 m 82 ls [.ref q_38, .int r_37, .int 4, .ref q_34, .ref q_34, .ref th]) rfl ?_
  refine sx_I (pc := 82) (As := [.int 4, .int r_37, .ref q_38]) (rest := [.ref q_34, .ref th]) B hH hl.1 (C_X0_init G l q_34 4 r_37 q_38 _ _ hp) mi_X0_init rfl w_344 w_343 rfl rfl ⟨Nat.le_of_ble_eq_true rfl, Nat.le_of_ble_eq_true rfl⟩ (Nat.le_of_ble_eq_true rfl) ⟨(show _ + 0 ≤ bc by omega), (show _ + 0 ≤ bs by omega)⟩ dX11_init_82 (fun v S1 H locs hq hH => ?_)
  obtain ⟨F_41, R_41, rfl, e9, hp⟩ := hq
  rw [e9] at hH
  have hH : Hp G (FA S s.heap.size) s.heap (wA S_38 F_41 (gJ S_38) R_41) H locs := hH
  refine W.eq (g2 := F0 m 85 ls [.ref q_34, .ref th]) rfl ?_
  obtain ⟨hk_42, hp⟩ := hp
  obtain ⟨R_43, eR_43⟩ : ∃ z : Nat → Nat → Option Nat, z = upR R_41 th 7 (some q_34) := ⟨_, rfl⟩
  have hp := hp R_43 eR_43
  refine sx_putR (pc := 85) (j := 7) (x := (some q_34)) B hH hk_42 coX11 rfl w_463 rfl (Or.inl rfl) rfl dX11_init_85 (fun H locs hH => ?_)
  have hH : Hp G (FA S s.heap.size) s.heap (wA S_38 F_41 (gJ S_38) R_43) H locs := by rw [eR_43]; exact hH
  refine lv_aload_n (pc := 88) hx hb dX11_init_88 rfl (lv_at hl 0 rfl) ?_
  refine lv_null (pc := 89) hx hb dX11_init_89 ?_
  refine W.eq (g2 := F0 m 90 ls [va_rf none, .ref th]) rfl ?_
  obtain ⟨R_44, eR_44⟩ : ∃ z : Nat → Nat → Option Nat, z = upR R_43 th 8 none := ⟨_, rfl⟩
  have hp := hp R_44 eR_44
  refine sx_putR (pc := 90) (j := 8) (x := none) B hH hk_42 coX11 rfl w_464 rfl (Or.inl rfl) rfl dX11_init_90 (fun H locs hH => ?_)
  have hH : Hp G (FA S s.heap.size) s.heap (wA S_38 F_41 (gJ S_38) R_44) H locs := by rw [eR_44]; exact hH
  refine lv_aload_n (pc := 93) hx hb dX11_init_93 rfl (lv_at hl 0 rfl) ?_
  refine lv_null (pc := 94) hx hb dX11_init_94 ?_
  refine W.eq (g2 := F0 m 95 ls [va_rf none, .ref th]) rfl ?_
  obtain ⟨R_45, eR_45⟩ : ∃ z : Nat → Nat → Option Nat, z = upR R_44 th 9 none := ⟨_, rfl⟩
  have hp := hp R_45 eR_45
  refine sx_putR (pc := 95) (j := 9) (x := none) B hH hk_42 coX11 rfl w_465 rfl (Or.inl rfl) rfl dX11_init_95 (fun H locs hH => ?_)
  have hH : Hp G (FA S s.heap.size) s.heap (wA S_38 F_41 (gJ S_38) R_45) H locs := by rw [eR_45]; exact hH
  refine lv_aload_n (pc := 98) hx hb dX11_init_98 rfl (lv_at hl 0 rfl) ?_
  refine lv_iconst (pc := 99) (v := 3) hx hb dX11_init_99 (by decide) ?_
  obtain ⟨hc_47, hp⟩ := hp
  obtain ⟨hc_48, hp⟩ := hp
  refine sx_newq (pc := 100) (S := (wA S_38 F_41 (gJ S_38) R_45)) (k0 := 3) B hH B.2.2.2.2.2.1.2.1.1 (by decide) rfl w_337 (by decide) (by decide) (by decide) (show _ + 1 ≤ bc by omega) (show _ + 3 ≤ bs by omega) dX11_init_100 (fun q_46 H hq_46 hH => ?_)
  obtain ⟨S_46, eS_46⟩ : ∃ z : St, z = alo (wA S_38 F_41 (gJ S_38) R_45) q_46 23 3 := ⟨_, rfl⟩
  have hp := hp q_46 hq_46 S_46 eS_46
  have hH : Hp G (FA S s.heap.size) s.heap S_46 H locs := by rw [eS_46]; exact hH
  have hk_46 : kd S_46 q_46 = 23 := by rw [eS_46]; exact kd_alo
  refine W.eq (g2 := F0 m 103 ls [.ref q_46, .ref th]) rfl ?_
  obtain ⟨hk_49, hp⟩ := hp
  obtain ⟨R_50, eR_50⟩ : ∃ z : Nat → Nat → Option Nat, z = upR (gR S_46) th 10 (some q_46) := ⟨_, rfl⟩
  have hp := hp R_50 eR_50
  refine sx_putR (pc := 103) (j := 10) (x := (some q_46)) B hH hk_49 coX11 rfl w_466 rfl (Or.inr ⟨rfl, hin, rfl⟩) rfl dX11_init_103 (fun H locs hH => ?_)
  have hH : Hp G (FA S s.heap.size) s.heap (wA S_46 (gI S_46) (gJ S_46) R_50) H locs := by rw [eR_50]; exact hH
  refine lv_aload_n (pc := 106) hx hb dX11_init_106 rfl (lv_at hl 0 rfl) ?_
  refine lv_iconst (pc := 107) (v := 3) hx hb dX11_init_107 (by decide) ?_
  obtain ⟨hc_52, hp⟩ := hp
  obtain ⟨hc_53, hp⟩ := hp
  refine sx_newq (pc := 108) (S := (wA S_46 (gI S_46) (gJ S_46) R_50)) (k0 := 5) B hH B.2.2.2.2.2.1.2.1.2.2.1 (by decide) rfl w_377 (by decide) (by decide) (by decide) (show _ + 1 ≤ bc by omega) (show _ + 3 ≤ bs by omega) dX11_init_108 (fun q_51 H hq_51 hH => ?_)
  obtain ⟨S_51, eS_51⟩ : ∃ z : St, z = alo (wA S_46 (gI S_46) (gJ S_46) R_50) q_51 25 3 := ⟨_, rfl⟩
  have hp := hp q_51 hq_51 S_51 eS_51
  have hH : Hp G (FA S s.heap.size) s.heap S_51 H locs := by rw [eS_51]; exact hH
  have hk_51 : kd S_51 q_51 = 25 := by rw [eS_51]; exact kd_alo
  refine W.eq (g2 := F0 m 111 ls [.ref q_51, .ref th]) rfl ?_
  obtain ⟨hk_54, hp⟩ := hp
  obtain ⟨R_55, eR_55⟩ : ∃ z : Nat → Nat → Option Nat, z = upR (gR S_51) th 11 (some q_51) := ⟨_, rfl⟩
  have hp := hp R_55 eR_55
  refine sx_putR (pc := 111) (j := 11) (x := (some q_51)) B hH hk_54 coX11 rfl w_467 rfl (Or.inr ⟨rfl, hin, rfl⟩) rfl dX11_init_111 (fun H locs hH => ?_)
  have hH : Hp G (FA S s.heap.size) s.heap (wA S_51 (gI S_51) (gJ S_51) R_55) H locs := by rw [eR_55]; exact hH
  refine lv_aload_n (pc := 114) hx hb dX11_init_114 rfl (lv_at hl 0 rfl) ?_
  refine lv_iconst (pc := 115) (v := 3) hx hb dX11_init_115 (by decide) ?_
  obtain ⟨hc_57, hp⟩ := hp
  obtain ⟨hc_58, hp⟩ := hp
  refine sx_newq (pc := 116) (S := (wA S_51 (gI S_51) (gJ S_51) R_55)) (k0 := 5) B hH B.2.2.2.2.2.1.2.1.2.2.1 (by decide) rfl w_377 (by decide) (by decide) (by decide) (show _ + 1 ≤ bc by omega) (show _ + 3 ≤ bs by omega) dX11_init_116 (fun q_56 H hq_56 hH => ?_)
  obtain ⟨S_56, eS_56⟩ : ∃ z : St, z = alo (wA S_51 (gI S_51) (gJ S_51) R_55) q_56 25 3 := ⟨_, rfl⟩
  have hp := hp q_56 hq_56 S_56 eS_56
  have hH : Hp G (FA S s.heap.size) s.heap S_56 H locs := by rw [eS_56]; exact hH
  have hk_56 : kd S_56 q_56 = 25 := by rw [eS_56]; exact kd_alo
  refine W.eq (g2 := F0 m 119 ls [.ref q_56, .ref th]) rfl ?_
  obtain ⟨hk_59, hp⟩ := hp
  obtain ⟨R_60, eR_60⟩ : ∃ z : Nat → Nat → Option Nat, z = upR (gR S_56) th 12 (some q_56) := ⟨_, rfl⟩
  have hp := hp R_60 eR_60
  refine sx_putR (pc := 119) (j := 12) (x := (some q_56)) B hH hk_59 coX11 rfl w_468 rfl (Or.inr ⟨rfl, hin, rfl⟩) rfl dX11_init_119 (fun H locs hH => ?_)
  have hH : Hp G (FA S s.heap.size) s.heap (wA S_56 (gI S_56) (gJ S_56) R_60) H locs := by rw [eR_60]; exact hH
  refine lv_aload_n (pc := 122) hx hb dX11_init_122 rfl (lv_at hl 0 rfl) ?_
  refine lv_iconst (pc := 123) (v := 0) hx hb dX11_init_123 (by decide) ?_
  obtain ⟨F_61, eF_61⟩ : ∃ z : Nat → Nat → Int32, z = upI (gI S_56) th 13 0 := ⟨_, rfl⟩
  have hp := hp F_61 eF_61
  refine sx_putI (pc := 124) (j := 13) B hH hk_59 coX11 rfl w_469 rfl (Or.inl rfl) rfl dX11_init_124 (fun H locs hH => ?_)
  have hH : Hp G (FA S s.heap.size) s.heap (wA S_56 F_61 (gJ S_56) R_60) H locs := by rw [eF_61]; exact hH
  refine lv_aload_n (pc := 127) hx hb dX11_init_127 rfl (lv_at hl 0 rfl) ?_
  obtain ⟨hc_63, hp⟩ := hp
  obtain ⟨hc_64, hp⟩ := hp
  refine sx_new (pc := 128) (S := (wA S_56 F_61 (gJ S_56) R_60)) B hH coX6 dvX6 w_379 w_380 w_115 (show _ + 1 ≤ bc by omega) (show _ + 2 ≤ bs by omega) dX11_init_128 (fun q_62 H hq_62 hH => ?_)
  obtain ⟨S_62, eS_62⟩ : ∃ z : St, z = alo (wA S_56 F_61 (gJ S_56) R_60) q_62 6 0 := ⟨_, rfl⟩
  have hp := hp q_62 hq_62 S_62 eS_62
  have hH : Hp G (FA S s.heap.size) s.heap S_62 H locs := by rw [eS_62]; exact hH
  have hk_62 : kd S_62 q_62 = 6 := by rw [eS_62]; exact kd_alo
  refine W.eq (g2 := F0 m 131 ls [.ref q_62, .ref th]) rfl ?_
  refine lv_dup (pc := 131) hx hb dX11_init_131 rfl ?_
  obtain ⟨c_65, s_65, hb_65, hs_65, hp⟩ := hp
  refine sx_IN (pc := 132) (As := []) (rest := [.ref q_62, .ref th]) B hH hl.1 (C_X6_init G l q_62 _ c_65 s_65 _ hp) mi_X6_init rfl w_382 B.2.2.2.2.2.1.2.2.1 rfl rfl ⟨Nat.le_of_ble_eq_true rfl, Nat.le_of_ble_eq_true rfl⟩ (Nat.le_of_ble_eq_true rfl) ⟨(show _ + c_65 ≤ bc by omega), (show _ + s_65 ≤ bs by omega)⟩ dX11_init_132 (fun v S1 H locs hq hH => ?_)
  obtain ⟨rfl, hp⟩ := hq
  obtain ⟨S_66, eS_66⟩ : ∃ z : St, z = S1 := ⟨_, rfl⟩
  rw [← eS_66] at hp hH
  refine W.eq (g2 := F0 m 135 ls [.ref q_62, .ref th]) rfl ?_
  obtain ⟨hk_67, hp⟩ := hp
  obtain ⟨R_68, eR_68⟩ : ∃ z : Nat → Nat → Option Nat, z = upR (gR S_66) th 14 (some q_62) := ⟨_, rfl⟩
  have hp := hp R_68 eR_68
  refine sx_putR (pc := 135) (j := 14) (x := (some q_62)) B hH hk_67 coX11 rfl w_470 rfl (Or.inr ⟨rfl, hin, rfl⟩) rfl dX11_init_135 (fun H locs hH => ?_)
  have hH : Hp G (FA S s.heap.size) s.heap (wA S_66 (gI S_66) (gJ S_66) R_68) H locs := by rw [eR_68]; exact hH
  refine lv_aload_n (pc := 138) hx hb dX11_init_138 rfl (lv_at hl 0 rfl) ?_
  obtain ⟨hc_70, hp⟩ := hp
  obtain ⟨hc_71, hp⟩ := hp
  refine sx_new (pc := 139) (S := (wA S_66 (gI S_66) (gJ S_66) R_68)) B hH coX5 dvX5 w_392 w_393 w_116 (show _ + 1 ≤ bc by omega) (show _ + 9 ≤ bs by omega) dX11_init_139 (fun q_69 H hq_69 hH => ?_)
  obtain ⟨S_69, eS_69⟩ : ∃ z : St, z = alo (wA S_66 (gI S_66) (gJ S_66) R_68) q_69 5 0 := ⟨_, rfl⟩
  have hp := hp q_69 hq_69 S_69 eS_69
  have hH : Hp G (FA S s.heap.size) s.heap S_69 H locs := by rw [eS_69]; exact hH
  have hk_69 : kd S_69 q_69 = 5 := by rw [eS_69]; exact kd_alo
  refine W.eq (g2 := F0 m 142 ls [.ref q_69, .ref th]) rfl ?_
  refine lv_dup (pc := 142) hx hb dX11_init_142 rfl ?_
  obtain ⟨c_72, s_72, hb_72, hs_72, hp⟩ := hp
  refine sx_IN (pc := 143) (As := []) (rest := [.ref q_69, .ref th]) B hH hl.1 (C_X5_init G l q_69 _ c_72 s_72 _ hp) mi_X5_init rfl w_395 B.2.2.2.2.2.1.2.2.2.1 rfl rfl ⟨Nat.le_of_ble_eq_true rfl, Nat.le_of_ble_eq_true rfl⟩ (Nat.le_of_ble_eq_true rfl) ⟨(show _ + c_72 ≤ bc by omega), (show _ + s_72 ≤ bs by omega)⟩ dX11_init_143 (fun v S1 H locs hq hH => ?_)
  obtain ⟨rfl, hp⟩ := hq
  obtain ⟨S_73, eS_73⟩ : ∃ z : St, z = S1 := ⟨_, rfl⟩
  rw [← eS_73] at hp hH
  refine W.eq (g2 := F0 m 146 ls [.ref q_69, .ref th]) rfl ?_
  obtain ⟨hk_74, hp⟩ := hp
  obtain ⟨R_75, eR_75⟩ : ∃ z : Nat → Nat → Option Nat, z = upR (gR S_73) th 15 (some q_69) := ⟨_, rfl⟩
  have hp := hp R_75 eR_75
  refine sx_putR (pc := 146) (j := 15) (x := (some q_69)) B hH hk_74 coX11 rfl w_471 rfl (Or.inr ⟨rfl, hin, rfl⟩) rfl dX11_init_146 (fun H locs hH => ?_)
  have hH : Hp G (FA S s.heap.size) s.heap (wA S_73 (gI S_73) (gJ S_73) R_75) H locs := by rw [eR_75]; exact hH
  refine lv_aload_n (pc := 149) hx hb dX11_init_149 rfl (lv_at hl 0 rfl) ?_
  obtain ⟨hc_77, hp⟩ := hp
  obtain ⟨hc_78, hp⟩ := hp
  refine sx_new (pc := 150) (S := (wA S_73 (gI S_73) (gJ S_73) R_75)) B hH coX2 dvX2 w_429 w_430 w_117 (show _ + 1 ≤ bc by omega) (show _ + 6 ≤ bs by omega) dX11_init_150 (fun q_76 H hq_76 hH => ?_)
  obtain ⟨S_76, eS_76⟩ : ∃ z : St, z = alo (wA S_73 (gI S_73) (gJ S_73) R_75) q_76 3 0 := ⟨_, rfl⟩
  have hp := hp q_76 hq_76 S_76 eS_76
  have hH : Hp G (FA S s.heap.size) s.heap S_76 H locs := by rw [eS_76]; exact hH
  have hk_76 : kd S_76 q_76 = 3 := by rw [eS_76]; exact kd_alo
  refine W.eq (g2 := F0 m 153 ls [.ref q_76, .ref th]) rfl ?_
  refine lv_dup (pc := 153) hx hb dX11_init_153 rfl ?_
  obtain ⟨c_79, s_79, hb_79, hs_79, hp⟩ := hp
  refine sx_IN (pc := 154) (As := []) (rest := [.ref q_76, .ref th]) B hH hl.1 (C_X2_init G l q_76 _ c_79 s_79 _ hp) mi_X2_init rfl w_432 B.2.2.2.2.2.1.2.2.2.2 rfl rfl ⟨Nat.le_of_ble_eq_true rfl, Nat.le_of_ble_eq_true rfl⟩ (Nat.le_of_ble_eq_true rfl) ⟨(show _ + c_79 ≤ bc by omega), (show _ + s_79 ≤ bs by omega)⟩ dX11_init_154 (fun v S1 H locs hq hH => ?_)
  obtain ⟨rfl, hp⟩ := hq
  obtain ⟨S_80, eS_80⟩ : ∃ z : St, z = S1 := ⟨_, rfl⟩
  rw [← eS_80] at hp hH
  refine W.eq (g2 := F0 m 157 ls [.ref q_76, .ref th]) rfl ?_
  obtain ⟨hk_81, hp⟩ := hp
  obtain ⟨R_82, eR_82⟩ : ∃ z : Nat → Nat → Option Nat, z = upR (gR S_80) th 16 (some q_76) := ⟨_, rfl⟩
  have hp := hp R_82 eR_82
  refine sx_putR (pc := 157) (j := 16) (x := (some q_76)) B hH hk_81 coX11 rfl w_472 rfl (Or.inr ⟨rfl, hin, rfl⟩) rfl dX11_init_157 (fun H locs hH => ?_)
  have hH : Hp G (FA S s.heap.size) s.heap (wA S_80 (gI S_80) (gJ S_80) R_82) H locs := by rw [eR_82]; exact hH
  exact sx_vret (pc := 160) B hH hr hlk (by rw [← hQQ]; exact ⟨rfl, hp⟩) (show _ ≤ bc by omega) (show _ ≤ bs by omega) dX11_init_160
theorem dX11_status_0 : decode cX11_status 0 = .ok (.aload_n 0, 1) := by decide +kernel
theorem dX11_status_1 : decode cX11_status 1 = .ok (.getfield 9, 3) := by decide +kernel
theorem dX11_status_4 : decode cX11_status 4 = .ok (.ireturn, 1) := by decide +kernel
theorem mi_X11_status : MI yX11_status cX11_status 1 (some FieldType.int) 0 := ⟨w_511, w_105, by decide +kernel, by decide +kernel, by decide +kernel⟩
set_option maxRecDepth 100000 in
set_option maxHeartbeats 4000000 in
theorem C_X11_status (G : GG) (l : Launch) (th : Nat) (S : St) (Q : Int32 → Prop) (hp : P_X11_status th S Q) : Ctr G l yX11_status cX11_status 1 (some FieldType.int) 0 0 0 0 [.ref th] S (fun (v : Option Value) (S9 : St) => ∃ (r : Int32), v = some (.int r) ∧ S9 = S ∧ Q r ) := by
  generalize hQQ : (fun (v : Option Value) (S9 : St) => ∃ (r : Int32), v = some (.int r) ∧ S9 = S ∧ Q r ) = QQ
  unfold P_X11_status at hp
  refine Ctr.of (by decide) (Nat.le_of_ble_eq_true rfl) ?_
  intro p e s m args below meth c ls B hr hlk hin hl hH
  generalize hlocs0 : ([] : List Loc) = locs at hH ⊢
  have hx := B.1
  have hb := B.2.1
  have hl : lv_has ls 1 [(0, .ref th)] := hl
  obtain ⟨hk_th, hp⟩ := hp
  refine lv_aload_n (pc := 0) hx hb dX11_status_0 rfl (lv_at hl 0 rfl) ?_
  refine sx_getI (pc := 1) (j := 0) B hH hk_th coX11 rfl w_456 rfl dX11_status_1 ?_
  refine W.eq (g2 := F0 m 4 ls [.int (gI S th 0)]) rfl ?_
  exact sx_iret (pc := 4) B hH hr hlk (by rw [← hQQ]; exact ⟨_, rfl, rfl, hp⟩) (Nat.le_of_ble_eq_true rfl) (Nat.le_of_ble_eq_true rfl) dX11_status_4
theorem dX11_top_0 : decode cX11_top 0 = .ok (.aload_n 0, 1) := by decide +kernel
theorem dX11_top_1 : decode cX11_top 1 = .ok (.getfield 13, 3) := by decide +kernel
theorem dX11_top_4 : decode cX11_top 4 = .ok (.lreturn, 1) := by decide +kernel
theorem mi_X11_top : MI yX11_top cX11_top 1 (some FieldType.long) 0 := ⟨w_515, w_105, by decide +kernel, by decide +kernel, by decide +kernel⟩
set_option maxRecDepth 100000 in
set_option maxHeartbeats 4000000 in
theorem C_X11_top (G : GG) (l : Launch) (th : Nat) (S : St) (Q : Int64 → Prop) (hp : P_X11_top th S Q) : Ctr G l yX11_top cX11_top 1 (some FieldType.long) 0 0 0 0 [.ref th] S (fun (v : Option Value) (S9 : St) => ∃ (r : Int64), v = some (.long r) ∧ S9 = S ∧ Q r ) := by
  generalize hQQ : (fun (v : Option Value) (S9 : St) => ∃ (r : Int64), v = some (.long r) ∧ S9 = S ∧ Q r ) = QQ
  unfold P_X11_top at hp
  refine Ctr.of (by decide) (Nat.le_of_ble_eq_true rfl) ?_
  intro p e s m args below meth c ls B hr hlk hin hl hH
  generalize hlocs0 : ([] : List Loc) = locs at hH ⊢
  have hx := B.1
  have hb := B.2.1
  have hl : lv_has ls 1 [(0, .ref th)] := hl
  obtain ⟨hk_th, hp⟩ := hp
  refine lv_aload_n (pc := 0) hx hb dX11_top_0 rfl (lv_at hl 0 rfl) ?_
  refine sx_getJ (pc := 1) (j := 1) B hH hk_th coX11 rfl w_457 rfl dX11_top_1 ?_
  refine W.eq (g2 := F0 m 4 ls [.long (gJ S th 1)]) rfl ?_
  exact sx_lret (pc := 4) B hH hr hlk (by rw [← hQQ]; exact ⟨_, rfl, rfl, hp⟩) (Nat.le_of_ble_eq_true rfl) (Nat.le_of_ble_eq_true rfl) dX11_top_4
theorem dX11_bottom_0 : decode cX11_bottom 0 = .ok (.aload_n 0, 1) := by decide +kernel
theorem dX11_bottom_1 : decode cX11_bottom 1 = .ok (.getfield 17, 3) := by decide +kernel
theorem dX11_bottom_4 : decode cX11_bottom 4 = .ok (.lreturn, 1) := by decide +kernel
theorem mi_X11_bottom : MI yX11_bottom cX11_bottom 1 (some FieldType.long) 0 := ⟨w_519, w_105, by decide +kernel, by decide +kernel, by decide +kernel⟩
set_option maxRecDepth 100000 in
set_option maxHeartbeats 4000000 in
theorem C_X11_bottom (G : GG) (l : Launch) (th : Nat) (S : St) (Q : Int64 → Prop) (hp : P_X11_bottom th S Q) : Ctr G l yX11_bottom cX11_bottom 1 (some FieldType.long) 0 0 0 0 [.ref th] S (fun (v : Option Value) (S9 : St) => ∃ (r : Int64), v = some (.long r) ∧ S9 = S ∧ Q r ) := by
  generalize hQQ : (fun (v : Option Value) (S9 : St) => ∃ (r : Int64), v = some (.long r) ∧ S9 = S ∧ Q r ) = QQ
  unfold P_X11_bottom at hp
  refine Ctr.of (by decide) (Nat.le_of_ble_eq_true rfl) ?_
  intro p e s m args below meth c ls B hr hlk hin hl hH
  generalize hlocs0 : ([] : List Loc) = locs at hH ⊢
  have hx := B.1
  have hb := B.2.1
  have hl : lv_has ls 1 [(0, .ref th)] := hl
  obtain ⟨hk_th, hp⟩ := hp
  refine lv_aload_n (pc := 0) hx hb dX11_bottom_0 rfl (lv_at hl 0 rfl) ?_
  refine sx_getJ (pc := 1) (j := 2) B hH hk_th coX11 rfl w_458 rfl dX11_bottom_1 ?_
  refine W.eq (g2 := F0 m 4 ls [.long (gJ S th 2)]) rfl ?_
  exact sx_lret (pc := 4) B hH hr hlk (by rw [← hQQ]; exact ⟨_, rfl, rfl, hp⟩) (Nat.le_of_ble_eq_true rfl) (Nat.le_of_ble_eq_true rfl) dX11_bottom_4
theorem dX11_isTray_0 : decode cX11_isTray 0 = .ok (.iload_n 0, 1) := by decide +kernel
theorem dX11_isTray_1 : decode cX11_isTray 1 = .ok (.ifCond .lt 12, 3) := by decide +kernel
theorem dX11_isTray_4 : decode cX11_isTray 4 = .ok (.iload_n 0, 1) := by decide +kernel
theorem dX11_isTray_5 : decode cX11_isTray 5 = .ok (.iconst 4, 1) := by decide +kernel
theorem dX11_isTray_6 : decode cX11_isTray 6 = .ok (.if_icmp .ge 7, 3) := by decide +kernel
theorem dX11_isTray_9 : decode cX11_isTray 9 = .ok (.iconst 1, 1) := by decide +kernel
theorem dX11_isTray_10 : decode cX11_isTray 10 = .ok (.goto 4, 3) := by decide +kernel
theorem dX11_isTray_13 : decode cX11_isTray 13 = .ok (.iconst 0, 1) := by decide +kernel
theorem dX11_isTray_14 : decode cX11_isTray 14 = .ok (.ireturn, 1) := by decide +kernel
theorem mi_X11_isTray : MI yX11_isTray cX11_isTray 1 (some FieldType.boolean) 1 := ⟨w_526, w_105, by decide +kernel, by decide +kernel, by decide +kernel⟩
set_option maxRecDepth 100000 in
set_option maxHeartbeats 4000000 in
theorem C_X11_isTray (G : GG) (l : Launch) (p0 : Int32) (S : St) (Q : Int32 → Prop) (hp : P_X11_isTray p0 Q) : Ctr G l yX11_isTray cX11_isTray 1 (some FieldType.boolean) 0 0 0 0 [.int p0] S (fun (v : Option Value) (S9 : St) => ∃ (r : Int32), v = some (.int r) ∧ S9 = S ∧ Q r ) := by
  generalize hQQ : (fun (v : Option Value) (S9 : St) => ∃ (r : Int32), v = some (.int r) ∧ S9 = S ∧ Q r ) = QQ
  unfold P_X11_isTray at hp
  refine Ctr.of (by decide) (Nat.le_of_ble_eq_true rfl) ?_
  intro p e s m args below meth c ls B hr hlk hin hl hH
  generalize hlocs0 : ([] : List Loc) = locs at hH ⊢
  have hx := B.1
  have hb := B.2.1
  have hl : lv_has ls 1 [(0, .int p0)] := hl
  refine lv_iload_n (pc := 0) hx hb dX11_isTray_0 rfl (lv_at hl 0 rfl) ?_
  refine lv_if_lt (pc := 1) (tgt := 13) hx hb dX11_isTray_1 (by decide) (fun cc_1 => ?_) (fun cc_1 => ?_)
  · have hp := hp.1 cc_1
    refine lv_iconst (pc := 13) (v := 0) hx hb dX11_isTray_13 (by decide) ?_
    exact sx_zret (pc := 14) B hH hr hlk (Or.inl rfl) (by rw [← hQQ]; exact ⟨_, rfl, rfl, hp⟩) (Nat.le_of_ble_eq_true rfl) (Nat.le_of_ble_eq_true rfl) dX11_isTray_14
  · have hp := hp.2 cc_1
    refine lv_iload_n (pc := 4) hx hb dX11_isTray_4 rfl (lv_at hl 0 rfl) ?_
    refine lv_iconst (pc := 5) (v := 4) hx hb dX11_isTray_5 (by decide) ?_
    refine lv_icmp_ge (pc := 6) (tgt := 13) hx hb dX11_isTray_6 (by decide) (fun cc_2 => ?_) (fun cc_2 => ?_)
    · have hp := hp.1 cc_2
      refine lv_iconst (pc := 13) (v := 0) hx hb dX11_isTray_13 (by decide) ?_
      exact sx_zret (pc := 14) B hH hr hlk (Or.inl rfl) (by rw [← hQQ]; exact ⟨_, rfl, rfl, hp⟩) (Nat.le_of_ble_eq_true rfl) (Nat.le_of_ble_eq_true rfl) dX11_isTray_14
    · have hp := hp.2 cc_2
      refine lv_iconst (pc := 9) (v := 1) hx hb dX11_isTray_9 (by decide) ?_
      refine lv_goto (pc := 10) (tgt := 14) hx hb dX11_isTray_10 (by decide) ?_
      exact sx_zret (pc := 14) B hH hr hlk (Or.inr rfl) (by rw [← hQQ]; exact ⟨_, rfl, rfl, hp⟩) (Nat.le_of_ble_eq_true rfl) (Nat.le_of_ble_eq_true rfl) dX11_isTray_14
theorem dX11_deny_0 : decode cX11_deny 0 = .ok (.aload_n 0, 1) := by decide +kernel
theorem dX11_deny_1 : decode cX11_deny 1 = .ok (.iload_n 1, 1) := by decide +kernel
theorem dX11_deny_2 : decode cX11_deny 2 = .ok (.putfield 9, 3) := by decide +kernel
theorem dX11_deny_5 : decode cX11_deny 5 = .ok (.iconst 0, 1) := by decide +kernel
theorem dX11_deny_6 : decode cX11_deny 6 = .ok (.ireturn, 1) := by decide +kernel
theorem mi_X11_deny : MI yX11_deny cX11_deny 2 (some FieldType.boolean) 1 := ⟨w_530, w_105, by decide +kernel, by decide +kernel, by decide +kernel⟩
set_option maxRecDepth 100000 in
set_option maxHeartbeats 4000000 in
theorem C_X11_deny (G : GG) (l : Launch) (th : Nat) (p0 : Int32) (S : St) (Q : Int32 → (Nat → Nat → Int32) → Prop) (hp : P_X11_deny th p0 S Q) : Ctr G l yX11_deny cX11_deny 2 (some FieldType.boolean) 0 0 0 0 [.ref th, .int p0] S (fun (v : Option Value) (S9 : St) => ∃ (r : Int32) (I9 : Nat → Nat → Int32), v = some (.int r) ∧ S9 = wI S I9 ∧ Q r I9) := by
  generalize hQQ : (fun (v : Option Value) (S9 : St) => ∃ (r : Int32) (I9 : Nat → Nat → Int32), v = some (.int r) ∧ S9 = wI S I9 ∧ Q r I9) = QQ
  unfold P_X11_deny at hp
  refine Ctr.of (by decide) (Nat.le_of_ble_eq_true rfl) ?_
  intro p e s m args below meth c ls B hr hlk hin hl hH
  generalize hlocs0 : ([] : List Loc) = locs at hH ⊢
  have hx := B.1
  have hb := B.2.1
  have hl : lv_has ls 2 [(0, .ref th), (1, .int p0)] := hl
  obtain ⟨hk_th, hp⟩ := hp
  refine lv_aload_n (pc := 0) hx hb dX11_deny_0 rfl (lv_at hl 0 rfl) ?_
  refine lv_iload_n (pc := 1) hx hb dX11_deny_1 rfl (lv_at hl 1 rfl) ?_
  obtain ⟨F_1, eF_1⟩ : ∃ z : Nat → Nat → Int32, z = upI (gI S) th 0 p0 := ⟨_, rfl⟩
  have hp := hp F_1 eF_1
  refine sx_putI (pc := 2) (j := 0) B hH hk_th coX11 rfl w_456 rfl (Or.inl rfl) rfl dX11_deny_2 (fun H locs hH => ?_)
  have hH : Hp G (FA S s.heap.size) s.heap (wI S F_1) H locs := by rw [eF_1]; exact hH
  refine lv_iconst (pc := 5) (v := 0) hx hb dX11_deny_5 (by decide) ?_
  exact sx_zret (pc := 6) B hH hr hlk (Or.inl rfl) (by rw [← hQQ]; exact ⟨_, F_1, rfl, rfl, hp⟩) (Nat.le_of_ble_eq_true rfl) (Nat.le_of_ble_eq_true rfl) dX11_deny_6
theorem dX11_grant_0 : decode cX11_grant 0 = .ok (.aload_n 0, 1) := by decide +kernel
theorem dX11_grant_1 : decode cX11_grant 1 = .ok (.iconst 0, 1) := by decide +kernel
theorem dX11_grant_2 : decode cX11_grant 2 = .ok (.putfield 9, 3) := by decide +kernel
theorem dX11_grant_5 : decode cX11_grant 5 = .ok (.iconst 1, 1) := by decide +kernel
theorem dX11_grant_6 : decode cX11_grant 6 = .ok (.ireturn, 1) := by decide +kernel
theorem mi_X11_grant : MI yX11_grant cX11_grant 1 (some FieldType.boolean) 0 := ⟨w_548, w_105, by decide +kernel, by decide +kernel, by decide +kernel⟩
set_option maxRecDepth 100000 in
set_option maxHeartbeats 4000000 in
theorem C_X11_grant (G : GG) (l : Launch) (th : Nat) (S : St) (Q : Int32 → (Nat → Nat → Int32) → Prop) (hp : P_X11_grant th S Q) : Ctr G l yX11_grant cX11_grant 1 (some FieldType.boolean) 0 0 0 0 [.ref th] S (fun (v : Option Value) (S9 : St) => ∃ (r : Int32) (I9 : Nat → Nat → Int32), v = some (.int r) ∧ S9 = wI S I9 ∧ Q r I9) := by
  generalize hQQ : (fun (v : Option Value) (S9 : St) => ∃ (r : Int32) (I9 : Nat → Nat → Int32), v = some (.int r) ∧ S9 = wI S I9 ∧ Q r I9) = QQ
  unfold P_X11_grant at hp
  refine Ctr.of (by decide) (Nat.le_of_ble_eq_true rfl) ?_
  intro p e s m args below meth c ls B hr hlk hin hl hH
  generalize hlocs0 : ([] : List Loc) = locs at hH ⊢
  have hx := B.1
  have hb := B.2.1
  have hl : lv_has ls 1 [(0, .ref th)] := hl
  obtain ⟨hk_th, hp⟩ := hp
  refine lv_aload_n (pc := 0) hx hb dX11_grant_0 rfl (lv_at hl 0 rfl) ?_
  refine lv_iconst (pc := 1) (v := 0) hx hb dX11_grant_1 (by decide) ?_
  obtain ⟨F_1, eF_1⟩ : ∃ z : Nat → Nat → Int32, z = upI (gI S) th 0 0 := ⟨_, rfl⟩
  have hp := hp F_1 eF_1
  refine sx_putI (pc := 2) (j := 0) B hH hk_th coX11 rfl w_456 rfl (Or.inl rfl) rfl dX11_grant_2 (fun H locs hH => ?_)
  have hH : Hp G (FA S s.heap.size) s.heap (wI S F_1) H locs := by rw [eF_1]; exact hH
  refine lv_iconst (pc := 5) (v := 1) hx hb dX11_grant_5 (by decide) ?_
  exact sx_zret (pc := 6) B hH hr hlk (Or.inr rfl) (by rw [← hQQ]; exact ⟨_, F_1, rfl, rfl, hp⟩) (Nat.le_of_ble_eq_true rfl) (Nat.le_of_ble_eq_true rfl) dX11_grant_6
theorem dX11_tray_0 : decode cX11_tray 0 = .ok (.iload_n 1, 1) := by decide +kernel
theorem dX11_tray_1 : decode cX11_tray 1 = .ok (.invokestatic 110, 3) := by decide +kernel
theorem dX11_tray_4 : decode cX11_tray 4 = .ok (.ifCond .eq 22, 3) := by decide +kernel
theorem dX11_tray_7 : decode cX11_tray 7 = .ok (.iload_n 2, 1) := by decide +kernel
theorem dX11_tray_8 : decode cX11_tray 8 = .ok (.ifCond .lt 18, 3) := by decide +kernel
theorem dX11_tray_11 : decode cX11_tray 11 = .ok (.iload_n 2, 1) := by decide +kernel
theorem dX11_tray_12 : decode cX11_tray 12 = .ok (.iconst 4, 1) := by decide +kernel
theorem dX11_tray_13 : decode cX11_tray 13 = .ok (.if_icmp .ge 13, 3) := by decide +kernel
theorem dX11_tray_16 : decode cX11_tray 16 = .ok (.iload_n 3, 1) := by decide +kernel
theorem dX11_tray_17 : decode cX11_tray 17 = .ok (.ifCond .lt 9, 3) := by decide +kernel
theorem dX11_tray_20 : decode cX11_tray 20 = .ok (.iload_n 3, 1) := by decide +kernel
theorem dX11_tray_21 : decode cX11_tray 21 = .ok (.bipush 60, 2) := by decide +kernel
theorem dX11_tray_23 : decode cX11_tray 23 = .ok (.if_icmp .le 9, 3) := by decide +kernel
theorem dX11_tray_26 : decode cX11_tray 26 = .ok (.aload_n 0, 1) := by decide +kernel
theorem dX11_tray_27 : decode cX11_tray 27 = .ok (.iconst 1, 1) := by decide +kernel
theorem dX11_tray_28 : decode cX11_tray 28 = .ok (.invokevirtual 114, 3) := by decide +kernel
theorem dX11_tray_31 : decode cX11_tray 31 = .ok (.ireturn, 1) := by decide +kernel
theorem dX11_tray_32 : decode cX11_tray 32 = .ok (.aload_n 0, 1) := by decide +kernel
theorem dX11_tray_33 : decode cX11_tray 33 = .ok (.getfield 22, 3) := by decide +kernel
theorem dX11_tray_36 : decode cX11_tray 36 = .ok (.iload_n 1, 1) := by decide +kernel
theorem dX11_tray_37 : decode cX11_tray 37 = .ok (.new 20, 3) := by decide +kernel
theorem dX11_tray_40 : decode cX11_tray 40 = .ok (.dup, 1) := by decide +kernel
theorem dX11_tray_41 : decode cX11_tray 41 = .ok (.iload_n 2, 1) := by decide +kernel
theorem dX11_tray_42 : decode cX11_tray 42 = .ok (.iload_n 3, 1) := by decide +kernel
theorem dX11_tray_43 : decode cX11_tray 43 = .ok (.invokespecial 117, 3) := by decide +kernel
theorem dX11_tray_46 : decode cX11_tray 46 = .ok (.aastore, 1) := by decide +kernel
theorem dX11_tray_47 : decode cX11_tray 47 = .ok (.aload_n 0, 1) := by decide +kernel
theorem dX11_tray_48 : decode cX11_tray 48 = .ok (.invokevirtual 120, 3) := by decide +kernel
theorem dX11_tray_51 : decode cX11_tray 51 = .ok (.ireturn, 1) := by decide +kernel
theorem mi_X11_tray : MI yX11_tray cX11_tray 4 (some FieldType.boolean) 3 := ⟨w_523, w_105, by decide +kernel, by decide +kernel, by decide +kernel⟩
set_option maxRecDepth 100000 in
set_option maxHeartbeats 4000000 in
theorem C_X11_tray (G : GG) (l : Launch) (th : Nat) (p0 : Int32) (p1 : Int32) (p2 : Int32) (S : St) (bc bs : Nat) (Q : Int32 → St → Prop) (hp : P_X11_tray th p0 p1 p2 S bc bs Q) : Ctr G l yX11_tray cX11_tray 4 (some FieldType.boolean) 2 42 bc bs [.ref th, .int p0, .int p1, .int p2] S (fun (v : Option Value) (S9 : St) => ∃ r : Int32, v = some (.int r) ∧ Q r S9) := by
  generalize hQQ : (fun (v : Option Value) (S9 : St) => ∃ r : Int32, v = some (.int r) ∧ Q r S9) = QQ
  unfold P_X11_tray at hp
  refine Ctr.of (by decide) (Nat.le_of_ble_eq_true rfl) ?_
  intro p e s m args below meth c ls B hr hlk hin hl hH
  generalize hlocs0 : ([] : List Loc) = locs at hH ⊢
  have hx := B.1
  have hb := B.2.1
  have hl : lv_has ls 4 [(0, .ref th), (1, .int p0), (2, .int p1), (3, .int p2)] := hl
  obtain ⟨hk_th, hp⟩ := hp
  refine lv_iload_n (pc := 0) hx hb dX11_tray_0 rfl (lv_at hl 1 rfl) ?_
  refine sx_S (pc := 1) (As := [.int p0]) (rest := []) B hH hl.1 (C_X11_isTray G l p0 _ _ hp) mi_X11_isTray w_525 w_524 rfl rfl ⟨Nat.le_of_ble_eq_true rfl, Nat.le_of_ble_eq_true rfl⟩ (Nat.le_of_ble_eq_true rfl) ⟨(show _ + 0 ≤ bc by omega), (show _ + 0 ≤ bs by omega)⟩ dX11_tray_1 (fun v S1 H locs hq hH => ?_)
  obtain ⟨r_1, rfl, e9, hp⟩ := hq
  rw [e9] at hH
  refine W.eq (g2 := F0 m 4 ls [.int r_1]) rfl ?_
  obtain ⟨J_3, hj_3, hp⟩ := hp
  have kj_3 : ∀  (H : Heap) (locs : List Loc) (ls : Array Slot) (cells slots : Nat), J_3  → cells + bc ≤ bc → slots + bs ≤ bs → Hp G (FA S s.heap.size) s.heap S H locs → lv_has ls 4 [(0, .ref th)] → Wm G p l e { frames := 2, cells := bc, slots := bs, locals := 42 } s m args below meth c S QQ bc bs H locs cells slots (F0 m 26 ls []) := by
    intro  H locs ls cells slots hq9 hcc_3 hss_3 hH hl
    have hp := hj_3  hq9
    refine lv_aload_n (pc := 26) hx hb dX11_tray_26 rfl (lv_at hl 0 rfl) ?_
    refine lv_iconst (pc := 27) (v := 1) hx hb dX11_tray_27 (by decide) ?_
    refine sx_V (pc := 28) (As := [.int 1]) (rest := []) B hH hl.1 (C_X11_deny G l th 1 _ _ hp) mi_X11_deny coX11 hk_th w_529 w_0 w_527 rfl rfl ⟨Nat.le_of_ble_eq_true rfl, Nat.le_of_ble_eq_true rfl⟩ (Nat.le_of_ble_eq_true rfl) ⟨(show _ + 0 ≤ bc by omega), (show _ + 0 ≤ bs by omega)⟩ dX11_tray_28 (fun v S1 H locs hq hH => ?_)
    obtain ⟨r_4, F_4, rfl, e9, hp⟩ := hq
    rw [e9] at hH
    have hH : Hp G (FA S s.heap.size) s.heap (wI S F_4) H locs := hH
    refine W.eq (g2 := F0 m 31 ls [.int r_4]) rfl ?_
    obtain ⟨hz, hp⟩ := hp
    exact sx_zret (pc := 31) B hH hr hlk hz (by rw [← hQQ]; exact ⟨_, rfl, hp⟩) (show _ ≤ bc by omega) (show _ ≤ bs by omega) dX11_tray_31
  refine lv_if_eq (pc := 4) (tgt := 26) hx hb dX11_tray_4 (by decide) (fun cc_2 => ?_) (fun cc_2 => ?_)
  · have hp := hp.1 cc_2
    exact kj_3  _ _ _ _ _ hp (show _ + bc ≤ bc by omega) (show _ + bs ≤ bs by omega) hH (lv_sub hl [0] rfl)
  · have hp := hp.2 cc_2
    refine lv_iload_n (pc := 7) hx hb dX11_tray_7 rfl (lv_at hl 2 rfl) ?_
    refine lv_if_lt (pc := 8) (tgt := 26) hx hb dX11_tray_8 (by decide) (fun cc_5 => ?_) (fun cc_5 => ?_)
    · have hp := hp.1 cc_5
      exact kj_3  _ _ _ _ _ hp (show _ + bc ≤ bc by omega) (show _ + bs ≤ bs by omega) hH (lv_sub hl [0] rfl)
    · have hp := hp.2 cc_5
      refine lv_iload_n (pc := 11) hx hb dX11_tray_11 rfl (lv_at hl 2 rfl) ?_
      refine lv_iconst (pc := 12) (v := 4) hx hb dX11_tray_12 (by decide) ?_
      refine lv_icmp_ge (pc := 13) (tgt := 26) hx hb dX11_tray_13 (by decide) (fun cc_6 => ?_) (fun cc_6 => ?_)
      · have hp := hp.1 cc_6
        exact kj_3  _ _ _ _ _ hp (show _ + bc ≤ bc by omega) (show _ + bs ≤ bs by omega) hH (lv_sub hl [0] rfl)
      · have hp := hp.2 cc_6
        refine lv_iload_n (pc := 16) hx hb dX11_tray_16 rfl (lv_at hl 3 rfl) ?_
        refine lv_if_lt (pc := 17) (tgt := 26) hx hb dX11_tray_17 (by decide) (fun cc_7 => ?_) (fun cc_7 => ?_)
        · have hp := hp.1 cc_7
          exact kj_3  _ _ _ _ _ hp (show _ + bc ≤ bc by omega) (show _ + bs ≤ bs by omega) hH (lv_sub hl [0] rfl)
        · have hp := hp.2 cc_7
          refine lv_iload_n (pc := 20) hx hb dX11_tray_20 rfl (lv_at hl 3 rfl) ?_
          refine lv_bipush (pc := 21) (v := 60) hx hb dX11_tray_21 (by decide) ?_
          refine lv_icmp_le (pc := 23) (tgt := 32) hx hb dX11_tray_23 (by decide) (fun cc_8 => ?_) (fun cc_8 => ?_)
          · have hp := hp.1 cc_8
            refine lv_aload_n (pc := 32) hx hb dX11_tray_32 rfl (lv_at hl 0 rfl) ?_
            refine sx_getR (pc := 33) (j := 3) B hH hk_th coX11 rfl w_459 rfl dX11_tray_33 ?_
            refine W.eq (g2 := F0 m 36 ls [va_rf (gR S th 3)]) rfl ?_
            obtain ⟨a_9, ha_9, hp⟩ := hp
            refine sx_nonnull (x := a_9) ha_9 ?_
            refine lv_iload_n (pc := 36) hx hb dX11_tray_36 rfl (lv_at hl 1 rfl) ?_
            obtain ⟨hc_11, hp⟩ := hp
            obtain ⟨hc_12, hp⟩ := hp
            refine sx_new (pc := 37) (S := S) B hH coX10 dvX10 w_133 w_531 w_119 (show _ + 1 ≤ bc by omega) (show _ + 2 ≤ bs by omega) dX11_tray_37 (fun q_10 H hq_10 hH => ?_)
            obtain ⟨S_10, eS_10⟩ : ∃ z : St, z = alo S q_10 10 0 := ⟨_, rfl⟩
            have hp := hp q_10 hq_10 S_10 eS_10
            have hH : Hp G (FA S s.heap.size) s.heap S_10 H locs := by rw [eS_10]; exact hH
            have hk_10 : kd S_10 q_10 = 10 := by rw [eS_10]; exact kd_alo
            refine W.eq (g2 := F0 m 40 ls [.ref q_10, .int p0, .ref a_9]) rfl ?_
            refine lv_dup (pc := 40) hx hb dX11_tray_40 rfl ?_
            refine lv_iload_n (pc := 41) hx hb dX11_tray_41 rfl (lv_at hl 2 rfl) ?_
            refine lv_iload_n (pc := 42) hx hb dX11_tray_42 rfl (lv_at hl 3 rfl) ?_
            obtain ⟨c_13, s_13, hb_13, hs_13, hp⟩ := hp
            refine sx_I (pc := 43) (As := [.int p1, .int p2]) (rest := [.ref q_10, .int p0, .ref a_9]) B hH hl.1 (C_X10_init G l q_10 p1 p2 _ c_13 s_13 _ hp) mi_X10_init rfl w_533 w_532 rfl rfl ⟨Nat.le_of_ble_eq_true rfl, Nat.le_of_ble_eq_true rfl⟩ (Nat.le_of_ble_eq_true rfl) ⟨(show _ + c_13 ≤ bc by omega), (show _ + s_13 ≤ bs by omega)⟩ dX11_tray_43 (fun v S1 H locs hq hH => ?_)
            obtain ⟨rfl, hp⟩ := hq
            obtain ⟨S_14, eS_14⟩ : ∃ z : St, z = S1 := ⟨_, rfl⟩
            rw [← eS_14] at hp hH
            refine W.eq (g2 := F0 m 46 ls [.ref q_10, .int p0, .ref a_9]) rfl ?_
            obtain ⟨hk_15, hp⟩ := hp
            obtain ⟨hn_16, hp⟩ := hp
            obtain ⟨hk_17, hp⟩ := hp
            obtain ⟨R_18, eR_18⟩ : ∃ z : Nat → Nat → Option Nat, z = upR (gR S_14) a_9 p0.toNatClampNeg (some q_10) := ⟨_, rfl⟩
            have hp := hp R_18 eR_18
            refine sx_aast (pc := 46) (r := (some q_10)) B hH hk_15 (by decide) rfl coX10 (fun v hv => by cases hv; exact hk_17) hn_16 dX11_tray_46 (fun H locs hH => ?_)
            have hH : Hp G (FA S s.heap.size) s.heap (wA S_14 (gI S_14) (gJ S_14) R_18) H locs := by rw [eR_18]; exact hH
            refine lv_aload_n (pc := 47) hx hb dX11_tray_47 rfl (lv_at hl 0 rfl) ?_
            obtain ⟨hk_19, hp⟩ := hp
            refine sx_V (pc := 48) (As := []) (rest := []) B hH hl.1 (C_X11_grant G l th _ _ hp) mi_X11_grant coX11 hk_19 w_547 w_1 w_545 rfl rfl ⟨Nat.le_of_ble_eq_true rfl, Nat.le_of_ble_eq_true rfl⟩ (Nat.le_of_ble_eq_true rfl) ⟨(show _ + 0 ≤ bc by omega), (show _ + 0 ≤ bs by omega)⟩ dX11_tray_48 (fun v S1 H locs hq hH => ?_)
            obtain ⟨r_20, F_20, rfl, e9, hp⟩ := hq
            rw [e9] at hH
            have hH : Hp G (FA S s.heap.size) s.heap (wA S_14 F_20 (gJ S_14) R_18) H locs := hH
            refine W.eq (g2 := F0 m 51 ls [.int r_20]) rfl ?_
            obtain ⟨hz, hp⟩ := hp
            exact sx_zret (pc := 51) B hH hr hlk hz (by rw [← hQQ]; exact ⟨_, rfl, hp⟩) (show _ ≤ bc by omega) (show _ ≤ bs by omega) dX11_tray_51
          · have hp := hp.2 cc_8
            exact kj_3  _ _ _ _ _ hp (show _ + bc ≤ bc by omega) (show _ + bs ≤ bs by omega) hH (lv_sub hl [0] rfl)
theorem dX11_whyNoPlace_0 : decode cX11_whyNoPlace 0 = .ok (.iload_n 1, 1) := by decide +kernel
theorem dX11_whyNoPlace_1 : decode cX11_whyNoPlace 1 = .ok (.invokestatic 110, 3) := by decide +kernel
theorem dX11_whyNoPlace_4 : decode cX11_whyNoPlace 4 = .ok (.ifCond .ne 5, 3) := by decide +kernel
theorem dX11_whyNoPlace_7 : decode cX11_whyNoPlace 7 = .ok (.iconst 1, 1) := by decide +kernel
theorem dX11_whyNoPlace_8 : decode cX11_whyNoPlace 8 = .ok (.ireturn, 1) := by decide +kernel
theorem dX11_whyNoPlace_9 : decode cX11_whyNoPlace 9 = .ok (.aload_n 0, 1) := by decide +kernel
theorem dX11_whyNoPlace_10 : decode cX11_whyNoPlace 10 = .ok (.getfield 22, 3) := by decide +kernel
theorem dX11_whyNoPlace_13 : decode cX11_whyNoPlace 13 = .ok (.iload_n 1, 1) := by decide +kernel
theorem dX11_whyNoPlace_14 : decode cX11_whyNoPlace 14 = .ok (.aaload, 1) := by decide +kernel
theorem dX11_whyNoPlace_15 : decode cX11_whyNoPlace 15 = .ok (.ifnonnull 5, 3) := by decide +kernel
theorem dX11_whyNoPlace_18 : decode cX11_whyNoPlace 18 = .ok (.iconst 2, 1) := by decide +kernel
theorem dX11_whyNoPlace_19 : decode cX11_whyNoPlace 19 = .ok (.ireturn, 1) := by decide +kernel
theorem dX11_whyNoPlace_20 : decode cX11_whyNoPlace 20 = .ok (.aload_n 0, 1) := by decide +kernel
theorem dX11_whyNoPlace_21 : decode cX11_whyNoPlace 21 = .ok (.getfield 22, 3) := by decide +kernel
theorem dX11_whyNoPlace_24 : decode cX11_whyNoPlace 24 = .ok (.iload_n 1, 1) := by decide +kernel
theorem dX11_whyNoPlace_25 : decode cX11_whyNoPlace 25 = .ok (.aaload, 1) := by decide +kernel
theorem dX11_whyNoPlace_26 : decode cX11_whyNoPlace 26 = .ok (.iload_n 2, 1) := by decide +kernel
theorem dX11_whyNoPlace_27 : decode cX11_whyNoPlace 27 = .ok (.iconst 1, 1) := by decide +kernel
theorem dX11_whyNoPlace_28 : decode cX11_whyNoPlace 28 = .ok (.invokevirtual 142, 3) := by decide +kernel
theorem dX11_whyNoPlace_31 : decode cX11_whyNoPlace 31 = .ok (.ifCond .eq 7, 3) := by decide +kernel
theorem dX11_whyNoPlace_34 : decode cX11_whyNoPlace 34 = .ok (.iconst 0, 1) := by decide +kernel
theorem dX11_whyNoPlace_35 : decode cX11_whyNoPlace 35 = .ok (.goto 4, 3) := by decide +kernel
theorem dX11_whyNoPlace_38 : decode cX11_whyNoPlace 38 = .ok (.iconst 3, 1) := by decide +kernel
theorem dX11_whyNoPlace_39 : decode cX11_whyNoPlace 39 = .ok (.ireturn, 1) := by decide +kernel
theorem mi_X11_whyNoPlace : MI yX11_whyNoPlace cX11_whyNoPlace 3 (some FieldType.int) 2 := ⟨w_556, w_105, by decide +kernel, by decide +kernel, by decide +kernel⟩
set_option maxRecDepth 100000 in
set_option maxHeartbeats 4000000 in
theorem C_X11_whyNoPlace (G : GG) (l : Launch) (th : Nat) (p0 : Int32) (p1 : Int32) (S : St) (Q : Int32 → Prop) (hp : P_X11_whyNoPlace th p0 p1 S Q) : Ctr G l yX11_whyNoPlace cX11_whyNoPlace 3 (some FieldType.int) 1 22 0 0 [.ref th, .int p0, .int p1] S (fun (v : Option Value) (S9 : St) => ∃ (r : Int32), v = some (.int r) ∧ S9 = S ∧ Q r ) := by
  generalize hQQ : (fun (v : Option Value) (S9 : St) => ∃ (r : Int32), v = some (.int r) ∧ S9 = S ∧ Q r ) = QQ
  unfold P_X11_whyNoPlace at hp
  refine Ctr.of (by decide) (Nat.le_of_ble_eq_true rfl) ?_
  intro p e s m args below meth c ls B hr hlk hin hl hH
  generalize hlocs0 : ([] : List Loc) = locs at hH ⊢
  have hx := B.1
  have hb := B.2.1
  have hl : lv_has ls 3 [(0, .ref th), (1, .int p0), (2, .int p1)] := hl
  obtain ⟨hk_th, hp⟩ := hp
  refine lv_iload_n (pc := 0) hx hb dX11_whyNoPlace_0 rfl (lv_at hl 1 rfl) ?_
  refine sx_S (pc := 1) (As := [.int p0]) (rest := []) B hH hl.1 (C_X11_isTray G l p0 _ _ hp) mi_X11_isTray w_525 w_524 rfl rfl ⟨Nat.le_of_ble_eq_true rfl, Nat.le_of_ble_eq_true rfl⟩ (Nat.le_of_ble_eq_true rfl) ⟨Nat.le_of_ble_eq_true rfl, Nat.le_of_ble_eq_true rfl⟩ dX11_whyNoPlace_1 (fun v S1 H locs hq hH => ?_)
  obtain ⟨r_1, rfl, e9, hp⟩ := hq
  rw [e9] at hH
  refine W.eq (g2 := F0 m 4 ls [.int r_1]) rfl ?_
  refine lv_if_ne (pc := 4) (tgt := 9) hx hb dX11_whyNoPlace_4 (by decide) (fun cc_2 => ?_) (fun cc_2 => ?_)
  · have hp := hp.1 cc_2
    refine lv_aload_n (pc := 9) hx hb dX11_whyNoPlace_9 rfl (lv_at hl 0 rfl) ?_
    refine sx_getR (pc := 10) (j := 3) B hH hk_th coX11 rfl w_459 rfl dX11_whyNoPlace_10 ?_
    refine W.eq (g2 := F0 m 13 ls [va_rf (gR S th 3)]) rfl ?_
    obtain ⟨a_3, ha_3, hp⟩ := hp
    refine sx_nonnull (x := a_3) ha_3 ?_
    refine lv_iload_n (pc := 13) hx hb dX11_whyNoPlace_13 rfl (lv_at hl 1 rfl) ?_
    obtain ⟨hk_4, hp⟩ := hp
    obtain ⟨hn_5, hp⟩ := hp
    refine sx_aald (pc := 14) B hH hk_4 (by decide) (by decide) hn_5 dX11_whyNoPlace_14 ?_
    refine W.eq (g2 := F0 m 15 ls [va_rf (gR S a_3 p0.toNatClampNeg)]) rfl ?_
    refine sx_ifnonnull (pc := 15) (r := gR S a_3 p0.toNatClampNeg) (tgt := 20) B dX11_whyNoPlace_15 (by decide) (fun cc_6 => ?_) (fun cc_6 => ?_)
    · have hp := hp.1 cc_6
      refine lv_aload_n (pc := 20) hx hb dX11_whyNoPlace_20 rfl (lv_at hl 0 rfl) ?_
      refine sx_getR (pc := 21) (j := 3) B hH hk_th coX11 rfl w_459 rfl dX11_whyNoPlace_21 ?_
      refine W.eq (g2 := F0 m 24 ls [va_rf (gR S th 3)]) rfl ?_
      refine sx_nonnull (x := a_3) ha_3 ?_
      refine lv_iload_n (pc := 24) hx hb dX11_whyNoPlace_24 rfl (lv_at hl 1 rfl) ?_
      refine sx_aald (pc := 25) B hH hk_4 (by decide) (by decide) hn_5 dX11_whyNoPlace_25 ?_
      refine W.eq (g2 := F0 m 26 ls [va_rf (gR S a_3 p0.toNatClampNeg)]) rfl ?_
      obtain ⟨a_7, ha_7, hp⟩ := hp
      refine sx_nonnull (x := a_7) ha_7 ?_
      refine lv_iload_n (pc := 26) hx hb dX11_whyNoPlace_26 rfl (lv_at hl 2 rfl) ?_
      refine lv_iconst (pc := 27) (v := 1) hx hb dX11_whyNoPlace_27 (by decide) ?_
      obtain ⟨hk_8, hp⟩ := hp
      refine sx_V (pc := 28) (As := [.int p1, .int 1]) (rest := []) B hH hl.1 (C_X10_has G l a_7 p1 1 _ _ hp) mi_X10_has coX10 hk_8 w_558 w_559 w_557 rfl rfl ⟨Nat.le_of_ble_eq_true rfl, Nat.le_of_ble_eq_true rfl⟩ (Nat.le_of_ble_eq_true rfl) ⟨Nat.le_of_ble_eq_true rfl, Nat.le_of_ble_eq_true rfl⟩ dX11_whyNoPlace_28 (fun v S1 H locs hq hH => ?_)
      obtain ⟨r_9, rfl, e9, hp⟩ := hq
      rw [e9] at hH
      refine W.eq (g2 := F0 m 31 ls [.int r_9]) rfl ?_
      refine lv_if_eq (pc := 31) (tgt := 38) hx hb dX11_whyNoPlace_31 (by decide) (fun cc_10 => ?_) (fun cc_10 => ?_)
      · have hp := hp.1 cc_10
        refine lv_iconst (pc := 38) (v := 3) hx hb dX11_whyNoPlace_38 (by decide) ?_
        exact sx_iret (pc := 39) B hH hr hlk (by rw [← hQQ]; exact ⟨_, rfl, rfl, hp⟩) (Nat.le_of_ble_eq_true rfl) (Nat.le_of_ble_eq_true rfl) dX11_whyNoPlace_39
      · have hp := hp.2 cc_10
        refine lv_iconst (pc := 34) (v := 0) hx hb dX11_whyNoPlace_34 (by decide) ?_
        refine lv_goto (pc := 35) (tgt := 39) hx hb dX11_whyNoPlace_35 (by decide) ?_
        exact sx_iret (pc := 39) B hH hr hlk (by rw [← hQQ]; exact ⟨_, rfl, rfl, hp⟩) (Nat.le_of_ble_eq_true rfl) (Nat.le_of_ble_eq_true rfl) dX11_whyNoPlace_39
    · have hp := hp.2 cc_6
      refine lv_iconst (pc := 18) (v := 2) hx hb dX11_whyNoPlace_18 (by decide) ?_
      exact sx_iret (pc := 19) B hH hr hlk (by rw [← hQQ]; exact ⟨_, rfl, rfl, hp⟩) (Nat.le_of_ble_eq_true rfl) (Nat.le_of_ble_eq_true rfl) dX11_whyNoPlace_19
  · have hp := hp.2 cc_2
    refine lv_iconst (pc := 7) (v := 1) hx hb dX11_whyNoPlace_7 (by decide) ?_
    exact sx_iret (pc := 8) B hH hr hlk (by rw [← hQQ]; exact ⟨_, rfl, rfl, hp⟩) (Nat.le_of_ble_eq_true rfl) (Nat.le_of_ble_eq_true rfl) dX11_whyNoPlace_8
theorem dX11_write_0 : decode cX11_write 0 = .ok (.aload_n 0, 1) := by decide +kernel
theorem dX11_write_1 : decode cX11_write 1 = .ok (.iload_n 1, 1) := by decide +kernel
theorem dX11_write_2 : decode cX11_write 2 = .ok (.iload_n 2, 1) := by decide +kernel
theorem dX11_write_3 : decode cX11_write 3 = .ok (.invokevirtual 124, 3) := by decide +kernel
theorem dX11_write_6 : decode cX11_write 6 = .ok (.istore 5, 2) := by decide +kernel
theorem dX11_write_8 : decode cX11_write 8 = .ok (.iload 5, 2) := by decide +kernel
theorem dX11_write_10 : decode cX11_write 10 = .ok (.ifCond .eq 10, 3) := by decide +kernel
theorem dX11_write_13 : decode cX11_write 13 = .ok (.aload_n 0, 1) := by decide +kernel
theorem dX11_write_14 : decode cX11_write 14 = .ok (.iload 5, 2) := by decide +kernel
theorem dX11_write_16 : decode cX11_write 16 = .ok (.invokevirtual 114, 3) := by decide +kernel
theorem dX11_write_19 : decode cX11_write 19 = .ok (.ireturn, 1) := by decide +kernel
theorem dX11_write_20 : decode cX11_write 20 = .ok (.aload_n 0, 1) := by decide +kernel
theorem dX11_write_21 : decode cX11_write 21 = .ok (.getfield 22, 3) := by decide +kernel
theorem dX11_write_24 : decode cX11_write 24 = .ok (.iload_n 1, 1) := by decide +kernel
theorem dX11_write_25 : decode cX11_write 25 = .ok (.aaload, 1) := by decide +kernel
theorem dX11_write_26 : decode cX11_write 26 = .ok (.astore 6, 2) := by decide +kernel
theorem dX11_write_28 : decode cX11_write 28 = .ok (.aload 6, 2) := by decide +kernel
theorem dX11_write_30 : decode cX11_write 30 = .ok (.getfield 128, 3) := by decide +kernel
theorem dX11_write_33 : decode cX11_write 33 = .ok (.iload_n 2, 1) := by decide +kernel
theorem dX11_write_34 : decode cX11_write 34 = .ok (.lload_n 3, 1) := by decide +kernel
theorem dX11_write_35 : decode cX11_write 35 = .ok (.aload 6, 2) := by decide +kernel
theorem dX11_write_37 : decode cX11_write 37 = .ok (.getfield 132, 3) := by decide +kernel
theorem dX11_write_40 : decode cX11_write 40 = .ok (.invokestatic 135, 3) := by decide +kernel
theorem dX11_write_43 : decode cX11_write 43 = .ok (.lastore, 1) := by decide +kernel
theorem dX11_write_44 : decode cX11_write 44 = .ok (.aload_n 0, 1) := by decide +kernel
theorem dX11_write_45 : decode cX11_write 45 = .ok (.invokevirtual 120, 3) := by decide +kernel
theorem dX11_write_48 : decode cX11_write 48 = .ok (.ireturn, 1) := by decide +kernel
theorem mi_X11_write : MI yX11_write cX11_write 7 (some FieldType.boolean) 3 := ⟨w_552, w_105, by decide +kernel, by decide +kernel, by decide +kernel⟩
set_option maxRecDepth 100000 in
set_option maxHeartbeats 4000000 in
theorem C_X11_write (G : GG) (l : Launch) (th : Nat) (p0 : Int32) (p1 : Int32) (p2 : Int64) (S : St) (Q : Int32 → (Nat → Nat → Int32) → (Nat → Nat → Int64) → Prop) (hp : P_X11_write th p0 p1 p2 S Q) : Ctr G l yX11_write cX11_write 7 (some FieldType.boolean) 2 44 0 0 [.ref th, .int p0, .int p1, .long p2] S (fun (v : Option Value) (S9 : St) => ∃ (r : Int32) (I9 : Nat → Nat → Int32) (J9 : Nat → Nat → Int64), v = some (.int r) ∧ S9 = wA S I9 J9 (gR S) ∧ Q r I9 J9) := by
  generalize hQQ : (fun (v : Option Value) (S9 : St) => ∃ (r : Int32) (I9 : Nat → Nat → Int32) (J9 : Nat → Nat → Int64), v = some (.int r) ∧ S9 = wA S I9 J9 (gR S) ∧ Q r I9 J9) = QQ
  unfold P_X11_write at hp
  refine Ctr.of (by decide) (Nat.le_of_ble_eq_true rfl) ?_
  intro p e s m args below meth c ls B hr hlk hin hl hH
  generalize hlocs0 : ([] : List Loc) = locs at hH ⊢
  have hx := B.1
  have hb := B.2.1
  have hl : lv_has ls 7 [(0, .ref th), (1, .int p0), (2, .int p1), (3, .long p2)] := hl
  obtain ⟨hk_th, hp⟩ := hp
  refine lv_aload_n (pc := 0) hx hb dX11_write_0 rfl (lv_at hl 0 rfl) ?_
  refine lv_iload_n (pc := 1) hx hb dX11_write_1 rfl (lv_at hl 1 rfl) ?_
  refine lv_iload_n (pc := 2) hx hb dX11_write_2 rfl (lv_at hl 2 rfl) ?_
  refine sx_V (pc := 3) (As := [.int p0, .int p1]) (rest := []) B hH hl.1 (C_X11_whyNoPlace G l th p0 p1 _ _ hp) mi_X11_whyNoPlace coX11 hk_th w_555 w_2 w_553 rfl rfl ⟨Nat.le_of_ble_eq_true rfl, Nat.le_of_ble_eq_true rfl⟩ (Nat.le_of_ble_eq_true rfl) ⟨Nat.le_of_ble_eq_true rfl, Nat.le_of_ble_eq_true rfl⟩ dX11_write_3 (fun v S1 H locs hq hH => ?_)
  obtain ⟨r_1, rfl, e9, hp⟩ := hq
  rw [e9] at hH
  refine W.eq (g2 := F0 m 6 ls [.int r_1]) rfl ?_
  refine lv_istore (pc := 6) (lv' := [(5, .int r_1), (0, .ref th), (1, .int p0), (2, .int p1), (3, .long p2)]) hx hb dX11_write_6 hl (by decide) rfl (fun ls hl => ?_)
  refine lv_iload (pc := 8) hx hb dX11_write_8 (lv_at hl 0 rfl) ?_
  refine lv_if_eq (pc := 10) (tgt := 20) hx hb dX11_write_10 (by decide) (fun cc_2 => ?_) (fun cc_2 => ?_)
  · have hp := hp.1 cc_2
    refine lv_aload_n (pc := 20) hx hb dX11_write_20 rfl (lv_at hl 1 rfl) ?_
    refine sx_getR (pc := 21) (j := 3) B hH hk_th coX11 rfl w_459 rfl dX11_write_21 ?_
    refine W.eq (g2 := F0 m 24 ls [va_rf (gR S th 3)]) rfl ?_
    obtain ⟨a_3, ha_3, hp⟩ := hp
    refine sx_nonnull (x := a_3) ha_3 ?_
    refine lv_iload_n (pc := 24) hx hb dX11_write_24 rfl (lv_at hl 2 rfl) ?_
    obtain ⟨hk_4, hp⟩ := hp
    obtain ⟨hn_5, hp⟩ := hp
    refine sx_aald (pc := 25) B hH hk_4 (by decide) (by decide) hn_5 dX11_write_25 ?_
    refine W.eq (g2 := F0 m 26 ls [va_rf (gR S a_3 p0.toNatClampNeg)]) rfl ?_
    refine sx_astore (pc := 26) (r := gR S a_3 p0.toNatClampNeg) (lv' := [(6, va_rf (gR S a_3 p0.toNatClampNeg)), (5, .int r_1), (0, .ref th), (1, .int p0), (2, .int p1), (3, .long p2)]) B dX11_write_26 hl (by decide) rfl (fun ls hl => ?_)
    refine sx_aload (pc := 28) (r := gR S a_3 p0.toNatClampNeg) B dX11_write_28 (lv_at hl 0 rfl) ?_
    obtain ⟨a_6, ha_6, hp⟩ := hp
    refine sx_nonnull (x := a_6) ha_6 ?_
    obtain ⟨hk_7, hp⟩ := hp
    refine sx_getR (pc := 30) (j := 1) B hH hk_7 coX10 rfl w_539 rfl dX11_write_30 ?_
    refine W.eq (g2 := F0 m 33 ls [va_rf (gR S a_6 1)]) rfl ?_
    obtain ⟨a_8, ha_8, hp⟩ := hp
    refine sx_nonnull (x := a_8) ha_8 ?_
    refine lv_iload_n (pc := 33) hx hb dX11_write_33 rfl (lv_at hl 4 rfl) ?_
    refine lv_lload_n (pc := 34) hx hb dX11_write_34 rfl (lv_at hl 5 rfl) ?_
    refine sx_aload (pc := 35) (r := gR S a_3 p0.toNatClampNeg) B dX11_write_35 (lv_at hl 0 rfl) ?_
    refine sx_nonnull (x := a_6) ha_6 ?_
    refine sx_getI (pc := 37) (j := 0) B hH hk_7 coX10 rfl w_537 rfl dX11_write_37 ?_
    refine W.eq (g2 := F0 m 40 ls [.int (gI S a_6 0), .long p2, .int p1, .ref a_8]) rfl ?_
    refine sx_S (pc := 40) (As := [.long p2, .int (gI S a_6 0)]) (rest := [.int p1, .ref a_8]) B hH hl.1 (C_X10_cut G l p2 (gI S a_6 0) _ _ hp) mi_X10_cut w_562 w_561 rfl rfl ⟨Nat.le_of_ble_eq_true rfl, Nat.le_of_ble_eq_true rfl⟩ (Nat.le_of_ble_eq_true rfl) ⟨Nat.le_of_ble_eq_true rfl, Nat.le_of_ble_eq_true rfl⟩ dX11_write_40 (fun v S1 H locs hq hH => ?_)
    obtain ⟨r_9, rfl, e9, hp⟩ := hq
    rw [e9] at hH
    refine W.eq (g2 := F0 m 43 ls [.long r_9, .int p1, .ref a_8]) rfl ?_
    obtain ⟨hk_10, hp⟩ := hp
    obtain ⟨hn_11, hp⟩ := hp
    obtain ⟨J_12, eJ_12⟩ : ∃ z : Nat → Nat → Int64, z = upJ (gJ S) a_8 p1.toNatClampNeg r_9 := ⟨_, rfl⟩
    have hp := hp J_12 eJ_12
    refine sx_last (pc := 43) B hH hk_10 hn_11 dX11_write_43 (fun H locs hH => ?_)
    have hH : Hp G (FA S s.heap.size) s.heap (wA S (gI S) J_12 (gR S)) H locs := by rw [eJ_12]; exact hH
    refine lv_aload_n (pc := 44) hx hb dX11_write_44 rfl (lv_at hl 2 rfl) ?_
    refine sx_V (pc := 45) (As := []) (rest := []) B hH hl.1 (C_X11_grant G l th _ _ hp) mi_X11_grant coX11 hk_th w_547 w_1 w_545 rfl rfl ⟨Nat.le_of_ble_eq_true rfl, Nat.le_of_ble_eq_true rfl⟩ (Nat.le_of_ble_eq_true rfl) ⟨Nat.le_of_ble_eq_true rfl, Nat.le_of_ble_eq_true rfl⟩ dX11_write_45 (fun v S1 H locs hq hH => ?_)
    obtain ⟨r_13, F_13, rfl, e9, hp⟩ := hq
    rw [e9] at hH
    have hH : Hp G (FA S s.heap.size) s.heap (wA S F_13 J_12 (gR S)) H locs := hH
    refine W.eq (g2 := F0 m 48 ls [.int r_13]) rfl ?_
    obtain ⟨hz, hp⟩ := hp
    exact sx_zret (pc := 48) B hH hr hlk hz (by rw [← hQQ]; exact ⟨_, F_13, J_12, rfl, rfl, hp⟩) (Nat.le_of_ble_eq_true rfl) (Nat.le_of_ble_eq_true rfl) dX11_write_48
  · have hp := hp.2 cc_2
    refine lv_aload_n (pc := 13) hx hb dX11_write_13 rfl (lv_at hl 1 rfl) ?_
    refine lv_iload (pc := 14) hx hb dX11_write_14 (lv_at hl 0 rfl) ?_
    refine sx_V (pc := 16) (As := [.int r_1]) (rest := []) B hH hl.1 (C_X11_deny G l th r_1 _ _ hp) mi_X11_deny coX11 hk_th w_529 w_0 w_527 rfl rfl ⟨Nat.le_of_ble_eq_true rfl, Nat.le_of_ble_eq_true rfl⟩ (Nat.le_of_ble_eq_true rfl) ⟨Nat.le_of_ble_eq_true rfl, Nat.le_of_ble_eq_true rfl⟩ dX11_write_16 (fun v S1 H locs hq hH => ?_)
    obtain ⟨r_14, F_14, rfl, e9, hp⟩ := hq
    rw [e9] at hH
    have hH : Hp G (FA S s.heap.size) s.heap (wI S F_14) H locs := hH
    refine W.eq (g2 := F0 m 19 ls [.int r_14]) rfl ?_
    obtain ⟨hz, hp⟩ := hp
    exact sx_zret (pc := 19) B hH hr hlk hz (by rw [← hQQ]; exact ⟨_, F_14, (gJ S), rfl, rfl, hp⟩) (Nat.le_of_ble_eq_true rfl) (Nat.le_of_ble_eq_true rfl) dX11_write_19
theorem dX11_refuse_0 : decode cX11_refuse 0 = .ok (.aload_n 0, 1) := by decide +kernel
theorem dX11_refuse_1 : decode cX11_refuse 1 = .ok (.iload_n 1, 1) := by decide +kernel
theorem dX11_refuse_2 : decode cX11_refuse 2 = .ok (.putfield 9, 3) := by decide +kernel
theorem dX11_refuse_5 : decode cX11_refuse 5 = .ok (.iconst (-1), 1) := by decide +kernel
theorem dX11_refuse_6 : decode cX11_refuse 6 = .ok (.ireturn, 1) := by decide +kernel
theorem mi_X11_refuse : MI yX11_refuse cX11_refuse 2 (some FieldType.int) 1 := ⟨w_571, w_105, by decide +kernel, by decide +kernel, by decide +kernel⟩
set_option maxRecDepth 100000 in
set_option maxHeartbeats 4000000 in
theorem C_X11_refuse (G : GG) (l : Launch) (th : Nat) (p0 : Int32) (S : St) (Q : Int32 → (Nat → Nat → Int32) → Prop) (hp : P_X11_refuse th p0 S Q) : Ctr G l yX11_refuse cX11_refuse 2 (some FieldType.int) 0 0 0 0 [.ref th, .int p0] S (fun (v : Option Value) (S9 : St) => ∃ (r : Int32) (I9 : Nat → Nat → Int32), v = some (.int r) ∧ S9 = wI S I9 ∧ Q r I9) := by
  generalize hQQ : (fun (v : Option Value) (S9 : St) => ∃ (r : Int32) (I9 : Nat → Nat → Int32), v = some (.int r) ∧ S9 = wI S I9 ∧ Q r I9) = QQ
  unfold P_X11_refuse at hp
  refine Ctr.of (by decide) (Nat.le_of_ble_eq_true rfl) ?_
  intro p e s m args below meth c ls B hr hlk hin hl hH
  generalize hlocs0 : ([] : List Loc) = locs at hH ⊢
  have hx := B.1
  have hb := B.2.1
  have hl : lv_has ls 2 [(0, .ref th), (1, .int p0)] := hl
  obtain ⟨hk_th, hp⟩ := hp
  refine lv_aload_n (pc := 0) hx hb dX11_refuse_0 rfl (lv_at hl 0 rfl) ?_
  refine lv_iload_n (pc := 1) hx hb dX11_refuse_1 rfl (lv_at hl 1 rfl) ?_
  obtain ⟨F_1, eF_1⟩ : ∃ z : Nat → Nat → Int32, z = upI (gI S) th 0 p0 := ⟨_, rfl⟩
  have hp := hp F_1 eF_1
  refine sx_putI (pc := 2) (j := 0) B hH hk_th coX11 rfl w_456 rfl (Or.inl rfl) rfl dX11_refuse_2 (fun H locs hH => ?_)
  have hH : Hp G (FA S s.heap.size) s.heap (wI S F_1) H locs := by rw [eF_1]; exact hH
  refine lv_iconst (pc := 5) (v := (-1)) hx hb dX11_refuse_5 (by decide) ?_
  exact sx_iret (pc := 6) B hH hr hlk (by rw [← hQQ]; exact ⟨_, F_1, rfl, rfl, hp⟩) (Nat.le_of_ble_eq_true rfl) (Nat.le_of_ble_eq_true rfl) dX11_refuse_6
theorem dX11_read_0 : decode cX11_read 0 = .ok (.aload_n 0, 1) := by decide +kernel
theorem dX11_read_1 : decode cX11_read 1 = .ok (.iload_n 1, 1) := by decide +kernel
theorem dX11_read_2 : decode cX11_read 2 = .ok (.iload_n 2, 1) := by decide +kernel
theorem dX11_read_3 : decode cX11_read 3 = .ok (.invokevirtual 124, 3) := by decide +kernel
theorem dX11_read_6 : decode cX11_read 6 = .ok (.istore_n 3, 1) := by decide +kernel
theorem dX11_read_7 : decode cX11_read 7 = .ok (.iload_n 3, 1) := by decide +kernel
theorem dX11_read_8 : decode cX11_read 8 = .ok (.ifCond .eq 10, 3) := by decide +kernel
theorem dX11_read_11 : decode cX11_read 11 = .ok (.aload_n 0, 1) := by decide +kernel
theorem dX11_read_12 : decode cX11_read 12 = .ok (.iload_n 3, 1) := by decide +kernel
theorem dX11_read_13 : decode cX11_read 13 = .ok (.invokevirtual 139, 3) := by decide +kernel
theorem dX11_read_16 : decode cX11_read 16 = .ok (.i2l, 1) := by decide +kernel
theorem dX11_read_17 : decode cX11_read 17 = .ok (.lreturn, 1) := by decide +kernel
theorem dX11_read_18 : decode cX11_read 18 = .ok (.aload_n 0, 1) := by decide +kernel
theorem dX11_read_19 : decode cX11_read 19 = .ok (.iconst 0, 1) := by decide +kernel
theorem dX11_read_20 : decode cX11_read 20 = .ok (.putfield 9, 3) := by decide +kernel
theorem dX11_read_23 : decode cX11_read 23 = .ok (.aload_n 0, 1) := by decide +kernel
theorem dX11_read_24 : decode cX11_read 24 = .ok (.getfield 22, 3) := by decide +kernel
theorem dX11_read_27 : decode cX11_read 27 = .ok (.iload_n 1, 1) := by decide +kernel
theorem dX11_read_28 : decode cX11_read 28 = .ok (.aaload, 1) := by decide +kernel
theorem dX11_read_29 : decode cX11_read 29 = .ok (.getfield 128, 3) := by decide +kernel
theorem dX11_read_32 : decode cX11_read 32 = .ok (.iload_n 2, 1) := by decide +kernel
theorem dX11_read_33 : decode cX11_read 33 = .ok (.laload, 1) := by decide +kernel
theorem dX11_read_34 : decode cX11_read 34 = .ok (.lreturn, 1) := by decide +kernel
theorem mi_X11_read : MI yX11_read cX11_read 4 (some FieldType.long) 2 := ⟨w_567, w_105, by decide +kernel, by decide +kernel, by decide +kernel⟩
set_option maxRecDepth 100000 in
set_option maxHeartbeats 4000000 in
theorem C_X11_read (G : GG) (l : Launch) (th : Nat) (p0 : Int32) (p1 : Int32) (S : St) (Q : Int64 → (Nat → Nat → Int32) → Prop) (hp : P_X11_read th p0 p1 S Q) : Ctr G l yX11_read cX11_read 4 (some FieldType.long) 2 44 0 0 [.ref th, .int p0, .int p1] S (fun (v : Option Value) (S9 : St) => ∃ (r : Int64) (I9 : Nat → Nat → Int32), v = some (.long r) ∧ S9 = wI S I9 ∧ Q r I9) := by
  generalize hQQ : (fun (v : Option Value) (S9 : St) => ∃ (r : Int64) (I9 : Nat → Nat → Int32), v = some (.long r) ∧ S9 = wI S I9 ∧ Q r I9) = QQ
  unfold P_X11_read at hp
  refine Ctr.of (by decide) (Nat.le_of_ble_eq_true rfl) ?_
  intro p e s m args below meth c ls B hr hlk hin hl hH
  generalize hlocs0 : ([] : List Loc) = locs at hH ⊢
  have hx := B.1
  have hb := B.2.1
  have hl : lv_has ls 4 [(0, .ref th), (1, .int p0), (2, .int p1)] := hl
  obtain ⟨hk_th, hp⟩ := hp
  refine lv_aload_n (pc := 0) hx hb dX11_read_0 rfl (lv_at hl 0 rfl) ?_
  refine lv_iload_n (pc := 1) hx hb dX11_read_1 rfl (lv_at hl 1 rfl) ?_
  refine lv_iload_n (pc := 2) hx hb dX11_read_2 rfl (lv_at hl 2 rfl) ?_
  refine sx_V (pc := 3) (As := [.int p0, .int p1]) (rest := []) B hH hl.1 (C_X11_whyNoPlace G l th p0 p1 _ _ hp) mi_X11_whyNoPlace coX11 hk_th w_555 w_2 w_553 rfl rfl ⟨Nat.le_of_ble_eq_true rfl, Nat.le_of_ble_eq_true rfl⟩ (Nat.le_of_ble_eq_true rfl) ⟨Nat.le_of_ble_eq_true rfl, Nat.le_of_ble_eq_true rfl⟩ dX11_read_3 (fun v S1 H locs hq hH => ?_)
  obtain ⟨r_1, rfl, e9, hp⟩ := hq
  rw [e9] at hH
  refine W.eq (g2 := F0 m 6 ls [.int r_1]) rfl ?_
  refine lv_istore_n (pc := 6) (lv' := [(3, .int r_1), (0, .ref th), (1, .int p0), (2, .int p1)]) hx hb dX11_read_6 rfl hl (by decide) rfl (fun ls hl => ?_)
  refine lv_iload_n (pc := 7) hx hb dX11_read_7 rfl (lv_at hl 0 rfl) ?_
  refine lv_if_eq (pc := 8) (tgt := 18) hx hb dX11_read_8 (by decide) (fun cc_2 => ?_) (fun cc_2 => ?_)
  · have hp := hp.1 cc_2
    refine lv_aload_n (pc := 18) hx hb dX11_read_18 rfl (lv_at hl 1 rfl) ?_
    refine lv_iconst (pc := 19) (v := 0) hx hb dX11_read_19 (by decide) ?_
    obtain ⟨F_3, eF_3⟩ : ∃ z : Nat → Nat → Int32, z = upI (gI S) th 0 0 := ⟨_, rfl⟩
    have hp := hp F_3 eF_3
    refine sx_putI (pc := 20) (j := 0) B hH hk_th coX11 rfl w_456 rfl (Or.inl rfl) rfl dX11_read_20 (fun H locs hH => ?_)
    have hH : Hp G (FA S s.heap.size) s.heap (wI S F_3) H locs := by rw [eF_3]; exact hH
    refine lv_aload_n (pc := 23) hx hb dX11_read_23 rfl (lv_at hl 1 rfl) ?_
    refine sx_getR (pc := 24) (j := 3) B hH hk_th coX11 rfl w_459 rfl dX11_read_24 ?_
    refine W.eq (g2 := F0 m 27 ls [va_rf (gR S th 3)]) rfl ?_
    obtain ⟨a_4, ha_4, hp⟩ := hp
    refine sx_nonnull (x := a_4) ha_4 ?_
    refine lv_iload_n (pc := 27) hx hb dX11_read_27 rfl (lv_at hl 2 rfl) ?_
    obtain ⟨hk_5, hp⟩ := hp
    obtain ⟨hn_6, hp⟩ := hp
    refine sx_aald (pc := 28) B hH hk_5 (by decide) (by decide) hn_6 dX11_read_28 ?_
    refine W.eq (g2 := F0 m 29 ls [va_rf (gR S a_4 p0.toNatClampNeg)]) rfl ?_
    obtain ⟨a_7, ha_7, hp⟩ := hp
    refine sx_nonnull (x := a_7) ha_7 ?_
    obtain ⟨hk_8, hp⟩ := hp
    refine sx_getR (pc := 29) (j := 1) B hH hk_8 coX10 rfl w_539 rfl dX11_read_29 ?_
    refine W.eq (g2 := F0 m 32 ls [va_rf (gR S a_7 1)]) rfl ?_
    obtain ⟨a_9, ha_9, hp⟩ := hp
    refine sx_nonnull (x := a_9) ha_9 ?_
    refine lv_iload_n (pc := 32) hx hb dX11_read_32 rfl (lv_at hl 3 rfl) ?_
    obtain ⟨hk_10, hp⟩ := hp
    obtain ⟨hn_11, hp⟩ := hp
    refine sx_lald (pc := 33) B hH hk_10 hn_11 dX11_read_33 ?_
    refine W.eq (g2 := F0 m 34 ls [.long (gJ S a_9 p1.toNatClampNeg)]) rfl ?_
    exact sx_lret (pc := 34) B hH hr hlk (by rw [← hQQ]; exact ⟨_, F_3, rfl, rfl, hp⟩) (Nat.le_of_ble_eq_true rfl) (Nat.le_of_ble_eq_true rfl) dX11_read_34
  · have hp := hp.2 cc_2
    refine lv_aload_n (pc := 11) hx hb dX11_read_11 rfl (lv_at hl 1 rfl) ?_
    refine lv_iload_n (pc := 12) hx hb dX11_read_12 rfl (lv_at hl 0 rfl) ?_
    refine sx_V (pc := 13) (As := [.int r_1]) (rest := []) B hH hl.1 (C_X11_refuse G l th r_1 _ _ hp) mi_X11_refuse coX11 hk_th w_570 w_3 w_568 rfl rfl ⟨Nat.le_of_ble_eq_true rfl, Nat.le_of_ble_eq_true rfl⟩ (Nat.le_of_ble_eq_true rfl) ⟨Nat.le_of_ble_eq_true rfl, Nat.le_of_ble_eq_true rfl⟩ dX11_read_13 (fun v S1 H locs hq hH => ?_)
    obtain ⟨r_12, F_12, rfl, e9, hp⟩ := hq
    rw [e9] at hH
    have hH : Hp G (FA S s.heap.size) s.heap (wI S F_12) H locs := hH
    refine W.eq (g2 := F0 m 16 ls [.int r_12]) rfl ?_
    refine lv_i2l (pc := 16) (v := r_12.toInt64) hx hb dX11_read_16 rfl ?_
    exact sx_lret (pc := 17) B hH hr hlk (by rw [← hQQ]; exact ⟨_, F_12, rfl, rfl, hp⟩) (Nat.le_of_ble_eq_true rfl) (Nat.le_of_ble_eq_true rfl) dX11_read_17
theorem dX11_pour_0 : decode cX11_pour 0 = .ok (.iload_n 1, 1) := by decide +kernel
theorem dX11_pour_1 : decode cX11_pour 1 = .ok (.invokestatic 110, 3) := by decide +kernel
theorem dX11_pour_4 : decode cX11_pour 4 = .ok (.ifCond .eq 24, 3) := by decide +kernel
theorem dX11_pour_7 : decode cX11_pour 7 = .ok (.iload_n 3, 1) := by decide +kernel
theorem dX11_pour_8 : decode cX11_pour 8 = .ok (.invokestatic 110, 3) := by decide +kernel
theorem dX11_pour_11 : decode cX11_pour 11 = .ok (.ifCond .eq 17, 3) := by decide +kernel
theorem dX11_pour_14 : decode cX11_pour 14 = .ok (.iload_n 2, 1) := by decide +kernel
theorem dX11_pour_15 : decode cX11_pour 15 = .ok (.ifCond .lt 13, 3) := by decide +kernel
theorem dX11_pour_18 : decode cX11_pour 18 = .ok (.iload 4, 2) := by decide +kernel
theorem dX11_pour_20 : decode cX11_pour 20 = .ok (.ifCond .lt 8, 3) := by decide +kernel
theorem dX11_pour_23 : decode cX11_pour 23 = .ok (.iload 5, 2) := by decide +kernel
theorem dX11_pour_25 : decode cX11_pour 25 = .ok (.ifCond .ge 9, 3) := by decide +kernel
theorem dX11_pour_28 : decode cX11_pour 28 = .ok (.aload_n 0, 1) := by decide +kernel
theorem dX11_pour_29 : decode cX11_pour 29 = .ok (.iconst 1, 1) := by decide +kernel
theorem dX11_pour_30 : decode cX11_pour 30 = .ok (.invokevirtual 114, 3) := by decide +kernel
theorem dX11_pour_33 : decode cX11_pour 33 = .ok (.ireturn, 1) := by decide +kernel
theorem dX11_pour_34 : decode cX11_pour 34 = .ok (.aload_n 0, 1) := by decide +kernel
theorem dX11_pour_35 : decode cX11_pour 35 = .ok (.getfield 22, 3) := by decide +kernel
theorem dX11_pour_38 : decode cX11_pour 38 = .ok (.iload_n 1, 1) := by decide +kernel
theorem dX11_pour_39 : decode cX11_pour 39 = .ok (.aaload, 1) := by decide +kernel
theorem dX11_pour_40 : decode cX11_pour 40 = .ok (.astore 6, 2) := by decide +kernel
theorem dX11_pour_42 : decode cX11_pour 42 = .ok (.aload_n 0, 1) := by decide +kernel
theorem dX11_pour_43 : decode cX11_pour 43 = .ok (.getfield 22, 3) := by decide +kernel
theorem dX11_pour_46 : decode cX11_pour 46 = .ok (.iload_n 3, 1) := by decide +kernel
theorem dX11_pour_47 : decode cX11_pour 47 = .ok (.aaload, 1) := by decide +kernel
theorem dX11_pour_48 : decode cX11_pour 48 = .ok (.astore 7, 2) := by decide +kernel
theorem dX11_pour_50 : decode cX11_pour 50 = .ok (.aload 6, 2) := by decide +kernel
theorem dX11_pour_52 : decode cX11_pour 52 = .ok (.ifnull 8, 3) := by decide +kernel
theorem dX11_pour_55 : decode cX11_pour 55 = .ok (.aload 7, 2) := by decide +kernel
theorem dX11_pour_57 : decode cX11_pour 57 = .ok (.ifnonnull 9, 3) := by decide +kernel
theorem dX11_pour_60 : decode cX11_pour 60 = .ok (.aload_n 0, 1) := by decide +kernel
theorem dX11_pour_61 : decode cX11_pour 61 = .ok (.iconst 2, 1) := by decide +kernel
theorem dX11_pour_62 : decode cX11_pour 62 = .ok (.invokevirtual 114, 3) := by decide +kernel
theorem dX11_pour_65 : decode cX11_pour 65 = .ok (.ireturn, 1) := by decide +kernel
theorem dX11_pour_66 : decode cX11_pour 66 = .ok (.aload 6, 2) := by decide +kernel
theorem dX11_pour_68 : decode cX11_pour 68 = .ok (.getfield 132, 3) := by decide +kernel
theorem dX11_pour_71 : decode cX11_pour 71 = .ok (.aload 7, 2) := by decide +kernel
theorem dX11_pour_73 : decode cX11_pour 73 = .ok (.getfield 132, 3) := by decide +kernel
theorem dX11_pour_76 : decode cX11_pour 76 = .ok (.if_icmp .eq 10, 3) := by decide +kernel
theorem dX11_pour_79 : decode cX11_pour 79 = .ok (.aload_n 0, 1) := by decide +kernel
theorem dX11_pour_80 : decode cX11_pour 80 = .ok (.bipush 8, 2) := by decide +kernel
theorem dX11_pour_82 : decode cX11_pour 82 = .ok (.invokevirtual 114, 3) := by decide +kernel
theorem dX11_pour_85 : decode cX11_pour 85 = .ok (.ireturn, 1) := by decide +kernel
theorem dX11_pour_86 : decode cX11_pour 86 = .ok (.aload 6, 2) := by decide +kernel
theorem dX11_pour_88 : decode cX11_pour 88 = .ok (.iload_n 2, 1) := by decide +kernel
theorem dX11_pour_89 : decode cX11_pour 89 = .ok (.iload 5, 2) := by decide +kernel
theorem dX11_pour_91 : decode cX11_pour 91 = .ok (.invokevirtual 142, 3) := by decide +kernel
theorem dX11_pour_94 : decode cX11_pour 94 = .ok (.ifCond .eq 15, 3) := by decide +kernel
theorem dX11_pour_97 : decode cX11_pour 97 = .ok (.aload 7, 2) := by decide +kernel
theorem dX11_pour_99 : decode cX11_pour 99 = .ok (.iload 4, 2) := by decide +kernel
theorem dX11_pour_101 : decode cX11_pour 101 = .ok (.iload 5, 2) := by decide +kernel
theorem dX11_pour_103 : decode cX11_pour 103 = .ok (.invokevirtual 142, 3) := by decide +kernel
theorem dX11_pour_106 : decode cX11_pour 106 = .ok (.ifCond .ne 9, 3) := by decide +kernel
theorem dX11_pour_109 : decode cX11_pour 109 = .ok (.aload_n 0, 1) := by decide +kernel
theorem dX11_pour_110 : decode cX11_pour 110 = .ok (.iconst 3, 1) := by decide +kernel
theorem dX11_pour_111 : decode cX11_pour 111 = .ok (.invokevirtual 114, 3) := by decide +kernel
theorem dX11_pour_114 : decode cX11_pour 114 = .ok (.ireturn, 1) := by decide +kernel
theorem dX11_pour_115 : decode cX11_pour 115 = .ok (.aload 6, 2) := by decide +kernel
theorem dX11_pour_117 : decode cX11_pour 117 = .ok (.getfield 128, 3) := by decide +kernel
theorem dX11_pour_120 : decode cX11_pour 120 = .ok (.iload_n 2, 1) := by decide +kernel
theorem dX11_pour_121 : decode cX11_pour 121 = .ok (.aload 7, 2) := by decide +kernel
theorem dX11_pour_123 : decode cX11_pour 123 = .ok (.getfield 128, 3) := by decide +kernel
theorem dX11_pour_126 : decode cX11_pour 126 = .ok (.iload 4, 2) := by decide +kernel
theorem dX11_pour_128 : decode cX11_pour 128 = .ok (.iload 5, 2) := by decide +kernel
theorem dX11_pour_130 : decode cX11_pour 130 = .ok (.invokestatic 146, 3) := by decide +kernel
theorem dX11_pour_133 : decode cX11_pour 133 = .ok (.aload_n 0, 1) := by decide +kernel
theorem dX11_pour_134 : decode cX11_pour 134 = .ok (.invokevirtual 120, 3) := by decide +kernel
theorem dX11_pour_137 : decode cX11_pour 137 = .ok (.ireturn, 1) := by decide +kernel
theorem mi_X11_pour : MI yX11_pour cX11_pour 8 (some FieldType.boolean) 5 := ⟨w_575, w_105, by decide +kernel, by decide +kernel, by decide +kernel⟩
set_option maxRecDepth 100000 in
set_option maxHeartbeats 4000000 in
theorem C_X11_pour (G : GG) (l : Launch) (th : Nat) (p0 : Int32) (p1 : Int32) (p2 : Int32) (p3 : Int32) (p4 : Int32) (S : St) (Q : Int32 → (Nat → Nat → Int32) → (Nat → Nat → Int64) → Prop) (hp : P_X11_pour th p0 p1 p2 p3 p4 S Q) : Ctr G l yX11_pour cX11_pour 8 (some FieldType.boolean) 1 26 0 0 [.ref th, .int p0, .int p1, .int p2, .int p3, .int p4] S (fun (v : Option Value) (S9 : St) => ∃ (r : Int32) (I9 : Nat → Nat → Int32) (J9 : Nat → Nat → Int64), v = some (.int r) ∧ S9 = wA S I9 J9 (gR S) ∧ Q r I9 J9) := by
  generalize hQQ : (fun (v : Option Value) (S9 : St) => ∃ (r : Int32) (I9 : Nat → Nat → Int32) (J9 : Nat → Nat → Int64), v = some (.int r) ∧ S9 = wA S I9 J9 (gR S) ∧ Q r I9 J9) = QQ
  unfold P_X11_pour at hp
  refine Ctr.of (by decide) (Nat.le_of_ble_eq_true rfl) ?_
  intro p e s m args below meth c ls B hr hlk hin hl hH
  generalize hlocs0 : ([] : List Loc) = locs at hH ⊢
  have hx := B.1
  have hb := B.2.1
  have hl : lv_has ls 8 [(0, .ref th), (1, .int p0), (2, .int p1), (3, .int p2), (4, .int p3), (5, .int p4)] := hl
  obtain ⟨hk_th, hp⟩ := hp
  refine lv_iload_n (pc := 0) hx hb dX11_pour_0 rfl (lv_at hl 1 rfl) ?_
  refine sx_S (pc := 1) (As := [.int p0]) (rest := []) B hH hl.1 (C_X11_isTray G l p0 _ _ hp) mi_X11_isTray w_525 w_524 rfl rfl ⟨Nat.le_of_ble_eq_true rfl, Nat.le_of_ble_eq_true rfl⟩ (Nat.le_of_ble_eq_true rfl) ⟨Nat.le_of_ble_eq_true rfl, Nat.le_of_ble_eq_true rfl⟩ dX11_pour_1 (fun v S1 H locs hq hH => ?_)
  obtain ⟨r_1, rfl, e9, hp⟩ := hq
  rw [e9] at hH
  refine W.eq (g2 := F0 m 4 ls [.int r_1]) rfl ?_
  obtain ⟨J_3, hj_3, hp⟩ := hp
  have kj_3 : ∀  (H : Heap) (locs : List Loc) (ls : Array Slot), J_3  → Hp G (FA S s.heap.size) s.heap S H locs → lv_has ls 8 [(0, .ref th)] → Wm G p l e { frames := 1, cells := 0, slots := 0, locals := 26 } s m args below meth c S QQ 0 0 H locs 0 0 (F0 m 28 ls []) := by
    intro  H locs ls hq9 hH hl
    have hp := hj_3  hq9
    refine lv_aload_n (pc := 28) hx hb dX11_pour_28 rfl (lv_at hl 0 rfl) ?_
    refine lv_iconst (pc := 29) (v := 1) hx hb dX11_pour_29 (by decide) ?_
    refine sx_V (pc := 30) (As := [.int 1]) (rest := []) B hH hl.1 (C_X11_deny G l th 1 _ _ hp) mi_X11_deny coX11 hk_th w_529 w_0 w_527 rfl rfl ⟨Nat.le_of_ble_eq_true rfl, Nat.le_of_ble_eq_true rfl⟩ (Nat.le_of_ble_eq_true rfl) ⟨Nat.le_of_ble_eq_true rfl, Nat.le_of_ble_eq_true rfl⟩ dX11_pour_30 (fun v S1 H locs hq hH => ?_)
    obtain ⟨r_4, F_4, rfl, e9, hp⟩ := hq
    rw [e9] at hH
    have hH : Hp G (FA S s.heap.size) s.heap (wI S F_4) H locs := hH
    refine W.eq (g2 := F0 m 33 ls [.int r_4]) rfl ?_
    obtain ⟨hz, hp⟩ := hp
    exact sx_zret (pc := 33) B hH hr hlk hz (by rw [← hQQ]; exact ⟨_, F_4, (gJ S), rfl, rfl, hp⟩) (Nat.le_of_ble_eq_true rfl) (Nat.le_of_ble_eq_true rfl) dX11_pour_33
  refine lv_if_eq (pc := 4) (tgt := 28) hx hb dX11_pour_4 (by decide) (fun cc_2 => ?_) (fun cc_2 => ?_)
  · have hp := hp.1 cc_2
    exact kj_3  _ _ _ hp hH (lv_sub hl [0] rfl)
  · have hp := hp.2 cc_2
    refine lv_iload_n (pc := 7) hx hb dX11_pour_7 rfl (lv_at hl 3 rfl) ?_
    refine sx_S (pc := 8) (As := [.int p2]) (rest := []) B hH hl.1 (C_X11_isTray G l p2 _ _ hp) mi_X11_isTray w_525 w_524 rfl rfl ⟨Nat.le_of_ble_eq_true rfl, Nat.le_of_ble_eq_true rfl⟩ (Nat.le_of_ble_eq_true rfl) ⟨Nat.le_of_ble_eq_true rfl, Nat.le_of_ble_eq_true rfl⟩ dX11_pour_8 (fun v S1 H locs hq hH => ?_)
    obtain ⟨r_5, rfl, e9, hp⟩ := hq
    rw [e9] at hH
    refine W.eq (g2 := F0 m 11 ls [.int r_5]) rfl ?_
    refine lv_if_eq (pc := 11) (tgt := 28) hx hb dX11_pour_11 (by decide) (fun cc_6 => ?_) (fun cc_6 => ?_)
    · have hp := hp.1 cc_6
      exact kj_3  _ _ _ hp hH (lv_sub hl [0] rfl)
    · have hp := hp.2 cc_6
      refine lv_iload_n (pc := 14) hx hb dX11_pour_14 rfl (lv_at hl 2 rfl) ?_
      refine lv_if_lt (pc := 15) (tgt := 28) hx hb dX11_pour_15 (by decide) (fun cc_7 => ?_) (fun cc_7 => ?_)
      · have hp := hp.1 cc_7
        exact kj_3  _ _ _ hp hH (lv_sub hl [0] rfl)
      · have hp := hp.2 cc_7
        refine lv_iload (pc := 18) hx hb dX11_pour_18 (lv_at hl 4 rfl) ?_
        refine lv_if_lt (pc := 20) (tgt := 28) hx hb dX11_pour_20 (by decide) (fun cc_8 => ?_) (fun cc_8 => ?_)
        · have hp := hp.1 cc_8
          exact kj_3  _ _ _ hp hH (lv_sub hl [0] rfl)
        · have hp := hp.2 cc_8
          refine lv_iload (pc := 23) hx hb dX11_pour_23 (lv_at hl 5 rfl) ?_
          refine lv_if_ge (pc := 25) (tgt := 34) hx hb dX11_pour_25 (by decide) (fun cc_9 => ?_) (fun cc_9 => ?_)
          · have hp := hp.1 cc_9
            refine lv_aload_n (pc := 34) hx hb dX11_pour_34 rfl (lv_at hl 0 rfl) ?_
            refine sx_getR (pc := 35) (j := 3) B hH hk_th coX11 rfl w_459 rfl dX11_pour_35 ?_
            refine W.eq (g2 := F0 m 38 ls [va_rf (gR S th 3)]) rfl ?_
            obtain ⟨a_10, ha_10, hp⟩ := hp
            refine sx_nonnull (x := a_10) ha_10 ?_
            refine lv_iload_n (pc := 38) hx hb dX11_pour_38 rfl (lv_at hl 1 rfl) ?_
            obtain ⟨hk_11, hp⟩ := hp
            obtain ⟨hn_12, hp⟩ := hp
            refine sx_aald (pc := 39) B hH hk_11 (by decide) (by decide) hn_12 dX11_pour_39 ?_
            refine W.eq (g2 := F0 m 40 ls [va_rf (gR S a_10 p0.toNatClampNeg)]) rfl ?_
            refine sx_astore (pc := 40) (r := gR S a_10 p0.toNatClampNeg) (lv' := [(6, va_rf (gR S a_10 p0.toNatClampNeg)), (0, .ref th), (1, .int p0), (2, .int p1), (3, .int p2), (4, .int p3), (5, .int p4)]) B dX11_pour_40 hl (by decide) rfl (fun ls hl => ?_)
            refine lv_aload_n (pc := 42) hx hb dX11_pour_42 rfl (lv_at hl 1 rfl) ?_
            refine sx_getR (pc := 43) (j := 3) B hH hk_th coX11 rfl w_459 rfl dX11_pour_43 ?_
            refine W.eq (g2 := F0 m 46 ls [va_rf (gR S th 3)]) rfl ?_
            refine sx_nonnull (x := a_10) ha_10 ?_
            refine lv_iload_n (pc := 46) hx hb dX11_pour_46 rfl (lv_at hl 4 rfl) ?_
            obtain ⟨hn_13, hp⟩ := hp
            refine sx_aald (pc := 47) B hH hk_11 (by decide) (by decide) hn_13 dX11_pour_47 ?_
            refine W.eq (g2 := F0 m 48 ls [va_rf (gR S a_10 p2.toNatClampNeg)]) rfl ?_
            refine sx_astore (pc := 48) (r := gR S a_10 p2.toNatClampNeg) (lv' := [(7, va_rf (gR S a_10 p2.toNatClampNeg)), (6, va_rf (gR S a_10 p0.toNatClampNeg)), (0, .ref th), (1, .int p0), (2, .int p1), (3, .int p2), (4, .int p3), (5, .int p4)]) B dX11_pour_48 hl (by decide) (by cases (gR S a_10 p0.toNatClampNeg) <;> rfl) (fun ls hl => ?_)
            refine sx_aload (pc := 50) (r := gR S a_10 p0.toNatClampNeg) B dX11_pour_50 (lv_at hl 1 rfl) ?_
            obtain ⟨J_15, hj_15, hp⟩ := hp
            have kj_15 : ∀  (H : Heap) (locs : List Loc) (ls : Array Slot), J_15  → Hp G (FA S s.heap.size) s.heap S H locs → lv_has ls 8 [(0, .ref th)] → Wm G p l e { frames := 1, cells := 0, slots := 0, locals := 26 } s m args below meth c S QQ 0 0 H locs 0 0 (F0 m 60 ls []) := by
              intro  H locs ls hq9 hH hl
              have hp := hj_15  hq9
              refine lv_aload_n (pc := 60) hx hb dX11_pour_60 rfl (lv_at hl 0 rfl) ?_
              refine lv_iconst (pc := 61) (v := 2) hx hb dX11_pour_61 (by decide) ?_
              refine sx_V (pc := 62) (As := [.int 2]) (rest := []) B hH hl.1 (C_X11_deny G l th 2 _ _ hp) mi_X11_deny coX11 hk_th w_529 w_0 w_527 rfl rfl ⟨Nat.le_of_ble_eq_true rfl, Nat.le_of_ble_eq_true rfl⟩ (Nat.le_of_ble_eq_true rfl) ⟨Nat.le_of_ble_eq_true rfl, Nat.le_of_ble_eq_true rfl⟩ dX11_pour_62 (fun v S1 H locs hq hH => ?_)
              obtain ⟨r_16, F_16, rfl, e9, hp⟩ := hq
              rw [e9] at hH
              have hH : Hp G (FA S s.heap.size) s.heap (wI S F_16) H locs := hH
              refine W.eq (g2 := F0 m 65 ls [.int r_16]) rfl ?_
              obtain ⟨hz, hp⟩ := hp
              exact sx_zret (pc := 65) B hH hr hlk hz (by rw [← hQQ]; exact ⟨_, F_16, (gJ S), rfl, rfl, hp⟩) (Nat.le_of_ble_eq_true rfl) (Nat.le_of_ble_eq_true rfl) dX11_pour_65
            refine sx_ifnull (pc := 52) (r := gR S a_10 p0.toNatClampNeg) (tgt := 60) B dX11_pour_52 (by decide) (fun cc_14 => ?_) (fun cc_14 => ?_)
            · have hp := hp.1 cc_14
              exact kj_15  _ _ _ hp hH (lv_sub hl [2] rfl)
            · have hp := hp.2 cc_14
              refine sx_aload (pc := 55) (r := gR S a_10 p2.toNatClampNeg) B dX11_pour_55 (lv_at hl 0 rfl) ?_
              refine sx_ifnonnull (pc := 57) (r := gR S a_10 p2.toNatClampNeg) (tgt := 66) B dX11_pour_57 (by decide) (fun cc_17 => ?_) (fun cc_17 => ?_)
              · have hp := hp.1 cc_17
                refine sx_aload (pc := 66) (r := gR S a_10 p0.toNatClampNeg) B dX11_pour_66 (lv_at hl 1 rfl) ?_
                obtain ⟨a_18, ha_18, hp⟩ := hp
                refine sx_nonnull (x := a_18) ha_18 ?_
                obtain ⟨hk_19, hp⟩ := hp
                refine sx_getI (pc := 68) (j := 0) B hH hk_19 coX10 rfl w_537 rfl dX11_pour_68 ?_
                refine W.eq (g2 := F0 m 71 ls [.int (gI S a_18 0)]) rfl ?_
                refine sx_aload (pc := 71) (r := gR S a_10 p2.toNatClampNeg) B dX11_pour_71 (lv_at hl 0 rfl) ?_
                obtain ⟨a_20, ha_20, hp⟩ := hp
                refine sx_nonnull (x := a_20) ha_20 ?_
                obtain ⟨hk_21, hp⟩ := hp
                refine sx_getI (pc := 73) (j := 0) B hH hk_21 coX10 rfl w_537 rfl dX11_pour_73 ?_
                refine W.eq (g2 := F0 m 76 ls [.int (gI S a_20 0), .int (gI S a_18 0)]) rfl ?_
                refine lv_icmp_eq (pc := 76) (tgt := 86) hx hb dX11_pour_76 (by decide) (fun cc_22 => ?_) (fun cc_22 => ?_)
                · have hp := hp.1 cc_22
                  refine sx_aload (pc := 86) (r := gR S a_10 p0.toNatClampNeg) B dX11_pour_86 (lv_at hl 1 rfl) ?_
                  refine sx_nonnull (x := a_18) ha_18 ?_
                  refine lv_iload_n (pc := 88) hx hb dX11_pour_88 rfl (lv_at hl 4 rfl) ?_
                  refine lv_iload (pc := 89) hx hb dX11_pour_89 (lv_at hl 7 rfl) ?_
                  refine sx_V (pc := 91) (As := [.int p1, .int p4]) (rest := []) B hH hl.1 (C_X10_has G l a_18 p1 p4 _ _ hp) mi_X10_has coX10 hk_19 w_558 w_559 w_557 rfl rfl ⟨Nat.le_of_ble_eq_true rfl, Nat.le_of_ble_eq_true rfl⟩ (Nat.le_of_ble_eq_true rfl) ⟨Nat.le_of_ble_eq_true rfl, Nat.le_of_ble_eq_true rfl⟩ dX11_pour_91 (fun v S1 H locs hq hH => ?_)
                  obtain ⟨r_23, rfl, e9, hp⟩ := hq
                  rw [e9] at hH
                  refine W.eq (g2 := F0 m 94 ls [.int r_23]) rfl ?_
                  obtain ⟨J_25, hj_25, hp⟩ := hp
                  have kj_25 : ∀  (H : Heap) (locs : List Loc) (ls : Array Slot), J_25  → Hp G (FA S s.heap.size) s.heap S H locs → lv_has ls 8 [(0, .ref th)] → Wm G p l e { frames := 1, cells := 0, slots := 0, locals := 26 } s m args below meth c S QQ 0 0 H locs 0 0 (F0 m 109 ls []) := by
                    intro  H locs ls hq9 hH hl
                    have hp := hj_25  hq9
                    refine lv_aload_n (pc := 109) hx hb dX11_pour_109 rfl (lv_at hl 0 rfl) ?_
                    refine lv_iconst (pc := 110) (v := 3) hx hb dX11_pour_110 (by decide) ?_
                    refine sx_V (pc := 111) (As := [.int 3]) (rest := []) B hH hl.1 (C_X11_deny G l th 3 _ _ hp) mi_X11_deny coX11 hk_th w_529 w_0 w_527 rfl rfl ⟨Nat.le_of_ble_eq_true rfl, Nat.le_of_ble_eq_true rfl⟩ (Nat.le_of_ble_eq_true rfl) ⟨Nat.le_of_ble_eq_true rfl, Nat.le_of_ble_eq_true rfl⟩ dX11_pour_111 (fun v S1 H locs hq hH => ?_)
                    obtain ⟨r_26, F_26, rfl, e9, hp⟩ := hq
                    rw [e9] at hH
                    have hH : Hp G (FA S s.heap.size) s.heap (wI S F_26) H locs := hH
                    refine W.eq (g2 := F0 m 114 ls [.int r_26]) rfl ?_
                    obtain ⟨hz, hp⟩ := hp
                    exact sx_zret (pc := 114) B hH hr hlk hz (by rw [← hQQ]; exact ⟨_, F_26, (gJ S), rfl, rfl, hp⟩) (Nat.le_of_ble_eq_true rfl) (Nat.le_of_ble_eq_true rfl) dX11_pour_114
                  refine lv_if_eq (pc := 94) (tgt := 109) hx hb dX11_pour_94 (by decide) (fun cc_24 => ?_) (fun cc_24 => ?_)
                  · have hp := hp.1 cc_24
                    exact kj_25  _ _ _ hp hH (lv_sub hl [2] rfl)
                  · have hp := hp.2 cc_24
                    refine sx_aload (pc := 97) (r := gR S a_10 p2.toNatClampNeg) B dX11_pour_97 (lv_at hl 0 rfl) ?_
                    refine sx_nonnull (x := a_20) ha_20 ?_
                    refine lv_iload (pc := 99) hx hb dX11_pour_99 (lv_at hl 6 rfl) ?_
                    refine lv_iload (pc := 101) hx hb dX11_pour_101 (lv_at hl 7 rfl) ?_
                    refine sx_V (pc := 103) (As := [.int p3, .int p4]) (rest := []) B hH hl.1 (C_X10_has G l a_20 p3 p4 _ _ hp) mi_X10_has coX10 hk_21 w_558 w_559 w_557 rfl rfl ⟨Nat.le_of_ble_eq_true rfl, Nat.le_of_ble_eq_true rfl⟩ (Nat.le_of_ble_eq_true rfl) ⟨Nat.le_of_ble_eq_true rfl, Nat.le_of_ble_eq_true rfl⟩ dX11_pour_103 (fun v S1 H locs hq hH => ?_)
                    obtain ⟨r_27, rfl, e9, hp⟩ := hq
                    rw [e9] at hH
                    refine W.eq (g2 := F0 m 106 ls [.int r_27]) rfl ?_
                    refine lv_if_ne (pc := 106) (tgt := 115) hx hb dX11_pour_106 (by decide) (fun cc_28 => ?_) (fun cc_28 => ?_)
                    · have hp := hp.1 cc_28
                      refine sx_aload (pc := 115) (r := gR S a_10 p0.toNatClampNeg) B dX11_pour_115 (lv_at hl 1 rfl) ?_
                      refine sx_nonnull (x := a_18) ha_18 ?_
                      refine sx_getR (pc := 117) (j := 1) B hH hk_19 coX10 rfl w_539 rfl dX11_pour_117 ?_
                      refine W.eq (g2 := F0 m 120 ls [va_rf (gR S a_18 1)]) rfl ?_
                      obtain ⟨a_29, ha_29, hp⟩ := hp
                      refine sx_nonnull (x := a_29) ha_29 ?_
                      refine lv_iload_n (pc := 120) hx hb dX11_pour_120 rfl (lv_at hl 4 rfl) ?_
                      refine sx_aload (pc := 121) (r := gR S a_10 p2.toNatClampNeg) B dX11_pour_121 (lv_at hl 0 rfl) ?_
                      refine sx_nonnull (x := a_20) ha_20 ?_
                      refine sx_getR (pc := 123) (j := 1) B hH hk_21 coX10 rfl w_539 rfl dX11_pour_123 ?_
                      refine W.eq (g2 := F0 m 126 ls [va_rf (gR S a_20 1), .int p1, .ref a_29]) rfl ?_
                      obtain ⟨a_30, ha_30, hp⟩ := hp
                      refine sx_nonnull (x := a_30) ha_30 ?_
                      refine lv_iload (pc := 126) hx hb dX11_pour_126 (lv_at hl 6 rfl) ?_
                      refine lv_iload (pc := 128) hx hb dX11_pour_128 (lv_at hl 7 rfl) ?_
                      obtain ⟨hk_31, hp⟩ := hp
                      obtain ⟨hk_32, hp⟩ := hp
                      obtain ⟨hc_33, hp⟩ := hp
                      obtain ⟨hc_34, hp⟩ := hp
                      obtain ⟨hc_35, hp⟩ := hp
                      obtain ⟨hc_36, hp⟩ := hp
                      obtain ⟨hc_37, hp⟩ := hp
                      obtain ⟨J_38, eJ_38⟩ : ∃ z : Nat → Nat → Int64, z = cpJf (gJ S) a_29 a_30 p1.toNatClampNeg p3.toNatClampNeg p4.toNatClampNeg := ⟨_, rfl⟩
                      have hp := hp J_38 eJ_38
                      refine sx_copyJ (pc := 130) (rest := []) B hH hl.1 w_576 w_578 w_577 w_120 hk_31 hk_32 hc_33 hc_34 hc_35 hc_36 hc_37 (Nat.le_of_ble_eq_true rfl) (Nat.le_of_ble_eq_true rfl) dX11_pour_130 (fun H locs hH => ?_)
                      have hH : Hp G (FA S s.heap.size) s.heap (wA S (gI S) J_38 (gR S)) H locs := by rw [eJ_38]; exact hH
                      refine W.eq (g2 := F0 m 133 ls []) rfl ?_
                      refine lv_aload_n (pc := 133) hx hb dX11_pour_133 rfl (lv_at hl 2 rfl) ?_
                      refine sx_V (pc := 134) (As := []) (rest := []) B hH hl.1 (C_X11_grant G l th _ _ hp) mi_X11_grant coX11 hk_th w_547 w_1 w_545 rfl rfl ⟨Nat.le_of_ble_eq_true rfl, Nat.le_of_ble_eq_true rfl⟩ (Nat.le_of_ble_eq_true rfl) ⟨Nat.le_of_ble_eq_true rfl, Nat.le_of_ble_eq_true rfl⟩ dX11_pour_134 (fun v S1 H locs hq hH => ?_)
                      obtain ⟨r_39, F_39, rfl, e9, hp⟩ := hq
                      rw [e9] at hH
                      have hH : Hp G (FA S s.heap.size) s.heap (wA S F_39 J_38 (gR S)) H locs := hH
                      refine W.eq (g2 := F0 m 137 ls [.int r_39]) rfl ?_
                      obtain ⟨hz, hp⟩ := hp
                      exact sx_zret (pc := 137) B hH hr hlk hz (by rw [← hQQ]; exact ⟨_, F_39, J_38, rfl, rfl, hp⟩) (Nat.le_of_ble_eq_true rfl) (Nat.le_of_ble_eq_true rfl) dX11_pour_137
                    · have hp := hp.2 cc_28
                      exact kj_25  _ _ _ hp hH (lv_sub hl [2] rfl)
                · have hp := hp.2 cc_22
                  refine lv_aload_n (pc := 79) hx hb dX11_pour_79 rfl (lv_at hl 2 rfl) ?_
                  refine lv_bipush (pc := 80) (v := 8) hx hb dX11_pour_80 (by decide) ?_
                  refine sx_V (pc := 82) (As := [.int 8]) (rest := []) B hH hl.1 (C_X11_deny G l th 8 _ _ hp) mi_X11_deny coX11 hk_th w_529 w_0 w_527 rfl rfl ⟨Nat.le_of_ble_eq_true rfl, Nat.le_of_ble_eq_true rfl⟩ (Nat.le_of_ble_eq_true rfl) ⟨Nat.le_of_ble_eq_true rfl, Nat.le_of_ble_eq_true rfl⟩ dX11_pour_82 (fun v S1 H locs hq hH => ?_)
                  obtain ⟨r_40, F_40, rfl, e9, hp⟩ := hq
                  rw [e9] at hH
                  have hH : Hp G (FA S s.heap.size) s.heap (wI S F_40) H locs := hH
                  refine W.eq (g2 := F0 m 85 ls [.int r_40]) rfl ?_
                  obtain ⟨hz, hp⟩ := hp
                  exact sx_zret (pc := 85) B hH hr hlk hz (by rw [← hQQ]; exact ⟨_, F_40, (gJ S), rfl, rfl, hp⟩) (Nat.le_of_ble_eq_true rfl) (Nat.le_of_ble_eq_true rfl) dX11_pour_85
              · have hp := hp.2 cc_17
                exact kj_15  _ _ _ hp hH (lv_sub hl [2] rfl)
          · have hp := hp.2 cc_9
            exact kj_3  _ _ _ hp hH (lv_sub hl [0] rfl)
theorem dX11_feed_0 : decode cX11_feed 0 = .ok (.aload_n 0, 1) := by decide +kernel
theorem dX11_feed_1 : decode cX11_feed 1 = .ok (.getfield 29, 3) := by decide +kernel
theorem dX11_feed_4 : decode cX11_feed 4 = .ok (.getfield 152, 3) := by decide +kernel
theorem dX11_feed_7 : decode cX11_feed 7 = .ok (.sipush 880, 3) := by decide +kernel
theorem dX11_feed_10 : decode cX11_feed 10 = .ok (.if_icmp .le 5, 3) := by decide +kernel
theorem dX11_feed_13 : decode cX11_feed 13 = .ok (.iconst (-1), 1) := by decide +kernel
theorem dX11_feed_14 : decode cX11_feed 14 = .ok (.ireturn, 1) := by decide +kernel
theorem dX11_feed_15 : decode cX11_feed 15 = .ok (.aload_n 0, 1) := by decide +kernel
theorem dX11_feed_16 : decode cX11_feed 16 = .ok (.getfield 29, 3) := by decide +kernel
theorem dX11_feed_19 : decode cX11_feed 19 = .ok (.iload_n 1, 1) := by decide +kernel
theorem dX11_feed_20 : decode cX11_feed 20 = .ok (.invokevirtual 155, 3) := by decide +kernel
theorem dX11_feed_23 : decode cX11_feed 23 = .ok (.aload_n 0, 1) := by decide +kernel
theorem dX11_feed_24 : decode cX11_feed 24 = .ok (.getfield 29, 3) := by decide +kernel
theorem dX11_feed_27 : decode cX11_feed 27 = .ok (.iload_n 2, 1) := by decide +kernel
theorem dX11_feed_28 : decode cX11_feed 28 = .ok (.invokevirtual 155, 3) := by decide +kernel
theorem dX11_feed_31 : decode cX11_feed 31 = .ok (.aload_n 0, 1) := by decide +kernel
theorem dX11_feed_32 : decode cX11_feed 32 = .ok (.getfield 29, 3) := by decide +kernel
theorem dX11_feed_35 : decode cX11_feed 35 = .ok (.iload_n 3, 1) := by decide +kernel
theorem dX11_feed_36 : decode cX11_feed 36 = .ok (.invokevirtual 155, 3) := by decide +kernel
theorem dX11_feed_39 : decode cX11_feed 39 = .ok (.aload_n 0, 1) := by decide +kernel
theorem dX11_feed_40 : decode cX11_feed 40 = .ok (.getfield 29, 3) := by decide +kernel
theorem dX11_feed_43 : decode cX11_feed 43 = .ok (.iload 4, 2) := by decide +kernel
theorem dX11_feed_45 : decode cX11_feed 45 = .ok (.invokevirtual 155, 3) := by decide +kernel
theorem dX11_feed_48 : decode cX11_feed 48 = .ok (.aload_n 0, 1) := by decide +kernel
theorem dX11_feed_49 : decode cX11_feed 49 = .ok (.getfield 29, 3) := by decide +kernel
theorem dX11_feed_52 : decode cX11_feed 52 = .ok (.iload 5, 2) := by decide +kernel
theorem dX11_feed_54 : decode cX11_feed 54 = .ok (.invokevirtual 155, 3) := by decide +kernel
theorem dX11_feed_57 : decode cX11_feed 57 = .ok (.aload_n 0, 1) := by decide +kernel
theorem dX11_feed_58 : decode cX11_feed 58 = .ok (.getfield 29, 3) := by decide +kernel
theorem dX11_feed_61 : decode cX11_feed 61 = .ok (.getfield 152, 3) := by decide +kernel
theorem dX11_feed_64 : decode cX11_feed 64 = .ok (.ireturn, 1) := by decide +kernel
theorem mi_X11_feed : MI yX11_feed cX11_feed 6 (some FieldType.int) 5 := ⟨w_582, w_105, by decide +kernel, by decide +kernel, by decide +kernel⟩
set_option maxRecDepth 100000 in
set_option maxHeartbeats 4000000 in
theorem C_X11_feed (G : GG) (l : Launch) (th : Nat) (p0 : Int32) (p1 : Int32) (p2 : Int32) (p3 : Int32) (p4 : Int32) (S : St) (Q : Int32 → (Nat → Nat → Int32) → Prop) (hp : P_X11_feed th p0 p1 p2 p3 p4 S Q) : Ctr G l yX11_feed cX11_feed 6 (some FieldType.int) 1 22 0 0 [.ref th, .int p0, .int p1, .int p2, .int p3, .int p4] S (fun (v : Option Value) (S9 : St) => ∃ (r : Int32) (I9 : Nat → Nat → Int32), v = some (.int r) ∧ S9 = wI S I9 ∧ Q r I9) := by
  generalize hQQ : (fun (v : Option Value) (S9 : St) => ∃ (r : Int32) (I9 : Nat → Nat → Int32), v = some (.int r) ∧ S9 = wI S I9 ∧ Q r I9) = QQ
  unfold P_X11_feed at hp
  refine Ctr.of (by decide) (Nat.le_of_ble_eq_true rfl) ?_
  intro p e s m args below meth c ls B hr hlk hin hl hH
  generalize hlocs0 : ([] : List Loc) = locs at hH ⊢
  have hx := B.1
  have hb := B.2.1
  have hl : lv_has ls 6 [(0, .ref th), (1, .int p0), (2, .int p1), (3, .int p2), (4, .int p3), (5, .int p4)] := hl
  obtain ⟨hk_th, hp⟩ := hp
  refine lv_aload_n (pc := 0) hx hb dX11_feed_0 rfl (lv_at hl 0 rfl) ?_
  refine sx_getR (pc := 1) (j := 4) B hH hk_th coX11 rfl w_460 rfl dX11_feed_1 ?_
  refine W.eq (g2 := F0 m 4 ls [va_rf (gR S th 4)]) rfl ?_
  obtain ⟨a_1, ha_1, hp⟩ := hp
  refine sx_nonnull (x := a_1) ha_1 ?_
  obtain ⟨hk_2, hp⟩ := hp
  refine sx_getI (pc := 4) (j := 1) B hH hk_2 coX7 rfl w_207 rfl dX11_feed_4 ?_
  refine W.eq (g2 := F0 m 7 ls [.int (gI S a_1 1)]) rfl ?_
  refine lv_sipush (pc := 7) (v := 880) hx hb dX11_feed_7 (by decide) ?_
  refine lv_icmp_le (pc := 10) (tgt := 15) hx hb dX11_feed_10 (by decide) (fun cc_3 => ?_) (fun cc_3 => ?_)
  · have hp := hp.1 cc_3
    refine lv_aload_n (pc := 15) hx hb dX11_feed_15 rfl (lv_at hl 0 rfl) ?_
    refine sx_getR (pc := 16) (j := 4) B hH hk_th coX11 rfl w_460 rfl dX11_feed_16 ?_
    refine W.eq (g2 := F0 m 19 ls [va_rf (gR S th 4)]) rfl ?_
    refine sx_nonnull (x := a_1) ha_1 ?_
    refine lv_iload_n (pc := 19) hx hb dX11_feed_19 rfl (lv_at hl 1 rfl) ?_
    refine sx_V (pc := 20) (As := [.int p0]) (rest := []) B hH hl.1 (C_X7_tapeInt G l a_1 p0 _ _ hp) mi_X7_tapeInt coX7 hk_2 w_584 w_585 w_583 rfl rfl ⟨Nat.le_of_ble_eq_true rfl, Nat.le_of_ble_eq_true rfl⟩ (Nat.le_of_ble_eq_true rfl) ⟨Nat.le_of_ble_eq_true rfl, Nat.le_of_ble_eq_true rfl⟩ dX11_feed_20 (fun v S1 H locs hq hH => ?_)
    obtain ⟨F_4, rfl, e9, hp⟩ := hq
    rw [e9] at hH
    have hH : Hp G (FA S s.heap.size) s.heap (wI S F_4) H locs := hH
    refine W.eq (g2 := F0 m 23 ls []) rfl ?_
    refine lv_aload_n (pc := 23) hx hb dX11_feed_23 rfl (lv_at hl 0 rfl) ?_
    refine sx_getR (pc := 24) (j := 4) B hH hk_th coX11 rfl w_460 rfl dX11_feed_24 ?_
    refine W.eq (g2 := F0 m 27 ls [va_rf (gR S th 4)]) rfl ?_
    refine sx_nonnull (x := a_1) ha_1 ?_
    refine lv_iload_n (pc := 27) hx hb dX11_feed_27 rfl (lv_at hl 2 rfl) ?_
    refine sx_V (pc := 28) (As := [.int p1]) (rest := []) B hH hl.1 (C_X7_tapeInt G l a_1 p1 _ _ hp) mi_X7_tapeInt coX7 hk_2 w_584 w_585 w_583 rfl rfl ⟨Nat.le_of_ble_eq_true rfl, Nat.le_of_ble_eq_true rfl⟩ (Nat.le_of_ble_eq_true rfl) ⟨Nat.le_of_ble_eq_true rfl, Nat.le_of_ble_eq_true rfl⟩ dX11_feed_28 (fun v S1 H locs hq hH => ?_)
    obtain ⟨F_5, rfl, e9, hp⟩ := hq
    rw [e9] at hH
    have hH : Hp G (FA S s.heap.size) s.heap (wI S F_5) H locs := hH
    refine W.eq (g2 := F0 m 31 ls []) rfl ?_
    refine lv_aload_n (pc := 31) hx hb dX11_feed_31 rfl (lv_at hl 0 rfl) ?_
    refine sx_getR (pc := 32) (j := 4) B hH hk_th coX11 rfl w_460 rfl dX11_feed_32 ?_
    refine W.eq (g2 := F0 m 35 ls [va_rf (gR S th 4)]) rfl ?_
    refine sx_nonnull (x := a_1) ha_1 ?_
    refine lv_iload_n (pc := 35) hx hb dX11_feed_35 rfl (lv_at hl 3 rfl) ?_
    refine sx_V (pc := 36) (As := [.int p2]) (rest := []) B hH hl.1 (C_X7_tapeInt G l a_1 p2 _ _ hp) mi_X7_tapeInt coX7 hk_2 w_584 w_585 w_583 rfl rfl ⟨Nat.le_of_ble_eq_true rfl, Nat.le_of_ble_eq_true rfl⟩ (Nat.le_of_ble_eq_true rfl) ⟨Nat.le_of_ble_eq_true rfl, Nat.le_of_ble_eq_true rfl⟩ dX11_feed_36 (fun v S1 H locs hq hH => ?_)
    obtain ⟨F_6, rfl, e9, hp⟩ := hq
    rw [e9] at hH
    have hH : Hp G (FA S s.heap.size) s.heap (wI S F_6) H locs := hH
    refine W.eq (g2 := F0 m 39 ls []) rfl ?_
    refine lv_aload_n (pc := 39) hx hb dX11_feed_39 rfl (lv_at hl 0 rfl) ?_
    refine sx_getR (pc := 40) (j := 4) B hH hk_th coX11 rfl w_460 rfl dX11_feed_40 ?_
    refine W.eq (g2 := F0 m 43 ls [va_rf (gR S th 4)]) rfl ?_
    refine sx_nonnull (x := a_1) ha_1 ?_
    refine lv_iload (pc := 43) hx hb dX11_feed_43 (lv_at hl 4 rfl) ?_
    refine sx_V (pc := 45) (As := [.int p3]) (rest := []) B hH hl.1 (C_X7_tapeInt G l a_1 p3 _ _ hp) mi_X7_tapeInt coX7 hk_2 w_584 w_585 w_583 rfl rfl ⟨Nat.le_of_ble_eq_true rfl, Nat.le_of_ble_eq_true rfl⟩ (Nat.le_of_ble_eq_true rfl) ⟨Nat.le_of_ble_eq_true rfl, Nat.le_of_ble_eq_true rfl⟩ dX11_feed_45 (fun v S1 H locs hq hH => ?_)
    obtain ⟨F_7, rfl, e9, hp⟩ := hq
    rw [e9] at hH
    have hH : Hp G (FA S s.heap.size) s.heap (wI S F_7) H locs := hH
    refine W.eq (g2 := F0 m 48 ls []) rfl ?_
    refine lv_aload_n (pc := 48) hx hb dX11_feed_48 rfl (lv_at hl 0 rfl) ?_
    refine sx_getR (pc := 49) (j := 4) B hH hk_th coX11 rfl w_460 rfl dX11_feed_49 ?_
    refine W.eq (g2 := F0 m 52 ls [va_rf (gR S th 4)]) rfl ?_
    refine sx_nonnull (x := a_1) ha_1 ?_
    refine lv_iload (pc := 52) hx hb dX11_feed_52 (lv_at hl 5 rfl) ?_
    refine sx_V (pc := 54) (As := [.int p4]) (rest := []) B hH hl.1 (C_X7_tapeInt G l a_1 p4 _ _ hp) mi_X7_tapeInt coX7 hk_2 w_584 w_585 w_583 rfl rfl ⟨Nat.le_of_ble_eq_true rfl, Nat.le_of_ble_eq_true rfl⟩ (Nat.le_of_ble_eq_true rfl) ⟨Nat.le_of_ble_eq_true rfl, Nat.le_of_ble_eq_true rfl⟩ dX11_feed_54 (fun v S1 H locs hq hH => ?_)
    obtain ⟨F_8, rfl, e9, hp⟩ := hq
    rw [e9] at hH
    have hH : Hp G (FA S s.heap.size) s.heap (wI S F_8) H locs := hH
    refine W.eq (g2 := F0 m 57 ls []) rfl ?_
    refine lv_aload_n (pc := 57) hx hb dX11_feed_57 rfl (lv_at hl 0 rfl) ?_
    refine sx_getR (pc := 58) (j := 4) B hH hk_th coX11 rfl w_460 rfl dX11_feed_58 ?_
    refine W.eq (g2 := F0 m 61 ls [va_rf (gR S th 4)]) rfl ?_
    refine sx_nonnull (x := a_1) ha_1 ?_
    refine sx_getI (pc := 61) (j := 1) B hH hk_2 coX7 rfl w_207 rfl dX11_feed_61 ?_
    refine W.eq (g2 := F0 m 64 ls [.int (F_8 a_1 1)]) rfl ?_
    exact sx_iret (pc := 64) B hH hr hlk (by rw [← hQQ]; exact ⟨_, F_8, rfl, rfl, hp⟩) (Nat.le_of_ble_eq_true rfl) (Nat.le_of_ble_eq_true rfl) dX11_feed_64
  · have hp := hp.2 cc_3
    refine lv_iconst (pc := 13) (v := (-1)) hx hb dX11_feed_13 (by decide) ?_
    exact sx_iret (pc := 14) B hH hr hlk (by rw [← hQQ]; exact ⟨_, (gI S), rfl, rfl, hp⟩) (Nat.le_of_ble_eq_true rfl) (Nat.le_of_ble_eq_true rfl) dX11_feed_14
theorem dX11_answer_0 : decode cX11_answer 0 = .ok (.aload_n 0, 1) := by decide +kernel
theorem dX11_answer_1 : decode cX11_answer 1 = .ok (.iconst 0, 1) := by decide +kernel
theorem dX11_answer_2 : decode cX11_answer 2 = .ok (.putfield 9, 3) := by decide +kernel
theorem dX11_answer_5 : decode cX11_answer 5 = .ok (.iload_n 1, 1) := by decide +kernel
theorem dX11_answer_6 : decode cX11_answer 6 = .ok (.ireturn, 1) := by decide +kernel
theorem mi_X11_answer : MI yX11_answer cX11_answer 2 (some FieldType.int) 1 := ⟨w_741, w_105, by decide +kernel, by decide +kernel, by decide +kernel⟩
set_option maxRecDepth 100000 in
set_option maxHeartbeats 4000000 in
theorem C_X11_answer (G : GG) (l : Launch) (th : Nat) (p0 : Int32) (S : St) (Q : Int32 → (Nat → Nat → Int32) → Prop) (hp : P_X11_answer th p0 S Q) : Ctr G l yX11_answer cX11_answer 2 (some FieldType.int) 0 0 0 0 [.ref th, .int p0] S (fun (v : Option Value) (S9 : St) => ∃ (r : Int32) (I9 : Nat → Nat → Int32), v = some (.int r) ∧ S9 = wI S I9 ∧ Q r I9) := by
  generalize hQQ : (fun (v : Option Value) (S9 : St) => ∃ (r : Int32) (I9 : Nat → Nat → Int32), v = some (.int r) ∧ S9 = wI S I9 ∧ Q r I9) = QQ
  unfold P_X11_answer at hp
  refine Ctr.of (by decide) (Nat.le_of_ble_eq_true rfl) ?_
  intro p e s m args below meth c ls B hr hlk hin hl hH
  generalize hlocs0 : ([] : List Loc) = locs at hH ⊢
  have hx := B.1
  have hb := B.2.1
  have hl : lv_has ls 2 [(0, .ref th), (1, .int p0)] := hl
  obtain ⟨hk_th, hp⟩ := hp
  refine lv_aload_n (pc := 0) hx hb dX11_answer_0 rfl (lv_at hl 0 rfl) ?_
  refine lv_iconst (pc := 1) (v := 0) hx hb dX11_answer_1 (by decide) ?_
  obtain ⟨F_1, eF_1⟩ : ∃ z : Nat → Nat → Int32, z = upI (gI S) th 0 0 := ⟨_, rfl⟩
  have hp := hp F_1 eF_1
  refine sx_putI (pc := 2) (j := 0) B hH hk_th coX11 rfl w_456 rfl (Or.inl rfl) rfl dX11_answer_2 (fun H locs hH => ?_)
  have hH : Hp G (FA S s.heap.size) s.heap (wI S F_1) H locs := by rw [eF_1]; exact hH
  refine lv_iload_n (pc := 5) hx hb dX11_answer_5 rfl (lv_at hl 1 rfl) ?_
  exact sx_iret (pc := 6) B hH hr hlk (by rw [← hQQ]; exact ⟨_, F_1, rfl, rfl, hp⟩) (Nat.le_of_ble_eq_true rfl) (Nat.le_of_ble_eq_true rfl) dX11_answer_6
theorem dX11_book_0 : decode cX11_book 0 = .ok (.iload_n 1, 1) := by decide +kernel
theorem dX11_book_1 : decode cX11_book 1 = .ok (.ifCond .lt 14, 3) := by decide +kernel
theorem dX11_book_4 : decode cX11_book 4 = .ok (.iload_n 1, 1) := by decide +kernel
theorem dX11_book_5 : decode cX11_book 5 = .ok (.aload_n 0, 1) := by decide +kernel
theorem dX11_book_6 : decode cX11_book 6 = .ok (.getfield 29, 3) := by decide +kernel
theorem dX11_book_9 : decode cX11_book 9 = .ok (.getfield 152, 3) := by decide +kernel
theorem dX11_book_12 : decode cX11_book 12 = .ok (.if_icmp .le 9, 3) := by decide +kernel
theorem dX11_book_15 : decode cX11_book 15 = .ok (.aload_n 0, 1) := by decide +kernel
theorem dX11_book_16 : decode cX11_book 16 = .ok (.iconst 1, 1) := by decide +kernel
theorem dX11_book_17 : decode cX11_book 17 = .ok (.invokevirtual 139, 3) := by decide +kernel
theorem dX11_book_20 : decode cX11_book 20 = .ok (.ireturn, 1) := by decide +kernel
theorem dX11_book_21 : decode cX11_book 21 = .ok (.aload_n 0, 1) := by decide +kernel
theorem dX11_book_22 : decode cX11_book 22 = .ok (.getfield 38, 3) := by decide +kernel
theorem dX11_book_25 : decode cX11_book 25 = .ok (.iload_n 1, 1) := by decide +kernel
theorem dX11_book_26 : decode cX11_book 26 = .ok (.invokevirtual 159, 3) := by decide +kernel
theorem dX11_book_29 : decode cX11_book 29 = .ok (.ifCond .ne 10, 3) := by decide +kernel
theorem dX11_book_32 : decode cX11_book 32 = .ok (.aload_n 0, 1) := by decide +kernel
theorem dX11_book_33 : decode cX11_book 33 = .ok (.bipush 9, 2) := by decide +kernel
theorem dX11_book_35 : decode cX11_book 35 = .ok (.invokevirtual 139, 3) := by decide +kernel
theorem dX11_book_38 : decode cX11_book 38 = .ok (.ireturn, 1) := by decide +kernel
theorem dX11_book_39 : decode cX11_book 39 = .ok (.aload_n 0, 1) := by decide +kernel
theorem dX11_book_40 : decode cX11_book 40 = .ok (.aload_n 0, 1) := by decide +kernel
theorem dX11_book_41 : decode cX11_book 41 = .ok (.getfield 38, 3) := by decide +kernel
theorem dX11_book_44 : decode cX11_book 44 = .ok (.invokevirtual 162, 3) := by decide +kernel
theorem dX11_book_47 : decode cX11_book 47 = .ok (.putfield 62, 3) := by decide +kernel
theorem dX11_book_50 : decode cX11_book 50 = .ok (.aload_n 0, 1) := by decide +kernel
theorem dX11_book_51 : decode cX11_book 51 = .ok (.aconst_null, 1) := by decide +kernel
theorem dX11_book_52 : decode cX11_book 52 = .ok (.putfield 66, 3) := by decide +kernel
theorem dX11_book_55 : decode cX11_book 55 = .ok (.aload_n 0, 1) := by decide +kernel
theorem dX11_book_56 : decode cX11_book 56 = .ok (.aconst_null, 1) := by decide +kernel
theorem dX11_book_57 : decode cX11_book 57 = .ok (.putfield 70, 3) := by decide +kernel
theorem dX11_book_60 : decode cX11_book 60 = .ok (.aload_n 0, 1) := by decide +kernel
theorem dX11_book_61 : decode cX11_book 61 = .ok (.aload_n 0, 1) := by decide +kernel
theorem dX11_book_62 : decode cX11_book 62 = .ok (.getfield 62, 3) := by decide +kernel
theorem dX11_book_65 : decode cX11_book 65 = .ok (.getfield 166, 3) := by decide +kernel
theorem dX11_book_68 : decode cX11_book 68 = .ok (.arraylength, 1) := by decide +kernel
theorem dX11_book_69 : decode cX11_book 69 = .ok (.invokevirtual 170, 3) := by decide +kernel
theorem dX11_book_72 : decode cX11_book 72 = .ok (.ireturn, 1) := by decide +kernel
theorem mi_X11_book : MI yX11_book cX11_book 2 (some FieldType.int) 1 := ⟨w_590, w_105, by decide +kernel, by decide +kernel, by decide +kernel⟩
set_option maxRecDepth 100000 in
set_option maxHeartbeats 4000000 in
theorem C_X11_book (G : GG) (l : Launch) (th : Nat) (p0 : Int32) (S : St) (bc bs : Nat) (Q : Int32 → St → Prop) (hp : P_X11_book th p0 S bc bs Q) : Ctr G l yX11_book cX11_book 2 (some FieldType.int) 6 135 bc bs [.ref th, .int p0] S (fun (v : Option Value) (S9 : St) => ∃ r : Int32, v = some (.int r) ∧ Q r S9) := by
  generalize hQQ : (fun (v : Option Value) (S9 : St) => ∃ r : Int32, v = some (.int r) ∧ Q r S9) = QQ
  unfold P_X11_book at hp
  refine Ctr.of (by decide) (Nat.le_of_ble_eq_true rfl) ?_
  intro p e s m args below meth c ls B hr hlk hin hl hH
  generalize hlocs0 : ([] : List Loc) = locs at hH ⊢
  have hx := B.1
  have hb := B.2.1
  have hl : lv_has ls 2 [(0, .ref th), (1, .int p0)] := hl
  obtain ⟨hk_th, hp⟩ := hp
  refine lv_iload_n (pc := 0) hx hb dX11_book_0 rfl (lv_at hl 1 rfl) ?_
  obtain ⟨J_2, hj_2, hp⟩ := hp
  have kj_2 : ∀  (H : Heap) (locs : List Loc) (ls : Array Slot) (cells slots : Nat), J_2  → cells + bc ≤ bc → slots + bs ≤ bs → Hp G (FA S s.heap.size) s.heap S H locs → lv_has ls 2 [(0, .ref th)] → Wm G p l e { frames := 6, cells := bc, slots := bs, locals := 135 } s m args below meth c S QQ bc bs H locs cells slots (F0 m 15 ls []) := by
    intro  H locs ls cells slots hq9 hcc_2 hss_2 hH hl
    have hp := hj_2  hq9
    refine lv_aload_n (pc := 15) hx hb dX11_book_15 rfl (lv_at hl 0 rfl) ?_
    refine lv_iconst (pc := 16) (v := 1) hx hb dX11_book_16 (by decide) ?_
    refine sx_V (pc := 17) (As := [.int 1]) (rest := []) B hH hl.1 (C_X11_refuse G l th 1 _ _ hp) mi_X11_refuse coX11 hk_th w_570 w_3 w_568 rfl rfl ⟨Nat.le_of_ble_eq_true rfl, Nat.le_of_ble_eq_true rfl⟩ (Nat.le_of_ble_eq_true rfl) ⟨(show _ + 0 ≤ bc by omega), (show _ + 0 ≤ bs by omega)⟩ dX11_book_17 (fun v S1 H locs hq hH => ?_)
    obtain ⟨r_3, F_3, rfl, e9, hp⟩ := hq
    rw [e9] at hH
    have hH : Hp G (FA S s.heap.size) s.heap (wI S F_3) H locs := hH
    refine W.eq (g2 := F0 m 20 ls [.int r_3]) rfl ?_
    exact sx_iret (pc := 20) B hH hr hlk (by rw [← hQQ]; exact ⟨_, rfl, hp⟩) (show _ ≤ bc by omega) (show _ ≤ bs by omega) dX11_book_20
  refine lv_if_lt (pc := 1) (tgt := 15) hx hb dX11_book_1 (by decide) (fun cc_1 => ?_) (fun cc_1 => ?_)
  · have hp := hp.1 cc_1
    exact kj_2  _ _ _ _ _ hp (show _ + bc ≤ bc by omega) (show _ + bs ≤ bs by omega) hH (lv_sub hl [0] rfl)
  · have hp := hp.2 cc_1
    refine lv_iload_n (pc := 4) hx hb dX11_book_4 rfl (lv_at hl 1 rfl) ?_
    refine lv_aload_n (pc := 5) hx hb dX11_book_5 rfl (lv_at hl 0 rfl) ?_
    refine sx_getR (pc := 6) (j := 4) B hH hk_th coX11 rfl w_460 rfl dX11_book_6 ?_
    refine W.eq (g2 := F0 m 9 ls [va_rf (gR S th 4), .int p0]) rfl ?_
    obtain ⟨a_4, ha_4, hp⟩ := hp
    refine sx_nonnull (x := a_4) ha_4 ?_
    obtain ⟨hk_5, hp⟩ := hp
    refine sx_getI (pc := 9) (j := 1) B hH hk_5 coX7 rfl w_207 rfl dX11_book_9 ?_
    refine W.eq (g2 := F0 m 12 ls [.int (gI S a_4 1), .int p0]) rfl ?_
    refine lv_icmp_le (pc := 12) (tgt := 21) hx hb dX11_book_12 (by decide) (fun cc_6 => ?_) (fun cc_6 => ?_)
    · have hp := hp.1 cc_6
      refine lv_aload_n (pc := 21) hx hb dX11_book_21 rfl (lv_at hl 0 rfl) ?_
      refine sx_getR (pc := 22) (j := 5) B hH hk_th coX11 rfl w_461 rfl dX11_book_22 ?_
      refine W.eq (g2 := F0 m 25 ls [va_rf (gR S th 5)]) rfl ?_
      obtain ⟨a_7, ha_7, hp⟩ := hp
      refine sx_nonnull (x := a_7) ha_7 ?_
      refine lv_iload_n (pc := 25) hx hb dX11_book_25 rfl (lv_at hl 1 rfl) ?_
      obtain ⟨hk_8, hp⟩ := hp
      refine sx_V (pc := 26) (As := [.int p0]) (rest := []) B hH hl.1 (C_X1_takes G l a_7 p0 _ _ hp) mi_X1_takes coX1 hk_8 w_592 w_593 w_591 rfl rfl ⟨Nat.le_of_ble_eq_true rfl, Nat.le_of_ble_eq_true rfl⟩ (Nat.le_of_ble_eq_true rfl) ⟨(show _ + 0 ≤ bc by omega), (show _ + 0 ≤ bs by omega)⟩ dX11_book_26 (fun v S1 H locs hq hH => ?_)
      obtain ⟨r_9, F_9, J_9, rfl, e9, hp⟩ := hq
      rw [e9] at hH
      have hH : Hp G (FA S s.heap.size) s.heap (wA S F_9 J_9 (gR S)) H locs := hH
      refine W.eq (g2 := F0 m 29 ls [.int r_9]) rfl ?_
      refine lv_if_ne (pc := 29) (tgt := 39) hx hb dX11_book_29 (by decide) (fun cc_10 => ?_) (fun cc_10 => ?_)
      · have hp := hp.1 cc_10
        refine lv_aload_n (pc := 39) hx hb dX11_book_39 rfl (lv_at hl 0 rfl) ?_
        refine lv_aload_n (pc := 40) hx hb dX11_book_40 rfl (lv_at hl 0 rfl) ?_
        refine sx_getR (pc := 41) (j := 5) B hH hk_th coX11 rfl w_461 rfl dX11_book_41 ?_
        refine W.eq (g2 := F0 m 44 ls [va_rf (gR S th 5), .ref th]) rfl ?_
        refine sx_nonnull (x := a_7) ha_7 ?_
        obtain ⟨c_11, s_11, hb_11, hs_11, hp⟩ := hp
        refine sx_V (pc := 44) (As := []) (rest := [.ref th]) B hH hl.1 (C_X1_made G l a_7 _ c_11 s_11 _ hp) mi_X1_made coX1 hk_8 w_684 w_685 w_683 rfl rfl ⟨Nat.le_of_ble_eq_true rfl, Nat.le_of_ble_eq_true rfl⟩ (Nat.le_of_ble_eq_true rfl) ⟨(show _ + c_11 ≤ bc by omega), (show _ + s_11 ≤ bs by omega)⟩ dX11_book_44 (fun v S1 H locs hq hH => ?_)
        obtain ⟨r_12, rfl, hp⟩ := hq
        obtain ⟨S_12, eS_12⟩ : ∃ z : St, z = S1 := ⟨_, rfl⟩
        rw [← eS_12] at hp hH
        refine W.eq (g2 := F0 m 47 ls [va_rf r_12, .ref th]) rfl ?_
        obtain ⟨hk_13, hp⟩ := hp
        obtain ⟨R_14, eR_14⟩ : ∃ z : Nat → Nat → Option Nat, z = upR (gR S_12) th 7 r_12 := ⟨_, rfl⟩
        have hp := hp R_14 eR_14
        refine sx_putR (pc := 47) (j := 7) (x := r_12) B hH hk_13 coX11 rfl w_463 rfl (Or.inl rfl) rfl dX11_book_47 (fun H locs hH => ?_)
        have hH : Hp G (FA S s.heap.size) s.heap (wA S_12 (gI S_12) (gJ S_12) R_14) H locs := by rw [eR_14]; exact hH
        refine lv_aload_n (pc := 50) hx hb dX11_book_50 rfl (lv_at hl 0 rfl) ?_
        refine lv_null (pc := 51) hx hb dX11_book_51 ?_
        refine W.eq (g2 := F0 m 52 ls [va_rf none, .ref th]) rfl ?_
        obtain ⟨R_15, eR_15⟩ : ∃ z : Nat → Nat → Option Nat, z = upR R_14 th 8 none := ⟨_, rfl⟩
        have hp := hp R_15 eR_15
        refine sx_putR (pc := 52) (j := 8) (x := none) B hH hk_13 coX11 rfl w_464 rfl (Or.inl rfl) rfl dX11_book_52 (fun H locs hH => ?_)
        have hH : Hp G (FA S s.heap.size) s.heap (wA S_12 (gI S_12) (gJ S_12) R_15) H locs := by rw [eR_15]; exact hH
        refine lv_aload_n (pc := 55) hx hb dX11_book_55 rfl (lv_at hl 0 rfl) ?_
        refine lv_null (pc := 56) hx hb dX11_book_56 ?_
        refine W.eq (g2 := F0 m 57 ls [va_rf none, .ref th]) rfl ?_
        obtain ⟨R_16, eR_16⟩ : ∃ z : Nat → Nat → Option Nat, z = upR R_15 th 9 none := ⟨_, rfl⟩
        have hp := hp R_16 eR_16
        refine sx_putR (pc := 57) (j := 9) (x := none) B hH hk_13 coX11 rfl w_465 rfl (Or.inl rfl) rfl dX11_book_57 (fun H locs hH => ?_)
        have hH : Hp G (FA S s.heap.size) s.heap (wA S_12 (gI S_12) (gJ S_12) R_16) H locs := by rw [eR_16]; exact hH
        refine lv_aload_n (pc := 60) hx hb dX11_book_60 rfl (lv_at hl 0 rfl) ?_
        refine lv_aload_n (pc := 61) hx hb dX11_book_61 rfl (lv_at hl 0 rfl) ?_
        refine sx_getR (pc := 62) (j := 7) B hH hk_13 coX11 rfl w_463 rfl dX11_book_62 ?_
        refine W.eq (g2 := F0 m 65 ls [va_rf (R_16 th 7), .ref th]) rfl ?_
        obtain ⟨a_17, ha_17, hp⟩ := hp
        refine sx_nonnull (x := a_17) ha_17 ?_
        obtain ⟨hk_18, hp⟩ := hp
        refine sx_getR (pc := 65) (j := 3) B hH hk_18 coX0 rfl w_366 rfl dX11_book_65 ?_
        refine W.eq (g2 := F0 m 68 ls [va_rf (R_16 a_17 3), .ref th]) rfl ?_
        obtain ⟨a_19, ha_19, hp⟩ := hp
        refine sx_nonnull (x := a_19) ha_19 ?_
        obtain ⟨hk_20, hp⟩ := hp
        refine sx_alen (pc := 68) B hH hk_20 (by decide) (by decide) dX11_book_68 ?_
        refine W.eq (g2 := F0 m 69 ls [.int (nI (ln S_12 a_19)), .ref th]) rfl ?_
        refine sx_V (pc := 69) (As := [.int (nI (ln S_12 a_19))]) (rest := []) B hH hl.1 (C_X11_answer G l th (nI (ln S_12 a_19)) _ _ hp) mi_X11_answer coX11 hk_13 w_740 w_16 w_738 rfl rfl ⟨Nat.le_of_ble_eq_true rfl, Nat.le_of_ble_eq_true rfl⟩ (Nat.le_of_ble_eq_true rfl) ⟨(show _ + 0 ≤ bc by omega), (show _ + 0 ≤ bs by omega)⟩ dX11_book_69 (fun v S1 H locs hq hH => ?_)
        obtain ⟨r_21, F_21, rfl, e9, hp⟩ := hq
        rw [e9] at hH
        have hH : Hp G (FA S s.heap.size) s.heap (wA S_12 F_21 (gJ S_12) R_16) H locs := hH
        refine W.eq (g2 := F0 m 72 ls [.int r_21]) rfl ?_
        exact sx_iret (pc := 72) B hH hr hlk (by rw [← hQQ]; exact ⟨_, rfl, hp⟩) (show _ ≤ bc by omega) (show _ ≤ bs by omega) dX11_book_72
      · have hp := hp.2 cc_10
        refine lv_aload_n (pc := 32) hx hb dX11_book_32 rfl (lv_at hl 0 rfl) ?_
        refine lv_bipush (pc := 33) (v := 9) hx hb dX11_book_33 (by decide) ?_
        refine sx_V (pc := 35) (As := [.int 9]) (rest := []) B hH hl.1 (C_X11_refuse G l th 9 _ _ hp) mi_X11_refuse coX11 hk_th w_570 w_3 w_568 rfl rfl ⟨Nat.le_of_ble_eq_true rfl, Nat.le_of_ble_eq_true rfl⟩ (Nat.le_of_ble_eq_true rfl) ⟨(show _ + 0 ≤ bc by omega), (show _ + 0 ≤ bs by omega)⟩ dX11_book_35 (fun v S1 H locs hq hH => ?_)
        obtain ⟨r_22, F_22, rfl, e9, hp⟩ := hq
        rw [e9] at hH
        have hH : Hp G (FA S s.heap.size) s.heap (wA S F_22 J_9 (gR S)) H locs := hH
        refine W.eq (g2 := F0 m 38 ls [.int r_22]) rfl ?_
        exact sx_iret (pc := 38) B hH hr hlk (by rw [← hQQ]; exact ⟨_, rfl, hp⟩) (show _ ≤ bc by omega) (show _ ≤ bs by omega) dX11_book_38
    · have hp := hp.2 cc_6
      exact kj_2  _ _ _ _ _ hp (show _ + bc ≤ bc by omega) (show _ + bs ≤ bs by omega) hH (lv_sub hl [0] rfl)
theorem dX11_touch_0 : decode cX11_touch 0 = .ok (.iload_n 1, 1) := by decide +kernel
theorem dX11_touch_1 : decode cX11_touch 1 = .ok (.ifCond .lt 21, 3) := by decide +kernel
theorem dX11_touch_4 : decode cX11_touch 4 = .ok (.iload_n 1, 1) := by decide +kernel
theorem dX11_touch_5 : decode cX11_touch 5 = .ok (.aload_n 0, 1) := by decide +kernel
theorem dX11_touch_6 : decode cX11_touch 6 = .ok (.getfield 29, 3) := by decide +kernel
theorem dX11_touch_9 : decode cX11_touch 9 = .ok (.getfield 152, 3) := by decide +kernel
theorem dX11_touch_12 : decode cX11_touch 12 = .ok (.if_icmp .gt 10, 3) := by decide +kernel
theorem dX11_touch_15 : decode cX11_touch 15 = .ok (.iload_n 1, 1) := by decide +kernel
theorem dX11_touch_16 : decode cX11_touch 16 = .ok (.sipush 300, 3) := by decide +kernel
theorem dX11_touch_19 : decode cX11_touch 19 = .ok (.if_icmp .le 9, 3) := by decide +kernel
theorem dX11_touch_22 : decode cX11_touch 22 = .ok (.aload_n 0, 1) := by decide +kernel
theorem dX11_touch_23 : decode cX11_touch 23 = .ok (.iconst 1, 1) := by decide +kernel
theorem dX11_touch_24 : decode cX11_touch 24 = .ok (.invokevirtual 139, 3) := by decide +kernel
theorem dX11_touch_27 : decode cX11_touch 27 = .ok (.ireturn, 1) := by decide +kernel
theorem dX11_touch_28 : decode cX11_touch 28 = .ok (.aload_n 0, 1) := by decide +kernel
theorem dX11_touch_29 : decode cX11_touch 29 = .ok (.getfield 45, 3) := by decide +kernel
theorem dX11_touch_32 : decode cX11_touch 32 = .ok (.iload_n 1, 1) := by decide +kernel
theorem dX11_touch_33 : decode cX11_touch 33 = .ok (.aload_n 0, 1) := by decide +kernel
theorem dX11_touch_34 : decode cX11_touch 34 = .ok (.getfield 62, 3) := by decide +kernel
theorem dX11_touch_37 : decode cX11_touch 37 = .ok (.invokevirtual 173, 3) := by decide +kernel
theorem dX11_touch_40 : decode cX11_touch 40 = .ok (.ifCond .ne 10, 3) := by decide +kernel
theorem dX11_touch_43 : decode cX11_touch 43 = .ok (.aload_n 0, 1) := by decide +kernel
theorem dX11_touch_44 : decode cX11_touch 44 = .ok (.bipush 9, 2) := by decide +kernel
theorem dX11_touch_46 : decode cX11_touch 46 = .ok (.invokevirtual 139, 3) := by decide +kernel
theorem dX11_touch_49 : decode cX11_touch 49 = .ok (.ireturn, 1) := by decide +kernel
theorem dX11_touch_50 : decode cX11_touch 50 = .ok (.aload_n 0, 1) := by decide +kernel
theorem dX11_touch_51 : decode cX11_touch 51 = .ok (.aload_n 0, 1) := by decide +kernel
theorem dX11_touch_52 : decode cX11_touch 52 = .ok (.getfield 45, 3) := by decide +kernel
theorem dX11_touch_55 : decode cX11_touch 55 = .ok (.aload_n 0, 1) := by decide +kernel
theorem dX11_touch_56 : decode cX11_touch 56 = .ok (.getfield 62, 3) := by decide +kernel
theorem dX11_touch_59 : decode cX11_touch 59 = .ok (.invokevirtual 176, 3) := by decide +kernel
theorem dX11_touch_62 : decode cX11_touch 62 = .ok (.putfield 66, 3) := by decide +kernel
theorem dX11_touch_65 : decode cX11_touch 65 = .ok (.aload_n 0, 1) := by decide +kernel
theorem dX11_touch_66 : decode cX11_touch 66 = .ok (.aconst_null, 1) := by decide +kernel
theorem dX11_touch_67 : decode cX11_touch 67 = .ok (.putfield 70, 3) := by decide +kernel
theorem dX11_touch_70 : decode cX11_touch 70 = .ok (.aload_n 0, 1) := by decide +kernel
theorem dX11_touch_71 : decode cX11_touch 71 = .ok (.aload_n 0, 1) := by decide +kernel
theorem dX11_touch_72 : decode cX11_touch 72 = .ok (.getfield 66, 3) := by decide +kernel
theorem dX11_touch_75 : decode cX11_touch 75 = .ok (.getfield 179, 3) := by decide +kernel
theorem dX11_touch_78 : decode cX11_touch 78 = .ok (.invokevirtual 170, 3) := by decide +kernel
theorem dX11_touch_81 : decode cX11_touch 81 = .ok (.ireturn, 1) := by decide +kernel
theorem mi_X11_touch : MI yX11_touch cX11_touch 2 (some FieldType.int) 1 := ⟨w_745, w_105, by decide +kernel, by decide +kernel, by decide +kernel⟩
set_option maxRecDepth 100000 in
set_option maxHeartbeats 4000000 in
theorem C_X11_touch (G : GG) (l : Launch) (th : Nat) (p0 : Int32) (S : St) (bc bs : Nat) (Q : Int32 → St → Prop) (hp : P_X11_touch th p0 S bc bs Q) : Ctr G l yX11_touch cX11_touch 2 (some FieldType.int) 6 130 bc bs [.ref th, .int p0] S (fun (v : Option Value) (S9 : St) => ∃ r : Int32, v = some (.int r) ∧ Q r S9) := by
  generalize hQQ : (fun (v : Option Value) (S9 : St) => ∃ r : Int32, v = some (.int r) ∧ Q r S9) = QQ
  unfold P_X11_touch at hp
  refine Ctr.of (by decide) (Nat.le_of_ble_eq_true rfl) ?_
  intro p e s m args below meth c ls B hr hlk hin hl hH
  generalize hlocs0 : ([] : List Loc) = locs at hH ⊢
  have hx := B.1
  have hb := B.2.1
  have hl : lv_has ls 2 [(0, .ref th), (1, .int p0)] := hl
  obtain ⟨hk_th, hp⟩ := hp
  refine lv_iload_n (pc := 0) hx hb dX11_touch_0 rfl (lv_at hl 1 rfl) ?_
  obtain ⟨J_2, hj_2, hp⟩ := hp
  have kj_2 : ∀  (H : Heap) (locs : List Loc) (ls : Array Slot) (cells slots : Nat), J_2  → cells + bc ≤ bc → slots + bs ≤ bs → Hp G (FA S s.heap.size) s.heap S H locs → lv_has ls 2 [(0, .ref th)] → Wm G p l e { frames := 6, cells := bc, slots := bs, locals := 130 } s m args below meth c S QQ bc bs H locs cells slots (F0 m 22 ls []) := by
    intro  H locs ls cells slots hq9 hcc_2 hss_2 hH hl
    have hp := hj_2  hq9
    refine lv_aload_n (pc := 22) hx hb dX11_touch_22 rfl (lv_at hl 0 rfl) ?_
    refine lv_iconst (pc := 23) (v := 1) hx hb dX11_touch_23 (by decide) ?_
    refine sx_V (pc := 24) (As := [.int 1]) (rest := []) B hH hl.1 (C_X11_refuse G l th 1 _ _ hp) mi_X11_refuse coX11 hk_th w_570 w_3 w_568 rfl rfl ⟨Nat.le_of_ble_eq_true rfl, Nat.le_of_ble_eq_true rfl⟩ (Nat.le_of_ble_eq_true rfl) ⟨(show _ + 0 ≤ bc by omega), (show _ + 0 ≤ bs by omega)⟩ dX11_touch_24 (fun v S1 H locs hq hH => ?_)
    obtain ⟨r_3, F_3, rfl, e9, hp⟩ := hq
    rw [e9] at hH
    have hH : Hp G (FA S s.heap.size) s.heap (wI S F_3) H locs := hH
    refine W.eq (g2 := F0 m 27 ls [.int r_3]) rfl ?_
    exact sx_iret (pc := 27) B hH hr hlk (by rw [← hQQ]; exact ⟨_, rfl, hp⟩) (show _ ≤ bc by omega) (show _ ≤ bs by omega) dX11_touch_27
  refine lv_if_lt (pc := 1) (tgt := 22) hx hb dX11_touch_1 (by decide) (fun cc_1 => ?_) (fun cc_1 => ?_)
  · have hp := hp.1 cc_1
    exact kj_2  _ _ _ _ _ hp (show _ + bc ≤ bc by omega) (show _ + bs ≤ bs by omega) hH (lv_sub hl [0] rfl)
  · have hp := hp.2 cc_1
    refine lv_iload_n (pc := 4) hx hb dX11_touch_4 rfl (lv_at hl 1 rfl) ?_
    refine lv_aload_n (pc := 5) hx hb dX11_touch_5 rfl (lv_at hl 0 rfl) ?_
    refine sx_getR (pc := 6) (j := 4) B hH hk_th coX11 rfl w_460 rfl dX11_touch_6 ?_
    refine W.eq (g2 := F0 m 9 ls [va_rf (gR S th 4), .int p0]) rfl ?_
    obtain ⟨a_4, ha_4, hp⟩ := hp
    refine sx_nonnull (x := a_4) ha_4 ?_
    obtain ⟨hk_5, hp⟩ := hp
    refine sx_getI (pc := 9) (j := 1) B hH hk_5 coX7 rfl w_207 rfl dX11_touch_9 ?_
    refine W.eq (g2 := F0 m 12 ls [.int (gI S a_4 1), .int p0]) rfl ?_
    refine lv_icmp_gt (pc := 12) (tgt := 22) hx hb dX11_touch_12 (by decide) (fun cc_6 => ?_) (fun cc_6 => ?_)
    · have hp := hp.1 cc_6
      exact kj_2  _ _ _ _ _ hp (show _ + bc ≤ bc by omega) (show _ + bs ≤ bs by omega) hH (lv_sub hl [0] rfl)
    · have hp := hp.2 cc_6
      refine lv_iload_n (pc := 15) hx hb dX11_touch_15 rfl (lv_at hl 1 rfl) ?_
      refine lv_sipush (pc := 16) (v := 300) hx hb dX11_touch_16 (by decide) ?_
      refine lv_icmp_le (pc := 19) (tgt := 28) hx hb dX11_touch_19 (by decide) (fun cc_7 => ?_) (fun cc_7 => ?_)
      · have hp := hp.1 cc_7
        refine lv_aload_n (pc := 28) hx hb dX11_touch_28 rfl (lv_at hl 0 rfl) ?_
        refine sx_getR (pc := 29) (j := 6) B hH hk_th coX11 rfl w_462 rfl dX11_touch_29 ?_
        refine W.eq (g2 := F0 m 32 ls [va_rf (gR S th 6)]) rfl ?_
        obtain ⟨a_8, ha_8, hp⟩ := hp
        refine sx_nonnull (x := a_8) ha_8 ?_
        refine lv_iload_n (pc := 32) hx hb dX11_touch_32 rfl (lv_at hl 1 rfl) ?_
        refine lv_aload_n (pc := 33) hx hb dX11_touch_33 rfl (lv_at hl 0 rfl) ?_
        refine sx_getR (pc := 34) (j := 7) B hH hk_th coX11 rfl w_463 rfl dX11_touch_34 ?_
        refine W.eq (g2 := F0 m 37 ls [va_rf (gR S th 7), .int p0, .ref a_8]) rfl ?_
        obtain ⟨a_9, ha_9, hp⟩ := hp
        refine sx_nonnull (x := a_9) ha_9 ?_
        obtain ⟨hk_10, hp⟩ := hp
        refine sx_V (pc := 37) (As := [.int p0, .ref a_9]) (rest := []) B hH hl.1 (C_X9_takes G l a_8 p0 a_9 _ _ hp) mi_X9_takes coX9 hk_10 w_747 w_748 w_746 rfl rfl ⟨Nat.le_of_ble_eq_true rfl, Nat.le_of_ble_eq_true rfl⟩ (Nat.le_of_ble_eq_true rfl) ⟨(show _ + 0 ≤ bc by omega), (show _ + 0 ≤ bs by omega)⟩ dX11_touch_37 (fun v S1 H locs hq hH => ?_)
        obtain ⟨r_11, F_11, J_11, R_11, rfl, e9, hp⟩ := hq
        rw [e9] at hH
        have hH : Hp G (FA S s.heap.size) s.heap (wA S F_11 J_11 R_11) H locs := hH
        refine W.eq (g2 := F0 m 40 ls [.int r_11]) rfl ?_
        refine lv_if_ne (pc := 40) (tgt := 50) hx hb dX11_touch_40 (by decide) (fun cc_12 => ?_) (fun cc_12 => ?_)
        · have hp := hp.1 cc_12
          refine lv_aload_n (pc := 50) hx hb dX11_touch_50 rfl (lv_at hl 0 rfl) ?_
          refine lv_aload_n (pc := 51) hx hb dX11_touch_51 rfl (lv_at hl 0 rfl) ?_
          refine sx_getR (pc := 52) (j := 6) B hH hk_th coX11 rfl w_462 rfl dX11_touch_52 ?_
          refine W.eq (g2 := F0 m 55 ls [va_rf (R_11 th 6), .ref th]) rfl ?_
          obtain ⟨a_13, ha_13, hp⟩ := hp
          refine sx_nonnull (x := a_13) ha_13 ?_
          refine lv_aload_n (pc := 55) hx hb dX11_touch_55 rfl (lv_at hl 0 rfl) ?_
          refine sx_getR (pc := 56) (j := 7) B hH hk_th coX11 rfl w_463 rfl dX11_touch_56 ?_
          refine W.eq (g2 := F0 m 59 ls [va_rf (R_11 th 7), .ref a_13, .ref th]) rfl ?_
          obtain ⟨a_14, ha_14, hp⟩ := hp
          refine sx_nonnull (x := a_14) ha_14 ?_
          obtain ⟨hk_15, hp⟩ := hp
          obtain ⟨c_16, s_16, hb_16, hs_16, hp⟩ := hp
          refine sx_V (pc := 59) (As := [.ref a_14]) (rest := [.ref th]) B hH hl.1 (C_X9_made G l a_13 a_14 _ c_16 s_16 _ hp) mi_X9_made coX9 hk_15 w_792 w_793 w_791 rfl rfl ⟨Nat.le_of_ble_eq_true rfl, Nat.le_of_ble_eq_true rfl⟩ (Nat.le_of_ble_eq_true rfl) ⟨(show _ + c_16 ≤ bc by omega), (show _ + s_16 ≤ bs by omega)⟩ dX11_touch_59 (fun v S1 H locs hq hH => ?_)
          obtain ⟨r_17, rfl, hp⟩ := hq
          obtain ⟨S_17, eS_17⟩ : ∃ z : St, z = S1 := ⟨_, rfl⟩
          rw [← eS_17] at hp hH
          refine W.eq (g2 := F0 m 62 ls [va_rf r_17, .ref th]) rfl ?_
          obtain ⟨hk_18, hp⟩ := hp
          obtain ⟨R_19, eR_19⟩ : ∃ z : Nat → Nat → Option Nat, z = upR (gR S_17) th 8 r_17 := ⟨_, rfl⟩
          have hp := hp R_19 eR_19
          refine sx_putR (pc := 62) (j := 8) (x := r_17) B hH hk_18 coX11 rfl w_464 rfl (Or.inl rfl) rfl dX11_touch_62 (fun H locs hH => ?_)
          have hH : Hp G (FA S s.heap.size) s.heap (wA S_17 (gI S_17) (gJ S_17) R_19) H locs := by rw [eR_19]; exact hH
          refine lv_aload_n (pc := 65) hx hb dX11_touch_65 rfl (lv_at hl 0 rfl) ?_
          refine lv_null (pc := 66) hx hb dX11_touch_66 ?_
          refine W.eq (g2 := F0 m 67 ls [va_rf none, .ref th]) rfl ?_
          obtain ⟨R_20, eR_20⟩ : ∃ z : Nat → Nat → Option Nat, z = upR R_19 th 9 none := ⟨_, rfl⟩
          have hp := hp R_20 eR_20
          refine sx_putR (pc := 67) (j := 9) (x := none) B hH hk_18 coX11 rfl w_465 rfl (Or.inl rfl) rfl dX11_touch_67 (fun H locs hH => ?_)
          have hH : Hp G (FA S s.heap.size) s.heap (wA S_17 (gI S_17) (gJ S_17) R_20) H locs := by rw [eR_20]; exact hH
          refine lv_aload_n (pc := 70) hx hb dX11_touch_70 rfl (lv_at hl 0 rfl) ?_
          refine lv_aload_n (pc := 71) hx hb dX11_touch_71 rfl (lv_at hl 0 rfl) ?_
          refine sx_getR (pc := 72) (j := 8) B hH hk_18 coX11 rfl w_464 rfl dX11_touch_72 ?_
          refine W.eq (g2 := F0 m 75 ls [va_rf (R_20 th 8), .ref th]) rfl ?_
          obtain ⟨a_21, ha_21, hp⟩ := hp
          refine sx_nonnull (x := a_21) ha_21 ?_
          obtain ⟨hk_22, hp⟩ := hp
          refine sx_getI (pc := 75) (j := 1) B hH hk_22 coX8 rfl w_823 rfl dX11_touch_75 ?_
          refine W.eq (g2 := F0 m 78 ls [.int (gI S_17 a_21 1), .ref th]) rfl ?_
          refine sx_V (pc := 78) (As := [.int (gI S_17 a_21 1)]) (rest := []) B hH hl.1 (C_X11_answer G l th (gI S_17 a_21 1) _ _ hp) mi_X11_answer coX11 hk_18 w_740 w_16 w_738 rfl rfl ⟨Nat.le_of_ble_eq_true rfl, Nat.le_of_ble_eq_true rfl⟩ (Nat.le_of_ble_eq_true rfl) ⟨(show _ + 0 ≤ bc by omega), (show _ + 0 ≤ bs by omega)⟩ dX11_touch_78 (fun v S1 H locs hq hH => ?_)
          obtain ⟨r_23, F_23, rfl, e9, hp⟩ := hq
          rw [e9] at hH
          have hH : Hp G (FA S s.heap.size) s.heap (wA S_17 F_23 (gJ S_17) R_20) H locs := hH
          refine W.eq (g2 := F0 m 81 ls [.int r_23]) rfl ?_
          exact sx_iret (pc := 81) B hH hr hlk (by rw [← hQQ]; exact ⟨_, rfl, hp⟩) (show _ ≤ bc by omega) (show _ ≤ bs by omega) dX11_touch_81
        · have hp := hp.2 cc_12
          refine lv_aload_n (pc := 43) hx hb dX11_touch_43 rfl (lv_at hl 0 rfl) ?_
          refine lv_bipush (pc := 44) (v := 9) hx hb dX11_touch_44 (by decide) ?_
          refine sx_V (pc := 46) (As := [.int 9]) (rest := []) B hH hl.1 (C_X11_refuse G l th 9 _ _ hp) mi_X11_refuse coX11 hk_th w_570 w_3 w_568 rfl rfl ⟨Nat.le_of_ble_eq_true rfl, Nat.le_of_ble_eq_true rfl⟩ (Nat.le_of_ble_eq_true rfl) ⟨(show _ + 0 ≤ bc by omega), (show _ + 0 ≤ bs by omega)⟩ dX11_touch_46 (fun v S1 H locs hq hH => ?_)
          obtain ⟨r_24, F_24, rfl, e9, hp⟩ := hq
          rw [e9] at hH
          have hH : Hp G (FA S s.heap.size) s.heap (wA S F_24 J_11 R_11) H locs := hH
          refine W.eq (g2 := F0 m 49 ls [.int r_24]) rfl ?_
          exact sx_iret (pc := 49) B hH hr hlk (by rw [← hQQ]; exact ⟨_, rfl, hp⟩) (show _ ≤ bc by omega) (show _ ≤ bs by omega) dX11_touch_49
      · have hp := hp.2 cc_7
        exact kj_2  _ _ _ _ _ hp (show _ + bc ≤ bc by omega) (show _ + bs ≤ bs by omega) hH (lv_sub hl [0] rfl)
theorem dX11_fault_0 : decode cX11_fault 0 = .ok (.iload_n 1, 1) := by decide +kernel
theorem dX11_fault_1 : decode cX11_fault 1 = .ok (.ifCond .ne 11, 3) := by decide +kernel
theorem dX11_fault_4 : decode cX11_fault 4 = .ok (.aload_n 0, 1) := by decide +kernel
theorem dX11_fault_5 : decode cX11_fault 5 = .ok (.getfield 29, 3) := by decide +kernel
theorem dX11_fault_8 : decode cX11_fault 8 = .ok (.getfield 182, 3) := by decide +kernel
theorem dX11_fault_11 : decode cX11_fault 11 = .ok (.ireturn, 1) := by decide +kernel
theorem dX11_fault_12 : decode cX11_fault 12 = .ok (.iload_n 1, 1) := by decide +kernel
theorem dX11_fault_13 : decode cX11_fault 13 = .ok (.iconst 1, 1) := by decide +kernel
theorem dX11_fault_14 : decode cX11_fault 14 = .ok (.if_icmp .ne 13, 3) := by decide +kernel
theorem dX11_fault_17 : decode cX11_fault 17 = .ok (.aload_n 0, 1) := by decide +kernel
theorem dX11_fault_18 : decode cX11_fault 18 = .ok (.getfield 29, 3) := by decide +kernel
theorem dX11_fault_21 : decode cX11_fault 21 = .ok (.getfield 185, 3) := by decide +kernel
theorem dX11_fault_24 : decode cX11_fault 24 = .ok (.goto 4, 3) := by decide +kernel
theorem dX11_fault_27 : decode cX11_fault 27 = .ok (.iconst (-1), 1) := by decide +kernel
theorem dX11_fault_28 : decode cX11_fault 28 = .ok (.ireturn, 1) := by decide +kernel
theorem mi_X11_fault : MI yX11_fault cX11_fault 2 (some FieldType.int) 1 := ⟨w_840, w_105, by decide +kernel, by decide +kernel, by decide +kernel⟩
set_option maxRecDepth 100000 in
set_option maxHeartbeats 4000000 in
theorem C_X11_fault (G : GG) (l : Launch) (th : Nat) (p0 : Int32) (S : St) (Q : Int32 → Prop) (hp : P_X11_fault th p0 S Q) : Ctr G l yX11_fault cX11_fault 2 (some FieldType.int) 0 0 0 0 [.ref th, .int p0] S (fun (v : Option Value) (S9 : St) => ∃ (r : Int32), v = some (.int r) ∧ S9 = S ∧ Q r ) := by
  generalize hQQ : (fun (v : Option Value) (S9 : St) => ∃ (r : Int32), v = some (.int r) ∧ S9 = S ∧ Q r ) = QQ
  unfold P_X11_fault at hp
  refine Ctr.of (by decide) (Nat.le_of_ble_eq_true rfl) ?_
  intro p e s m args below meth c ls B hr hlk hin hl hH
  generalize hlocs0 : ([] : List Loc) = locs at hH ⊢
  have hx := B.1
  have hb := B.2.1
  have hl : lv_has ls 2 [(0, .ref th), (1, .int p0)] := hl
  obtain ⟨hk_th, hp⟩ := hp
  refine lv_iload_n (pc := 0) hx hb dX11_fault_0 rfl (lv_at hl 1 rfl) ?_
  refine lv_if_ne (pc := 1) (tgt := 12) hx hb dX11_fault_1 (by decide) (fun cc_1 => ?_) (fun cc_1 => ?_)
  · have hp := hp.1 cc_1
    refine lv_iload_n (pc := 12) hx hb dX11_fault_12 rfl (lv_at hl 1 rfl) ?_
    refine lv_iconst (pc := 13) (v := 1) hx hb dX11_fault_13 (by decide) ?_
    refine lv_icmp_ne (pc := 14) (tgt := 27) hx hb dX11_fault_14 (by decide) (fun cc_2 => ?_) (fun cc_2 => ?_)
    · have hp := hp.1 cc_2
      refine lv_iconst (pc := 27) (v := (-1)) hx hb dX11_fault_27 (by decide) ?_
      exact sx_iret (pc := 28) B hH hr hlk (by rw [← hQQ]; exact ⟨_, rfl, rfl, hp⟩) (Nat.le_of_ble_eq_true rfl) (Nat.le_of_ble_eq_true rfl) dX11_fault_28
    · have hp := hp.2 cc_2
      refine lv_aload_n (pc := 17) hx hb dX11_fault_17 rfl (lv_at hl 0 rfl) ?_
      refine sx_getR (pc := 18) (j := 4) B hH hk_th coX11 rfl w_460 rfl dX11_fault_18 ?_
      refine W.eq (g2 := F0 m 21 ls [va_rf (gR S th 4)]) rfl ?_
      obtain ⟨a_3, ha_3, hp⟩ := hp
      refine sx_nonnull (x := a_3) ha_3 ?_
      obtain ⟨hk_4, hp⟩ := hp
      refine sx_getI (pc := 21) (j := 10) B hH hk_4 coX7 rfl w_223 rfl dX11_fault_21 ?_
      refine W.eq (g2 := F0 m 24 ls [.int (gI S a_3 10)]) rfl ?_
      refine lv_goto (pc := 24) (tgt := 28) hx hb dX11_fault_24 (by decide) ?_
      exact sx_iret (pc := 28) B hH hr hlk (by rw [← hQQ]; exact ⟨_, rfl, rfl, hp⟩) (Nat.le_of_ble_eq_true rfl) (Nat.le_of_ble_eq_true rfl) dX11_fault_28
  · have hp := hp.2 cc_1
    refine lv_aload_n (pc := 4) hx hb dX11_fault_4 rfl (lv_at hl 0 rfl) ?_
    refine sx_getR (pc := 5) (j := 4) B hH hk_th coX11 rfl w_460 rfl dX11_fault_5 ?_
    refine W.eq (g2 := F0 m 8 ls [va_rf (gR S th 4)]) rfl ?_
    obtain ⟨a_5, ha_5, hp⟩ := hp
    refine sx_nonnull (x := a_5) ha_5 ?_
    obtain ⟨hk_6, hp⟩ := hp
    refine sx_getI (pc := 8) (j := 9) B hH hk_6 coX7 rfl w_221 rfl dX11_fault_8 ?_
    refine W.eq (g2 := F0 m 11 ls [.int (gI S a_5 9)]) rfl ?_
    exact sx_iret (pc := 11) B hH hr hlk (by rw [← hQQ]; exact ⟨_, rfl, rfl, hp⟩) (Nat.le_of_ble_eq_true rfl) (Nat.le_of_ble_eq_true rfl) dX11_fault_11
theorem dX11_told_0 : decode cX11_told 0 = .ok (.iload_n 1, 1) := by decide +kernel
theorem dX11_told_1 : decode cX11_told 1 = .ok (.tableswitch 144 0 5 #[39, 51, 64, 76, 88, 116], 39) := by decide +kernel
theorem dX11_told_40 : decode cX11_told 40 = .ok (.aload_n 0, 1) := by decide +kernel
theorem dX11_told_41 : decode cX11_told 41 = .ok (.aload_n 0, 1) := by decide +kernel
theorem dX11_told_42 : decode cX11_told 42 = .ok (.getfield 62, 3) := by decide +kernel
theorem dX11_told_45 : decode cX11_told 45 = .ok (.getfield 188, 3) := by decide +kernel
theorem dX11_told_48 : decode cX11_told 48 = .ok (.invokevirtual 170, 3) := by decide +kernel
theorem dX11_told_51 : decode cX11_told 51 = .ok (.ireturn, 1) := by decide +kernel
theorem dX11_told_52 : decode cX11_told 52 = .ok (.aload_n 0, 1) := by decide +kernel
theorem dX11_told_53 : decode cX11_told 53 = .ok (.aload_n 0, 1) := by decide +kernel
theorem dX11_told_54 : decode cX11_told 54 = .ok (.getfield 62, 3) := by decide +kernel
theorem dX11_told_57 : decode cX11_told 57 = .ok (.getfield 166, 3) := by decide +kernel
theorem dX11_told_60 : decode cX11_told 60 = .ok (.arraylength, 1) := by decide +kernel
theorem dX11_told_61 : decode cX11_told 61 = .ok (.invokevirtual 170, 3) := by decide +kernel
theorem dX11_told_64 : decode cX11_told 64 = .ok (.ireturn, 1) := by decide +kernel
theorem dX11_told_65 : decode cX11_told 65 = .ok (.aload_n 0, 1) := by decide +kernel
theorem dX11_told_66 : decode cX11_told 66 = .ok (.aload_n 0, 1) := by decide +kernel
theorem dX11_told_67 : decode cX11_told 67 = .ok (.getfield 62, 3) := by decide +kernel
theorem dX11_told_70 : decode cX11_told 70 = .ok (.getfield 191, 3) := by decide +kernel
theorem dX11_told_73 : decode cX11_told 73 = .ok (.invokevirtual 170, 3) := by decide +kernel
theorem dX11_told_76 : decode cX11_told 76 = .ok (.ireturn, 1) := by decide +kernel
theorem dX11_told_77 : decode cX11_told 77 = .ok (.aload_n 0, 1) := by decide +kernel
theorem dX11_told_78 : decode cX11_told 78 = .ok (.aload_n 0, 1) := by decide +kernel
theorem dX11_told_79 : decode cX11_told 79 = .ok (.getfield 62, 3) := by decide +kernel
theorem dX11_told_82 : decode cX11_told 82 = .ok (.getfield 194, 3) := by decide +kernel
theorem dX11_told_85 : decode cX11_told 85 = .ok (.invokevirtual 170, 3) := by decide +kernel
theorem dX11_told_88 : decode cX11_told 88 = .ok (.ireturn, 1) := by decide +kernel
theorem dX11_told_89 : decode cX11_told 89 = .ok (.aload_n 0, 1) := by decide +kernel
theorem dX11_told_90 : decode cX11_told 90 = .ok (.getfield 66, 3) := by decide +kernel
theorem dX11_told_93 : decode cX11_told 93 = .ok (.ifnonnull 12, 3) := by decide +kernel
theorem dX11_told_96 : decode cX11_told 96 = .ok (.aload_n 0, 1) := by decide +kernel
theorem dX11_told_97 : decode cX11_told 97 = .ok (.bipush 6, 2) := by decide +kernel
theorem dX11_told_99 : decode cX11_told 99 = .ok (.invokevirtual 139, 3) := by decide +kernel
theorem dX11_told_102 : decode cX11_told 102 = .ok (.goto 14, 3) := by decide +kernel
theorem dX11_told_105 : decode cX11_told 105 = .ok (.aload_n 0, 1) := by decide +kernel
theorem dX11_told_106 : decode cX11_told 106 = .ok (.aload_n 0, 1) := by decide +kernel
theorem dX11_told_107 : decode cX11_told 107 = .ok (.getfield 66, 3) := by decide +kernel
theorem dX11_told_110 : decode cX11_told 110 = .ok (.getfield 179, 3) := by decide +kernel
theorem dX11_told_113 : decode cX11_told 113 = .ok (.invokevirtual 170, 3) := by decide +kernel
theorem dX11_told_116 : decode cX11_told 116 = .ok (.ireturn, 1) := by decide +kernel
theorem dX11_told_117 : decode cX11_told 117 = .ok (.aload_n 0, 1) := by decide +kernel
theorem dX11_told_118 : decode cX11_told 118 = .ok (.getfield 70, 3) := by decide +kernel
theorem dX11_told_121 : decode cX11_told 121 = .ok (.ifnonnull 12, 3) := by decide +kernel
theorem dX11_told_124 : decode cX11_told 124 = .ok (.aload_n 0, 1) := by decide +kernel
theorem dX11_told_125 : decode cX11_told 125 = .ok (.bipush 6, 2) := by decide +kernel
theorem dX11_told_127 : decode cX11_told 127 = .ok (.invokevirtual 139, 3) := by decide +kernel
theorem dX11_told_130 : decode cX11_told 130 = .ok (.goto 14, 3) := by decide +kernel
theorem dX11_told_133 : decode cX11_told 133 = .ok (.aload_n 0, 1) := by decide +kernel
theorem dX11_told_134 : decode cX11_told 134 = .ok (.aload_n 0, 1) := by decide +kernel
theorem dX11_told_135 : decode cX11_told 135 = .ok (.getfield 70, 3) := by decide +kernel
theorem dX11_told_138 : decode cX11_told 138 = .ok (.invokevirtual 197, 3) := by decide +kernel
theorem dX11_told_141 : decode cX11_told 141 = .ok (.invokevirtual 170, 3) := by decide +kernel
theorem dX11_told_144 : decode cX11_told 144 = .ok (.ireturn, 1) := by decide +kernel
theorem dX11_told_145 : decode cX11_told 145 = .ok (.aload_n 0, 1) := by decide +kernel
theorem dX11_told_146 : decode cX11_told 146 = .ok (.iconst 1, 1) := by decide +kernel
theorem dX11_told_147 : decode cX11_told 147 = .ok (.invokevirtual 139, 3) := by decide +kernel
theorem dX11_told_150 : decode cX11_told 150 = .ok (.ireturn, 1) := by decide +kernel
theorem mi_X11_told : MI yX11_told cX11_told 2 (some FieldType.int) 1 := ⟨w_844, w_105, by decide +kernel, by decide +kernel, by decide +kernel⟩
set_option maxRecDepth 100000 in
set_option maxHeartbeats 4000000 in
theorem C_X11_told (G : GG) (l : Launch) (th : Nat) (p0 : Int32) (S : St) (Q : Int32 → (Nat → Nat → Int32) → Prop) (hp : P_X11_told th p0 S Q) : Ctr G l yX11_told cX11_told 2 (some FieldType.int) 1 21 0 0 [.ref th, .int p0] S (fun (v : Option Value) (S9 : St) => ∃ (r : Int32) (I9 : Nat → Nat → Int32), v = some (.int r) ∧ S9 = wI S I9 ∧ Q r I9) := by
  generalize hQQ : (fun (v : Option Value) (S9 : St) => ∃ (r : Int32) (I9 : Nat → Nat → Int32), v = some (.int r) ∧ S9 = wI S I9 ∧ Q r I9) = QQ
  unfold P_X11_told at hp
  refine Ctr.of (by decide) (Nat.le_of_ble_eq_true rfl) ?_
  intro p e s m args below meth c ls B hr hlk hin hl hH
  generalize hlocs0 : ([] : List Loc) = locs at hH ⊢
  have hx := B.1
  have hb := B.2.1
  have hl : lv_has ls 2 [(0, .ref th), (1, .int p0)] := hl
  obtain ⟨hk_th, hp⟩ := hp
  refine lv_iload_n (pc := 0) hx hb dX11_told_0 rfl (lv_at hl 1 rfl) ?_
  by_cases cs_1_0 : p0 = 0
  · have hp := hp.1 cs_1_0
    refine lv_tableIn (pc := 1) (tgt := 40) hx hb dX11_told_1 (by rw [cs_1_0]; decide) (by rw [cs_1_0]; decide) (by rw [cs_1_0]; rfl) (by decide) ?_
    refine lv_aload_n (pc := 40) hx hb dX11_told_40 rfl (lv_at hl 0 rfl) ?_
    refine lv_aload_n (pc := 41) hx hb dX11_told_41 rfl (lv_at hl 0 rfl) ?_
    refine sx_getR (pc := 42) (j := 7) B hH hk_th coX11 rfl w_463 rfl dX11_told_42 ?_
    refine W.eq (g2 := F0 m 45 ls [va_rf (gR S th 7), .ref th]) rfl ?_
    obtain ⟨a_2, ha_2, hp⟩ := hp
    refine sx_nonnull (x := a_2) ha_2 ?_
    obtain ⟨hk_3, hp⟩ := hp
    refine sx_getI (pc := 45) (j := 0) B hH hk_3 coX0 rfl w_357 rfl dX11_told_45 ?_
    refine W.eq (g2 := F0 m 48 ls [.int (gI S a_2 0), .ref th]) rfl ?_
    refine sx_V (pc := 48) (As := [.int (gI S a_2 0)]) (rest := []) B hH hl.1 (C_X11_answer G l th (gI S a_2 0) _ _ hp) mi_X11_answer coX11 hk_th w_740 w_16 w_738 rfl rfl ⟨Nat.le_of_ble_eq_true rfl, Nat.le_of_ble_eq_true rfl⟩ (Nat.le_of_ble_eq_true rfl) ⟨Nat.le_of_ble_eq_true rfl, Nat.le_of_ble_eq_true rfl⟩ dX11_told_48 (fun v S1 H locs hq hH => ?_)
    obtain ⟨r_4, F_4, rfl, e9, hp⟩ := hq
    rw [e9] at hH
    have hH : Hp G (FA S s.heap.size) s.heap (wI S F_4) H locs := hH
    refine W.eq (g2 := F0 m 51 ls [.int r_4]) rfl ?_
    exact sx_iret (pc := 51) B hH hr hlk (by rw [← hQQ]; exact ⟨_, F_4, rfl, rfl, hp⟩) (Nat.le_of_ble_eq_true rfl) (Nat.le_of_ble_eq_true rfl) dX11_told_51
  · have hp := hp.2 cs_1_0
    by_cases cs_1_1 : p0 = 1
    · have hp := hp.1 cs_1_1
      refine lv_tableIn (pc := 1) (tgt := 52) hx hb dX11_told_1 (by rw [cs_1_1]; decide) (by rw [cs_1_1]; decide) (by rw [cs_1_1]; rfl) (by decide) ?_
      refine lv_aload_n (pc := 52) hx hb dX11_told_52 rfl (lv_at hl 0 rfl) ?_
      refine lv_aload_n (pc := 53) hx hb dX11_told_53 rfl (lv_at hl 0 rfl) ?_
      refine sx_getR (pc := 54) (j := 7) B hH hk_th coX11 rfl w_463 rfl dX11_told_54 ?_
      refine W.eq (g2 := F0 m 57 ls [va_rf (gR S th 7), .ref th]) rfl ?_
      obtain ⟨a_5, ha_5, hp⟩ := hp
      refine sx_nonnull (x := a_5) ha_5 ?_
      obtain ⟨hk_6, hp⟩ := hp
      refine sx_getR (pc := 57) (j := 3) B hH hk_6 coX0 rfl w_366 rfl dX11_told_57 ?_
      refine W.eq (g2 := F0 m 60 ls [va_rf (gR S a_5 3), .ref th]) rfl ?_
      obtain ⟨a_7, ha_7, hp⟩ := hp
      refine sx_nonnull (x := a_7) ha_7 ?_
      obtain ⟨hk_8, hp⟩ := hp
      refine sx_alen (pc := 60) B hH hk_8 (by decide) (by decide) dX11_told_60 ?_
      refine W.eq (g2 := F0 m 61 ls [.int (nI (ln S a_7)), .ref th]) rfl ?_
      refine sx_V (pc := 61) (As := [.int (nI (ln S a_7))]) (rest := []) B hH hl.1 (C_X11_answer G l th (nI (ln S a_7)) _ _ hp) mi_X11_answer coX11 hk_th w_740 w_16 w_738 rfl rfl ⟨Nat.le_of_ble_eq_true rfl, Nat.le_of_ble_eq_true rfl⟩ (Nat.le_of_ble_eq_true rfl) ⟨Nat.le_of_ble_eq_true rfl, Nat.le_of_ble_eq_true rfl⟩ dX11_told_61 (fun v S1 H locs hq hH => ?_)
      obtain ⟨r_9, F_9, rfl, e9, hp⟩ := hq
      rw [e9] at hH
      have hH : Hp G (FA S s.heap.size) s.heap (wI S F_9) H locs := hH
      refine W.eq (g2 := F0 m 64 ls [.int r_9]) rfl ?_
      exact sx_iret (pc := 64) B hH hr hlk (by rw [← hQQ]; exact ⟨_, F_9, rfl, rfl, hp⟩) (Nat.le_of_ble_eq_true rfl) (Nat.le_of_ble_eq_true rfl) dX11_told_64
    · have hp := hp.2 cs_1_1
      by_cases cs_1_2 : p0 = 2
      · have hp := hp.1 cs_1_2
        refine lv_tableIn (pc := 1) (tgt := 65) hx hb dX11_told_1 (by rw [cs_1_2]; decide) (by rw [cs_1_2]; decide) (by rw [cs_1_2]; rfl) (by decide) ?_
        refine lv_aload_n (pc := 65) hx hb dX11_told_65 rfl (lv_at hl 0 rfl) ?_
        refine lv_aload_n (pc := 66) hx hb dX11_told_66 rfl (lv_at hl 0 rfl) ?_
        refine sx_getR (pc := 67) (j := 7) B hH hk_th coX11 rfl w_463 rfl dX11_told_67 ?_
        refine W.eq (g2 := F0 m 70 ls [va_rf (gR S th 7), .ref th]) rfl ?_
        obtain ⟨a_10, ha_10, hp⟩ := hp
        refine sx_nonnull (x := a_10) ha_10 ?_
        obtain ⟨hk_11, hp⟩ := hp
        refine sx_getI (pc := 70) (j := 1) B hH hk_11 coX0 rfl w_361 rfl dX11_told_70 ?_
        refine W.eq (g2 := F0 m 73 ls [.int (gI S a_10 1), .ref th]) rfl ?_
        refine sx_V (pc := 73) (As := [.int (gI S a_10 1)]) (rest := []) B hH hl.1 (C_X11_answer G l th (gI S a_10 1) _ _ hp) mi_X11_answer coX11 hk_th w_740 w_16 w_738 rfl rfl ⟨Nat.le_of_ble_eq_true rfl, Nat.le_of_ble_eq_true rfl⟩ (Nat.le_of_ble_eq_true rfl) ⟨Nat.le_of_ble_eq_true rfl, Nat.le_of_ble_eq_true rfl⟩ dX11_told_73 (fun v S1 H locs hq hH => ?_)
        obtain ⟨r_12, F_12, rfl, e9, hp⟩ := hq
        rw [e9] at hH
        have hH : Hp G (FA S s.heap.size) s.heap (wI S F_12) H locs := hH
        refine W.eq (g2 := F0 m 76 ls [.int r_12]) rfl ?_
        exact sx_iret (pc := 76) B hH hr hlk (by rw [← hQQ]; exact ⟨_, F_12, rfl, rfl, hp⟩) (Nat.le_of_ble_eq_true rfl) (Nat.le_of_ble_eq_true rfl) dX11_told_76
      · have hp := hp.2 cs_1_2
        by_cases cs_1_3 : p0 = 3
        · have hp := hp.1 cs_1_3
          refine lv_tableIn (pc := 1) (tgt := 77) hx hb dX11_told_1 (by rw [cs_1_3]; decide) (by rw [cs_1_3]; decide) (by rw [cs_1_3]; rfl) (by decide) ?_
          refine lv_aload_n (pc := 77) hx hb dX11_told_77 rfl (lv_at hl 0 rfl) ?_
          refine lv_aload_n (pc := 78) hx hb dX11_told_78 rfl (lv_at hl 0 rfl) ?_
          refine sx_getR (pc := 79) (j := 7) B hH hk_th coX11 rfl w_463 rfl dX11_told_79 ?_
          refine W.eq (g2 := F0 m 82 ls [va_rf (gR S th 7), .ref th]) rfl ?_
          obtain ⟨a_13, ha_13, hp⟩ := hp
          refine sx_nonnull (x := a_13) ha_13 ?_
          obtain ⟨hk_14, hp⟩ := hp
          refine sx_getI (pc := 82) (j := 2) B hH hk_14 coX0 rfl w_363 rfl dX11_told_82 ?_
          refine W.eq (g2 := F0 m 85 ls [.int (gI S a_13 2), .ref th]) rfl ?_
          refine sx_V (pc := 85) (As := [.int (gI S a_13 2)]) (rest := []) B hH hl.1 (C_X11_answer G l th (gI S a_13 2) _ _ hp) mi_X11_answer coX11 hk_th w_740 w_16 w_738 rfl rfl ⟨Nat.le_of_ble_eq_true rfl, Nat.le_of_ble_eq_true rfl⟩ (Nat.le_of_ble_eq_true rfl) ⟨Nat.le_of_ble_eq_true rfl, Nat.le_of_ble_eq_true rfl⟩ dX11_told_85 (fun v S1 H locs hq hH => ?_)
          obtain ⟨r_15, F_15, rfl, e9, hp⟩ := hq
          rw [e9] at hH
          have hH : Hp G (FA S s.heap.size) s.heap (wI S F_15) H locs := hH
          refine W.eq (g2 := F0 m 88 ls [.int r_15]) rfl ?_
          exact sx_iret (pc := 88) B hH hr hlk (by rw [← hQQ]; exact ⟨_, F_15, rfl, rfl, hp⟩) (Nat.le_of_ble_eq_true rfl) (Nat.le_of_ble_eq_true rfl) dX11_told_88
        · have hp := hp.2 cs_1_3
          by_cases cs_1_4 : p0 = 4
          · have hp := hp.1 cs_1_4
            refine lv_tableIn (pc := 1) (tgt := 89) hx hb dX11_told_1 (by rw [cs_1_4]; decide) (by rw [cs_1_4]; decide) (by rw [cs_1_4]; rfl) (by decide) ?_
            refine lv_aload_n (pc := 89) hx hb dX11_told_89 rfl (lv_at hl 0 rfl) ?_
            refine sx_getR (pc := 90) (j := 8) B hH hk_th coX11 rfl w_464 rfl dX11_told_90 ?_
            refine W.eq (g2 := F0 m 93 ls [va_rf (gR S th 8)]) rfl ?_
            refine sx_ifnonnull (pc := 93) (r := gR S th 8) (tgt := 105) B dX11_told_93 (by decide) (fun cc_16 => ?_) (fun cc_16 => ?_)
            · have hp := hp.1 cc_16
              refine lv_aload_n (pc := 105) hx hb dX11_told_105 rfl (lv_at hl 0 rfl) ?_
              refine lv_aload_n (pc := 106) hx hb dX11_told_106 rfl (lv_at hl 0 rfl) ?_
              refine sx_getR (pc := 107) (j := 8) B hH hk_th coX11 rfl w_464 rfl dX11_told_107 ?_
              refine W.eq (g2 := F0 m 110 ls [va_rf (gR S th 8), .ref th]) rfl ?_
              obtain ⟨a_17, ha_17, hp⟩ := hp
              refine sx_nonnull (x := a_17) ha_17 ?_
              obtain ⟨hk_18, hp⟩ := hp
              refine sx_getI (pc := 110) (j := 1) B hH hk_18 coX8 rfl w_823 rfl dX11_told_110 ?_
              refine W.eq (g2 := F0 m 113 ls [.int (gI S a_17 1), .ref th]) rfl ?_
              refine sx_V (pc := 113) (As := [.int (gI S a_17 1)]) (rest := []) B hH hl.1 (C_X11_answer G l th (gI S a_17 1) _ _ hp) mi_X11_answer coX11 hk_th w_740 w_16 w_738 rfl rfl ⟨Nat.le_of_ble_eq_true rfl, Nat.le_of_ble_eq_true rfl⟩ (Nat.le_of_ble_eq_true rfl) ⟨Nat.le_of_ble_eq_true rfl, Nat.le_of_ble_eq_true rfl⟩ dX11_told_113 (fun v S1 H locs hq hH => ?_)
              obtain ⟨r_19, F_19, rfl, e9, hp⟩ := hq
              rw [e9] at hH
              have hH : Hp G (FA S s.heap.size) s.heap (wI S F_19) H locs := hH
              refine W.eq (g2 := F0 m 116 ls [.int r_19]) rfl ?_
              exact sx_iret (pc := 116) B hH hr hlk (by rw [← hQQ]; exact ⟨_, F_19, rfl, rfl, hp⟩) (Nat.le_of_ble_eq_true rfl) (Nat.le_of_ble_eq_true rfl) dX11_told_116
            · have hp := hp.2 cc_16
              refine lv_aload_n (pc := 96) hx hb dX11_told_96 rfl (lv_at hl 0 rfl) ?_
              refine lv_bipush (pc := 97) (v := 6) hx hb dX11_told_97 (by decide) ?_
              refine sx_V (pc := 99) (As := [.int 6]) (rest := []) B hH hl.1 (C_X11_refuse G l th 6 _ _ hp) mi_X11_refuse coX11 hk_th w_570 w_3 w_568 rfl rfl ⟨Nat.le_of_ble_eq_true rfl, Nat.le_of_ble_eq_true rfl⟩ (Nat.le_of_ble_eq_true rfl) ⟨Nat.le_of_ble_eq_true rfl, Nat.le_of_ble_eq_true rfl⟩ dX11_told_99 (fun v S1 H locs hq hH => ?_)
              obtain ⟨r_20, F_20, rfl, e9, hp⟩ := hq
              rw [e9] at hH
              have hH : Hp G (FA S s.heap.size) s.heap (wI S F_20) H locs := hH
              refine W.eq (g2 := F0 m 102 ls [.int r_20]) rfl ?_
              refine lv_goto (pc := 102) (tgt := 116) hx hb dX11_told_102 (by decide) ?_
              exact sx_iret (pc := 116) B hH hr hlk (by rw [← hQQ]; exact ⟨_, F_20, rfl, rfl, hp⟩) (Nat.le_of_ble_eq_true rfl) (Nat.le_of_ble_eq_true rfl) dX11_told_116
          · have hp := hp.2 cs_1_4
            by_cases cs_1_5 : p0 = 5
            · have hp := hp.1 cs_1_5
              refine lv_tableIn (pc := 1) (tgt := 117) hx hb dX11_told_1 (by rw [cs_1_5]; decide) (by rw [cs_1_5]; decide) (by rw [cs_1_5]; rfl) (by decide) ?_
              refine lv_aload_n (pc := 117) hx hb dX11_told_117 rfl (lv_at hl 0 rfl) ?_
              refine sx_getR (pc := 118) (j := 9) B hH hk_th coX11 rfl w_465 rfl dX11_told_118 ?_
              refine W.eq (g2 := F0 m 121 ls [va_rf (gR S th 9)]) rfl ?_
              refine sx_ifnonnull (pc := 121) (r := gR S th 9) (tgt := 133) B dX11_told_121 (by decide) (fun cc_21 => ?_) (fun cc_21 => ?_)
              · have hp := hp.1 cc_21
                refine lv_aload_n (pc := 133) hx hb dX11_told_133 rfl (lv_at hl 0 rfl) ?_
                refine lv_aload_n (pc := 134) hx hb dX11_told_134 rfl (lv_at hl 0 rfl) ?_
                refine sx_getR (pc := 135) (j := 9) B hH hk_th coX11 rfl w_465 rfl dX11_told_135 ?_
                refine W.eq (g2 := F0 m 138 ls [va_rf (gR S th 9), .ref th]) rfl ?_
                obtain ⟨a_22, ha_22, hp⟩ := hp
                refine sx_nonnull (x := a_22) ha_22 ?_
                obtain ⟨hk_23, hp⟩ := hp
                refine sx_V (pc := 138) (As := []) (rest := [.ref th]) B hH hl.1 (C_X8_last G l a_22 _ _ hp) mi_X8_last coX8 hk_23 w_846 w_847 w_845 rfl rfl ⟨Nat.le_of_ble_eq_true rfl, Nat.le_of_ble_eq_true rfl⟩ (Nat.le_of_ble_eq_true rfl) ⟨Nat.le_of_ble_eq_true rfl, Nat.le_of_ble_eq_true rfl⟩ dX11_told_138 (fun v S1 H locs hq hH => ?_)
                obtain ⟨r_24, rfl, e9, hp⟩ := hq
                rw [e9] at hH
                refine W.eq (g2 := F0 m 141 ls [.int r_24, .ref th]) rfl ?_
                refine sx_V (pc := 141) (As := [.int r_24]) (rest := []) B hH hl.1 (C_X11_answer G l th r_24 _ _ hp) mi_X11_answer coX11 hk_th w_740 w_16 w_738 rfl rfl ⟨Nat.le_of_ble_eq_true rfl, Nat.le_of_ble_eq_true rfl⟩ (Nat.le_of_ble_eq_true rfl) ⟨Nat.le_of_ble_eq_true rfl, Nat.le_of_ble_eq_true rfl⟩ dX11_told_141 (fun v S1 H locs hq hH => ?_)
                obtain ⟨r_25, F_25, rfl, e9, hp⟩ := hq
                rw [e9] at hH
                have hH : Hp G (FA S s.heap.size) s.heap (wI S F_25) H locs := hH
                refine W.eq (g2 := F0 m 144 ls [.int r_25]) rfl ?_
                exact sx_iret (pc := 144) B hH hr hlk (by rw [← hQQ]; exact ⟨_, F_25, rfl, rfl, hp⟩) (Nat.le_of_ble_eq_true rfl) (Nat.le_of_ble_eq_true rfl) dX11_told_144
              · have hp := hp.2 cc_21
                refine lv_aload_n (pc := 124) hx hb dX11_told_124 rfl (lv_at hl 0 rfl) ?_
                refine lv_bipush (pc := 125) (v := 6) hx hb dX11_told_125 (by decide) ?_
                refine sx_V (pc := 127) (As := [.int 6]) (rest := []) B hH hl.1 (C_X11_refuse G l th 6 _ _ hp) mi_X11_refuse coX11 hk_th w_570 w_3 w_568 rfl rfl ⟨Nat.le_of_ble_eq_true rfl, Nat.le_of_ble_eq_true rfl⟩ (Nat.le_of_ble_eq_true rfl) ⟨Nat.le_of_ble_eq_true rfl, Nat.le_of_ble_eq_true rfl⟩ dX11_told_127 (fun v S1 H locs hq hH => ?_)
                obtain ⟨r_26, F_26, rfl, e9, hp⟩ := hq
                rw [e9] at hH
                have hH : Hp G (FA S s.heap.size) s.heap (wI S F_26) H locs := hH
                refine W.eq (g2 := F0 m 130 ls [.int r_26]) rfl ?_
                refine lv_goto (pc := 130) (tgt := 144) hx hb dX11_told_130 (by decide) ?_
                exact sx_iret (pc := 144) B hH hr hlk (by rw [← hQQ]; exact ⟨_, F_26, rfl, rfl, hp⟩) (Nat.le_of_ble_eq_true rfl) (Nat.le_of_ble_eq_true rfl) dX11_told_144
            · have hp := hp.2 cs_1_5
              refine lv_tableOut (pc := 1) (tgt := 145) hx hb dX11_told_1 (sw_0_5 cs_1_0 cs_1_1 cs_1_2 cs_1_3 cs_1_4 cs_1_5) (by decide) ?_
              refine lv_aload_n (pc := 145) hx hb dX11_told_145 rfl (lv_at hl 0 rfl) ?_
              refine lv_iconst (pc := 146) (v := 1) hx hb dX11_told_146 (by decide) ?_
              refine sx_V (pc := 147) (As := [.int 1]) (rest := []) B hH hl.1 (C_X11_refuse G l th 1 _ _ hp) mi_X11_refuse coX11 hk_th w_570 w_3 w_568 rfl rfl ⟨Nat.le_of_ble_eq_true rfl, Nat.le_of_ble_eq_true rfl⟩ (Nat.le_of_ble_eq_true rfl) ⟨Nat.le_of_ble_eq_true rfl, Nat.le_of_ble_eq_true rfl⟩ dX11_told_147 (fun v S1 H locs hq hH => ?_)
              obtain ⟨r_27, F_27, rfl, e9, hp⟩ := hq
              rw [e9] at hH
              have hH : Hp G (FA S s.heap.size) s.heap (wI S F_27) H locs := hH
              refine W.eq (g2 := F0 m 150 ls [.int r_27]) rfl ?_
              exact sx_iret (pc := 150) B hH hr hlk (by rw [← hQQ]; exact ⟨_, F_27, rfl, rfl, hp⟩) (Nat.le_of_ble_eq_true rfl) (Nat.le_of_ble_eq_true rfl) dX11_told_150
theorem dX11_isRow_0 : decode cX11_isRow 0 = .ok (.iload_n 1, 1) := by decide +kernel
theorem dX11_isRow_1 : decode cX11_isRow 1 = .ok (.ifCond .lt 18, 3) := by decide +kernel
theorem dX11_isRow_4 : decode cX11_isRow 4 = .ok (.iload_n 1, 1) := by decide +kernel
theorem dX11_isRow_5 : decode cX11_isRow 5 = .ok (.aload_n 0, 1) := by decide +kernel
theorem dX11_isRow_6 : decode cX11_isRow 6 = .ok (.getfield 62, 3) := by decide +kernel
theorem dX11_isRow_9 : decode cX11_isRow 9 = .ok (.getfield 191, 3) := by decide +kernel
theorem dX11_isRow_12 : decode cX11_isRow 12 = .ok (.if_icmp .ge 7, 3) := by decide +kernel
theorem dX11_isRow_15 : decode cX11_isRow 15 = .ok (.iconst 1, 1) := by decide +kernel
theorem dX11_isRow_16 : decode cX11_isRow 16 = .ok (.goto 4, 3) := by decide +kernel
theorem dX11_isRow_19 : decode cX11_isRow 19 = .ok (.iconst 0, 1) := by decide +kernel
theorem dX11_isRow_20 : decode cX11_isRow 20 = .ok (.ireturn, 1) := by decide +kernel
theorem mi_X11_isRow : MI yX11_isRow cX11_isRow 2 (some FieldType.boolean) 1 := ⟨w_856, w_105, by decide +kernel, by decide +kernel, by decide +kernel⟩
set_option maxRecDepth 100000 in
set_option maxHeartbeats 4000000 in
theorem C_X11_isRow (G : GG) (l : Launch) (th : Nat) (p0 : Int32) (S : St) (Q : Int32 → Prop) (hp : P_X11_isRow th p0 S Q) : Ctr G l yX11_isRow cX11_isRow 2 (some FieldType.boolean) 0 0 0 0 [.ref th, .int p0] S (fun (v : Option Value) (S9 : St) => ∃ (r : Int32), v = some (.int r) ∧ S9 = S ∧ Q r ) := by
  generalize hQQ : (fun (v : Option Value) (S9 : St) => ∃ (r : Int32), v = some (.int r) ∧ S9 = S ∧ Q r ) = QQ
  unfold P_X11_isRow at hp
  refine Ctr.of (by decide) (Nat.le_of_ble_eq_true rfl) ?_
  intro p e s m args below meth c ls B hr hlk hin hl hH
  generalize hlocs0 : ([] : List Loc) = locs at hH ⊢
  have hx := B.1
  have hb := B.2.1
  have hl : lv_has ls 2 [(0, .ref th), (1, .int p0)] := hl
  obtain ⟨hk_th, hp⟩ := hp
  refine lv_iload_n (pc := 0) hx hb dX11_isRow_0 rfl (lv_at hl 1 rfl) ?_
  refine lv_if_lt (pc := 1) (tgt := 19) hx hb dX11_isRow_1 (by decide) (fun cc_1 => ?_) (fun cc_1 => ?_)
  · have hp := hp.1 cc_1
    refine lv_iconst (pc := 19) (v := 0) hx hb dX11_isRow_19 (by decide) ?_
    exact sx_zret (pc := 20) B hH hr hlk (Or.inl rfl) (by rw [← hQQ]; exact ⟨_, rfl, rfl, hp⟩) (Nat.le_of_ble_eq_true rfl) (Nat.le_of_ble_eq_true rfl) dX11_isRow_20
  · have hp := hp.2 cc_1
    refine lv_iload_n (pc := 4) hx hb dX11_isRow_4 rfl (lv_at hl 1 rfl) ?_
    refine lv_aload_n (pc := 5) hx hb dX11_isRow_5 rfl (lv_at hl 0 rfl) ?_
    refine sx_getR (pc := 6) (j := 7) B hH hk_th coX11 rfl w_463 rfl dX11_isRow_6 ?_
    refine W.eq (g2 := F0 m 9 ls [va_rf (gR S th 7), .int p0]) rfl ?_
    obtain ⟨a_2, ha_2, hp⟩ := hp
    refine sx_nonnull (x := a_2) ha_2 ?_
    obtain ⟨hk_3, hp⟩ := hp
    refine sx_getI (pc := 9) (j := 1) B hH hk_3 coX0 rfl w_361 rfl dX11_isRow_9 ?_
    refine W.eq (g2 := F0 m 12 ls [.int (gI S a_2 1), .int p0]) rfl ?_
    refine lv_icmp_ge (pc := 12) (tgt := 19) hx hb dX11_isRow_12 (by decide) (fun cc_4 => ?_) (fun cc_4 => ?_)
    · have hp := hp.1 cc_4
      refine lv_iconst (pc := 19) (v := 0) hx hb dX11_isRow_19 (by decide) ?_
      exact sx_zret (pc := 20) B hH hr hlk (Or.inl rfl) (by rw [← hQQ]; exact ⟨_, rfl, rfl, hp⟩) (Nat.le_of_ble_eq_true rfl) (Nat.le_of_ble_eq_true rfl) dX11_isRow_20
    · have hp := hp.2 cc_4
      refine lv_iconst (pc := 15) (v := 1) hx hb dX11_isRow_15 (by decide) ?_
      refine lv_goto (pc := 16) (tgt := 20) hx hb dX11_isRow_16 (by decide) ?_
      exact sx_zret (pc := 20) B hH hr hlk (Or.inr rfl) (by rw [← hQQ]; exact ⟨_, rfl, rfl, hp⟩) (Nat.le_of_ble_eq_true rfl) (Nat.le_of_ble_eq_true rfl) dX11_isRow_20
theorem dX11_isBell_0 : decode cX11_isBell 0 = .ok (.iload_n 1, 1) := by decide +kernel
theorem dX11_isBell_1 : decode cX11_isBell 1 = .ok (.iconst 1, 1) := by decide +kernel
theorem dX11_isBell_2 : decode cX11_isBell 2 = .ok (.if_icmp .lt 18, 3) := by decide +kernel
theorem dX11_isBell_5 : decode cX11_isBell 5 = .ok (.iload_n 1, 1) := by decide +kernel
theorem dX11_isBell_6 : decode cX11_isBell 6 = .ok (.aload_n 0, 1) := by decide +kernel
theorem dX11_isBell_7 : decode cX11_isBell 7 = .ok (.getfield 62, 3) := by decide +kernel
theorem dX11_isBell_10 : decode cX11_isBell 10 = .ok (.getfield 188, 3) := by decide +kernel
theorem dX11_isBell_13 : decode cX11_isBell 13 = .ok (.if_icmp .gt 7, 3) := by decide +kernel
theorem dX11_isBell_16 : decode cX11_isBell 16 = .ok (.iconst 1, 1) := by decide +kernel
theorem dX11_isBell_17 : decode cX11_isBell 17 = .ok (.goto 4, 3) := by decide +kernel
theorem dX11_isBell_20 : decode cX11_isBell 20 = .ok (.iconst 0, 1) := by decide +kernel
theorem dX11_isBell_21 : decode cX11_isBell 21 = .ok (.ireturn, 1) := by decide +kernel
theorem mi_X11_isBell : MI yX11_isBell cX11_isBell 2 (some FieldType.boolean) 1 := ⟨w_860, w_105, by decide +kernel, by decide +kernel, by decide +kernel⟩
set_option maxRecDepth 100000 in
set_option maxHeartbeats 4000000 in
theorem C_X11_isBell (G : GG) (l : Launch) (th : Nat) (p0 : Int32) (S : St) (Q : Int32 → Prop) (hp : P_X11_isBell th p0 S Q) : Ctr G l yX11_isBell cX11_isBell 2 (some FieldType.boolean) 0 0 0 0 [.ref th, .int p0] S (fun (v : Option Value) (S9 : St) => ∃ (r : Int32), v = some (.int r) ∧ S9 = S ∧ Q r ) := by
  generalize hQQ : (fun (v : Option Value) (S9 : St) => ∃ (r : Int32), v = some (.int r) ∧ S9 = S ∧ Q r ) = QQ
  unfold P_X11_isBell at hp
  refine Ctr.of (by decide) (Nat.le_of_ble_eq_true rfl) ?_
  intro p e s m args below meth c ls B hr hlk hin hl hH
  generalize hlocs0 : ([] : List Loc) = locs at hH ⊢
  have hx := B.1
  have hb := B.2.1
  have hl : lv_has ls 2 [(0, .ref th), (1, .int p0)] := hl
  obtain ⟨hk_th, hp⟩ := hp
  refine lv_iload_n (pc := 0) hx hb dX11_isBell_0 rfl (lv_at hl 1 rfl) ?_
  refine lv_iconst (pc := 1) (v := 1) hx hb dX11_isBell_1 (by decide) ?_
  refine lv_icmp_lt (pc := 2) (tgt := 20) hx hb dX11_isBell_2 (by decide) (fun cc_1 => ?_) (fun cc_1 => ?_)
  · have hp := hp.1 cc_1
    refine lv_iconst (pc := 20) (v := 0) hx hb dX11_isBell_20 (by decide) ?_
    exact sx_zret (pc := 21) B hH hr hlk (Or.inl rfl) (by rw [← hQQ]; exact ⟨_, rfl, rfl, hp⟩) (Nat.le_of_ble_eq_true rfl) (Nat.le_of_ble_eq_true rfl) dX11_isBell_21
  · have hp := hp.2 cc_1
    refine lv_iload_n (pc := 5) hx hb dX11_isBell_5 rfl (lv_at hl 1 rfl) ?_
    refine lv_aload_n (pc := 6) hx hb dX11_isBell_6 rfl (lv_at hl 0 rfl) ?_
    refine sx_getR (pc := 7) (j := 7) B hH hk_th coX11 rfl w_463 rfl dX11_isBell_7 ?_
    refine W.eq (g2 := F0 m 10 ls [va_rf (gR S th 7), .int p0]) rfl ?_
    obtain ⟨a_2, ha_2, hp⟩ := hp
    refine sx_nonnull (x := a_2) ha_2 ?_
    obtain ⟨hk_3, hp⟩ := hp
    refine sx_getI (pc := 10) (j := 0) B hH hk_3 coX0 rfl w_357 rfl dX11_isBell_10 ?_
    refine W.eq (g2 := F0 m 13 ls [.int (gI S a_2 0), .int p0]) rfl ?_
    refine lv_icmp_gt (pc := 13) (tgt := 20) hx hb dX11_isBell_13 (by decide) (fun cc_4 => ?_) (fun cc_4 => ?_)
    · have hp := hp.1 cc_4
      refine lv_iconst (pc := 20) (v := 0) hx hb dX11_isBell_20 (by decide) ?_
      exact sx_zret (pc := 21) B hH hr hlk (Or.inl rfl) (by rw [← hQQ]; exact ⟨_, rfl, rfl, hp⟩) (Nat.le_of_ble_eq_true rfl) (Nat.le_of_ble_eq_true rfl) dX11_isBell_21
    · have hp := hp.2 cc_4
      refine lv_iconst (pc := 16) (v := 1) hx hb dX11_isBell_16 (by decide) ?_
      refine lv_goto (pc := 17) (tgt := 21) hx hb dX11_isBell_17 (by decide) ?_
      exact sx_zret (pc := 21) B hH hr hlk (Or.inr rfl) (by rw [← hQQ]; exact ⟨_, rfl, rfl, hp⟩) (Nat.le_of_ble_eq_true rfl) (Nat.le_of_ble_eq_true rfl) dX11_isBell_21
theorem dX11_packed_0 : decode cX11_packed 0 = .ok (.iload_n 1, 1) := by decide +kernel
theorem dX11_packed_1 : decode cX11_packed 1 = .ok (.aload_n 0, 1) := by decide +kernel
theorem dX11_packed_2 : decode cX11_packed 2 = .ok (.getfield 62, 3) := by decide +kernel
theorem dX11_packed_5 : decode cX11_packed 5 = .ok (.getfield 188, 3) := by decide +kernel
theorem dX11_packed_8 : decode cX11_packed 8 = .ok (.invokestatic 372, 3) := by decide +kernel
theorem dX11_packed_11 : decode cX11_packed 11 = .ok (.ireturn, 1) := by decide +kernel
theorem mi_X11_packed : MI yX11_packed cX11_packed 2 (some FieldType.int) 1 := ⟨w_864, w_105, by decide +kernel, by decide +kernel, by decide +kernel⟩
set_option maxRecDepth 100000 in
set_option maxHeartbeats 4000000 in
theorem C_X11_packed (G : GG) (l : Launch) (th : Nat) (p0 : Int32) (S : St) (Q : Int32 → Prop) (hp : P_X11_packed th p0 S Q) : Ctr G l yX11_packed cX11_packed 2 (some FieldType.int) 2 49 0 0 [.ref th, .int p0] S (fun (v : Option Value) (S9 : St) => ∃ (r : Int32), v = some (.int r) ∧ S9 = S ∧ Q r ) := by
  generalize hQQ : (fun (v : Option Value) (S9 : St) => ∃ (r : Int32), v = some (.int r) ∧ S9 = S ∧ Q r ) = QQ
  unfold P_X11_packed at hp
  refine Ctr.of (by decide) (Nat.le_of_ble_eq_true rfl) ?_
  intro p e s m args below meth c ls B hr hlk hin hl hH
  generalize hlocs0 : ([] : List Loc) = locs at hH ⊢
  have hx := B.1
  have hb := B.2.1
  have hl : lv_has ls 2 [(0, .ref th), (1, .int p0)] := hl
  obtain ⟨hk_th, hp⟩ := hp
  refine lv_iload_n (pc := 0) hx hb dX11_packed_0 rfl (lv_at hl 1 rfl) ?_
  refine lv_aload_n (pc := 1) hx hb dX11_packed_1 rfl (lv_at hl 0 rfl) ?_
  refine sx_getR (pc := 2) (j := 7) B hH hk_th coX11 rfl w_463 rfl dX11_packed_2 ?_
  refine W.eq (g2 := F0 m 5 ls [va_rf (gR S th 7), .int p0]) rfl ?_
  obtain ⟨a_1, ha_1, hp⟩ := hp
  refine sx_nonnull (x := a_1) ha_1 ?_
  obtain ⟨hk_2, hp⟩ := hp
  refine sx_getI (pc := 5) (j := 0) B hH hk_2 coX0 rfl w_357 rfl dX11_packed_5 ?_
  refine W.eq (g2 := F0 m 8 ls [.int (gI S a_1 0), .int p0]) rfl ?_
  refine sx_S (pc := 8) (As := [.int p0, .int (gI S a_1 0)]) (rest := []) B hH hl.1 (C_X4_unrank G l p0 (gI S a_1 0) _ _ hp) mi_X4_unrank w_866 w_865 rfl rfl ⟨Nat.le_of_ble_eq_true rfl, Nat.le_of_ble_eq_true rfl⟩ (Nat.le_of_ble_eq_true rfl) ⟨Nat.le_of_ble_eq_true rfl, Nat.le_of_ble_eq_true rfl⟩ dX11_packed_8 (fun v S1 H locs hq hH => ?_)
  obtain ⟨r_3, rfl, e9, hp⟩ := hq
  rw [e9] at hH
  refine W.eq (g2 := F0 m 11 ls [.int r_3]) rfl ?_
  exact sx_iret (pc := 11) B hH hr hlk (by rw [← hQQ]; exact ⟨_, rfl, rfl, hp⟩) (Nat.le_of_ble_eq_true rfl) (Nat.le_of_ble_eq_true rfl) dX11_packed_11
theorem dX11_bell_0 : decode cX11_bell 0 = .ok (.aload_n 0, 1) := by decide +kernel
theorem dX11_bell_1 : decode cX11_bell 1 = .ok (.iload_n 1, 1) := by decide +kernel
theorem dX11_bell_2 : decode cX11_bell 2 = .ok (.invokevirtual 201, 3) := by decide +kernel
theorem dX11_bell_5 : decode cX11_bell 5 = .ok (.ifCond .eq 11, 3) := by decide +kernel
theorem dX11_bell_8 : decode cX11_bell 8 = .ok (.aload_n 0, 1) := by decide +kernel
theorem dX11_bell_9 : decode cX11_bell 9 = .ok (.iload_n 2, 1) := by decide +kernel
theorem dX11_bell_10 : decode cX11_bell 10 = .ok (.invokevirtual 204, 3) := by decide +kernel
theorem dX11_bell_13 : decode cX11_bell 13 = .ok (.ifCond .ne 9, 3) := by decide +kernel
theorem dX11_bell_16 : decode cX11_bell 16 = .ok (.aload_n 0, 1) := by decide +kernel
theorem dX11_bell_17 : decode cX11_bell 17 = .ok (.iconst 1, 1) := by decide +kernel
theorem dX11_bell_18 : decode cX11_bell 18 = .ok (.invokevirtual 139, 3) := by decide +kernel
theorem dX11_bell_21 : decode cX11_bell 21 = .ok (.ireturn, 1) := by decide +kernel
theorem dX11_bell_22 : decode cX11_bell 22 = .ok (.aload_n 0, 1) := by decide +kernel
theorem dX11_bell_23 : decode cX11_bell 23 = .ok (.aload_n 0, 1) := by decide +kernel
theorem dX11_bell_24 : decode cX11_bell 24 = .ok (.iload_n 1, 1) := by decide +kernel
theorem dX11_bell_25 : decode cX11_bell 25 = .ok (.invokevirtual 207, 3) := by decide +kernel
theorem dX11_bell_28 : decode cX11_bell 28 = .ok (.iload_n 2, 1) := by decide +kernel
theorem dX11_bell_29 : decode cX11_bell 29 = .ok (.iconst 1, 1) := by decide +kernel
theorem dX11_bell_30 : decode cX11_bell 30 = .ok (.isub, 1) := by decide +kernel
theorem dX11_bell_31 : decode cX11_bell 31 = .ok (.invokestatic 210, 3) := by decide +kernel
theorem dX11_bell_34 : decode cX11_bell 34 = .ok (.iconst 1, 1) := by decide +kernel
theorem dX11_bell_35 : decode cX11_bell 35 = .ok (.iadd, 1) := by decide +kernel
theorem dX11_bell_36 : decode cX11_bell 36 = .ok (.invokevirtual 170, 3) := by decide +kernel
theorem dX11_bell_39 : decode cX11_bell 39 = .ok (.ireturn, 1) := by decide +kernel
theorem mi_X11_bell : MI yX11_bell cX11_bell 3 (some FieldType.int) 2 := ⟨w_852, w_105, by decide +kernel, by decide +kernel, by decide +kernel⟩
set_option maxRecDepth 100000 in
set_option maxHeartbeats 4000000 in
theorem C_X11_bell (G : GG) (l : Launch) (th : Nat) (p0 : Int32) (p1 : Int32) (S : St) (Q : Int32 → (Nat → Nat → Int32) → Prop) (hp : P_X11_bell th p0 p1 S Q) : Ctr G l yX11_bell cX11_bell 3 (some FieldType.int) 3 70 0 0 [.ref th, .int p0, .int p1] S (fun (v : Option Value) (S9 : St) => ∃ (r : Int32) (I9 : Nat → Nat → Int32), v = some (.int r) ∧ S9 = wI S I9 ∧ Q r I9) := by
  generalize hQQ : (fun (v : Option Value) (S9 : St) => ∃ (r : Int32) (I9 : Nat → Nat → Int32), v = some (.int r) ∧ S9 = wI S I9 ∧ Q r I9) = QQ
  unfold P_X11_bell at hp
  refine Ctr.of (by decide) (Nat.le_of_ble_eq_true rfl) ?_
  intro p e s m args below meth c ls B hr hlk hin hl hH
  generalize hlocs0 : ([] : List Loc) = locs at hH ⊢
  have hx := B.1
  have hb := B.2.1
  have hl : lv_has ls 3 [(0, .ref th), (1, .int p0), (2, .int p1)] := hl
  obtain ⟨hk_th, hp⟩ := hp
  refine lv_aload_n (pc := 0) hx hb dX11_bell_0 rfl (lv_at hl 0 rfl) ?_
  refine lv_iload_n (pc := 1) hx hb dX11_bell_1 rfl (lv_at hl 1 rfl) ?_
  refine sx_V (pc := 2) (As := [.int p0]) (rest := []) B hH hl.1 (C_X11_isRow G l th p0 _ _ hp) mi_X11_isRow coX11 hk_th w_855 w_26 w_853 rfl rfl ⟨Nat.le_of_ble_eq_true rfl, Nat.le_of_ble_eq_true rfl⟩ (Nat.le_of_ble_eq_true rfl) ⟨Nat.le_of_ble_eq_true rfl, Nat.le_of_ble_eq_true rfl⟩ dX11_bell_2 (fun v S1 H locs hq hH => ?_)
  obtain ⟨r_1, rfl, e9, hp⟩ := hq
  rw [e9] at hH
  refine W.eq (g2 := F0 m 5 ls [.int r_1]) rfl ?_
  obtain ⟨J_3, hj_3, hp⟩ := hp
  have kj_3 : ∀  (H : Heap) (locs : List Loc) (ls : Array Slot), J_3  → Hp G (FA S s.heap.size) s.heap S H locs → lv_has ls 3 [(0, .ref th)] → Wm G p l e { frames := 3, cells := 0, slots := 0, locals := 70 } s m args below meth c S QQ 0 0 H locs 0 0 (F0 m 16 ls []) := by
    intro  H locs ls hq9 hH hl
    have hp := hj_3  hq9
    refine lv_aload_n (pc := 16) hx hb dX11_bell_16 rfl (lv_at hl 0 rfl) ?_
    refine lv_iconst (pc := 17) (v := 1) hx hb dX11_bell_17 (by decide) ?_
    refine sx_V (pc := 18) (As := [.int 1]) (rest := []) B hH hl.1 (C_X11_refuse G l th 1 _ _ hp) mi_X11_refuse coX11 hk_th w_570 w_3 w_568 rfl rfl ⟨Nat.le_of_ble_eq_true rfl, Nat.le_of_ble_eq_true rfl⟩ (Nat.le_of_ble_eq_true rfl) ⟨Nat.le_of_ble_eq_true rfl, Nat.le_of_ble_eq_true rfl⟩ dX11_bell_18 (fun v S1 H locs hq hH => ?_)
    obtain ⟨r_4, F_4, rfl, e9, hp⟩ := hq
    rw [e9] at hH
    have hH : Hp G (FA S s.heap.size) s.heap (wI S F_4) H locs := hH
    refine W.eq (g2 := F0 m 21 ls [.int r_4]) rfl ?_
    exact sx_iret (pc := 21) B hH hr hlk (by rw [← hQQ]; exact ⟨_, F_4, rfl, rfl, hp⟩) (Nat.le_of_ble_eq_true rfl) (Nat.le_of_ble_eq_true rfl) dX11_bell_21
  refine lv_if_eq (pc := 5) (tgt := 16) hx hb dX11_bell_5 (by decide) (fun cc_2 => ?_) (fun cc_2 => ?_)
  · have hp := hp.1 cc_2
    exact kj_3  _ _ _ hp hH (lv_sub hl [0] rfl)
  · have hp := hp.2 cc_2
    refine lv_aload_n (pc := 8) hx hb dX11_bell_8 rfl (lv_at hl 0 rfl) ?_
    refine lv_iload_n (pc := 9) hx hb dX11_bell_9 rfl (lv_at hl 2 rfl) ?_
    refine sx_V (pc := 10) (As := [.int p1]) (rest := []) B hH hl.1 (C_X11_isBell G l th p1 _ _ hp) mi_X11_isBell coX11 hk_th w_859 w_27 w_857 rfl rfl ⟨Nat.le_of_ble_eq_true rfl, Nat.le_of_ble_eq_true rfl⟩ (Nat.le_of_ble_eq_true rfl) ⟨Nat.le_of_ble_eq_true rfl, Nat.le_of_ble_eq_true rfl⟩ dX11_bell_10 (fun v S1 H locs hq hH => ?_)
    obtain ⟨r_5, rfl, e9, hp⟩ := hq
    rw [e9] at hH
    refine W.eq (g2 := F0 m 13 ls [.int r_5]) rfl ?_
    refine lv_if_ne (pc := 13) (tgt := 22) hx hb dX11_bell_13 (by decide) (fun cc_6 => ?_) (fun cc_6 => ?_)
    · have hp := hp.1 cc_6
      refine lv_aload_n (pc := 22) hx hb dX11_bell_22 rfl (lv_at hl 0 rfl) ?_
      refine lv_aload_n (pc := 23) hx hb dX11_bell_23 rfl (lv_at hl 0 rfl) ?_
      refine lv_iload_n (pc := 24) hx hb dX11_bell_24 rfl (lv_at hl 1 rfl) ?_
      refine sx_V (pc := 25) (As := [.int p0]) (rest := [.ref th]) B hH hl.1 (C_X11_packed G l th p0 _ _ hp) mi_X11_packed coX11 hk_th w_863 w_28 w_861 rfl rfl ⟨Nat.le_of_ble_eq_true rfl, Nat.le_of_ble_eq_true rfl⟩ (Nat.le_of_ble_eq_true rfl) ⟨Nat.le_of_ble_eq_true rfl, Nat.le_of_ble_eq_true rfl⟩ dX11_bell_25 (fun v S1 H locs hq hH => ?_)
      obtain ⟨r_7, rfl, e9, hp⟩ := hq
      rw [e9] at hH
      refine W.eq (g2 := F0 m 28 ls [.int r_7, .ref th]) rfl ?_
      refine lv_iload_n (pc := 28) hx hb dX11_bell_28 rfl (lv_at hl 2 rfl) ?_
      refine lv_iconst (pc := 29) (v := 1) hx hb dX11_bell_29 (by decide) ?_
      refine lv_isub (pc := 30) hx hb dX11_bell_30 ?_
      refine sx_S (pc := 31) (As := [.int r_7, .int (p1 - 1)]) (rest := [.ref th]) B hH hl.1 (C_X4_bellAt G l r_7 (p1 - 1) _ _ hp) mi_X4_bellAt w_873 w_872 rfl rfl ⟨Nat.le_of_ble_eq_true rfl, Nat.le_of_ble_eq_true rfl⟩ (Nat.le_of_ble_eq_true rfl) ⟨Nat.le_of_ble_eq_true rfl, Nat.le_of_ble_eq_true rfl⟩ dX11_bell_31 (fun v S1 H locs hq hH => ?_)
      obtain ⟨r_8, rfl, e9, hp⟩ := hq
      rw [e9] at hH
      refine W.eq (g2 := F0 m 34 ls [.int r_8, .ref th]) rfl ?_
      refine lv_iconst (pc := 34) (v := 1) hx hb dX11_bell_34 (by decide) ?_
      refine lv_iadd (pc := 35) hx hb dX11_bell_35 ?_
      refine sx_V (pc := 36) (As := [.int (r_8 + 1)]) (rest := []) B hH hl.1 (C_X11_answer G l th (r_8 + 1) _ _ hp) mi_X11_answer coX11 hk_th w_740 w_16 w_738 rfl rfl ⟨Nat.le_of_ble_eq_true rfl, Nat.le_of_ble_eq_true rfl⟩ (Nat.le_of_ble_eq_true rfl) ⟨Nat.le_of_ble_eq_true rfl, Nat.le_of_ble_eq_true rfl⟩ dX11_bell_36 (fun v S1 H locs hq hH => ?_)
      obtain ⟨r_9, F_9, rfl, e9, hp⟩ := hq
      rw [e9] at hH
      have hH : Hp G (FA S s.heap.size) s.heap (wI S F_9) H locs := hH
      refine W.eq (g2 := F0 m 39 ls [.int r_9]) rfl ?_
      exact sx_iret (pc := 39) B hH hr hlk (by rw [← hQQ]; exact ⟨_, F_9, rfl, rfl, hp⟩) (Nat.le_of_ble_eq_true rfl) (Nat.le_of_ble_eq_true rfl) dX11_bell_39
    · have hp := hp.2 cc_6
      exact kj_3  _ _ _ hp hH (lv_sub hl [0] rfl)
theorem dX11_whyNoBells_0 : decode cX11_whyNoBells 0 = .ok (.iload_n 1, 1) := by decide +kernel
theorem dX11_whyNoBells_1 : decode cX11_whyNoBells 1 = .ok (.invokestatic 110, 3) := by decide +kernel
theorem dX11_whyNoBells_4 : decode cX11_whyNoBells 4 = .ok (.ifCond .ne 5, 3) := by decide +kernel
theorem dX11_whyNoBells_7 : decode cX11_whyNoBells 7 = .ok (.iconst 1, 1) := by decide +kernel
theorem dX11_whyNoBells_8 : decode cX11_whyNoBells 8 = .ok (.ireturn, 1) := by decide +kernel
theorem dX11_whyNoBells_9 : decode cX11_whyNoBells 9 = .ok (.aload_n 0, 1) := by decide +kernel
theorem dX11_whyNoBells_10 : decode cX11_whyNoBells 10 = .ok (.getfield 22, 3) := by decide +kernel
theorem dX11_whyNoBells_13 : decode cX11_whyNoBells 13 = .ok (.iload_n 1, 1) := by decide +kernel
theorem dX11_whyNoBells_14 : decode cX11_whyNoBells 14 = .ok (.aaload, 1) := by decide +kernel
theorem dX11_whyNoBells_15 : decode cX11_whyNoBells 15 = .ok (.ifnonnull 5, 3) := by decide +kernel
theorem dX11_whyNoBells_18 : decode cX11_whyNoBells 18 = .ok (.iconst 2, 1) := by decide +kernel
theorem dX11_whyNoBells_19 : decode cX11_whyNoBells 19 = .ok (.ireturn, 1) := by decide +kernel
theorem dX11_whyNoBells_20 : decode cX11_whyNoBells 20 = .ok (.aload_n 0, 1) := by decide +kernel
theorem dX11_whyNoBells_21 : decode cX11_whyNoBells 21 = .ok (.getfield 22, 3) := by decide +kernel
theorem dX11_whyNoBells_24 : decode cX11_whyNoBells 24 = .ok (.iload_n 1, 1) := by decide +kernel
theorem dX11_whyNoBells_25 : decode cX11_whyNoBells 25 = .ok (.aaload, 1) := by decide +kernel
theorem dX11_whyNoBells_26 : decode cX11_whyNoBells 26 = .ok (.iconst 0, 1) := by decide +kernel
theorem dX11_whyNoBells_27 : decode cX11_whyNoBells 27 = .ok (.aload_n 0, 1) := by decide +kernel
theorem dX11_whyNoBells_28 : decode cX11_whyNoBells 28 = .ok (.getfield 62, 3) := by decide +kernel
theorem dX11_whyNoBells_31 : decode cX11_whyNoBells 31 = .ok (.getfield 188, 3) := by decide +kernel
theorem dX11_whyNoBells_34 : decode cX11_whyNoBells 34 = .ok (.invokevirtual 142, 3) := by decide +kernel
theorem dX11_whyNoBells_37 : decode cX11_whyNoBells 37 = .ok (.ifCond .ne 5, 3) := by decide +kernel
theorem dX11_whyNoBells_40 : decode cX11_whyNoBells 40 = .ok (.iconst 3, 1) := by decide +kernel
theorem dX11_whyNoBells_41 : decode cX11_whyNoBells 41 = .ok (.ireturn, 1) := by decide +kernel
theorem dX11_whyNoBells_42 : decode cX11_whyNoBells 42 = .ok (.iconst 0, 1) := by decide +kernel
theorem dX11_whyNoBells_43 : decode cX11_whyNoBells 43 = .ok (.istore_n 3, 1) := by decide +kernel
theorem dX11_whyNoBells_44 : decode cX11_whyNoBells 44 = .ok (.iload_n 3, 1) := by decide +kernel
theorem dX11_whyNoBells_45 : decode cX11_whyNoBells 45 = .ok (.aload_n 0, 1) := by decide +kernel
theorem dX11_whyNoBells_46 : decode cX11_whyNoBells 46 = .ok (.getfield 62, 3) := by decide +kernel
theorem dX11_whyNoBells_49 : decode cX11_whyNoBells 49 = .ok (.getfield 188, 3) := by decide +kernel
theorem dX11_whyNoBells_52 : decode cX11_whyNoBells 52 = .ok (.if_icmp .ge 46, 3) := by decide +kernel
theorem dX11_whyNoBells_55 : decode cX11_whyNoBells 55 = .ok (.aload_n 0, 1) := by decide +kernel
theorem dX11_whyNoBells_56 : decode cX11_whyNoBells 56 = .ok (.getfield 22, 3) := by decide +kernel
theorem dX11_whyNoBells_59 : decode cX11_whyNoBells 59 = .ok (.iload_n 1, 1) := by decide +kernel
theorem dX11_whyNoBells_60 : decode cX11_whyNoBells 60 = .ok (.aaload, 1) := by decide +kernel
theorem dX11_whyNoBells_61 : decode cX11_whyNoBells 61 = .ok (.getfield 128, 3) := by decide +kernel
theorem dX11_whyNoBells_64 : decode cX11_whyNoBells 64 = .ok (.iload_n 3, 1) := by decide +kernel
theorem dX11_whyNoBells_65 : decode cX11_whyNoBells 65 = .ok (.laload, 1) := by decide +kernel
theorem dX11_whyNoBells_66 : decode cX11_whyNoBells 66 = .ok (.lstore 4, 2) := by decide +kernel
theorem dX11_whyNoBells_68 : decode cX11_whyNoBells 68 = .ok (.lload 4, 2) := by decide +kernel
theorem dX11_whyNoBells_70 : decode cX11_whyNoBells 70 = .ok (.iload_n 2, 1) := by decide +kernel
theorem dX11_whyNoBells_71 : decode cX11_whyNoBells 71 = .ok (.i2l, 1) := by decide +kernel
theorem dX11_whyNoBells_72 : decode cX11_whyNoBells 72 = .ok (.lcmp, 1) := by decide +kernel
theorem dX11_whyNoBells_73 : decode cX11_whyNoBells 73 = .ok (.ifCond .lt 17, 3) := by decide +kernel
theorem dX11_whyNoBells_76 : decode cX11_whyNoBells 76 = .ok (.lload 4, 2) := by decide +kernel
theorem dX11_whyNoBells_78 : decode cX11_whyNoBells 78 = .ok (.aload_n 0, 1) := by decide +kernel
theorem dX11_whyNoBells_79 : decode cX11_whyNoBells 79 = .ok (.getfield 62, 3) := by decide +kernel
theorem dX11_whyNoBells_82 : decode cX11_whyNoBells 82 = .ok (.getfield 188, 3) := by decide +kernel
theorem dX11_whyNoBells_85 : decode cX11_whyNoBells 85 = .ok (.i2l, 1) := by decide +kernel
theorem dX11_whyNoBells_86 : decode cX11_whyNoBells 86 = .ok (.lcmp, 1) := by decide +kernel
theorem dX11_whyNoBells_87 : decode cX11_whyNoBells 87 = .ok (.ifCond .le 5, 3) := by decide +kernel
theorem dX11_whyNoBells_90 : decode cX11_whyNoBells 90 = .ok (.iconst 5, 1) := by decide +kernel
theorem dX11_whyNoBells_91 : decode cX11_whyNoBells 91 = .ok (.ireturn, 1) := by decide +kernel
theorem dX11_whyNoBells_92 : decode cX11_whyNoBells 92 = .ok (.iinc 3 1, 3) := by decide +kernel
theorem dX11_whyNoBells_95 : decode cX11_whyNoBells 95 = .ok (.goto (-51), 3) := by decide +kernel
theorem dX11_whyNoBells_98 : decode cX11_whyNoBells 98 = .ok (.iconst 0, 1) := by decide +kernel
theorem dX11_whyNoBells_99 : decode cX11_whyNoBells 99 = .ok (.ireturn, 1) := by decide +kernel
theorem mi_X11_whyNoBells : MI yX11_whyNoBells cX11_whyNoBells 6 (some FieldType.int) 2 := ⟨w_882, w_105, by decide +kernel, by decide +kernel, by decide +kernel⟩
set_option maxRecDepth 100000 in
set_option maxHeartbeats 4000000 in
theorem C_X11_whyNoBells (G : GG) (l : Launch) (th : Nat) (p0 : Int32) (p1 : Int32) (S : St) (Q : Int32 → Prop) (hp : P_X11_whyNoBells th p0 p1 S Q) : Ctr G l yX11_whyNoBells cX11_whyNoBells 6 (some FieldType.int) 1 22 0 0 [.ref th, .int p0, .int p1] S (fun (v : Option Value) (S9 : St) => ∃ (r : Int32), v = some (.int r) ∧ S9 = S ∧ Q r ) := by
  generalize hQQ : (fun (v : Option Value) (S9 : St) => ∃ (r : Int32), v = some (.int r) ∧ S9 = S ∧ Q r ) = QQ
  unfold P_X11_whyNoBells at hp
  refine Ctr.of (by decide) (Nat.le_of_ble_eq_true rfl) ?_
  intro p e s m args below meth c ls B hr hlk hin hl hH
  generalize hlocs0 : ([] : List Loc) = locs at hH ⊢
  have hx := B.1
  have hb := B.2.1
  have hl : lv_has ls 6 [(0, .ref th), (1, .int p0), (2, .int p1)] := hl
  obtain ⟨hk_th, hp⟩ := hp
  refine lv_iload_n (pc := 0) hx hb dX11_whyNoBells_0 rfl (lv_at hl 1 rfl) ?_
  refine sx_S (pc := 1) (As := [.int p0]) (rest := []) B hH hl.1 (C_X11_isTray G l p0 _ _ hp) mi_X11_isTray w_525 w_524 rfl rfl ⟨Nat.le_of_ble_eq_true rfl, Nat.le_of_ble_eq_true rfl⟩ (Nat.le_of_ble_eq_true rfl) ⟨Nat.le_of_ble_eq_true rfl, Nat.le_of_ble_eq_true rfl⟩ dX11_whyNoBells_1 (fun v S1 H locs hq hH => ?_)
  obtain ⟨r_1, rfl, e9, hp⟩ := hq
  rw [e9] at hH
  refine W.eq (g2 := F0 m 4 ls [.int r_1]) rfl ?_
  refine lv_if_ne (pc := 4) (tgt := 9) hx hb dX11_whyNoBells_4 (by decide) (fun cc_2 => ?_) (fun cc_2 => ?_)
  · have hp := hp.1 cc_2
    refine lv_aload_n (pc := 9) hx hb dX11_whyNoBells_9 rfl (lv_at hl 0 rfl) ?_
    refine sx_getR (pc := 10) (j := 3) B hH hk_th coX11 rfl w_459 rfl dX11_whyNoBells_10 ?_
    refine W.eq (g2 := F0 m 13 ls [va_rf (gR S th 3)]) rfl ?_
    obtain ⟨a_3, ha_3, hp⟩ := hp
    refine sx_nonnull (x := a_3) ha_3 ?_
    refine lv_iload_n (pc := 13) hx hb dX11_whyNoBells_13 rfl (lv_at hl 1 rfl) ?_
    obtain ⟨hk_4, hp⟩ := hp
    obtain ⟨hn_5, hp⟩ := hp
    refine sx_aald (pc := 14) B hH hk_4 (by decide) (by decide) hn_5 dX11_whyNoBells_14 ?_
    refine W.eq (g2 := F0 m 15 ls [va_rf (gR S a_3 p0.toNatClampNeg)]) rfl ?_
    refine sx_ifnonnull (pc := 15) (r := gR S a_3 p0.toNatClampNeg) (tgt := 20) B dX11_whyNoBells_15 (by decide) (fun cc_6 => ?_) (fun cc_6 => ?_)
    · have hp := hp.1 cc_6
      refine lv_aload_n (pc := 20) hx hb dX11_whyNoBells_20 rfl (lv_at hl 0 rfl) ?_
      refine sx_getR (pc := 21) (j := 3) B hH hk_th coX11 rfl w_459 rfl dX11_whyNoBells_21 ?_
      refine W.eq (g2 := F0 m 24 ls [va_rf (gR S th 3)]) rfl ?_
      refine sx_nonnull (x := a_3) ha_3 ?_
      refine lv_iload_n (pc := 24) hx hb dX11_whyNoBells_24 rfl (lv_at hl 1 rfl) ?_
      refine sx_aald (pc := 25) B hH hk_4 (by decide) (by decide) hn_5 dX11_whyNoBells_25 ?_
      refine W.eq (g2 := F0 m 26 ls [va_rf (gR S a_3 p0.toNatClampNeg)]) rfl ?_
      obtain ⟨a_7, ha_7, hp⟩ := hp
      refine sx_nonnull (x := a_7) ha_7 ?_
      refine lv_iconst (pc := 26) (v := 0) hx hb dX11_whyNoBells_26 (by decide) ?_
      refine lv_aload_n (pc := 27) hx hb dX11_whyNoBells_27 rfl (lv_at hl 0 rfl) ?_
      refine sx_getR (pc := 28) (j := 7) B hH hk_th coX11 rfl w_463 rfl dX11_whyNoBells_28 ?_
      refine W.eq (g2 := F0 m 31 ls [va_rf (gR S th 7), .int 0, .ref a_7]) rfl ?_
      obtain ⟨a_8, ha_8, hp⟩ := hp
      refine sx_nonnull (x := a_8) ha_8 ?_
      obtain ⟨hk_9, hp⟩ := hp
      refine sx_getI (pc := 31) (j := 0) B hH hk_9 coX0 rfl w_357 rfl dX11_whyNoBells_31 ?_
      refine W.eq (g2 := F0 m 34 ls [.int (gI S a_8 0), .int 0, .ref a_7]) rfl ?_
      obtain ⟨hk_10, hp⟩ := hp
      refine sx_V (pc := 34) (As := [.int 0, .int (gI S a_8 0)]) (rest := []) B hH hl.1 (C_X10_has G l a_7 0 (gI S a_8 0) _ _ hp) mi_X10_has coX10 hk_10 w_558 w_559 w_557 rfl rfl ⟨Nat.le_of_ble_eq_true rfl, Nat.le_of_ble_eq_true rfl⟩ (Nat.le_of_ble_eq_true rfl) ⟨Nat.le_of_ble_eq_true rfl, Nat.le_of_ble_eq_true rfl⟩ dX11_whyNoBells_34 (fun v S1 H locs hq hH => ?_)
      obtain ⟨r_11, rfl, e9, hp⟩ := hq
      rw [e9] at hH
      refine W.eq (g2 := F0 m 37 ls [.int r_11]) rfl ?_
      refine lv_if_ne (pc := 37) (tgt := 42) hx hb dX11_whyNoBells_37 (by decide) (fun cc_12 => ?_) (fun cc_12 => ?_)
      · have hp := hp.1 cc_12
        refine lv_iconst (pc := 42) (v := 0) hx hb dX11_whyNoBells_42 (by decide) ?_
        refine lv_istore_n (pc := 43) (lv' := [(3, .int 0), (0, .ref th), (1, .int p0), (2, .int p1)]) hx hb dX11_whyNoBells_43 rfl hl (by decide) rfl (fun ls hl => ?_)
        obtain ⟨I_13, ⟨k0_13, h0_13⟩, hst_13⟩ := hp
        have kl_13 : ∀ (n_13 : Nat) (x3_14 : Int32) (H : Heap) (locs : List Loc) (ls : Array Slot), I_13 n_13 x3_14 → Hp G (FA S s.heap.size) s.heap S H locs → lv_has ls 6 [(0, .ref th), (1, .int p0), (2, .int p1), (3, .int x3_14)] → Wm G p l e { frames := 1, cells := 0, slots := 0, locals := 22 } s m args below meth c S QQ 0 0 H locs 0 0 (F0 m 44 ls []) := by
          intro n_13
          induction n_13 using Nat.strongRecOn with
          | ind n_13 ih_13 =>
            intro x3_14 H locs ls hq9 hH hl
            have hp := hst_13 n_13 x3_14 hq9
            refine lv_iload_n (pc := 44) hx hb dX11_whyNoBells_44 rfl (lv_at hl 3 rfl) ?_
            refine lv_aload_n (pc := 45) hx hb dX11_whyNoBells_45 rfl (lv_at hl 0 rfl) ?_
            refine sx_getR (pc := 46) (j := 7) B hH hk_th coX11 rfl w_463 rfl dX11_whyNoBells_46 ?_
            refine W.eq (g2 := F0 m 49 ls [va_rf (gR S th 7), .int x3_14]) rfl ?_
            refine sx_nonnull (x := a_8) ha_8 ?_
            refine sx_getI (pc := 49) (j := 0) B hH hk_9 coX0 rfl w_357 rfl dX11_whyNoBells_49 ?_
            refine W.eq (g2 := F0 m 52 ls [.int (gI S a_8 0), .int x3_14]) rfl ?_
            refine lv_icmp_ge (pc := 52) (tgt := 98) hx hb dX11_whyNoBells_52 (by decide) (fun cc_15 => ?_) (fun cc_15 => ?_)
            · have hp := hp.1 cc_15
              refine lv_iconst (pc := 98) (v := 0) hx hb dX11_whyNoBells_98 (by decide) ?_
              exact sx_iret (pc := 99) B hH hr hlk (by rw [← hQQ]; exact ⟨_, rfl, rfl, hp⟩) (Nat.le_of_ble_eq_true rfl) (Nat.le_of_ble_eq_true rfl) dX11_whyNoBells_99
            · have hp := hp.2 cc_15
              refine lv_aload_n (pc := 55) hx hb dX11_whyNoBells_55 rfl (lv_at hl 0 rfl) ?_
              refine sx_getR (pc := 56) (j := 3) B hH hk_th coX11 rfl w_459 rfl dX11_whyNoBells_56 ?_
              refine W.eq (g2 := F0 m 59 ls [va_rf (gR S th 3)]) rfl ?_
              refine sx_nonnull (x := a_3) ha_3 ?_
              refine lv_iload_n (pc := 59) hx hb dX11_whyNoBells_59 rfl (lv_at hl 1 rfl) ?_
              refine sx_aald (pc := 60) B hH hk_4 (by decide) (by decide) hn_5 dX11_whyNoBells_60 ?_
              refine W.eq (g2 := F0 m 61 ls [va_rf (gR S a_3 p0.toNatClampNeg)]) rfl ?_
              refine sx_nonnull (x := a_7) ha_7 ?_
              refine sx_getR (pc := 61) (j := 1) B hH hk_10 coX10 rfl w_539 rfl dX11_whyNoBells_61 ?_
              refine W.eq (g2 := F0 m 64 ls [va_rf (gR S a_7 1)]) rfl ?_
              obtain ⟨a_16, ha_16, hp⟩ := hp
              refine sx_nonnull (x := a_16) ha_16 ?_
              refine lv_iload_n (pc := 64) hx hb dX11_whyNoBells_64 rfl (lv_at hl 3 rfl) ?_
              obtain ⟨hk_17, hp⟩ := hp
              obtain ⟨hn_18, hp⟩ := hp
              refine sx_lald (pc := 65) B hH hk_17 hn_18 dX11_whyNoBells_65 ?_
              refine W.eq (g2 := F0 m 66 ls [.long (gJ S a_16 x3_14.toNatClampNeg)]) rfl ?_
              refine lv_topl (fun v_19 ev_19 => ?_)
              have hp := hp v_19 ev_19
              refine lv_lstore (pc := 66) (lv' := [(4, .long v_19), (0, .ref th), (1, .int p0), (2, .int p1), (3, .int x3_14)]) hx hb dX11_whyNoBells_66 hl (by decide) rfl (fun ls hl => ?_)
              refine lv_lload (pc := 68) hx hb dX11_whyNoBells_68 (lv_at hl 0 rfl) ?_
              refine lv_iload_n (pc := 70) hx hb dX11_whyNoBells_70 rfl (lv_at hl 3 rfl) ?_
              refine lv_i2l (pc := 71) (v := p1.toInt64) hx hb dX11_whyNoBells_71 rfl ?_
              refine W.lcmp (pc := 72) hx hb dX11_whyNoBells_72 ?_
              refine lv_if_lt (pc := 73) (tgt := 90) hx hb dX11_whyNoBells_73 (by decide) (fun cc_20 => ?_) (fun cc_20 => ?_)
              · have hp := hp.1 cc_20
                refine lv_iconst (pc := 90) (v := 5) hx hb dX11_whyNoBells_90 (by decide) ?_
                exact sx_iret (pc := 91) B hH hr hlk (by rw [← hQQ]; exact ⟨_, rfl, rfl, hp⟩) (Nat.le_of_ble_eq_true rfl) (Nat.le_of_ble_eq_true rfl) dX11_whyNoBells_91
              · have hp := hp.2 cc_20
                refine lv_lload (pc := 76) hx hb dX11_whyNoBells_76 (lv_at hl 0 rfl) ?_
                refine lv_aload_n (pc := 78) hx hb dX11_whyNoBells_78 rfl (lv_at hl 1 rfl) ?_
                refine sx_getR (pc := 79) (j := 7) B hH hk_th coX11 rfl w_463 rfl dX11_whyNoBells_79 ?_
                refine W.eq (g2 := F0 m 82 ls [va_rf (gR S th 7), .long v_19]) rfl ?_
                refine sx_nonnull (x := a_8) ha_8 ?_
                refine sx_getI (pc := 82) (j := 0) B hH hk_9 coX0 rfl w_357 rfl dX11_whyNoBells_82 ?_
                refine W.eq (g2 := F0 m 85 ls [.int (gI S a_8 0), .long v_19]) rfl ?_
                refine lv_i2l (pc := 85) (v := (gI S a_8 0).toInt64) hx hb dX11_whyNoBells_85 rfl ?_
                refine W.lcmp (pc := 86) hx hb dX11_whyNoBells_86 ?_
                refine lv_if_le (pc := 87) (tgt := 92) hx hb dX11_whyNoBells_87 (by decide) (fun cc_21 => ?_) (fun cc_21 => ?_)
                · have hp := hp.1 cc_21
                  obtain ⟨v_22, ev_22⟩ : ∃ y : Int32, y = x3_14 + 1 := ⟨_, rfl⟩
                  have hp := hp v_22 ev_22
                  refine lv_iinc (pc := 92) (v := v_22) (lv' := [(3, .int v_22), (4, .long v_19), (0, .ref th), (1, .int p0), (2, .int p1)]) hx hb dX11_whyNoBells_92 hl (k := 4) rfl (by rw [ev_22]; rfl) (by decide) rfl (fun ls hl => ?_)
                  refine lv_goto (pc := 95) (tgt := 44) hx hb dX11_whyNoBells_95 (by decide) ?_
                  obtain ⟨k9, hlt9, hp⟩ := hp
                  exact ih_13 k9 hlt9 _ _ _ _ hp hH (lv_sub hl [2, 3, 4, 0] rfl)
                · have hp := hp.2 cc_21
                  refine lv_iconst (pc := 90) (v := 5) hx hb dX11_whyNoBells_90 (by decide) ?_
                  exact sx_iret (pc := 91) B hH hr hlk (by rw [← hQQ]; exact ⟨_, rfl, rfl, hp⟩) (Nat.le_of_ble_eq_true rfl) (Nat.le_of_ble_eq_true rfl) dX11_whyNoBells_91
        exact kl_13 k0_13 _ _ _ _ h0_13 hH (lv_sub hl [1, 2, 3, 0] rfl)
      · have hp := hp.2 cc_12
        refine lv_iconst (pc := 40) (v := 3) hx hb dX11_whyNoBells_40 (by decide) ?_
        exact sx_iret (pc := 41) B hH hr hlk (by rw [← hQQ]; exact ⟨_, rfl, rfl, hp⟩) (Nat.le_of_ble_eq_true rfl) (Nat.le_of_ble_eq_true rfl) dX11_whyNoBells_41
    · have hp := hp.2 cc_6
      refine lv_iconst (pc := 18) (v := 2) hx hb dX11_whyNoBells_18 (by decide) ?_
      exact sx_iret (pc := 19) B hH hr hlk (by rw [← hQQ]; exact ⟨_, rfl, rfl, hp⟩) (Nat.le_of_ble_eq_true rfl) (Nat.le_of_ble_eq_true rfl) dX11_whyNoBells_19
  · have hp := hp.2 cc_2
    refine lv_iconst (pc := 7) (v := 1) hx hb dX11_whyNoBells_7 (by decide) ?_
    exact sx_iret (pc := 8) B hH hr hlk (by rw [← hQQ]; exact ⟨_, rfl, rfl, hp⟩) (Nat.le_of_ble_eq_true rfl) (Nat.le_of_ble_eq_true rfl) dX11_whyNoBells_8
theorem dX11_numbered_0 : decode cX11_numbered 0 = .ok (.iload_n 1, 1) := by decide +kernel
theorem dX11_numbered_1 : decode cX11_numbered 1 = .ok (.aload_n 0, 1) := by decide +kernel
theorem dX11_numbered_2 : decode cX11_numbered 2 = .ok (.getfield 62, 3) := by decide +kernel
theorem dX11_numbered_5 : decode cX11_numbered 5 = .ok (.getfield 188, 3) := by decide +kernel
theorem dX11_numbered_8 : decode cX11_numbered 8 = .ok (.invokestatic 375, 3) := by decide +kernel
theorem dX11_numbered_11 : decode cX11_numbered 11 = .ok (.ireturn, 1) := by decide +kernel
theorem mi_X11_numbered : MI yX11_numbered cX11_numbered 2 (some FieldType.int) 1 := ⟨w_886, w_105, by decide +kernel, by decide +kernel, by decide +kernel⟩
set_option maxRecDepth 100000 in
set_option maxHeartbeats 4000000 in
theorem C_X11_numbered (G : GG) (l : Launch) (th : Nat) (p0 : Int32) (S : St) (Q : Int32 → Prop) (hp : P_X11_numbered th p0 S Q) : Ctr G l yX11_numbered cX11_numbered 2 (some FieldType.int) 1 25 0 0 [.ref th, .int p0] S (fun (v : Option Value) (S9 : St) => ∃ (r : Int32), v = some (.int r) ∧ S9 = S ∧ Q r ) := by
  generalize hQQ : (fun (v : Option Value) (S9 : St) => ∃ (r : Int32), v = some (.int r) ∧ S9 = S ∧ Q r ) = QQ
  unfold P_X11_numbered at hp
  refine Ctr.of (by decide) (Nat.le_of_ble_eq_true rfl) ?_
  intro p e s m args below meth c ls B hr hlk hin hl hH
  generalize hlocs0 : ([] : List Loc) = locs at hH ⊢
  have hx := B.1
  have hb := B.2.1
  have hl : lv_has ls 2 [(0, .ref th), (1, .int p0)] := hl
  obtain ⟨hk_th, hp⟩ := hp
  refine lv_iload_n (pc := 0) hx hb dX11_numbered_0 rfl (lv_at hl 1 rfl) ?_
  refine lv_aload_n (pc := 1) hx hb dX11_numbered_1 rfl (lv_at hl 0 rfl) ?_
  refine sx_getR (pc := 2) (j := 7) B hH hk_th coX11 rfl w_463 rfl dX11_numbered_2 ?_
  refine W.eq (g2 := F0 m 5 ls [va_rf (gR S th 7), .int p0]) rfl ?_
  obtain ⟨a_1, ha_1, hp⟩ := hp
  refine sx_nonnull (x := a_1) ha_1 ?_
  obtain ⟨hk_2, hp⟩ := hp
  refine sx_getI (pc := 5) (j := 0) B hH hk_2 coX0 rfl w_357 rfl dX11_numbered_5 ?_
  refine W.eq (g2 := F0 m 8 ls [.int (gI S a_1 0), .int p0]) rfl ?_
  refine sx_S (pc := 8) (As := [.int p0, .int (gI S a_1 0)]) (rest := []) B hH hl.1 (C_X4_rank G l p0 (gI S a_1 0) _ _ hp) mi_X4_rank w_888 w_887 rfl rfl ⟨Nat.le_of_ble_eq_true rfl, Nat.le_of_ble_eq_true rfl⟩ (Nat.le_of_ble_eq_true rfl) ⟨Nat.le_of_ble_eq_true rfl, Nat.le_of_ble_eq_true rfl⟩ dX11_numbered_8 (fun v S1 H locs hq hH => ?_)
  obtain ⟨r_3, rfl, e9, hp⟩ := hq
  rw [e9] at hH
  refine W.eq (g2 := F0 m 11 ls [.int r_3]) rfl ?_
  exact sx_iret (pc := 11) B hH hr hlk (by rw [← hQQ]; exact ⟨_, rfl, rfl, hp⟩) (Nat.le_of_ble_eq_true rfl) (Nat.le_of_ble_eq_true rfl) dX11_numbered_11
theorem dX11_number_0 : decode cX11_number 0 = .ok (.aload_n 0, 1) := by decide +kernel
theorem dX11_number_1 : decode cX11_number 1 = .ok (.iload_n 1, 1) := by decide +kernel
theorem dX11_number_2 : decode cX11_number 2 = .ok (.iconst 1, 1) := by decide +kernel
theorem dX11_number_3 : decode cX11_number 3 = .ok (.invokevirtual 213, 3) := by decide +kernel
theorem dX11_number_6 : decode cX11_number 6 = .ok (.istore_n 2, 1) := by decide +kernel
theorem dX11_number_7 : decode cX11_number 7 = .ok (.iload_n 2, 1) := by decide +kernel
theorem dX11_number_8 : decode cX11_number 8 = .ok (.ifCond .eq 9, 3) := by decide +kernel
theorem dX11_number_11 : decode cX11_number 11 = .ok (.aload_n 0, 1) := by decide +kernel
theorem dX11_number_12 : decode cX11_number 12 = .ok (.iload_n 2, 1) := by decide +kernel
theorem dX11_number_13 : decode cX11_number 13 = .ok (.invokevirtual 139, 3) := by decide +kernel
theorem dX11_number_16 : decode cX11_number 16 = .ok (.ireturn, 1) := by decide +kernel
theorem dX11_number_17 : decode cX11_number 17 = .ok (.iconst 0, 1) := by decide +kernel
theorem dX11_number_18 : decode cX11_number 18 = .ok (.istore_n 3, 1) := by decide +kernel
theorem dX11_number_19 : decode cX11_number 19 = .ok (.iconst 0, 1) := by decide +kernel
theorem dX11_number_20 : decode cX11_number 20 = .ok (.istore 4, 2) := by decide +kernel
theorem dX11_number_22 : decode cX11_number 22 = .ok (.iconst 0, 1) := by decide +kernel
theorem dX11_number_23 : decode cX11_number 23 = .ok (.istore 5, 2) := by decide +kernel
theorem dX11_number_25 : decode cX11_number 25 = .ok (.iload 5, 2) := by decide +kernel
theorem dX11_number_27 : decode cX11_number 27 = .ok (.aload_n 0, 1) := by decide +kernel
theorem dX11_number_28 : decode cX11_number 28 = .ok (.getfield 62, 3) := by decide +kernel
theorem dX11_number_31 : decode cX11_number 31 = .ok (.getfield 188, 3) := by decide +kernel
theorem dX11_number_34 : decode cX11_number 34 = .ok (.if_icmp .ge 61, 3) := by decide +kernel
theorem dX11_number_37 : decode cX11_number 37 = .ok (.aload_n 0, 1) := by decide +kernel
theorem dX11_number_38 : decode cX11_number 38 = .ok (.getfield 22, 3) := by decide +kernel
theorem dX11_number_41 : decode cX11_number 41 = .ok (.iload_n 1, 1) := by decide +kernel
theorem dX11_number_42 : decode cX11_number 42 = .ok (.aaload, 1) := by decide +kernel
theorem dX11_number_43 : decode cX11_number 43 = .ok (.getfield 128, 3) := by decide +kernel
theorem dX11_number_46 : decode cX11_number 46 = .ok (.iload 5, 2) := by decide +kernel
theorem dX11_number_48 : decode cX11_number 48 = .ok (.laload, 1) := by decide +kernel
theorem dX11_number_49 : decode cX11_number 49 = .ok (.l2i, 1) := by decide +kernel
theorem dX11_number_50 : decode cX11_number 50 = .ok (.iconst 1, 1) := by decide +kernel
theorem dX11_number_51 : decode cX11_number 51 = .ok (.isub, 1) := by decide +kernel
theorem dX11_number_52 : decode cX11_number 52 = .ok (.istore 6, 2) := by decide +kernel
theorem dX11_number_54 : decode cX11_number 54 = .ok (.iload 4, 2) := by decide +kernel
theorem dX11_number_56 : decode cX11_number 56 = .ok (.iconst 1, 1) := by decide +kernel
theorem dX11_number_57 : decode cX11_number 57 = .ok (.iload 6, 2) := by decide +kernel
theorem dX11_number_59 : decode cX11_number 59 = .ok (.ishl, 1) := by decide +kernel
theorem dX11_number_60 : decode cX11_number 60 = .ok (.iand, 1) := by decide +kernel
theorem dX11_number_61 : decode cX11_number 61 = .ok (.ifCond .eq 9, 3) := by decide +kernel
theorem dX11_number_64 : decode cX11_number 64 = .ok (.aload_n 0, 1) := by decide +kernel
theorem dX11_number_65 : decode cX11_number 65 = .ok (.iconst 5, 1) := by decide +kernel
theorem dX11_number_66 : decode cX11_number 66 = .ok (.invokevirtual 139, 3) := by decide +kernel
theorem dX11_number_69 : decode cX11_number 69 = .ok (.ireturn, 1) := by decide +kernel
theorem dX11_number_70 : decode cX11_number 70 = .ok (.iload 4, 2) := by decide +kernel
theorem dX11_number_72 : decode cX11_number 72 = .ok (.iconst 1, 1) := by decide +kernel
theorem dX11_number_73 : decode cX11_number 73 = .ok (.iload 6, 2) := by decide +kernel
theorem dX11_number_75 : decode cX11_number 75 = .ok (.ishl, 1) := by decide +kernel
theorem dX11_number_76 : decode cX11_number 76 = .ok (.ior, 1) := by decide +kernel
theorem dX11_number_77 : decode cX11_number 77 = .ok (.istore 4, 2) := by decide +kernel
theorem dX11_number_79 : decode cX11_number 79 = .ok (.iload_n 3, 1) := by decide +kernel
theorem dX11_number_80 : decode cX11_number 80 = .ok (.iload 6, 2) := by decide +kernel
theorem dX11_number_82 : decode cX11_number 82 = .ok (.iconst 4, 1) := by decide +kernel
theorem dX11_number_83 : decode cX11_number 83 = .ok (.iload 5, 2) := by decide +kernel
theorem dX11_number_85 : decode cX11_number 85 = .ok (.imul, 1) := by decide +kernel
theorem dX11_number_86 : decode cX11_number 86 = .ok (.ishl, 1) := by decide +kernel
theorem dX11_number_87 : decode cX11_number 87 = .ok (.ior, 1) := by decide +kernel
theorem dX11_number_88 : decode cX11_number 88 = .ok (.istore_n 3, 1) := by decide +kernel
theorem dX11_number_89 : decode cX11_number 89 = .ok (.iinc 5 1, 3) := by decide +kernel
theorem dX11_number_92 : decode cX11_number 92 = .ok (.goto (-67), 3) := by decide +kernel
theorem dX11_number_95 : decode cX11_number 95 = .ok (.aload_n 0, 1) := by decide +kernel
theorem dX11_number_96 : decode cX11_number 96 = .ok (.aload_n 0, 1) := by decide +kernel
theorem dX11_number_97 : decode cX11_number 97 = .ok (.iload_n 3, 1) := by decide +kernel
theorem dX11_number_98 : decode cX11_number 98 = .ok (.invokevirtual 216, 3) := by decide +kernel
theorem dX11_number_101 : decode cX11_number 101 = .ok (.invokevirtual 170, 3) := by decide +kernel
theorem dX11_number_104 : decode cX11_number 104 = .ok (.ireturn, 1) := by decide +kernel
theorem mi_X11_number : MI yX11_number cX11_number 7 (some FieldType.int) 1 := ⟨w_878, w_105, by decide +kernel, by decide +kernel, by decide +kernel⟩
set_option maxRecDepth 100000 in
set_option maxHeartbeats 4000000 in
theorem C_X11_number (G : GG) (l : Launch) (th : Nat) (p0 : Int32) (S : St) (Q : Int32 → (Nat → Nat → Int32) → Prop) (hp : P_X11_number th p0 S Q) : Ctr G l yX11_number cX11_number 7 (some FieldType.int) 2 47 0 0 [.ref th, .int p0] S (fun (v : Option Value) (S9 : St) => ∃ (r : Int32) (I9 : Nat → Nat → Int32), v = some (.int r) ∧ S9 = wI S I9 ∧ Q r I9) := by
  generalize hQQ : (fun (v : Option Value) (S9 : St) => ∃ (r : Int32) (I9 : Nat → Nat → Int32), v = some (.int r) ∧ S9 = wI S I9 ∧ Q r I9) = QQ
  unfold P_X11_number at hp
  refine Ctr.of (by decide) (Nat.le_of_ble_eq_true rfl) ?_
  intro p e s m args below meth c ls B hr hlk hin hl hH
  generalize hlocs0 : ([] : List Loc) = locs at hH ⊢
  have hx := B.1
  have hb := B.2.1
  have hl : lv_has ls 7 [(0, .ref th), (1, .int p0)] := hl
  obtain ⟨hk_th, hp⟩ := hp
  refine lv_aload_n (pc := 0) hx hb dX11_number_0 rfl (lv_at hl 0 rfl) ?_
  refine lv_iload_n (pc := 1) hx hb dX11_number_1 rfl (lv_at hl 1 rfl) ?_
  refine lv_iconst (pc := 2) (v := 1) hx hb dX11_number_2 (by decide) ?_
  refine sx_V (pc := 3) (As := [.int p0, .int 1]) (rest := []) B hH hl.1 (C_X11_whyNoBells G l th p0 1 _ _ hp) mi_X11_whyNoBells coX11 hk_th w_881 w_29 w_879 rfl rfl ⟨Nat.le_of_ble_eq_true rfl, Nat.le_of_ble_eq_true rfl⟩ (Nat.le_of_ble_eq_true rfl) ⟨Nat.le_of_ble_eq_true rfl, Nat.le_of_ble_eq_true rfl⟩ dX11_number_3 (fun v S1 H locs hq hH => ?_)
  obtain ⟨r_1, rfl, e9, hp⟩ := hq
  rw [e9] at hH
  refine W.eq (g2 := F0 m 6 ls [.int r_1]) rfl ?_
  refine lv_istore_n (pc := 6) (lv' := [(2, .int r_1), (0, .ref th), (1, .int p0)]) hx hb dX11_number_6 rfl hl (by decide) rfl (fun ls hl => ?_)
  refine lv_iload_n (pc := 7) hx hb dX11_number_7 rfl (lv_at hl 0 rfl) ?_
  refine lv_if_eq (pc := 8) (tgt := 17) hx hb dX11_number_8 (by decide) (fun cc_2 => ?_) (fun cc_2 => ?_)
  · have hp := hp.1 cc_2
    refine lv_iconst (pc := 17) (v := 0) hx hb dX11_number_17 (by decide) ?_
    refine lv_istore_n (pc := 18) (lv' := [(3, .int 0), (2, .int r_1), (0, .ref th), (1, .int p0)]) hx hb dX11_number_18 rfl hl (by decide) rfl (fun ls hl => ?_)
    refine lv_iconst (pc := 19) (v := 0) hx hb dX11_number_19 (by decide) ?_
    refine lv_istore (pc := 20) (lv' := [(4, .int 0), (3, .int 0), (2, .int r_1), (0, .ref th), (1, .int p0)]) hx hb dX11_number_20 hl (by decide) rfl (fun ls hl => ?_)
    refine lv_iconst (pc := 22) (v := 0) hx hb dX11_number_22 (by decide) ?_
    refine lv_istore (pc := 23) (lv' := [(5, .int 0), (4, .int 0), (3, .int 0), (2, .int r_1), (0, .ref th), (1, .int p0)]) hx hb dX11_number_23 hl (by decide) rfl (fun ls hl => ?_)
    obtain ⟨I_3, ⟨k0_3, h0_3⟩, hst_3⟩ := hp
    have kl_3 : ∀ (n_3 : Nat) (x3_4 : Int32) (x4_5 : Int32) (x5_6 : Int32) (H : Heap) (locs : List Loc) (ls : Array Slot), I_3 n_3 x3_4 x4_5 x5_6 → Hp G (FA S s.heap.size) s.heap S H locs → lv_has ls 7 [(0, .ref th), (1, .int p0), (3, .int x3_4), (4, .int x4_5), (5, .int x5_6)] → Wm G p l e { frames := 2, cells := 0, slots := 0, locals := 47 } s m args below meth c S QQ 0 0 H locs 0 0 (F0 m 25 ls []) := by
      intro n_3
      induction n_3 using Nat.strongRecOn with
      | ind n_3 ih_3 =>
        intro x3_4 x4_5 x5_6 H locs ls hq9 hH hl
        have hp := hst_3 n_3 x3_4 x4_5 x5_6 hq9
        refine lv_iload (pc := 25) hx hb dX11_number_25 (lv_at hl 4 rfl) ?_
        refine lv_aload_n (pc := 27) hx hb dX11_number_27 rfl (lv_at hl 0 rfl) ?_
        refine sx_getR (pc := 28) (j := 7) B hH hk_th coX11 rfl w_463 rfl dX11_number_28 ?_
        refine W.eq (g2 := F0 m 31 ls [va_rf (gR S th 7), .int x5_6]) rfl ?_
        obtain ⟨a_7, ha_7, hp⟩ := hp
        refine sx_nonnull (x := a_7) ha_7 ?_
        obtain ⟨hk_8, hp⟩ := hp
        refine sx_getI (pc := 31) (j := 0) B hH hk_8 coX0 rfl w_357 rfl dX11_number_31 ?_
        refine W.eq (g2 := F0 m 34 ls [.int (gI S a_7 0), .int x5_6]) rfl ?_
        refine lv_icmp_ge (pc := 34) (tgt := 95) hx hb dX11_number_34 (by decide) (fun cc_9 => ?_) (fun cc_9 => ?_)
        · have hp := hp.1 cc_9
          refine lv_aload_n (pc := 95) hx hb dX11_number_95 rfl (lv_at hl 0 rfl) ?_
          refine lv_aload_n (pc := 96) hx hb dX11_number_96 rfl (lv_at hl 0 rfl) ?_
          refine lv_iload_n (pc := 97) hx hb dX11_number_97 rfl (lv_at hl 2 rfl) ?_
          refine sx_V (pc := 98) (As := [.int x3_4]) (rest := [.ref th]) B hH hl.1 (C_X11_numbered G l th x3_4 _ _ hp) mi_X11_numbered coX11 hk_th w_885 w_30 w_883 rfl rfl ⟨Nat.le_of_ble_eq_true rfl, Nat.le_of_ble_eq_true rfl⟩ (Nat.le_of_ble_eq_true rfl) ⟨Nat.le_of_ble_eq_true rfl, Nat.le_of_ble_eq_true rfl⟩ dX11_number_98 (fun v S1 H locs hq hH => ?_)
          obtain ⟨r_10, rfl, e9, hp⟩ := hq
          rw [e9] at hH
          refine W.eq (g2 := F0 m 101 ls [.int r_10, .ref th]) rfl ?_
          refine sx_V (pc := 101) (As := [.int r_10]) (rest := []) B hH hl.1 (C_X11_answer G l th r_10 _ _ hp) mi_X11_answer coX11 hk_th w_740 w_16 w_738 rfl rfl ⟨Nat.le_of_ble_eq_true rfl, Nat.le_of_ble_eq_true rfl⟩ (Nat.le_of_ble_eq_true rfl) ⟨Nat.le_of_ble_eq_true rfl, Nat.le_of_ble_eq_true rfl⟩ dX11_number_101 (fun v S1 H locs hq hH => ?_)
          obtain ⟨r_11, F_11, rfl, e9, hp⟩ := hq
          rw [e9] at hH
          have hH : Hp G (FA S s.heap.size) s.heap (wI S F_11) H locs := hH
          refine W.eq (g2 := F0 m 104 ls [.int r_11]) rfl ?_
          exact sx_iret (pc := 104) B hH hr hlk (by rw [← hQQ]; exact ⟨_, F_11, rfl, rfl, hp⟩) (Nat.le_of_ble_eq_true rfl) (Nat.le_of_ble_eq_true rfl) dX11_number_104
        · have hp := hp.2 cc_9
          refine lv_aload_n (pc := 37) hx hb dX11_number_37 rfl (lv_at hl 0 rfl) ?_
          refine sx_getR (pc := 38) (j := 3) B hH hk_th coX11 rfl w_459 rfl dX11_number_38 ?_
          refine W.eq (g2 := F0 m 41 ls [va_rf (gR S th 3)]) rfl ?_
          obtain ⟨a_12, ha_12, hp⟩ := hp
          refine sx_nonnull (x := a_12) ha_12 ?_
          refine lv_iload_n (pc := 41) hx hb dX11_number_41 rfl (lv_at hl 1 rfl) ?_
          obtain ⟨hk_13, hp⟩ := hp
          obtain ⟨hn_14, hp⟩ := hp
          refine sx_aald (pc := 42) B hH hk_13 (by decide) (by decide) hn_14 dX11_number_42 ?_
          refine W.eq (g2 := F0 m 43 ls [va_rf (gR S a_12 p0.toNatClampNeg)]) rfl ?_
          obtain ⟨a_15, ha_15, hp⟩ := hp
          refine sx_nonnull (x := a_15) ha_15 ?_
          obtain ⟨hk_16, hp⟩ := hp
          refine sx_getR (pc := 43) (j := 1) B hH hk_16 coX10 rfl w_539 rfl dX11_number_43 ?_
          refine W.eq (g2 := F0 m 46 ls [va_rf (gR S a_15 1)]) rfl ?_
          obtain ⟨a_17, ha_17, hp⟩ := hp
          refine sx_nonnull (x := a_17) ha_17 ?_
          refine lv_iload (pc := 46) hx hb dX11_number_46 (lv_at hl 4 rfl) ?_
          obtain ⟨hk_18, hp⟩ := hp
          obtain ⟨hn_19, hp⟩ := hp
          refine sx_lald (pc := 48) B hH hk_18 hn_19 dX11_number_48 ?_
          refine W.eq (g2 := F0 m 49 ls [.long (gJ S a_17 x5_6.toNatClampNeg)]) rfl ?_
          refine lv_l2i (pc := 49) (v := (gJ S a_17 x5_6.toNatClampNeg).toInt32) hx hb dX11_number_49 rfl ?_
          refine lv_iconst (pc := 50) (v := 1) hx hb dX11_number_50 (by decide) ?_
          refine lv_isub (pc := 51) hx hb dX11_number_51 ?_
          refine lv_topi (fun v_20 ev_20 => ?_)
          have hp := hp v_20 ev_20
          refine lv_istore (pc := 52) (lv' := [(6, .int v_20), (0, .ref th), (1, .int p0), (3, .int x3_4), (4, .int x4_5), (5, .int x5_6)]) hx hb dX11_number_52 hl (by decide) rfl (fun ls hl => ?_)
          refine lv_iload (pc := 54) hx hb dX11_number_54 (lv_at hl 4 rfl) ?_
          refine lv_iconst (pc := 56) (v := 1) hx hb dX11_number_56 (by decide) ?_
          refine lv_iload (pc := 57) hx hb dX11_number_57 (lv_at hl 0 rfl) ?_
          refine lv_ishl (pc := 59) hx hb dX11_number_59 ?_
          refine W.eq (g2 := F0 m 60 ls [.int (shl 1 v_20), .int x4_5]) rfl ?_
          refine lv_iand (pc := 60) hx hb dX11_number_60 ?_
          refine lv_if_eq (pc := 61) (tgt := 70) hx hb dX11_number_61 (by decide) (fun cc_21 => ?_) (fun cc_21 => ?_)
          · have hp := hp.1 cc_21
            refine lv_iload (pc := 70) hx hb dX11_number_70 (lv_at hl 4 rfl) ?_
            refine lv_iconst (pc := 72) (v := 1) hx hb dX11_number_72 (by decide) ?_
            refine lv_iload (pc := 73) hx hb dX11_number_73 (lv_at hl 0 rfl) ?_
            refine lv_ishl (pc := 75) hx hb dX11_number_75 ?_
            refine W.eq (g2 := F0 m 76 ls [.int (shl 1 v_20), .int x4_5]) rfl ?_
            refine lv_ior (pc := 76) hx hb dX11_number_76 ?_
            refine lv_topi (fun v_22 ev_22 => ?_)
            have hp := hp v_22 ev_22
            refine lv_istore (pc := 77) (lv' := [(4, .int v_22), (6, .int v_20), (0, .ref th), (1, .int p0), (3, .int x3_4), (5, .int x5_6)]) hx hb dX11_number_77 hl (by decide) rfl (fun ls hl => ?_)
            refine lv_iload_n (pc := 79) hx hb dX11_number_79 rfl (lv_at hl 4 rfl) ?_
            refine lv_iload (pc := 80) hx hb dX11_number_80 (lv_at hl 1 rfl) ?_
            refine lv_iconst (pc := 82) (v := 4) hx hb dX11_number_82 (by decide) ?_
            refine lv_iload (pc := 83) hx hb dX11_number_83 (lv_at hl 5 rfl) ?_
            refine lv_imul (pc := 85) hx hb dX11_number_85 ?_
            refine lv_ishl (pc := 86) hx hb dX11_number_86 ?_
            refine W.eq (g2 := F0 m 87 ls [.int (shl v_20 (4 * x5_6)), .int x3_4]) rfl ?_
            refine lv_ior (pc := 87) hx hb dX11_number_87 ?_
            refine lv_topi (fun v_23 ev_23 => ?_)
            have hp := hp v_23 ev_23
            refine lv_istore_n (pc := 88) (lv' := [(3, .int v_23), (4, .int v_22), (6, .int v_20), (0, .ref th), (1, .int p0), (5, .int x5_6)]) hx hb dX11_number_88 rfl hl (by decide) rfl (fun ls hl => ?_)
            obtain ⟨v_24, ev_24⟩ : ∃ y : Int32, y = x5_6 + 1 := ⟨_, rfl⟩
            have hp := hp v_24 ev_24
            refine lv_iinc (pc := 89) (v := v_24) (lv' := [(5, .int v_24), (3, .int v_23), (4, .int v_22), (6, .int v_20), (0, .ref th), (1, .int p0)]) hx hb dX11_number_89 hl (k := 5) rfl (by rw [ev_24]; rfl) (by decide) rfl (fun ls hl => ?_)
            refine lv_goto (pc := 92) (tgt := 25) hx hb dX11_number_92 (by decide) ?_
            obtain ⟨k9, hlt9, hp⟩ := hp
            exact ih_3 k9 hlt9 _ _ _ _ _ _ hp hH (lv_sub hl [4, 5, 1, 2, 0] rfl)
          · have hp := hp.2 cc_21
            refine lv_aload_n (pc := 64) hx hb dX11_number_64 rfl (lv_at hl 1 rfl) ?_
            refine lv_iconst (pc := 65) (v := 5) hx hb dX11_number_65 (by decide) ?_
            refine sx_V (pc := 66) (As := [.int 5]) (rest := []) B hH hl.1 (C_X11_refuse G l th 5 _ _ hp) mi_X11_refuse coX11 hk_th w_570 w_3 w_568 rfl rfl ⟨Nat.le_of_ble_eq_true rfl, Nat.le_of_ble_eq_true rfl⟩ (Nat.le_of_ble_eq_true rfl) ⟨Nat.le_of_ble_eq_true rfl, Nat.le_of_ble_eq_true rfl⟩ dX11_number_66 (fun v S1 H locs hq hH => ?_)
            obtain ⟨r_25, F_25, rfl, e9, hp⟩ := hq
            rw [e9] at hH
            have hH : Hp G (FA S s.heap.size) s.heap (wI S F_25) H locs := hH
            refine W.eq (g2 := F0 m 69 ls [.int r_25]) rfl ?_
            exact sx_iret (pc := 69) B hH hr hlk (by rw [← hQQ]; exact ⟨_, F_25, rfl, rfl, hp⟩) (Nat.le_of_ble_eq_true rfl) (Nat.le_of_ble_eq_true rfl) dX11_number_69
    exact kl_3 k0_3 _ _ _ _ _ _ h0_3 hH (lv_sub hl [4, 5, 2, 1, 0] rfl)
  · have hp := hp.2 cc_2
    refine lv_aload_n (pc := 11) hx hb dX11_number_11 rfl (lv_at hl 1 rfl) ?_
    refine lv_iload_n (pc := 12) hx hb dX11_number_12 rfl (lv_at hl 0 rfl) ?_
    refine sx_V (pc := 13) (As := [.int r_1]) (rest := []) B hH hl.1 (C_X11_refuse G l th r_1 _ _ hp) mi_X11_refuse coX11 hk_th w_570 w_3 w_568 rfl rfl ⟨Nat.le_of_ble_eq_true rfl, Nat.le_of_ble_eq_true rfl⟩ (Nat.le_of_ble_eq_true rfl) ⟨Nat.le_of_ble_eq_true rfl, Nat.le_of_ble_eq_true rfl⟩ dX11_number_13 (fun v S1 H locs hq hH => ?_)
    obtain ⟨r_26, F_26, rfl, e9, hp⟩ := hq
    rw [e9] at hH
    have hH : Hp G (FA S s.heap.size) s.heap (wI S F_26) H locs := hH
    refine W.eq (g2 := F0 m 16 ls [.int r_26]) rfl ?_
    exact sx_iret (pc := 16) B hH hr hlk (by rw [← hQQ]; exact ⟨_, F_26, rfl, rfl, hp⟩) (Nat.le_of_ble_eq_true rfl) (Nat.le_of_ble_eq_true rfl) dX11_number_16
theorem dX11_product_0 : decode cX11_product 0 = .ok (.aload_n 0, 1) := by decide +kernel
theorem dX11_product_1 : decode cX11_product 1 = .ok (.iload_n 1, 1) := by decide +kernel
theorem dX11_product_2 : decode cX11_product 2 = .ok (.invokevirtual 201, 3) := by decide +kernel
theorem dX11_product_5 : decode cX11_product 5 = .ok (.ifCond .eq 11, 3) := by decide +kernel
theorem dX11_product_8 : decode cX11_product 8 = .ok (.aload_n 0, 1) := by decide +kernel
theorem dX11_product_9 : decode cX11_product 9 = .ok (.iload_n 2, 1) := by decide +kernel
theorem dX11_product_10 : decode cX11_product 10 = .ok (.invokevirtual 201, 3) := by decide +kernel
theorem dX11_product_13 : decode cX11_product 13 = .ok (.ifCond .ne 9, 3) := by decide +kernel
theorem dX11_product_16 : decode cX11_product 16 = .ok (.aload_n 0, 1) := by decide +kernel
theorem dX11_product_17 : decode cX11_product 17 = .ok (.iconst 1, 1) := by decide +kernel
theorem dX11_product_18 : decode cX11_product 18 = .ok (.invokevirtual 139, 3) := by decide +kernel
theorem dX11_product_21 : decode cX11_product 21 = .ok (.ireturn, 1) := by decide +kernel
theorem dX11_product_22 : decode cX11_product 22 = .ok (.aload_n 0, 1) := by decide +kernel
theorem dX11_product_23 : decode cX11_product 23 = .ok (.aload_n 0, 1) := by decide +kernel
theorem dX11_product_24 : decode cX11_product 24 = .ok (.iload_n 1, 1) := by decide +kernel
theorem dX11_product_25 : decode cX11_product 25 = .ok (.invokevirtual 207, 3) := by decide +kernel
theorem dX11_product_28 : decode cX11_product 28 = .ok (.aload_n 0, 1) := by decide +kernel
theorem dX11_product_29 : decode cX11_product 29 = .ok (.iload_n 2, 1) := by decide +kernel
theorem dX11_product_30 : decode cX11_product 30 = .ok (.invokevirtual 207, 3) := by decide +kernel
theorem dX11_product_33 : decode cX11_product 33 = .ok (.aload_n 0, 1) := by decide +kernel
theorem dX11_product_34 : decode cX11_product 34 = .ok (.getfield 62, 3) := by decide +kernel
theorem dX11_product_37 : decode cX11_product 37 = .ok (.getfield 188, 3) := by decide +kernel
theorem dX11_product_40 : decode cX11_product 40 = .ok (.invokestatic 219, 3) := by decide +kernel
theorem dX11_product_43 : decode cX11_product 43 = .ok (.invokevirtual 170, 3) := by decide +kernel
theorem dX11_product_46 : decode cX11_product 46 = .ok (.ireturn, 1) := by decide +kernel
theorem mi_X11_product : MI yX11_product cX11_product 3 (some FieldType.int) 2 := ⟨w_894, w_105, by decide +kernel, by decide +kernel, by decide +kernel⟩
set_option maxRecDepth 100000 in
set_option maxHeartbeats 4000000 in
theorem C_X11_product (G : GG) (l : Launch) (th : Nat) (p0 : Int32) (p1 : Int32) (S : St) (Q : Int32 → (Nat → Nat → Int32) → Prop) (hp : P_X11_product th p0 p1 S Q) : Ctr G l yX11_product cX11_product 3 (some FieldType.int) 3 70 0 0 [.ref th, .int p0, .int p1] S (fun (v : Option Value) (S9 : St) => ∃ (r : Int32) (I9 : Nat → Nat → Int32), v = some (.int r) ∧ S9 = wI S I9 ∧ Q r I9) := by
  generalize hQQ : (fun (v : Option Value) (S9 : St) => ∃ (r : Int32) (I9 : Nat → Nat → Int32), v = some (.int r) ∧ S9 = wI S I9 ∧ Q r I9) = QQ
  unfold P_X11_product at hp
  refine Ctr.of (by decide) (Nat.le_of_ble_eq_true rfl) ?_
  intro p e s m args below meth c ls B hr hlk hin hl hH
  generalize hlocs0 : ([] : List Loc) = locs at hH ⊢
  have hx := B.1
  have hb := B.2.1
  have hl : lv_has ls 3 [(0, .ref th), (1, .int p0), (2, .int p1)] := hl
  obtain ⟨hk_th, hp⟩ := hp
  refine lv_aload_n (pc := 0) hx hb dX11_product_0 rfl (lv_at hl 0 rfl) ?_
  refine lv_iload_n (pc := 1) hx hb dX11_product_1 rfl (lv_at hl 1 rfl) ?_
  refine sx_V (pc := 2) (As := [.int p0]) (rest := []) B hH hl.1 (C_X11_isRow G l th p0 _ _ hp) mi_X11_isRow coX11 hk_th w_855 w_26 w_853 rfl rfl ⟨Nat.le_of_ble_eq_true rfl, Nat.le_of_ble_eq_true rfl⟩ (Nat.le_of_ble_eq_true rfl) ⟨Nat.le_of_ble_eq_true rfl, Nat.le_of_ble_eq_true rfl⟩ dX11_product_2 (fun v S1 H locs hq hH => ?_)
  obtain ⟨r_1, rfl, e9, hp⟩ := hq
  rw [e9] at hH
  refine W.eq (g2 := F0 m 5 ls [.int r_1]) rfl ?_
  obtain ⟨J_3, hj_3, hp⟩ := hp
  have kj_3 : ∀  (H : Heap) (locs : List Loc) (ls : Array Slot), J_3  → Hp G (FA S s.heap.size) s.heap S H locs → lv_has ls 3 [(0, .ref th)] → Wm G p l e { frames := 3, cells := 0, slots := 0, locals := 70 } s m args below meth c S QQ 0 0 H locs 0 0 (F0 m 16 ls []) := by
    intro  H locs ls hq9 hH hl
    have hp := hj_3  hq9
    refine lv_aload_n (pc := 16) hx hb dX11_product_16 rfl (lv_at hl 0 rfl) ?_
    refine lv_iconst (pc := 17) (v := 1) hx hb dX11_product_17 (by decide) ?_
    refine sx_V (pc := 18) (As := [.int 1]) (rest := []) B hH hl.1 (C_X11_refuse G l th 1 _ _ hp) mi_X11_refuse coX11 hk_th w_570 w_3 w_568 rfl rfl ⟨Nat.le_of_ble_eq_true rfl, Nat.le_of_ble_eq_true rfl⟩ (Nat.le_of_ble_eq_true rfl) ⟨Nat.le_of_ble_eq_true rfl, Nat.le_of_ble_eq_true rfl⟩ dX11_product_18 (fun v S1 H locs hq hH => ?_)
    obtain ⟨r_4, F_4, rfl, e9, hp⟩ := hq
    rw [e9] at hH
    have hH : Hp G (FA S s.heap.size) s.heap (wI S F_4) H locs := hH
    refine W.eq (g2 := F0 m 21 ls [.int r_4]) rfl ?_
    exact sx_iret (pc := 21) B hH hr hlk (by rw [← hQQ]; exact ⟨_, F_4, rfl, rfl, hp⟩) (Nat.le_of_ble_eq_true rfl) (Nat.le_of_ble_eq_true rfl) dX11_product_21
  refine lv_if_eq (pc := 5) (tgt := 16) hx hb dX11_product_5 (by decide) (fun cc_2 => ?_) (fun cc_2 => ?_)
  · have hp := hp.1 cc_2
    exact kj_3  _ _ _ hp hH (lv_sub hl [0] rfl)
  · have hp := hp.2 cc_2
    refine lv_aload_n (pc := 8) hx hb dX11_product_8 rfl (lv_at hl 0 rfl) ?_
    refine lv_iload_n (pc := 9) hx hb dX11_product_9 rfl (lv_at hl 2 rfl) ?_
    refine sx_V (pc := 10) (As := [.int p1]) (rest := []) B hH hl.1 (C_X11_isRow G l th p1 _ _ hp) mi_X11_isRow coX11 hk_th w_855 w_26 w_853 rfl rfl ⟨Nat.le_of_ble_eq_true rfl, Nat.le_of_ble_eq_true rfl⟩ (Nat.le_of_ble_eq_true rfl) ⟨Nat.le_of_ble_eq_true rfl, Nat.le_of_ble_eq_true rfl⟩ dX11_product_10 (fun v S1 H locs hq hH => ?_)
    obtain ⟨r_5, rfl, e9, hp⟩ := hq
    rw [e9] at hH
    refine W.eq (g2 := F0 m 13 ls [.int r_5]) rfl ?_
    refine lv_if_ne (pc := 13) (tgt := 22) hx hb dX11_product_13 (by decide) (fun cc_6 => ?_) (fun cc_6 => ?_)
    · have hp := hp.1 cc_6
      refine lv_aload_n (pc := 22) hx hb dX11_product_22 rfl (lv_at hl 0 rfl) ?_
      refine lv_aload_n (pc := 23) hx hb dX11_product_23 rfl (lv_at hl 0 rfl) ?_
      refine lv_iload_n (pc := 24) hx hb dX11_product_24 rfl (lv_at hl 1 rfl) ?_
      refine sx_V (pc := 25) (As := [.int p0]) (rest := [.ref th]) B hH hl.1 (C_X11_packed G l th p0 _ _ hp) mi_X11_packed coX11 hk_th w_863 w_28 w_861 rfl rfl ⟨Nat.le_of_ble_eq_true rfl, Nat.le_of_ble_eq_true rfl⟩ (Nat.le_of_ble_eq_true rfl) ⟨Nat.le_of_ble_eq_true rfl, Nat.le_of_ble_eq_true rfl⟩ dX11_product_25 (fun v S1 H locs hq hH => ?_)
      obtain ⟨r_7, rfl, e9, hp⟩ := hq
      rw [e9] at hH
      refine W.eq (g2 := F0 m 28 ls [.int r_7, .ref th]) rfl ?_
      refine lv_aload_n (pc := 28) hx hb dX11_product_28 rfl (lv_at hl 0 rfl) ?_
      refine lv_iload_n (pc := 29) hx hb dX11_product_29 rfl (lv_at hl 2 rfl) ?_
      refine sx_V (pc := 30) (As := [.int p1]) (rest := [.int r_7, .ref th]) B hH hl.1 (C_X11_packed G l th p1 _ _ hp) mi_X11_packed coX11 hk_th w_863 w_28 w_861 rfl rfl ⟨Nat.le_of_ble_eq_true rfl, Nat.le_of_ble_eq_true rfl⟩ (Nat.le_of_ble_eq_true rfl) ⟨Nat.le_of_ble_eq_true rfl, Nat.le_of_ble_eq_true rfl⟩ dX11_product_30 (fun v S1 H locs hq hH => ?_)
      obtain ⟨r_8, rfl, e9, hp⟩ := hq
      rw [e9] at hH
      refine W.eq (g2 := F0 m 33 ls [.int r_8, .int r_7, .ref th]) rfl ?_
      refine lv_aload_n (pc := 33) hx hb dX11_product_33 rfl (lv_at hl 0 rfl) ?_
      refine sx_getR (pc := 34) (j := 7) B hH hk_th coX11 rfl w_463 rfl dX11_product_34 ?_
      refine W.eq (g2 := F0 m 37 ls [va_rf (gR S th 7), .int r_8, .int r_7, .ref th]) rfl ?_
      obtain ⟨a_9, ha_9, hp⟩ := hp
      refine sx_nonnull (x := a_9) ha_9 ?_
      obtain ⟨hk_10, hp⟩ := hp
      refine sx_getI (pc := 37) (j := 0) B hH hk_10 coX0 rfl w_357 rfl dX11_product_37 ?_
      refine W.eq (g2 := F0 m 40 ls [.int (gI S a_9 0), .int r_8, .int r_7, .ref th]) rfl ?_
      refine sx_S (pc := 40) (As := [.int r_7, .int r_8, .int (gI S a_9 0)]) (rest := [.ref th]) B hH hl.1 (C_X4_rankMultiplied G l r_7 r_8 (gI S a_9 0) _ _ hp) mi_X4_rankMultiplied w_896 w_895 rfl rfl ⟨Nat.le_of_ble_eq_true rfl, Nat.le_of_ble_eq_true rfl⟩ (Nat.le_of_ble_eq_true rfl) ⟨Nat.le_of_ble_eq_true rfl, Nat.le_of_ble_eq_true rfl⟩ dX11_product_40 (fun v S1 H locs hq hH => ?_)
      obtain ⟨r_11, rfl, e9, hp⟩ := hq
      rw [e9] at hH
      refine W.eq (g2 := F0 m 43 ls [.int r_11, .ref th]) rfl ?_
      refine sx_V (pc := 43) (As := [.int r_11]) (rest := []) B hH hl.1 (C_X11_answer G l th r_11 _ _ hp) mi_X11_answer coX11 hk_th w_740 w_16 w_738 rfl rfl ⟨Nat.le_of_ble_eq_true rfl, Nat.le_of_ble_eq_true rfl⟩ (Nat.le_of_ble_eq_true rfl) ⟨Nat.le_of_ble_eq_true rfl, Nat.le_of_ble_eq_true rfl⟩ dX11_product_43 (fun v S1 H locs hq hH => ?_)
      obtain ⟨r_12, F_12, rfl, e9, hp⟩ := hq
      rw [e9] at hH
      have hH : Hp G (FA S s.heap.size) s.heap (wI S F_12) H locs := hH
      refine W.eq (g2 := F0 m 46 ls [.int r_12]) rfl ?_
      exact sx_iret (pc := 46) B hH hr hlk (by rw [← hQQ]; exact ⟨_, F_12, rfl, rfl, hp⟩) (Nat.le_of_ble_eq_true rfl) (Nat.le_of_ble_eq_true rfl) dX11_product_46
    · have hp := hp.2 cc_6
      exact kj_3  _ _ _ hp hH (lv_sub hl [0] rfl)
theorem dX11_inverse_0 : decode cX11_inverse 0 = .ok (.aload_n 0, 1) := by decide +kernel
theorem dX11_inverse_1 : decode cX11_inverse 1 = .ok (.iload_n 1, 1) := by decide +kernel
theorem dX11_inverse_2 : decode cX11_inverse 2 = .ok (.invokevirtual 201, 3) := by decide +kernel
theorem dX11_inverse_5 : decode cX11_inverse 5 = .ok (.ifCond .ne 9, 3) := by decide +kernel
theorem dX11_inverse_8 : decode cX11_inverse 8 = .ok (.aload_n 0, 1) := by decide +kernel
theorem dX11_inverse_9 : decode cX11_inverse 9 = .ok (.iconst 1, 1) := by decide +kernel
theorem dX11_inverse_10 : decode cX11_inverse 10 = .ok (.invokevirtual 139, 3) := by decide +kernel
theorem dX11_inverse_13 : decode cX11_inverse 13 = .ok (.ireturn, 1) := by decide +kernel
theorem dX11_inverse_14 : decode cX11_inverse 14 = .ok (.aload_n 0, 1) := by decide +kernel
theorem dX11_inverse_15 : decode cX11_inverse 15 = .ok (.aload_n 0, 1) := by decide +kernel
theorem dX11_inverse_16 : decode cX11_inverse 16 = .ok (.aload_n 0, 1) := by decide +kernel
theorem dX11_inverse_17 : decode cX11_inverse 17 = .ok (.iload_n 1, 1) := by decide +kernel
theorem dX11_inverse_18 : decode cX11_inverse 18 = .ok (.invokevirtual 207, 3) := by decide +kernel
theorem dX11_inverse_21 : decode cX11_inverse 21 = .ok (.aload_n 0, 1) := by decide +kernel
theorem dX11_inverse_22 : decode cX11_inverse 22 = .ok (.getfield 62, 3) := by decide +kernel
theorem dX11_inverse_25 : decode cX11_inverse 25 = .ok (.getfield 188, 3) := by decide +kernel
theorem dX11_inverse_28 : decode cX11_inverse 28 = .ok (.invokestatic 223, 3) := by decide +kernel
theorem dX11_inverse_31 : decode cX11_inverse 31 = .ok (.invokevirtual 216, 3) := by decide +kernel
theorem dX11_inverse_34 : decode cX11_inverse 34 = .ok (.invokevirtual 170, 3) := by decide +kernel
theorem dX11_inverse_37 : decode cX11_inverse 37 = .ok (.ireturn, 1) := by decide +kernel
theorem mi_X11_inverse : MI yX11_inverse cX11_inverse 2 (some FieldType.int) 1 := ⟨w_901, w_105, by decide +kernel, by decide +kernel, by decide +kernel⟩
set_option maxRecDepth 100000 in
set_option maxHeartbeats 4000000 in
theorem C_X11_inverse (G : GG) (l : Launch) (th : Nat) (p0 : Int32) (S : St) (Q : Int32 → (Nat → Nat → Int32) → Prop) (hp : P_X11_inverse th p0 S Q) : Ctr G l yX11_inverse cX11_inverse 2 (some FieldType.int) 3 70 0 0 [.ref th, .int p0] S (fun (v : Option Value) (S9 : St) => ∃ (r : Int32) (I9 : Nat → Nat → Int32), v = some (.int r) ∧ S9 = wI S I9 ∧ Q r I9) := by
  generalize hQQ : (fun (v : Option Value) (S9 : St) => ∃ (r : Int32) (I9 : Nat → Nat → Int32), v = some (.int r) ∧ S9 = wI S I9 ∧ Q r I9) = QQ
  unfold P_X11_inverse at hp
  refine Ctr.of (by decide) (Nat.le_of_ble_eq_true rfl) ?_
  intro p e s m args below meth c ls B hr hlk hin hl hH
  generalize hlocs0 : ([] : List Loc) = locs at hH ⊢
  have hx := B.1
  have hb := B.2.1
  have hl : lv_has ls 2 [(0, .ref th), (1, .int p0)] := hl
  obtain ⟨hk_th, hp⟩ := hp
  refine lv_aload_n (pc := 0) hx hb dX11_inverse_0 rfl (lv_at hl 0 rfl) ?_
  refine lv_iload_n (pc := 1) hx hb dX11_inverse_1 rfl (lv_at hl 1 rfl) ?_
  refine sx_V (pc := 2) (As := [.int p0]) (rest := []) B hH hl.1 (C_X11_isRow G l th p0 _ _ hp) mi_X11_isRow coX11 hk_th w_855 w_26 w_853 rfl rfl ⟨Nat.le_of_ble_eq_true rfl, Nat.le_of_ble_eq_true rfl⟩ (Nat.le_of_ble_eq_true rfl) ⟨Nat.le_of_ble_eq_true rfl, Nat.le_of_ble_eq_true rfl⟩ dX11_inverse_2 (fun v S1 H locs hq hH => ?_)
  obtain ⟨r_1, rfl, e9, hp⟩ := hq
  rw [e9] at hH
  refine W.eq (g2 := F0 m 5 ls [.int r_1]) rfl ?_
  refine lv_if_ne (pc := 5) (tgt := 14) hx hb dX11_inverse_5 (by decide) (fun cc_2 => ?_) (fun cc_2 => ?_)
  · have hp := hp.1 cc_2
    refine lv_aload_n (pc := 14) hx hb dX11_inverse_14 rfl (lv_at hl 0 rfl) ?_
    refine lv_aload_n (pc := 15) hx hb dX11_inverse_15 rfl (lv_at hl 0 rfl) ?_
    refine lv_aload_n (pc := 16) hx hb dX11_inverse_16 rfl (lv_at hl 0 rfl) ?_
    refine lv_iload_n (pc := 17) hx hb dX11_inverse_17 rfl (lv_at hl 1 rfl) ?_
    refine sx_V (pc := 18) (As := [.int p0]) (rest := [.ref th, .ref th]) B hH hl.1 (C_X11_packed G l th p0 _ _ hp) mi_X11_packed coX11 hk_th w_863 w_28 w_861 rfl rfl ⟨Nat.le_of_ble_eq_true rfl, Nat.le_of_ble_eq_true rfl⟩ (Nat.le_of_ble_eq_true rfl) ⟨Nat.le_of_ble_eq_true rfl, Nat.le_of_ble_eq_true rfl⟩ dX11_inverse_18 (fun v S1 H locs hq hH => ?_)
    obtain ⟨r_3, rfl, e9, hp⟩ := hq
    rw [e9] at hH
    refine W.eq (g2 := F0 m 21 ls [.int r_3, .ref th, .ref th]) rfl ?_
    refine lv_aload_n (pc := 21) hx hb dX11_inverse_21 rfl (lv_at hl 0 rfl) ?_
    refine sx_getR (pc := 22) (j := 7) B hH hk_th coX11 rfl w_463 rfl dX11_inverse_22 ?_
    refine W.eq (g2 := F0 m 25 ls [va_rf (gR S th 7), .int r_3, .ref th, .ref th]) rfl ?_
    obtain ⟨a_4, ha_4, hp⟩ := hp
    refine sx_nonnull (x := a_4) ha_4 ?_
    obtain ⟨hk_5, hp⟩ := hp
    refine sx_getI (pc := 25) (j := 0) B hH hk_5 coX0 rfl w_357 rfl dX11_inverse_25 ?_
    refine W.eq (g2 := F0 m 28 ls [.int (gI S a_4 0), .int r_3, .ref th, .ref th]) rfl ?_
    refine sx_S (pc := 28) (As := [.int r_3, .int (gI S a_4 0)]) (rest := [.ref th, .ref th]) B hH hl.1 (C_X4_invert G l r_3 (gI S a_4 0) _ _ hp) mi_X4_invert w_903 w_902 rfl rfl ⟨Nat.le_of_ble_eq_true rfl, Nat.le_of_ble_eq_true rfl⟩ (Nat.le_of_ble_eq_true rfl) ⟨Nat.le_of_ble_eq_true rfl, Nat.le_of_ble_eq_true rfl⟩ dX11_inverse_28 (fun v S1 H locs hq hH => ?_)
    obtain ⟨r_6, rfl, e9, hp⟩ := hq
    rw [e9] at hH
    refine W.eq (g2 := F0 m 31 ls [.int r_6, .ref th, .ref th]) rfl ?_
    refine sx_V (pc := 31) (As := [.int r_6]) (rest := [.ref th]) B hH hl.1 (C_X11_numbered G l th r_6 _ _ hp) mi_X11_numbered coX11 hk_th w_885 w_30 w_883 rfl rfl ⟨Nat.le_of_ble_eq_true rfl, Nat.le_of_ble_eq_true rfl⟩ (Nat.le_of_ble_eq_true rfl) ⟨Nat.le_of_ble_eq_true rfl, Nat.le_of_ble_eq_true rfl⟩ dX11_inverse_31 (fun v S1 H locs hq hH => ?_)
    obtain ⟨r_7, rfl, e9, hp⟩ := hq
    rw [e9] at hH
    refine W.eq (g2 := F0 m 34 ls [.int r_7, .ref th]) rfl ?_
    refine sx_V (pc := 34) (As := [.int r_7]) (rest := []) B hH hl.1 (C_X11_answer G l th r_7 _ _ hp) mi_X11_answer coX11 hk_th w_740 w_16 w_738 rfl rfl ⟨Nat.le_of_ble_eq_true rfl, Nat.le_of_ble_eq_true rfl⟩ (Nat.le_of_ble_eq_true rfl) ⟨Nat.le_of_ble_eq_true rfl, Nat.le_of_ble_eq_true rfl⟩ dX11_inverse_34 (fun v S1 H locs hq hH => ?_)
    obtain ⟨r_8, F_8, rfl, e9, hp⟩ := hq
    rw [e9] at hH
    have hH : Hp G (FA S s.heap.size) s.heap (wI S F_8) H locs := hH
    refine W.eq (g2 := F0 m 37 ls [.int r_8]) rfl ?_
    exact sx_iret (pc := 37) B hH hr hlk (by rw [← hQQ]; exact ⟨_, F_8, rfl, rfl, hp⟩) (Nat.le_of_ble_eq_true rfl) (Nat.le_of_ble_eq_true rfl) dX11_inverse_37
  · have hp := hp.2 cc_2
    refine lv_aload_n (pc := 8) hx hb dX11_inverse_8 rfl (lv_at hl 0 rfl) ?_
    refine lv_iconst (pc := 9) (v := 1) hx hb dX11_inverse_9 (by decide) ?_
    refine sx_V (pc := 10) (As := [.int 1]) (rest := []) B hH hl.1 (C_X11_refuse G l th 1 _ _ hp) mi_X11_refuse coX11 hk_th w_570 w_3 w_568 rfl rfl ⟨Nat.le_of_ble_eq_true rfl, Nat.le_of_ble_eq_true rfl⟩ (Nat.le_of_ble_eq_true rfl) ⟨Nat.le_of_ble_eq_true rfl, Nat.le_of_ble_eq_true rfl⟩ dX11_inverse_10 (fun v S1 H locs hq hH => ?_)
    obtain ⟨r_9, F_9, rfl, e9, hp⟩ := hq
    rw [e9] at hH
    have hH : Hp G (FA S s.heap.size) s.heap (wI S F_9) H locs := hH
    refine W.eq (g2 := F0 m 13 ls [.int r_9]) rfl ?_
    exact sx_iret (pc := 13) B hH hr hlk (by rw [← hQQ]; exact ⟨_, F_9, rfl, rfl, hp⟩) (Nat.le_of_ble_eq_true rfl) (Nat.le_of_ble_eq_true rfl) dX11_inverse_13
theorem dX11_order_0 : decode cX11_order 0 = .ok (.aload_n 0, 1) := by decide +kernel
theorem dX11_order_1 : decode cX11_order 1 = .ok (.iload_n 1, 1) := by decide +kernel
theorem dX11_order_2 : decode cX11_order 2 = .ok (.invokevirtual 201, 3) := by decide +kernel
theorem dX11_order_5 : decode cX11_order 5 = .ok (.ifCond .ne 9, 3) := by decide +kernel
theorem dX11_order_8 : decode cX11_order 8 = .ok (.aload_n 0, 1) := by decide +kernel
theorem dX11_order_9 : decode cX11_order 9 = .ok (.iconst 1, 1) := by decide +kernel
theorem dX11_order_10 : decode cX11_order 10 = .ok (.invokevirtual 139, 3) := by decide +kernel
theorem dX11_order_13 : decode cX11_order 13 = .ok (.ireturn, 1) := by decide +kernel
theorem dX11_order_14 : decode cX11_order 14 = .ok (.aload_n 0, 1) := by decide +kernel
theorem dX11_order_15 : decode cX11_order 15 = .ok (.aload_n 0, 1) := by decide +kernel
theorem dX11_order_16 : decode cX11_order 16 = .ok (.iload_n 1, 1) := by decide +kernel
theorem dX11_order_17 : decode cX11_order 17 = .ok (.invokevirtual 207, 3) := by decide +kernel
theorem dX11_order_20 : decode cX11_order 20 = .ok (.aload_n 0, 1) := by decide +kernel
theorem dX11_order_21 : decode cX11_order 21 = .ok (.getfield 62, 3) := by decide +kernel
theorem dX11_order_24 : decode cX11_order 24 = .ok (.getfield 188, 3) := by decide +kernel
theorem dX11_order_27 : decode cX11_order 27 = .ok (.invokestatic 226, 3) := by decide +kernel
theorem dX11_order_30 : decode cX11_order 30 = .ok (.invokevirtual 170, 3) := by decide +kernel
theorem dX11_order_33 : decode cX11_order 33 = .ok (.ireturn, 1) := by decide +kernel
theorem mi_X11_order : MI yX11_order cX11_order 2 (some FieldType.int) 1 := ⟨w_908, w_105, by decide +kernel, by decide +kernel, by decide +kernel⟩
set_option maxRecDepth 100000 in
set_option maxHeartbeats 4000000 in
theorem C_X11_order (G : GG) (l : Launch) (th : Nat) (p0 : Int32) (S : St) (Q : Int32 → (Nat → Nat → Int32) → Prop) (hp : P_X11_order th p0 S Q) : Ctr G l yX11_order cX11_order 2 (some FieldType.int) 3 70 0 0 [.ref th, .int p0] S (fun (v : Option Value) (S9 : St) => ∃ (r : Int32) (I9 : Nat → Nat → Int32), v = some (.int r) ∧ S9 = wI S I9 ∧ Q r I9) := by
  generalize hQQ : (fun (v : Option Value) (S9 : St) => ∃ (r : Int32) (I9 : Nat → Nat → Int32), v = some (.int r) ∧ S9 = wI S I9 ∧ Q r I9) = QQ
  unfold P_X11_order at hp
  refine Ctr.of (by decide) (Nat.le_of_ble_eq_true rfl) ?_
  intro p e s m args below meth c ls B hr hlk hin hl hH
  generalize hlocs0 : ([] : List Loc) = locs at hH ⊢
  have hx := B.1
  have hb := B.2.1
  have hl : lv_has ls 2 [(0, .ref th), (1, .int p0)] := hl
  obtain ⟨hk_th, hp⟩ := hp
  refine lv_aload_n (pc := 0) hx hb dX11_order_0 rfl (lv_at hl 0 rfl) ?_
  refine lv_iload_n (pc := 1) hx hb dX11_order_1 rfl (lv_at hl 1 rfl) ?_
  refine sx_V (pc := 2) (As := [.int p0]) (rest := []) B hH hl.1 (C_X11_isRow G l th p0 _ _ hp) mi_X11_isRow coX11 hk_th w_855 w_26 w_853 rfl rfl ⟨Nat.le_of_ble_eq_true rfl, Nat.le_of_ble_eq_true rfl⟩ (Nat.le_of_ble_eq_true rfl) ⟨Nat.le_of_ble_eq_true rfl, Nat.le_of_ble_eq_true rfl⟩ dX11_order_2 (fun v S1 H locs hq hH => ?_)
  obtain ⟨r_1, rfl, e9, hp⟩ := hq
  rw [e9] at hH
  refine W.eq (g2 := F0 m 5 ls [.int r_1]) rfl ?_
  refine lv_if_ne (pc := 5) (tgt := 14) hx hb dX11_order_5 (by decide) (fun cc_2 => ?_) (fun cc_2 => ?_)
  · have hp := hp.1 cc_2
    refine lv_aload_n (pc := 14) hx hb dX11_order_14 rfl (lv_at hl 0 rfl) ?_
    refine lv_aload_n (pc := 15) hx hb dX11_order_15 rfl (lv_at hl 0 rfl) ?_
    refine lv_iload_n (pc := 16) hx hb dX11_order_16 rfl (lv_at hl 1 rfl) ?_
    refine sx_V (pc := 17) (As := [.int p0]) (rest := [.ref th]) B hH hl.1 (C_X11_packed G l th p0 _ _ hp) mi_X11_packed coX11 hk_th w_863 w_28 w_861 rfl rfl ⟨Nat.le_of_ble_eq_true rfl, Nat.le_of_ble_eq_true rfl⟩ (Nat.le_of_ble_eq_true rfl) ⟨Nat.le_of_ble_eq_true rfl, Nat.le_of_ble_eq_true rfl⟩ dX11_order_17 (fun v S1 H locs hq hH => ?_)
    obtain ⟨r_3, rfl, e9, hp⟩ := hq
    rw [e9] at hH
    refine W.eq (g2 := F0 m 20 ls [.int r_3, .ref th]) rfl ?_
    refine lv_aload_n (pc := 20) hx hb dX11_order_20 rfl (lv_at hl 0 rfl) ?_
    refine sx_getR (pc := 21) (j := 7) B hH hk_th coX11 rfl w_463 rfl dX11_order_21 ?_
    refine W.eq (g2 := F0 m 24 ls [va_rf (gR S th 7), .int r_3, .ref th]) rfl ?_
    obtain ⟨a_4, ha_4, hp⟩ := hp
    refine sx_nonnull (x := a_4) ha_4 ?_
    obtain ⟨hk_5, hp⟩ := hp
    refine sx_getI (pc := 24) (j := 0) B hH hk_5 coX0 rfl w_357 rfl dX11_order_24 ?_
    refine W.eq (g2 := F0 m 27 ls [.int (gI S a_4 0), .int r_3, .ref th]) rfl ?_
    refine sx_S (pc := 27) (As := [.int r_3, .int (gI S a_4 0)]) (rest := [.ref th]) B hH hl.1 (C_X4_orderOf G l r_3 (gI S a_4 0) _ _ hp) mi_X4_orderOf w_910 w_909 rfl rfl ⟨Nat.le_of_ble_eq_true rfl, Nat.le_of_ble_eq_true rfl⟩ (Nat.le_of_ble_eq_true rfl) ⟨Nat.le_of_ble_eq_true rfl, Nat.le_of_ble_eq_true rfl⟩ dX11_order_27 (fun v S1 H locs hq hH => ?_)
    obtain ⟨r_6, rfl, e9, hp⟩ := hq
    rw [e9] at hH
    refine W.eq (g2 := F0 m 30 ls [.int r_6, .ref th]) rfl ?_
    refine sx_V (pc := 30) (As := [.int r_6]) (rest := []) B hH hl.1 (C_X11_answer G l th r_6 _ _ hp) mi_X11_answer coX11 hk_th w_740 w_16 w_738 rfl rfl ⟨Nat.le_of_ble_eq_true rfl, Nat.le_of_ble_eq_true rfl⟩ (Nat.le_of_ble_eq_true rfl) ⟨Nat.le_of_ble_eq_true rfl, Nat.le_of_ble_eq_true rfl⟩ dX11_order_30 (fun v S1 H locs hq hH => ?_)
    obtain ⟨r_7, F_7, rfl, e9, hp⟩ := hq
    rw [e9] at hH
    have hH : Hp G (FA S s.heap.size) s.heap (wI S F_7) H locs := hH
    refine W.eq (g2 := F0 m 33 ls [.int r_7]) rfl ?_
    exact sx_iret (pc := 33) B hH hr hlk (by rw [← hQQ]; exact ⟨_, F_7, rfl, rfl, hp⟩) (Nat.le_of_ble_eq_true rfl) (Nat.le_of_ble_eq_true rfl) dX11_order_33
  · have hp := hp.2 cc_2
    refine lv_aload_n (pc := 8) hx hb dX11_order_8 rfl (lv_at hl 0 rfl) ?_
    refine lv_iconst (pc := 9) (v := 1) hx hb dX11_order_9 (by decide) ?_
    refine sx_V (pc := 10) (As := [.int 1]) (rest := []) B hH hl.1 (C_X11_refuse G l th 1 _ _ hp) mi_X11_refuse coX11 hk_th w_570 w_3 w_568 rfl rfl ⟨Nat.le_of_ble_eq_true rfl, Nat.le_of_ble_eq_true rfl⟩ (Nat.le_of_ble_eq_true rfl) ⟨Nat.le_of_ble_eq_true rfl, Nat.le_of_ble_eq_true rfl⟩ dX11_order_10 (fun v S1 H locs hq hH => ?_)
    obtain ⟨r_8, F_8, rfl, e9, hp⟩ := hq
    rw [e9] at hH
    have hH : Hp G (FA S s.heap.size) s.heap (wI S F_8) H locs := hH
    refine W.eq (g2 := F0 m 13 ls [.int r_8]) rfl ?_
    exact sx_iret (pc := 13) B hH hr hlk (by rw [← hQQ]; exact ⟨_, F_8, rfl, rfl, hp⟩) (Nat.le_of_ble_eq_true rfl) (Nat.le_of_ble_eq_true rfl) dX11_order_13
theorem dX11_even_0 : decode cX11_even 0 = .ok (.aload_n 0, 1) := by decide +kernel
theorem dX11_even_1 : decode cX11_even 1 = .ok (.iload_n 1, 1) := by decide +kernel
theorem dX11_even_2 : decode cX11_even 2 = .ok (.invokevirtual 201, 3) := by decide +kernel
theorem dX11_even_5 : decode cX11_even 5 = .ok (.ifCond .ne 9, 3) := by decide +kernel
theorem dX11_even_8 : decode cX11_even 8 = .ok (.aload_n 0, 1) := by decide +kernel
theorem dX11_even_9 : decode cX11_even 9 = .ok (.iconst 1, 1) := by decide +kernel
theorem dX11_even_10 : decode cX11_even 10 = .ok (.invokevirtual 139, 3) := by decide +kernel
theorem dX11_even_13 : decode cX11_even 13 = .ok (.ireturn, 1) := by decide +kernel
theorem dX11_even_14 : decode cX11_even 14 = .ok (.aload_n 0, 1) := by decide +kernel
theorem dX11_even_15 : decode cX11_even 15 = .ok (.aload_n 0, 1) := by decide +kernel
theorem dX11_even_16 : decode cX11_even 16 = .ok (.iload_n 1, 1) := by decide +kernel
theorem dX11_even_17 : decode cX11_even 17 = .ok (.invokevirtual 207, 3) := by decide +kernel
theorem dX11_even_20 : decode cX11_even 20 = .ok (.aload_n 0, 1) := by decide +kernel
theorem dX11_even_21 : decode cX11_even 21 = .ok (.getfield 62, 3) := by decide +kernel
theorem dX11_even_24 : decode cX11_even 24 = .ok (.getfield 188, 3) := by decide +kernel
theorem dX11_even_27 : decode cX11_even 27 = .ok (.invokestatic 229, 3) := by decide +kernel
theorem dX11_even_30 : decode cX11_even 30 = .ok (.ifCond .eq 7, 3) := by decide +kernel
theorem dX11_even_33 : decode cX11_even 33 = .ok (.iconst 1, 1) := by decide +kernel
theorem dX11_even_34 : decode cX11_even 34 = .ok (.goto 4, 3) := by decide +kernel
theorem dX11_even_37 : decode cX11_even 37 = .ok (.iconst 0, 1) := by decide +kernel
theorem dX11_even_38 : decode cX11_even 38 = .ok (.invokevirtual 170, 3) := by decide +kernel
theorem dX11_even_41 : decode cX11_even 41 = .ok (.ireturn, 1) := by decide +kernel
theorem mi_X11_even : MI yX11_even cX11_even 2 (some FieldType.int) 1 := ⟨w_919, w_105, by decide +kernel, by decide +kernel, by decide +kernel⟩
set_option maxRecDepth 100000 in
set_option maxHeartbeats 4000000 in
theorem C_X11_even (G : GG) (l : Launch) (th : Nat) (p0 : Int32) (S : St) (Q : Int32 → (Nat → Nat → Int32) → Prop) (hp : P_X11_even th p0 S Q) : Ctr G l yX11_even cX11_even 2 (some FieldType.int) 3 70 0 0 [.ref th, .int p0] S (fun (v : Option Value) (S9 : St) => ∃ (r : Int32) (I9 : Nat → Nat → Int32), v = some (.int r) ∧ S9 = wI S I9 ∧ Q r I9) := by
  generalize hQQ : (fun (v : Option Value) (S9 : St) => ∃ (r : Int32) (I9 : Nat → Nat → Int32), v = some (.int r) ∧ S9 = wI S I9 ∧ Q r I9) = QQ
  unfold P_X11_even at hp
  refine Ctr.of (by decide) (Nat.le_of_ble_eq_true rfl) ?_
  intro p e s m args below meth c ls B hr hlk hin hl hH
  generalize hlocs0 : ([] : List Loc) = locs at hH ⊢
  have hx := B.1
  have hb := B.2.1
  have hl : lv_has ls 2 [(0, .ref th), (1, .int p0)] := hl
  obtain ⟨hk_th, hp⟩ := hp
  refine lv_aload_n (pc := 0) hx hb dX11_even_0 rfl (lv_at hl 0 rfl) ?_
  refine lv_iload_n (pc := 1) hx hb dX11_even_1 rfl (lv_at hl 1 rfl) ?_
  refine sx_V (pc := 2) (As := [.int p0]) (rest := []) B hH hl.1 (C_X11_isRow G l th p0 _ _ hp) mi_X11_isRow coX11 hk_th w_855 w_26 w_853 rfl rfl ⟨Nat.le_of_ble_eq_true rfl, Nat.le_of_ble_eq_true rfl⟩ (Nat.le_of_ble_eq_true rfl) ⟨Nat.le_of_ble_eq_true rfl, Nat.le_of_ble_eq_true rfl⟩ dX11_even_2 (fun v S1 H locs hq hH => ?_)
  obtain ⟨r_1, rfl, e9, hp⟩ := hq
  rw [e9] at hH
  refine W.eq (g2 := F0 m 5 ls [.int r_1]) rfl ?_
  refine lv_if_ne (pc := 5) (tgt := 14) hx hb dX11_even_5 (by decide) (fun cc_2 => ?_) (fun cc_2 => ?_)
  · have hp := hp.1 cc_2
    refine lv_aload_n (pc := 14) hx hb dX11_even_14 rfl (lv_at hl 0 rfl) ?_
    refine lv_aload_n (pc := 15) hx hb dX11_even_15 rfl (lv_at hl 0 rfl) ?_
    refine lv_iload_n (pc := 16) hx hb dX11_even_16 rfl (lv_at hl 1 rfl) ?_
    refine sx_V (pc := 17) (As := [.int p0]) (rest := [.ref th]) B hH hl.1 (C_X11_packed G l th p0 _ _ hp) mi_X11_packed coX11 hk_th w_863 w_28 w_861 rfl rfl ⟨Nat.le_of_ble_eq_true rfl, Nat.le_of_ble_eq_true rfl⟩ (Nat.le_of_ble_eq_true rfl) ⟨Nat.le_of_ble_eq_true rfl, Nat.le_of_ble_eq_true rfl⟩ dX11_even_17 (fun v S1 H locs hq hH => ?_)
    obtain ⟨r_3, rfl, e9, hp⟩ := hq
    rw [e9] at hH
    refine W.eq (g2 := F0 m 20 ls [.int r_3, .ref th]) rfl ?_
    refine lv_aload_n (pc := 20) hx hb dX11_even_20 rfl (lv_at hl 0 rfl) ?_
    refine sx_getR (pc := 21) (j := 7) B hH hk_th coX11 rfl w_463 rfl dX11_even_21 ?_
    refine W.eq (g2 := F0 m 24 ls [va_rf (gR S th 7), .int r_3, .ref th]) rfl ?_
    obtain ⟨a_4, ha_4, hp⟩ := hp
    refine sx_nonnull (x := a_4) ha_4 ?_
    obtain ⟨hk_5, hp⟩ := hp
    refine sx_getI (pc := 24) (j := 0) B hH hk_5 coX0 rfl w_357 rfl dX11_even_24 ?_
    refine W.eq (g2 := F0 m 27 ls [.int (gI S a_4 0), .int r_3, .ref th]) rfl ?_
    refine sx_S (pc := 27) (As := [.int r_3, .int (gI S a_4 0)]) (rest := [.ref th]) B hH hl.1 (C_X4_isEven G l r_3 (gI S a_4 0) _ _ hp) mi_X4_isEven w_921 w_920 rfl rfl ⟨Nat.le_of_ble_eq_true rfl, Nat.le_of_ble_eq_true rfl⟩ (Nat.le_of_ble_eq_true rfl) ⟨Nat.le_of_ble_eq_true rfl, Nat.le_of_ble_eq_true rfl⟩ dX11_even_27 (fun v S1 H locs hq hH => ?_)
    obtain ⟨r_6, rfl, e9, hp⟩ := hq
    rw [e9] at hH
    refine W.eq (g2 := F0 m 30 ls [.int r_6, .ref th]) rfl ?_
    obtain ⟨J_8, hj_8, hp⟩ := hp
    have kj_8 : ∀ (t_9 : Int32) (H : Heap) (locs : List Loc) (ls : Array Slot), J_8 t_9 → Hp G (FA S s.heap.size) s.heap S H locs → lv_has ls 2 [] → Wm G p l e { frames := 3, cells := 0, slots := 0, locals := 70 } s m args below meth c S QQ 0 0 H locs 0 0 (F0 m 38 ls [.int t_9, .ref th]) := by
      intro t_9 H locs ls hq9 hH hl
      have hp := hj_8 t_9 hq9
      refine sx_V (pc := 38) (As := [.int t_9]) (rest := []) B hH hl.1 (C_X11_answer G l th t_9 _ _ hp) mi_X11_answer coX11 hk_th w_740 w_16 w_738 rfl rfl ⟨Nat.le_of_ble_eq_true rfl, Nat.le_of_ble_eq_true rfl⟩ (Nat.le_of_ble_eq_true rfl) ⟨Nat.le_of_ble_eq_true rfl, Nat.le_of_ble_eq_true rfl⟩ dX11_even_38 (fun v S1 H locs hq hH => ?_)
      obtain ⟨r_10, F_10, rfl, e9, hp⟩ := hq
      rw [e9] at hH
      have hH : Hp G (FA S s.heap.size) s.heap (wI S F_10) H locs := hH
      refine W.eq (g2 := F0 m 41 ls [.int r_10]) rfl ?_
      exact sx_iret (pc := 41) B hH hr hlk (by rw [← hQQ]; exact ⟨_, F_10, rfl, rfl, hp⟩) (Nat.le_of_ble_eq_true rfl) (Nat.le_of_ble_eq_true rfl) dX11_even_41
    refine lv_if_eq (pc := 30) (tgt := 37) hx hb dX11_even_30 (by decide) (fun cc_7 => ?_) (fun cc_7 => ?_)
    · have hp := hp.1 cc_7
      refine lv_iconst (pc := 37) (v := 0) hx hb dX11_even_37 (by decide) ?_
      exact kj_8 _ _ _ _ hp hH (lv_sub hl [] rfl)
    · have hp := hp.2 cc_7
      refine lv_iconst (pc := 33) (v := 1) hx hb dX11_even_33 (by decide) ?_
      refine lv_goto (pc := 34) (tgt := 38) hx hb dX11_even_34 (by decide) ?_
      exact kj_8 _ _ _ _ hp hH (lv_sub hl [] rfl)
  · have hp := hp.2 cc_2
    refine lv_aload_n (pc := 8) hx hb dX11_even_8 rfl (lv_at hl 0 rfl) ?_
    refine lv_iconst (pc := 9) (v := 1) hx hb dX11_even_9 (by decide) ?_
    refine sx_V (pc := 10) (As := [.int 1]) (rest := []) B hH hl.1 (C_X11_refuse G l th 1 _ _ hp) mi_X11_refuse coX11 hk_th w_570 w_3 w_568 rfl rfl ⟨Nat.le_of_ble_eq_true rfl, Nat.le_of_ble_eq_true rfl⟩ (Nat.le_of_ble_eq_true rfl) ⟨Nat.le_of_ble_eq_true rfl, Nat.le_of_ble_eq_true rfl⟩ dX11_even_10 (fun v S1 H locs hq hH => ?_)
    obtain ⟨r_11, F_11, rfl, e9, hp⟩ := hq
    rw [e9] at hH
    have hH : Hp G (FA S s.heap.size) s.heap (wI S F_11) H locs := hH
    refine W.eq (g2 := F0 m 13 ls [.int r_11]) rfl ?_
    exact sx_iret (pc := 13) B hH hr hlk (by rw [← hQQ]; exact ⟨_, F_11, rfl, rfl, hp⟩) (Nat.le_of_ble_eq_true rfl) (Nat.le_of_ble_eq_true rfl) dX11_even_13
theorem dX11_done_0 : decode cX11_done 0 = .ok (.aload_n 0, 1) := by decide +kernel
theorem dX11_done_1 : decode cX11_done 1 = .ok (.iload_n 1, 1) := by decide +kernel
theorem dX11_done_2 : decode cX11_done 2 = .ok (.invokevirtual 201, 3) := by decide +kernel
theorem dX11_done_5 : decode cX11_done 5 = .ok (.ifCond .ne 9, 3) := by decide +kernel
theorem dX11_done_8 : decode cX11_done 8 = .ok (.aload_n 0, 1) := by decide +kernel
theorem dX11_done_9 : decode cX11_done 9 = .ok (.iconst 1, 1) := by decide +kernel
theorem dX11_done_10 : decode cX11_done 10 = .ok (.invokevirtual 139, 3) := by decide +kernel
theorem dX11_done_13 : decode cX11_done 13 = .ok (.ireturn, 1) := by decide +kernel
theorem dX11_done_14 : decode cX11_done 14 = .ok (.iload_n 2, 1) := by decide +kernel
theorem dX11_done_15 : decode cX11_done 15 = .ok (.aload_n 0, 1) := by decide +kernel
theorem dX11_done_16 : decode cX11_done 16 = .ok (.getfield 62, 3) := by decide +kernel
theorem dX11_done_19 : decode cX11_done 19 = .ok (.getfield 188, 3) := by decide +kernel
theorem dX11_done_22 : decode cX11_done 22 = .ok (.invokestatic 232, 3) := by decide +kernel
theorem dX11_done_25 : decode cX11_done 25 = .ok (.istore_n 3, 1) := by decide +kernel
theorem dX11_done_26 : decode cX11_done 26 = .ok (.iload_n 3, 1) := by decide +kernel
theorem dX11_done_27 : decode cX11_done 27 = .ok (.iconst (-1), 1) := by decide +kernel
theorem dX11_done_28 : decode cX11_done 28 = .ok (.if_icmp .ne 10, 3) := by decide +kernel
theorem dX11_done_31 : decode cX11_done 31 = .ok (.aload_n 0, 1) := by decide +kernel
theorem dX11_done_32 : decode cX11_done 32 = .ok (.bipush 7, 2) := by decide +kernel
theorem dX11_done_34 : decode cX11_done 34 = .ok (.invokevirtual 139, 3) := by decide +kernel
theorem dX11_done_37 : decode cX11_done 37 = .ok (.ireturn, 1) := by decide +kernel
theorem dX11_done_38 : decode cX11_done 38 = .ok (.aload_n 0, 1) := by decide +kernel
theorem dX11_done_39 : decode cX11_done 39 = .ok (.aload_n 0, 1) := by decide +kernel
theorem dX11_done_40 : decode cX11_done 40 = .ok (.aload_n 0, 1) := by decide +kernel
theorem dX11_done_41 : decode cX11_done 41 = .ok (.iload_n 1, 1) := by decide +kernel
theorem dX11_done_42 : decode cX11_done 42 = .ok (.invokevirtual 207, 3) := by decide +kernel
theorem dX11_done_45 : decode cX11_done 45 = .ok (.iload_n 3, 1) := by decide +kernel
theorem dX11_done_46 : decode cX11_done 46 = .ok (.invokestatic 235, 3) := by decide +kernel
theorem dX11_done_49 : decode cX11_done 49 = .ok (.invokevirtual 216, 3) := by decide +kernel
theorem dX11_done_52 : decode cX11_done 52 = .ok (.invokevirtual 170, 3) := by decide +kernel
theorem dX11_done_55 : decode cX11_done 55 = .ok (.ireturn, 1) := by decide +kernel
theorem mi_X11_done : MI yX11_done cX11_done 4 (some FieldType.int) 2 := ⟨w_929, w_105, by decide +kernel, by decide +kernel, by decide +kernel⟩
set_option maxRecDepth 100000 in
set_option maxHeartbeats 4000000 in
theorem C_X11_done (G : GG) (l : Launch) (th : Nat) (p0 : Int32) (p1 : Int32) (S : St) (Q : Int32 → (Nat → Nat → Int32) → Prop) (hp : P_X11_done th p0 p1 S Q) : Ctr G l yX11_done cX11_done 4 (some FieldType.int) 3 70 0 0 [.ref th, .int p0, .int p1] S (fun (v : Option Value) (S9 : St) => ∃ (r : Int32) (I9 : Nat → Nat → Int32), v = some (.int r) ∧ S9 = wI S I9 ∧ Q r I9) := by
  generalize hQQ : (fun (v : Option Value) (S9 : St) => ∃ (r : Int32) (I9 : Nat → Nat → Int32), v = some (.int r) ∧ S9 = wI S I9 ∧ Q r I9) = QQ
  unfold P_X11_done at hp
  refine Ctr.of (by decide) (Nat.le_of_ble_eq_true rfl) ?_
  intro p e s m args below meth c ls B hr hlk hin hl hH
  generalize hlocs0 : ([] : List Loc) = locs at hH ⊢
  have hx := B.1
  have hb := B.2.1
  have hl : lv_has ls 4 [(0, .ref th), (1, .int p0), (2, .int p1)] := hl
  obtain ⟨hk_th, hp⟩ := hp
  refine lv_aload_n (pc := 0) hx hb dX11_done_0 rfl (lv_at hl 0 rfl) ?_
  refine lv_iload_n (pc := 1) hx hb dX11_done_1 rfl (lv_at hl 1 rfl) ?_
  refine sx_V (pc := 2) (As := [.int p0]) (rest := []) B hH hl.1 (C_X11_isRow G l th p0 _ _ hp) mi_X11_isRow coX11 hk_th w_855 w_26 w_853 rfl rfl ⟨Nat.le_of_ble_eq_true rfl, Nat.le_of_ble_eq_true rfl⟩ (Nat.le_of_ble_eq_true rfl) ⟨Nat.le_of_ble_eq_true rfl, Nat.le_of_ble_eq_true rfl⟩ dX11_done_2 (fun v S1 H locs hq hH => ?_)
  obtain ⟨r_1, rfl, e9, hp⟩ := hq
  rw [e9] at hH
  refine W.eq (g2 := F0 m 5 ls [.int r_1]) rfl ?_
  refine lv_if_ne (pc := 5) (tgt := 14) hx hb dX11_done_5 (by decide) (fun cc_2 => ?_) (fun cc_2 => ?_)
  · have hp := hp.1 cc_2
    refine lv_iload_n (pc := 14) hx hb dX11_done_14 rfl (lv_at hl 2 rfl) ?_
    refine lv_aload_n (pc := 15) hx hb dX11_done_15 rfl (lv_at hl 0 rfl) ?_
    refine sx_getR (pc := 16) (j := 7) B hH hk_th coX11 rfl w_463 rfl dX11_done_16 ?_
    refine W.eq (g2 := F0 m 19 ls [va_rf (gR S th 7), .int p1]) rfl ?_
    obtain ⟨a_3, ha_3, hp⟩ := hp
    refine sx_nonnull (x := a_3) ha_3 ?_
    obtain ⟨hk_4, hp⟩ := hp
    refine sx_getI (pc := 19) (j := 0) B hH hk_4 coX0 rfl w_357 rfl dX11_done_19 ?_
    refine W.eq (g2 := F0 m 22 ls [.int (gI S a_3 0), .int p1]) rfl ?_
    refine sx_S (pc := 22) (As := [.int p1, .int (gI S a_3 0)]) (rest := []) B hH hl.1 (C_X4_moveOf G l p1 (gI S a_3 0) _ _ hp) mi_X4_moveOf w_662 w_930 rfl rfl ⟨Nat.le_of_ble_eq_true rfl, Nat.le_of_ble_eq_true rfl⟩ (Nat.le_of_ble_eq_true rfl) ⟨Nat.le_of_ble_eq_true rfl, Nat.le_of_ble_eq_true rfl⟩ dX11_done_22 (fun v S1 H locs hq hH => ?_)
    obtain ⟨r_5, rfl, e9, hp⟩ := hq
    rw [e9] at hH
    refine W.eq (g2 := F0 m 25 ls [.int r_5]) rfl ?_
    refine lv_istore_n (pc := 25) (lv' := [(3, .int r_5), (0, .ref th), (1, .int p0), (2, .int p1)]) hx hb dX11_done_25 rfl hl (by decide) rfl (fun ls hl => ?_)
    refine lv_iload_n (pc := 26) hx hb dX11_done_26 rfl (lv_at hl 0 rfl) ?_
    refine lv_iconst (pc := 27) (v := (-1)) hx hb dX11_done_27 (by decide) ?_
    refine lv_icmp_ne (pc := 28) (tgt := 38) hx hb dX11_done_28 (by decide) (fun cc_6 => ?_) (fun cc_6 => ?_)
    · have hp := hp.1 cc_6
      refine lv_aload_n (pc := 38) hx hb dX11_done_38 rfl (lv_at hl 1 rfl) ?_
      refine lv_aload_n (pc := 39) hx hb dX11_done_39 rfl (lv_at hl 1 rfl) ?_
      refine lv_aload_n (pc := 40) hx hb dX11_done_40 rfl (lv_at hl 1 rfl) ?_
      refine lv_iload_n (pc := 41) hx hb dX11_done_41 rfl (lv_at hl 2 rfl) ?_
      refine sx_V (pc := 42) (As := [.int p0]) (rest := [.ref th, .ref th]) B hH hl.1 (C_X11_packed G l th p0 _ _ hp) mi_X11_packed coX11 hk_th w_863 w_28 w_861 rfl rfl ⟨Nat.le_of_ble_eq_true rfl, Nat.le_of_ble_eq_true rfl⟩ (Nat.le_of_ble_eq_true rfl) ⟨Nat.le_of_ble_eq_true rfl, Nat.le_of_ble_eq_true rfl⟩ dX11_done_42 (fun v S1 H locs hq hH => ?_)
      obtain ⟨r_7, rfl, e9, hp⟩ := hq
      rw [e9] at hH
      refine W.eq (g2 := F0 m 45 ls [.int r_7, .ref th, .ref th]) rfl ?_
      refine lv_iload_n (pc := 45) hx hb dX11_done_45 rfl (lv_at hl 0 rfl) ?_
      refine sx_S (pc := 46) (As := [.int r_7, .int r_5]) (rest := [.ref th, .ref th]) B hH hl.1 (C_X4_moved G l r_7 r_5 _ _ hp) mi_X4_moved w_710 w_931 rfl rfl ⟨Nat.le_of_ble_eq_true rfl, Nat.le_of_ble_eq_true rfl⟩ (Nat.le_of_ble_eq_true rfl) ⟨Nat.le_of_ble_eq_true rfl, Nat.le_of_ble_eq_true rfl⟩ dX11_done_46 (fun v S1 H locs hq hH => ?_)
      obtain ⟨r_8, rfl, e9, hp⟩ := hq
      rw [e9] at hH
      refine W.eq (g2 := F0 m 49 ls [.int r_8, .ref th, .ref th]) rfl ?_
      refine sx_V (pc := 49) (As := [.int r_8]) (rest := [.ref th]) B hH hl.1 (C_X11_numbered G l th r_8 _ _ hp) mi_X11_numbered coX11 hk_th w_885 w_30 w_883 rfl rfl ⟨Nat.le_of_ble_eq_true rfl, Nat.le_of_ble_eq_true rfl⟩ (Nat.le_of_ble_eq_true rfl) ⟨Nat.le_of_ble_eq_true rfl, Nat.le_of_ble_eq_true rfl⟩ dX11_done_49 (fun v S1 H locs hq hH => ?_)
      obtain ⟨r_9, rfl, e9, hp⟩ := hq
      rw [e9] at hH
      refine W.eq (g2 := F0 m 52 ls [.int r_9, .ref th]) rfl ?_
      refine sx_V (pc := 52) (As := [.int r_9]) (rest := []) B hH hl.1 (C_X11_answer G l th r_9 _ _ hp) mi_X11_answer coX11 hk_th w_740 w_16 w_738 rfl rfl ⟨Nat.le_of_ble_eq_true rfl, Nat.le_of_ble_eq_true rfl⟩ (Nat.le_of_ble_eq_true rfl) ⟨Nat.le_of_ble_eq_true rfl, Nat.le_of_ble_eq_true rfl⟩ dX11_done_52 (fun v S1 H locs hq hH => ?_)
      obtain ⟨r_10, F_10, rfl, e9, hp⟩ := hq
      rw [e9] at hH
      have hH : Hp G (FA S s.heap.size) s.heap (wI S F_10) H locs := hH
      refine W.eq (g2 := F0 m 55 ls [.int r_10]) rfl ?_
      exact sx_iret (pc := 55) B hH hr hlk (by rw [← hQQ]; exact ⟨_, F_10, rfl, rfl, hp⟩) (Nat.le_of_ble_eq_true rfl) (Nat.le_of_ble_eq_true rfl) dX11_done_55
    · have hp := hp.2 cc_6
      refine lv_aload_n (pc := 31) hx hb dX11_done_31 rfl (lv_at hl 1 rfl) ?_
      refine lv_bipush (pc := 32) (v := 7) hx hb dX11_done_32 (by decide) ?_
      refine sx_V (pc := 34) (As := [.int 7]) (rest := []) B hH hl.1 (C_X11_refuse G l th 7 _ _ hp) mi_X11_refuse coX11 hk_th w_570 w_3 w_568 rfl rfl ⟨Nat.le_of_ble_eq_true rfl, Nat.le_of_ble_eq_true rfl⟩ (Nat.le_of_ble_eq_true rfl) ⟨Nat.le_of_ble_eq_true rfl, Nat.le_of_ble_eq_true rfl⟩ dX11_done_34 (fun v S1 H locs hq hH => ?_)
      obtain ⟨r_11, F_11, rfl, e9, hp⟩ := hq
      rw [e9] at hH
      have hH : Hp G (FA S s.heap.size) s.heap (wI S F_11) H locs := hH
      refine W.eq (g2 := F0 m 37 ls [.int r_11]) rfl ?_
      exact sx_iret (pc := 37) B hH hr hlk (by rw [← hQQ]; exact ⟨_, F_11, rfl, rfl, hp⟩) (Nat.le_of_ble_eq_true rfl) (Nat.le_of_ble_eq_true rfl) dX11_done_37
  · have hp := hp.2 cc_2
    refine lv_aload_n (pc := 8) hx hb dX11_done_8 rfl (lv_at hl 0 rfl) ?_
    refine lv_iconst (pc := 9) (v := 1) hx hb dX11_done_9 (by decide) ?_
    refine sx_V (pc := 10) (As := [.int 1]) (rest := []) B hH hl.1 (C_X11_refuse G l th 1 _ _ hp) mi_X11_refuse coX11 hk_th w_570 w_3 w_568 rfl rfl ⟨Nat.le_of_ble_eq_true rfl, Nat.le_of_ble_eq_true rfl⟩ (Nat.le_of_ble_eq_true rfl) ⟨Nat.le_of_ble_eq_true rfl, Nat.le_of_ble_eq_true rfl⟩ dX11_done_10 (fun v S1 H locs hq hH => ?_)
    obtain ⟨r_12, F_12, rfl, e9, hp⟩ := hq
    rw [e9] at hH
    have hH : Hp G (FA S s.heap.size) s.heap (wI S F_12) H locs := hH
    refine W.eq (g2 := F0 m 13 ls [.int r_12]) rfl ?_
    exact sx_iret (pc := 13) B hH hr hlk (by rw [← hQQ]; exact ⟨_, F_12, rfl, rfl, hp⟩) (Nat.le_of_ble_eq_true rfl) (Nat.le_of_ble_eq_true rfl) dX11_done_13
theorem dX11_power_0 : decode cX11_power 0 = .ok (.aload_n 0, 1) := by decide +kernel
theorem dX11_power_1 : decode cX11_power 1 = .ok (.iload_n 1, 1) := by decide +kernel
theorem dX11_power_2 : decode cX11_power 2 = .ok (.invokevirtual 201, 3) := by decide +kernel
theorem dX11_power_5 : decode cX11_power 5 = .ok (.ifCond .eq 13, 3) := by decide +kernel
theorem dX11_power_8 : decode cX11_power 8 = .ok (.iload_n 2, 1) := by decide +kernel
theorem dX11_power_9 : decode cX11_power 9 = .ok (.ifCond .lt 9, 3) := by decide +kernel
theorem dX11_power_12 : decode cX11_power 12 = .ok (.iload_n 2, 1) := by decide +kernel
theorem dX11_power_13 : decode cX11_power 13 = .ok (.bipush 99, 2) := by decide +kernel
theorem dX11_power_15 : decode cX11_power 15 = .ok (.if_icmp .le 9, 3) := by decide +kernel
theorem dX11_power_18 : decode cX11_power 18 = .ok (.aload_n 0, 1) := by decide +kernel
theorem dX11_power_19 : decode cX11_power 19 = .ok (.iconst 1, 1) := by decide +kernel
theorem dX11_power_20 : decode cX11_power 20 = .ok (.invokevirtual 139, 3) := by decide +kernel
theorem dX11_power_23 : decode cX11_power 23 = .ok (.ireturn, 1) := by decide +kernel
theorem dX11_power_24 : decode cX11_power 24 = .ok (.aload_n 0, 1) := by decide +kernel
theorem dX11_power_25 : decode cX11_power 25 = .ok (.iload_n 1, 1) := by decide +kernel
theorem dX11_power_26 : decode cX11_power 26 = .ok (.invokevirtual 207, 3) := by decide +kernel
theorem dX11_power_29 : decode cX11_power 29 = .ok (.istore_n 3, 1) := by decide +kernel
theorem dX11_power_30 : decode cX11_power 30 = .ok (.aload_n 0, 1) := by decide +kernel
theorem dX11_power_31 : decode cX11_power 31 = .ok (.getfield 62, 3) := by decide +kernel
theorem dX11_power_34 : decode cX11_power 34 = .ok (.getfield 188, 3) := by decide +kernel
theorem dX11_power_37 : decode cX11_power 37 = .ok (.invokestatic 238, 3) := by decide +kernel
theorem dX11_power_40 : decode cX11_power 40 = .ok (.istore 4, 2) := by decide +kernel
theorem dX11_power_42 : decode cX11_power 42 = .ok (.iconst 0, 1) := by decide +kernel
theorem dX11_power_43 : decode cX11_power 43 = .ok (.istore 5, 2) := by decide +kernel
theorem dX11_power_45 : decode cX11_power 45 = .ok (.iload 5, 2) := by decide +kernel
theorem dX11_power_47 : decode cX11_power 47 = .ok (.iload_n 2, 1) := by decide +kernel
theorem dX11_power_48 : decode cX11_power 48 = .ok (.if_icmp .ge 24, 3) := by decide +kernel
theorem dX11_power_51 : decode cX11_power 51 = .ok (.iload 4, 2) := by decide +kernel
theorem dX11_power_53 : decode cX11_power 53 = .ok (.iload_n 3, 1) := by decide +kernel
theorem dX11_power_54 : decode cX11_power 54 = .ok (.aload_n 0, 1) := by decide +kernel
theorem dX11_power_55 : decode cX11_power 55 = .ok (.getfield 62, 3) := by decide +kernel
theorem dX11_power_58 : decode cX11_power 58 = .ok (.getfield 188, 3) := by decide +kernel
theorem dX11_power_61 : decode cX11_power 61 = .ok (.invokestatic 241, 3) := by decide +kernel
theorem dX11_power_64 : decode cX11_power 64 = .ok (.istore 4, 2) := by decide +kernel
theorem dX11_power_66 : decode cX11_power 66 = .ok (.iinc 5 1, 3) := by decide +kernel
theorem dX11_power_69 : decode cX11_power 69 = .ok (.goto (-24), 3) := by decide +kernel
theorem dX11_power_72 : decode cX11_power 72 = .ok (.aload_n 0, 1) := by decide +kernel
theorem dX11_power_73 : decode cX11_power 73 = .ok (.aload_n 0, 1) := by decide +kernel
theorem dX11_power_74 : decode cX11_power 74 = .ok (.iload 4, 2) := by decide +kernel
theorem dX11_power_76 : decode cX11_power 76 = .ok (.invokevirtual 216, 3) := by decide +kernel
theorem dX11_power_79 : decode cX11_power 79 = .ok (.invokevirtual 170, 3) := by decide +kernel
theorem dX11_power_82 : decode cX11_power 82 = .ok (.ireturn, 1) := by decide +kernel
theorem mi_X11_power : MI yX11_power cX11_power 6 (some FieldType.int) 2 := ⟨w_935, w_105, by decide +kernel, by decide +kernel, by decide +kernel⟩
set_option maxRecDepth 100000 in
set_option maxHeartbeats 4000000 in
theorem C_X11_power (G : GG) (l : Launch) (th : Nat) (p0 : Int32) (p1 : Int32) (S : St) (Q : Int32 → (Nat → Nat → Int32) → Prop) (hp : P_X11_power th p0 p1 S Q) : Ctr G l yX11_power cX11_power 6 (some FieldType.int) 3 70 0 0 [.ref th, .int p0, .int p1] S (fun (v : Option Value) (S9 : St) => ∃ (r : Int32) (I9 : Nat → Nat → Int32), v = some (.int r) ∧ S9 = wI S I9 ∧ Q r I9) := by
  generalize hQQ : (fun (v : Option Value) (S9 : St) => ∃ (r : Int32) (I9 : Nat → Nat → Int32), v = some (.int r) ∧ S9 = wI S I9 ∧ Q r I9) = QQ
  unfold P_X11_power at hp
  refine Ctr.of (by decide) (Nat.le_of_ble_eq_true rfl) ?_
  intro p e s m args below meth c ls B hr hlk hin hl hH
  generalize hlocs0 : ([] : List Loc) = locs at hH ⊢
  have hx := B.1
  have hb := B.2.1
  have hl : lv_has ls 6 [(0, .ref th), (1, .int p0), (2, .int p1)] := hl
  obtain ⟨hk_th, hp⟩ := hp
  refine lv_aload_n (pc := 0) hx hb dX11_power_0 rfl (lv_at hl 0 rfl) ?_
  refine lv_iload_n (pc := 1) hx hb dX11_power_1 rfl (lv_at hl 1 rfl) ?_
  refine sx_V (pc := 2) (As := [.int p0]) (rest := []) B hH hl.1 (C_X11_isRow G l th p0 _ _ hp) mi_X11_isRow coX11 hk_th w_855 w_26 w_853 rfl rfl ⟨Nat.le_of_ble_eq_true rfl, Nat.le_of_ble_eq_true rfl⟩ (Nat.le_of_ble_eq_true rfl) ⟨Nat.le_of_ble_eq_true rfl, Nat.le_of_ble_eq_true rfl⟩ dX11_power_2 (fun v S1 H locs hq hH => ?_)
  obtain ⟨r_1, rfl, e9, hp⟩ := hq
  rw [e9] at hH
  refine W.eq (g2 := F0 m 5 ls [.int r_1]) rfl ?_
  obtain ⟨J_3, hj_3, hp⟩ := hp
  have kj_3 : ∀  (H : Heap) (locs : List Loc) (ls : Array Slot), J_3  → Hp G (FA S s.heap.size) s.heap S H locs → lv_has ls 6 [(0, .ref th)] → Wm G p l e { frames := 3, cells := 0, slots := 0, locals := 70 } s m args below meth c S QQ 0 0 H locs 0 0 (F0 m 18 ls []) := by
    intro  H locs ls hq9 hH hl
    have hp := hj_3  hq9
    refine lv_aload_n (pc := 18) hx hb dX11_power_18 rfl (lv_at hl 0 rfl) ?_
    refine lv_iconst (pc := 19) (v := 1) hx hb dX11_power_19 (by decide) ?_
    refine sx_V (pc := 20) (As := [.int 1]) (rest := []) B hH hl.1 (C_X11_refuse G l th 1 _ _ hp) mi_X11_refuse coX11 hk_th w_570 w_3 w_568 rfl rfl ⟨Nat.le_of_ble_eq_true rfl, Nat.le_of_ble_eq_true rfl⟩ (Nat.le_of_ble_eq_true rfl) ⟨Nat.le_of_ble_eq_true rfl, Nat.le_of_ble_eq_true rfl⟩ dX11_power_20 (fun v S1 H locs hq hH => ?_)
    obtain ⟨r_4, F_4, rfl, e9, hp⟩ := hq
    rw [e9] at hH
    have hH : Hp G (FA S s.heap.size) s.heap (wI S F_4) H locs := hH
    refine W.eq (g2 := F0 m 23 ls [.int r_4]) rfl ?_
    exact sx_iret (pc := 23) B hH hr hlk (by rw [← hQQ]; exact ⟨_, F_4, rfl, rfl, hp⟩) (Nat.le_of_ble_eq_true rfl) (Nat.le_of_ble_eq_true rfl) dX11_power_23
  refine lv_if_eq (pc := 5) (tgt := 18) hx hb dX11_power_5 (by decide) (fun cc_2 => ?_) (fun cc_2 => ?_)
  · have hp := hp.1 cc_2
    exact kj_3  _ _ _ hp hH (lv_sub hl [0] rfl)
  · have hp := hp.2 cc_2
    refine lv_iload_n (pc := 8) hx hb dX11_power_8 rfl (lv_at hl 2 rfl) ?_
    refine lv_if_lt (pc := 9) (tgt := 18) hx hb dX11_power_9 (by decide) (fun cc_5 => ?_) (fun cc_5 => ?_)
    · have hp := hp.1 cc_5
      exact kj_3  _ _ _ hp hH (lv_sub hl [0] rfl)
    · have hp := hp.2 cc_5
      refine lv_iload_n (pc := 12) hx hb dX11_power_12 rfl (lv_at hl 2 rfl) ?_
      refine lv_bipush (pc := 13) (v := 99) hx hb dX11_power_13 (by decide) ?_
      refine lv_icmp_le (pc := 15) (tgt := 24) hx hb dX11_power_15 (by decide) (fun cc_6 => ?_) (fun cc_6 => ?_)
      · have hp := hp.1 cc_6
        refine lv_aload_n (pc := 24) hx hb dX11_power_24 rfl (lv_at hl 0 rfl) ?_
        refine lv_iload_n (pc := 25) hx hb dX11_power_25 rfl (lv_at hl 1 rfl) ?_
        refine sx_V (pc := 26) (As := [.int p0]) (rest := []) B hH hl.1 (C_X11_packed G l th p0 _ _ hp) mi_X11_packed coX11 hk_th w_863 w_28 w_861 rfl rfl ⟨Nat.le_of_ble_eq_true rfl, Nat.le_of_ble_eq_true rfl⟩ (Nat.le_of_ble_eq_true rfl) ⟨Nat.le_of_ble_eq_true rfl, Nat.le_of_ble_eq_true rfl⟩ dX11_power_26 (fun v S1 H locs hq hH => ?_)
        obtain ⟨r_7, rfl, e9, hp⟩ := hq
        rw [e9] at hH
        refine W.eq (g2 := F0 m 29 ls [.int r_7]) rfl ?_
        refine lv_istore_n (pc := 29) (lv' := [(3, .int r_7), (0, .ref th), (1, .int p0), (2, .int p1)]) hx hb dX11_power_29 rfl hl (by decide) rfl (fun ls hl => ?_)
        refine lv_aload_n (pc := 30) hx hb dX11_power_30 rfl (lv_at hl 1 rfl) ?_
        refine sx_getR (pc := 31) (j := 7) B hH hk_th coX11 rfl w_463 rfl dX11_power_31 ?_
        refine W.eq (g2 := F0 m 34 ls [va_rf (gR S th 7)]) rfl ?_
        obtain ⟨a_8, ha_8, hp⟩ := hp
        refine sx_nonnull (x := a_8) ha_8 ?_
        obtain ⟨hk_9, hp⟩ := hp
        refine sx_getI (pc := 34) (j := 0) B hH hk_9 coX0 rfl w_357 rfl dX11_power_34 ?_
        refine W.eq (g2 := F0 m 37 ls [.int (gI S a_8 0)]) rfl ?_
        refine sx_S (pc := 37) (As := [.int (gI S a_8 0)]) (rest := []) B hH hl.1 (C_X4_roundsOf G l (gI S a_8 0) _ _ hp) mi_X4_roundsOf w_706 w_936 rfl rfl ⟨Nat.le_of_ble_eq_true rfl, Nat.le_of_ble_eq_true rfl⟩ (Nat.le_of_ble_eq_true rfl) ⟨Nat.le_of_ble_eq_true rfl, Nat.le_of_ble_eq_true rfl⟩ dX11_power_37 (fun v S1 H locs hq hH => ?_)
        obtain ⟨r_10, rfl, e9, hp⟩ := hq
        rw [e9] at hH
        refine W.eq (g2 := F0 m 40 ls [.int r_10]) rfl ?_
        refine lv_istore (pc := 40) (lv' := [(4, .int r_10), (3, .int r_7), (0, .ref th), (1, .int p0), (2, .int p1)]) hx hb dX11_power_40 hl (by decide) rfl (fun ls hl => ?_)
        refine lv_iconst (pc := 42) (v := 0) hx hb dX11_power_42 (by decide) ?_
        refine lv_istore (pc := 43) (lv' := [(5, .int 0), (4, .int r_10), (3, .int r_7), (0, .ref th), (1, .int p0), (2, .int p1)]) hx hb dX11_power_43 hl (by decide) rfl (fun ls hl => ?_)
        obtain ⟨I_11, ⟨k0_11, h0_11⟩, hst_11⟩ := hp
        have kl_11 : ∀ (n_11 : Nat) (x4_12 : Int32) (x5_13 : Int32) (H : Heap) (locs : List Loc) (ls : Array Slot), I_11 n_11 x4_12 x5_13 → Hp G (FA S s.heap.size) s.heap S H locs → lv_has ls 6 [(0, .ref th), (2, .int p1), (3, .int r_7), (4, .int x4_12), (5, .int x5_13)] → Wm G p l e { frames := 3, cells := 0, slots := 0, locals := 70 } s m args below meth c S QQ 0 0 H locs 0 0 (F0 m 45 ls []) := by
          intro n_11
          induction n_11 using Nat.strongRecOn with
          | ind n_11 ih_11 =>
            intro x4_12 x5_13 H locs ls hq9 hH hl
            have hp := hst_11 n_11 x4_12 x5_13 hq9
            refine lv_iload (pc := 45) hx hb dX11_power_45 (lv_at hl 4 rfl) ?_
            refine lv_iload_n (pc := 47) hx hb dX11_power_47 rfl (lv_at hl 1 rfl) ?_
            refine lv_icmp_ge (pc := 48) (tgt := 72) hx hb dX11_power_48 (by decide) (fun cc_14 => ?_) (fun cc_14 => ?_)
            · have hp := hp.1 cc_14
              refine lv_aload_n (pc := 72) hx hb dX11_power_72 rfl (lv_at hl 0 rfl) ?_
              refine lv_aload_n (pc := 73) hx hb dX11_power_73 rfl (lv_at hl 0 rfl) ?_
              refine lv_iload (pc := 74) hx hb dX11_power_74 (lv_at hl 3 rfl) ?_
              refine sx_V (pc := 76) (As := [.int x4_12]) (rest := [.ref th]) B hH hl.1 (C_X11_numbered G l th x4_12 _ _ hp) mi_X11_numbered coX11 hk_th w_885 w_30 w_883 rfl rfl ⟨Nat.le_of_ble_eq_true rfl, Nat.le_of_ble_eq_true rfl⟩ (Nat.le_of_ble_eq_true rfl) ⟨Nat.le_of_ble_eq_true rfl, Nat.le_of_ble_eq_true rfl⟩ dX11_power_76 (fun v S1 H locs hq hH => ?_)
              obtain ⟨r_15, rfl, e9, hp⟩ := hq
              rw [e9] at hH
              refine W.eq (g2 := F0 m 79 ls [.int r_15, .ref th]) rfl ?_
              refine sx_V (pc := 79) (As := [.int r_15]) (rest := []) B hH hl.1 (C_X11_answer G l th r_15 _ _ hp) mi_X11_answer coX11 hk_th w_740 w_16 w_738 rfl rfl ⟨Nat.le_of_ble_eq_true rfl, Nat.le_of_ble_eq_true rfl⟩ (Nat.le_of_ble_eq_true rfl) ⟨Nat.le_of_ble_eq_true rfl, Nat.le_of_ble_eq_true rfl⟩ dX11_power_79 (fun v S1 H locs hq hH => ?_)
              obtain ⟨r_16, F_16, rfl, e9, hp⟩ := hq
              rw [e9] at hH
              have hH : Hp G (FA S s.heap.size) s.heap (wI S F_16) H locs := hH
              refine W.eq (g2 := F0 m 82 ls [.int r_16]) rfl ?_
              exact sx_iret (pc := 82) B hH hr hlk (by rw [← hQQ]; exact ⟨_, F_16, rfl, rfl, hp⟩) (Nat.le_of_ble_eq_true rfl) (Nat.le_of_ble_eq_true rfl) dX11_power_82
            · have hp := hp.2 cc_14
              refine lv_iload (pc := 51) hx hb dX11_power_51 (lv_at hl 3 rfl) ?_
              refine lv_iload_n (pc := 53) hx hb dX11_power_53 rfl (lv_at hl 2 rfl) ?_
              refine lv_aload_n (pc := 54) hx hb dX11_power_54 rfl (lv_at hl 0 rfl) ?_
              refine sx_getR (pc := 55) (j := 7) B hH hk_th coX11 rfl w_463 rfl dX11_power_55 ?_
              refine W.eq (g2 := F0 m 58 ls [va_rf (gR S th 7), .int r_7, .int x4_12]) rfl ?_
              refine sx_nonnull (x := a_8) ha_8 ?_
              refine sx_getI (pc := 58) (j := 0) B hH hk_9 coX0 rfl w_357 rfl dX11_power_58 ?_
              refine W.eq (g2 := F0 m 61 ls [.int (gI S a_8 0), .int r_7, .int x4_12]) rfl ?_
              refine sx_S (pc := 61) (As := [.int x4_12, .int r_7, .int (gI S a_8 0)]) (rest := []) B hH hl.1 (C_X4_multiply G l x4_12 r_7 (gI S a_8 0) _ _ hp) mi_X4_multiply w_914 w_937 rfl rfl ⟨Nat.le_of_ble_eq_true rfl, Nat.le_of_ble_eq_true rfl⟩ (Nat.le_of_ble_eq_true rfl) ⟨Nat.le_of_ble_eq_true rfl, Nat.le_of_ble_eq_true rfl⟩ dX11_power_61 (fun v S1 H locs hq hH => ?_)
              obtain ⟨r_17, rfl, e9, hp⟩ := hq
              rw [e9] at hH
              refine W.eq (g2 := F0 m 64 ls [.int r_17]) rfl ?_
              refine lv_istore (pc := 64) (lv' := [(4, .int r_17), (0, .ref th), (2, .int p1), (3, .int r_7), (5, .int x5_13)]) hx hb dX11_power_64 hl (by decide) rfl (fun ls hl => ?_)
              obtain ⟨v_18, ev_18⟩ : ∃ y : Int32, y = x5_13 + 1 := ⟨_, rfl⟩
              have hp := hp v_18 ev_18
              refine lv_iinc (pc := 66) (v := v_18) (lv' := [(5, .int v_18), (4, .int r_17), (0, .ref th), (2, .int p1), (3, .int r_7)]) hx hb dX11_power_66 hl (k := 4) rfl (by rw [ev_18]; rfl) (by decide) rfl (fun ls hl => ?_)
              refine lv_goto (pc := 69) (tgt := 45) hx hb dX11_power_69 (by decide) ?_
              obtain ⟨k9, hlt9, hp⟩ := hp
              exact ih_11 k9 hlt9 _ _ _ _ _ hp hH (lv_sub hl [2, 3, 4, 1, 0] rfl)
        exact kl_11 k0_11 _ _ _ _ _ h0_11 hH (lv_sub hl [3, 5, 2, 1, 0] rfl)
      · have hp := hp.2 cc_6
        exact kj_3  _ _ _ hp hH (lv_sub hl [0] rfl)
theorem dX11_cycles_0 : decode cX11_cycles 0 = .ok (.aload_n 0, 1) := by decide +kernel
theorem dX11_cycles_1 : decode cX11_cycles 1 = .ok (.iload_n 1, 1) := by decide +kernel
theorem dX11_cycles_2 : decode cX11_cycles 2 = .ok (.invokevirtual 201, 3) := by decide +kernel
theorem dX11_cycles_5 : decode cX11_cycles 5 = .ok (.ifCond .eq 11, 3) := by decide +kernel
theorem dX11_cycles_8 : decode cX11_cycles 8 = .ok (.aload_n 0, 1) := by decide +kernel
theorem dX11_cycles_9 : decode cX11_cycles 9 = .ok (.iload_n 2, 1) := by decide +kernel
theorem dX11_cycles_10 : decode cX11_cycles 10 = .ok (.invokevirtual 204, 3) := by decide +kernel
theorem dX11_cycles_13 : decode cX11_cycles 13 = .ok (.ifCond .ne 9, 3) := by decide +kernel
theorem dX11_cycles_16 : decode cX11_cycles 16 = .ok (.aload_n 0, 1) := by decide +kernel
theorem dX11_cycles_17 : decode cX11_cycles 17 = .ok (.iconst 1, 1) := by decide +kernel
theorem dX11_cycles_18 : decode cX11_cycles 18 = .ok (.invokevirtual 139, 3) := by decide +kernel
theorem dX11_cycles_21 : decode cX11_cycles 21 = .ok (.ireturn, 1) := by decide +kernel
theorem dX11_cycles_22 : decode cX11_cycles 22 = .ok (.aload_n 0, 1) := by decide +kernel
theorem dX11_cycles_23 : decode cX11_cycles 23 = .ok (.aload_n 0, 1) := by decide +kernel
theorem dX11_cycles_24 : decode cX11_cycles 24 = .ok (.iload_n 1, 1) := by decide +kernel
theorem dX11_cycles_25 : decode cX11_cycles 25 = .ok (.invokevirtual 207, 3) := by decide +kernel
theorem dX11_cycles_28 : decode cX11_cycles 28 = .ok (.iload_n 2, 1) := by decide +kernel
theorem dX11_cycles_29 : decode cX11_cycles 29 = .ok (.aload_n 0, 1) := by decide +kernel
theorem dX11_cycles_30 : decode cX11_cycles 30 = .ok (.getfield 62, 3) := by decide +kernel
theorem dX11_cycles_33 : decode cX11_cycles 33 = .ok (.getfield 188, 3) := by decide +kernel
theorem dX11_cycles_36 : decode cX11_cycles 36 = .ok (.invokestatic 244, 3) := by decide +kernel
theorem dX11_cycles_39 : decode cX11_cycles 39 = .ok (.invokevirtual 170, 3) := by decide +kernel
theorem dX11_cycles_42 : decode cX11_cycles 42 = .ok (.ireturn, 1) := by decide +kernel
theorem mi_X11_cycles : MI yX11_cycles cX11_cycles 3 (some FieldType.int) 2 := ⟨w_941, w_105, by decide +kernel, by decide +kernel, by decide +kernel⟩
set_option maxRecDepth 100000 in
set_option maxHeartbeats 4000000 in
theorem C_X11_cycles (G : GG) (l : Launch) (th : Nat) (p0 : Int32) (p1 : Int32) (S : St) (Q : Int32 → (Nat → Nat → Int32) → Prop) (hp : P_X11_cycles th p0 p1 S Q) : Ctr G l yX11_cycles cX11_cycles 3 (some FieldType.int) 3 70 0 0 [.ref th, .int p0, .int p1] S (fun (v : Option Value) (S9 : St) => ∃ (r : Int32) (I9 : Nat → Nat → Int32), v = some (.int r) ∧ S9 = wI S I9 ∧ Q r I9) := by
  generalize hQQ : (fun (v : Option Value) (S9 : St) => ∃ (r : Int32) (I9 : Nat → Nat → Int32), v = some (.int r) ∧ S9 = wI S I9 ∧ Q r I9) = QQ
  unfold P_X11_cycles at hp
  refine Ctr.of (by decide) (Nat.le_of_ble_eq_true rfl) ?_
  intro p e s m args below meth c ls B hr hlk hin hl hH
  generalize hlocs0 : ([] : List Loc) = locs at hH ⊢
  have hx := B.1
  have hb := B.2.1
  have hl : lv_has ls 3 [(0, .ref th), (1, .int p0), (2, .int p1)] := hl
  obtain ⟨hk_th, hp⟩ := hp
  refine lv_aload_n (pc := 0) hx hb dX11_cycles_0 rfl (lv_at hl 0 rfl) ?_
  refine lv_iload_n (pc := 1) hx hb dX11_cycles_1 rfl (lv_at hl 1 rfl) ?_
  refine sx_V (pc := 2) (As := [.int p0]) (rest := []) B hH hl.1 (C_X11_isRow G l th p0 _ _ hp) mi_X11_isRow coX11 hk_th w_855 w_26 w_853 rfl rfl ⟨Nat.le_of_ble_eq_true rfl, Nat.le_of_ble_eq_true rfl⟩ (Nat.le_of_ble_eq_true rfl) ⟨Nat.le_of_ble_eq_true rfl, Nat.le_of_ble_eq_true rfl⟩ dX11_cycles_2 (fun v S1 H locs hq hH => ?_)
  obtain ⟨r_1, rfl, e9, hp⟩ := hq
  rw [e9] at hH
  refine W.eq (g2 := F0 m 5 ls [.int r_1]) rfl ?_
  obtain ⟨J_3, hj_3, hp⟩ := hp
  have kj_3 : ∀  (H : Heap) (locs : List Loc) (ls : Array Slot), J_3  → Hp G (FA S s.heap.size) s.heap S H locs → lv_has ls 3 [(0, .ref th)] → Wm G p l e { frames := 3, cells := 0, slots := 0, locals := 70 } s m args below meth c S QQ 0 0 H locs 0 0 (F0 m 16 ls []) := by
    intro  H locs ls hq9 hH hl
    have hp := hj_3  hq9
    refine lv_aload_n (pc := 16) hx hb dX11_cycles_16 rfl (lv_at hl 0 rfl) ?_
    refine lv_iconst (pc := 17) (v := 1) hx hb dX11_cycles_17 (by decide) ?_
    refine sx_V (pc := 18) (As := [.int 1]) (rest := []) B hH hl.1 (C_X11_refuse G l th 1 _ _ hp) mi_X11_refuse coX11 hk_th w_570 w_3 w_568 rfl rfl ⟨Nat.le_of_ble_eq_true rfl, Nat.le_of_ble_eq_true rfl⟩ (Nat.le_of_ble_eq_true rfl) ⟨Nat.le_of_ble_eq_true rfl, Nat.le_of_ble_eq_true rfl⟩ dX11_cycles_18 (fun v S1 H locs hq hH => ?_)
    obtain ⟨r_4, F_4, rfl, e9, hp⟩ := hq
    rw [e9] at hH
    have hH : Hp G (FA S s.heap.size) s.heap (wI S F_4) H locs := hH
    refine W.eq (g2 := F0 m 21 ls [.int r_4]) rfl ?_
    exact sx_iret (pc := 21) B hH hr hlk (by rw [← hQQ]; exact ⟨_, F_4, rfl, rfl, hp⟩) (Nat.le_of_ble_eq_true rfl) (Nat.le_of_ble_eq_true rfl) dX11_cycles_21
  refine lv_if_eq (pc := 5) (tgt := 16) hx hb dX11_cycles_5 (by decide) (fun cc_2 => ?_) (fun cc_2 => ?_)
  · have hp := hp.1 cc_2
    exact kj_3  _ _ _ hp hH (lv_sub hl [0] rfl)
  · have hp := hp.2 cc_2
    refine lv_aload_n (pc := 8) hx hb dX11_cycles_8 rfl (lv_at hl 0 rfl) ?_
    refine lv_iload_n (pc := 9) hx hb dX11_cycles_9 rfl (lv_at hl 2 rfl) ?_
    refine sx_V (pc := 10) (As := [.int p1]) (rest := []) B hH hl.1 (C_X11_isBell G l th p1 _ _ hp) mi_X11_isBell coX11 hk_th w_859 w_27 w_857 rfl rfl ⟨Nat.le_of_ble_eq_true rfl, Nat.le_of_ble_eq_true rfl⟩ (Nat.le_of_ble_eq_true rfl) ⟨Nat.le_of_ble_eq_true rfl, Nat.le_of_ble_eq_true rfl⟩ dX11_cycles_10 (fun v S1 H locs hq hH => ?_)
    obtain ⟨r_5, rfl, e9, hp⟩ := hq
    rw [e9] at hH
    refine W.eq (g2 := F0 m 13 ls [.int r_5]) rfl ?_
    refine lv_if_ne (pc := 13) (tgt := 22) hx hb dX11_cycles_13 (by decide) (fun cc_6 => ?_) (fun cc_6 => ?_)
    · have hp := hp.1 cc_6
      refine lv_aload_n (pc := 22) hx hb dX11_cycles_22 rfl (lv_at hl 0 rfl) ?_
      refine lv_aload_n (pc := 23) hx hb dX11_cycles_23 rfl (lv_at hl 0 rfl) ?_
      refine lv_iload_n (pc := 24) hx hb dX11_cycles_24 rfl (lv_at hl 1 rfl) ?_
      refine sx_V (pc := 25) (As := [.int p0]) (rest := [.ref th]) B hH hl.1 (C_X11_packed G l th p0 _ _ hp) mi_X11_packed coX11 hk_th w_863 w_28 w_861 rfl rfl ⟨Nat.le_of_ble_eq_true rfl, Nat.le_of_ble_eq_true rfl⟩ (Nat.le_of_ble_eq_true rfl) ⟨Nat.le_of_ble_eq_true rfl, Nat.le_of_ble_eq_true rfl⟩ dX11_cycles_25 (fun v S1 H locs hq hH => ?_)
      obtain ⟨r_7, rfl, e9, hp⟩ := hq
      rw [e9] at hH
      refine W.eq (g2 := F0 m 28 ls [.int r_7, .ref th]) rfl ?_
      refine lv_iload_n (pc := 28) hx hb dX11_cycles_28 rfl (lv_at hl 2 rfl) ?_
      refine lv_aload_n (pc := 29) hx hb dX11_cycles_29 rfl (lv_at hl 0 rfl) ?_
      refine sx_getR (pc := 30) (j := 7) B hH hk_th coX11 rfl w_463 rfl dX11_cycles_30 ?_
      refine W.eq (g2 := F0 m 33 ls [va_rf (gR S th 7), .int p1, .int r_7, .ref th]) rfl ?_
      obtain ⟨a_8, ha_8, hp⟩ := hp
      refine sx_nonnull (x := a_8) ha_8 ?_
      obtain ⟨hk_9, hp⟩ := hp
      refine sx_getI (pc := 33) (j := 0) B hH hk_9 coX0 rfl w_357 rfl dX11_cycles_33 ?_
      refine W.eq (g2 := F0 m 36 ls [.int (gI S a_8 0), .int p1, .int r_7, .ref th]) rfl ?_
      refine sx_S (pc := 36) (As := [.int r_7, .int p1, .int (gI S a_8 0)]) (rest := [.ref th]) B hH hl.1 (C_X4_cyclesOf G l r_7 p1 (gI S a_8 0) _ _ hp) mi_X4_cyclesOf w_943 w_942 rfl rfl ⟨Nat.le_of_ble_eq_true rfl, Nat.le_of_ble_eq_true rfl⟩ (Nat.le_of_ble_eq_true rfl) ⟨Nat.le_of_ble_eq_true rfl, Nat.le_of_ble_eq_true rfl⟩ dX11_cycles_36 (fun v S1 H locs hq hH => ?_)
      obtain ⟨r_10, rfl, e9, hp⟩ := hq
      rw [e9] at hH
      refine W.eq (g2 := F0 m 39 ls [.int r_10, .ref th]) rfl ?_
      refine sx_V (pc := 39) (As := [.int r_10]) (rest := []) B hH hl.1 (C_X11_answer G l th r_10 _ _ hp) mi_X11_answer coX11 hk_th w_740 w_16 w_738 rfl rfl ⟨Nat.le_of_ble_eq_true rfl, Nat.le_of_ble_eq_true rfl⟩ (Nat.le_of_ble_eq_true rfl) ⟨Nat.le_of_ble_eq_true rfl, Nat.le_of_ble_eq_true rfl⟩ dX11_cycles_39 (fun v S1 H locs hq hH => ?_)
      obtain ⟨r_11, F_11, rfl, e9, hp⟩ := hq
      rw [e9] at hH
      have hH : Hp G (FA S s.heap.size) s.heap (wI S F_11) H locs := hH
      refine W.eq (g2 := F0 m 42 ls [.int r_11]) rfl ?_
      exact sx_iret (pc := 42) B hH hr hlk (by rw [← hQQ]; exact ⟨_, F_11, rfl, rfl, hp⟩) (Nat.le_of_ble_eq_true rfl) (Nat.le_of_ble_eq_true rfl) dX11_cycles_42
    · have hp := hp.2 cc_6
      exact kj_3  _ _ _ hp hH (lv_sub hl [0] rfl)
theorem dX11_distance_0 : decode cX11_distance 0 = .ok (.aload_n 0, 1) := by decide +kernel
theorem dX11_distance_1 : decode cX11_distance 1 = .ok (.iload_n 1, 1) := by decide +kernel
theorem dX11_distance_2 : decode cX11_distance 2 = .ok (.invokevirtual 201, 3) := by decide +kernel
theorem dX11_distance_5 : decode cX11_distance 5 = .ok (.ifCond .eq 11, 3) := by decide +kernel
theorem dX11_distance_8 : decode cX11_distance 8 = .ok (.aload_n 0, 1) := by decide +kernel
theorem dX11_distance_9 : decode cX11_distance 9 = .ok (.iload_n 2, 1) := by decide +kernel
theorem dX11_distance_10 : decode cX11_distance 10 = .ok (.invokevirtual 201, 3) := by decide +kernel
theorem dX11_distance_13 : decode cX11_distance 13 = .ok (.ifCond .ne 9, 3) := by decide +kernel
theorem dX11_distance_16 : decode cX11_distance 16 = .ok (.aload_n 0, 1) := by decide +kernel
theorem dX11_distance_17 : decode cX11_distance 17 = .ok (.iconst 1, 1) := by decide +kernel
theorem dX11_distance_18 : decode cX11_distance 18 = .ok (.invokevirtual 139, 3) := by decide +kernel
theorem dX11_distance_21 : decode cX11_distance 21 = .ok (.ireturn, 1) := by decide +kernel
theorem dX11_distance_22 : decode cX11_distance 22 = .ok (.aload_n 0, 1) := by decide +kernel
theorem dX11_distance_23 : decode cX11_distance 23 = .ok (.iload_n 1, 1) := by decide +kernel
theorem dX11_distance_24 : decode cX11_distance 24 = .ok (.invokevirtual 207, 3) := by decide +kernel
theorem dX11_distance_27 : decode cX11_distance 27 = .ok (.aload_n 0, 1) := by decide +kernel
theorem dX11_distance_28 : decode cX11_distance 28 = .ok (.getfield 62, 3) := by decide +kernel
theorem dX11_distance_31 : decode cX11_distance 31 = .ok (.getfield 188, 3) := by decide +kernel
theorem dX11_distance_34 : decode cX11_distance 34 = .ok (.invokestatic 223, 3) := by decide +kernel
theorem dX11_distance_37 : decode cX11_distance 37 = .ok (.aload_n 0, 1) := by decide +kernel
theorem dX11_distance_38 : decode cX11_distance 38 = .ok (.iload_n 2, 1) := by decide +kernel
theorem dX11_distance_39 : decode cX11_distance 39 = .ok (.invokevirtual 207, 3) := by decide +kernel
theorem dX11_distance_42 : decode cX11_distance 42 = .ok (.aload_n 0, 1) := by decide +kernel
theorem dX11_distance_43 : decode cX11_distance 43 = .ok (.getfield 62, 3) := by decide +kernel
theorem dX11_distance_46 : decode cX11_distance 46 = .ok (.getfield 188, 3) := by decide +kernel
theorem dX11_distance_49 : decode cX11_distance 49 = .ok (.invokestatic 241, 3) := by decide +kernel
theorem dX11_distance_52 : decode cX11_distance 52 = .ok (.istore_n 3, 1) := by decide +kernel
theorem dX11_distance_53 : decode cX11_distance 53 = .ok (.aload_n 0, 1) := by decide +kernel
theorem dX11_distance_54 : decode cX11_distance 54 = .ok (.iload_n 3, 1) := by decide +kernel
theorem dX11_distance_55 : decode cX11_distance 55 = .ok (.aload_n 0, 1) := by decide +kernel
theorem dX11_distance_56 : decode cX11_distance 56 = .ok (.getfield 62, 3) := by decide +kernel
theorem dX11_distance_59 : decode cX11_distance 59 = .ok (.getfield 188, 3) := by decide +kernel
theorem dX11_distance_62 : decode cX11_distance 62 = .ok (.invokestatic 247, 3) := by decide +kernel
theorem dX11_distance_65 : decode cX11_distance 65 = .ok (.invokevirtual 170, 3) := by decide +kernel
theorem dX11_distance_68 : decode cX11_distance 68 = .ok (.ireturn, 1) := by decide +kernel
theorem mi_X11_distance : MI yX11_distance cX11_distance 4 (some FieldType.int) 2 := ⟨w_949, w_105, by decide +kernel, by decide +kernel, by decide +kernel⟩
set_option maxRecDepth 100000 in
set_option maxHeartbeats 4000000 in
theorem C_X11_distance (G : GG) (l : Launch) (th : Nat) (p0 : Int32) (p1 : Int32) (S : St) (Q : Int32 → (Nat → Nat → Int32) → Prop) (hp : P_X11_distance th p0 p1 S Q) : Ctr G l yX11_distance cX11_distance 4 (some FieldType.int) 3 70 0 0 [.ref th, .int p0, .int p1] S (fun (v : Option Value) (S9 : St) => ∃ (r : Int32) (I9 : Nat → Nat → Int32), v = some (.int r) ∧ S9 = wI S I9 ∧ Q r I9) := by
  generalize hQQ : (fun (v : Option Value) (S9 : St) => ∃ (r : Int32) (I9 : Nat → Nat → Int32), v = some (.int r) ∧ S9 = wI S I9 ∧ Q r I9) = QQ
  unfold P_X11_distance at hp
  refine Ctr.of (by decide) (Nat.le_of_ble_eq_true rfl) ?_
  intro p e s m args below meth c ls B hr hlk hin hl hH
  generalize hlocs0 : ([] : List Loc) = locs at hH ⊢
  have hx := B.1
  have hb := B.2.1
  have hl : lv_has ls 4 [(0, .ref th), (1, .int p0), (2, .int p1)] := hl
  obtain ⟨hk_th, hp⟩ := hp
  refine lv_aload_n (pc := 0) hx hb dX11_distance_0 rfl (lv_at hl 0 rfl) ?_
  refine lv_iload_n (pc := 1) hx hb dX11_distance_1 rfl (lv_at hl 1 rfl) ?_
  refine sx_V (pc := 2) (As := [.int p0]) (rest := []) B hH hl.1 (C_X11_isRow G l th p0 _ _ hp) mi_X11_isRow coX11 hk_th w_855 w_26 w_853 rfl rfl ⟨Nat.le_of_ble_eq_true rfl, Nat.le_of_ble_eq_true rfl⟩ (Nat.le_of_ble_eq_true rfl) ⟨Nat.le_of_ble_eq_true rfl, Nat.le_of_ble_eq_true rfl⟩ dX11_distance_2 (fun v S1 H locs hq hH => ?_)
  obtain ⟨r_1, rfl, e9, hp⟩ := hq
  rw [e9] at hH
  refine W.eq (g2 := F0 m 5 ls [.int r_1]) rfl ?_
  obtain ⟨J_3, hj_3, hp⟩ := hp
  have kj_3 : ∀  (H : Heap) (locs : List Loc) (ls : Array Slot), J_3  → Hp G (FA S s.heap.size) s.heap S H locs → lv_has ls 4 [(0, .ref th)] → Wm G p l e { frames := 3, cells := 0, slots := 0, locals := 70 } s m args below meth c S QQ 0 0 H locs 0 0 (F0 m 16 ls []) := by
    intro  H locs ls hq9 hH hl
    have hp := hj_3  hq9
    refine lv_aload_n (pc := 16) hx hb dX11_distance_16 rfl (lv_at hl 0 rfl) ?_
    refine lv_iconst (pc := 17) (v := 1) hx hb dX11_distance_17 (by decide) ?_
    refine sx_V (pc := 18) (As := [.int 1]) (rest := []) B hH hl.1 (C_X11_refuse G l th 1 _ _ hp) mi_X11_refuse coX11 hk_th w_570 w_3 w_568 rfl rfl ⟨Nat.le_of_ble_eq_true rfl, Nat.le_of_ble_eq_true rfl⟩ (Nat.le_of_ble_eq_true rfl) ⟨Nat.le_of_ble_eq_true rfl, Nat.le_of_ble_eq_true rfl⟩ dX11_distance_18 (fun v S1 H locs hq hH => ?_)
    obtain ⟨r_4, F_4, rfl, e9, hp⟩ := hq
    rw [e9] at hH
    have hH : Hp G (FA S s.heap.size) s.heap (wI S F_4) H locs := hH
    refine W.eq (g2 := F0 m 21 ls [.int r_4]) rfl ?_
    exact sx_iret (pc := 21) B hH hr hlk (by rw [← hQQ]; exact ⟨_, F_4, rfl, rfl, hp⟩) (Nat.le_of_ble_eq_true rfl) (Nat.le_of_ble_eq_true rfl) dX11_distance_21
  refine lv_if_eq (pc := 5) (tgt := 16) hx hb dX11_distance_5 (by decide) (fun cc_2 => ?_) (fun cc_2 => ?_)
  · have hp := hp.1 cc_2
    exact kj_3  _ _ _ hp hH (lv_sub hl [0] rfl)
  · have hp := hp.2 cc_2
    refine lv_aload_n (pc := 8) hx hb dX11_distance_8 rfl (lv_at hl 0 rfl) ?_
    refine lv_iload_n (pc := 9) hx hb dX11_distance_9 rfl (lv_at hl 2 rfl) ?_
    refine sx_V (pc := 10) (As := [.int p1]) (rest := []) B hH hl.1 (C_X11_isRow G l th p1 _ _ hp) mi_X11_isRow coX11 hk_th w_855 w_26 w_853 rfl rfl ⟨Nat.le_of_ble_eq_true rfl, Nat.le_of_ble_eq_true rfl⟩ (Nat.le_of_ble_eq_true rfl) ⟨Nat.le_of_ble_eq_true rfl, Nat.le_of_ble_eq_true rfl⟩ dX11_distance_10 (fun v S1 H locs hq hH => ?_)
    obtain ⟨r_5, rfl, e9, hp⟩ := hq
    rw [e9] at hH
    refine W.eq (g2 := F0 m 13 ls [.int r_5]) rfl ?_
    refine lv_if_ne (pc := 13) (tgt := 22) hx hb dX11_distance_13 (by decide) (fun cc_6 => ?_) (fun cc_6 => ?_)
    · have hp := hp.1 cc_6
      refine lv_aload_n (pc := 22) hx hb dX11_distance_22 rfl (lv_at hl 0 rfl) ?_
      refine lv_iload_n (pc := 23) hx hb dX11_distance_23 rfl (lv_at hl 1 rfl) ?_
      refine sx_V (pc := 24) (As := [.int p0]) (rest := []) B hH hl.1 (C_X11_packed G l th p0 _ _ hp) mi_X11_packed coX11 hk_th w_863 w_28 w_861 rfl rfl ⟨Nat.le_of_ble_eq_true rfl, Nat.le_of_ble_eq_true rfl⟩ (Nat.le_of_ble_eq_true rfl) ⟨Nat.le_of_ble_eq_true rfl, Nat.le_of_ble_eq_true rfl⟩ dX11_distance_24 (fun v S1 H locs hq hH => ?_)
      obtain ⟨r_7, rfl, e9, hp⟩ := hq
      rw [e9] at hH
      refine W.eq (g2 := F0 m 27 ls [.int r_7]) rfl ?_
      refine lv_aload_n (pc := 27) hx hb dX11_distance_27 rfl (lv_at hl 0 rfl) ?_
      refine sx_getR (pc := 28) (j := 7) B hH hk_th coX11 rfl w_463 rfl dX11_distance_28 ?_
      refine W.eq (g2 := F0 m 31 ls [va_rf (gR S th 7), .int r_7]) rfl ?_
      obtain ⟨a_8, ha_8, hp⟩ := hp
      refine sx_nonnull (x := a_8) ha_8 ?_
      obtain ⟨hk_9, hp⟩ := hp
      refine sx_getI (pc := 31) (j := 0) B hH hk_9 coX0 rfl w_357 rfl dX11_distance_31 ?_
      refine W.eq (g2 := F0 m 34 ls [.int (gI S a_8 0), .int r_7]) rfl ?_
      refine sx_S (pc := 34) (As := [.int r_7, .int (gI S a_8 0)]) (rest := []) B hH hl.1 (C_X4_invert G l r_7 (gI S a_8 0) _ _ hp) mi_X4_invert w_903 w_902 rfl rfl ⟨Nat.le_of_ble_eq_true rfl, Nat.le_of_ble_eq_true rfl⟩ (Nat.le_of_ble_eq_true rfl) ⟨Nat.le_of_ble_eq_true rfl, Nat.le_of_ble_eq_true rfl⟩ dX11_distance_34 (fun v S1 H locs hq hH => ?_)
      obtain ⟨r_10, rfl, e9, hp⟩ := hq
      rw [e9] at hH
      refine W.eq (g2 := F0 m 37 ls [.int r_10]) rfl ?_
      refine lv_aload_n (pc := 37) hx hb dX11_distance_37 rfl (lv_at hl 0 rfl) ?_
      refine lv_iload_n (pc := 38) hx hb dX11_distance_38 rfl (lv_at hl 2 rfl) ?_
      refine sx_V (pc := 39) (As := [.int p1]) (rest := [.int r_10]) B hH hl.1 (C_X11_packed G l th p1 _ _ hp) mi_X11_packed coX11 hk_th w_863 w_28 w_861 rfl rfl ⟨Nat.le_of_ble_eq_true rfl, Nat.le_of_ble_eq_true rfl⟩ (Nat.le_of_ble_eq_true rfl) ⟨Nat.le_of_ble_eq_true rfl, Nat.le_of_ble_eq_true rfl⟩ dX11_distance_39 (fun v S1 H locs hq hH => ?_)
      obtain ⟨r_11, rfl, e9, hp⟩ := hq
      rw [e9] at hH
      refine W.eq (g2 := F0 m 42 ls [.int r_11, .int r_10]) rfl ?_
      refine lv_aload_n (pc := 42) hx hb dX11_distance_42 rfl (lv_at hl 0 rfl) ?_
      refine sx_getR (pc := 43) (j := 7) B hH hk_th coX11 rfl w_463 rfl dX11_distance_43 ?_
      refine W.eq (g2 := F0 m 46 ls [va_rf (gR S th 7), .int r_11, .int r_10]) rfl ?_
      refine sx_nonnull (x := a_8) ha_8 ?_
      refine sx_getI (pc := 46) (j := 0) B hH hk_9 coX0 rfl w_357 rfl dX11_distance_46 ?_
      refine W.eq (g2 := F0 m 49 ls [.int (gI S a_8 0), .int r_11, .int r_10]) rfl ?_
      refine sx_S (pc := 49) (As := [.int r_10, .int r_11, .int (gI S a_8 0)]) (rest := []) B hH hl.1 (C_X4_multiply G l r_10 r_11 (gI S a_8 0) _ _ hp) mi_X4_multiply w_914 w_937 rfl rfl ⟨Nat.le_of_ble_eq_true rfl, Nat.le_of_ble_eq_true rfl⟩ (Nat.le_of_ble_eq_true rfl) ⟨Nat.le_of_ble_eq_true rfl, Nat.le_of_ble_eq_true rfl⟩ dX11_distance_49 (fun v S1 H locs hq hH => ?_)
      obtain ⟨r_12, rfl, e9, hp⟩ := hq
      rw [e9] at hH
      refine W.eq (g2 := F0 m 52 ls [.int r_12]) rfl ?_
      refine lv_istore_n (pc := 52) (lv' := [(3, .int r_12), (0, .ref th), (1, .int p0), (2, .int p1)]) hx hb dX11_distance_52 rfl hl (by decide) rfl (fun ls hl => ?_)
      refine lv_aload_n (pc := 53) hx hb dX11_distance_53 rfl (lv_at hl 1 rfl) ?_
      refine lv_iload_n (pc := 54) hx hb dX11_distance_54 rfl (lv_at hl 0 rfl) ?_
      refine lv_aload_n (pc := 55) hx hb dX11_distance_55 rfl (lv_at hl 1 rfl) ?_
      refine sx_getR (pc := 56) (j := 7) B hH hk_th coX11 rfl w_463 rfl dX11_distance_56 ?_
      refine W.eq (g2 := F0 m 59 ls [va_rf (gR S th 7), .int r_12, .ref th]) rfl ?_
      refine sx_nonnull (x := a_8) ha_8 ?_
      refine sx_getI (pc := 59) (j := 0) B hH hk_9 coX0 rfl w_357 rfl dX11_distance_59 ?_
      refine W.eq (g2 := F0 m 62 ls [.int (gI S a_8 0), .int r_12, .ref th]) rfl ?_
      refine sx_S (pc := 62) (As := [.int r_12, .int (gI S a_8 0)]) (rest := [.ref th]) B hH hl.1 (C_X4_inversions G l r_12 (gI S a_8 0) _ _ hp) mi_X4_inversions w_924 w_950 rfl rfl ⟨Nat.le_of_ble_eq_true rfl, Nat.le_of_ble_eq_true rfl⟩ (Nat.le_of_ble_eq_true rfl) ⟨Nat.le_of_ble_eq_true rfl, Nat.le_of_ble_eq_true rfl⟩ dX11_distance_62 (fun v S1 H locs hq hH => ?_)
      obtain ⟨r_13, rfl, e9, hp⟩ := hq
      rw [e9] at hH
      refine W.eq (g2 := F0 m 65 ls [.int r_13, .ref th]) rfl ?_
      refine sx_V (pc := 65) (As := [.int r_13]) (rest := []) B hH hl.1 (C_X11_answer G l th r_13 _ _ hp) mi_X11_answer coX11 hk_th w_740 w_16 w_738 rfl rfl ⟨Nat.le_of_ble_eq_true rfl, Nat.le_of_ble_eq_true rfl⟩ (Nat.le_of_ble_eq_true rfl) ⟨Nat.le_of_ble_eq_true rfl, Nat.le_of_ble_eq_true rfl⟩ dX11_distance_65 (fun v S1 H locs hq hH => ?_)
      obtain ⟨r_14, F_14, rfl, e9, hp⟩ := hq
      rw [e9] at hH
      have hH : Hp G (FA S s.heap.size) s.heap (wI S F_14) H locs := hH
      refine W.eq (g2 := F0 m 68 ls [.int r_14]) rfl ?_
      exact sx_iret (pc := 68) B hH hr hlk (by rw [← hQQ]; exact ⟨_, F_14, rfl, rfl, hp⟩) (Nat.le_of_ble_eq_true rfl) (Nat.le_of_ble_eq_true rfl) dX11_distance_68
    · have hp := hp.2 cc_6
      exact kj_3  _ _ _ hp hH (lv_sub hl [0] rfl)
theorem dX11_between_0 : decode cX11_between 0 = .ok (.aload_n 0, 1) := by decide +kernel
theorem dX11_between_1 : decode cX11_between 1 = .ok (.iload_n 1, 1) := by decide +kernel
theorem dX11_between_2 : decode cX11_between 2 = .ok (.invokevirtual 201, 3) := by decide +kernel
theorem dX11_between_5 : decode cX11_between 5 = .ok (.ifCond .eq 11, 3) := by decide +kernel
theorem dX11_between_8 : decode cX11_between 8 = .ok (.aload_n 0, 1) := by decide +kernel
theorem dX11_between_9 : decode cX11_between 9 = .ok (.iload_n 2, 1) := by decide +kernel
theorem dX11_between_10 : decode cX11_between 10 = .ok (.invokevirtual 201, 3) := by decide +kernel
theorem dX11_between_13 : decode cX11_between 13 = .ok (.ifCond .ne 9, 3) := by decide +kernel
theorem dX11_between_16 : decode cX11_between 16 = .ok (.aload_n 0, 1) := by decide +kernel
theorem dX11_between_17 : decode cX11_between 17 = .ok (.iconst 1, 1) := by decide +kernel
theorem dX11_between_18 : decode cX11_between 18 = .ok (.invokevirtual 139, 3) := by decide +kernel
theorem dX11_between_21 : decode cX11_between 21 = .ok (.ireturn, 1) := by decide +kernel
theorem dX11_between_22 : decode cX11_between 22 = .ok (.aload_n 0, 1) := by decide +kernel
theorem dX11_between_23 : decode cX11_between 23 = .ok (.iload_n 1, 1) := by decide +kernel
theorem dX11_between_24 : decode cX11_between 24 = .ok (.invokevirtual 207, 3) := by decide +kernel
theorem dX11_between_27 : decode cX11_between 27 = .ok (.aload_n 0, 1) := by decide +kernel
theorem dX11_between_28 : decode cX11_between 28 = .ok (.iload_n 2, 1) := by decide +kernel
theorem dX11_between_29 : decode cX11_between 29 = .ok (.invokevirtual 207, 3) := by decide +kernel
theorem dX11_between_32 : decode cX11_between 32 = .ok (.aload_n 0, 1) := by decide +kernel
theorem dX11_between_33 : decode cX11_between 33 = .ok (.getfield 62, 3) := by decide +kernel
theorem dX11_between_36 : decode cX11_between 36 = .ok (.getfield 188, 3) := by decide +kernel
theorem dX11_between_39 : decode cX11_between 39 = .ok (.invokestatic 250, 3) := by decide +kernel
theorem dX11_between_42 : decode cX11_between 42 = .ok (.istore_n 3, 1) := by decide +kernel
theorem dX11_between_43 : decode cX11_between 43 = .ok (.iload_n 3, 1) := by decide +kernel
theorem dX11_between_44 : decode cX11_between 44 = .ok (.iconst (-1), 1) := by decide +kernel
theorem dX11_between_45 : decode cX11_between 45 = .ok (.if_icmp .ne 10, 3) := by decide +kernel
theorem dX11_between_48 : decode cX11_between 48 = .ok (.aload_n 0, 1) := by decide +kernel
theorem dX11_between_49 : decode cX11_between 49 = .ok (.bipush 7, 2) := by decide +kernel
theorem dX11_between_51 : decode cX11_between 51 = .ok (.invokevirtual 139, 3) := by decide +kernel
theorem dX11_between_54 : decode cX11_between 54 = .ok (.ireturn, 1) := by decide +kernel
theorem dX11_between_55 : decode cX11_between 55 = .ok (.aload_n 0, 1) := by decide +kernel
theorem dX11_between_56 : decode cX11_between 56 = .ok (.iload_n 3, 1) := by decide +kernel
theorem dX11_between_57 : decode cX11_between 57 = .ok (.aload_n 0, 1) := by decide +kernel
theorem dX11_between_58 : decode cX11_between 58 = .ok (.getfield 62, 3) := by decide +kernel
theorem dX11_between_61 : decode cX11_between 61 = .ok (.getfield 188, 3) := by decide +kernel
theorem dX11_between_64 : decode cX11_between 64 = .ok (.invokestatic 253, 3) := by decide +kernel
theorem dX11_between_67 : decode cX11_between 67 = .ok (.invokevirtual 170, 3) := by decide +kernel
theorem dX11_between_70 : decode cX11_between 70 = .ok (.ireturn, 1) := by decide +kernel
theorem mi_X11_between : MI yX11_between cX11_between 4 (some FieldType.int) 2 := ⟨w_954, w_105, by decide +kernel, by decide +kernel, by decide +kernel⟩
set_option maxRecDepth 100000 in
set_option maxHeartbeats 4000000 in
theorem C_X11_between (G : GG) (l : Launch) (th : Nat) (p0 : Int32) (p1 : Int32) (S : St) (Q : Int32 → (Nat → Nat → Int32) → Prop) (hp : P_X11_between th p0 p1 S Q) : Ctr G l yX11_between cX11_between 4 (some FieldType.int) 3 70 0 0 [.ref th, .int p0, .int p1] S (fun (v : Option Value) (S9 : St) => ∃ (r : Int32) (I9 : Nat → Nat → Int32), v = some (.int r) ∧ S9 = wI S I9 ∧ Q r I9) := by
  generalize hQQ : (fun (v : Option Value) (S9 : St) => ∃ (r : Int32) (I9 : Nat → Nat → Int32), v = some (.int r) ∧ S9 = wI S I9 ∧ Q r I9) = QQ
  unfold P_X11_between at hp
  refine Ctr.of (by decide) (Nat.le_of_ble_eq_true rfl) ?_
  intro p e s m args below meth c ls B hr hlk hin hl hH
  generalize hlocs0 : ([] : List Loc) = locs at hH ⊢
  have hx := B.1
  have hb := B.2.1
  have hl : lv_has ls 4 [(0, .ref th), (1, .int p0), (2, .int p1)] := hl
  obtain ⟨hk_th, hp⟩ := hp
  refine lv_aload_n (pc := 0) hx hb dX11_between_0 rfl (lv_at hl 0 rfl) ?_
  refine lv_iload_n (pc := 1) hx hb dX11_between_1 rfl (lv_at hl 1 rfl) ?_
  refine sx_V (pc := 2) (As := [.int p0]) (rest := []) B hH hl.1 (C_X11_isRow G l th p0 _ _ hp) mi_X11_isRow coX11 hk_th w_855 w_26 w_853 rfl rfl ⟨Nat.le_of_ble_eq_true rfl, Nat.le_of_ble_eq_true rfl⟩ (Nat.le_of_ble_eq_true rfl) ⟨Nat.le_of_ble_eq_true rfl, Nat.le_of_ble_eq_true rfl⟩ dX11_between_2 (fun v S1 H locs hq hH => ?_)
  obtain ⟨r_1, rfl, e9, hp⟩ := hq
  rw [e9] at hH
  refine W.eq (g2 := F0 m 5 ls [.int r_1]) rfl ?_
  obtain ⟨J_3, hj_3, hp⟩ := hp
  have kj_3 : ∀  (H : Heap) (locs : List Loc) (ls : Array Slot), J_3  → Hp G (FA S s.heap.size) s.heap S H locs → lv_has ls 4 [(0, .ref th)] → Wm G p l e { frames := 3, cells := 0, slots := 0, locals := 70 } s m args below meth c S QQ 0 0 H locs 0 0 (F0 m 16 ls []) := by
    intro  H locs ls hq9 hH hl
    have hp := hj_3  hq9
    refine lv_aload_n (pc := 16) hx hb dX11_between_16 rfl (lv_at hl 0 rfl) ?_
    refine lv_iconst (pc := 17) (v := 1) hx hb dX11_between_17 (by decide) ?_
    refine sx_V (pc := 18) (As := [.int 1]) (rest := []) B hH hl.1 (C_X11_refuse G l th 1 _ _ hp) mi_X11_refuse coX11 hk_th w_570 w_3 w_568 rfl rfl ⟨Nat.le_of_ble_eq_true rfl, Nat.le_of_ble_eq_true rfl⟩ (Nat.le_of_ble_eq_true rfl) ⟨Nat.le_of_ble_eq_true rfl, Nat.le_of_ble_eq_true rfl⟩ dX11_between_18 (fun v S1 H locs hq hH => ?_)
    obtain ⟨r_4, F_4, rfl, e9, hp⟩ := hq
    rw [e9] at hH
    have hH : Hp G (FA S s.heap.size) s.heap (wI S F_4) H locs := hH
    refine W.eq (g2 := F0 m 21 ls [.int r_4]) rfl ?_
    exact sx_iret (pc := 21) B hH hr hlk (by rw [← hQQ]; exact ⟨_, F_4, rfl, rfl, hp⟩) (Nat.le_of_ble_eq_true rfl) (Nat.le_of_ble_eq_true rfl) dX11_between_21
  refine lv_if_eq (pc := 5) (tgt := 16) hx hb dX11_between_5 (by decide) (fun cc_2 => ?_) (fun cc_2 => ?_)
  · have hp := hp.1 cc_2
    exact kj_3  _ _ _ hp hH (lv_sub hl [0] rfl)
  · have hp := hp.2 cc_2
    refine lv_aload_n (pc := 8) hx hb dX11_between_8 rfl (lv_at hl 0 rfl) ?_
    refine lv_iload_n (pc := 9) hx hb dX11_between_9 rfl (lv_at hl 2 rfl) ?_
    refine sx_V (pc := 10) (As := [.int p1]) (rest := []) B hH hl.1 (C_X11_isRow G l th p1 _ _ hp) mi_X11_isRow coX11 hk_th w_855 w_26 w_853 rfl rfl ⟨Nat.le_of_ble_eq_true rfl, Nat.le_of_ble_eq_true rfl⟩ (Nat.le_of_ble_eq_true rfl) ⟨Nat.le_of_ble_eq_true rfl, Nat.le_of_ble_eq_true rfl⟩ dX11_between_10 (fun v S1 H locs hq hH => ?_)
    obtain ⟨r_5, rfl, e9, hp⟩ := hq
    rw [e9] at hH
    refine W.eq (g2 := F0 m 13 ls [.int r_5]) rfl ?_
    refine lv_if_ne (pc := 13) (tgt := 22) hx hb dX11_between_13 (by decide) (fun cc_6 => ?_) (fun cc_6 => ?_)
    · have hp := hp.1 cc_6
      refine lv_aload_n (pc := 22) hx hb dX11_between_22 rfl (lv_at hl 0 rfl) ?_
      refine lv_iload_n (pc := 23) hx hb dX11_between_23 rfl (lv_at hl 1 rfl) ?_
      refine sx_V (pc := 24) (As := [.int p0]) (rest := []) B hH hl.1 (C_X11_packed G l th p0 _ _ hp) mi_X11_packed coX11 hk_th w_863 w_28 w_861 rfl rfl ⟨Nat.le_of_ble_eq_true rfl, Nat.le_of_ble_eq_true rfl⟩ (Nat.le_of_ble_eq_true rfl) ⟨Nat.le_of_ble_eq_true rfl, Nat.le_of_ble_eq_true rfl⟩ dX11_between_24 (fun v S1 H locs hq hH => ?_)
      obtain ⟨r_7, rfl, e9, hp⟩ := hq
      rw [e9] at hH
      refine W.eq (g2 := F0 m 27 ls [.int r_7]) rfl ?_
      refine lv_aload_n (pc := 27) hx hb dX11_between_27 rfl (lv_at hl 0 rfl) ?_
      refine lv_iload_n (pc := 28) hx hb dX11_between_28 rfl (lv_at hl 2 rfl) ?_
      refine sx_V (pc := 29) (As := [.int p1]) (rest := [.int r_7]) B hH hl.1 (C_X11_packed G l th p1 _ _ hp) mi_X11_packed coX11 hk_th w_863 w_28 w_861 rfl rfl ⟨Nat.le_of_ble_eq_true rfl, Nat.le_of_ble_eq_true rfl⟩ (Nat.le_of_ble_eq_true rfl) ⟨Nat.le_of_ble_eq_true rfl, Nat.le_of_ble_eq_true rfl⟩ dX11_between_29 (fun v S1 H locs hq hH => ?_)
      obtain ⟨r_8, rfl, e9, hp⟩ := hq
      rw [e9] at hH
      refine W.eq (g2 := F0 m 32 ls [.int r_8, .int r_7]) rfl ?_
      refine lv_aload_n (pc := 32) hx hb dX11_between_32 rfl (lv_at hl 0 rfl) ?_
      refine sx_getR (pc := 33) (j := 7) B hH hk_th coX11 rfl w_463 rfl dX11_between_33 ?_
      refine W.eq (g2 := F0 m 36 ls [va_rf (gR S th 7), .int r_8, .int r_7]) rfl ?_
      obtain ⟨a_9, ha_9, hp⟩ := hp
      refine sx_nonnull (x := a_9) ha_9 ?_
      obtain ⟨hk_10, hp⟩ := hp
      refine sx_getI (pc := 36) (j := 0) B hH hk_10 coX0 rfl w_357 rfl dX11_between_36 ?_
      refine W.eq (g2 := F0 m 39 ls [.int (gI S a_9 0), .int r_8, .int r_7]) rfl ?_
      refine sx_S (pc := 39) (As := [.int r_7, .int r_8, .int (gI S a_9 0)]) (rest := []) B hH hl.1 (C_X4_moveBetween G l r_7 r_8 (gI S a_9 0) _ _ hp) mi_X4_moveBetween w_956 w_955 rfl rfl ⟨Nat.le_of_ble_eq_true rfl, Nat.le_of_ble_eq_true rfl⟩ (Nat.le_of_ble_eq_true rfl) ⟨Nat.le_of_ble_eq_true rfl, Nat.le_of_ble_eq_true rfl⟩ dX11_between_39 (fun v S1 H locs hq hH => ?_)
      obtain ⟨r_11, rfl, e9, hp⟩ := hq
      rw [e9] at hH
      refine W.eq (g2 := F0 m 42 ls [.int r_11]) rfl ?_
      refine lv_istore_n (pc := 42) (lv' := [(3, .int r_11), (0, .ref th), (1, .int p0), (2, .int p1)]) hx hb dX11_between_42 rfl hl (by decide) rfl (fun ls hl => ?_)
      refine lv_iload_n (pc := 43) hx hb dX11_between_43 rfl (lv_at hl 0 rfl) ?_
      refine lv_iconst (pc := 44) (v := (-1)) hx hb dX11_between_44 (by decide) ?_
      refine lv_icmp_ne (pc := 45) (tgt := 55) hx hb dX11_between_45 (by decide) (fun cc_12 => ?_) (fun cc_12 => ?_)
      · have hp := hp.1 cc_12
        refine lv_aload_n (pc := 55) hx hb dX11_between_55 rfl (lv_at hl 1 rfl) ?_
        refine lv_iload_n (pc := 56) hx hb dX11_between_56 rfl (lv_at hl 0 rfl) ?_
        refine lv_aload_n (pc := 57) hx hb dX11_between_57 rfl (lv_at hl 1 rfl) ?_
        refine sx_getR (pc := 58) (j := 7) B hH hk_th coX11 rfl w_463 rfl dX11_between_58 ?_
        refine W.eq (g2 := F0 m 61 ls [va_rf (gR S th 7), .int r_11, .ref th]) rfl ?_
        refine sx_nonnull (x := a_9) ha_9 ?_
        refine sx_getI (pc := 61) (j := 0) B hH hk_10 coX0 rfl w_357 rfl dX11_between_61 ?_
        refine W.eq (g2 := F0 m 64 ls [.int (gI S a_9 0), .int r_11, .ref th]) rfl ?_
        refine sx_S (pc := 64) (As := [.int r_11, .int (gI S a_9 0)]) (rest := [.ref th]) B hH hl.1 (C_X4_placesOf G l r_11 (gI S a_9 0) _ _ hp) mi_X4_placesOf w_960 w_959 rfl rfl ⟨Nat.le_of_ble_eq_true rfl, Nat.le_of_ble_eq_true rfl⟩ (Nat.le_of_ble_eq_true rfl) ⟨Nat.le_of_ble_eq_true rfl, Nat.le_of_ble_eq_true rfl⟩ dX11_between_64 (fun v S1 H locs hq hH => ?_)
        obtain ⟨r_13, rfl, e9, hp⟩ := hq
        rw [e9] at hH
        refine W.eq (g2 := F0 m 67 ls [.int r_13, .ref th]) rfl ?_
        refine sx_V (pc := 67) (As := [.int r_13]) (rest := []) B hH hl.1 (C_X11_answer G l th r_13 _ _ hp) mi_X11_answer coX11 hk_th w_740 w_16 w_738 rfl rfl ⟨Nat.le_of_ble_eq_true rfl, Nat.le_of_ble_eq_true rfl⟩ (Nat.le_of_ble_eq_true rfl) ⟨Nat.le_of_ble_eq_true rfl, Nat.le_of_ble_eq_true rfl⟩ dX11_between_67 (fun v S1 H locs hq hH => ?_)
        obtain ⟨r_14, F_14, rfl, e9, hp⟩ := hq
        rw [e9] at hH
        have hH : Hp G (FA S s.heap.size) s.heap (wI S F_14) H locs := hH
        refine W.eq (g2 := F0 m 70 ls [.int r_14]) rfl ?_
        exact sx_iret (pc := 70) B hH hr hlk (by rw [← hQQ]; exact ⟨_, F_14, rfl, rfl, hp⟩) (Nat.le_of_ble_eq_true rfl) (Nat.le_of_ble_eq_true rfl) dX11_between_70
      · have hp := hp.2 cc_12
        refine lv_aload_n (pc := 48) hx hb dX11_between_48 rfl (lv_at hl 1 rfl) ?_
        refine lv_bipush (pc := 49) (v := 7) hx hb dX11_between_49 (by decide) ?_
        refine sx_V (pc := 51) (As := [.int 7]) (rest := []) B hH hl.1 (C_X11_refuse G l th 7 _ _ hp) mi_X11_refuse coX11 hk_th w_570 w_3 w_568 rfl rfl ⟨Nat.le_of_ble_eq_true rfl, Nat.le_of_ble_eq_true rfl⟩ (Nat.le_of_ble_eq_true rfl) ⟨Nat.le_of_ble_eq_true rfl, Nat.le_of_ble_eq_true rfl⟩ dX11_between_51 (fun v S1 H locs hq hH => ?_)
        obtain ⟨r_15, F_15, rfl, e9, hp⟩ := hq
        rw [e9] at hH
        have hH : Hp G (FA S s.heap.size) s.heap (wI S F_15) H locs := hH
        refine W.eq (g2 := F0 m 54 ls [.int r_15]) rfl ?_
        exact sx_iret (pc := 54) B hH hr hlk (by rw [← hQQ]; exact ⟨_, F_15, rfl, rfl, hp⟩) (Nat.le_of_ble_eq_true rfl) (Nat.le_of_ble_eq_true rfl) dX11_between_54
    · have hp := hp.2 cc_6
      exact kj_3  _ _ _ hp hH (lv_sub hl [0] rfl)
theorem dX11_isMethod_0 : decode cX11_isMethod 0 = .ok (.iload_n 1, 1) := by decide +kernel
theorem dX11_isMethod_1 : decode cX11_isMethod 1 = .ok (.ifCond .lt 19, 3) := by decide +kernel
theorem dX11_isMethod_4 : decode cX11_isMethod 4 = .ok (.iload_n 1, 1) := by decide +kernel
theorem dX11_isMethod_5 : decode cX11_isMethod 5 = .ok (.aload_n 0, 1) := by decide +kernel
theorem dX11_isMethod_6 : decode cX11_isMethod 6 = .ok (.getfield 62, 3) := by decide +kernel
theorem dX11_isMethod_9 : decode cX11_isMethod 9 = .ok (.getfield 166, 3) := by decide +kernel
theorem dX11_isMethod_12 : decode cX11_isMethod 12 = .ok (.arraylength, 1) := by decide +kernel
theorem dX11_isMethod_13 : decode cX11_isMethod 13 = .ok (.if_icmp .ge 7, 3) := by decide +kernel
theorem dX11_isMethod_16 : decode cX11_isMethod 16 = .ok (.iconst 1, 1) := by decide +kernel
theorem dX11_isMethod_17 : decode cX11_isMethod 17 = .ok (.goto 4, 3) := by decide +kernel
theorem dX11_isMethod_20 : decode cX11_isMethod 20 = .ok (.iconst 0, 1) := by decide +kernel
theorem dX11_isMethod_21 : decode cX11_isMethod 21 = .ok (.ireturn, 1) := by decide +kernel
theorem mi_X11_isMethod : MI yX11_isMethod cX11_isMethod 2 (some FieldType.boolean) 1 := ⟨w_969, w_105, by decide +kernel, by decide +kernel, by decide +kernel⟩
set_option maxRecDepth 100000 in
set_option maxHeartbeats 4000000 in
theorem C_X11_isMethod (G : GG) (l : Launch) (th : Nat) (p0 : Int32) (S : St) (Q : Int32 → Prop) (hp : P_X11_isMethod th p0 S Q) : Ctr G l yX11_isMethod cX11_isMethod 2 (some FieldType.boolean) 0 0 0 0 [.ref th, .int p0] S (fun (v : Option Value) (S9 : St) => ∃ (r : Int32), v = some (.int r) ∧ S9 = S ∧ Q r ) := by
  generalize hQQ : (fun (v : Option Value) (S9 : St) => ∃ (r : Int32), v = some (.int r) ∧ S9 = S ∧ Q r ) = QQ
  unfold P_X11_isMethod at hp
  refine Ctr.of (by decide) (Nat.le_of_ble_eq_true rfl) ?_
  intro p e s m args below meth c ls B hr hlk hin hl hH
  generalize hlocs0 : ([] : List Loc) = locs at hH ⊢
  have hx := B.1
  have hb := B.2.1
  have hl : lv_has ls 2 [(0, .ref th), (1, .int p0)] := hl
  obtain ⟨hk_th, hp⟩ := hp
  refine lv_iload_n (pc := 0) hx hb dX11_isMethod_0 rfl (lv_at hl 1 rfl) ?_
  refine lv_if_lt (pc := 1) (tgt := 20) hx hb dX11_isMethod_1 (by decide) (fun cc_1 => ?_) (fun cc_1 => ?_)
  · have hp := hp.1 cc_1
    refine lv_iconst (pc := 20) (v := 0) hx hb dX11_isMethod_20 (by decide) ?_
    exact sx_zret (pc := 21) B hH hr hlk (Or.inl rfl) (by rw [← hQQ]; exact ⟨_, rfl, rfl, hp⟩) (Nat.le_of_ble_eq_true rfl) (Nat.le_of_ble_eq_true rfl) dX11_isMethod_21
  · have hp := hp.2 cc_1
    refine lv_iload_n (pc := 4) hx hb dX11_isMethod_4 rfl (lv_at hl 1 rfl) ?_
    refine lv_aload_n (pc := 5) hx hb dX11_isMethod_5 rfl (lv_at hl 0 rfl) ?_
    refine sx_getR (pc := 6) (j := 7) B hH hk_th coX11 rfl w_463 rfl dX11_isMethod_6 ?_
    refine W.eq (g2 := F0 m 9 ls [va_rf (gR S th 7), .int p0]) rfl ?_
    obtain ⟨a_2, ha_2, hp⟩ := hp
    refine sx_nonnull (x := a_2) ha_2 ?_
    obtain ⟨hk_3, hp⟩ := hp
    refine sx_getR (pc := 9) (j := 3) B hH hk_3 coX0 rfl w_366 rfl dX11_isMethod_9 ?_
    refine W.eq (g2 := F0 m 12 ls [va_rf (gR S a_2 3), .int p0]) rfl ?_
    obtain ⟨a_4, ha_4, hp⟩ := hp
    refine sx_nonnull (x := a_4) ha_4 ?_
    obtain ⟨hk_5, hp⟩ := hp
    refine sx_alen (pc := 12) B hH hk_5 (by decide) (by decide) dX11_isMethod_12 ?_
    refine W.eq (g2 := F0 m 13 ls [.int (nI (ln S a_4)), .int p0]) rfl ?_
    refine lv_icmp_ge (pc := 13) (tgt := 20) hx hb dX11_isMethod_13 (by decide) (fun cc_6 => ?_) (fun cc_6 => ?_)
    · have hp := hp.1 cc_6
      refine lv_iconst (pc := 20) (v := 0) hx hb dX11_isMethod_20 (by decide) ?_
      exact sx_zret (pc := 21) B hH hr hlk (Or.inl rfl) (by rw [← hQQ]; exact ⟨_, rfl, rfl, hp⟩) (Nat.le_of_ble_eq_true rfl) (Nat.le_of_ble_eq_true rfl) dX11_isMethod_21
    · have hp := hp.2 cc_6
      refine lv_iconst (pc := 16) (v := 1) hx hb dX11_isMethod_16 (by decide) ?_
      refine lv_goto (pc := 17) (tgt := 21) hx hb dX11_isMethod_17 (by decide) ?_
      exact sx_zret (pc := 21) B hH hr hlk (Or.inr rfl) (by rw [← hQQ]; exact ⟨_, rfl, rfl, hp⟩) (Nat.le_of_ble_eq_true rfl) (Nat.le_of_ble_eq_true rfl) dX11_isMethod_21
theorem dX11_changes_0 : decode cX11_changes 0 = .ok (.aload_n 0, 1) := by decide +kernel
theorem dX11_changes_1 : decode cX11_changes 1 = .ok (.iload_n 1, 1) := by decide +kernel
theorem dX11_changes_2 : decode cX11_changes 2 = .ok (.invokevirtual 256, 3) := by decide +kernel
theorem dX11_changes_5 : decode cX11_changes 5 = .ok (.ifCond .ne 9, 3) := by decide +kernel
theorem dX11_changes_8 : decode cX11_changes 8 = .ok (.aload_n 0, 1) := by decide +kernel
theorem dX11_changes_9 : decode cX11_changes 9 = .ok (.iconst 1, 1) := by decide +kernel
theorem dX11_changes_10 : decode cX11_changes 10 = .ok (.invokevirtual 139, 3) := by decide +kernel
theorem dX11_changes_13 : decode cX11_changes 13 = .ok (.ireturn, 1) := by decide +kernel
theorem dX11_changes_14 : decode cX11_changes 14 = .ok (.aload_n 0, 1) := by decide +kernel
theorem dX11_changes_15 : decode cX11_changes 15 = .ok (.aload_n 0, 1) := by decide +kernel
theorem dX11_changes_16 : decode cX11_changes 16 = .ok (.getfield 62, 3) := by decide +kernel
theorem dX11_changes_19 : decode cX11_changes 19 = .ok (.getfield 166, 3) := by decide +kernel
theorem dX11_changes_22 : decode cX11_changes 22 = .ok (.iload_n 1, 1) := by decide +kernel
theorem dX11_changes_23 : decode cX11_changes 23 = .ok (.aaload, 1) := by decide +kernel
theorem dX11_changes_24 : decode cX11_changes 24 = .ok (.invokevirtual 259, 3) := by decide +kernel
theorem dX11_changes_27 : decode cX11_changes 27 = .ok (.invokevirtual 170, 3) := by decide +kernel
theorem dX11_changes_30 : decode cX11_changes 30 = .ok (.ireturn, 1) := by decide +kernel
theorem mi_X11_changes : MI yX11_changes cX11_changes 2 (some FieldType.int) 1 := ⟨w_965, w_105, by decide +kernel, by decide +kernel, by decide +kernel⟩
set_option maxRecDepth 100000 in
set_option maxHeartbeats 4000000 in
theorem C_X11_changes (G : GG) (l : Launch) (th : Nat) (p0 : Int32) (S : St) (Q : Int32 → (Nat → Nat → Int32) → Prop) (hp : P_X11_changes th p0 S Q) : Ctr G l yX11_changes cX11_changes 2 (some FieldType.int) 1 21 0 0 [.ref th, .int p0] S (fun (v : Option Value) (S9 : St) => ∃ (r : Int32) (I9 : Nat → Nat → Int32), v = some (.int r) ∧ S9 = wI S I9 ∧ Q r I9) := by
  generalize hQQ : (fun (v : Option Value) (S9 : St) => ∃ (r : Int32) (I9 : Nat → Nat → Int32), v = some (.int r) ∧ S9 = wI S I9 ∧ Q r I9) = QQ
  unfold P_X11_changes at hp
  refine Ctr.of (by decide) (Nat.le_of_ble_eq_true rfl) ?_
  intro p e s m args below meth c ls B hr hlk hin hl hH
  generalize hlocs0 : ([] : List Loc) = locs at hH ⊢
  have hx := B.1
  have hb := B.2.1
  have hl : lv_has ls 2 [(0, .ref th), (1, .int p0)] := hl
  obtain ⟨hk_th, hp⟩ := hp
  refine lv_aload_n (pc := 0) hx hb dX11_changes_0 rfl (lv_at hl 0 rfl) ?_
  refine lv_iload_n (pc := 1) hx hb dX11_changes_1 rfl (lv_at hl 1 rfl) ?_
  refine sx_V (pc := 2) (As := [.int p0]) (rest := []) B hH hl.1 (C_X11_isMethod G l th p0 _ _ hp) mi_X11_isMethod coX11 hk_th w_968 w_31 w_966 rfl rfl ⟨Nat.le_of_ble_eq_true rfl, Nat.le_of_ble_eq_true rfl⟩ (Nat.le_of_ble_eq_true rfl) ⟨Nat.le_of_ble_eq_true rfl, Nat.le_of_ble_eq_true rfl⟩ dX11_changes_2 (fun v S1 H locs hq hH => ?_)
  obtain ⟨r_1, rfl, e9, hp⟩ := hq
  rw [e9] at hH
  refine W.eq (g2 := F0 m 5 ls [.int r_1]) rfl ?_
  refine lv_if_ne (pc := 5) (tgt := 14) hx hb dX11_changes_5 (by decide) (fun cc_2 => ?_) (fun cc_2 => ?_)
  · have hp := hp.1 cc_2
    refine lv_aload_n (pc := 14) hx hb dX11_changes_14 rfl (lv_at hl 0 rfl) ?_
    refine lv_aload_n (pc := 15) hx hb dX11_changes_15 rfl (lv_at hl 0 rfl) ?_
    refine sx_getR (pc := 16) (j := 7) B hH hk_th coX11 rfl w_463 rfl dX11_changes_16 ?_
    refine W.eq (g2 := F0 m 19 ls [va_rf (gR S th 7), .ref th]) rfl ?_
    obtain ⟨a_3, ha_3, hp⟩ := hp
    refine sx_nonnull (x := a_3) ha_3 ?_
    obtain ⟨hk_4, hp⟩ := hp
    refine sx_getR (pc := 19) (j := 3) B hH hk_4 coX0 rfl w_366 rfl dX11_changes_19 ?_
    refine W.eq (g2 := F0 m 22 ls [va_rf (gR S a_3 3), .ref th]) rfl ?_
    obtain ⟨a_5, ha_5, hp⟩ := hp
    refine sx_nonnull (x := a_5) ha_5 ?_
    refine lv_iload_n (pc := 22) hx hb dX11_changes_22 rfl (lv_at hl 1 rfl) ?_
    obtain ⟨hk_6, hp⟩ := hp
    obtain ⟨hn_7, hp⟩ := hp
    refine sx_aald (pc := 23) B hH hk_6 (by decide) (by decide) hn_7 dX11_changes_23 ?_
    refine W.eq (g2 := F0 m 24 ls [va_rf (gR S a_5 p0.toNatClampNeg), .ref th]) rfl ?_
    obtain ⟨a_8, ha_8, hp⟩ := hp
    refine sx_nonnull (x := a_8) ha_8 ?_
    obtain ⟨hk_9, hp⟩ := hp
    refine sx_V (pc := 24) (As := []) (rest := [.ref th]) B hH hl.1 (C_X3_length G l a_8 _ _ hp) mi_X3_length coX3 hk_9 w_784 w_785 w_970 rfl rfl ⟨Nat.le_of_ble_eq_true rfl, Nat.le_of_ble_eq_true rfl⟩ (Nat.le_of_ble_eq_true rfl) ⟨Nat.le_of_ble_eq_true rfl, Nat.le_of_ble_eq_true rfl⟩ dX11_changes_24 (fun v S1 H locs hq hH => ?_)
    obtain ⟨r_10, rfl, e9, hp⟩ := hq
    rw [e9] at hH
    refine W.eq (g2 := F0 m 27 ls [.int r_10, .ref th]) rfl ?_
    refine sx_V (pc := 27) (As := [.int r_10]) (rest := []) B hH hl.1 (C_X11_answer G l th r_10 _ _ hp) mi_X11_answer coX11 hk_th w_740 w_16 w_738 rfl rfl ⟨Nat.le_of_ble_eq_true rfl, Nat.le_of_ble_eq_true rfl⟩ (Nat.le_of_ble_eq_true rfl) ⟨Nat.le_of_ble_eq_true rfl, Nat.le_of_ble_eq_true rfl⟩ dX11_changes_27 (fun v S1 H locs hq hH => ?_)
    obtain ⟨r_11, F_11, rfl, e9, hp⟩ := hq
    rw [e9] at hH
    have hH : Hp G (FA S s.heap.size) s.heap (wI S F_11) H locs := hH
    refine W.eq (g2 := F0 m 30 ls [.int r_11]) rfl ?_
    exact sx_iret (pc := 30) B hH hr hlk (by rw [← hQQ]; exact ⟨_, F_11, rfl, rfl, hp⟩) (Nat.le_of_ble_eq_true rfl) (Nat.le_of_ble_eq_true rfl) dX11_changes_30
  · have hp := hp.2 cc_2
    refine lv_aload_n (pc := 8) hx hb dX11_changes_8 rfl (lv_at hl 0 rfl) ?_
    refine lv_iconst (pc := 9) (v := 1) hx hb dX11_changes_9 (by decide) ?_
    refine sx_V (pc := 10) (As := [.int 1]) (rest := []) B hH hl.1 (C_X11_refuse G l th 1 _ _ hp) mi_X11_refuse coX11 hk_th w_570 w_3 w_568 rfl rfl ⟨Nat.le_of_ble_eq_true rfl, Nat.le_of_ble_eq_true rfl⟩ (Nat.le_of_ble_eq_true rfl) ⟨Nat.le_of_ble_eq_true rfl, Nat.le_of_ble_eq_true rfl⟩ dX11_changes_10 (fun v S1 H locs hq hH => ?_)
    obtain ⟨r_12, F_12, rfl, e9, hp⟩ := hq
    rw [e9] at hH
    have hH : Hp G (FA S s.heap.size) s.heap (wI S F_12) H locs := hH
    refine W.eq (g2 := F0 m 13 ls [.int r_12]) rfl ?_
    exact sx_iret (pc := 13) B hH hr hlk (by rw [← hQQ]; exact ⟨_, F_12, rfl, rfl, hp⟩) (Nat.le_of_ble_eq_true rfl) (Nat.le_of_ble_eq_true rfl) dX11_changes_13
theorem dX11_isCall_0 : decode cX11_isCall 0 = .ok (.iload_n 0, 1) := by decide +kernel
theorem dX11_isCall_1 : decode cX11_isCall 1 = .ok (.ifCond .lt 12, 3) := by decide +kernel
theorem dX11_isCall_4 : decode cX11_isCall 4 = .ok (.iload_n 0, 1) := by decide +kernel
theorem dX11_isCall_5 : decode cX11_isCall 5 = .ok (.iconst 3, 1) := by decide +kernel
theorem dX11_isCall_6 : decode cX11_isCall 6 = .ok (.if_icmp .ge 7, 3) := by decide +kernel
theorem dX11_isCall_9 : decode cX11_isCall 9 = .ok (.iconst 1, 1) := by decide +kernel
theorem dX11_isCall_10 : decode cX11_isCall 10 = .ok (.goto 4, 3) := by decide +kernel
theorem dX11_isCall_13 : decode cX11_isCall 13 = .ok (.iconst 0, 1) := by decide +kernel
theorem dX11_isCall_14 : decode cX11_isCall 14 = .ok (.ireturn, 1) := by decide +kernel
theorem mi_X11_isCall : MI yX11_isCall cX11_isCall 1 (some FieldType.boolean) 1 := ⟨w_977, w_105, by decide +kernel, by decide +kernel, by decide +kernel⟩
set_option maxRecDepth 100000 in
set_option maxHeartbeats 4000000 in
theorem C_X11_isCall (G : GG) (l : Launch) (p0 : Int32) (S : St) (Q : Int32 → Prop) (hp : P_X11_isCall p0 Q) : Ctr G l yX11_isCall cX11_isCall 1 (some FieldType.boolean) 0 0 0 0 [.int p0] S (fun (v : Option Value) (S9 : St) => ∃ (r : Int32), v = some (.int r) ∧ S9 = S ∧ Q r ) := by
  generalize hQQ : (fun (v : Option Value) (S9 : St) => ∃ (r : Int32), v = some (.int r) ∧ S9 = S ∧ Q r ) = QQ
  unfold P_X11_isCall at hp
  refine Ctr.of (by decide) (Nat.le_of_ble_eq_true rfl) ?_
  intro p e s m args below meth c ls B hr hlk hin hl hH
  generalize hlocs0 : ([] : List Loc) = locs at hH ⊢
  have hx := B.1
  have hb := B.2.1
  have hl : lv_has ls 1 [(0, .int p0)] := hl
  refine lv_iload_n (pc := 0) hx hb dX11_isCall_0 rfl (lv_at hl 0 rfl) ?_
  refine lv_if_lt (pc := 1) (tgt := 13) hx hb dX11_isCall_1 (by decide) (fun cc_1 => ?_) (fun cc_1 => ?_)
  · have hp := hp.1 cc_1
    refine lv_iconst (pc := 13) (v := 0) hx hb dX11_isCall_13 (by decide) ?_
    exact sx_zret (pc := 14) B hH hr hlk (Or.inl rfl) (by rw [← hQQ]; exact ⟨_, rfl, rfl, hp⟩) (Nat.le_of_ble_eq_true rfl) (Nat.le_of_ble_eq_true rfl) dX11_isCall_14
  · have hp := hp.2 cc_1
    refine lv_iload_n (pc := 4) hx hb dX11_isCall_4 rfl (lv_at hl 0 rfl) ?_
    refine lv_iconst (pc := 5) (v := 3) hx hb dX11_isCall_5 (by decide) ?_
    refine lv_icmp_ge (pc := 6) (tgt := 13) hx hb dX11_isCall_6 (by decide) (fun cc_2 => ?_) (fun cc_2 => ?_)
    · have hp := hp.1 cc_2
      refine lv_iconst (pc := 13) (v := 0) hx hb dX11_isCall_13 (by decide) ?_
      exact sx_zret (pc := 14) B hH hr hlk (Or.inl rfl) (by rw [← hQQ]; exact ⟨_, rfl, rfl, hp⟩) (Nat.le_of_ble_eq_true rfl) (Nat.le_of_ble_eq_true rfl) dX11_isCall_14
    · have hp := hp.2 cc_2
      refine lv_iconst (pc := 9) (v := 1) hx hb dX11_isCall_9 (by decide) ?_
      refine lv_goto (pc := 10) (tgt := 14) hx hb dX11_isCall_10 (by decide) ?_
      exact sx_zret (pc := 14) B hH hr hlk (Or.inr rfl) (by rw [← hQQ]; exact ⟨_, rfl, rfl, hp⟩) (Nat.le_of_ble_eq_true rfl) (Nat.le_of_ble_eq_true rfl) dX11_isCall_14
theorem dX11_change_0 : decode cX11_change 0 = .ok (.aload_n 0, 1) := by decide +kernel
theorem dX11_change_1 : decode cX11_change 1 = .ok (.iload_n 1, 1) := by decide +kernel
theorem dX11_change_2 : decode cX11_change 2 = .ok (.invokevirtual 256, 3) := by decide +kernel
theorem dX11_change_5 : decode cX11_change 5 = .ok (.ifCond .eq 30, 3) := by decide +kernel
theorem dX11_change_8 : decode cX11_change 8 = .ok (.iload_n 2, 1) := by decide +kernel
theorem dX11_change_9 : decode cX11_change 9 = .ok (.invokestatic 262, 3) := by decide +kernel
theorem dX11_change_12 : decode cX11_change 12 = .ok (.ifCond .eq 23, 3) := by decide +kernel
theorem dX11_change_15 : decode cX11_change 15 = .ok (.iload_n 3, 1) := by decide +kernel
theorem dX11_change_16 : decode cX11_change 16 = .ok (.ifCond .lt 19, 3) := by decide +kernel
theorem dX11_change_19 : decode cX11_change 19 = .ok (.iload_n 3, 1) := by decide +kernel
theorem dX11_change_20 : decode cX11_change 20 = .ok (.aload_n 0, 1) := by decide +kernel
theorem dX11_change_21 : decode cX11_change 21 = .ok (.getfield 62, 3) := by decide +kernel
theorem dX11_change_24 : decode cX11_change 24 = .ok (.getfield 166, 3) := by decide +kernel
theorem dX11_change_27 : decode cX11_change 27 = .ok (.iload_n 1, 1) := by decide +kernel
theorem dX11_change_28 : decode cX11_change 28 = .ok (.aaload, 1) := by decide +kernel
theorem dX11_change_29 : decode cX11_change 29 = .ok (.invokevirtual 259, 3) := by decide +kernel
theorem dX11_change_32 : decode cX11_change 32 = .ok (.if_icmp .lt 9, 3) := by decide +kernel
theorem dX11_change_35 : decode cX11_change 35 = .ok (.aload_n 0, 1) := by decide +kernel
theorem dX11_change_36 : decode cX11_change 36 = .ok (.iconst 1, 1) := by decide +kernel
theorem dX11_change_37 : decode cX11_change 37 = .ok (.invokevirtual 139, 3) := by decide +kernel
theorem dX11_change_40 : decode cX11_change 40 = .ok (.ireturn, 1) := by decide +kernel
theorem dX11_change_41 : decode cX11_change 41 = .ok (.aload_n 0, 1) := by decide +kernel
theorem dX11_change_42 : decode cX11_change 42 = .ok (.aload_n 0, 1) := by decide +kernel
theorem dX11_change_43 : decode cX11_change 43 = .ok (.getfield 62, 3) := by decide +kernel
theorem dX11_change_46 : decode cX11_change 46 = .ok (.getfield 166, 3) := by decide +kernel
theorem dX11_change_49 : decode cX11_change 49 = .ok (.iload_n 1, 1) := by decide +kernel
theorem dX11_change_50 : decode cX11_change 50 = .ok (.aaload, 1) := by decide +kernel
theorem dX11_change_51 : decode cX11_change 51 = .ok (.iload_n 2, 1) := by decide +kernel
theorem dX11_change_52 : decode cX11_change 52 = .ok (.iload_n 3, 1) := by decide +kernel
theorem dX11_change_53 : decode cX11_change 53 = .ok (.invokevirtual 265, 3) := by decide +kernel
theorem dX11_change_56 : decode cX11_change 56 = .ok (.aload_n 0, 1) := by decide +kernel
theorem dX11_change_57 : decode cX11_change 57 = .ok (.getfield 62, 3) := by decide +kernel
theorem dX11_change_60 : decode cX11_change 60 = .ok (.getfield 188, 3) := by decide +kernel
theorem dX11_change_63 : decode cX11_change 63 = .ok (.invokestatic 253, 3) := by decide +kernel
theorem dX11_change_66 : decode cX11_change 66 = .ok (.invokevirtual 170, 3) := by decide +kernel
theorem dX11_change_69 : decode cX11_change 69 = .ok (.ireturn, 1) := by decide +kernel
theorem mi_X11_change : MI yX11_change cX11_change 4 (some FieldType.int) 3 := ⟨w_974, w_105, by decide +kernel, by decide +kernel, by decide +kernel⟩
set_option maxRecDepth 100000 in
set_option maxHeartbeats 4000000 in
theorem C_X11_change (G : GG) (l : Launch) (th : Nat) (p0 : Int32) (p1 : Int32) (p2 : Int32) (S : St) (Q : Int32 → (Nat → Nat → Int32) → Prop) (hp : P_X11_change th p0 p1 p2 S Q) : Ctr G l yX11_change cX11_change 4 (some FieldType.int) 1 23 0 0 [.ref th, .int p0, .int p1, .int p2] S (fun (v : Option Value) (S9 : St) => ∃ (r : Int32) (I9 : Nat → Nat → Int32), v = some (.int r) ∧ S9 = wI S I9 ∧ Q r I9) := by
  generalize hQQ : (fun (v : Option Value) (S9 : St) => ∃ (r : Int32) (I9 : Nat → Nat → Int32), v = some (.int r) ∧ S9 = wI S I9 ∧ Q r I9) = QQ
  unfold P_X11_change at hp
  refine Ctr.of (by decide) (Nat.le_of_ble_eq_true rfl) ?_
  intro p e s m args below meth c ls B hr hlk hin hl hH
  generalize hlocs0 : ([] : List Loc) = locs at hH ⊢
  have hx := B.1
  have hb := B.2.1
  have hl : lv_has ls 4 [(0, .ref th), (1, .int p0), (2, .int p1), (3, .int p2)] := hl
  obtain ⟨hk_th, hp⟩ := hp
  refine lv_aload_n (pc := 0) hx hb dX11_change_0 rfl (lv_at hl 0 rfl) ?_
  refine lv_iload_n (pc := 1) hx hb dX11_change_1 rfl (lv_at hl 1 rfl) ?_
  refine sx_V (pc := 2) (As := [.int p0]) (rest := []) B hH hl.1 (C_X11_isMethod G l th p0 _ _ hp) mi_X11_isMethod coX11 hk_th w_968 w_31 w_966 rfl rfl ⟨Nat.le_of_ble_eq_true rfl, Nat.le_of_ble_eq_true rfl⟩ (Nat.le_of_ble_eq_true rfl) ⟨Nat.le_of_ble_eq_true rfl, Nat.le_of_ble_eq_true rfl⟩ dX11_change_2 (fun v S1 H locs hq hH => ?_)
  obtain ⟨r_1, rfl, e9, hp⟩ := hq
  rw [e9] at hH
  refine W.eq (g2 := F0 m 5 ls [.int r_1]) rfl ?_
  obtain ⟨J_3, hj_3, hp⟩ := hp
  have kj_3 : ∀  (H : Heap) (locs : List Loc) (ls : Array Slot), J_3  → Hp G (FA S s.heap.size) s.heap S H locs → lv_has ls 4 [(0, .ref th)] → Wm G p l e { frames := 1, cells := 0, slots := 0, locals := 23 } s m args below meth c S QQ 0 0 H locs 0 0 (F0 m 35 ls []) := by
    intro  H locs ls hq9 hH hl
    have hp := hj_3  hq9
    refine lv_aload_n (pc := 35) hx hb dX11_change_35 rfl (lv_at hl 0 rfl) ?_
    refine lv_iconst (pc := 36) (v := 1) hx hb dX11_change_36 (by decide) ?_
    refine sx_V (pc := 37) (As := [.int 1]) (rest := []) B hH hl.1 (C_X11_refuse G l th 1 _ _ hp) mi_X11_refuse coX11 hk_th w_570 w_3 w_568 rfl rfl ⟨Nat.le_of_ble_eq_true rfl, Nat.le_of_ble_eq_true rfl⟩ (Nat.le_of_ble_eq_true rfl) ⟨Nat.le_of_ble_eq_true rfl, Nat.le_of_ble_eq_true rfl⟩ dX11_change_37 (fun v S1 H locs hq hH => ?_)
    obtain ⟨r_4, F_4, rfl, e9, hp⟩ := hq
    rw [e9] at hH
    have hH : Hp G (FA S s.heap.size) s.heap (wI S F_4) H locs := hH
    refine W.eq (g2 := F0 m 40 ls [.int r_4]) rfl ?_
    exact sx_iret (pc := 40) B hH hr hlk (by rw [← hQQ]; exact ⟨_, F_4, rfl, rfl, hp⟩) (Nat.le_of_ble_eq_true rfl) (Nat.le_of_ble_eq_true rfl) dX11_change_40
  refine lv_if_eq (pc := 5) (tgt := 35) hx hb dX11_change_5 (by decide) (fun cc_2 => ?_) (fun cc_2 => ?_)
  · have hp := hp.1 cc_2
    exact kj_3  _ _ _ hp hH (lv_sub hl [0] rfl)
  · have hp := hp.2 cc_2
    refine lv_iload_n (pc := 8) hx hb dX11_change_8 rfl (lv_at hl 2 rfl) ?_
    refine sx_S (pc := 9) (As := [.int p1]) (rest := []) B hH hl.1 (C_X11_isCall G l p1 _ _ hp) mi_X11_isCall w_976 w_975 rfl rfl ⟨Nat.le_of_ble_eq_true rfl, Nat.le_of_ble_eq_true rfl⟩ (Nat.le_of_ble_eq_true rfl) ⟨Nat.le_of_ble_eq_true rfl, Nat.le_of_ble_eq_true rfl⟩ dX11_change_9 (fun v S1 H locs hq hH => ?_)
    obtain ⟨r_5, rfl, e9, hp⟩ := hq
    rw [e9] at hH
    refine W.eq (g2 := F0 m 12 ls [.int r_5]) rfl ?_
    refine lv_if_eq (pc := 12) (tgt := 35) hx hb dX11_change_12 (by decide) (fun cc_6 => ?_) (fun cc_6 => ?_)
    · have hp := hp.1 cc_6
      exact kj_3  _ _ _ hp hH (lv_sub hl [0] rfl)
    · have hp := hp.2 cc_6
      refine lv_iload_n (pc := 15) hx hb dX11_change_15 rfl (lv_at hl 3 rfl) ?_
      refine lv_if_lt (pc := 16) (tgt := 35) hx hb dX11_change_16 (by decide) (fun cc_7 => ?_) (fun cc_7 => ?_)
      · have hp := hp.1 cc_7
        exact kj_3  _ _ _ hp hH (lv_sub hl [0] rfl)
      · have hp := hp.2 cc_7
        refine lv_iload_n (pc := 19) hx hb dX11_change_19 rfl (lv_at hl 3 rfl) ?_
        refine lv_aload_n (pc := 20) hx hb dX11_change_20 rfl (lv_at hl 0 rfl) ?_
        refine sx_getR (pc := 21) (j := 7) B hH hk_th coX11 rfl w_463 rfl dX11_change_21 ?_
        refine W.eq (g2 := F0 m 24 ls [va_rf (gR S th 7), .int p2]) rfl ?_
        obtain ⟨a_8, ha_8, hp⟩ := hp
        refine sx_nonnull (x := a_8) ha_8 ?_
        obtain ⟨hk_9, hp⟩ := hp
        refine sx_getR (pc := 24) (j := 3) B hH hk_9 coX0 rfl w_366 rfl dX11_change_24 ?_
        refine W.eq (g2 := F0 m 27 ls [va_rf (gR S a_8 3), .int p2]) rfl ?_
        obtain ⟨a_10, ha_10, hp⟩ := hp
        refine sx_nonnull (x := a_10) ha_10 ?_
        refine lv_iload_n (pc := 27) hx hb dX11_change_27 rfl (lv_at hl 1 rfl) ?_
        obtain ⟨hk_11, hp⟩ := hp
        obtain ⟨hn_12, hp⟩ := hp
        refine sx_aald (pc := 28) B hH hk_11 (by decide) (by decide) hn_12 dX11_change_28 ?_
        refine W.eq (g2 := F0 m 29 ls [va_rf (gR S a_10 p0.toNatClampNeg), .int p2]) rfl ?_
        obtain ⟨a_13, ha_13, hp⟩ := hp
        refine sx_nonnull (x := a_13) ha_13 ?_
        obtain ⟨hk_14, hp⟩ := hp
        refine sx_V (pc := 29) (As := []) (rest := [.int p2]) B hH hl.1 (C_X3_length G l a_13 _ _ hp) mi_X3_length coX3 hk_14 w_784 w_785 w_970 rfl rfl ⟨Nat.le_of_ble_eq_true rfl, Nat.le_of_ble_eq_true rfl⟩ (Nat.le_of_ble_eq_true rfl) ⟨Nat.le_of_ble_eq_true rfl, Nat.le_of_ble_eq_true rfl⟩ dX11_change_29 (fun v S1 H locs hq hH => ?_)
        obtain ⟨r_15, rfl, e9, hp⟩ := hq
        rw [e9] at hH
        refine W.eq (g2 := F0 m 32 ls [.int r_15, .int p2]) rfl ?_
        refine lv_icmp_lt (pc := 32) (tgt := 41) hx hb dX11_change_32 (by decide) (fun cc_16 => ?_) (fun cc_16 => ?_)
        · have hp := hp.1 cc_16
          refine lv_aload_n (pc := 41) hx hb dX11_change_41 rfl (lv_at hl 0 rfl) ?_
          refine lv_aload_n (pc := 42) hx hb dX11_change_42 rfl (lv_at hl 0 rfl) ?_
          refine sx_getR (pc := 43) (j := 7) B hH hk_th coX11 rfl w_463 rfl dX11_change_43 ?_
          refine W.eq (g2 := F0 m 46 ls [va_rf (gR S th 7), .ref th]) rfl ?_
          refine sx_nonnull (x := a_8) ha_8 ?_
          refine sx_getR (pc := 46) (j := 3) B hH hk_9 coX0 rfl w_366 rfl dX11_change_46 ?_
          refine W.eq (g2 := F0 m 49 ls [va_rf (gR S a_8 3), .ref th]) rfl ?_
          refine sx_nonnull (x := a_10) ha_10 ?_
          refine lv_iload_n (pc := 49) hx hb dX11_change_49 rfl (lv_at hl 1 rfl) ?_
          refine sx_aald (pc := 50) B hH hk_11 (by decide) (by decide) hn_12 dX11_change_50 ?_
          refine W.eq (g2 := F0 m 51 ls [va_rf (gR S a_10 p0.toNatClampNeg), .ref th]) rfl ?_
          refine sx_nonnull (x := a_13) ha_13 ?_
          refine lv_iload_n (pc := 51) hx hb dX11_change_51 rfl (lv_at hl 2 rfl) ?_
          refine lv_iload_n (pc := 52) hx hb dX11_change_52 rfl (lv_at hl 3 rfl) ?_
          refine sx_V (pc := 53) (As := [.int p1, .int p2]) (rest := [.ref th]) B hH hl.1 (C_X3_moveAt G l a_13 p1 p2 _ _ hp) mi_X3_moveAt coX3 hk_14 w_809 w_810 w_978 rfl rfl ⟨Nat.le_of_ble_eq_true rfl, Nat.le_of_ble_eq_true rfl⟩ (Nat.le_of_ble_eq_true rfl) ⟨Nat.le_of_ble_eq_true rfl, Nat.le_of_ble_eq_true rfl⟩ dX11_change_53 (fun v S1 H locs hq hH => ?_)
          obtain ⟨r_17, rfl, e9, hp⟩ := hq
          rw [e9] at hH
          refine W.eq (g2 := F0 m 56 ls [.int r_17, .ref th]) rfl ?_
          refine lv_aload_n (pc := 56) hx hb dX11_change_56 rfl (lv_at hl 0 rfl) ?_
          refine sx_getR (pc := 57) (j := 7) B hH hk_th coX11 rfl w_463 rfl dX11_change_57 ?_
          refine W.eq (g2 := F0 m 60 ls [va_rf (gR S th 7), .int r_17, .ref th]) rfl ?_
          refine sx_nonnull (x := a_8) ha_8 ?_
          refine sx_getI (pc := 60) (j := 0) B hH hk_9 coX0 rfl w_357 rfl dX11_change_60 ?_
          refine W.eq (g2 := F0 m 63 ls [.int (gI S a_8 0), .int r_17, .ref th]) rfl ?_
          refine sx_S (pc := 63) (As := [.int r_17, .int (gI S a_8 0)]) (rest := [.ref th]) B hH hl.1 (C_X4_placesOf G l r_17 (gI S a_8 0) _ _ hp) mi_X4_placesOf w_960 w_959 rfl rfl ⟨Nat.le_of_ble_eq_true rfl, Nat.le_of_ble_eq_true rfl⟩ (Nat.le_of_ble_eq_true rfl) ⟨Nat.le_of_ble_eq_true rfl, Nat.le_of_ble_eq_true rfl⟩ dX11_change_63 (fun v S1 H locs hq hH => ?_)
          obtain ⟨r_18, rfl, e9, hp⟩ := hq
          rw [e9] at hH
          refine W.eq (g2 := F0 m 66 ls [.int r_18, .ref th]) rfl ?_
          refine sx_V (pc := 66) (As := [.int r_18]) (rest := []) B hH hl.1 (C_X11_answer G l th r_18 _ _ hp) mi_X11_answer coX11 hk_th w_740 w_16 w_738 rfl rfl ⟨Nat.le_of_ble_eq_true rfl, Nat.le_of_ble_eq_true rfl⟩ (Nat.le_of_ble_eq_true rfl) ⟨Nat.le_of_ble_eq_true rfl, Nat.le_of_ble_eq_true rfl⟩ dX11_change_66 (fun v S1 H locs hq hH => ?_)
          obtain ⟨r_19, F_19, rfl, e9, hp⟩ := hq
          rw [e9] at hH
          have hH : Hp G (FA S s.heap.size) s.heap (wI S F_19) H locs := hH
          refine W.eq (g2 := F0 m 69 ls [.int r_19]) rfl ?_
          exact sx_iret (pc := 69) B hH hr hlk (by rw [← hQQ]; exact ⟨_, F_19, rfl, rfl, hp⟩) (Nat.le_of_ble_eq_true rfl) (Nat.le_of_ble_eq_true rfl) dX11_change_69
        · have hp := hp.2 cc_16
          exact kj_3  _ _ _ hp hH (lv_sub hl [0] rfl)
theorem dX11_head_0 : decode cX11_head 0 = .ok (.aload_n 0, 1) := by decide +kernel
theorem dX11_head_1 : decode cX11_head 1 = .ok (.iload_n 1, 1) := by decide +kernel
theorem dX11_head_2 : decode cX11_head 2 = .ok (.invokevirtual 256, 3) := by decide +kernel
theorem dX11_head_5 : decode cX11_head 5 = .ok (.ifCond .eq 10, 3) := by decide +kernel
theorem dX11_head_8 : decode cX11_head 8 = .ok (.iload_n 2, 1) := by decide +kernel
theorem dX11_head_9 : decode cX11_head 9 = .ok (.invokestatic 262, 3) := by decide +kernel
theorem dX11_head_12 : decode cX11_head 12 = .ok (.ifCond .ne 9, 3) := by decide +kernel
theorem dX11_head_15 : decode cX11_head 15 = .ok (.aload_n 0, 1) := by decide +kernel
theorem dX11_head_16 : decode cX11_head 16 = .ok (.iconst 1, 1) := by decide +kernel
theorem dX11_head_17 : decode cX11_head 17 = .ok (.invokevirtual 139, 3) := by decide +kernel
theorem dX11_head_20 : decode cX11_head 20 = .ok (.ireturn, 1) := by decide +kernel
theorem dX11_head_21 : decode cX11_head 21 = .ok (.aload_n 0, 1) := by decide +kernel
theorem dX11_head_22 : decode cX11_head 22 = .ok (.aload_n 0, 1) := by decide +kernel
theorem dX11_head_23 : decode cX11_head 23 = .ok (.aload_n 0, 1) := by decide +kernel
theorem dX11_head_24 : decode cX11_head 24 = .ok (.getfield 62, 3) := by decide +kernel
theorem dX11_head_27 : decode cX11_head 27 = .ok (.getfield 166, 3) := by decide +kernel
theorem dX11_head_30 : decode cX11_head 30 = .ok (.iload_n 1, 1) := by decide +kernel
theorem dX11_head_31 : decode cX11_head 31 = .ok (.aaload, 1) := by decide +kernel
theorem dX11_head_32 : decode cX11_head 32 = .ok (.getfield 268, 3) := by decide +kernel
theorem dX11_head_35 : decode cX11_head 35 = .ok (.iload_n 2, 1) := by decide +kernel
theorem dX11_head_36 : decode cX11_head 36 = .ok (.iaload, 1) := by decide +kernel
theorem dX11_head_37 : decode cX11_head 37 = .ok (.invokevirtual 216, 3) := by decide +kernel
theorem dX11_head_40 : decode cX11_head 40 = .ok (.invokevirtual 170, 3) := by decide +kernel
theorem dX11_head_43 : decode cX11_head 43 = .ok (.ireturn, 1) := by decide +kernel
theorem mi_X11_head : MI yX11_head cX11_head 3 (some FieldType.int) 2 := ⟨w_982, w_105, by decide +kernel, by decide +kernel, by decide +kernel⟩
set_option maxRecDepth 100000 in
set_option maxHeartbeats 4000000 in
theorem C_X11_head (G : GG) (l : Launch) (th : Nat) (p0 : Int32) (p1 : Int32) (S : St) (Q : Int32 → (Nat → Nat → Int32) → Prop) (hp : P_X11_head th p0 p1 S Q) : Ctr G l yX11_head cX11_head 3 (some FieldType.int) 2 46 0 0 [.ref th, .int p0, .int p1] S (fun (v : Option Value) (S9 : St) => ∃ (r : Int32) (I9 : Nat → Nat → Int32), v = some (.int r) ∧ S9 = wI S I9 ∧ Q r I9) := by
  generalize hQQ : (fun (v : Option Value) (S9 : St) => ∃ (r : Int32) (I9 : Nat → Nat → Int32), v = some (.int r) ∧ S9 = wI S I9 ∧ Q r I9) = QQ
  unfold P_X11_head at hp
  refine Ctr.of (by decide) (Nat.le_of_ble_eq_true rfl) ?_
  intro p e s m args below meth c ls B hr hlk hin hl hH
  generalize hlocs0 : ([] : List Loc) = locs at hH ⊢
  have hx := B.1
  have hb := B.2.1
  have hl : lv_has ls 3 [(0, .ref th), (1, .int p0), (2, .int p1)] := hl
  obtain ⟨hk_th, hp⟩ := hp
  refine lv_aload_n (pc := 0) hx hb dX11_head_0 rfl (lv_at hl 0 rfl) ?_
  refine lv_iload_n (pc := 1) hx hb dX11_head_1 rfl (lv_at hl 1 rfl) ?_
  refine sx_V (pc := 2) (As := [.int p0]) (rest := []) B hH hl.1 (C_X11_isMethod G l th p0 _ _ hp) mi_X11_isMethod coX11 hk_th w_968 w_31 w_966 rfl rfl ⟨Nat.le_of_ble_eq_true rfl, Nat.le_of_ble_eq_true rfl⟩ (Nat.le_of_ble_eq_true rfl) ⟨Nat.le_of_ble_eq_true rfl, Nat.le_of_ble_eq_true rfl⟩ dX11_head_2 (fun v S1 H locs hq hH => ?_)
  obtain ⟨r_1, rfl, e9, hp⟩ := hq
  rw [e9] at hH
  refine W.eq (g2 := F0 m 5 ls [.int r_1]) rfl ?_
  obtain ⟨J_3, hj_3, hp⟩ := hp
  have kj_3 : ∀  (H : Heap) (locs : List Loc) (ls : Array Slot), J_3  → Hp G (FA S s.heap.size) s.heap S H locs → lv_has ls 3 [(0, .ref th)] → Wm G p l e { frames := 2, cells := 0, slots := 0, locals := 46 } s m args below meth c S QQ 0 0 H locs 0 0 (F0 m 15 ls []) := by
    intro  H locs ls hq9 hH hl
    have hp := hj_3  hq9
    refine lv_aload_n (pc := 15) hx hb dX11_head_15 rfl (lv_at hl 0 rfl) ?_
    refine lv_iconst (pc := 16) (v := 1) hx hb dX11_head_16 (by decide) ?_
    refine sx_V (pc := 17) (As := [.int 1]) (rest := []) B hH hl.1 (C_X11_refuse G l th 1 _ _ hp) mi_X11_refuse coX11 hk_th w_570 w_3 w_568 rfl rfl ⟨Nat.le_of_ble_eq_true rfl, Nat.le_of_ble_eq_true rfl⟩ (Nat.le_of_ble_eq_true rfl) ⟨Nat.le_of_ble_eq_true rfl, Nat.le_of_ble_eq_true rfl⟩ dX11_head_17 (fun v S1 H locs hq hH => ?_)
    obtain ⟨r_4, F_4, rfl, e9, hp⟩ := hq
    rw [e9] at hH
    have hH : Hp G (FA S s.heap.size) s.heap (wI S F_4) H locs := hH
    refine W.eq (g2 := F0 m 20 ls [.int r_4]) rfl ?_
    exact sx_iret (pc := 20) B hH hr hlk (by rw [← hQQ]; exact ⟨_, F_4, rfl, rfl, hp⟩) (Nat.le_of_ble_eq_true rfl) (Nat.le_of_ble_eq_true rfl) dX11_head_20
  refine lv_if_eq (pc := 5) (tgt := 15) hx hb dX11_head_5 (by decide) (fun cc_2 => ?_) (fun cc_2 => ?_)
  · have hp := hp.1 cc_2
    exact kj_3  _ _ _ hp hH (lv_sub hl [0] rfl)
  · have hp := hp.2 cc_2
    refine lv_iload_n (pc := 8) hx hb dX11_head_8 rfl (lv_at hl 2 rfl) ?_
    refine sx_S (pc := 9) (As := [.int p1]) (rest := []) B hH hl.1 (C_X11_isCall G l p1 _ _ hp) mi_X11_isCall w_976 w_975 rfl rfl ⟨Nat.le_of_ble_eq_true rfl, Nat.le_of_ble_eq_true rfl⟩ (Nat.le_of_ble_eq_true rfl) ⟨Nat.le_of_ble_eq_true rfl, Nat.le_of_ble_eq_true rfl⟩ dX11_head_9 (fun v S1 H locs hq hH => ?_)
    obtain ⟨r_5, rfl, e9, hp⟩ := hq
    rw [e9] at hH
    refine W.eq (g2 := F0 m 12 ls [.int r_5]) rfl ?_
    refine lv_if_ne (pc := 12) (tgt := 21) hx hb dX11_head_12 (by decide) (fun cc_6 => ?_) (fun cc_6 => ?_)
    · have hp := hp.1 cc_6
      refine lv_aload_n (pc := 21) hx hb dX11_head_21 rfl (lv_at hl 0 rfl) ?_
      refine lv_aload_n (pc := 22) hx hb dX11_head_22 rfl (lv_at hl 0 rfl) ?_
      refine lv_aload_n (pc := 23) hx hb dX11_head_23 rfl (lv_at hl 0 rfl) ?_
      refine sx_getR (pc := 24) (j := 7) B hH hk_th coX11 rfl w_463 rfl dX11_head_24 ?_
      refine W.eq (g2 := F0 m 27 ls [va_rf (gR S th 7), .ref th, .ref th]) rfl ?_
      obtain ⟨a_7, ha_7, hp⟩ := hp
      refine sx_nonnull (x := a_7) ha_7 ?_
      obtain ⟨hk_8, hp⟩ := hp
      refine sx_getR (pc := 27) (j := 3) B hH hk_8 coX0 rfl w_366 rfl dX11_head_27 ?_
      refine W.eq (g2 := F0 m 30 ls [va_rf (gR S a_7 3), .ref th, .ref th]) rfl ?_
      obtain ⟨a_9, ha_9, hp⟩ := hp
      refine sx_nonnull (x := a_9) ha_9 ?_
      refine lv_iload_n (pc := 30) hx hb dX11_head_30 rfl (lv_at hl 1 rfl) ?_
      obtain ⟨hk_10, hp⟩ := hp
      obtain ⟨hn_11, hp⟩ := hp
      refine sx_aald (pc := 31) B hH hk_10 (by decide) (by decide) hn_11 dX11_head_31 ?_
      refine W.eq (g2 := F0 m 32 ls [va_rf (gR S a_9 p0.toNatClampNeg), .ref th, .ref th]) rfl ?_
      obtain ⟨a_12, ha_12, hp⟩ := hp
      refine sx_nonnull (x := a_12) ha_12 ?_
      obtain ⟨hk_13, hp⟩ := hp
      refine sx_getR (pc := 32) (j := 4) B hH hk_13 coX3 rfl w_723 rfl dX11_head_32 ?_
      refine W.eq (g2 := F0 m 35 ls [va_rf (gR S a_12 4), .ref th, .ref th]) rfl ?_
      obtain ⟨a_14, ha_14, hp⟩ := hp
      refine sx_nonnull (x := a_14) ha_14 ?_
      refine lv_iload_n (pc := 35) hx hb dX11_head_35 rfl (lv_at hl 2 rfl) ?_
      obtain ⟨hk_15, hp⟩ := hp
      obtain ⟨hn_16, hp⟩ := hp
      refine sx_iald (pc := 36) B hH hk_15 hn_16 dX11_head_36 ?_
      refine W.eq (g2 := F0 m 37 ls [.int (gI S a_14 p1.toNatClampNeg), .ref th, .ref th]) rfl ?_
      refine sx_V (pc := 37) (As := [.int (gI S a_14 p1.toNatClampNeg)]) (rest := [.ref th]) B hH hl.1 (C_X11_numbered G l th (gI S a_14 p1.toNatClampNeg) _ _ hp) mi_X11_numbered coX11 hk_th w_885 w_30 w_883 rfl rfl ⟨Nat.le_of_ble_eq_true rfl, Nat.le_of_ble_eq_true rfl⟩ (Nat.le_of_ble_eq_true rfl) ⟨Nat.le_of_ble_eq_true rfl, Nat.le_of_ble_eq_true rfl⟩ dX11_head_37 (fun v S1 H locs hq hH => ?_)
      obtain ⟨r_17, rfl, e9, hp⟩ := hq
      rw [e9] at hH
      refine W.eq (g2 := F0 m 40 ls [.int r_17, .ref th]) rfl ?_
      refine sx_V (pc := 40) (As := [.int r_17]) (rest := []) B hH hl.1 (C_X11_answer G l th r_17 _ _ hp) mi_X11_answer coX11 hk_th w_740 w_16 w_738 rfl rfl ⟨Nat.le_of_ble_eq_true rfl, Nat.le_of_ble_eq_true rfl⟩ (Nat.le_of_ble_eq_true rfl) ⟨Nat.le_of_ble_eq_true rfl, Nat.le_of_ble_eq_true rfl⟩ dX11_head_40 (fun v S1 H locs hq hH => ?_)
      obtain ⟨r_18, F_18, rfl, e9, hp⟩ := hq
      rw [e9] at hH
      have hH : Hp G (FA S s.heap.size) s.heap (wI S F_18) H locs := hH
      refine W.eq (g2 := F0 m 43 ls [.int r_18]) rfl ?_
      exact sx_iret (pc := 43) B hH hr hlk (by rw [← hQQ]; exact ⟨_, F_18, rfl, rfl, hp⟩) (Nat.le_of_ble_eq_true rfl) (Nat.le_of_ble_eq_true rfl) dX11_head_43
    · have hp := hp.2 cc_6
      exact kj_3  _ _ _ hp hH (lv_sub hl [0] rfl)
theorem dX11_course_0 : decode cX11_course 0 = .ok (.aload_n 0, 1) := by decide +kernel
theorem dX11_course_1 : decode cX11_course 1 = .ok (.iload_n 1, 1) := by decide +kernel
theorem dX11_course_2 : decode cX11_course 2 = .ok (.invokevirtual 256, 3) := by decide +kernel
theorem dX11_course_5 : decode cX11_course 5 = .ok (.ifCond .eq 10, 3) := by decide +kernel
theorem dX11_course_8 : decode cX11_course 8 = .ok (.iload_n 2, 1) := by decide +kernel
theorem dX11_course_9 : decode cX11_course 9 = .ok (.invokestatic 262, 3) := by decide +kernel
theorem dX11_course_12 : decode cX11_course 12 = .ok (.ifCond .ne 9, 3) := by decide +kernel
theorem dX11_course_15 : decode cX11_course 15 = .ok (.aload_n 0, 1) := by decide +kernel
theorem dX11_course_16 : decode cX11_course 16 = .ok (.iconst 1, 1) := by decide +kernel
theorem dX11_course_17 : decode cX11_course 17 = .ok (.invokevirtual 139, 3) := by decide +kernel
theorem dX11_course_20 : decode cX11_course 20 = .ok (.ireturn, 1) := by decide +kernel
theorem dX11_course_21 : decode cX11_course 21 = .ok (.aload_n 0, 1) := by decide +kernel
theorem dX11_course_22 : decode cX11_course 22 = .ok (.aload_n 0, 1) := by decide +kernel
theorem dX11_course_23 : decode cX11_course 23 = .ok (.getfield 62, 3) := by decide +kernel
theorem dX11_course_26 : decode cX11_course 26 = .ok (.getfield 166, 3) := by decide +kernel
theorem dX11_course_29 : decode cX11_course 29 = .ok (.iload_n 1, 1) := by decide +kernel
theorem dX11_course_30 : decode cX11_course 30 = .ok (.aaload, 1) := by decide +kernel
theorem dX11_course_31 : decode cX11_course 31 = .ok (.getfield 268, 3) := by decide +kernel
theorem dX11_course_34 : decode cX11_course 34 = .ok (.iload_n 2, 1) := by decide +kernel
theorem dX11_course_35 : decode cX11_course 35 = .ok (.iaload, 1) := by decide +kernel
theorem dX11_course_36 : decode cX11_course 36 = .ok (.aload_n 0, 1) := by decide +kernel
theorem dX11_course_37 : decode cX11_course 37 = .ok (.getfield 62, 3) := by decide +kernel
theorem dX11_course_40 : decode cX11_course 40 = .ok (.getfield 188, 3) := by decide +kernel
theorem dX11_course_43 : decode cX11_course 43 = .ok (.invokestatic 226, 3) := by decide +kernel
theorem dX11_course_46 : decode cX11_course 46 = .ok (.invokevirtual 170, 3) := by decide +kernel
theorem dX11_course_49 : decode cX11_course 49 = .ok (.ireturn, 1) := by decide +kernel
theorem mi_X11_course : MI yX11_course cX11_course 3 (some FieldType.int) 2 := ⟨w_986, w_105, by decide +kernel, by decide +kernel, by decide +kernel⟩
set_option maxRecDepth 100000 in
set_option maxHeartbeats 4000000 in
theorem C_X11_course (G : GG) (l : Launch) (th : Nat) (p0 : Int32) (p1 : Int32) (S : St) (Q : Int32 → (Nat → Nat → Int32) → Prop) (hp : P_X11_course th p0 p1 S Q) : Ctr G l yX11_course cX11_course 3 (some FieldType.int) 2 48 0 0 [.ref th, .int p0, .int p1] S (fun (v : Option Value) (S9 : St) => ∃ (r : Int32) (I9 : Nat → Nat → Int32), v = some (.int r) ∧ S9 = wI S I9 ∧ Q r I9) := by
  generalize hQQ : (fun (v : Option Value) (S9 : St) => ∃ (r : Int32) (I9 : Nat → Nat → Int32), v = some (.int r) ∧ S9 = wI S I9 ∧ Q r I9) = QQ
  unfold P_X11_course at hp
  refine Ctr.of (by decide) (Nat.le_of_ble_eq_true rfl) ?_
  intro p e s m args below meth c ls B hr hlk hin hl hH
  generalize hlocs0 : ([] : List Loc) = locs at hH ⊢
  have hx := B.1
  have hb := B.2.1
  have hl : lv_has ls 3 [(0, .ref th), (1, .int p0), (2, .int p1)] := hl
  obtain ⟨hk_th, hp⟩ := hp
  refine lv_aload_n (pc := 0) hx hb dX11_course_0 rfl (lv_at hl 0 rfl) ?_
  refine lv_iload_n (pc := 1) hx hb dX11_course_1 rfl (lv_at hl 1 rfl) ?_
  refine sx_V (pc := 2) (As := [.int p0]) (rest := []) B hH hl.1 (C_X11_isMethod G l th p0 _ _ hp) mi_X11_isMethod coX11 hk_th w_968 w_31 w_966 rfl rfl ⟨Nat.le_of_ble_eq_true rfl, Nat.le_of_ble_eq_true rfl⟩ (Nat.le_of_ble_eq_true rfl) ⟨Nat.le_of_ble_eq_true rfl, Nat.le_of_ble_eq_true rfl⟩ dX11_course_2 (fun v S1 H locs hq hH => ?_)
  obtain ⟨r_1, rfl, e9, hp⟩ := hq
  rw [e9] at hH
  refine W.eq (g2 := F0 m 5 ls [.int r_1]) rfl ?_
  obtain ⟨J_3, hj_3, hp⟩ := hp
  have kj_3 : ∀  (H : Heap) (locs : List Loc) (ls : Array Slot), J_3  → Hp G (FA S s.heap.size) s.heap S H locs → lv_has ls 3 [(0, .ref th)] → Wm G p l e { frames := 2, cells := 0, slots := 0, locals := 48 } s m args below meth c S QQ 0 0 H locs 0 0 (F0 m 15 ls []) := by
    intro  H locs ls hq9 hH hl
    have hp := hj_3  hq9
    refine lv_aload_n (pc := 15) hx hb dX11_course_15 rfl (lv_at hl 0 rfl) ?_
    refine lv_iconst (pc := 16) (v := 1) hx hb dX11_course_16 (by decide) ?_
    refine sx_V (pc := 17) (As := [.int 1]) (rest := []) B hH hl.1 (C_X11_refuse G l th 1 _ _ hp) mi_X11_refuse coX11 hk_th w_570 w_3 w_568 rfl rfl ⟨Nat.le_of_ble_eq_true rfl, Nat.le_of_ble_eq_true rfl⟩ (Nat.le_of_ble_eq_true rfl) ⟨Nat.le_of_ble_eq_true rfl, Nat.le_of_ble_eq_true rfl⟩ dX11_course_17 (fun v S1 H locs hq hH => ?_)
    obtain ⟨r_4, F_4, rfl, e9, hp⟩ := hq
    rw [e9] at hH
    have hH : Hp G (FA S s.heap.size) s.heap (wI S F_4) H locs := hH
    refine W.eq (g2 := F0 m 20 ls [.int r_4]) rfl ?_
    exact sx_iret (pc := 20) B hH hr hlk (by rw [← hQQ]; exact ⟨_, F_4, rfl, rfl, hp⟩) (Nat.le_of_ble_eq_true rfl) (Nat.le_of_ble_eq_true rfl) dX11_course_20
  refine lv_if_eq (pc := 5) (tgt := 15) hx hb dX11_course_5 (by decide) (fun cc_2 => ?_) (fun cc_2 => ?_)
  · have hp := hp.1 cc_2
    exact kj_3  _ _ _ hp hH (lv_sub hl [0] rfl)
  · have hp := hp.2 cc_2
    refine lv_iload_n (pc := 8) hx hb dX11_course_8 rfl (lv_at hl 2 rfl) ?_
    refine sx_S (pc := 9) (As := [.int p1]) (rest := []) B hH hl.1 (C_X11_isCall G l p1 _ _ hp) mi_X11_isCall w_976 w_975 rfl rfl ⟨Nat.le_of_ble_eq_true rfl, Nat.le_of_ble_eq_true rfl⟩ (Nat.le_of_ble_eq_true rfl) ⟨Nat.le_of_ble_eq_true rfl, Nat.le_of_ble_eq_true rfl⟩ dX11_course_9 (fun v S1 H locs hq hH => ?_)
    obtain ⟨r_5, rfl, e9, hp⟩ := hq
    rw [e9] at hH
    refine W.eq (g2 := F0 m 12 ls [.int r_5]) rfl ?_
    refine lv_if_ne (pc := 12) (tgt := 21) hx hb dX11_course_12 (by decide) (fun cc_6 => ?_) (fun cc_6 => ?_)
    · have hp := hp.1 cc_6
      refine lv_aload_n (pc := 21) hx hb dX11_course_21 rfl (lv_at hl 0 rfl) ?_
      refine lv_aload_n (pc := 22) hx hb dX11_course_22 rfl (lv_at hl 0 rfl) ?_
      refine sx_getR (pc := 23) (j := 7) B hH hk_th coX11 rfl w_463 rfl dX11_course_23 ?_
      refine W.eq (g2 := F0 m 26 ls [va_rf (gR S th 7), .ref th]) rfl ?_
      obtain ⟨a_7, ha_7, hp⟩ := hp
      refine sx_nonnull (x := a_7) ha_7 ?_
      obtain ⟨hk_8, hp⟩ := hp
      refine sx_getR (pc := 26) (j := 3) B hH hk_8 coX0 rfl w_366 rfl dX11_course_26 ?_
      refine W.eq (g2 := F0 m 29 ls [va_rf (gR S a_7 3), .ref th]) rfl ?_
      obtain ⟨a_9, ha_9, hp⟩ := hp
      refine sx_nonnull (x := a_9) ha_9 ?_
      refine lv_iload_n (pc := 29) hx hb dX11_course_29 rfl (lv_at hl 1 rfl) ?_
      obtain ⟨hk_10, hp⟩ := hp
      obtain ⟨hn_11, hp⟩ := hp
      refine sx_aald (pc := 30) B hH hk_10 (by decide) (by decide) hn_11 dX11_course_30 ?_
      refine W.eq (g2 := F0 m 31 ls [va_rf (gR S a_9 p0.toNatClampNeg), .ref th]) rfl ?_
      obtain ⟨a_12, ha_12, hp⟩ := hp
      refine sx_nonnull (x := a_12) ha_12 ?_
      obtain ⟨hk_13, hp⟩ := hp
      refine sx_getR (pc := 31) (j := 4) B hH hk_13 coX3 rfl w_723 rfl dX11_course_31 ?_
      refine W.eq (g2 := F0 m 34 ls [va_rf (gR S a_12 4), .ref th]) rfl ?_
      obtain ⟨a_14, ha_14, hp⟩ := hp
      refine sx_nonnull (x := a_14) ha_14 ?_
      refine lv_iload_n (pc := 34) hx hb dX11_course_34 rfl (lv_at hl 2 rfl) ?_
      obtain ⟨hk_15, hp⟩ := hp
      obtain ⟨hn_16, hp⟩ := hp
      refine sx_iald (pc := 35) B hH hk_15 hn_16 dX11_course_35 ?_
      refine W.eq (g2 := F0 m 36 ls [.int (gI S a_14 p1.toNatClampNeg), .ref th]) rfl ?_
      refine lv_aload_n (pc := 36) hx hb dX11_course_36 rfl (lv_at hl 0 rfl) ?_
      refine sx_getR (pc := 37) (j := 7) B hH hk_th coX11 rfl w_463 rfl dX11_course_37 ?_
      refine W.eq (g2 := F0 m 40 ls [va_rf (gR S th 7), .int (gI S a_14 p1.toNatClampNeg), .ref th]) rfl ?_
      refine sx_nonnull (x := a_7) ha_7 ?_
      refine sx_getI (pc := 40) (j := 0) B hH hk_8 coX0 rfl w_357 rfl dX11_course_40 ?_
      refine W.eq (g2 := F0 m 43 ls [.int (gI S a_7 0), .int (gI S a_14 p1.toNatClampNeg), .ref th]) rfl ?_
      refine sx_S (pc := 43) (As := [.int (gI S a_14 p1.toNatClampNeg), .int (gI S a_7 0)]) (rest := [.ref th]) B hH hl.1 (C_X4_orderOf G l (gI S a_14 p1.toNatClampNeg) (gI S a_7 0) _ _ hp) mi_X4_orderOf w_910 w_909 rfl rfl ⟨Nat.le_of_ble_eq_true rfl, Nat.le_of_ble_eq_true rfl⟩ (Nat.le_of_ble_eq_true rfl) ⟨Nat.le_of_ble_eq_true rfl, Nat.le_of_ble_eq_true rfl⟩ dX11_course_43 (fun v S1 H locs hq hH => ?_)
      obtain ⟨r_17, rfl, e9, hp⟩ := hq
      rw [e9] at hH
      refine W.eq (g2 := F0 m 46 ls [.int r_17, .ref th]) rfl ?_
      refine sx_V (pc := 46) (As := [.int r_17]) (rest := []) B hH hl.1 (C_X11_answer G l th r_17 _ _ hp) mi_X11_answer coX11 hk_th w_740 w_16 w_738 rfl rfl ⟨Nat.le_of_ble_eq_true rfl, Nat.le_of_ble_eq_true rfl⟩ (Nat.le_of_ble_eq_true rfl) ⟨Nat.le_of_ble_eq_true rfl, Nat.le_of_ble_eq_true rfl⟩ dX11_course_46 (fun v S1 H locs hq hH => ?_)
      obtain ⟨r_18, F_18, rfl, e9, hp⟩ := hq
      rw [e9] at hH
      have hH : Hp G (FA S s.heap.size) s.heap (wI S F_18) H locs := hH
      refine W.eq (g2 := F0 m 49 ls [.int r_18]) rfl ?_
      exact sx_iret (pc := 49) B hH hr hlk (by rw [← hQQ]; exact ⟨_, F_18, rfl, rfl, hp⟩) (Nat.le_of_ble_eq_true rfl) (Nat.le_of_ble_eq_true rfl) dX11_course_49
    · have hp := hp.2 cc_6
      exact kj_3  _ _ _ hp hH (lv_sub hl [0] rfl)
theorem dX11_fixed_0 : decode cX11_fixed 0 = .ok (.aload_n 0, 1) := by decide +kernel
theorem dX11_fixed_1 : decode cX11_fixed 1 = .ok (.iload_n 1, 1) := by decide +kernel
theorem dX11_fixed_2 : decode cX11_fixed 2 = .ok (.invokevirtual 256, 3) := by decide +kernel
theorem dX11_fixed_5 : decode cX11_fixed 5 = .ok (.ifCond .eq 10, 3) := by decide +kernel
theorem dX11_fixed_8 : decode cX11_fixed 8 = .ok (.iload_n 2, 1) := by decide +kernel
theorem dX11_fixed_9 : decode cX11_fixed 9 = .ok (.invokestatic 262, 3) := by decide +kernel
theorem dX11_fixed_12 : decode cX11_fixed 12 = .ok (.ifCond .ne 9, 3) := by decide +kernel
theorem dX11_fixed_15 : decode cX11_fixed 15 = .ok (.aload_n 0, 1) := by decide +kernel
theorem dX11_fixed_16 : decode cX11_fixed 16 = .ok (.iconst 1, 1) := by decide +kernel
theorem dX11_fixed_17 : decode cX11_fixed 17 = .ok (.invokevirtual 139, 3) := by decide +kernel
theorem dX11_fixed_20 : decode cX11_fixed 20 = .ok (.ireturn, 1) := by decide +kernel
theorem dX11_fixed_21 : decode cX11_fixed 21 = .ok (.aload_n 0, 1) := by decide +kernel
theorem dX11_fixed_22 : decode cX11_fixed 22 = .ok (.aload_n 0, 1) := by decide +kernel
theorem dX11_fixed_23 : decode cX11_fixed 23 = .ok (.getfield 62, 3) := by decide +kernel
theorem dX11_fixed_26 : decode cX11_fixed 26 = .ok (.getfield 166, 3) := by decide +kernel
theorem dX11_fixed_29 : decode cX11_fixed 29 = .ok (.iload_n 1, 1) := by decide +kernel
theorem dX11_fixed_30 : decode cX11_fixed 30 = .ok (.aaload, 1) := by decide +kernel
theorem dX11_fixed_31 : decode cX11_fixed 31 = .ok (.getfield 268, 3) := by decide +kernel
theorem dX11_fixed_34 : decode cX11_fixed 34 = .ok (.iload_n 2, 1) := by decide +kernel
theorem dX11_fixed_35 : decode cX11_fixed 35 = .ok (.iaload, 1) := by decide +kernel
theorem dX11_fixed_36 : decode cX11_fixed 36 = .ok (.aload_n 0, 1) := by decide +kernel
theorem dX11_fixed_37 : decode cX11_fixed 37 = .ok (.getfield 62, 3) := by decide +kernel
theorem dX11_fixed_40 : decode cX11_fixed 40 = .ok (.getfield 188, 3) := by decide +kernel
theorem dX11_fixed_43 : decode cX11_fixed 43 = .ok (.invokestatic 272, 3) := by decide +kernel
theorem dX11_fixed_46 : decode cX11_fixed 46 = .ok (.invokevirtual 170, 3) := by decide +kernel
theorem dX11_fixed_49 : decode cX11_fixed 49 = .ok (.ireturn, 1) := by decide +kernel
theorem mi_X11_fixed : MI yX11_fixed cX11_fixed 3 (some FieldType.int) 2 := ⟨w_990, w_105, by decide +kernel, by decide +kernel, by decide +kernel⟩
set_option maxRecDepth 100000 in
set_option maxHeartbeats 4000000 in
theorem C_X11_fixed (G : GG) (l : Launch) (th : Nat) (p0 : Int32) (p1 : Int32) (S : St) (Q : Int32 → (Nat → Nat → Int32) → Prop) (hp : P_X11_fixed th p0 p1 S Q) : Ctr G l yX11_fixed cX11_fixed 3 (some FieldType.int) 2 44 0 0 [.ref th, .int p0, .int p1] S (fun (v : Option Value) (S9 : St) => ∃ (r : Int32) (I9 : Nat → Nat → Int32), v = some (.int r) ∧ S9 = wI S I9 ∧ Q r I9) := by
  generalize hQQ : (fun (v : Option Value) (S9 : St) => ∃ (r : Int32) (I9 : Nat → Nat → Int32), v = some (.int r) ∧ S9 = wI S I9 ∧ Q r I9) = QQ
  unfold P_X11_fixed at hp
  refine Ctr.of (by decide) (Nat.le_of_ble_eq_true rfl) ?_
  intro p e s m args below meth c ls B hr hlk hin hl hH
  generalize hlocs0 : ([] : List Loc) = locs at hH ⊢
  have hx := B.1
  have hb := B.2.1
  have hl : lv_has ls 3 [(0, .ref th), (1, .int p0), (2, .int p1)] := hl
  obtain ⟨hk_th, hp⟩ := hp
  refine lv_aload_n (pc := 0) hx hb dX11_fixed_0 rfl (lv_at hl 0 rfl) ?_
  refine lv_iload_n (pc := 1) hx hb dX11_fixed_1 rfl (lv_at hl 1 rfl) ?_
  refine sx_V (pc := 2) (As := [.int p0]) (rest := []) B hH hl.1 (C_X11_isMethod G l th p0 _ _ hp) mi_X11_isMethod coX11 hk_th w_968 w_31 w_966 rfl rfl ⟨Nat.le_of_ble_eq_true rfl, Nat.le_of_ble_eq_true rfl⟩ (Nat.le_of_ble_eq_true rfl) ⟨Nat.le_of_ble_eq_true rfl, Nat.le_of_ble_eq_true rfl⟩ dX11_fixed_2 (fun v S1 H locs hq hH => ?_)
  obtain ⟨r_1, rfl, e9, hp⟩ := hq
  rw [e9] at hH
  refine W.eq (g2 := F0 m 5 ls [.int r_1]) rfl ?_
  obtain ⟨J_3, hj_3, hp⟩ := hp
  have kj_3 : ∀  (H : Heap) (locs : List Loc) (ls : Array Slot), J_3  → Hp G (FA S s.heap.size) s.heap S H locs → lv_has ls 3 [(0, .ref th)] → Wm G p l e { frames := 2, cells := 0, slots := 0, locals := 44 } s m args below meth c S QQ 0 0 H locs 0 0 (F0 m 15 ls []) := by
    intro  H locs ls hq9 hH hl
    have hp := hj_3  hq9
    refine lv_aload_n (pc := 15) hx hb dX11_fixed_15 rfl (lv_at hl 0 rfl) ?_
    refine lv_iconst (pc := 16) (v := 1) hx hb dX11_fixed_16 (by decide) ?_
    refine sx_V (pc := 17) (As := [.int 1]) (rest := []) B hH hl.1 (C_X11_refuse G l th 1 _ _ hp) mi_X11_refuse coX11 hk_th w_570 w_3 w_568 rfl rfl ⟨Nat.le_of_ble_eq_true rfl, Nat.le_of_ble_eq_true rfl⟩ (Nat.le_of_ble_eq_true rfl) ⟨Nat.le_of_ble_eq_true rfl, Nat.le_of_ble_eq_true rfl⟩ dX11_fixed_17 (fun v S1 H locs hq hH => ?_)
    obtain ⟨r_4, F_4, rfl, e9, hp⟩ := hq
    rw [e9] at hH
    have hH : Hp G (FA S s.heap.size) s.heap (wI S F_4) H locs := hH
    refine W.eq (g2 := F0 m 20 ls [.int r_4]) rfl ?_
    exact sx_iret (pc := 20) B hH hr hlk (by rw [← hQQ]; exact ⟨_, F_4, rfl, rfl, hp⟩) (Nat.le_of_ble_eq_true rfl) (Nat.le_of_ble_eq_true rfl) dX11_fixed_20
  refine lv_if_eq (pc := 5) (tgt := 15) hx hb dX11_fixed_5 (by decide) (fun cc_2 => ?_) (fun cc_2 => ?_)
  · have hp := hp.1 cc_2
    exact kj_3  _ _ _ hp hH (lv_sub hl [0] rfl)
  · have hp := hp.2 cc_2
    refine lv_iload_n (pc := 8) hx hb dX11_fixed_8 rfl (lv_at hl 2 rfl) ?_
    refine sx_S (pc := 9) (As := [.int p1]) (rest := []) B hH hl.1 (C_X11_isCall G l p1 _ _ hp) mi_X11_isCall w_976 w_975 rfl rfl ⟨Nat.le_of_ble_eq_true rfl, Nat.le_of_ble_eq_true rfl⟩ (Nat.le_of_ble_eq_true rfl) ⟨Nat.le_of_ble_eq_true rfl, Nat.le_of_ble_eq_true rfl⟩ dX11_fixed_9 (fun v S1 H locs hq hH => ?_)
    obtain ⟨r_5, rfl, e9, hp⟩ := hq
    rw [e9] at hH
    refine W.eq (g2 := F0 m 12 ls [.int r_5]) rfl ?_
    refine lv_if_ne (pc := 12) (tgt := 21) hx hb dX11_fixed_12 (by decide) (fun cc_6 => ?_) (fun cc_6 => ?_)
    · have hp := hp.1 cc_6
      refine lv_aload_n (pc := 21) hx hb dX11_fixed_21 rfl (lv_at hl 0 rfl) ?_
      refine lv_aload_n (pc := 22) hx hb dX11_fixed_22 rfl (lv_at hl 0 rfl) ?_
      refine sx_getR (pc := 23) (j := 7) B hH hk_th coX11 rfl w_463 rfl dX11_fixed_23 ?_
      refine W.eq (g2 := F0 m 26 ls [va_rf (gR S th 7), .ref th]) rfl ?_
      obtain ⟨a_7, ha_7, hp⟩ := hp
      refine sx_nonnull (x := a_7) ha_7 ?_
      obtain ⟨hk_8, hp⟩ := hp
      refine sx_getR (pc := 26) (j := 3) B hH hk_8 coX0 rfl w_366 rfl dX11_fixed_26 ?_
      refine W.eq (g2 := F0 m 29 ls [va_rf (gR S a_7 3), .ref th]) rfl ?_
      obtain ⟨a_9, ha_9, hp⟩ := hp
      refine sx_nonnull (x := a_9) ha_9 ?_
      refine lv_iload_n (pc := 29) hx hb dX11_fixed_29 rfl (lv_at hl 1 rfl) ?_
      obtain ⟨hk_10, hp⟩ := hp
      obtain ⟨hn_11, hp⟩ := hp
      refine sx_aald (pc := 30) B hH hk_10 (by decide) (by decide) hn_11 dX11_fixed_30 ?_
      refine W.eq (g2 := F0 m 31 ls [va_rf (gR S a_9 p0.toNatClampNeg), .ref th]) rfl ?_
      obtain ⟨a_12, ha_12, hp⟩ := hp
      refine sx_nonnull (x := a_12) ha_12 ?_
      obtain ⟨hk_13, hp⟩ := hp
      refine sx_getR (pc := 31) (j := 4) B hH hk_13 coX3 rfl w_723 rfl dX11_fixed_31 ?_
      refine W.eq (g2 := F0 m 34 ls [va_rf (gR S a_12 4), .ref th]) rfl ?_
      obtain ⟨a_14, ha_14, hp⟩ := hp
      refine sx_nonnull (x := a_14) ha_14 ?_
      refine lv_iload_n (pc := 34) hx hb dX11_fixed_34 rfl (lv_at hl 2 rfl) ?_
      obtain ⟨hk_15, hp⟩ := hp
      obtain ⟨hn_16, hp⟩ := hp
      refine sx_iald (pc := 35) B hH hk_15 hn_16 dX11_fixed_35 ?_
      refine W.eq (g2 := F0 m 36 ls [.int (gI S a_14 p1.toNatClampNeg), .ref th]) rfl ?_
      refine lv_aload_n (pc := 36) hx hb dX11_fixed_36 rfl (lv_at hl 0 rfl) ?_
      refine sx_getR (pc := 37) (j := 7) B hH hk_th coX11 rfl w_463 rfl dX11_fixed_37 ?_
      refine W.eq (g2 := F0 m 40 ls [va_rf (gR S th 7), .int (gI S a_14 p1.toNatClampNeg), .ref th]) rfl ?_
      refine sx_nonnull (x := a_7) ha_7 ?_
      refine sx_getI (pc := 40) (j := 0) B hH hk_8 coX0 rfl w_357 rfl dX11_fixed_40 ?_
      refine W.eq (g2 := F0 m 43 ls [.int (gI S a_7 0), .int (gI S a_14 p1.toNatClampNeg), .ref th]) rfl ?_
      refine sx_S (pc := 43) (As := [.int (gI S a_14 p1.toNatClampNeg), .int (gI S a_7 0)]) (rest := [.ref th]) B hH hl.1 (C_X4_fixedOf G l (gI S a_14 p1.toNatClampNeg) (gI S a_7 0) _ _ hp) mi_X4_fixedOf w_992 w_991 rfl rfl ⟨Nat.le_of_ble_eq_true rfl, Nat.le_of_ble_eq_true rfl⟩ (Nat.le_of_ble_eq_true rfl) ⟨Nat.le_of_ble_eq_true rfl, Nat.le_of_ble_eq_true rfl⟩ dX11_fixed_43 (fun v S1 H locs hq hH => ?_)
      obtain ⟨r_17, rfl, e9, hp⟩ := hq
      rw [e9] at hH
      refine W.eq (g2 := F0 m 46 ls [.int r_17, .ref th]) rfl ?_
      refine sx_V (pc := 46) (As := [.int r_17]) (rest := []) B hH hl.1 (C_X11_answer G l th r_17 _ _ hp) mi_X11_answer coX11 hk_th w_740 w_16 w_738 rfl rfl ⟨Nat.le_of_ble_eq_true rfl, Nat.le_of_ble_eq_true rfl⟩ (Nat.le_of_ble_eq_true rfl) ⟨Nat.le_of_ble_eq_true rfl, Nat.le_of_ble_eq_true rfl⟩ dX11_fixed_46 (fun v S1 H locs hq hH => ?_)
      obtain ⟨r_18, F_18, rfl, e9, hp⟩ := hq
      rw [e9] at hH
      have hH : Hp G (FA S s.heap.size) s.heap (wI S F_18) H locs := hH
      refine W.eq (g2 := F0 m 49 ls [.int r_18]) rfl ?_
      exact sx_iret (pc := 49) B hH hr hlk (by rw [← hQQ]; exact ⟨_, F_18, rfl, rfl, hp⟩) (Nat.le_of_ble_eq_true rfl) (Nat.le_of_ble_eq_true rfl) dX11_fixed_49
    · have hp := hp.2 cc_6
      exact kj_3  _ _ _ hp hH (lv_sub hl [0] rfl)
theorem dX11_readsBackward_0 : decode cX11_readsBackward 0 = .ok (.iconst 0, 1) := by decide +kernel
theorem dX11_readsBackward_1 : decode cX11_readsBackward 1 = .ok (.istore_n 2, 1) := by decide +kernel
theorem dX11_readsBackward_2 : decode cX11_readsBackward 2 = .ok (.iload_n 2, 1) := by decide +kernel
theorem dX11_readsBackward_3 : decode cX11_readsBackward 3 = .ok (.iload_n 1, 1) := by decide +kernel
theorem dX11_readsBackward_4 : decode cX11_readsBackward 4 = .ok (.iconst 2, 1) := by decide +kernel
theorem dX11_readsBackward_5 : decode cX11_readsBackward 5 = .ok (.idiv, 1) := by decide +kernel
theorem dX11_readsBackward_6 : decode cX11_readsBackward 6 = .ok (.if_icmp .ge 24, 3) := by decide +kernel
theorem dX11_readsBackward_9 : decode cX11_readsBackward 9 = .ok (.aload_n 0, 1) := by decide +kernel
theorem dX11_readsBackward_10 : decode cX11_readsBackward 10 = .ok (.iload_n 2, 1) := by decide +kernel
theorem dX11_readsBackward_11 : decode cX11_readsBackward 11 = .ok (.iaload, 1) := by decide +kernel
theorem dX11_readsBackward_12 : decode cX11_readsBackward 12 = .ok (.aload_n 0, 1) := by decide +kernel
theorem dX11_readsBackward_13 : decode cX11_readsBackward 13 = .ok (.iload_n 1, 1) := by decide +kernel
theorem dX11_readsBackward_14 : decode cX11_readsBackward 14 = .ok (.iconst 1, 1) := by decide +kernel
theorem dX11_readsBackward_15 : decode cX11_readsBackward 15 = .ok (.isub, 1) := by decide +kernel
theorem dX11_readsBackward_16 : decode cX11_readsBackward 16 = .ok (.iload_n 2, 1) := by decide +kernel
theorem dX11_readsBackward_17 : decode cX11_readsBackward 17 = .ok (.isub, 1) := by decide +kernel
theorem dX11_readsBackward_18 : decode cX11_readsBackward 18 = .ok (.iaload, 1) := by decide +kernel
theorem dX11_readsBackward_19 : decode cX11_readsBackward 19 = .ok (.if_icmp .eq 5, 3) := by decide +kernel
theorem dX11_readsBackward_22 : decode cX11_readsBackward 22 = .ok (.iconst 0, 1) := by decide +kernel
theorem dX11_readsBackward_23 : decode cX11_readsBackward 23 = .ok (.ireturn, 1) := by decide +kernel
theorem dX11_readsBackward_24 : decode cX11_readsBackward 24 = .ok (.iinc 2 1, 3) := by decide +kernel
theorem dX11_readsBackward_27 : decode cX11_readsBackward 27 = .ok (.goto (-25), 3) := by decide +kernel
theorem dX11_readsBackward_30 : decode cX11_readsBackward 30 = .ok (.iconst 1, 1) := by decide +kernel
theorem dX11_readsBackward_31 : decode cX11_readsBackward 31 = .ok (.ireturn, 1) := by decide +kernel
theorem mi_X11_readsBackward : MI yX11_readsBackward cX11_readsBackward 3 (some FieldType.boolean) 2 := ⟨w_1000, w_105, by decide +kernel, by decide +kernel, by decide +kernel⟩
set_option maxRecDepth 100000 in
set_option maxHeartbeats 4000000 in
theorem C_X11_readsBackward (G : GG) (l : Launch) (p0 : Nat) (p1 : Int32) (S : St) (Q : Int32 → Prop) (hp : P_X11_readsBackward p0 p1 S Q) : Ctr G l yX11_readsBackward cX11_readsBackward 3 (some FieldType.boolean) 0 0 0 0 [.ref p0, .int p1] S (fun (v : Option Value) (S9 : St) => ∃ (r : Int32), v = some (.int r) ∧ S9 = S ∧ Q r ) := by
  generalize hQQ : (fun (v : Option Value) (S9 : St) => ∃ (r : Int32), v = some (.int r) ∧ S9 = S ∧ Q r ) = QQ
  unfold P_X11_readsBackward at hp
  refine Ctr.of (by decide) (Nat.le_of_ble_eq_true rfl) ?_
  intro p e s m args below meth c ls B hr hlk hin hl hH
  generalize hlocs0 : ([] : List Loc) = locs at hH ⊢
  have hx := B.1
  have hb := B.2.1
  have hl : lv_has ls 3 [(0, .ref p0), (1, .int p1)] := hl
  refine lv_iconst (pc := 0) (v := 0) hx hb dX11_readsBackward_0 (by decide) ?_
  refine lv_istore_n (pc := 1) (lv' := [(2, .int 0), (0, .ref p0), (1, .int p1)]) hx hb dX11_readsBackward_1 rfl hl (by decide) rfl (fun ls hl => ?_)
  obtain ⟨I_1, ⟨k0_1, h0_1⟩, hst_1⟩ := hp
  have kl_1 : ∀ (n_1 : Nat) (x2_2 : Int32) (H : Heap) (locs : List Loc) (ls : Array Slot), I_1 n_1 x2_2 → Hp G (FA S s.heap.size) s.heap S H locs → lv_has ls 3 [(0, .ref p0), (1, .int p1), (2, .int x2_2)] → Wm G p l e { frames := 0, cells := 0, slots := 0, locals := 0 } s m args below meth c S QQ 0 0 H locs 0 0 (F0 m 2 ls []) := by
    intro n_1
    induction n_1 using Nat.strongRecOn with
    | ind n_1 ih_1 =>
      intro x2_2 H locs ls hq9 hH hl
      have hp := hst_1 n_1 x2_2 hq9
      refine lv_iload_n (pc := 2) hx hb dX11_readsBackward_2 rfl (lv_at hl 2 rfl) ?_
      refine lv_iload_n (pc := 3) hx hb dX11_readsBackward_3 rfl (lv_at hl 1 rfl) ?_
      refine lv_iconst (pc := 4) (v := 2) hx hb dX11_readsBackward_4 (by decide) ?_
      refine lv_idiv (pc := 5) hx hb dX11_readsBackward_5 (by decide) ?_
      refine lv_icmp_ge (pc := 6) (tgt := 30) hx hb dX11_readsBackward_6 (by decide) (fun cc_3 => ?_) (fun cc_3 => ?_)
      · have hp := hp.1 cc_3
        refine lv_iconst (pc := 30) (v := 1) hx hb dX11_readsBackward_30 (by decide) ?_
        exact sx_zret (pc := 31) B hH hr hlk (Or.inr rfl) (by rw [← hQQ]; exact ⟨_, rfl, rfl, hp⟩) (Nat.le_of_ble_eq_true rfl) (Nat.le_of_ble_eq_true rfl) dX11_readsBackward_31
      · have hp := hp.2 cc_3
        refine lv_aload_n (pc := 9) hx hb dX11_readsBackward_9 rfl (lv_at hl 0 rfl) ?_
        refine lv_iload_n (pc := 10) hx hb dX11_readsBackward_10 rfl (lv_at hl 2 rfl) ?_
        obtain ⟨hk_4, hp⟩ := hp
        obtain ⟨hn_5, hp⟩ := hp
        refine sx_iald (pc := 11) B hH hk_4 hn_5 dX11_readsBackward_11 ?_
        refine W.eq (g2 := F0 m 12 ls [.int (gI S p0 x2_2.toNatClampNeg)]) rfl ?_
        refine lv_aload_n (pc := 12) hx hb dX11_readsBackward_12 rfl (lv_at hl 0 rfl) ?_
        refine lv_iload_n (pc := 13) hx hb dX11_readsBackward_13 rfl (lv_at hl 1 rfl) ?_
        refine lv_iconst (pc := 14) (v := 1) hx hb dX11_readsBackward_14 (by decide) ?_
        refine lv_isub (pc := 15) hx hb dX11_readsBackward_15 ?_
        refine lv_iload_n (pc := 16) hx hb dX11_readsBackward_16 rfl (lv_at hl 2 rfl) ?_
        refine lv_isub (pc := 17) hx hb dX11_readsBackward_17 ?_
        obtain ⟨hn_6, hp⟩ := hp
        refine sx_iald (pc := 18) B hH hk_4 hn_6 dX11_readsBackward_18 ?_
        refine W.eq (g2 := F0 m 19 ls [.int (gI S p0 (((p1 - 1) - x2_2).toNatClampNeg)), .int (gI S p0 x2_2.toNatClampNeg)]) rfl ?_
        refine lv_icmp_eq (pc := 19) (tgt := 24) hx hb dX11_readsBackward_19 (by decide) (fun cc_7 => ?_) (fun cc_7 => ?_)
        · have hp := hp.1 cc_7
          obtain ⟨v_8, ev_8⟩ : ∃ y : Int32, y = x2_2 + 1 := ⟨_, rfl⟩
          have hp := hp v_8 ev_8
          refine lv_iinc (pc := 24) (v := v_8) (lv' := [(2, .int v_8), (0, .ref p0), (1, .int p1)]) hx hb dX11_readsBackward_24 hl (k := 2) rfl (by rw [ev_8]; rfl) (by decide) rfl (fun ls hl => ?_)
          refine lv_goto (pc := 27) (tgt := 2) hx hb dX11_readsBackward_27 (by decide) ?_
          obtain ⟨k9, hlt9, hp⟩ := hp
          exact ih_1 k9 hlt9 _ _ _ _ hp hH (lv_sub hl [1, 2, 0] rfl)
        · have hp := hp.2 cc_7
          refine lv_iconst (pc := 22) (v := 0) hx hb dX11_readsBackward_22 (by decide) ?_
          exact sx_zret (pc := 23) B hH hr hlk (Or.inl rfl) (by rw [← hQQ]; exact ⟨_, rfl, rfl, hp⟩) (Nat.le_of_ble_eq_true rfl) (Nat.le_of_ble_eq_true rfl) dX11_readsBackward_23
  exact kl_1 k0_1 _ _ _ _ h0_1 hH (lv_sub hl [1, 2, 0] rfl)
theorem dX11_symmetric_0 : decode cX11_symmetric 0 = .ok (.aload_n 0, 1) := by decide +kernel
theorem dX11_symmetric_1 : decode cX11_symmetric 1 = .ok (.iload_n 1, 1) := by decide +kernel
theorem dX11_symmetric_2 : decode cX11_symmetric 2 = .ok (.invokevirtual 256, 3) := by decide +kernel
theorem dX11_symmetric_5 : decode cX11_symmetric 5 = .ok (.ifCond .ne 9, 3) := by decide +kernel
theorem dX11_symmetric_8 : decode cX11_symmetric 8 = .ok (.aload_n 0, 1) := by decide +kernel
theorem dX11_symmetric_9 : decode cX11_symmetric 9 = .ok (.iconst 1, 1) := by decide +kernel
theorem dX11_symmetric_10 : decode cX11_symmetric 10 = .ok (.invokevirtual 139, 3) := by decide +kernel
theorem dX11_symmetric_13 : decode cX11_symmetric 13 = .ok (.ireturn, 1) := by decide +kernel
theorem dX11_symmetric_14 : decode cX11_symmetric 14 = .ok (.aload_n 0, 1) := by decide +kernel
theorem dX11_symmetric_15 : decode cX11_symmetric 15 = .ok (.getfield 62, 3) := by decide +kernel
theorem dX11_symmetric_18 : decode cX11_symmetric 18 = .ok (.getfield 166, 3) := by decide +kernel
theorem dX11_symmetric_21 : decode cX11_symmetric 21 = .ok (.iload_n 1, 1) := by decide +kernel
theorem dX11_symmetric_22 : decode cX11_symmetric 22 = .ok (.aaload, 1) := by decide +kernel
theorem dX11_symmetric_23 : decode cX11_symmetric 23 = .ok (.getfield 275, 3) := by decide +kernel
theorem dX11_symmetric_26 : decode cX11_symmetric 26 = .ok (.astore_n 2, 1) := by decide +kernel
theorem dX11_symmetric_27 : decode cX11_symmetric 27 = .ok (.aload_n 0, 1) := by decide +kernel
theorem dX11_symmetric_28 : decode cX11_symmetric 28 = .ok (.aload_n 2, 1) := by decide +kernel
theorem dX11_symmetric_29 : decode cX11_symmetric 29 = .ok (.aload_n 2, 1) := by decide +kernel
theorem dX11_symmetric_30 : decode cX11_symmetric 30 = .ok (.arraylength, 1) := by decide +kernel
theorem dX11_symmetric_31 : decode cX11_symmetric 31 = .ok (.iconst 1, 1) := by decide +kernel
theorem dX11_symmetric_32 : decode cX11_symmetric 32 = .ok (.isub, 1) := by decide +kernel
theorem dX11_symmetric_33 : decode cX11_symmetric 33 = .ok (.invokestatic 278, 3) := by decide +kernel
theorem dX11_symmetric_36 : decode cX11_symmetric 36 = .ok (.ifCond .eq 7, 3) := by decide +kernel
theorem dX11_symmetric_39 : decode cX11_symmetric 39 = .ok (.iconst 1, 1) := by decide +kernel
theorem dX11_symmetric_40 : decode cX11_symmetric 40 = .ok (.goto 4, 3) := by decide +kernel
theorem dX11_symmetric_43 : decode cX11_symmetric 43 = .ok (.iconst 0, 1) := by decide +kernel
theorem dX11_symmetric_44 : decode cX11_symmetric 44 = .ok (.invokevirtual 170, 3) := by decide +kernel
theorem dX11_symmetric_47 : decode cX11_symmetric 47 = .ok (.ireturn, 1) := by decide +kernel
theorem mi_X11_symmetric : MI yX11_symmetric cX11_symmetric 3 (some FieldType.int) 1 := ⟨w_997, w_105, by decide +kernel, by decide +kernel, by decide +kernel⟩
set_option maxRecDepth 100000 in
set_option maxHeartbeats 4000000 in
theorem C_X11_symmetric (G : GG) (l : Launch) (th : Nat) (p0 : Int32) (S : St) (Q : Int32 → (Nat → Nat → Int32) → Prop) (hp : P_X11_symmetric th p0 S Q) : Ctr G l yX11_symmetric cX11_symmetric 3 (some FieldType.int) 1 22 0 0 [.ref th, .int p0] S (fun (v : Option Value) (S9 : St) => ∃ (r : Int32) (I9 : Nat → Nat → Int32), v = some (.int r) ∧ S9 = wI S I9 ∧ Q r I9) := by
  generalize hQQ : (fun (v : Option Value) (S9 : St) => ∃ (r : Int32) (I9 : Nat → Nat → Int32), v = some (.int r) ∧ S9 = wI S I9 ∧ Q r I9) = QQ
  unfold P_X11_symmetric at hp
  refine Ctr.of (by decide) (Nat.le_of_ble_eq_true rfl) ?_
  intro p e s m args below meth c ls B hr hlk hin hl hH
  generalize hlocs0 : ([] : List Loc) = locs at hH ⊢
  have hx := B.1
  have hb := B.2.1
  have hl : lv_has ls 3 [(0, .ref th), (1, .int p0)] := hl
  obtain ⟨hk_th, hp⟩ := hp
  refine lv_aload_n (pc := 0) hx hb dX11_symmetric_0 rfl (lv_at hl 0 rfl) ?_
  refine lv_iload_n (pc := 1) hx hb dX11_symmetric_1 rfl (lv_at hl 1 rfl) ?_
  refine sx_V (pc := 2) (As := [.int p0]) (rest := []) B hH hl.1 (C_X11_isMethod G l th p0 _ _ hp) mi_X11_isMethod coX11 hk_th w_968 w_31 w_966 rfl rfl ⟨Nat.le_of_ble_eq_true rfl, Nat.le_of_ble_eq_true rfl⟩ (Nat.le_of_ble_eq_true rfl) ⟨Nat.le_of_ble_eq_true rfl, Nat.le_of_ble_eq_true rfl⟩ dX11_symmetric_2 (fun v S1 H locs hq hH => ?_)
  obtain ⟨r_1, rfl, e9, hp⟩ := hq
  rw [e9] at hH
  refine W.eq (g2 := F0 m 5 ls [.int r_1]) rfl ?_
  refine lv_if_ne (pc := 5) (tgt := 14) hx hb dX11_symmetric_5 (by decide) (fun cc_2 => ?_) (fun cc_2 => ?_)
  · have hp := hp.1 cc_2
    refine lv_aload_n (pc := 14) hx hb dX11_symmetric_14 rfl (lv_at hl 0 rfl) ?_
    refine sx_getR (pc := 15) (j := 7) B hH hk_th coX11 rfl w_463 rfl dX11_symmetric_15 ?_
    refine W.eq (g2 := F0 m 18 ls [va_rf (gR S th 7)]) rfl ?_
    obtain ⟨a_3, ha_3, hp⟩ := hp
    refine sx_nonnull (x := a_3) ha_3 ?_
    obtain ⟨hk_4, hp⟩ := hp
    refine sx_getR (pc := 18) (j := 3) B hH hk_4 coX0 rfl w_366 rfl dX11_symmetric_18 ?_
    refine W.eq (g2 := F0 m 21 ls [va_rf (gR S a_3 3)]) rfl ?_
    obtain ⟨a_5, ha_5, hp⟩ := hp
    refine sx_nonnull (x := a_5) ha_5 ?_
    refine lv_iload_n (pc := 21) hx hb dX11_symmetric_21 rfl (lv_at hl 1 rfl) ?_
    obtain ⟨hk_6, hp⟩ := hp
    obtain ⟨hn_7, hp⟩ := hp
    refine sx_aald (pc := 22) B hH hk_6 (by decide) (by decide) hn_7 dX11_symmetric_22 ?_
    refine W.eq (g2 := F0 m 23 ls [va_rf (gR S a_5 p0.toNatClampNeg)]) rfl ?_
    obtain ⟨a_8, ha_8, hp⟩ := hp
    refine sx_nonnull (x := a_8) ha_8 ?_
    obtain ⟨hk_9, hp⟩ := hp
    refine sx_getR (pc := 23) (j := 1) B hH hk_9 coX3 rfl w_715 rfl dX11_symmetric_23 ?_
    refine W.eq (g2 := F0 m 26 ls [va_rf (gR S a_8 1)]) rfl ?_
    obtain ⟨a_10, ha_10, hp⟩ := hp
    refine sx_nonnull (x := a_10) ha_10 ?_
    refine lv_astore_n (pc := 26) (lv' := [(2, .ref a_10), (0, .ref th), (1, .int p0)]) hx hb dX11_symmetric_26 rfl hl (by decide) rfl (fun ls hl => ?_)
    refine lv_aload_n (pc := 27) hx hb dX11_symmetric_27 rfl (lv_at hl 1 rfl) ?_
    refine lv_aload_n (pc := 28) hx hb dX11_symmetric_28 rfl (lv_at hl 0 rfl) ?_
    refine lv_aload_n (pc := 29) hx hb dX11_symmetric_29 rfl (lv_at hl 0 rfl) ?_
    obtain ⟨hk_11, hp⟩ := hp
    refine sx_alen (pc := 30) B hH hk_11 (by decide) (by decide) dX11_symmetric_30 ?_
    refine W.eq (g2 := F0 m 31 ls [.int (nI (ln S a_10)), .ref a_10, .ref th]) rfl ?_
    refine lv_iconst (pc := 31) (v := 1) hx hb dX11_symmetric_31 (by decide) ?_
    refine lv_isub (pc := 32) hx hb dX11_symmetric_32 ?_
    refine sx_S (pc := 33) (As := [.ref a_10, .int ((nI (ln S a_10)) - 1)]) (rest := [.ref th]) B hH hl.1 (C_X11_readsBackward G l a_10 ((nI (ln S a_10)) - 1) _ _ hp) mi_X11_readsBackward w_999 w_998 rfl rfl ⟨Nat.le_of_ble_eq_true rfl, Nat.le_of_ble_eq_true rfl⟩ (Nat.le_of_ble_eq_true rfl) ⟨Nat.le_of_ble_eq_true rfl, Nat.le_of_ble_eq_true rfl⟩ dX11_symmetric_33 (fun v S1 H locs hq hH => ?_)
    obtain ⟨r_12, rfl, e9, hp⟩ := hq
    rw [e9] at hH
    refine W.eq (g2 := F0 m 36 ls [.int r_12, .ref th]) rfl ?_
    obtain ⟨J_14, hj_14, hp⟩ := hp
    have kj_14 : ∀ (t_15 : Int32) (H : Heap) (locs : List Loc) (ls : Array Slot), J_14 t_15 → Hp G (FA S s.heap.size) s.heap S H locs → lv_has ls 3 [] → Wm G p l e { frames := 1, cells := 0, slots := 0, locals := 22 } s m args below meth c S QQ 0 0 H locs 0 0 (F0 m 44 ls [.int t_15, .ref th]) := by
      intro t_15 H locs ls hq9 hH hl
      have hp := hj_14 t_15 hq9
      refine sx_V (pc := 44) (As := [.int t_15]) (rest := []) B hH hl.1 (C_X11_answer G l th t_15 _ _ hp) mi_X11_answer coX11 hk_th w_740 w_16 w_738 rfl rfl ⟨Nat.le_of_ble_eq_true rfl, Nat.le_of_ble_eq_true rfl⟩ (Nat.le_of_ble_eq_true rfl) ⟨Nat.le_of_ble_eq_true rfl, Nat.le_of_ble_eq_true rfl⟩ dX11_symmetric_44 (fun v S1 H locs hq hH => ?_)
      obtain ⟨r_16, F_16, rfl, e9, hp⟩ := hq
      rw [e9] at hH
      have hH : Hp G (FA S s.heap.size) s.heap (wI S F_16) H locs := hH
      refine W.eq (g2 := F0 m 47 ls [.int r_16]) rfl ?_
      exact sx_iret (pc := 47) B hH hr hlk (by rw [← hQQ]; exact ⟨_, F_16, rfl, rfl, hp⟩) (Nat.le_of_ble_eq_true rfl) (Nat.le_of_ble_eq_true rfl) dX11_symmetric_47
    refine lv_if_eq (pc := 36) (tgt := 43) hx hb dX11_symmetric_36 (by decide) (fun cc_13 => ?_) (fun cc_13 => ?_)
    · have hp := hp.1 cc_13
      refine lv_iconst (pc := 43) (v := 0) hx hb dX11_symmetric_43 (by decide) ?_
      exact kj_14 _ _ _ _ hp hH (lv_sub hl [] rfl)
    · have hp := hp.2 cc_13
      refine lv_iconst (pc := 39) (v := 1) hx hb dX11_symmetric_39 (by decide) ?_
      refine lv_goto (pc := 40) (tgt := 44) hx hb dX11_symmetric_40 (by decide) ?_
      exact kj_14 _ _ _ _ hp hH (lv_sub hl [] rfl)
  · have hp := hp.2 cc_2
    refine lv_aload_n (pc := 8) hx hb dX11_symmetric_8 rfl (lv_at hl 0 rfl) ?_
    refine lv_iconst (pc := 9) (v := 1) hx hb dX11_symmetric_9 (by decide) ?_
    refine sx_V (pc := 10) (As := [.int 1]) (rest := []) B hH hl.1 (C_X11_refuse G l th 1 _ _ hp) mi_X11_refuse coX11 hk_th w_570 w_3 w_568 rfl rfl ⟨Nat.le_of_ble_eq_true rfl, Nat.le_of_ble_eq_true rfl⟩ (Nat.le_of_ble_eq_true rfl) ⟨Nat.le_of_ble_eq_true rfl, Nat.le_of_ble_eq_true rfl⟩ dX11_symmetric_10 (fun v S1 H locs hq hH => ?_)
    obtain ⟨r_17, F_17, rfl, e9, hp⟩ := hq
    rw [e9] at hH
    have hH : Hp G (FA S s.heap.size) s.heap (wI S F_17) H locs := hH
    refine W.eq (g2 := F0 m 13 ls [.int r_17]) rfl ?_
    exact sx_iret (pc := 13) B hH hr hlk (by rw [← hQQ]; exact ⟨_, F_17, rfl, rfl, hp⟩) (Nat.le_of_ble_eq_true rfl) (Nat.le_of_ble_eq_true rfl) dX11_symmetric_13
theorem dX11_leadTrue_0 : decode cX11_leadTrue 0 = .ok (.aload_n 0, 1) := by decide +kernel
theorem dX11_leadTrue_1 : decode cX11_leadTrue 1 = .ok (.iload_n 1, 1) := by decide +kernel
theorem dX11_leadTrue_2 : decode cX11_leadTrue 2 = .ok (.invokevirtual 256, 3) := by decide +kernel
theorem dX11_leadTrue_5 : decode cX11_leadTrue 5 = .ok (.ifCond .ne 9, 3) := by decide +kernel
theorem dX11_leadTrue_8 : decode cX11_leadTrue 8 = .ok (.aload_n 0, 1) := by decide +kernel
theorem dX11_leadTrue_9 : decode cX11_leadTrue 9 = .ok (.iconst 1, 1) := by decide +kernel
theorem dX11_leadTrue_10 : decode cX11_leadTrue 10 = .ok (.invokevirtual 139, 3) := by decide +kernel
theorem dX11_leadTrue_13 : decode cX11_leadTrue 13 = .ok (.ireturn, 1) := by decide +kernel
theorem dX11_leadTrue_14 : decode cX11_leadTrue 14 = .ok (.aload_n 0, 1) := by decide +kernel
theorem dX11_leadTrue_15 : decode cX11_leadTrue 15 = .ok (.aload_n 0, 1) := by decide +kernel
theorem dX11_leadTrue_16 : decode cX11_leadTrue 16 = .ok (.getfield 62, 3) := by decide +kernel
theorem dX11_leadTrue_19 : decode cX11_leadTrue 19 = .ok (.getfield 166, 3) := by decide +kernel
theorem dX11_leadTrue_22 : decode cX11_leadTrue 22 = .ok (.iload_n 1, 1) := by decide +kernel
theorem dX11_leadTrue_23 : decode cX11_leadTrue 23 = .ok (.aaload, 1) := by decide +kernel
theorem dX11_leadTrue_24 : decode cX11_leadTrue 24 = .ok (.iconst 1, 1) := by decide +kernel
theorem dX11_leadTrue_25 : decode cX11_leadTrue 25 = .ok (.invokevirtual 282, 3) := by decide +kernel
theorem dX11_leadTrue_28 : decode cX11_leadTrue 28 = .ok (.ifCond .eq 7, 3) := by decide +kernel
theorem dX11_leadTrue_31 : decode cX11_leadTrue 31 = .ok (.iconst 1, 1) := by decide +kernel
theorem dX11_leadTrue_32 : decode cX11_leadTrue 32 = .ok (.goto 4, 3) := by decide +kernel
theorem dX11_leadTrue_35 : decode cX11_leadTrue 35 = .ok (.iconst 0, 1) := by decide +kernel
theorem dX11_leadTrue_36 : decode cX11_leadTrue 36 = .ok (.invokevirtual 170, 3) := by decide +kernel
theorem dX11_leadTrue_39 : decode cX11_leadTrue 39 = .ok (.ireturn, 1) := by decide +kernel
theorem mi_X11_leadTrue : MI yX11_leadTrue cX11_leadTrue 2 (some FieldType.int) 1 := ⟨w_1004, w_105, by decide +kernel, by decide +kernel, by decide +kernel⟩
set_option maxRecDepth 100000 in
set_option maxHeartbeats 4000000 in
theorem C_X11_leadTrue (G : GG) (l : Launch) (th : Nat) (p0 : Int32) (S : St) (Q : Int32 → (Nat → Nat → Int32) → Prop) (hp : P_X11_leadTrue th p0 S Q) : Ctr G l yX11_leadTrue cX11_leadTrue 2 (some FieldType.int) 2 45 0 0 [.ref th, .int p0] S (fun (v : Option Value) (S9 : St) => ∃ (r : Int32) (I9 : Nat → Nat → Int32), v = some (.int r) ∧ S9 = wI S I9 ∧ Q r I9) := by
  generalize hQQ : (fun (v : Option Value) (S9 : St) => ∃ (r : Int32) (I9 : Nat → Nat → Int32), v = some (.int r) ∧ S9 = wI S I9 ∧ Q r I9) = QQ
  unfold P_X11_leadTrue at hp
  refine Ctr.of (by decide) (Nat.le_of_ble_eq_true rfl) ?_
  intro p e s m args below meth c ls B hr hlk hin hl hH
  generalize hlocs0 : ([] : List Loc) = locs at hH ⊢
  have hx := B.1
  have hb := B.2.1
  have hl : lv_has ls 2 [(0, .ref th), (1, .int p0)] := hl
  obtain ⟨hk_th, hp⟩ := hp
  refine lv_aload_n (pc := 0) hx hb dX11_leadTrue_0 rfl (lv_at hl 0 rfl) ?_
  refine lv_iload_n (pc := 1) hx hb dX11_leadTrue_1 rfl (lv_at hl 1 rfl) ?_
  refine sx_V (pc := 2) (As := [.int p0]) (rest := []) B hH hl.1 (C_X11_isMethod G l th p0 _ _ hp) mi_X11_isMethod coX11 hk_th w_968 w_31 w_966 rfl rfl ⟨Nat.le_of_ble_eq_true rfl, Nat.le_of_ble_eq_true rfl⟩ (Nat.le_of_ble_eq_true rfl) ⟨Nat.le_of_ble_eq_true rfl, Nat.le_of_ble_eq_true rfl⟩ dX11_leadTrue_2 (fun v S1 H locs hq hH => ?_)
  obtain ⟨r_1, rfl, e9, hp⟩ := hq
  rw [e9] at hH
  refine W.eq (g2 := F0 m 5 ls [.int r_1]) rfl ?_
  refine lv_if_ne (pc := 5) (tgt := 14) hx hb dX11_leadTrue_5 (by decide) (fun cc_2 => ?_) (fun cc_2 => ?_)
  · have hp := hp.1 cc_2
    refine lv_aload_n (pc := 14) hx hb dX11_leadTrue_14 rfl (lv_at hl 0 rfl) ?_
    refine lv_aload_n (pc := 15) hx hb dX11_leadTrue_15 rfl (lv_at hl 0 rfl) ?_
    refine sx_getR (pc := 16) (j := 7) B hH hk_th coX11 rfl w_463 rfl dX11_leadTrue_16 ?_
    refine W.eq (g2 := F0 m 19 ls [va_rf (gR S th 7), .ref th]) rfl ?_
    obtain ⟨a_3, ha_3, hp⟩ := hp
    refine sx_nonnull (x := a_3) ha_3 ?_
    obtain ⟨hk_4, hp⟩ := hp
    refine sx_getR (pc := 19) (j := 3) B hH hk_4 coX0 rfl w_366 rfl dX11_leadTrue_19 ?_
    refine W.eq (g2 := F0 m 22 ls [va_rf (gR S a_3 3), .ref th]) rfl ?_
    obtain ⟨a_5, ha_5, hp⟩ := hp
    refine sx_nonnull (x := a_5) ha_5 ?_
    refine lv_iload_n (pc := 22) hx hb dX11_leadTrue_22 rfl (lv_at hl 1 rfl) ?_
    obtain ⟨hk_6, hp⟩ := hp
    obtain ⟨hn_7, hp⟩ := hp
    refine sx_aald (pc := 23) B hH hk_6 (by decide) (by decide) hn_7 dX11_leadTrue_23 ?_
    refine W.eq (g2 := F0 m 24 ls [va_rf (gR S a_5 p0.toNatClampNeg), .ref th]) rfl ?_
    obtain ⟨a_8, ha_8, hp⟩ := hp
    refine sx_nonnull (x := a_8) ha_8 ?_
    refine lv_iconst (pc := 24) (v := 1) hx hb dX11_leadTrue_24 (by decide) ?_
    obtain ⟨hk_9, hp⟩ := hp
    refine sx_V (pc := 25) (As := [.int 1]) (rest := [.ref th]) B hH hl.1 (C_X3_isUnlike G l a_8 1 _ _ hp) mi_X3_isUnlike coX3 hk_9 w_1006 w_1007 w_1005 rfl rfl ⟨Nat.le_of_ble_eq_true rfl, Nat.le_of_ble_eq_true rfl⟩ (Nat.le_of_ble_eq_true rfl) ⟨Nat.le_of_ble_eq_true rfl, Nat.le_of_ble_eq_true rfl⟩ dX11_leadTrue_25 (fun v S1 H locs hq hH => ?_)
    obtain ⟨r_10, rfl, e9, hp⟩ := hq
    rw [e9] at hH
    refine W.eq (g2 := F0 m 28 ls [.int r_10, .ref th]) rfl ?_
    obtain ⟨J_12, hj_12, hp⟩ := hp
    have kj_12 : ∀ (t_13 : Int32) (H : Heap) (locs : List Loc) (ls : Array Slot), J_12 t_13 → Hp G (FA S s.heap.size) s.heap S H locs → lv_has ls 2 [] → Wm G p l e { frames := 2, cells := 0, slots := 0, locals := 45 } s m args below meth c S QQ 0 0 H locs 0 0 (F0 m 36 ls [.int t_13, .ref th]) := by
      intro t_13 H locs ls hq9 hH hl
      have hp := hj_12 t_13 hq9
      refine sx_V (pc := 36) (As := [.int t_13]) (rest := []) B hH hl.1 (C_X11_answer G l th t_13 _ _ hp) mi_X11_answer coX11 hk_th w_740 w_16 w_738 rfl rfl ⟨Nat.le_of_ble_eq_true rfl, Nat.le_of_ble_eq_true rfl⟩ (Nat.le_of_ble_eq_true rfl) ⟨Nat.le_of_ble_eq_true rfl, Nat.le_of_ble_eq_true rfl⟩ dX11_leadTrue_36 (fun v S1 H locs hq hH => ?_)
      obtain ⟨r_14, F_14, rfl, e9, hp⟩ := hq
      rw [e9] at hH
      have hH : Hp G (FA S s.heap.size) s.heap (wI S F_14) H locs := hH
      refine W.eq (g2 := F0 m 39 ls [.int r_14]) rfl ?_
      exact sx_iret (pc := 39) B hH hr hlk (by rw [← hQQ]; exact ⟨_, F_14, rfl, rfl, hp⟩) (Nat.le_of_ble_eq_true rfl) (Nat.le_of_ble_eq_true rfl) dX11_leadTrue_39
    refine lv_if_eq (pc := 28) (tgt := 35) hx hb dX11_leadTrue_28 (by decide) (fun cc_11 => ?_) (fun cc_11 => ?_)
    · have hp := hp.1 cc_11
      refine lv_iconst (pc := 35) (v := 0) hx hb dX11_leadTrue_35 (by decide) ?_
      exact kj_12 _ _ _ _ hp hH (lv_sub hl [] rfl)
    · have hp := hp.2 cc_11
      refine lv_iconst (pc := 31) (v := 1) hx hb dX11_leadTrue_31 (by decide) ?_
      refine lv_goto (pc := 32) (tgt := 36) hx hb dX11_leadTrue_32 (by decide) ?_
      exact kj_12 _ _ _ _ hp hH (lv_sub hl [] rfl)
  · have hp := hp.2 cc_2
    refine lv_aload_n (pc := 8) hx hb dX11_leadTrue_8 rfl (lv_at hl 0 rfl) ?_
    refine lv_iconst (pc := 9) (v := 1) hx hb dX11_leadTrue_9 (by decide) ?_
    refine sx_V (pc := 10) (As := [.int 1]) (rest := []) B hH hl.1 (C_X11_refuse G l th 1 _ _ hp) mi_X11_refuse coX11 hk_th w_570 w_3 w_568 rfl rfl ⟨Nat.le_of_ble_eq_true rfl, Nat.le_of_ble_eq_true rfl⟩ (Nat.le_of_ble_eq_true rfl) ⟨Nat.le_of_ble_eq_true rfl, Nat.le_of_ble_eq_true rfl⟩ dX11_leadTrue_10 (fun v S1 H locs hq hH => ?_)
    obtain ⟨r_15, F_15, rfl, e9, hp⟩ := hq
    rw [e9] at hH
    have hH : Hp G (FA S s.heap.size) s.heap (wI S F_15) H locs := hH
    refine W.eq (g2 := F0 m 13 ls [.int r_15]) rfl ?_
    exact sx_iret (pc := 13) B hH hr hlk (by rw [← hQQ]; exact ⟨_, F_15, rfl, rfl, hp⟩) (Nat.le_of_ble_eq_true rfl) (Nat.le_of_ble_eq_true rfl) dX11_leadTrue_13
theorem dX11_falseAgainst_0 : decode cX11_falseAgainst 0 = .ok (.aload_n 0, 1) := by decide +kernel
theorem dX11_falseAgainst_1 : decode cX11_falseAgainst 1 = .ok (.iload_n 1, 1) := by decide +kernel
theorem dX11_falseAgainst_2 : decode cX11_falseAgainst 2 = .ok (.invokevirtual 256, 3) := by decide +kernel
theorem dX11_falseAgainst_5 : decode cX11_falseAgainst 5 = .ok (.ifCond .eq 11, 3) := by decide +kernel
theorem dX11_falseAgainst_8 : decode cX11_falseAgainst 8 = .ok (.aload_n 0, 1) := by decide +kernel
theorem dX11_falseAgainst_9 : decode cX11_falseAgainst 9 = .ok (.iload_n 2, 1) := by decide +kernel
theorem dX11_falseAgainst_10 : decode cX11_falseAgainst 10 = .ok (.invokevirtual 201, 3) := by decide +kernel
theorem dX11_falseAgainst_13 : decode cX11_falseAgainst 13 = .ok (.ifCond .ne 9, 3) := by decide +kernel
theorem dX11_falseAgainst_16 : decode cX11_falseAgainst 16 = .ok (.aload_n 0, 1) := by decide +kernel
theorem dX11_falseAgainst_17 : decode cX11_falseAgainst 17 = .ok (.iconst 1, 1) := by decide +kernel
theorem dX11_falseAgainst_18 : decode cX11_falseAgainst 18 = .ok (.invokevirtual 139, 3) := by decide +kernel
theorem dX11_falseAgainst_21 : decode cX11_falseAgainst 21 = .ok (.ireturn, 1) := by decide +kernel
theorem dX11_falseAgainst_22 : decode cX11_falseAgainst 22 = .ok (.iload_n 2, 1) := by decide +kernel
theorem dX11_falseAgainst_23 : decode cX11_falseAgainst 23 = .ok (.ifCond .ne 9, 3) := by decide +kernel
theorem dX11_falseAgainst_26 : decode cX11_falseAgainst 26 = .ok (.aload_n 0, 1) := by decide +kernel
theorem dX11_falseAgainst_27 : decode cX11_falseAgainst 27 = .ok (.iconst 0, 1) := by decide +kernel
theorem dX11_falseAgainst_28 : decode cX11_falseAgainst 28 = .ok (.invokevirtual 170, 3) := by decide +kernel
theorem dX11_falseAgainst_31 : decode cX11_falseAgainst 31 = .ok (.ireturn, 1) := by decide +kernel
theorem dX11_falseAgainst_32 : decode cX11_falseAgainst 32 = .ok (.aload_n 0, 1) := by decide +kernel
theorem dX11_falseAgainst_33 : decode cX11_falseAgainst 33 = .ok (.getfield 62, 3) := by decide +kernel
theorem dX11_falseAgainst_36 : decode cX11_falseAgainst 36 = .ok (.getfield 166, 3) := by decide +kernel
theorem dX11_falseAgainst_39 : decode cX11_falseAgainst 39 = .ok (.iload_n 1, 1) := by decide +kernel
theorem dX11_falseAgainst_40 : decode cX11_falseAgainst 40 = .ok (.aaload, 1) := by decide +kernel
theorem dX11_falseAgainst_41 : decode cX11_falseAgainst 41 = .ok (.astore_n 3, 1) := by decide +kernel
theorem dX11_falseAgainst_42 : decode cX11_falseAgainst 42 = .ok (.aload_n 0, 1) := by decide +kernel
theorem dX11_falseAgainst_43 : decode cX11_falseAgainst 43 = .ok (.iload_n 2, 1) := by decide +kernel
theorem dX11_falseAgainst_44 : decode cX11_falseAgainst 44 = .ok (.invokevirtual 207, 3) := by decide +kernel
theorem dX11_falseAgainst_47 : decode cX11_falseAgainst 47 = .ok (.istore 4, 2) := by decide +kernel
theorem dX11_falseAgainst_49 : decode cX11_falseAgainst 49 = .ok (.iconst 1, 1) := by decide +kernel
theorem dX11_falseAgainst_50 : decode cX11_falseAgainst 50 = .ok (.istore 5, 2) := by decide +kernel
theorem dX11_falseAgainst_52 : decode cX11_falseAgainst 52 = .ok (.iload 5, 2) := by decide +kernel
theorem dX11_falseAgainst_54 : decode cX11_falseAgainst 54 = .ok (.aload_n 3, 1) := by decide +kernel
theorem dX11_falseAgainst_55 : decode cX11_falseAgainst 55 = .ok (.invokevirtual 259, 3) := by decide +kernel
theorem dX11_falseAgainst_58 : decode cX11_falseAgainst 58 = .ok (.if_icmp .gt 42, 3) := by decide +kernel
theorem dX11_falseAgainst_61 : decode cX11_falseAgainst 61 = .ok (.aload_n 3, 1) := by decide +kernel
theorem dX11_falseAgainst_62 : decode cX11_falseAgainst 62 = .ok (.iload 4, 2) := by decide +kernel
theorem dX11_falseAgainst_64 : decode cX11_falseAgainst 64 = .ok (.aload_n 3, 1) := by decide +kernel
theorem dX11_falseAgainst_65 : decode cX11_falseAgainst 65 = .ok (.getfield 285, 3) := by decide +kernel
theorem dX11_falseAgainst_68 : decode cX11_falseAgainst 68 = .ok (.iload 5, 2) := by decide +kernel
theorem dX11_falseAgainst_70 : decode cX11_falseAgainst 70 = .ok (.iaload, 1) := by decide +kernel
theorem dX11_falseAgainst_71 : decode cX11_falseAgainst 71 = .ok (.aload_n 0, 1) := by decide +kernel
theorem dX11_falseAgainst_72 : decode cX11_falseAgainst 72 = .ok (.getfield 62, 3) := by decide +kernel
theorem dX11_falseAgainst_75 : decode cX11_falseAgainst 75 = .ok (.getfield 188, 3) := by decide +kernel
theorem dX11_falseAgainst_78 : decode cX11_falseAgainst 78 = .ok (.invokestatic 241, 3) := by decide +kernel
theorem dX11_falseAgainst_81 : decode cX11_falseAgainst 81 = .ok (.invokevirtual 287, 3) := by decide +kernel
theorem dX11_falseAgainst_84 : decode cX11_falseAgainst 84 = .ok (.iconst (-1), 1) := by decide +kernel
theorem dX11_falseAgainst_85 : decode cX11_falseAgainst 85 = .ok (.if_icmp .eq 9, 3) := by decide +kernel
theorem dX11_falseAgainst_88 : decode cX11_falseAgainst 88 = .ok (.aload_n 0, 1) := by decide +kernel
theorem dX11_falseAgainst_89 : decode cX11_falseAgainst 89 = .ok (.iconst 1, 1) := by decide +kernel
theorem dX11_falseAgainst_90 : decode cX11_falseAgainst 90 = .ok (.invokevirtual 170, 3) := by decide +kernel
theorem dX11_falseAgainst_93 : decode cX11_falseAgainst 93 = .ok (.ireturn, 1) := by decide +kernel
theorem dX11_falseAgainst_94 : decode cX11_falseAgainst 94 = .ok (.iinc 5 1, 3) := by decide +kernel
theorem dX11_falseAgainst_97 : decode cX11_falseAgainst 97 = .ok (.goto (-45), 3) := by decide +kernel
theorem dX11_falseAgainst_100 : decode cX11_falseAgainst 100 = .ok (.aload_n 0, 1) := by decide +kernel
theorem dX11_falseAgainst_101 : decode cX11_falseAgainst 101 = .ok (.iconst 0, 1) := by decide +kernel
theorem dX11_falseAgainst_102 : decode cX11_falseAgainst 102 = .ok (.invokevirtual 170, 3) := by decide +kernel
theorem dX11_falseAgainst_105 : decode cX11_falseAgainst 105 = .ok (.ireturn, 1) := by decide +kernel
theorem mi_X11_falseAgainst : MI yX11_falseAgainst cX11_falseAgainst 6 (some FieldType.int) 2 := ⟨w_1013, w_105, by decide +kernel, by decide +kernel, by decide +kernel⟩
set_option maxRecDepth 100000 in
set_option maxHeartbeats 4000000 in
theorem C_X11_falseAgainst (G : GG) (l : Launch) (th : Nat) (p0 : Int32) (p1 : Int32) (S : St) (Q : Int32 → (Nat → Nat → Int32) → Prop) (hp : P_X11_falseAgainst th p0 p1 S Q) : Ctr G l yX11_falseAgainst cX11_falseAgainst 6 (some FieldType.int) 3 70 0 0 [.ref th, .int p0, .int p1] S (fun (v : Option Value) (S9 : St) => ∃ (r : Int32) (I9 : Nat → Nat → Int32), v = some (.int r) ∧ S9 = wI S I9 ∧ Q r I9) := by
  generalize hQQ : (fun (v : Option Value) (S9 : St) => ∃ (r : Int32) (I9 : Nat → Nat → Int32), v = some (.int r) ∧ S9 = wI S I9 ∧ Q r I9) = QQ
  unfold P_X11_falseAgainst at hp
  refine Ctr.of (by decide) (Nat.le_of_ble_eq_true rfl) ?_
  intro p e s m args below meth c ls B hr hlk hin hl hH
  generalize hlocs0 : ([] : List Loc) = locs at hH ⊢
  have hx := B.1
  have hb := B.2.1
  have hl : lv_has ls 6 [(0, .ref th), (1, .int p0), (2, .int p1)] := hl
  obtain ⟨hk_th, hp⟩ := hp
  refine lv_aload_n (pc := 0) hx hb dX11_falseAgainst_0 rfl (lv_at hl 0 rfl) ?_
  refine lv_iload_n (pc := 1) hx hb dX11_falseAgainst_1 rfl (lv_at hl 1 rfl) ?_
  refine sx_V (pc := 2) (As := [.int p0]) (rest := []) B hH hl.1 (C_X11_isMethod G l th p0 _ _ hp) mi_X11_isMethod coX11 hk_th w_968 w_31 w_966 rfl rfl ⟨Nat.le_of_ble_eq_true rfl, Nat.le_of_ble_eq_true rfl⟩ (Nat.le_of_ble_eq_true rfl) ⟨Nat.le_of_ble_eq_true rfl, Nat.le_of_ble_eq_true rfl⟩ dX11_falseAgainst_2 (fun v S1 H locs hq hH => ?_)
  obtain ⟨r_1, rfl, e9, hp⟩ := hq
  rw [e9] at hH
  refine W.eq (g2 := F0 m 5 ls [.int r_1]) rfl ?_
  obtain ⟨J_3, hj_3, hp⟩ := hp
  have kj_3 : ∀  (H : Heap) (locs : List Loc) (ls : Array Slot), J_3  → Hp G (FA S s.heap.size) s.heap S H locs → lv_has ls 6 [(0, .ref th)] → Wm G p l e { frames := 3, cells := 0, slots := 0, locals := 70 } s m args below meth c S QQ 0 0 H locs 0 0 (F0 m 16 ls []) := by
    intro  H locs ls hq9 hH hl
    have hp := hj_3  hq9
    refine lv_aload_n (pc := 16) hx hb dX11_falseAgainst_16 rfl (lv_at hl 0 rfl) ?_
    refine lv_iconst (pc := 17) (v := 1) hx hb dX11_falseAgainst_17 (by decide) ?_
    refine sx_V (pc := 18) (As := [.int 1]) (rest := []) B hH hl.1 (C_X11_refuse G l th 1 _ _ hp) mi_X11_refuse coX11 hk_th w_570 w_3 w_568 rfl rfl ⟨Nat.le_of_ble_eq_true rfl, Nat.le_of_ble_eq_true rfl⟩ (Nat.le_of_ble_eq_true rfl) ⟨Nat.le_of_ble_eq_true rfl, Nat.le_of_ble_eq_true rfl⟩ dX11_falseAgainst_18 (fun v S1 H locs hq hH => ?_)
    obtain ⟨r_4, F_4, rfl, e9, hp⟩ := hq
    rw [e9] at hH
    have hH : Hp G (FA S s.heap.size) s.heap (wI S F_4) H locs := hH
    refine W.eq (g2 := F0 m 21 ls [.int r_4]) rfl ?_
    exact sx_iret (pc := 21) B hH hr hlk (by rw [← hQQ]; exact ⟨_, F_4, rfl, rfl, hp⟩) (Nat.le_of_ble_eq_true rfl) (Nat.le_of_ble_eq_true rfl) dX11_falseAgainst_21
  refine lv_if_eq (pc := 5) (tgt := 16) hx hb dX11_falseAgainst_5 (by decide) (fun cc_2 => ?_) (fun cc_2 => ?_)
  · have hp := hp.1 cc_2
    exact kj_3  _ _ _ hp hH (lv_sub hl [0] rfl)
  · have hp := hp.2 cc_2
    refine lv_aload_n (pc := 8) hx hb dX11_falseAgainst_8 rfl (lv_at hl 0 rfl) ?_
    refine lv_iload_n (pc := 9) hx hb dX11_falseAgainst_9 rfl (lv_at hl 2 rfl) ?_
    refine sx_V (pc := 10) (As := [.int p1]) (rest := []) B hH hl.1 (C_X11_isRow G l th p1 _ _ hp) mi_X11_isRow coX11 hk_th w_855 w_26 w_853 rfl rfl ⟨Nat.le_of_ble_eq_true rfl, Nat.le_of_ble_eq_true rfl⟩ (Nat.le_of_ble_eq_true rfl) ⟨Nat.le_of_ble_eq_true rfl, Nat.le_of_ble_eq_true rfl⟩ dX11_falseAgainst_10 (fun v S1 H locs hq hH => ?_)
    obtain ⟨r_5, rfl, e9, hp⟩ := hq
    rw [e9] at hH
    refine W.eq (g2 := F0 m 13 ls [.int r_5]) rfl ?_
    refine lv_if_ne (pc := 13) (tgt := 22) hx hb dX11_falseAgainst_13 (by decide) (fun cc_6 => ?_) (fun cc_6 => ?_)
    · have hp := hp.1 cc_6
      refine lv_iload_n (pc := 22) hx hb dX11_falseAgainst_22 rfl (lv_at hl 2 rfl) ?_
      refine lv_if_ne (pc := 23) (tgt := 32) hx hb dX11_falseAgainst_23 (by decide) (fun cc_7 => ?_) (fun cc_7 => ?_)
      · have hp := hp.1 cc_7
        refine lv_aload_n (pc := 32) hx hb dX11_falseAgainst_32 rfl (lv_at hl 0 rfl) ?_
        refine sx_getR (pc := 33) (j := 7) B hH hk_th coX11 rfl w_463 rfl dX11_falseAgainst_33 ?_
        refine W.eq (g2 := F0 m 36 ls [va_rf (gR S th 7)]) rfl ?_
        obtain ⟨a_8, ha_8, hp⟩ := hp
        refine sx_nonnull (x := a_8) ha_8 ?_
        obtain ⟨hk_9, hp⟩ := hp
        refine sx_getR (pc := 36) (j := 3) B hH hk_9 coX0 rfl w_366 rfl dX11_falseAgainst_36 ?_
        refine W.eq (g2 := F0 m 39 ls [va_rf (gR S a_8 3)]) rfl ?_
        obtain ⟨a_10, ha_10, hp⟩ := hp
        refine sx_nonnull (x := a_10) ha_10 ?_
        refine lv_iload_n (pc := 39) hx hb dX11_falseAgainst_39 rfl (lv_at hl 1 rfl) ?_
        obtain ⟨hk_11, hp⟩ := hp
        obtain ⟨hn_12, hp⟩ := hp
        refine sx_aald (pc := 40) B hH hk_11 (by decide) (by decide) hn_12 dX11_falseAgainst_40 ?_
        refine W.eq (g2 := F0 m 41 ls [va_rf (gR S a_10 p0.toNatClampNeg)]) rfl ?_
        refine sx_astore_n (pc := 41) (r := gR S a_10 p0.toNatClampNeg) (lv' := [(3, va_rf (gR S a_10 p0.toNatClampNeg)), (0, .ref th), (1, .int p0), (2, .int p1)]) B dX11_falseAgainst_41 rfl hl (by decide) rfl (fun ls hl => ?_)
        refine lv_aload_n (pc := 42) hx hb dX11_falseAgainst_42 rfl (lv_at hl 1 rfl) ?_
        refine lv_iload_n (pc := 43) hx hb dX11_falseAgainst_43 rfl (lv_at hl 3 rfl) ?_
        refine sx_V (pc := 44) (As := [.int p1]) (rest := []) B hH hl.1 (C_X11_packed G l th p1 _ _ hp) mi_X11_packed coX11 hk_th w_863 w_28 w_861 rfl rfl ⟨Nat.le_of_ble_eq_true rfl, Nat.le_of_ble_eq_true rfl⟩ (Nat.le_of_ble_eq_true rfl) ⟨Nat.le_of_ble_eq_true rfl, Nat.le_of_ble_eq_true rfl⟩ dX11_falseAgainst_44 (fun v S1 H locs hq hH => ?_)
        obtain ⟨r_13, rfl, e9, hp⟩ := hq
        rw [e9] at hH
        refine W.eq (g2 := F0 m 47 ls [.int r_13]) rfl ?_
        refine lv_istore (pc := 47) (lv' := [(4, .int r_13), (3, va_rf (gR S a_10 p0.toNatClampNeg)), (0, .ref th), (1, .int p0), (2, .int p1)]) hx hb dX11_falseAgainst_47 hl (by decide) (by cases (gR S a_10 p0.toNatClampNeg) <;> rfl) (fun ls hl => ?_)
        refine lv_iconst (pc := 49) (v := 1) hx hb dX11_falseAgainst_49 (by decide) ?_
        refine lv_istore (pc := 50) (lv' := [(5, .int 1), (4, .int r_13), (3, va_rf (gR S a_10 p0.toNatClampNeg)), (0, .ref th), (1, .int p0), (2, .int p1)]) hx hb dX11_falseAgainst_50 hl (by decide) rfl (fun ls hl => ?_)
        obtain ⟨I_14, ⟨k0_14, h0_14⟩, hst_14⟩ := hp
        have kl_14 : ∀ (n_14 : Nat) (x5_15 : Int32) (H : Heap) (locs : List Loc) (ls : Array Slot), I_14 n_14 x5_15 → Hp G (FA S s.heap.size) s.heap S H locs → lv_has ls 6 [(0, .ref th), (3, va_rf (gR S a_10 p0.toNatClampNeg)), (4, .int r_13), (5, .int x5_15)] → Wm G p l e { frames := 3, cells := 0, slots := 0, locals := 70 } s m args below meth c S QQ 0 0 H locs 0 0 (F0 m 52 ls []) := by
          intro n_14
          induction n_14 using Nat.strongRecOn with
          | ind n_14 ih_14 =>
            intro x5_15 H locs ls hq9 hH hl
            have hp := hst_14 n_14 x5_15 hq9
            refine lv_iload (pc := 52) hx hb dX11_falseAgainst_52 (lv_at hl 3 rfl) ?_
            refine sx_aload_n (pc := 54) (r := gR S a_10 p0.toNatClampNeg) B dX11_falseAgainst_54 rfl (lv_at hl 1 rfl) ?_
            obtain ⟨a_16, ha_16, hp⟩ := hp
            refine sx_nonnull (x := a_16) ha_16 ?_
            obtain ⟨hk_17, hp⟩ := hp
            refine sx_V (pc := 55) (As := []) (rest := [.int x5_15]) B hH hl.1 (C_X3_length G l a_16 _ _ hp) mi_X3_length coX3 hk_17 w_784 w_785 w_970 rfl rfl ⟨Nat.le_of_ble_eq_true rfl, Nat.le_of_ble_eq_true rfl⟩ (Nat.le_of_ble_eq_true rfl) ⟨Nat.le_of_ble_eq_true rfl, Nat.le_of_ble_eq_true rfl⟩ dX11_falseAgainst_55 (fun v S1 H locs hq hH => ?_)
            obtain ⟨r_18, rfl, e9, hp⟩ := hq
            rw [e9] at hH
            refine W.eq (g2 := F0 m 58 ls [.int r_18, .int x5_15]) rfl ?_
            refine lv_icmp_gt (pc := 58) (tgt := 100) hx hb dX11_falseAgainst_58 (by decide) (fun cc_19 => ?_) (fun cc_19 => ?_)
            · have hp := hp.1 cc_19
              refine lv_aload_n (pc := 100) hx hb dX11_falseAgainst_100 rfl (lv_at hl 0 rfl) ?_
              refine lv_iconst (pc := 101) (v := 0) hx hb dX11_falseAgainst_101 (by decide) ?_
              refine sx_V (pc := 102) (As := [.int 0]) (rest := []) B hH hl.1 (C_X11_answer G l th 0 _ _ hp) mi_X11_answer coX11 hk_th w_740 w_16 w_738 rfl rfl ⟨Nat.le_of_ble_eq_true rfl, Nat.le_of_ble_eq_true rfl⟩ (Nat.le_of_ble_eq_true rfl) ⟨Nat.le_of_ble_eq_true rfl, Nat.le_of_ble_eq_true rfl⟩ dX11_falseAgainst_102 (fun v S1 H locs hq hH => ?_)
              obtain ⟨r_20, F_20, rfl, e9, hp⟩ := hq
              rw [e9] at hH
              have hH : Hp G (FA S s.heap.size) s.heap (wI S F_20) H locs := hH
              refine W.eq (g2 := F0 m 105 ls [.int r_20]) rfl ?_
              exact sx_iret (pc := 105) B hH hr hlk (by rw [← hQQ]; exact ⟨_, F_20, rfl, rfl, hp⟩) (Nat.le_of_ble_eq_true rfl) (Nat.le_of_ble_eq_true rfl) dX11_falseAgainst_105
            · have hp := hp.2 cc_19
              refine sx_aload_n (pc := 61) (r := gR S a_10 p0.toNatClampNeg) B dX11_falseAgainst_61 rfl (lv_at hl 1 rfl) ?_
              refine sx_nonnull (x := a_16) ha_16 ?_
              refine lv_iload (pc := 62) hx hb dX11_falseAgainst_62 (lv_at hl 2 rfl) ?_
              refine sx_aload_n (pc := 64) (r := gR S a_10 p0.toNatClampNeg) B dX11_falseAgainst_64 rfl (lv_at hl 1 rfl) ?_
              refine sx_nonnull (x := a_16) ha_16 ?_
              refine sx_getR (pc := 65) (j := 2) B hH hk_17 coX3 rfl w_718 rfl dX11_falseAgainst_65 ?_
              refine W.eq (g2 := F0 m 68 ls [va_rf (gR S a_16 2), .int r_13, .ref a_16]) rfl ?_
              obtain ⟨a_21, ha_21, hp⟩ := hp
              refine sx_nonnull (x := a_21) ha_21 ?_
              refine lv_iload (pc := 68) hx hb dX11_falseAgainst_68 (lv_at hl 3 rfl) ?_
              obtain ⟨hk_22, hp⟩ := hp
              obtain ⟨hn_23, hp⟩ := hp
              refine sx_iald (pc := 70) B hH hk_22 hn_23 dX11_falseAgainst_70 ?_
              refine W.eq (g2 := F0 m 71 ls [.int (gI S a_21 x5_15.toNatClampNeg), .int r_13, .ref a_16]) rfl ?_
              refine lv_aload_n (pc := 71) hx hb dX11_falseAgainst_71 rfl (lv_at hl 0 rfl) ?_
              refine sx_getR (pc := 72) (j := 7) B hH hk_th coX11 rfl w_463 rfl dX11_falseAgainst_72 ?_
              refine W.eq (g2 := F0 m 75 ls [va_rf (gR S th 7), .int (gI S a_21 x5_15.toNatClampNeg), .int r_13, .ref a_16]) rfl ?_
              refine sx_nonnull (x := a_8) ha_8 ?_
              refine sx_getI (pc := 75) (j := 0) B hH hk_9 coX0 rfl w_357 rfl dX11_falseAgainst_75 ?_
              refine W.eq (g2 := F0 m 78 ls [.int (gI S a_8 0), .int (gI S a_21 x5_15.toNatClampNeg), .int r_13, .ref a_16]) rfl ?_
              refine sx_S (pc := 78) (As := [.int r_13, .int (gI S a_21 x5_15.toNatClampNeg), .int (gI S a_8 0)]) (rest := [.ref a_16]) B hH hl.1 (C_X4_multiply G l r_13 (gI S a_21 x5_15.toNatClampNeg) (gI S a_8 0) _ _ hp) mi_X4_multiply w_914 w_937 rfl rfl ⟨Nat.le_of_ble_eq_true rfl, Nat.le_of_ble_eq_true rfl⟩ (Nat.le_of_ble_eq_true rfl) ⟨Nat.le_of_ble_eq_true rfl, Nat.le_of_ble_eq_true rfl⟩ dX11_falseAgainst_78 (fun v S1 H locs hq hH => ?_)
              obtain ⟨r_24, rfl, e9, hp⟩ := hq
              rw [e9] at hH
              refine W.eq (g2 := F0 m 81 ls [.int r_24, .ref a_16]) rfl ?_
              refine sx_V (pc := 81) (As := [.int r_24]) (rest := []) B hH hl.1 (C_X3_behind G l a_16 r_24 _ _ hp) mi_X3_behind coX3 hk_17 w_1015 w_1016 w_1014 rfl rfl ⟨Nat.le_of_ble_eq_true rfl, Nat.le_of_ble_eq_true rfl⟩ (Nat.le_of_ble_eq_true rfl) ⟨Nat.le_of_ble_eq_true rfl, Nat.le_of_ble_eq_true rfl⟩ dX11_falseAgainst_81 (fun v S1 H locs hq hH => ?_)
              obtain ⟨r_25, rfl, e9, hp⟩ := hq
              rw [e9] at hH
              refine W.eq (g2 := F0 m 84 ls [.int r_25]) rfl ?_
              refine lv_iconst (pc := 84) (v := (-1)) hx hb dX11_falseAgainst_84 (by decide) ?_
              refine lv_icmp_eq (pc := 85) (tgt := 94) hx hb dX11_falseAgainst_85 (by decide) (fun cc_26 => ?_) (fun cc_26 => ?_)
              · have hp := hp.1 cc_26
                obtain ⟨v_27, ev_27⟩ : ∃ y : Int32, y = x5_15 + 1 := ⟨_, rfl⟩
                have hp := hp v_27 ev_27
                refine lv_iinc (pc := 94) (v := v_27) (lv' := [(5, .int v_27), (0, .ref th), (3, va_rf (gR S a_10 p0.toNatClampNeg)), (4, .int r_13)]) hx hb dX11_falseAgainst_94 hl (k := 3) rfl (by rw [ev_27]; rfl) (by decide) rfl (fun ls hl => ?_)
                refine lv_goto (pc := 97) (tgt := 52) hx hb dX11_falseAgainst_97 (by decide) ?_
                obtain ⟨k9, hlt9, hp⟩ := hp
                exact ih_14 k9 hlt9 _ _ _ _ hp hH (lv_sub hl [1, 2, 3, 0] rfl)
              · have hp := hp.2 cc_26
                refine lv_aload_n (pc := 88) hx hb dX11_falseAgainst_88 rfl (lv_at hl 0 rfl) ?_
                refine lv_iconst (pc := 89) (v := 1) hx hb dX11_falseAgainst_89 (by decide) ?_
                refine sx_V (pc := 90) (As := [.int 1]) (rest := []) B hH hl.1 (C_X11_answer G l th 1 _ _ hp) mi_X11_answer coX11 hk_th w_740 w_16 w_738 rfl rfl ⟨Nat.le_of_ble_eq_true rfl, Nat.le_of_ble_eq_true rfl⟩ (Nat.le_of_ble_eq_true rfl) ⟨Nat.le_of_ble_eq_true rfl, Nat.le_of_ble_eq_true rfl⟩ dX11_falseAgainst_90 (fun v S1 H locs hq hH => ?_)
                obtain ⟨r_28, F_28, rfl, e9, hp⟩ := hq
                rw [e9] at hH
                have hH : Hp G (FA S s.heap.size) s.heap (wI S F_28) H locs := hH
                refine W.eq (g2 := F0 m 93 ls [.int r_28]) rfl ?_
                exact sx_iret (pc := 93) B hH hr hlk (by rw [← hQQ]; exact ⟨_, F_28, rfl, rfl, hp⟩) (Nat.le_of_ble_eq_true rfl) (Nat.le_of_ble_eq_true rfl) dX11_falseAgainst_93
        exact kl_14 k0_14 _ _ _ _ h0_14 hH (lv_sub hl [3, 2, 1, 0] rfl)
      · have hp := hp.2 cc_7
        refine lv_aload_n (pc := 26) hx hb dX11_falseAgainst_26 rfl (lv_at hl 0 rfl) ?_
        refine lv_iconst (pc := 27) (v := 0) hx hb dX11_falseAgainst_27 (by decide) ?_
        refine sx_V (pc := 28) (As := [.int 0]) (rest := []) B hH hl.1 (C_X11_answer G l th 0 _ _ hp) mi_X11_answer coX11 hk_th w_740 w_16 w_738 rfl rfl ⟨Nat.le_of_ble_eq_true rfl, Nat.le_of_ble_eq_true rfl⟩ (Nat.le_of_ble_eq_true rfl) ⟨Nat.le_of_ble_eq_true rfl, Nat.le_of_ble_eq_true rfl⟩ dX11_falseAgainst_28 (fun v S1 H locs hq hH => ?_)
        obtain ⟨r_29, F_29, rfl, e9, hp⟩ := hq
        rw [e9] at hH
        have hH : Hp G (FA S s.heap.size) s.heap (wI S F_29) H locs := hH
        refine W.eq (g2 := F0 m 31 ls [.int r_29]) rfl ?_
        exact sx_iret (pc := 31) B hH hr hlk (by rw [← hQQ]; exact ⟨_, F_29, rfl, rfl, hp⟩) (Nat.le_of_ble_eq_true rfl) (Nat.le_of_ble_eq_true rfl) dX11_falseAgainst_31
    · have hp := hp.2 cc_6
      exact kj_3  _ _ _ hp hH (lv_sub hl [0] rfl)
theorem dX11_falses_0 : decode cX11_falses 0 = .ok (.aload_n 0, 1) := by decide +kernel
theorem dX11_falses_1 : decode cX11_falses 1 = .ok (.iload_n 1, 1) := by decide +kernel
theorem dX11_falses_2 : decode cX11_falses 2 = .ok (.invokevirtual 256, 3) := by decide +kernel
theorem dX11_falses_5 : decode cX11_falses 5 = .ok (.ifCond .ne 9, 3) := by decide +kernel
theorem dX11_falses_8 : decode cX11_falses 8 = .ok (.aload_n 0, 1) := by decide +kernel
theorem dX11_falses_9 : decode cX11_falses 9 = .ok (.iconst 1, 1) := by decide +kernel
theorem dX11_falses_10 : decode cX11_falses 10 = .ok (.invokevirtual 139, 3) := by decide +kernel
theorem dX11_falses_13 : decode cX11_falses 13 = .ok (.ireturn, 1) := by decide +kernel
theorem dX11_falses_14 : decode cX11_falses 14 = .ok (.aload_n 0, 1) := by decide +kernel
theorem dX11_falses_15 : decode cX11_falses 15 = .ok (.aload_n 0, 1) := by decide +kernel
theorem dX11_falses_16 : decode cX11_falses 16 = .ok (.getfield 92, 3) := by decide +kernel
theorem dX11_falses_19 : decode cX11_falses 19 = .ok (.aload_n 0, 1) := by decide +kernel
theorem dX11_falses_20 : decode cX11_falses 20 = .ok (.getfield 62, 3) := by decide +kernel
theorem dX11_falses_23 : decode cX11_falses 23 = .ok (.aload_n 0, 1) := by decide +kernel
theorem dX11_falses_24 : decode cX11_falses 24 = .ok (.getfield 62, 3) := by decide +kernel
theorem dX11_falses_27 : decode cX11_falses 27 = .ok (.getfield 166, 3) := by decide +kernel
theorem dX11_falses_30 : decode cX11_falses 30 = .ok (.iload_n 1, 1) := by decide +kernel
theorem dX11_falses_31 : decode cX11_falses 31 = .ok (.aaload, 1) := by decide +kernel
theorem dX11_falses_32 : decode cX11_falses 32 = .ok (.iconst 1, 1) := by decide +kernel
theorem dX11_falses_33 : decode cX11_falses 33 = .ok (.invokevirtual 290, 3) := by decide +kernel
theorem dX11_falses_36 : decode cX11_falses 36 = .ok (.invokevirtual 170, 3) := by decide +kernel
theorem dX11_falses_39 : decode cX11_falses 39 = .ok (.ireturn, 1) := by decide +kernel
theorem mi_X11_falses : MI yX11_falses cX11_falses 2 (some FieldType.int) 1 := ⟨w_1021, w_105, by decide +kernel, by decide +kernel, by decide +kernel⟩
set_option maxRecDepth 100000 in
set_option maxHeartbeats 4000000 in
theorem C_X11_falses (G : GG) (l : Launch) (th : Nat) (p0 : Int32) (S : St) (bc bs : Nat) (Q : Int32 → St → Prop) (hp : P_X11_falses th p0 S bc bs Q) : Ctr G l yX11_falses cX11_falses 2 (some FieldType.int) 2 54 bc bs [.ref th, .int p0] S (fun (v : Option Value) (S9 : St) => ∃ r : Int32, v = some (.int r) ∧ Q r S9) := by
  generalize hQQ : (fun (v : Option Value) (S9 : St) => ∃ r : Int32, v = some (.int r) ∧ Q r S9) = QQ
  unfold P_X11_falses at hp
  refine Ctr.of (by decide) (Nat.le_of_ble_eq_true rfl) ?_
  intro p e s m args below meth c ls B hr hlk hin hl hH
  generalize hlocs0 : ([] : List Loc) = locs at hH ⊢
  have hx := B.1
  have hb := B.2.1
  have hl : lv_has ls 2 [(0, .ref th), (1, .int p0)] := hl
  obtain ⟨hk_th, hp⟩ := hp
  refine lv_aload_n (pc := 0) hx hb dX11_falses_0 rfl (lv_at hl 0 rfl) ?_
  refine lv_iload_n (pc := 1) hx hb dX11_falses_1 rfl (lv_at hl 1 rfl) ?_
  refine sx_V (pc := 2) (As := [.int p0]) (rest := []) B hH hl.1 (C_X11_isMethod G l th p0 _ _ hp) mi_X11_isMethod coX11 hk_th w_968 w_31 w_966 rfl rfl ⟨Nat.le_of_ble_eq_true rfl, Nat.le_of_ble_eq_true rfl⟩ (Nat.le_of_ble_eq_true rfl) ⟨(show _ + 0 ≤ bc by omega), (show _ + 0 ≤ bs by omega)⟩ dX11_falses_2 (fun v S1 H locs hq hH => ?_)
  obtain ⟨r_1, rfl, e9, hp⟩ := hq
  rw [e9] at hH
  refine W.eq (g2 := F0 m 5 ls [.int r_1]) rfl ?_
  refine lv_if_ne (pc := 5) (tgt := 14) hx hb dX11_falses_5 (by decide) (fun cc_2 => ?_) (fun cc_2 => ?_)
  · have hp := hp.1 cc_2
    refine lv_aload_n (pc := 14) hx hb dX11_falses_14 rfl (lv_at hl 0 rfl) ?_
    refine lv_aload_n (pc := 15) hx hb dX11_falses_15 rfl (lv_at hl 0 rfl) ?_
    refine sx_getR (pc := 16) (j := 14) B hH hk_th coX11 rfl w_470 rfl dX11_falses_16 ?_
    refine W.eq (g2 := F0 m 19 ls [va_rf (gR S th 14), .ref th]) rfl ?_
    obtain ⟨a_3, ha_3, hp⟩ := hp
    refine sx_nonnull (x := a_3) ha_3 ?_
    refine lv_aload_n (pc := 19) hx hb dX11_falses_19 rfl (lv_at hl 0 rfl) ?_
    refine sx_getR (pc := 20) (j := 7) B hH hk_th coX11 rfl w_463 rfl dX11_falses_20 ?_
    refine W.eq (g2 := F0 m 23 ls [va_rf (gR S th 7), .ref a_3, .ref th]) rfl ?_
    obtain ⟨a_4, ha_4, hp⟩ := hp
    refine sx_nonnull (x := a_4) ha_4 ?_
    refine lv_aload_n (pc := 23) hx hb dX11_falses_23 rfl (lv_at hl 0 rfl) ?_
    refine sx_getR (pc := 24) (j := 7) B hH hk_th coX11 rfl w_463 rfl dX11_falses_24 ?_
    refine W.eq (g2 := F0 m 27 ls [va_rf (gR S th 7), .ref a_4, .ref a_3, .ref th]) rfl ?_
    refine sx_nonnull (x := a_4) ha_4 ?_
    obtain ⟨hk_5, hp⟩ := hp
    refine sx_getR (pc := 27) (j := 3) B hH hk_5 coX0 rfl w_366 rfl dX11_falses_27 ?_
    refine W.eq (g2 := F0 m 30 ls [va_rf (gR S a_4 3), .ref a_4, .ref a_3, .ref th]) rfl ?_
    obtain ⟨a_6, ha_6, hp⟩ := hp
    refine sx_nonnull (x := a_6) ha_6 ?_
    refine lv_iload_n (pc := 30) hx hb dX11_falses_30 rfl (lv_at hl 1 rfl) ?_
    obtain ⟨hk_7, hp⟩ := hp
    obtain ⟨hn_8, hp⟩ := hp
    refine sx_aald (pc := 31) B hH hk_7 (by decide) (by decide) hn_8 dX11_falses_31 ?_
    refine W.eq (g2 := F0 m 32 ls [va_rf (gR S a_6 p0.toNatClampNeg), .ref a_4, .ref a_3, .ref th]) rfl ?_
    obtain ⟨a_9, ha_9, hp⟩ := hp
    refine sx_nonnull (x := a_9) ha_9 ?_
    refine lv_iconst (pc := 32) (v := 1) hx hb dX11_falses_32 (by decide) ?_
    obtain ⟨hk_10, hp⟩ := hp
    obtain ⟨c_11, s_11, hb_11, hs_11, hp⟩ := hp
    refine sx_V (pc := 33) (As := [.ref a_4, .ref a_9, .int 1]) (rest := [.ref th]) B hH hl.1 (C_X6_stampFalse G l a_3 a_4 a_9 1 _ c_11 s_11 _ hp) mi_X6_stampFalse coX6 hk_10 w_1023 w_1024 w_1022 rfl rfl ⟨Nat.le_of_ble_eq_true rfl, Nat.le_of_ble_eq_true rfl⟩ (Nat.le_of_ble_eq_true rfl) ⟨(show _ + c_11 ≤ bc by omega), (show _ + s_11 ≤ bs by omega)⟩ dX11_falses_33 (fun v S1 H locs hq hH => ?_)
    obtain ⟨r_12, rfl, hp⟩ := hq
    obtain ⟨S_12, eS_12⟩ : ∃ z : St, z = S1 := ⟨_, rfl⟩
    rw [← eS_12] at hp hH
    refine W.eq (g2 := F0 m 36 ls [.int r_12, .ref th]) rfl ?_
    obtain ⟨hk_13, hp⟩ := hp
    refine sx_V (pc := 36) (As := [.int r_12]) (rest := []) B hH hl.1 (C_X11_answer G l th r_12 _ _ hp) mi_X11_answer coX11 hk_13 w_740 w_16 w_738 rfl rfl ⟨Nat.le_of_ble_eq_true rfl, Nat.le_of_ble_eq_true rfl⟩ (Nat.le_of_ble_eq_true rfl) ⟨(show _ + 0 ≤ bc by omega), (show _ + 0 ≤ bs by omega)⟩ dX11_falses_36 (fun v S1 H locs hq hH => ?_)
    obtain ⟨r_14, F_14, rfl, e9, hp⟩ := hq
    rw [e9] at hH
    have hH : Hp G (FA S s.heap.size) s.heap (wI S_12 F_14) H locs := hH
    refine W.eq (g2 := F0 m 39 ls [.int r_14]) rfl ?_
    exact sx_iret (pc := 39) B hH hr hlk (by rw [← hQQ]; exact ⟨_, rfl, hp⟩) (show _ ≤ bc by omega) (show _ ≤ bs by omega) dX11_falses_39
  · have hp := hp.2 cc_2
    refine lv_aload_n (pc := 8) hx hb dX11_falses_8 rfl (lv_at hl 0 rfl) ?_
    refine lv_iconst (pc := 9) (v := 1) hx hb dX11_falses_9 (by decide) ?_
    refine sx_V (pc := 10) (As := [.int 1]) (rest := []) B hH hl.1 (C_X11_refuse G l th 1 _ _ hp) mi_X11_refuse coX11 hk_th w_570 w_3 w_568 rfl rfl ⟨Nat.le_of_ble_eq_true rfl, Nat.le_of_ble_eq_true rfl⟩ (Nat.le_of_ble_eq_true rfl) ⟨(show _ + 0 ≤ bc by omega), (show _ + 0 ≤ bs by omega)⟩ dX11_falses_10 (fun v S1 H locs hq hH => ?_)
    obtain ⟨r_15, F_15, rfl, e9, hp⟩ := hq
    rw [e9] at hH
    have hH : Hp G (FA S s.heap.size) s.heap (wI S F_15) H locs := hH
    refine W.eq (g2 := F0 m 13 ls [.int r_15]) rfl ?_
    exact sx_iret (pc := 13) B hH hr hlk (by rw [← hQQ]; exact ⟨_, rfl, hp⟩) (show _ ≤ bc by omega) (show _ ≤ bs by omega) dX11_falses_13
theorem dX11_leadsTo_0 : decode cX11_leadsTo 0 = .ok (.aload_n 0, 1) := by decide +kernel
theorem dX11_leadsTo_1 : decode cX11_leadsTo 1 = .ok (.iload_n 1, 1) := by decide +kernel
theorem dX11_leadsTo_2 : decode cX11_leadsTo 2 = .ok (.invokevirtual 256, 3) := by decide +kernel
theorem dX11_leadsTo_5 : decode cX11_leadsTo 5 = .ok (.ifCond .eq 11, 3) := by decide +kernel
theorem dX11_leadsTo_8 : decode cX11_leadsTo 8 = .ok (.aload_n 0, 1) := by decide +kernel
theorem dX11_leadsTo_9 : decode cX11_leadsTo 9 = .ok (.iload_n 2, 1) := by decide +kernel
theorem dX11_leadsTo_10 : decode cX11_leadsTo 10 = .ok (.invokevirtual 201, 3) := by decide +kernel
theorem dX11_leadsTo_13 : decode cX11_leadsTo 13 = .ok (.ifCond .ne 9, 3) := by decide +kernel
theorem dX11_leadsTo_16 : decode cX11_leadsTo 16 = .ok (.aload_n 0, 1) := by decide +kernel
theorem dX11_leadsTo_17 : decode cX11_leadsTo 17 = .ok (.iconst 1, 1) := by decide +kernel
theorem dX11_leadsTo_18 : decode cX11_leadsTo 18 = .ok (.invokevirtual 139, 3) := by decide +kernel
theorem dX11_leadsTo_21 : decode cX11_leadsTo 21 = .ok (.ireturn, 1) := by decide +kernel
theorem dX11_leadsTo_22 : decode cX11_leadsTo 22 = .ok (.aload_n 0, 1) := by decide +kernel
theorem dX11_leadsTo_23 : decode cX11_leadsTo 23 = .ok (.getfield 62, 3) := by decide +kernel
theorem dX11_leadsTo_26 : decode cX11_leadsTo 26 = .ok (.getfield 166, 3) := by decide +kernel
theorem dX11_leadsTo_29 : decode cX11_leadsTo 29 = .ok (.iload_n 1, 1) := by decide +kernel
theorem dX11_leadsTo_30 : decode cX11_leadsTo 30 = .ok (.aaload, 1) := by decide +kernel
theorem dX11_leadsTo_31 : decode cX11_leadsTo 31 = .ok (.getfield 268, 3) := by decide +kernel
theorem dX11_leadsTo_34 : decode cX11_leadsTo 34 = .ok (.iconst 0, 1) := by decide +kernel
theorem dX11_leadsTo_35 : decode cX11_leadsTo 35 = .ok (.iaload, 1) := by decide +kernel
theorem dX11_leadsTo_36 : decode cX11_leadsTo 36 = .ok (.istore_n 3, 1) := by decide +kernel
theorem dX11_leadsTo_37 : decode cX11_leadsTo 37 = .ok (.aload_n 0, 1) := by decide +kernel
theorem dX11_leadsTo_38 : decode cX11_leadsTo 38 = .ok (.iload_n 2, 1) := by decide +kernel
theorem dX11_leadsTo_39 : decode cX11_leadsTo 39 = .ok (.invokevirtual 207, 3) := by decide +kernel
theorem dX11_leadsTo_42 : decode cX11_leadsTo 42 = .ok (.istore 4, 2) := by decide +kernel
theorem dX11_leadsTo_44 : decode cX11_leadsTo 44 = .ok (.aload_n 0, 1) := by decide +kernel
theorem dX11_leadsTo_45 : decode cX11_leadsTo 45 = .ok (.getfield 62, 3) := by decide +kernel
theorem dX11_leadsTo_48 : decode cX11_leadsTo 48 = .ok (.getfield 188, 3) := by decide +kernel
theorem dX11_leadsTo_51 : decode cX11_leadsTo 51 = .ok (.invokestatic 238, 3) := by decide +kernel
theorem dX11_leadsTo_54 : decode cX11_leadsTo 54 = .ok (.istore 5, 2) := by decide +kernel
theorem dX11_leadsTo_56 : decode cX11_leadsTo 56 = .ok (.iload_n 3, 1) := by decide +kernel
theorem dX11_leadsTo_57 : decode cX11_leadsTo 57 = .ok (.aload_n 0, 1) := by decide +kernel
theorem dX11_leadsTo_58 : decode cX11_leadsTo 58 = .ok (.getfield 62, 3) := by decide +kernel
theorem dX11_leadsTo_61 : decode cX11_leadsTo 61 = .ok (.getfield 188, 3) := by decide +kernel
theorem dX11_leadsTo_64 : decode cX11_leadsTo 64 = .ok (.invokestatic 226, 3) := by decide +kernel
theorem dX11_leadsTo_67 : decode cX11_leadsTo 67 = .ok (.istore 6, 2) := by decide +kernel
theorem dX11_leadsTo_69 : decode cX11_leadsTo 69 = .ok (.iconst 0, 1) := by decide +kernel
theorem dX11_leadsTo_70 : decode cX11_leadsTo 70 = .ok (.istore 7, 2) := by decide +kernel
theorem dX11_leadsTo_72 : decode cX11_leadsTo 72 = .ok (.iload 7, 2) := by decide +kernel
theorem dX11_leadsTo_74 : decode cX11_leadsTo 74 = .ok (.iload 6, 2) := by decide +kernel
theorem dX11_leadsTo_76 : decode cX11_leadsTo 76 = .ok (.if_icmp .ge 38, 3) := by decide +kernel
theorem dX11_leadsTo_79 : decode cX11_leadsTo 79 = .ok (.iload 5, 2) := by decide +kernel
theorem dX11_leadsTo_81 : decode cX11_leadsTo 81 = .ok (.iload 4, 2) := by decide +kernel
theorem dX11_leadsTo_83 : decode cX11_leadsTo 83 = .ok (.if_icmp .ne 10, 3) := by decide +kernel
theorem dX11_leadsTo_86 : decode cX11_leadsTo 86 = .ok (.aload_n 0, 1) := by decide +kernel
theorem dX11_leadsTo_87 : decode cX11_leadsTo 87 = .ok (.iload 7, 2) := by decide +kernel
theorem dX11_leadsTo_89 : decode cX11_leadsTo 89 = .ok (.invokevirtual 170, 3) := by decide +kernel
theorem dX11_leadsTo_92 : decode cX11_leadsTo 92 = .ok (.ireturn, 1) := by decide +kernel
theorem dX11_leadsTo_93 : decode cX11_leadsTo 93 = .ok (.iload 5, 2) := by decide +kernel
theorem dX11_leadsTo_95 : decode cX11_leadsTo 95 = .ok (.iload_n 3, 1) := by decide +kernel
theorem dX11_leadsTo_96 : decode cX11_leadsTo 96 = .ok (.aload_n 0, 1) := by decide +kernel
theorem dX11_leadsTo_97 : decode cX11_leadsTo 97 = .ok (.getfield 62, 3) := by decide +kernel
theorem dX11_leadsTo_100 : decode cX11_leadsTo 100 = .ok (.getfield 188, 3) := by decide +kernel
theorem dX11_leadsTo_103 : decode cX11_leadsTo 103 = .ok (.invokestatic 241, 3) := by decide +kernel
theorem dX11_leadsTo_106 : decode cX11_leadsTo 106 = .ok (.istore 5, 2) := by decide +kernel
theorem dX11_leadsTo_108 : decode cX11_leadsTo 108 = .ok (.iinc 7 1, 3) := by decide +kernel
theorem dX11_leadsTo_111 : decode cX11_leadsTo 111 = .ok (.goto (-39), 3) := by decide +kernel
theorem dX11_leadsTo_114 : decode cX11_leadsTo 114 = .ok (.aload_n 0, 1) := by decide +kernel
theorem dX11_leadsTo_115 : decode cX11_leadsTo 115 = .ok (.bipush 6, 2) := by decide +kernel
theorem dX11_leadsTo_117 : decode cX11_leadsTo 117 = .ok (.invokevirtual 139, 3) := by decide +kernel
theorem dX11_leadsTo_120 : decode cX11_leadsTo 120 = .ok (.ireturn, 1) := by decide +kernel
theorem mi_X11_leadsTo : MI yX11_leadsTo cX11_leadsTo 8 (some FieldType.int) 2 := ⟨w_1041, w_105, by decide +kernel, by decide +kernel, by decide +kernel⟩
set_option maxRecDepth 100000 in
set_option maxHeartbeats 4000000 in
theorem C_X11_leadsTo (G : GG) (l : Launch) (th : Nat) (p0 : Int32) (p1 : Int32) (S : St) (Q : Int32 → (Nat → Nat → Int32) → Prop) (hp : P_X11_leadsTo th p0 p1 S Q) : Ctr G l yX11_leadsTo cX11_leadsTo 8 (some FieldType.int) 3 70 0 0 [.ref th, .int p0, .int p1] S (fun (v : Option Value) (S9 : St) => ∃ (r : Int32) (I9 : Nat → Nat → Int32), v = some (.int r) ∧ S9 = wI S I9 ∧ Q r I9) := by
  generalize hQQ : (fun (v : Option Value) (S9 : St) => ∃ (r : Int32) (I9 : Nat → Nat → Int32), v = some (.int r) ∧ S9 = wI S I9 ∧ Q r I9) = QQ
  unfold P_X11_leadsTo at hp
  refine Ctr.of (by decide) (Nat.le_of_ble_eq_true rfl) ?_
  intro p e s m args below meth c ls B hr hlk hin hl hH
  generalize hlocs0 : ([] : List Loc) = locs at hH ⊢
  have hx := B.1
  have hb := B.2.1
  have hl : lv_has ls 8 [(0, .ref th), (1, .int p0), (2, .int p1)] := hl
  obtain ⟨hk_th, hp⟩ := hp
  refine lv_aload_n (pc := 0) hx hb dX11_leadsTo_0 rfl (lv_at hl 0 rfl) ?_
  refine lv_iload_n (pc := 1) hx hb dX11_leadsTo_1 rfl (lv_at hl 1 rfl) ?_
  refine sx_V (pc := 2) (As := [.int p0]) (rest := []) B hH hl.1 (C_X11_isMethod G l th p0 _ _ hp) mi_X11_isMethod coX11 hk_th w_968 w_31 w_966 rfl rfl ⟨Nat.le_of_ble_eq_true rfl, Nat.le_of_ble_eq_true rfl⟩ (Nat.le_of_ble_eq_true rfl) ⟨Nat.le_of_ble_eq_true rfl, Nat.le_of_ble_eq_true rfl⟩ dX11_leadsTo_2 (fun v S1 H locs hq hH => ?_)
  obtain ⟨r_1, rfl, e9, hp⟩ := hq
  rw [e9] at hH
  refine W.eq (g2 := F0 m 5 ls [.int r_1]) rfl ?_
  obtain ⟨J_3, hj_3, hp⟩ := hp
  have kj_3 : ∀  (H : Heap) (locs : List Loc) (ls : Array Slot), J_3  → Hp G (FA S s.heap.size) s.heap S H locs → lv_has ls 8 [(0, .ref th)] → Wm G p l e { frames := 3, cells := 0, slots := 0, locals := 70 } s m args below meth c S QQ 0 0 H locs 0 0 (F0 m 16 ls []) := by
    intro  H locs ls hq9 hH hl
    have hp := hj_3  hq9
    refine lv_aload_n (pc := 16) hx hb dX11_leadsTo_16 rfl (lv_at hl 0 rfl) ?_
    refine lv_iconst (pc := 17) (v := 1) hx hb dX11_leadsTo_17 (by decide) ?_
    refine sx_V (pc := 18) (As := [.int 1]) (rest := []) B hH hl.1 (C_X11_refuse G l th 1 _ _ hp) mi_X11_refuse coX11 hk_th w_570 w_3 w_568 rfl rfl ⟨Nat.le_of_ble_eq_true rfl, Nat.le_of_ble_eq_true rfl⟩ (Nat.le_of_ble_eq_true rfl) ⟨Nat.le_of_ble_eq_true rfl, Nat.le_of_ble_eq_true rfl⟩ dX11_leadsTo_18 (fun v S1 H locs hq hH => ?_)
    obtain ⟨r_4, F_4, rfl, e9, hp⟩ := hq
    rw [e9] at hH
    have hH : Hp G (FA S s.heap.size) s.heap (wI S F_4) H locs := hH
    refine W.eq (g2 := F0 m 21 ls [.int r_4]) rfl ?_
    exact sx_iret (pc := 21) B hH hr hlk (by rw [← hQQ]; exact ⟨_, F_4, rfl, rfl, hp⟩) (Nat.le_of_ble_eq_true rfl) (Nat.le_of_ble_eq_true rfl) dX11_leadsTo_21
  refine lv_if_eq (pc := 5) (tgt := 16) hx hb dX11_leadsTo_5 (by decide) (fun cc_2 => ?_) (fun cc_2 => ?_)
  · have hp := hp.1 cc_2
    exact kj_3  _ _ _ hp hH (lv_sub hl [0] rfl)
  · have hp := hp.2 cc_2
    refine lv_aload_n (pc := 8) hx hb dX11_leadsTo_8 rfl (lv_at hl 0 rfl) ?_
    refine lv_iload_n (pc := 9) hx hb dX11_leadsTo_9 rfl (lv_at hl 2 rfl) ?_
    refine sx_V (pc := 10) (As := [.int p1]) (rest := []) B hH hl.1 (C_X11_isRow G l th p1 _ _ hp) mi_X11_isRow coX11 hk_th w_855 w_26 w_853 rfl rfl ⟨Nat.le_of_ble_eq_true rfl, Nat.le_of_ble_eq_true rfl⟩ (Nat.le_of_ble_eq_true rfl) ⟨Nat.le_of_ble_eq_true rfl, Nat.le_of_ble_eq_true rfl⟩ dX11_leadsTo_10 (fun v S1 H locs hq hH => ?_)
    obtain ⟨r_5, rfl, e9, hp⟩ := hq
    rw [e9] at hH
    refine W.eq (g2 := F0 m 13 ls [.int r_5]) rfl ?_
    refine lv_if_ne (pc := 13) (tgt := 22) hx hb dX11_leadsTo_13 (by decide) (fun cc_6 => ?_) (fun cc_6 => ?_)
    · have hp := hp.1 cc_6
      refine lv_aload_n (pc := 22) hx hb dX11_leadsTo_22 rfl (lv_at hl 0 rfl) ?_
      refine sx_getR (pc := 23) (j := 7) B hH hk_th coX11 rfl w_463 rfl dX11_leadsTo_23 ?_
      refine W.eq (g2 := F0 m 26 ls [va_rf (gR S th 7)]) rfl ?_
      obtain ⟨a_7, ha_7, hp⟩ := hp
      refine sx_nonnull (x := a_7) ha_7 ?_
      obtain ⟨hk_8, hp⟩ := hp
      refine sx_getR (pc := 26) (j := 3) B hH hk_8 coX0 rfl w_366 rfl dX11_leadsTo_26 ?_
      refine W.eq (g2 := F0 m 29 ls [va_rf (gR S a_7 3)]) rfl ?_
      obtain ⟨a_9, ha_9, hp⟩ := hp
      refine sx_nonnull (x := a_9) ha_9 ?_
      refine lv_iload_n (pc := 29) hx hb dX11_leadsTo_29 rfl (lv_at hl 1 rfl) ?_
      obtain ⟨hk_10, hp⟩ := hp
      obtain ⟨hn_11, hp⟩ := hp
      refine sx_aald (pc := 30) B hH hk_10 (by decide) (by decide) hn_11 dX11_leadsTo_30 ?_
      refine W.eq (g2 := F0 m 31 ls [va_rf (gR S a_9 p0.toNatClampNeg)]) rfl ?_
      obtain ⟨a_12, ha_12, hp⟩ := hp
      refine sx_nonnull (x := a_12) ha_12 ?_
      obtain ⟨hk_13, hp⟩ := hp
      refine sx_getR (pc := 31) (j := 4) B hH hk_13 coX3 rfl w_723 rfl dX11_leadsTo_31 ?_
      refine W.eq (g2 := F0 m 34 ls [va_rf (gR S a_12 4)]) rfl ?_
      obtain ⟨a_14, ha_14, hp⟩ := hp
      refine sx_nonnull (x := a_14) ha_14 ?_
      refine lv_iconst (pc := 34) (v := 0) hx hb dX11_leadsTo_34 (by decide) ?_
      obtain ⟨hk_15, hp⟩ := hp
      obtain ⟨hn_16, hp⟩ := hp
      refine sx_iald (pc := 35) B hH hk_15 hn_16 dX11_leadsTo_35 ?_
      refine W.eq (g2 := F0 m 36 ls [.int (gI S a_14 0)]) rfl ?_
      refine lv_topi (fun v_17 ev_17 => ?_)
      have hp := hp v_17 ev_17
      refine lv_istore_n (pc := 36) (lv' := [(3, .int v_17), (0, .ref th), (1, .int p0), (2, .int p1)]) hx hb dX11_leadsTo_36 rfl hl (by decide) rfl (fun ls hl => ?_)
      refine lv_aload_n (pc := 37) hx hb dX11_leadsTo_37 rfl (lv_at hl 1 rfl) ?_
      refine lv_iload_n (pc := 38) hx hb dX11_leadsTo_38 rfl (lv_at hl 3 rfl) ?_
      refine sx_V (pc := 39) (As := [.int p1]) (rest := []) B hH hl.1 (C_X11_packed G l th p1 _ _ hp) mi_X11_packed coX11 hk_th w_863 w_28 w_861 rfl rfl ⟨Nat.le_of_ble_eq_true rfl, Nat.le_of_ble_eq_true rfl⟩ (Nat.le_of_ble_eq_true rfl) ⟨Nat.le_of_ble_eq_true rfl, Nat.le_of_ble_eq_true rfl⟩ dX11_leadsTo_39 (fun v S1 H locs hq hH => ?_)
      obtain ⟨r_18, rfl, e9, hp⟩ := hq
      rw [e9] at hH
      refine W.eq (g2 := F0 m 42 ls [.int r_18]) rfl ?_
      refine lv_istore (pc := 42) (lv' := [(4, .int r_18), (3, .int v_17), (0, .ref th), (1, .int p0), (2, .int p1)]) hx hb dX11_leadsTo_42 hl (by decide) rfl (fun ls hl => ?_)
      refine lv_aload_n (pc := 44) hx hb dX11_leadsTo_44 rfl (lv_at hl 2 rfl) ?_
      refine sx_getR (pc := 45) (j := 7) B hH hk_th coX11 rfl w_463 rfl dX11_leadsTo_45 ?_
      refine W.eq (g2 := F0 m 48 ls [va_rf (gR S th 7)]) rfl ?_
      refine sx_nonnull (x := a_7) ha_7 ?_
      refine sx_getI (pc := 48) (j := 0) B hH hk_8 coX0 rfl w_357 rfl dX11_leadsTo_48 ?_
      refine W.eq (g2 := F0 m 51 ls [.int (gI S a_7 0)]) rfl ?_
      refine sx_S (pc := 51) (As := [.int (gI S a_7 0)]) (rest := []) B hH hl.1 (C_X4_roundsOf G l (gI S a_7 0) _ _ hp) mi_X4_roundsOf w_706 w_936 rfl rfl ⟨Nat.le_of_ble_eq_true rfl, Nat.le_of_ble_eq_true rfl⟩ (Nat.le_of_ble_eq_true rfl) ⟨Nat.le_of_ble_eq_true rfl, Nat.le_of_ble_eq_true rfl⟩ dX11_leadsTo_51 (fun v S1 H locs hq hH => ?_)
      obtain ⟨r_19, rfl, e9, hp⟩ := hq
      rw [e9] at hH
      refine W.eq (g2 := F0 m 54 ls [.int r_19]) rfl ?_
      refine lv_istore (pc := 54) (lv' := [(5, .int r_19), (4, .int r_18), (3, .int v_17), (0, .ref th), (1, .int p0), (2, .int p1)]) hx hb dX11_leadsTo_54 hl (by decide) rfl (fun ls hl => ?_)
      refine lv_iload_n (pc := 56) hx hb dX11_leadsTo_56 rfl (lv_at hl 2 rfl) ?_
      refine lv_aload_n (pc := 57) hx hb dX11_leadsTo_57 rfl (lv_at hl 3 rfl) ?_
      refine sx_getR (pc := 58) (j := 7) B hH hk_th coX11 rfl w_463 rfl dX11_leadsTo_58 ?_
      refine W.eq (g2 := F0 m 61 ls [va_rf (gR S th 7), .int v_17]) rfl ?_
      refine sx_nonnull (x := a_7) ha_7 ?_
      refine sx_getI (pc := 61) (j := 0) B hH hk_8 coX0 rfl w_357 rfl dX11_leadsTo_61 ?_
      refine W.eq (g2 := F0 m 64 ls [.int (gI S a_7 0), .int v_17]) rfl ?_
      refine sx_S (pc := 64) (As := [.int v_17, .int (gI S a_7 0)]) (rest := []) B hH hl.1 (C_X4_orderOf G l v_17 (gI S a_7 0) _ _ hp) mi_X4_orderOf w_910 w_909 rfl rfl ⟨Nat.le_of_ble_eq_true rfl, Nat.le_of_ble_eq_true rfl⟩ (Nat.le_of_ble_eq_true rfl) ⟨Nat.le_of_ble_eq_true rfl, Nat.le_of_ble_eq_true rfl⟩ dX11_leadsTo_64 (fun v S1 H locs hq hH => ?_)
      obtain ⟨r_20, rfl, e9, hp⟩ := hq
      rw [e9] at hH
      refine W.eq (g2 := F0 m 67 ls [.int r_20]) rfl ?_
      refine lv_istore (pc := 67) (lv' := [(6, .int r_20), (5, .int r_19), (4, .int r_18), (3, .int v_17), (0, .ref th), (1, .int p0), (2, .int p1)]) hx hb dX11_leadsTo_67 hl (by decide) rfl (fun ls hl => ?_)
      refine lv_iconst (pc := 69) (v := 0) hx hb dX11_leadsTo_69 (by decide) ?_
      refine lv_istore (pc := 70) (lv' := [(7, .int 0), (6, .int r_20), (5, .int r_19), (4, .int r_18), (3, .int v_17), (0, .ref th), (1, .int p0), (2, .int p1)]) hx hb dX11_leadsTo_70 hl (by decide) rfl (fun ls hl => ?_)
      obtain ⟨I_21, ⟨k0_21, h0_21⟩, hst_21⟩ := hp
      have kl_21 : ∀ (n_21 : Nat) (x5_22 : Int32) (x7_23 : Int32) (H : Heap) (locs : List Loc) (ls : Array Slot), I_21 n_21 x5_22 x7_23 → Hp G (FA S s.heap.size) s.heap S H locs → lv_has ls 8 [(0, .ref th), (3, .int v_17), (4, .int r_18), (5, .int x5_22), (6, .int r_20), (7, .int x7_23)] → Wm G p l e { frames := 3, cells := 0, slots := 0, locals := 70 } s m args below meth c S QQ 0 0 H locs 0 0 (F0 m 72 ls []) := by
        intro n_21
        induction n_21 using Nat.strongRecOn with
        | ind n_21 ih_21 =>
          intro x5_22 x7_23 H locs ls hq9 hH hl
          have hp := hst_21 n_21 x5_22 x7_23 hq9
          refine lv_iload (pc := 72) hx hb dX11_leadsTo_72 (lv_at hl 5 rfl) ?_
          refine lv_iload (pc := 74) hx hb dX11_leadsTo_74 (lv_at hl 4 rfl) ?_
          refine lv_icmp_ge (pc := 76) (tgt := 114) hx hb dX11_leadsTo_76 (by decide) (fun cc_24 => ?_) (fun cc_24 => ?_)
          · have hp := hp.1 cc_24
            refine lv_aload_n (pc := 114) hx hb dX11_leadsTo_114 rfl (lv_at hl 0 rfl) ?_
            refine lv_bipush (pc := 115) (v := 6) hx hb dX11_leadsTo_115 (by decide) ?_
            refine sx_V (pc := 117) (As := [.int 6]) (rest := []) B hH hl.1 (C_X11_refuse G l th 6 _ _ hp) mi_X11_refuse coX11 hk_th w_570 w_3 w_568 rfl rfl ⟨Nat.le_of_ble_eq_true rfl, Nat.le_of_ble_eq_true rfl⟩ (Nat.le_of_ble_eq_true rfl) ⟨Nat.le_of_ble_eq_true rfl, Nat.le_of_ble_eq_true rfl⟩ dX11_leadsTo_117 (fun v S1 H locs hq hH => ?_)
            obtain ⟨r_25, F_25, rfl, e9, hp⟩ := hq
            rw [e9] at hH
            have hH : Hp G (FA S s.heap.size) s.heap (wI S F_25) H locs := hH
            refine W.eq (g2 := F0 m 120 ls [.int r_25]) rfl ?_
            exact sx_iret (pc := 120) B hH hr hlk (by rw [← hQQ]; exact ⟨_, F_25, rfl, rfl, hp⟩) (Nat.le_of_ble_eq_true rfl) (Nat.le_of_ble_eq_true rfl) dX11_leadsTo_120
          · have hp := hp.2 cc_24
            refine lv_iload (pc := 79) hx hb dX11_leadsTo_79 (lv_at hl 3 rfl) ?_
            refine lv_iload (pc := 81) hx hb dX11_leadsTo_81 (lv_at hl 2 rfl) ?_
            refine lv_icmp_ne (pc := 83) (tgt := 93) hx hb dX11_leadsTo_83 (by decide) (fun cc_26 => ?_) (fun cc_26 => ?_)
            · have hp := hp.1 cc_26
              refine lv_iload (pc := 93) hx hb dX11_leadsTo_93 (lv_at hl 3 rfl) ?_
              refine lv_iload_n (pc := 95) hx hb dX11_leadsTo_95 rfl (lv_at hl 1 rfl) ?_
              refine lv_aload_n (pc := 96) hx hb dX11_leadsTo_96 rfl (lv_at hl 0 rfl) ?_
              refine sx_getR (pc := 97) (j := 7) B hH hk_th coX11 rfl w_463 rfl dX11_leadsTo_97 ?_
              refine W.eq (g2 := F0 m 100 ls [va_rf (gR S th 7), .int v_17, .int x5_22]) rfl ?_
              refine sx_nonnull (x := a_7) ha_7 ?_
              refine sx_getI (pc := 100) (j := 0) B hH hk_8 coX0 rfl w_357 rfl dX11_leadsTo_100 ?_
              refine W.eq (g2 := F0 m 103 ls [.int (gI S a_7 0), .int v_17, .int x5_22]) rfl ?_
              refine sx_S (pc := 103) (As := [.int x5_22, .int v_17, .int (gI S a_7 0)]) (rest := []) B hH hl.1 (C_X4_multiply G l x5_22 v_17 (gI S a_7 0) _ _ hp) mi_X4_multiply w_914 w_937 rfl rfl ⟨Nat.le_of_ble_eq_true rfl, Nat.le_of_ble_eq_true rfl⟩ (Nat.le_of_ble_eq_true rfl) ⟨Nat.le_of_ble_eq_true rfl, Nat.le_of_ble_eq_true rfl⟩ dX11_leadsTo_103 (fun v S1 H locs hq hH => ?_)
              obtain ⟨r_27, rfl, e9, hp⟩ := hq
              rw [e9] at hH
              refine W.eq (g2 := F0 m 106 ls [.int r_27]) rfl ?_
              refine lv_istore (pc := 106) (lv' := [(5, .int r_27), (0, .ref th), (3, .int v_17), (4, .int r_18), (6, .int r_20), (7, .int x7_23)]) hx hb dX11_leadsTo_106 hl (by decide) rfl (fun ls hl => ?_)
              obtain ⟨v_28, ev_28⟩ : ∃ y : Int32, y = x7_23 + 1 := ⟨_, rfl⟩
              have hp := hp v_28 ev_28
              refine lv_iinc (pc := 108) (v := v_28) (lv' := [(7, .int v_28), (5, .int r_27), (0, .ref th), (3, .int v_17), (4, .int r_18), (6, .int r_20)]) hx hb dX11_leadsTo_108 hl (k := 5) rfl (by rw [ev_28]; rfl) (by decide) rfl (fun ls hl => ?_)
              refine lv_goto (pc := 111) (tgt := 72) hx hb dX11_leadsTo_111 (by decide) ?_
              obtain ⟨k9, hlt9, hp⟩ := hp
              exact ih_21 k9 hlt9 _ _ _ _ _ hp hH (lv_sub hl [2, 3, 4, 1, 5, 0] rfl)
            · have hp := hp.2 cc_26
              refine lv_aload_n (pc := 86) hx hb dX11_leadsTo_86 rfl (lv_at hl 0 rfl) ?_
              refine lv_iload (pc := 87) hx hb dX11_leadsTo_87 (lv_at hl 5 rfl) ?_
              refine sx_V (pc := 89) (As := [.int x7_23]) (rest := []) B hH hl.1 (C_X11_answer G l th x7_23 _ _ hp) mi_X11_answer coX11 hk_th w_740 w_16 w_738 rfl rfl ⟨Nat.le_of_ble_eq_true rfl, Nat.le_of_ble_eq_true rfl⟩ (Nat.le_of_ble_eq_true rfl) ⟨Nat.le_of_ble_eq_true rfl, Nat.le_of_ble_eq_true rfl⟩ dX11_leadsTo_89 (fun v S1 H locs hq hH => ?_)
              obtain ⟨r_29, F_29, rfl, e9, hp⟩ := hq
              rw [e9] at hH
              have hH : Hp G (FA S s.heap.size) s.heap (wI S F_29) H locs := hH
              refine W.eq (g2 := F0 m 92 ls [.int r_29]) rfl ?_
              exact sx_iret (pc := 92) B hH hr hlk (by rw [← hQQ]; exact ⟨_, F_29, rfl, rfl, hp⟩) (Nat.le_of_ble_eq_true rfl) (Nat.le_of_ble_eq_true rfl) dX11_leadsTo_92
      exact kl_21 k0_21 _ _ _ _ _ h0_21 hH (lv_sub hl [5, 4, 3, 2, 1, 0] rfl)
    · have hp := hp.2 cc_6
      exact kj_3  _ _ _ hp hH (lv_sub hl [0] rfl)
theorem dX11_inLead_0 : decode cX11_inLead 0 = .ok (.aload_n 0, 1) := by decide +kernel
theorem dX11_inLead_1 : decode cX11_inLead 1 = .ok (.iload_n 1, 1) := by decide +kernel
theorem dX11_inLead_2 : decode cX11_inLead 2 = .ok (.invokevirtual 256, 3) := by decide +kernel
theorem dX11_inLead_5 : decode cX11_inLead 5 = .ok (.ifCond .eq 11, 3) := by decide +kernel
theorem dX11_inLead_8 : decode cX11_inLead 8 = .ok (.aload_n 0, 1) := by decide +kernel
theorem dX11_inLead_9 : decode cX11_inLead 9 = .ok (.iload_n 2, 1) := by decide +kernel
theorem dX11_inLead_10 : decode cX11_inLead 10 = .ok (.invokevirtual 201, 3) := by decide +kernel
theorem dX11_inLead_13 : decode cX11_inLead 13 = .ok (.ifCond .ne 9, 3) := by decide +kernel
theorem dX11_inLead_16 : decode cX11_inLead 16 = .ok (.aload_n 0, 1) := by decide +kernel
theorem dX11_inLead_17 : decode cX11_inLead 17 = .ok (.iconst 1, 1) := by decide +kernel
theorem dX11_inLead_18 : decode cX11_inLead 18 = .ok (.invokevirtual 139, 3) := by decide +kernel
theorem dX11_inLead_21 : decode cX11_inLead 21 = .ok (.ireturn, 1) := by decide +kernel
theorem dX11_inLead_22 : decode cX11_inLead 22 = .ok (.aload_n 0, 1) := by decide +kernel
theorem dX11_inLead_23 : decode cX11_inLead 23 = .ok (.getfield 62, 3) := by decide +kernel
theorem dX11_inLead_26 : decode cX11_inLead 26 = .ok (.getfield 166, 3) := by decide +kernel
theorem dX11_inLead_29 : decode cX11_inLead 29 = .ok (.iload_n 1, 1) := by decide +kernel
theorem dX11_inLead_30 : decode cX11_inLead 30 = .ok (.aaload, 1) := by decide +kernel
theorem dX11_inLead_31 : decode cX11_inLead 31 = .ok (.aload_n 0, 1) := by decide +kernel
theorem dX11_inLead_32 : decode cX11_inLead 32 = .ok (.iload_n 2, 1) := by decide +kernel
theorem dX11_inLead_33 : decode cX11_inLead 33 = .ok (.invokevirtual 207, 3) := by decide +kernel
theorem dX11_inLead_36 : decode cX11_inLead 36 = .ok (.invokevirtual 287, 3) := by decide +kernel
theorem dX11_inLead_39 : decode cX11_inLead 39 = .ok (.istore_n 3, 1) := by decide +kernel
theorem dX11_inLead_40 : decode cX11_inLead 40 = .ok (.iload_n 3, 1) := by decide +kernel
theorem dX11_inLead_41 : decode cX11_inLead 41 = .ok (.iconst (-1), 1) := by decide +kernel
theorem dX11_inLead_42 : decode cX11_inLead 42 = .ok (.if_icmp .ne 12, 3) := by decide +kernel
theorem dX11_inLead_45 : decode cX11_inLead 45 = .ok (.aload_n 0, 1) := by decide +kernel
theorem dX11_inLead_46 : decode cX11_inLead 46 = .ok (.bipush 6, 2) := by decide +kernel
theorem dX11_inLead_48 : decode cX11_inLead 48 = .ok (.invokevirtual 139, 3) := by decide +kernel
theorem dX11_inLead_51 : decode cX11_inLead 51 = .ok (.goto 8, 3) := by decide +kernel
theorem dX11_inLead_54 : decode cX11_inLead 54 = .ok (.aload_n 0, 1) := by decide +kernel
theorem dX11_inLead_55 : decode cX11_inLead 55 = .ok (.iload_n 3, 1) := by decide +kernel
theorem dX11_inLead_56 : decode cX11_inLead 56 = .ok (.invokevirtual 170, 3) := by decide +kernel
theorem dX11_inLead_59 : decode cX11_inLead 59 = .ok (.ireturn, 1) := by decide +kernel
theorem mi_X11_inLead : MI yX11_inLead cX11_inLead 4 (some FieldType.int) 2 := ⟨w_1045, w_105, by decide +kernel, by decide +kernel, by decide +kernel⟩
set_option maxRecDepth 100000 in
set_option maxHeartbeats 4000000 in
theorem C_X11_inLead (G : GG) (l : Launch) (th : Nat) (p0 : Int32) (p1 : Int32) (S : St) (Q : Int32 → (Nat → Nat → Int32) → Prop) (hp : P_X11_inLead th p0 p1 S Q) : Ctr G l yX11_inLead cX11_inLead 4 (some FieldType.int) 3 70 0 0 [.ref th, .int p0, .int p1] S (fun (v : Option Value) (S9 : St) => ∃ (r : Int32) (I9 : Nat → Nat → Int32), v = some (.int r) ∧ S9 = wI S I9 ∧ Q r I9) := by
  generalize hQQ : (fun (v : Option Value) (S9 : St) => ∃ (r : Int32) (I9 : Nat → Nat → Int32), v = some (.int r) ∧ S9 = wI S I9 ∧ Q r I9) = QQ
  unfold P_X11_inLead at hp
  refine Ctr.of (by decide) (Nat.le_of_ble_eq_true rfl) ?_
  intro p e s m args below meth c ls B hr hlk hin hl hH
  generalize hlocs0 : ([] : List Loc) = locs at hH ⊢
  have hx := B.1
  have hb := B.2.1
  have hl : lv_has ls 4 [(0, .ref th), (1, .int p0), (2, .int p1)] := hl
  obtain ⟨hk_th, hp⟩ := hp
  refine lv_aload_n (pc := 0) hx hb dX11_inLead_0 rfl (lv_at hl 0 rfl) ?_
  refine lv_iload_n (pc := 1) hx hb dX11_inLead_1 rfl (lv_at hl 1 rfl) ?_
  refine sx_V (pc := 2) (As := [.int p0]) (rest := []) B hH hl.1 (C_X11_isMethod G l th p0 _ _ hp) mi_X11_isMethod coX11 hk_th w_968 w_31 w_966 rfl rfl ⟨Nat.le_of_ble_eq_true rfl, Nat.le_of_ble_eq_true rfl⟩ (Nat.le_of_ble_eq_true rfl) ⟨Nat.le_of_ble_eq_true rfl, Nat.le_of_ble_eq_true rfl⟩ dX11_inLead_2 (fun v S1 H locs hq hH => ?_)
  obtain ⟨r_1, rfl, e9, hp⟩ := hq
  rw [e9] at hH
  refine W.eq (g2 := F0 m 5 ls [.int r_1]) rfl ?_
  obtain ⟨J_3, hj_3, hp⟩ := hp
  have kj_3 : ∀  (H : Heap) (locs : List Loc) (ls : Array Slot), J_3  → Hp G (FA S s.heap.size) s.heap S H locs → lv_has ls 4 [(0, .ref th)] → Wm G p l e { frames := 3, cells := 0, slots := 0, locals := 70 } s m args below meth c S QQ 0 0 H locs 0 0 (F0 m 16 ls []) := by
    intro  H locs ls hq9 hH hl
    have hp := hj_3  hq9
    refine lv_aload_n (pc := 16) hx hb dX11_inLead_16 rfl (lv_at hl 0 rfl) ?_
    refine lv_iconst (pc := 17) (v := 1) hx hb dX11_inLead_17 (by decide) ?_
    refine sx_V (pc := 18) (As := [.int 1]) (rest := []) B hH hl.1 (C_X11_refuse G l th 1 _ _ hp) mi_X11_refuse coX11 hk_th w_570 w_3 w_568 rfl rfl ⟨Nat.le_of_ble_eq_true rfl, Nat.le_of_ble_eq_true rfl⟩ (Nat.le_of_ble_eq_true rfl) ⟨Nat.le_of_ble_eq_true rfl, Nat.le_of_ble_eq_true rfl⟩ dX11_inLead_18 (fun v S1 H locs hq hH => ?_)
    obtain ⟨r_4, F_4, rfl, e9, hp⟩ := hq
    rw [e9] at hH
    have hH : Hp G (FA S s.heap.size) s.heap (wI S F_4) H locs := hH
    refine W.eq (g2 := F0 m 21 ls [.int r_4]) rfl ?_
    exact sx_iret (pc := 21) B hH hr hlk (by rw [← hQQ]; exact ⟨_, F_4, rfl, rfl, hp⟩) (Nat.le_of_ble_eq_true rfl) (Nat.le_of_ble_eq_true rfl) dX11_inLead_21
  refine lv_if_eq (pc := 5) (tgt := 16) hx hb dX11_inLead_5 (by decide) (fun cc_2 => ?_) (fun cc_2 => ?_)
  · have hp := hp.1 cc_2
    exact kj_3  _ _ _ hp hH (lv_sub hl [0] rfl)
  · have hp := hp.2 cc_2
    refine lv_aload_n (pc := 8) hx hb dX11_inLead_8 rfl (lv_at hl 0 rfl) ?_
    refine lv_iload_n (pc := 9) hx hb dX11_inLead_9 rfl (lv_at hl 2 rfl) ?_
    refine sx_V (pc := 10) (As := [.int p1]) (rest := []) B hH hl.1 (C_X11_isRow G l th p1 _ _ hp) mi_X11_isRow coX11 hk_th w_855 w_26 w_853 rfl rfl ⟨Nat.le_of_ble_eq_true rfl, Nat.le_of_ble_eq_true rfl⟩ (Nat.le_of_ble_eq_true rfl) ⟨Nat.le_of_ble_eq_true rfl, Nat.le_of_ble_eq_true rfl⟩ dX11_inLead_10 (fun v S1 H locs hq hH => ?_)
    obtain ⟨r_5, rfl, e9, hp⟩ := hq
    rw [e9] at hH
    refine W.eq (g2 := F0 m 13 ls [.int r_5]) rfl ?_
    refine lv_if_ne (pc := 13) (tgt := 22) hx hb dX11_inLead_13 (by decide) (fun cc_6 => ?_) (fun cc_6 => ?_)
    · have hp := hp.1 cc_6
      refine lv_aload_n (pc := 22) hx hb dX11_inLead_22 rfl (lv_at hl 0 rfl) ?_
      refine sx_getR (pc := 23) (j := 7) B hH hk_th coX11 rfl w_463 rfl dX11_inLead_23 ?_
      refine W.eq (g2 := F0 m 26 ls [va_rf (gR S th 7)]) rfl ?_
      obtain ⟨a_7, ha_7, hp⟩ := hp
      refine sx_nonnull (x := a_7) ha_7 ?_
      obtain ⟨hk_8, hp⟩ := hp
      refine sx_getR (pc := 26) (j := 3) B hH hk_8 coX0 rfl w_366 rfl dX11_inLead_26 ?_
      refine W.eq (g2 := F0 m 29 ls [va_rf (gR S a_7 3)]) rfl ?_
      obtain ⟨a_9, ha_9, hp⟩ := hp
      refine sx_nonnull (x := a_9) ha_9 ?_
      refine lv_iload_n (pc := 29) hx hb dX11_inLead_29 rfl (lv_at hl 1 rfl) ?_
      obtain ⟨hk_10, hp⟩ := hp
      obtain ⟨hn_11, hp⟩ := hp
      refine sx_aald (pc := 30) B hH hk_10 (by decide) (by decide) hn_11 dX11_inLead_30 ?_
      refine W.eq (g2 := F0 m 31 ls [va_rf (gR S a_9 p0.toNatClampNeg)]) rfl ?_
      obtain ⟨a_12, ha_12, hp⟩ := hp
      refine sx_nonnull (x := a_12) ha_12 ?_
      refine lv_aload_n (pc := 31) hx hb dX11_inLead_31 rfl (lv_at hl 0 rfl) ?_
      refine lv_iload_n (pc := 32) hx hb dX11_inLead_32 rfl (lv_at hl 2 rfl) ?_
      refine sx_V (pc := 33) (As := [.int p1]) (rest := [.ref a_12]) B hH hl.1 (C_X11_packed G l th p1 _ _ hp) mi_X11_packed coX11 hk_th w_863 w_28 w_861 rfl rfl ⟨Nat.le_of_ble_eq_true rfl, Nat.le_of_ble_eq_true rfl⟩ (Nat.le_of_ble_eq_true rfl) ⟨Nat.le_of_ble_eq_true rfl, Nat.le_of_ble_eq_true rfl⟩ dX11_inLead_33 (fun v S1 H locs hq hH => ?_)
      obtain ⟨r_13, rfl, e9, hp⟩ := hq
      rw [e9] at hH
      refine W.eq (g2 := F0 m 36 ls [.int r_13, .ref a_12]) rfl ?_
      obtain ⟨hk_14, hp⟩ := hp
      refine sx_V (pc := 36) (As := [.int r_13]) (rest := []) B hH hl.1 (C_X3_behind G l a_12 r_13 _ _ hp) mi_X3_behind coX3 hk_14 w_1015 w_1016 w_1014 rfl rfl ⟨Nat.le_of_ble_eq_true rfl, Nat.le_of_ble_eq_true rfl⟩ (Nat.le_of_ble_eq_true rfl) ⟨Nat.le_of_ble_eq_true rfl, Nat.le_of_ble_eq_true rfl⟩ dX11_inLead_36 (fun v S1 H locs hq hH => ?_)
      obtain ⟨r_15, rfl, e9, hp⟩ := hq
      rw [e9] at hH
      refine W.eq (g2 := F0 m 39 ls [.int r_15]) rfl ?_
      refine lv_istore_n (pc := 39) (lv' := [(3, .int r_15), (0, .ref th), (1, .int p0), (2, .int p1)]) hx hb dX11_inLead_39 rfl hl (by decide) rfl (fun ls hl => ?_)
      refine lv_iload_n (pc := 40) hx hb dX11_inLead_40 rfl (lv_at hl 0 rfl) ?_
      refine lv_iconst (pc := 41) (v := (-1)) hx hb dX11_inLead_41 (by decide) ?_
      refine lv_icmp_ne (pc := 42) (tgt := 54) hx hb dX11_inLead_42 (by decide) (fun cc_16 => ?_) (fun cc_16 => ?_)
      · have hp := hp.1 cc_16
        refine lv_aload_n (pc := 54) hx hb dX11_inLead_54 rfl (lv_at hl 1 rfl) ?_
        refine lv_iload_n (pc := 55) hx hb dX11_inLead_55 rfl (lv_at hl 0 rfl) ?_
        refine sx_V (pc := 56) (As := [.int r_15]) (rest := []) B hH hl.1 (C_X11_answer G l th r_15 _ _ hp) mi_X11_answer coX11 hk_th w_740 w_16 w_738 rfl rfl ⟨Nat.le_of_ble_eq_true rfl, Nat.le_of_ble_eq_true rfl⟩ (Nat.le_of_ble_eq_true rfl) ⟨Nat.le_of_ble_eq_true rfl, Nat.le_of_ble_eq_true rfl⟩ dX11_inLead_56 (fun v S1 H locs hq hH => ?_)
        obtain ⟨r_17, F_17, rfl, e9, hp⟩ := hq
        rw [e9] at hH
        have hH : Hp G (FA S s.heap.size) s.heap (wI S F_17) H locs := hH
        refine W.eq (g2 := F0 m 59 ls [.int r_17]) rfl ?_
        exact sx_iret (pc := 59) B hH hr hlk (by rw [← hQQ]; exact ⟨_, F_17, rfl, rfl, hp⟩) (Nat.le_of_ble_eq_true rfl) (Nat.le_of_ble_eq_true rfl) dX11_inLead_59
      · have hp := hp.2 cc_16
        refine lv_aload_n (pc := 45) hx hb dX11_inLead_45 rfl (lv_at hl 1 rfl) ?_
        refine lv_bipush (pc := 46) (v := 6) hx hb dX11_inLead_46 (by decide) ?_
        refine sx_V (pc := 48) (As := [.int 6]) (rest := []) B hH hl.1 (C_X11_refuse G l th 6 _ _ hp) mi_X11_refuse coX11 hk_th w_570 w_3 w_568 rfl rfl ⟨Nat.le_of_ble_eq_true rfl, Nat.le_of_ble_eq_true rfl⟩ (Nat.le_of_ble_eq_true rfl) ⟨Nat.le_of_ble_eq_true rfl, Nat.le_of_ble_eq_true rfl⟩ dX11_inLead_48 (fun v S1 H locs hq hH => ?_)
        obtain ⟨r_18, F_18, rfl, e9, hp⟩ := hq
        rw [e9] at hH
        have hH : Hp G (FA S s.heap.size) s.heap (wI S F_18) H locs := hH
        refine W.eq (g2 := F0 m 51 ls [.int r_18]) rfl ?_
        refine lv_goto (pc := 51) (tgt := 59) hx hb dX11_inLead_51 (by decide) ?_
        exact sx_iret (pc := 59) B hH hr hlk (by rw [← hQQ]; exact ⟨_, F_18, rfl, rfl, hp⟩) (Nat.le_of_ble_eq_true rfl) (Nat.le_of_ble_eq_true rfl) dX11_inLead_59
    · have hp := hp.2 cc_6
      exact kj_3  _ _ _ hp hH (lv_sub hl [0] rfl)
theorem dX11_ring_0 : decode cX11_ring 0 = .ok (.aload_n 0, 1) := by decide +kernel
theorem dX11_ring_1 : decode cX11_ring 1 = .ok (.getfield 66, 3) := by decide +kernel
theorem dX11_ring_4 : decode cX11_ring 4 = .ok (.ifnonnull 10, 3) := by decide +kernel
theorem dX11_ring_7 : decode cX11_ring 7 = .ok (.aload_n 0, 1) := by decide +kernel
theorem dX11_ring_8 : decode cX11_ring 8 = .ok (.bipush 6, 2) := by decide +kernel
theorem dX11_ring_10 : decode cX11_ring 10 = .ok (.invokevirtual 139, 3) := by decide +kernel
theorem dX11_ring_13 : decode cX11_ring 13 = .ok (.ireturn, 1) := by decide +kernel
theorem dX11_ring_14 : decode cX11_ring 14 = .ok (.aload_n 0, 1) := by decide +kernel
theorem dX11_ring_15 : decode cX11_ring 15 = .ok (.aload_n 0, 1) := by decide +kernel
theorem dX11_ring_16 : decode cX11_ring 16 = .ok (.getfield 66, 3) := by decide +kernel
theorem dX11_ring_19 : decode cX11_ring 19 = .ok (.putfield 70, 3) := by decide +kernel
theorem dX11_ring_22 : decode cX11_ring 22 = .ok (.aload_n 0, 1) := by decide +kernel
theorem dX11_ring_23 : decode cX11_ring 23 = .ok (.aload_n 0, 1) := by decide +kernel
theorem dX11_ring_24 : decode cX11_ring 24 = .ok (.getfield 70, 3) := by decide +kernel
theorem dX11_ring_27 : decode cX11_ring 27 = .ok (.invokevirtual 197, 3) := by decide +kernel
theorem dX11_ring_30 : decode cX11_ring 30 = .ok (.invokevirtual 170, 3) := by decide +kernel
theorem dX11_ring_33 : decode cX11_ring 33 = .ok (.ireturn, 1) := by decide +kernel
theorem mi_X11_ring : MI yX11_ring cX11_ring 1 (some FieldType.int) 0 := ⟨w_1049, w_105, by decide +kernel, by decide +kernel, by decide +kernel⟩
set_option maxRecDepth 100000 in
set_option maxHeartbeats 4000000 in
theorem C_X11_ring (G : GG) (l : Launch) (th : Nat) (S : St) (Q : Int32 → (Nat → Nat → Int32) → (Nat → Nat → Option Nat) → Prop) (hp : P_X11_ring th S Q) : Ctr G l yX11_ring cX11_ring 1 (some FieldType.int) 1 21 0 0 [.ref th] S (fun (v : Option Value) (S9 : St) => ∃ (r : Int32) (I9 : Nat → Nat → Int32) (R9 : Nat → Nat → Option Nat), v = some (.int r) ∧ S9 = wA S I9 (gJ S) R9 ∧ Q r I9 R9) := by
  generalize hQQ : (fun (v : Option Value) (S9 : St) => ∃ (r : Int32) (I9 : Nat → Nat → Int32) (R9 : Nat → Nat → Option Nat), v = some (.int r) ∧ S9 = wA S I9 (gJ S) R9 ∧ Q r I9 R9) = QQ
  unfold P_X11_ring at hp
  refine Ctr.of (by decide) (Nat.le_of_ble_eq_true rfl) ?_
  intro p e s m args below meth c ls B hr hlk hin hl hH
  generalize hlocs0 : ([] : List Loc) = locs at hH ⊢
  have hx := B.1
  have hb := B.2.1
  have hl : lv_has ls 1 [(0, .ref th)] := hl
  obtain ⟨hk_th, hp⟩ := hp
  refine lv_aload_n (pc := 0) hx hb dX11_ring_0 rfl (lv_at hl 0 rfl) ?_
  refine sx_getR (pc := 1) (j := 8) B hH hk_th coX11 rfl w_464 rfl dX11_ring_1 ?_
  refine W.eq (g2 := F0 m 4 ls [va_rf (gR S th 8)]) rfl ?_
  refine sx_ifnonnull (pc := 4) (r := gR S th 8) (tgt := 14) B dX11_ring_4 (by decide) (fun cc_1 => ?_) (fun cc_1 => ?_)
  · have hp := hp.1 cc_1
    refine lv_aload_n (pc := 14) hx hb dX11_ring_14 rfl (lv_at hl 0 rfl) ?_
    refine lv_aload_n (pc := 15) hx hb dX11_ring_15 rfl (lv_at hl 0 rfl) ?_
    refine sx_getR (pc := 16) (j := 8) B hH hk_th coX11 rfl w_464 rfl dX11_ring_16 ?_
    refine W.eq (g2 := F0 m 19 ls [va_rf (gR S th 8), .ref th]) rfl ?_
    obtain ⟨R_2, eR_2⟩ : ∃ z : Nat → Nat → Option Nat, z = upR (gR S) th 9 (gR S th 8) := ⟨_, rfl⟩
    have hp := hp R_2 eR_2
    refine sx_putR (pc := 19) (j := 9) (x := (gR S th 8)) B hH hk_th coX11 rfl w_465 rfl (Or.inl rfl) rfl dX11_ring_19 (fun H locs hH => ?_)
    have hH : Hp G (FA S s.heap.size) s.heap (wA S (gI S) (gJ S) R_2) H locs := by rw [eR_2]; exact hH
    refine lv_aload_n (pc := 22) hx hb dX11_ring_22 rfl (lv_at hl 0 rfl) ?_
    refine lv_aload_n (pc := 23) hx hb dX11_ring_23 rfl (lv_at hl 0 rfl) ?_
    refine sx_getR (pc := 24) (j := 9) B hH hk_th coX11 rfl w_465 rfl dX11_ring_24 ?_
    refine W.eq (g2 := F0 m 27 ls [va_rf (R_2 th 9), .ref th]) rfl ?_
    obtain ⟨a_3, ha_3, hp⟩ := hp
    refine sx_nonnull (x := a_3) ha_3 ?_
    obtain ⟨hk_4, hp⟩ := hp
    refine sx_V (pc := 27) (As := []) (rest := [.ref th]) B hH hl.1 (C_X8_last G l a_3 _ _ hp) mi_X8_last coX8 hk_4 w_846 w_847 w_845 rfl rfl ⟨Nat.le_of_ble_eq_true rfl, Nat.le_of_ble_eq_true rfl⟩ (Nat.le_of_ble_eq_true rfl) ⟨Nat.le_of_ble_eq_true rfl, Nat.le_of_ble_eq_true rfl⟩ dX11_ring_27 (fun v S1 H locs hq hH => ?_)
    obtain ⟨r_5, rfl, e9, hp⟩ := hq
    rw [e9] at hH
    refine W.eq (g2 := F0 m 30 ls [.int r_5, .ref th]) rfl ?_
    refine sx_V (pc := 30) (As := [.int r_5]) (rest := []) B hH hl.1 (C_X11_answer G l th r_5 _ _ hp) mi_X11_answer coX11 hk_th w_740 w_16 w_738 rfl rfl ⟨Nat.le_of_ble_eq_true rfl, Nat.le_of_ble_eq_true rfl⟩ (Nat.le_of_ble_eq_true rfl) ⟨Nat.le_of_ble_eq_true rfl, Nat.le_of_ble_eq_true rfl⟩ dX11_ring_30 (fun v S1 H locs hq hH => ?_)
    obtain ⟨r_6, F_6, rfl, e9, hp⟩ := hq
    rw [e9] at hH
    have hH : Hp G (FA S s.heap.size) s.heap (wA S F_6 (gJ S) R_2) H locs := hH
    refine W.eq (g2 := F0 m 33 ls [.int r_6]) rfl ?_
    exact sx_iret (pc := 33) B hH hr hlk (by rw [← hQQ]; exact ⟨_, F_6, R_2, rfl, rfl, hp⟩) (Nat.le_of_ble_eq_true rfl) (Nat.le_of_ble_eq_true rfl) dX11_ring_33
  · have hp := hp.2 cc_1
    refine lv_aload_n (pc := 7) hx hb dX11_ring_7 rfl (lv_at hl 0 rfl) ?_
    refine lv_bipush (pc := 8) (v := 6) hx hb dX11_ring_8 (by decide) ?_
    refine sx_V (pc := 10) (As := [.int 6]) (rest := []) B hH hl.1 (C_X11_refuse G l th 6 _ _ hp) mi_X11_refuse coX11 hk_th w_570 w_3 w_568 rfl rfl ⟨Nat.le_of_ble_eq_true rfl, Nat.le_of_ble_eq_true rfl⟩ (Nat.le_of_ble_eq_true rfl) ⟨Nat.le_of_ble_eq_true rfl, Nat.le_of_ble_eq_true rfl⟩ dX11_ring_10 (fun v S1 H locs hq hH => ?_)
    obtain ⟨r_7, F_7, rfl, e9, hp⟩ := hq
    rw [e9] at hH
    have hH : Hp G (FA S s.heap.size) s.heap (wI S F_7) H locs := hH
    refine W.eq (g2 := F0 m 13 ls [.int r_7]) rfl ?_
    exact sx_iret (pc := 13) B hH hr hlk (by rw [← hQQ]; exact ⟨_, F_7, (gR S), rfl, rfl, hp⟩) (Nat.le_of_ble_eq_true rfl) (Nat.le_of_ble_eq_true rfl) dX11_ring_13
theorem dX11_whyNotRung_0 : decode cX11_whyNotRung 0 = .ok (.iload_n 1, 1) := by decide +kernel
theorem dX11_whyNotRung_1 : decode cX11_whyNotRung 1 = .ok (.ifCond .ge 5, 3) := by decide +kernel
theorem dX11_whyNotRung_4 : decode cX11_whyNotRung 4 = .ok (.iconst 1, 1) := by decide +kernel
theorem dX11_whyNotRung_5 : decode cX11_whyNotRung 5 = .ok (.ireturn, 1) := by decide +kernel
theorem dX11_whyNotRung_6 : decode cX11_whyNotRung 6 = .ok (.aload_n 0, 1) := by decide +kernel
theorem dX11_whyNotRung_7 : decode cX11_whyNotRung 7 = .ok (.getfield 70, 3) := by decide +kernel
theorem dX11_whyNotRung_10 : decode cX11_whyNotRung 10 = .ok (.ifnonnull 6, 3) := by decide +kernel
theorem dX11_whyNotRung_13 : decode cX11_whyNotRung 13 = .ok (.bipush 6, 2) := by decide +kernel
theorem dX11_whyNotRung_15 : decode cX11_whyNotRung 15 = .ok (.ireturn, 1) := by decide +kernel
theorem dX11_whyNotRung_16 : decode cX11_whyNotRung 16 = .ok (.iload_n 1, 1) := by decide +kernel
theorem dX11_whyNotRung_17 : decode cX11_whyNotRung 17 = .ok (.aload_n 0, 1) := by decide +kernel
theorem dX11_whyNotRung_18 : decode cX11_whyNotRung 18 = .ok (.getfield 70, 3) := by decide +kernel
theorem dX11_whyNotRung_21 : decode cX11_whyNotRung 21 = .ok (.invokevirtual 197, 3) := by decide +kernel
theorem dX11_whyNotRung_24 : decode cX11_whyNotRung 24 = .ok (.if_icmp .le 7, 3) := by decide +kernel
theorem dX11_whyNotRung_27 : decode cX11_whyNotRung 27 = .ok (.iconst 1, 1) := by decide +kernel
theorem dX11_whyNotRung_28 : decode cX11_whyNotRung 28 = .ok (.goto 4, 3) := by decide +kernel
theorem dX11_whyNotRung_31 : decode cX11_whyNotRung 31 = .ok (.iconst 0, 1) := by decide +kernel
theorem dX11_whyNotRung_32 : decode cX11_whyNotRung 32 = .ok (.ireturn, 1) := by decide +kernel
theorem mi_X11_whyNotRung : MI yX11_whyNotRung cX11_whyNotRung 2 (some FieldType.int) 1 := ⟨w_1057, w_105, by decide +kernel, by decide +kernel, by decide +kernel⟩
set_option maxRecDepth 100000 in
set_option maxHeartbeats 4000000 in
theorem C_X11_whyNotRung (G : GG) (l : Launch) (th : Nat) (p0 : Int32) (S : St) (Q : Int32 → Prop) (hp : P_X11_whyNotRung th p0 S Q) : Ctr G l yX11_whyNotRung cX11_whyNotRung 2 (some FieldType.int) 1 20 0 0 [.ref th, .int p0] S (fun (v : Option Value) (S9 : St) => ∃ (r : Int32), v = some (.int r) ∧ S9 = S ∧ Q r ) := by
  generalize hQQ : (fun (v : Option Value) (S9 : St) => ∃ (r : Int32), v = some (.int r) ∧ S9 = S ∧ Q r ) = QQ
  unfold P_X11_whyNotRung at hp
  refine Ctr.of (by decide) (Nat.le_of_ble_eq_true rfl) ?_
  intro p e s m args below meth c ls B hr hlk hin hl hH
  generalize hlocs0 : ([] : List Loc) = locs at hH ⊢
  have hx := B.1
  have hb := B.2.1
  have hl : lv_has ls 2 [(0, .ref th), (1, .int p0)] := hl
  obtain ⟨hk_th, hp⟩ := hp
  refine lv_iload_n (pc := 0) hx hb dX11_whyNotRung_0 rfl (lv_at hl 1 rfl) ?_
  refine lv_if_ge (pc := 1) (tgt := 6) hx hb dX11_whyNotRung_1 (by decide) (fun cc_1 => ?_) (fun cc_1 => ?_)
  · have hp := hp.1 cc_1
    refine lv_aload_n (pc := 6) hx hb dX11_whyNotRung_6 rfl (lv_at hl 0 rfl) ?_
    refine sx_getR (pc := 7) (j := 9) B hH hk_th coX11 rfl w_465 rfl dX11_whyNotRung_7 ?_
    refine W.eq (g2 := F0 m 10 ls [va_rf (gR S th 9)]) rfl ?_
    refine sx_ifnonnull (pc := 10) (r := gR S th 9) (tgt := 16) B dX11_whyNotRung_10 (by decide) (fun cc_2 => ?_) (fun cc_2 => ?_)
    · have hp := hp.1 cc_2
      refine lv_iload_n (pc := 16) hx hb dX11_whyNotRung_16 rfl (lv_at hl 1 rfl) ?_
      refine lv_aload_n (pc := 17) hx hb dX11_whyNotRung_17 rfl (lv_at hl 0 rfl) ?_
      refine sx_getR (pc := 18) (j := 9) B hH hk_th coX11 rfl w_465 rfl dX11_whyNotRung_18 ?_
      refine W.eq (g2 := F0 m 21 ls [va_rf (gR S th 9), .int p0]) rfl ?_
      obtain ⟨a_3, ha_3, hp⟩ := hp
      refine sx_nonnull (x := a_3) ha_3 ?_
      obtain ⟨hk_4, hp⟩ := hp
      refine sx_V (pc := 21) (As := []) (rest := [.int p0]) B hH hl.1 (C_X8_last G l a_3 _ _ hp) mi_X8_last coX8 hk_4 w_846 w_847 w_845 rfl rfl ⟨Nat.le_of_ble_eq_true rfl, Nat.le_of_ble_eq_true rfl⟩ (Nat.le_of_ble_eq_true rfl) ⟨Nat.le_of_ble_eq_true rfl, Nat.le_of_ble_eq_true rfl⟩ dX11_whyNotRung_21 (fun v S1 H locs hq hH => ?_)
      obtain ⟨r_5, rfl, e9, hp⟩ := hq
      rw [e9] at hH
      refine W.eq (g2 := F0 m 24 ls [.int r_5, .int p0]) rfl ?_
      refine lv_icmp_le (pc := 24) (tgt := 31) hx hb dX11_whyNotRung_24 (by decide) (fun cc_6 => ?_) (fun cc_6 => ?_)
      · have hp := hp.1 cc_6
        refine lv_iconst (pc := 31) (v := 0) hx hb dX11_whyNotRung_31 (by decide) ?_
        exact sx_iret (pc := 32) B hH hr hlk (by rw [← hQQ]; exact ⟨_, rfl, rfl, hp⟩) (Nat.le_of_ble_eq_true rfl) (Nat.le_of_ble_eq_true rfl) dX11_whyNotRung_32
      · have hp := hp.2 cc_6
        refine lv_iconst (pc := 27) (v := 1) hx hb dX11_whyNotRung_27 (by decide) ?_
        refine lv_goto (pc := 28) (tgt := 32) hx hb dX11_whyNotRung_28 (by decide) ?_
        exact sx_iret (pc := 32) B hH hr hlk (by rw [← hQQ]; exact ⟨_, rfl, rfl, hp⟩) (Nat.le_of_ble_eq_true rfl) (Nat.le_of_ble_eq_true rfl) dX11_whyNotRung_32
    · have hp := hp.2 cc_2
      refine lv_bipush (pc := 13) (v := 6) hx hb dX11_whyNotRung_13 (by decide) ?_
      exact sx_iret (pc := 15) B hH hr hlk (by rw [← hQQ]; exact ⟨_, rfl, rfl, hp⟩) (Nat.le_of_ble_eq_true rfl) (Nat.le_of_ble_eq_true rfl) dX11_whyNotRung_15
  · have hp := hp.2 cc_1
    refine lv_iconst (pc := 4) (v := 1) hx hb dX11_whyNotRung_4 (by decide) ?_
    exact sx_iret (pc := 5) B hH hr hlk (by rw [← hQQ]; exact ⟨_, rfl, rfl, hp⟩) (Nat.le_of_ble_eq_true rfl) (Nat.le_of_ble_eq_true rfl) dX11_whyNotRung_5
theorem dX11_rowAt_0 : decode cX11_rowAt 0 = .ok (.aload_n 0, 1) := by decide +kernel
theorem dX11_rowAt_1 : decode cX11_rowAt 1 = .ok (.iload_n 1, 1) := by decide +kernel
theorem dX11_rowAt_2 : decode cX11_rowAt 2 = .ok (.invokevirtual 294, 3) := by decide +kernel
theorem dX11_rowAt_5 : decode cX11_rowAt 5 = .ok (.istore_n 2, 1) := by decide +kernel
theorem dX11_rowAt_6 : decode cX11_rowAt 6 = .ok (.iload_n 2, 1) := by decide +kernel
theorem dX11_rowAt_7 : decode cX11_rowAt 7 = .ok (.ifCond .eq 9, 3) := by decide +kernel
theorem dX11_rowAt_10 : decode cX11_rowAt 10 = .ok (.aload_n 0, 1) := by decide +kernel
theorem dX11_rowAt_11 : decode cX11_rowAt 11 = .ok (.iload_n 2, 1) := by decide +kernel
theorem dX11_rowAt_12 : decode cX11_rowAt 12 = .ok (.invokevirtual 139, 3) := by decide +kernel
theorem dX11_rowAt_15 : decode cX11_rowAt 15 = .ok (.ireturn, 1) := by decide +kernel
theorem dX11_rowAt_16 : decode cX11_rowAt 16 = .ok (.aload_n 0, 1) := by decide +kernel
theorem dX11_rowAt_17 : decode cX11_rowAt 17 = .ok (.aload_n 0, 1) := by decide +kernel
theorem dX11_rowAt_18 : decode cX11_rowAt 18 = .ok (.aload_n 0, 1) := by decide +kernel
theorem dX11_rowAt_19 : decode cX11_rowAt 19 = .ok (.getfield 70, 3) := by decide +kernel
theorem dX11_rowAt_22 : decode cX11_rowAt 22 = .ok (.getfield 297, 3) := by decide +kernel
theorem dX11_rowAt_25 : decode cX11_rowAt 25 = .ok (.iload_n 1, 1) := by decide +kernel
theorem dX11_rowAt_26 : decode cX11_rowAt 26 = .ok (.iaload, 1) := by decide +kernel
theorem dX11_rowAt_27 : decode cX11_rowAt 27 = .ok (.invokevirtual 216, 3) := by decide +kernel
theorem dX11_rowAt_30 : decode cX11_rowAt 30 = .ok (.invokevirtual 170, 3) := by decide +kernel
theorem dX11_rowAt_33 : decode cX11_rowAt 33 = .ok (.ireturn, 1) := by decide +kernel
theorem mi_X11_rowAt : MI yX11_rowAt cX11_rowAt 3 (some FieldType.int) 1 := ⟨w_1053, w_105, by decide +kernel, by decide +kernel, by decide +kernel⟩
set_option maxRecDepth 100000 in
set_option maxHeartbeats 4000000 in
theorem C_X11_rowAt (G : GG) (l : Launch) (th : Nat) (p0 : Int32) (S : St) (Q : Int32 → (Nat → Nat → Int32) → Prop) (hp : P_X11_rowAt th p0 S Q) : Ctr G l yX11_rowAt cX11_rowAt 3 (some FieldType.int) 2 46 0 0 [.ref th, .int p0] S (fun (v : Option Value) (S9 : St) => ∃ (r : Int32) (I9 : Nat → Nat → Int32), v = some (.int r) ∧ S9 = wI S I9 ∧ Q r I9) := by
  generalize hQQ : (fun (v : Option Value) (S9 : St) => ∃ (r : Int32) (I9 : Nat → Nat → Int32), v = some (.int r) ∧ S9 = wI S I9 ∧ Q r I9) = QQ
  unfold P_X11_rowAt at hp
  refine Ctr.of (by decide) (Nat.le_of_ble_eq_true rfl) ?_
  intro p e s m args below meth c ls B hr hlk hin hl hH
  generalize hlocs0 : ([] : List Loc) = locs at hH ⊢
  have hx := B.1
  have hb := B.2.1
  have hl : lv_has ls 3 [(0, .ref th), (1, .int p0)] := hl
  obtain ⟨hk_th, hp⟩ := hp
  refine lv_aload_n (pc := 0) hx hb dX11_rowAt_0 rfl (lv_at hl 0 rfl) ?_
  refine lv_iload_n (pc := 1) hx hb dX11_rowAt_1 rfl (lv_at hl 1 rfl) ?_
  refine sx_V (pc := 2) (As := [.int p0]) (rest := []) B hH hl.1 (C_X11_whyNotRung G l th p0 _ _ hp) mi_X11_whyNotRung coX11 hk_th w_1056 w_32 w_1054 rfl rfl ⟨Nat.le_of_ble_eq_true rfl, Nat.le_of_ble_eq_true rfl⟩ (Nat.le_of_ble_eq_true rfl) ⟨Nat.le_of_ble_eq_true rfl, Nat.le_of_ble_eq_true rfl⟩ dX11_rowAt_2 (fun v S1 H locs hq hH => ?_)
  obtain ⟨r_1, rfl, e9, hp⟩ := hq
  rw [e9] at hH
  refine W.eq (g2 := F0 m 5 ls [.int r_1]) rfl ?_
  refine lv_istore_n (pc := 5) (lv' := [(2, .int r_1), (0, .ref th), (1, .int p0)]) hx hb dX11_rowAt_5 rfl hl (by decide) rfl (fun ls hl => ?_)
  refine lv_iload_n (pc := 6) hx hb dX11_rowAt_6 rfl (lv_at hl 0 rfl) ?_
  refine lv_if_eq (pc := 7) (tgt := 16) hx hb dX11_rowAt_7 (by decide) (fun cc_2 => ?_) (fun cc_2 => ?_)
  · have hp := hp.1 cc_2
    refine lv_aload_n (pc := 16) hx hb dX11_rowAt_16 rfl (lv_at hl 1 rfl) ?_
    refine lv_aload_n (pc := 17) hx hb dX11_rowAt_17 rfl (lv_at hl 1 rfl) ?_
    refine lv_aload_n (pc := 18) hx hb dX11_rowAt_18 rfl (lv_at hl 1 rfl) ?_
    refine sx_getR (pc := 19) (j := 9) B hH hk_th coX11 rfl w_465 rfl dX11_rowAt_19 ?_
    refine W.eq (g2 := F0 m 22 ls [va_rf (gR S th 9), .ref th, .ref th]) rfl ?_
    obtain ⟨a_3, ha_3, hp⟩ := hp
    refine sx_nonnull (x := a_3) ha_3 ?_
    obtain ⟨hk_4, hp⟩ := hp
    refine sx_getR (pc := 22) (j := 3) B hH hk_4 coX8 rfl w_827 rfl dX11_rowAt_22 ?_
    refine W.eq (g2 := F0 m 25 ls [va_rf (gR S a_3 3), .ref th, .ref th]) rfl ?_
    obtain ⟨a_5, ha_5, hp⟩ := hp
    refine sx_nonnull (x := a_5) ha_5 ?_
    refine lv_iload_n (pc := 25) hx hb dX11_rowAt_25 rfl (lv_at hl 2 rfl) ?_
    obtain ⟨hk_6, hp⟩ := hp
    obtain ⟨hn_7, hp⟩ := hp
    refine sx_iald (pc := 26) B hH hk_6 hn_7 dX11_rowAt_26 ?_
    refine W.eq (g2 := F0 m 27 ls [.int (gI S a_5 p0.toNatClampNeg), .ref th, .ref th]) rfl ?_
    refine sx_V (pc := 27) (As := [.int (gI S a_5 p0.toNatClampNeg)]) (rest := [.ref th]) B hH hl.1 (C_X11_numbered G l th (gI S a_5 p0.toNatClampNeg) _ _ hp) mi_X11_numbered coX11 hk_th w_885 w_30 w_883 rfl rfl ⟨Nat.le_of_ble_eq_true rfl, Nat.le_of_ble_eq_true rfl⟩ (Nat.le_of_ble_eq_true rfl) ⟨Nat.le_of_ble_eq_true rfl, Nat.le_of_ble_eq_true rfl⟩ dX11_rowAt_27 (fun v S1 H locs hq hH => ?_)
    obtain ⟨r_8, rfl, e9, hp⟩ := hq
    rw [e9] at hH
    refine W.eq (g2 := F0 m 30 ls [.int r_8, .ref th]) rfl ?_
    refine sx_V (pc := 30) (As := [.int r_8]) (rest := []) B hH hl.1 (C_X11_answer G l th r_8 _ _ hp) mi_X11_answer coX11 hk_th w_740 w_16 w_738 rfl rfl ⟨Nat.le_of_ble_eq_true rfl, Nat.le_of_ble_eq_true rfl⟩ (Nat.le_of_ble_eq_true rfl) ⟨Nat.le_of_ble_eq_true rfl, Nat.le_of_ble_eq_true rfl⟩ dX11_rowAt_30 (fun v S1 H locs hq hH => ?_)
    obtain ⟨r_9, F_9, rfl, e9, hp⟩ := hq
    rw [e9] at hH
    have hH : Hp G (FA S s.heap.size) s.heap (wI S F_9) H locs := hH
    refine W.eq (g2 := F0 m 33 ls [.int r_9]) rfl ?_
    exact sx_iret (pc := 33) B hH hr hlk (by rw [← hQQ]; exact ⟨_, F_9, rfl, rfl, hp⟩) (Nat.le_of_ble_eq_true rfl) (Nat.le_of_ble_eq_true rfl) dX11_rowAt_33
  · have hp := hp.2 cc_2
    refine lv_aload_n (pc := 10) hx hb dX11_rowAt_10 rfl (lv_at hl 1 rfl) ?_
    refine lv_iload_n (pc := 11) hx hb dX11_rowAt_11 rfl (lv_at hl 0 rfl) ?_
    refine sx_V (pc := 12) (As := [.int r_1]) (rest := []) B hH hl.1 (C_X11_refuse G l th r_1 _ _ hp) mi_X11_refuse coX11 hk_th w_570 w_3 w_568 rfl rfl ⟨Nat.le_of_ble_eq_true rfl, Nat.le_of_ble_eq_true rfl⟩ (Nat.le_of_ble_eq_true rfl) ⟨Nat.le_of_ble_eq_true rfl, Nat.le_of_ble_eq_true rfl⟩ dX11_rowAt_12 (fun v S1 H locs hq hH => ?_)
    obtain ⟨r_10, F_10, rfl, e9, hp⟩ := hq
    rw [e9] at hH
    have hH : Hp G (FA S s.heap.size) s.heap (wI S F_10) H locs := hH
    refine W.eq (g2 := F0 m 15 ls [.int r_10]) rfl ?_
    exact sx_iret (pc := 15) B hH hr hlk (by rw [← hQQ]; exact ⟨_, F_10, rfl, rfl, hp⟩) (Nat.le_of_ble_eq_true rfl) (Nat.le_of_ble_eq_true rfl) dX11_rowAt_15
theorem dX11_round_0 : decode cX11_round 0 = .ok (.aload_n 0, 1) := by decide +kernel
theorem dX11_round_1 : decode cX11_round 1 = .ok (.getfield 70, 3) := by decide +kernel
theorem dX11_round_4 : decode cX11_round 4 = .ok (.ifnonnull 7, 3) := by decide +kernel
theorem dX11_round_7 : decode cX11_round 7 = .ok (.iconst (-1), 1) := by decide +kernel
theorem dX11_round_8 : decode cX11_round 8 = .ok (.goto 10, 3) := by decide +kernel
theorem dX11_round_11 : decode cX11_round 11 = .ok (.aload_n 0, 1) := by decide +kernel
theorem dX11_round_12 : decode cX11_round 12 = .ok (.getfield 70, 3) := by decide +kernel
theorem dX11_round_15 : decode cX11_round 15 = .ok (.invokevirtual 298, 3) := by decide +kernel
theorem dX11_round_18 : decode cX11_round 18 = .ok (.istore_n 1, 1) := by decide +kernel
theorem dX11_round_19 : decode cX11_round 19 = .ok (.iload_n 1, 1) := by decide +kernel
theorem dX11_round_20 : decode cX11_round 20 = .ok (.iconst (-1), 1) := by decide +kernel
theorem dX11_round_21 : decode cX11_round 21 = .ok (.if_icmp .ne 12, 3) := by decide +kernel
theorem dX11_round_24 : decode cX11_round 24 = .ok (.aload_n 0, 1) := by decide +kernel
theorem dX11_round_25 : decode cX11_round 25 = .ok (.bipush 6, 2) := by decide +kernel
theorem dX11_round_27 : decode cX11_round 27 = .ok (.invokevirtual 139, 3) := by decide +kernel
theorem dX11_round_30 : decode cX11_round 30 = .ok (.goto 8, 3) := by decide +kernel
theorem dX11_round_33 : decode cX11_round 33 = .ok (.aload_n 0, 1) := by decide +kernel
theorem dX11_round_34 : decode cX11_round 34 = .ok (.iload_n 1, 1) := by decide +kernel
theorem dX11_round_35 : decode cX11_round 35 = .ok (.invokevirtual 170, 3) := by decide +kernel
theorem dX11_round_38 : decode cX11_round 38 = .ok (.ireturn, 1) := by decide +kernel
theorem mi_X11_round : MI yX11_round cX11_round 2 (some FieldType.int) 0 := ⟨w_1061, w_105, by decide +kernel, by decide +kernel, by decide +kernel⟩
set_option maxRecDepth 100000 in
set_option maxHeartbeats 4000000 in
theorem C_X11_round (G : GG) (l : Launch) (th : Nat) (S : St) (Q : Int32 → (Nat → Nat → Int32) → Prop) (hp : P_X11_round th S Q) : Ctr G l yX11_round cX11_round 2 (some FieldType.int) 2 42 0 0 [.ref th] S (fun (v : Option Value) (S9 : St) => ∃ (r : Int32) (I9 : Nat → Nat → Int32), v = some (.int r) ∧ S9 = wI S I9 ∧ Q r I9) := by
  generalize hQQ : (fun (v : Option Value) (S9 : St) => ∃ (r : Int32) (I9 : Nat → Nat → Int32), v = some (.int r) ∧ S9 = wI S I9 ∧ Q r I9) = QQ
  unfold P_X11_round at hp
  refine Ctr.of (by decide) (Nat.le_of_ble_eq_true rfl) ?_
  intro p e s m args below meth c ls B hr hlk hin hl hH
  generalize hlocs0 : ([] : List Loc) = locs at hH ⊢
  have hx := B.1
  have hb := B.2.1
  have hl : lv_has ls 2 [(0, .ref th)] := hl
  obtain ⟨hk_th, hp⟩ := hp
  refine lv_aload_n (pc := 0) hx hb dX11_round_0 rfl (lv_at hl 0 rfl) ?_
  refine sx_getR (pc := 1) (j := 9) B hH hk_th coX11 rfl w_465 rfl dX11_round_1 ?_
  refine W.eq (g2 := F0 m 4 ls [va_rf (gR S th 9)]) rfl ?_
  obtain ⟨J_2, hj_2, hp⟩ := hp
  have kj_2 : ∀ (t_3 : Int32) (H : Heap) (locs : List Loc) (ls : Array Slot), J_2 t_3 → Hp G (FA S s.heap.size) s.heap S H locs → lv_has ls 2 [(0, .ref th)] → Wm G p l e { frames := 2, cells := 0, slots := 0, locals := 42 } s m args below meth c S QQ 0 0 H locs 0 0 (F0 m 18 ls [.int t_3]) := by
    intro t_3 H locs ls hq9 hH hl
    have hp := hj_2 t_3 hq9
    refine lv_istore_n (pc := 18) (lv' := [(1, .int t_3), (0, .ref th)]) hx hb dX11_round_18 rfl hl (by decide) rfl (fun ls hl => ?_)
    refine lv_iload_n (pc := 19) hx hb dX11_round_19 rfl (lv_at hl 0 rfl) ?_
    refine lv_iconst (pc := 20) (v := (-1)) hx hb dX11_round_20 (by decide) ?_
    refine lv_icmp_ne (pc := 21) (tgt := 33) hx hb dX11_round_21 (by decide) (fun cc_4 => ?_) (fun cc_4 => ?_)
    · have hp := hp.1 cc_4
      refine lv_aload_n (pc := 33) hx hb dX11_round_33 rfl (lv_at hl 1 rfl) ?_
      refine lv_iload_n (pc := 34) hx hb dX11_round_34 rfl (lv_at hl 0 rfl) ?_
      refine sx_V (pc := 35) (As := [.int t_3]) (rest := []) B hH hl.1 (C_X11_answer G l th t_3 _ _ hp) mi_X11_answer coX11 hk_th w_740 w_16 w_738 rfl rfl ⟨Nat.le_of_ble_eq_true rfl, Nat.le_of_ble_eq_true rfl⟩ (Nat.le_of_ble_eq_true rfl) ⟨Nat.le_of_ble_eq_true rfl, Nat.le_of_ble_eq_true rfl⟩ dX11_round_35 (fun v S1 H locs hq hH => ?_)
      obtain ⟨r_5, F_5, rfl, e9, hp⟩ := hq
      rw [e9] at hH
      have hH : Hp G (FA S s.heap.size) s.heap (wI S F_5) H locs := hH
      refine W.eq (g2 := F0 m 38 ls [.int r_5]) rfl ?_
      exact sx_iret (pc := 38) B hH hr hlk (by rw [← hQQ]; exact ⟨_, F_5, rfl, rfl, hp⟩) (Nat.le_of_ble_eq_true rfl) (Nat.le_of_ble_eq_true rfl) dX11_round_38
    · have hp := hp.2 cc_4
      refine lv_aload_n (pc := 24) hx hb dX11_round_24 rfl (lv_at hl 1 rfl) ?_
      refine lv_bipush (pc := 25) (v := 6) hx hb dX11_round_25 (by decide) ?_
      refine sx_V (pc := 27) (As := [.int 6]) (rest := []) B hH hl.1 (C_X11_refuse G l th 6 _ _ hp) mi_X11_refuse coX11 hk_th w_570 w_3 w_568 rfl rfl ⟨Nat.le_of_ble_eq_true rfl, Nat.le_of_ble_eq_true rfl⟩ (Nat.le_of_ble_eq_true rfl) ⟨Nat.le_of_ble_eq_true rfl, Nat.le_of_ble_eq_true rfl⟩ dX11_round_27 (fun v S1 H locs hq hH => ?_)
      obtain ⟨r_6, F_6, rfl, e9, hp⟩ := hq
      rw [e9] at hH
      have hH : Hp G (FA S s.heap.size) s.heap (wI S F_6) H locs := hH
      refine W.eq (g2 := F0 m 30 ls [.int r_6]) rfl ?_
      refine lv_goto (pc := 30) (tgt := 38) hx hb dX11_round_30 (by decide) ?_
      exact sx_iret (pc := 38) B hH hr hlk (by rw [← hQQ]; exact ⟨_, F_6, rfl, rfl, hp⟩) (Nat.le_of_ble_eq_true rfl) (Nat.le_of_ble_eq_true rfl) dX11_round_38
  refine sx_ifnonnull (pc := 4) (r := gR S th 9) (tgt := 11) B dX11_round_4 (by decide) (fun cc_1 => ?_) (fun cc_1 => ?_)
  · have hp := hp.1 cc_1
    refine lv_aload_n (pc := 11) hx hb dX11_round_11 rfl (lv_at hl 0 rfl) ?_
    refine sx_getR (pc := 12) (j := 9) B hH hk_th coX11 rfl w_465 rfl dX11_round_12 ?_
    refine W.eq (g2 := F0 m 15 ls [va_rf (gR S th 9)]) rfl ?_
    obtain ⟨a_7, ha_7, hp⟩ := hp
    refine sx_nonnull (x := a_7) ha_7 ?_
    obtain ⟨hk_8, hp⟩ := hp
    refine sx_V (pc := 15) (As := []) (rest := []) B hH hl.1 (C_X8_firstRounds G l a_7 _ _ hp) mi_X8_firstRounds coX8 hk_8 w_1063 w_1064 w_1062 rfl rfl ⟨Nat.le_of_ble_eq_true rfl, Nat.le_of_ble_eq_true rfl⟩ (Nat.le_of_ble_eq_true rfl) ⟨Nat.le_of_ble_eq_true rfl, Nat.le_of_ble_eq_true rfl⟩ dX11_round_15 (fun v S1 H locs hq hH => ?_)
    obtain ⟨r_9, rfl, e9, hp⟩ := hq
    rw [e9] at hH
    refine W.eq (g2 := F0 m 18 ls [.int r_9]) rfl ?_
    exact kj_2 _ _ _ _ hp hH (lv_sub hl [0] rfl)
  · have hp := hp.2 cc_1
    refine lv_iconst (pc := 7) (v := (-1)) hx hb dX11_round_7 (by decide) ?_
    refine lv_goto (pc := 8) (tgt := 18) hx hb dX11_round_8 (by decide) ?_
    exact kj_2 _ _ _ _ hp hH (lv_sub hl [0] rfl)
theorem dX11_isTrue_0 : decode cX11_isTrue 0 = .ok (.aload_n 0, 1) := by decide +kernel
theorem dX11_isTrue_1 : decode cX11_isTrue 1 = .ok (.getfield 70, 3) := by decide +kernel
theorem dX11_isTrue_4 : decode cX11_isTrue 4 = .ok (.ifnonnull 10, 3) := by decide +kernel
theorem dX11_isTrue_7 : decode cX11_isTrue 7 = .ok (.aload_n 0, 1) := by decide +kernel
theorem dX11_isTrue_8 : decode cX11_isTrue 8 = .ok (.bipush 6, 2) := by decide +kernel
theorem dX11_isTrue_10 : decode cX11_isTrue 10 = .ok (.invokevirtual 139, 3) := by decide +kernel
theorem dX11_isTrue_13 : decode cX11_isTrue 13 = .ok (.ireturn, 1) := by decide +kernel
theorem dX11_isTrue_14 : decode cX11_isTrue 14 = .ok (.aload_n 0, 1) := by decide +kernel
theorem dX11_isTrue_15 : decode cX11_isTrue 15 = .ok (.aload_n 0, 1) := by decide +kernel
theorem dX11_isTrue_16 : decode cX11_isTrue 16 = .ok (.getfield 70, 3) := by decide +kernel
theorem dX11_isTrue_19 : decode cX11_isTrue 19 = .ok (.aload_n 0, 1) := by decide +kernel
theorem dX11_isTrue_20 : decode cX11_isTrue 20 = .ok (.getfield 92, 3) := by decide +kernel
theorem dX11_isTrue_23 : decode cX11_isTrue 23 = .ok (.invokevirtual 301, 3) := by decide +kernel
theorem dX11_isTrue_26 : decode cX11_isTrue 26 = .ok (.iconst (-1), 1) := by decide +kernel
theorem dX11_isTrue_27 : decode cX11_isTrue 27 = .ok (.if_icmp .ne 7, 3) := by decide +kernel
theorem dX11_isTrue_30 : decode cX11_isTrue 30 = .ok (.iconst 1, 1) := by decide +kernel
theorem dX11_isTrue_31 : decode cX11_isTrue 31 = .ok (.goto 4, 3) := by decide +kernel
theorem dX11_isTrue_34 : decode cX11_isTrue 34 = .ok (.iconst 0, 1) := by decide +kernel
theorem dX11_isTrue_35 : decode cX11_isTrue 35 = .ok (.invokevirtual 170, 3) := by decide +kernel
theorem dX11_isTrue_38 : decode cX11_isTrue 38 = .ok (.ireturn, 1) := by decide +kernel
theorem mi_X11_isTrue : MI yX11_isTrue cX11_isTrue 1 (some FieldType.int) 0 := ⟨w_1073, w_105, by decide +kernel, by decide +kernel, by decide +kernel⟩
set_option maxRecDepth 100000 in
set_option maxHeartbeats 4000000 in
theorem C_X11_isTrue (G : GG) (l : Launch) (th : Nat) (S : St) (bc bs : Nat) (Q : Int32 → St → Prop) (hp : P_X11_isTrue th S bc bs Q) : Ctr G l yX11_isTrue cX11_isTrue 1 (some FieldType.int) 2 47 bc bs [.ref th] S (fun (v : Option Value) (S9 : St) => ∃ r : Int32, v = some (.int r) ∧ Q r S9) := by
  generalize hQQ : (fun (v : Option Value) (S9 : St) => ∃ r : Int32, v = some (.int r) ∧ Q r S9) = QQ
  unfold P_X11_isTrue at hp
  refine Ctr.of (by decide) (Nat.le_of_ble_eq_true rfl) ?_
  intro p e s m args below meth c ls B hr hlk hin hl hH
  generalize hlocs0 : ([] : List Loc) = locs at hH ⊢
  have hx := B.1
  have hb := B.2.1
  have hl : lv_has ls 1 [(0, .ref th)] := hl
  obtain ⟨hk_th, hp⟩ := hp
  refine lv_aload_n (pc := 0) hx hb dX11_isTrue_0 rfl (lv_at hl 0 rfl) ?_
  refine sx_getR (pc := 1) (j := 9) B hH hk_th coX11 rfl w_465 rfl dX11_isTrue_1 ?_
  refine W.eq (g2 := F0 m 4 ls [va_rf (gR S th 9)]) rfl ?_
  refine sx_ifnonnull (pc := 4) (r := gR S th 9) (tgt := 14) B dX11_isTrue_4 (by decide) (fun cc_1 => ?_) (fun cc_1 => ?_)
  · have hp := hp.1 cc_1
    refine lv_aload_n (pc := 14) hx hb dX11_isTrue_14 rfl (lv_at hl 0 rfl) ?_
    refine lv_aload_n (pc := 15) hx hb dX11_isTrue_15 rfl (lv_at hl 0 rfl) ?_
    refine sx_getR (pc := 16) (j := 9) B hH hk_th coX11 rfl w_465 rfl dX11_isTrue_16 ?_
    refine W.eq (g2 := F0 m 19 ls [va_rf (gR S th 9), .ref th]) rfl ?_
    obtain ⟨a_2, ha_2, hp⟩ := hp
    refine sx_nonnull (x := a_2) ha_2 ?_
    refine lv_aload_n (pc := 19) hx hb dX11_isTrue_19 rfl (lv_at hl 0 rfl) ?_
    refine sx_getR (pc := 20) (j := 14) B hH hk_th coX11 rfl w_470 rfl dX11_isTrue_20 ?_
    refine W.eq (g2 := F0 m 23 ls [va_rf (gR S th 14), .ref a_2, .ref th]) rfl ?_
    obtain ⟨a_3, ha_3, hp⟩ := hp
    refine sx_nonnull (x := a_3) ha_3 ?_
    obtain ⟨hk_4, hp⟩ := hp
    obtain ⟨c_5, s_5, hb_5, hs_5, hp⟩ := hp
    refine sx_V (pc := 23) (As := [.ref a_3]) (rest := [.ref th]) B hH hl.1 (C_X8_secondAlike G l a_2 a_3 _ c_5 s_5 _ hp) mi_X8_secondAlike coX8 hk_4 w_1075 w_1076 w_1074 rfl rfl ⟨Nat.le_of_ble_eq_true rfl, Nat.le_of_ble_eq_true rfl⟩ (Nat.le_of_ble_eq_true rfl) ⟨(show _ + c_5 ≤ bc by omega), (show _ + s_5 ≤ bs by omega)⟩ dX11_isTrue_23 (fun v S1 H locs hq hH => ?_)
    obtain ⟨r_6, rfl, hp⟩ := hq
    obtain ⟨S_6, eS_6⟩ : ∃ z : St, z = S1 := ⟨_, rfl⟩
    rw [← eS_6] at hp hH
    refine W.eq (g2 := F0 m 26 ls [.int r_6, .ref th]) rfl ?_
    refine lv_iconst (pc := 26) (v := (-1)) hx hb dX11_isTrue_26 (by decide) ?_
    obtain ⟨J_8, hj_8, hp⟩ := hp
    have kj_8 : ∀ (t_9 : Int32) (H : Heap) (locs : List Loc) (ls : Array Slot) (cells slots : Nat), J_8 t_9 → cells + (bc - c_5) ≤ bc → slots + (bs - s_5) ≤ bs → Hp G (FA S s.heap.size) s.heap S_6 H locs → lv_has ls 1 [] → Wm G p l e { frames := 2, cells := bc, slots := bs, locals := 47 } s m args below meth c S QQ bc bs H locs cells slots (F0 m 35 ls [.int t_9, .ref th]) := by
      intro t_9 H locs ls cells slots hq9 hcc_8 hss_8 hH hl
      have hp := hj_8 t_9 hq9
      obtain ⟨hk_10, hp⟩ := hp
      refine sx_V (pc := 35) (As := [.int t_9]) (rest := []) B hH hl.1 (C_X11_answer G l th t_9 _ _ hp) mi_X11_answer coX11 hk_10 w_740 w_16 w_738 rfl rfl ⟨Nat.le_of_ble_eq_true rfl, Nat.le_of_ble_eq_true rfl⟩ (Nat.le_of_ble_eq_true rfl) ⟨(show _ + 0 ≤ bc by omega), (show _ + 0 ≤ bs by omega)⟩ dX11_isTrue_35 (fun v S1 H locs hq hH => ?_)
      obtain ⟨r_11, F_11, rfl, e9, hp⟩ := hq
      rw [e9] at hH
      have hH : Hp G (FA S s.heap.size) s.heap (wI S_6 F_11) H locs := hH
      refine W.eq (g2 := F0 m 38 ls [.int r_11]) rfl ?_
      exact sx_iret (pc := 38) B hH hr hlk (by rw [← hQQ]; exact ⟨_, rfl, hp⟩) (show _ ≤ bc by omega) (show _ ≤ bs by omega) dX11_isTrue_38
    refine lv_icmp_ne (pc := 27) (tgt := 34) hx hb dX11_isTrue_27 (by decide) (fun cc_7 => ?_) (fun cc_7 => ?_)
    · have hp := hp.1 cc_7
      refine lv_iconst (pc := 34) (v := 0) hx hb dX11_isTrue_34 (by decide) ?_
      exact kj_8 _ _ _ _ _ _ hp (show _ + (bc - c_5) ≤ bc by omega) (show _ + (bs - s_5) ≤ bs by omega) hH (lv_sub hl [] rfl)
    · have hp := hp.2 cc_7
      refine lv_iconst (pc := 30) (v := 1) hx hb dX11_isTrue_30 (by decide) ?_
      refine lv_goto (pc := 31) (tgt := 35) hx hb dX11_isTrue_31 (by decide) ?_
      exact kj_8 _ _ _ _ _ _ hp (show _ + (bc - c_5) ≤ bc by omega) (show _ + (bs - s_5) ≤ bs by omega) hH (lv_sub hl [] rfl)
  · have hp := hp.2 cc_1
    refine lv_aload_n (pc := 7) hx hb dX11_isTrue_7 rfl (lv_at hl 0 rfl) ?_
    refine lv_bipush (pc := 8) (v := 6) hx hb dX11_isTrue_8 (by decide) ?_
    refine sx_V (pc := 10) (As := [.int 6]) (rest := []) B hH hl.1 (C_X11_refuse G l th 6 _ _ hp) mi_X11_refuse coX11 hk_th w_570 w_3 w_568 rfl rfl ⟨Nat.le_of_ble_eq_true rfl, Nat.le_of_ble_eq_true rfl⟩ (Nat.le_of_ble_eq_true rfl) ⟨(show _ + 0 ≤ bc by omega), (show _ + 0 ≤ bs by omega)⟩ dX11_isTrue_10 (fun v S1 H locs hq hH => ?_)
    obtain ⟨r_12, F_12, rfl, e9, hp⟩ := hq
    rw [e9] at hH
    have hH : Hp G (FA S s.heap.size) s.heap (wI S F_12) H locs := hH
    refine W.eq (g2 := F0 m 13 ls [.int r_12]) rfl ?_
    exact sx_iret (pc := 13) B hH hr hlk (by rw [← hQQ]; exact ⟨_, rfl, hp⟩) (show _ ≤ bc by omega) (show _ ≤ bs by omega) dX11_isTrue_13
theorem dX11_falseAt_0 : decode cX11_falseAt 0 = .ok (.iload_n 1, 1) := by decide +kernel
theorem dX11_falseAt_1 : decode cX11_falseAt 1 = .ok (.ifCond .eq 14, 3) := by decide +kernel
theorem dX11_falseAt_4 : decode cX11_falseAt 4 = .ok (.iload_n 1, 1) := by decide +kernel
theorem dX11_falseAt_5 : decode cX11_falseAt 5 = .ok (.iconst 1, 1) := by decide +kernel
theorem dX11_falseAt_6 : decode cX11_falseAt 6 = .ok (.if_icmp .eq 9, 3) := by decide +kernel
theorem dX11_falseAt_9 : decode cX11_falseAt 9 = .ok (.aload_n 0, 1) := by decide +kernel
theorem dX11_falseAt_10 : decode cX11_falseAt 10 = .ok (.iconst 1, 1) := by decide +kernel
theorem dX11_falseAt_11 : decode cX11_falseAt 11 = .ok (.invokevirtual 139, 3) := by decide +kernel
theorem dX11_falseAt_14 : decode cX11_falseAt 14 = .ok (.ireturn, 1) := by decide +kernel
theorem dX11_falseAt_15 : decode cX11_falseAt 15 = .ok (.aload_n 0, 1) := by decide +kernel
theorem dX11_falseAt_16 : decode cX11_falseAt 16 = .ok (.getfield 70, 3) := by decide +kernel
theorem dX11_falseAt_19 : decode cX11_falseAt 19 = .ok (.ifnonnull 7, 3) := by decide +kernel
theorem dX11_falseAt_22 : decode cX11_falseAt 22 = .ok (.iconst (-1), 1) := by decide +kernel
theorem dX11_falseAt_23 : decode cX11_falseAt 23 = .ok (.goto 14, 3) := by decide +kernel
theorem dX11_falseAt_26 : decode cX11_falseAt 26 = .ok (.aload_n 0, 1) := by decide +kernel
theorem dX11_falseAt_27 : decode cX11_falseAt 27 = .ok (.getfield 70, 3) := by decide +kernel
theorem dX11_falseAt_30 : decode cX11_falseAt 30 = .ok (.aload_n 0, 1) := by decide +kernel
theorem dX11_falseAt_31 : decode cX11_falseAt 31 = .ok (.getfield 92, 3) := by decide +kernel
theorem dX11_falseAt_34 : decode cX11_falseAt 34 = .ok (.invokevirtual 301, 3) := by decide +kernel
theorem dX11_falseAt_37 : decode cX11_falseAt 37 = .ok (.istore_n 2, 1) := by decide +kernel
theorem dX11_falseAt_38 : decode cX11_falseAt 38 = .ok (.iload_n 2, 1) := by decide +kernel
theorem dX11_falseAt_39 : decode cX11_falseAt 39 = .ok (.iconst (-1), 1) := by decide +kernel
theorem dX11_falseAt_40 : decode cX11_falseAt 40 = .ok (.if_icmp .ne 10, 3) := by decide +kernel
theorem dX11_falseAt_43 : decode cX11_falseAt 43 = .ok (.aload_n 0, 1) := by decide +kernel
theorem dX11_falseAt_44 : decode cX11_falseAt 44 = .ok (.bipush 6, 2) := by decide +kernel
theorem dX11_falseAt_46 : decode cX11_falseAt 46 = .ok (.invokevirtual 139, 3) := by decide +kernel
theorem dX11_falseAt_49 : decode cX11_falseAt 49 = .ok (.ireturn, 1) := by decide +kernel
theorem dX11_falseAt_50 : decode cX11_falseAt 50 = .ok (.aload_n 0, 1) := by decide +kernel
theorem dX11_falseAt_51 : decode cX11_falseAt 51 = .ok (.iload_n 1, 1) := by decide +kernel
theorem dX11_falseAt_52 : decode cX11_falseAt 52 = .ok (.iconst 1, 1) := by decide +kernel
theorem dX11_falseAt_53 : decode cX11_falseAt 53 = .ok (.if_icmp .ne 7, 3) := by decide +kernel
theorem dX11_falseAt_56 : decode cX11_falseAt 56 = .ok (.iload_n 2, 1) := by decide +kernel
theorem dX11_falseAt_57 : decode cX11_falseAt 57 = .ok (.goto 11, 3) := by decide +kernel
theorem dX11_falseAt_60 : decode cX11_falseAt 60 = .ok (.aload_n 0, 1) := by decide +kernel
theorem dX11_falseAt_61 : decode cX11_falseAt 61 = .ok (.getfield 70, 3) := by decide +kernel
theorem dX11_falseAt_64 : decode cX11_falseAt 64 = .ok (.iload_n 2, 1) := by decide +kernel
theorem dX11_falseAt_65 : decode cX11_falseAt 65 = .ok (.invokevirtual 305, 3) := by decide +kernel
theorem dX11_falseAt_68 : decode cX11_falseAt 68 = .ok (.invokevirtual 170, 3) := by decide +kernel
theorem dX11_falseAt_71 : decode cX11_falseAt 71 = .ok (.ireturn, 1) := by decide +kernel
theorem mi_X11_falseAt : MI yX11_falseAt cX11_falseAt 3 (some FieldType.int) 1 := ⟨w_1085, w_105, by decide +kernel, by decide +kernel, by decide +kernel⟩
set_option maxRecDepth 100000 in
set_option maxHeartbeats 4000000 in
theorem C_X11_falseAt (G : GG) (l : Launch) (th : Nat) (p0 : Int32) (S : St) (bc bs : Nat) (Q : Int32 → St → Prop) (hp : P_X11_falseAt th p0 S bc bs Q) : Ctr G l yX11_falseAt cX11_falseAt 3 (some FieldType.int) 2 47 bc bs [.ref th, .int p0] S (fun (v : Option Value) (S9 : St) => ∃ r : Int32, v = some (.int r) ∧ Q r S9) := by
  generalize hQQ : (fun (v : Option Value) (S9 : St) => ∃ r : Int32, v = some (.int r) ∧ Q r S9) = QQ
  unfold P_X11_falseAt at hp
  refine Ctr.of (by decide) (Nat.le_of_ble_eq_true rfl) ?_
  intro p e s m args below meth c ls B hr hlk hin hl hH
  generalize hlocs0 : ([] : List Loc) = locs at hH ⊢
  have hx := B.1
  have hb := B.2.1
  have hl : lv_has ls 3 [(0, .ref th), (1, .int p0)] := hl
  obtain ⟨hk_th, hp⟩ := hp
  refine lv_iload_n (pc := 0) hx hb dX11_falseAt_0 rfl (lv_at hl 1 rfl) ?_
  obtain ⟨J_2, hj_2, hp⟩ := hp
  have kj_2 : ∀  (H : Heap) (locs : List Loc) (ls : Array Slot) (cells slots : Nat), J_2  → cells + bc ≤ bc → slots + bs ≤ bs → Hp G (FA S s.heap.size) s.heap S H locs → lv_has ls 3 [(0, .ref th), (1, .int p0)] → Wm G p l e { frames := 2, cells := bc, slots := bs, locals := 47 } s m args below meth c S QQ bc bs H locs cells slots (F0 m 15 ls []) := by
    intro  H locs ls cells slots hq9 hcc_2 hss_2 hH hl
    have hp := hj_2  hq9
    refine lv_aload_n (pc := 15) hx hb dX11_falseAt_15 rfl (lv_at hl 0 rfl) ?_
    refine sx_getR (pc := 16) (j := 9) B hH hk_th coX11 rfl w_465 rfl dX11_falseAt_16 ?_
    refine W.eq (g2 := F0 m 19 ls [va_rf (gR S th 9)]) rfl ?_
    obtain ⟨J_4, hj_4, hp⟩ := hp
    have kj_4 : ∀ (t_5 : Int32) (S_6 : St) (b_7 : Nat) (d_7 : Nat) (H : Heap) (locs : List Loc) (ls : Array Slot) (cells slots : Nat), J_4 t_5 S_6 b_7 d_7 → cells + b_7 ≤ bc → slots + d_7 ≤ bs → Hp G (FA S s.heap.size) s.heap S_6 H locs → lv_has ls 3 [(0, .ref th), (1, .int p0)] → Wm G p l e { frames := 2, cells := bc, slots := bs, locals := 47 } s m args below meth c S QQ bc bs H locs cells slots (F0 m 37 ls [.int t_5]) := by
      intro t_5 S_6 b_7 d_7 H locs ls cells slots hq9 hcc_4 hss_4 hH hl
      have hp := hj_4 t_5 S_6 b_7 d_7 hq9
      refine lv_istore_n (pc := 37) (lv' := [(2, .int t_5), (0, .ref th), (1, .int p0)]) hx hb dX11_falseAt_37 rfl hl (by decide) rfl (fun ls hl => ?_)
      refine lv_iload_n (pc := 38) hx hb dX11_falseAt_38 rfl (lv_at hl 0 rfl) ?_
      refine lv_iconst (pc := 39) (v := (-1)) hx hb dX11_falseAt_39 (by decide) ?_
      refine lv_icmp_ne (pc := 40) (tgt := 50) hx hb dX11_falseAt_40 (by decide) (fun cc_8 => ?_) (fun cc_8 => ?_)
      · have hp := hp.1 cc_8
        refine lv_aload_n (pc := 50) hx hb dX11_falseAt_50 rfl (lv_at hl 1 rfl) ?_
        refine lv_iload_n (pc := 51) hx hb dX11_falseAt_51 rfl (lv_at hl 2 rfl) ?_
        refine lv_iconst (pc := 52) (v := 1) hx hb dX11_falseAt_52 (by decide) ?_
        obtain ⟨J_10, hj_10, hp⟩ := hp
        have kj_10 : ∀ (t_11 : Int32) (H : Heap) (locs : List Loc) (ls : Array Slot) (cells slots : Nat), J_10 t_11 → cells + b_7 ≤ bc → slots + d_7 ≤ bs → Hp G (FA S s.heap.size) s.heap S_6 H locs → lv_has ls 3 [] → Wm G p l e { frames := 2, cells := bc, slots := bs, locals := 47 } s m args below meth c S QQ bc bs H locs cells slots (F0 m 68 ls [.int t_11, .ref th]) := by
          intro t_11 H locs ls cells slots hq9 hcc_10 hss_10 hH hl
          have hp := hj_10 t_11 hq9
          obtain ⟨hk_12, hp⟩ := hp
          refine sx_V (pc := 68) (As := [.int t_11]) (rest := []) B hH hl.1 (C_X11_answer G l th t_11 _ _ hp) mi_X11_answer coX11 hk_12 w_740 w_16 w_738 rfl rfl ⟨Nat.le_of_ble_eq_true rfl, Nat.le_of_ble_eq_true rfl⟩ (Nat.le_of_ble_eq_true rfl) ⟨(show _ + 0 ≤ bc by omega), (show _ + 0 ≤ bs by omega)⟩ dX11_falseAt_68 (fun v S1 H locs hq hH => ?_)
          obtain ⟨r_13, F_13, rfl, e9, hp⟩ := hq
          rw [e9] at hH
          have hH : Hp G (FA S s.heap.size) s.heap (wI S_6 F_13) H locs := hH
          refine W.eq (g2 := F0 m 71 ls [.int r_13]) rfl ?_
          exact sx_iret (pc := 71) B hH hr hlk (by rw [← hQQ]; exact ⟨_, rfl, hp⟩) (show _ ≤ bc by omega) (show _ ≤ bs by omega) dX11_falseAt_71
        refine lv_icmp_ne (pc := 53) (tgt := 60) hx hb dX11_falseAt_53 (by decide) (fun cc_9 => ?_) (fun cc_9 => ?_)
        · have hp := hp.1 cc_9
          refine lv_aload_n (pc := 60) hx hb dX11_falseAt_60 rfl (lv_at hl 1 rfl) ?_
          obtain ⟨hk_14, hp⟩ := hp
          refine sx_getR (pc := 61) (j := 9) B hH hk_14 coX11 rfl w_465 rfl dX11_falseAt_61 ?_
          refine W.eq (g2 := F0 m 64 ls [va_rf (gR S_6 th 9), .ref th]) rfl ?_
          obtain ⟨a_15, ha_15, hp⟩ := hp
          refine sx_nonnull (x := a_15) ha_15 ?_
          refine lv_iload_n (pc := 64) hx hb dX11_falseAt_64 rfl (lv_at hl 0 rfl) ?_
          obtain ⟨hk_16, hp⟩ := hp
          refine sx_V (pc := 65) (As := [.int t_5]) (rest := [.ref th]) B hH hl.1 (C_X8_firstLike G l a_15 t_5 _ _ hp) mi_X8_firstLike coX8 hk_16 w_1087 w_1088 w_1086 rfl rfl ⟨Nat.le_of_ble_eq_true rfl, Nat.le_of_ble_eq_true rfl⟩ (Nat.le_of_ble_eq_true rfl) ⟨(show _ + 0 ≤ bc by omega), (show _ + 0 ≤ bs by omega)⟩ dX11_falseAt_65 (fun v S1 H locs hq hH => ?_)
          obtain ⟨r_17, rfl, e9, hp⟩ := hq
          rw [e9] at hH
          refine W.eq (g2 := F0 m 68 ls [.int r_17, .ref th]) rfl ?_
          exact kj_10 _ _ _ _ _ _ hp (show _ + b_7 ≤ bc by omega) (show _ + d_7 ≤ bs by omega) hH (lv_sub hl [] rfl)
        · have hp := hp.2 cc_9
          refine lv_iload_n (pc := 56) hx hb dX11_falseAt_56 rfl (lv_at hl 0 rfl) ?_
          refine lv_goto (pc := 57) (tgt := 68) hx hb dX11_falseAt_57 (by decide) ?_
          exact kj_10 _ _ _ _ _ _ hp (show _ + b_7 ≤ bc by omega) (show _ + d_7 ≤ bs by omega) hH (lv_sub hl [] rfl)
      · have hp := hp.2 cc_8
        refine lv_aload_n (pc := 43) hx hb dX11_falseAt_43 rfl (lv_at hl 1 rfl) ?_
        refine lv_bipush (pc := 44) (v := 6) hx hb dX11_falseAt_44 (by decide) ?_
        obtain ⟨hk_18, hp⟩ := hp
        refine sx_V (pc := 46) (As := [.int 6]) (rest := []) B hH hl.1 (C_X11_refuse G l th 6 _ _ hp) mi_X11_refuse coX11 hk_18 w_570 w_3 w_568 rfl rfl ⟨Nat.le_of_ble_eq_true rfl, Nat.le_of_ble_eq_true rfl⟩ (Nat.le_of_ble_eq_true rfl) ⟨(show _ + 0 ≤ bc by omega), (show _ + 0 ≤ bs by omega)⟩ dX11_falseAt_46 (fun v S1 H locs hq hH => ?_)
        obtain ⟨r_19, F_19, rfl, e9, hp⟩ := hq
        rw [e9] at hH
        have hH : Hp G (FA S s.heap.size) s.heap (wI S_6 F_19) H locs := hH
        refine W.eq (g2 := F0 m 49 ls [.int r_19]) rfl ?_
        exact sx_iret (pc := 49) B hH hr hlk (by rw [← hQQ]; exact ⟨_, rfl, hp⟩) (show _ ≤ bc by omega) (show _ ≤ bs by omega) dX11_falseAt_49
    refine sx_ifnonnull (pc := 19) (r := gR S th 9) (tgt := 26) B dX11_falseAt_19 (by decide) (fun cc_3 => ?_) (fun cc_3 => ?_)
    · have hp := hp.1 cc_3
      refine lv_aload_n (pc := 26) hx hb dX11_falseAt_26 rfl (lv_at hl 0 rfl) ?_
      refine sx_getR (pc := 27) (j := 9) B hH hk_th coX11 rfl w_465 rfl dX11_falseAt_27 ?_
      refine W.eq (g2 := F0 m 30 ls [va_rf (gR S th 9)]) rfl ?_
      obtain ⟨a_20, ha_20, hp⟩ := hp
      refine sx_nonnull (x := a_20) ha_20 ?_
      refine lv_aload_n (pc := 30) hx hb dX11_falseAt_30 rfl (lv_at hl 0 rfl) ?_
      refine sx_getR (pc := 31) (j := 14) B hH hk_th coX11 rfl w_470 rfl dX11_falseAt_31 ?_
      refine W.eq (g2 := F0 m 34 ls [va_rf (gR S th 14), .ref a_20]) rfl ?_
      obtain ⟨a_21, ha_21, hp⟩ := hp
      refine sx_nonnull (x := a_21) ha_21 ?_
      obtain ⟨hk_22, hp⟩ := hp
      obtain ⟨c_23, s_23, hb_23, hs_23, hp⟩ := hp
      refine sx_V (pc := 34) (As := [.ref a_21]) (rest := []) B hH hl.1 (C_X8_secondAlike G l a_20 a_21 _ c_23 s_23 _ hp) mi_X8_secondAlike coX8 hk_22 w_1075 w_1076 w_1074 rfl rfl ⟨Nat.le_of_ble_eq_true rfl, Nat.le_of_ble_eq_true rfl⟩ (Nat.le_of_ble_eq_true rfl) ⟨(show _ + c_23 ≤ bc by omega), (show _ + s_23 ≤ bs by omega)⟩ dX11_falseAt_34 (fun v S1 H locs hq hH => ?_)
      obtain ⟨r_24, rfl, hp⟩ := hq
      obtain ⟨S_24, eS_24⟩ : ∃ z : St, z = S1 := ⟨_, rfl⟩
      rw [← eS_24] at hp hH
      refine W.eq (g2 := F0 m 37 ls [.int r_24]) rfl ?_
      exact kj_4 _ _ _ _ _ _ _ _ _ hp (show _ + (bc - c_23) ≤ bc by omega) (show _ + (bs - s_23) ≤ bs by omega) hH (lv_sub hl [0, 1] rfl)
    · have hp := hp.2 cc_3
      refine lv_iconst (pc := 22) (v := (-1)) hx hb dX11_falseAt_22 (by decide) ?_
      refine lv_goto (pc := 23) (tgt := 37) hx hb dX11_falseAt_23 (by decide) ?_
      exact kj_4 _ _ _ _ _ _ _ _ _ hp (show _ + bc ≤ bc by omega) (show _ + bs ≤ bs by omega) hH (lv_sub hl [0, 1] rfl)
  refine lv_if_eq (pc := 1) (tgt := 15) hx hb dX11_falseAt_1 (by decide) (fun cc_1 => ?_) (fun cc_1 => ?_)
  · have hp := hp.1 cc_1
    exact kj_2  _ _ _ _ _ hp (show _ + bc ≤ bc by omega) (show _ + bs ≤ bs by omega) hH (lv_sub hl [0, 1] rfl)
  · have hp := hp.2 cc_1
    refine lv_iload_n (pc := 4) hx hb dX11_falseAt_4 rfl (lv_at hl 1 rfl) ?_
    refine lv_iconst (pc := 5) (v := 1) hx hb dX11_falseAt_5 (by decide) ?_
    refine lv_icmp_eq (pc := 6) (tgt := 15) hx hb dX11_falseAt_6 (by decide) (fun cc_25 => ?_) (fun cc_25 => ?_)
    · have hp := hp.1 cc_25
      exact kj_2  _ _ _ _ _ hp (show _ + bc ≤ bc by omega) (show _ + bs ≤ bs by omega) hH (lv_sub hl [0, 1] rfl)
    · have hp := hp.2 cc_25
      refine lv_aload_n (pc := 9) hx hb dX11_falseAt_9 rfl (lv_at hl 0 rfl) ?_
      refine lv_iconst (pc := 10) (v := 1) hx hb dX11_falseAt_10 (by decide) ?_
      refine sx_V (pc := 11) (As := [.int 1]) (rest := []) B hH hl.1 (C_X11_refuse G l th 1 _ _ hp) mi_X11_refuse coX11 hk_th w_570 w_3 w_568 rfl rfl ⟨Nat.le_of_ble_eq_true rfl, Nat.le_of_ble_eq_true rfl⟩ (Nat.le_of_ble_eq_true rfl) ⟨(show _ + 0 ≤ bc by omega), (show _ + 0 ≤ bs by omega)⟩ dX11_falseAt_11 (fun v S1 H locs hq hH => ?_)
      obtain ⟨r_26, F_26, rfl, e9, hp⟩ := hq
      rw [e9] at hH
      have hH : Hp G (FA S s.heap.size) s.heap (wI S F_26) H locs := hH
      refine W.eq (g2 := F0 m 14 ls [.int r_26]) rfl ?_
      exact sx_iret (pc := 14) B hH hr hlk (by rw [← hQQ]; exact ⟨_, rfl, hp⟩) (show _ ≤ bc by omega) (show _ ≤ bs by omega) dX11_falseAt_14
theorem dX11_repeats_0 : decode cX11_repeats 0 = .ok (.aload_n 0, 1) := by decide +kernel
theorem dX11_repeats_1 : decode cX11_repeats 1 = .ok (.getfield 70, 3) := by decide +kernel
theorem dX11_repeats_4 : decode cX11_repeats 4 = .ok (.ifnonnull 10, 3) := by decide +kernel
theorem dX11_repeats_7 : decode cX11_repeats 7 = .ok (.aload_n 0, 1) := by decide +kernel
theorem dX11_repeats_8 : decode cX11_repeats 8 = .ok (.bipush 6, 2) := by decide +kernel
theorem dX11_repeats_10 : decode cX11_repeats 10 = .ok (.invokevirtual 139, 3) := by decide +kernel
theorem dX11_repeats_13 : decode cX11_repeats 13 = .ok (.ireturn, 1) := by decide +kernel
theorem dX11_repeats_14 : decode cX11_repeats 14 = .ok (.aload_n 0, 1) := by decide +kernel
theorem dX11_repeats_15 : decode cX11_repeats 15 = .ok (.aload_n 0, 1) := by decide +kernel
theorem dX11_repeats_16 : decode cX11_repeats 16 = .ok (.getfield 70, 3) := by decide +kernel
theorem dX11_repeats_19 : decode cX11_repeats 19 = .ok (.aload_n 0, 1) := by decide +kernel
theorem dX11_repeats_20 : decode cX11_repeats 20 = .ok (.getfield 92, 3) := by decide +kernel
theorem dX11_repeats_23 : decode cX11_repeats 23 = .ok (.iconst 0, 1) := by decide +kernel
theorem dX11_repeats_24 : decode cX11_repeats 24 = .ok (.invokevirtual 308, 3) := by decide +kernel
theorem dX11_repeats_27 : decode cX11_repeats 27 = .ok (.invokevirtual 170, 3) := by decide +kernel
theorem dX11_repeats_30 : decode cX11_repeats 30 = .ok (.ireturn, 1) := by decide +kernel
theorem mi_X11_repeats : MI yX11_repeats cX11_repeats 1 (some FieldType.int) 0 := ⟨w_1093, w_105, by decide +kernel, by decide +kernel, by decide +kernel⟩
set_option maxRecDepth 100000 in
set_option maxHeartbeats 4000000 in
theorem C_X11_repeats (G : GG) (l : Launch) (th : Nat) (S : St) (bc bs : Nat) (Q : Int32 → St → Prop) (hp : P_X11_repeats th S bc bs Q) : Ctr G l yX11_repeats cX11_repeats 1 (some FieldType.int) 3 72 bc bs [.ref th] S (fun (v : Option Value) (S9 : St) => ∃ r : Int32, v = some (.int r) ∧ Q r S9) := by
  generalize hQQ : (fun (v : Option Value) (S9 : St) => ∃ r : Int32, v = some (.int r) ∧ Q r S9) = QQ
  unfold P_X11_repeats at hp
  refine Ctr.of (by decide) (Nat.le_of_ble_eq_true rfl) ?_
  intro p e s m args below meth c ls B hr hlk hin hl hH
  generalize hlocs0 : ([] : List Loc) = locs at hH ⊢
  have hx := B.1
  have hb := B.2.1
  have hl : lv_has ls 1 [(0, .ref th)] := hl
  obtain ⟨hk_th, hp⟩ := hp
  refine lv_aload_n (pc := 0) hx hb dX11_repeats_0 rfl (lv_at hl 0 rfl) ?_
  refine sx_getR (pc := 1) (j := 9) B hH hk_th coX11 rfl w_465 rfl dX11_repeats_1 ?_
  refine W.eq (g2 := F0 m 4 ls [va_rf (gR S th 9)]) rfl ?_
  refine sx_ifnonnull (pc := 4) (r := gR S th 9) (tgt := 14) B dX11_repeats_4 (by decide) (fun cc_1 => ?_) (fun cc_1 => ?_)
  · have hp := hp.1 cc_1
    refine lv_aload_n (pc := 14) hx hb dX11_repeats_14 rfl (lv_at hl 0 rfl) ?_
    refine lv_aload_n (pc := 15) hx hb dX11_repeats_15 rfl (lv_at hl 0 rfl) ?_
    refine sx_getR (pc := 16) (j := 9) B hH hk_th coX11 rfl w_465 rfl dX11_repeats_16 ?_
    refine W.eq (g2 := F0 m 19 ls [va_rf (gR S th 9), .ref th]) rfl ?_
    obtain ⟨a_2, ha_2, hp⟩ := hp
    refine sx_nonnull (x := a_2) ha_2 ?_
    refine lv_aload_n (pc := 19) hx hb dX11_repeats_19 rfl (lv_at hl 0 rfl) ?_
    refine sx_getR (pc := 20) (j := 14) B hH hk_th coX11 rfl w_470 rfl dX11_repeats_20 ?_
    refine W.eq (g2 := F0 m 23 ls [va_rf (gR S th 14), .ref a_2, .ref th]) rfl ?_
    obtain ⟨a_3, ha_3, hp⟩ := hp
    refine sx_nonnull (x := a_3) ha_3 ?_
    refine lv_iconst (pc := 23) (v := 0) hx hb dX11_repeats_23 (by decide) ?_
    obtain ⟨hk_4, hp⟩ := hp
    obtain ⟨c_5, s_5, hb_5, hs_5, hp⟩ := hp
    refine sx_V (pc := 24) (As := [.ref a_3, .int 0]) (rest := [.ref th]) B hH hl.1 (C_X8_alike G l a_2 a_3 0 _ c_5 s_5 _ hp) mi_X8_alike coX8 hk_4 w_1095 w_1096 w_1094 rfl rfl ⟨Nat.le_of_ble_eq_true rfl, Nat.le_of_ble_eq_true rfl⟩ (Nat.le_of_ble_eq_true rfl) ⟨(show _ + c_5 ≤ bc by omega), (show _ + s_5 ≤ bs by omega)⟩ dX11_repeats_24 (fun v S1 H locs hq hH => ?_)
    obtain ⟨r_6, rfl, hp⟩ := hq
    obtain ⟨S_6, eS_6⟩ : ∃ z : St, z = S1 := ⟨_, rfl⟩
    rw [← eS_6] at hp hH
    refine W.eq (g2 := F0 m 27 ls [.int r_6, .ref th]) rfl ?_
    obtain ⟨hk_7, hp⟩ := hp
    refine sx_V (pc := 27) (As := [.int r_6]) (rest := []) B hH hl.1 (C_X11_answer G l th r_6 _ _ hp) mi_X11_answer coX11 hk_7 w_740 w_16 w_738 rfl rfl ⟨Nat.le_of_ble_eq_true rfl, Nat.le_of_ble_eq_true rfl⟩ (Nat.le_of_ble_eq_true rfl) ⟨(show _ + 0 ≤ bc by omega), (show _ + 0 ≤ bs by omega)⟩ dX11_repeats_27 (fun v S1 H locs hq hH => ?_)
    obtain ⟨r_8, F_8, rfl, e9, hp⟩ := hq
    rw [e9] at hH
    have hH : Hp G (FA S s.heap.size) s.heap (wI S_6 F_8) H locs := hH
    refine W.eq (g2 := F0 m 30 ls [.int r_8]) rfl ?_
    exact sx_iret (pc := 30) B hH hr hlk (by rw [← hQQ]; exact ⟨_, rfl, hp⟩) (show _ ≤ bc by omega) (show _ ≤ bs by omega) dX11_repeats_30
  · have hp := hp.2 cc_1
    refine lv_aload_n (pc := 7) hx hb dX11_repeats_7 rfl (lv_at hl 0 rfl) ?_
    refine lv_bipush (pc := 8) (v := 6) hx hb dX11_repeats_8 (by decide) ?_
    refine sx_V (pc := 10) (As := [.int 6]) (rest := []) B hH hl.1 (C_X11_refuse G l th 6 _ _ hp) mi_X11_refuse coX11 hk_th w_570 w_3 w_568 rfl rfl ⟨Nat.le_of_ble_eq_true rfl, Nat.le_of_ble_eq_true rfl⟩ (Nat.le_of_ble_eq_true rfl) ⟨(show _ + 0 ≤ bc by omega), (show _ + 0 ≤ bs by omega)⟩ dX11_repeats_10 (fun v S1 H locs hq hH => ?_)
    obtain ⟨r_9, F_9, rfl, e9, hp⟩ := hq
    rw [e9] at hH
    have hH : Hp G (FA S s.heap.size) s.heap (wI S F_9) H locs := hH
    refine W.eq (g2 := F0 m 13 ls [.int r_9]) rfl ?_
    exact sx_iret (pc := 13) B hH hr hlk (by rw [← hQQ]; exact ⟨_, rfl, hp⟩) (show _ ≤ bc by omega) (show _ ≤ bs by omega) dX11_repeats_13
theorem dX11_place_0 : decode cX11_place 0 = .ok (.aload_n 0, 1) := by decide +kernel
theorem dX11_place_1 : decode cX11_place 1 = .ok (.iload_n 1, 1) := by decide +kernel
theorem dX11_place_2 : decode cX11_place 2 = .ok (.invokevirtual 204, 3) := by decide +kernel
theorem dX11_place_5 : decode cX11_place 5 = .ok (.ifCond .eq 11, 3) := by decide +kernel
theorem dX11_place_8 : decode cX11_place 8 = .ok (.aload_n 0, 1) := by decide +kernel
theorem dX11_place_9 : decode cX11_place 9 = .ok (.iload_n 2, 1) := by decide +kernel
theorem dX11_place_10 : decode cX11_place 10 = .ok (.invokevirtual 294, 3) := by decide +kernel
theorem dX11_place_13 : decode cX11_place 13 = .ok (.goto 4, 3) := by decide +kernel
theorem dX11_place_16 : decode cX11_place 16 = .ok (.iconst 1, 1) := by decide +kernel
theorem dX11_place_17 : decode cX11_place 17 = .ok (.istore_n 3, 1) := by decide +kernel
theorem dX11_place_18 : decode cX11_place 18 = .ok (.iload_n 3, 1) := by decide +kernel
theorem dX11_place_19 : decode cX11_place 19 = .ok (.ifCond .eq 9, 3) := by decide +kernel
theorem dX11_place_22 : decode cX11_place 22 = .ok (.aload_n 0, 1) := by decide +kernel
theorem dX11_place_23 : decode cX11_place 23 = .ok (.iload_n 3, 1) := by decide +kernel
theorem dX11_place_24 : decode cX11_place 24 = .ok (.invokevirtual 139, 3) := by decide +kernel
theorem dX11_place_27 : decode cX11_place 27 = .ok (.ireturn, 1) := by decide +kernel
theorem dX11_place_28 : decode cX11_place 28 = .ok (.aload_n 0, 1) := by decide +kernel
theorem dX11_place_29 : decode cX11_place 29 = .ok (.aload_n 0, 1) := by decide +kernel
theorem dX11_place_30 : decode cX11_place 30 = .ok (.getfield 70, 3) := by decide +kernel
theorem dX11_place_33 : decode cX11_place 33 = .ok (.iload_n 1, 1) := by decide +kernel
theorem dX11_place_34 : decode cX11_place 34 = .ok (.iconst 1, 1) := by decide +kernel
theorem dX11_place_35 : decode cX11_place 35 = .ok (.isub, 1) := by decide +kernel
theorem dX11_place_36 : decode cX11_place 36 = .ok (.iload_n 2, 1) := by decide +kernel
theorem dX11_place_37 : decode cX11_place 37 = .ok (.invokevirtual 312, 3) := by decide +kernel
theorem dX11_place_40 : decode cX11_place 40 = .ok (.iconst 1, 1) := by decide +kernel
theorem dX11_place_41 : decode cX11_place 41 = .ok (.iadd, 1) := by decide +kernel
theorem dX11_place_42 : decode cX11_place 42 = .ok (.invokevirtual 170, 3) := by decide +kernel
theorem dX11_place_45 : decode cX11_place 45 = .ok (.ireturn, 1) := by decide +kernel
theorem mi_X11_place : MI yX11_place cX11_place 4 (some FieldType.int) 2 := ⟨w_1106, w_105, by decide +kernel, by decide +kernel, by decide +kernel⟩
set_option maxRecDepth 100000 in
set_option maxHeartbeats 4000000 in
theorem C_X11_place (G : GG) (l : Launch) (th : Nat) (p0 : Int32) (p1 : Int32) (S : St) (Q : Int32 → (Nat → Nat → Int32) → Prop) (hp : P_X11_place th p0 p1 S Q) : Ctr G l yX11_place cX11_place 4 (some FieldType.int) 2 44 0 0 [.ref th, .int p0, .int p1] S (fun (v : Option Value) (S9 : St) => ∃ (r : Int32) (I9 : Nat → Nat → Int32), v = some (.int r) ∧ S9 = wI S I9 ∧ Q r I9) := by
  generalize hQQ : (fun (v : Option Value) (S9 : St) => ∃ (r : Int32) (I9 : Nat → Nat → Int32), v = some (.int r) ∧ S9 = wI S I9 ∧ Q r I9) = QQ
  unfold P_X11_place at hp
  refine Ctr.of (by decide) (Nat.le_of_ble_eq_true rfl) ?_
  intro p e s m args below meth c ls B hr hlk hin hl hH
  generalize hlocs0 : ([] : List Loc) = locs at hH ⊢
  have hx := B.1
  have hb := B.2.1
  have hl : lv_has ls 4 [(0, .ref th), (1, .int p0), (2, .int p1)] := hl
  obtain ⟨hk_th, hp⟩ := hp
  refine lv_aload_n (pc := 0) hx hb dX11_place_0 rfl (lv_at hl 0 rfl) ?_
  refine lv_iload_n (pc := 1) hx hb dX11_place_1 rfl (lv_at hl 1 rfl) ?_
  refine sx_V (pc := 2) (As := [.int p0]) (rest := []) B hH hl.1 (C_X11_isBell G l th p0 _ _ hp) mi_X11_isBell coX11 hk_th w_859 w_27 w_857 rfl rfl ⟨Nat.le_of_ble_eq_true rfl, Nat.le_of_ble_eq_true rfl⟩ (Nat.le_of_ble_eq_true rfl) ⟨Nat.le_of_ble_eq_true rfl, Nat.le_of_ble_eq_true rfl⟩ dX11_place_2 (fun v S1 H locs hq hH => ?_)
  obtain ⟨r_1, rfl, e9, hp⟩ := hq
  rw [e9] at hH
  refine W.eq (g2 := F0 m 5 ls [.int r_1]) rfl ?_
  obtain ⟨J_3, hj_3, hp⟩ := hp
  have kj_3 : ∀ (t_4 : Int32) (H : Heap) (locs : List Loc) (ls : Array Slot), J_3 t_4 → Hp G (FA S s.heap.size) s.heap S H locs → lv_has ls 4 [(0, .ref th), (1, .int p0), (2, .int p1)] → Wm G p l e { frames := 2, cells := 0, slots := 0, locals := 44 } s m args below meth c S QQ 0 0 H locs 0 0 (F0 m 17 ls [.int t_4]) := by
    intro t_4 H locs ls hq9 hH hl
    have hp := hj_3 t_4 hq9
    refine lv_istore_n (pc := 17) (lv' := [(3, .int t_4), (0, .ref th), (1, .int p0), (2, .int p1)]) hx hb dX11_place_17 rfl hl (by decide) rfl (fun ls hl => ?_)
    refine lv_iload_n (pc := 18) hx hb dX11_place_18 rfl (lv_at hl 0 rfl) ?_
    refine lv_if_eq (pc := 19) (tgt := 28) hx hb dX11_place_19 (by decide) (fun cc_5 => ?_) (fun cc_5 => ?_)
    · have hp := hp.1 cc_5
      refine lv_aload_n (pc := 28) hx hb dX11_place_28 rfl (lv_at hl 1 rfl) ?_
      refine lv_aload_n (pc := 29) hx hb dX11_place_29 rfl (lv_at hl 1 rfl) ?_
      refine sx_getR (pc := 30) (j := 9) B hH hk_th coX11 rfl w_465 rfl dX11_place_30 ?_
      refine W.eq (g2 := F0 m 33 ls [va_rf (gR S th 9), .ref th]) rfl ?_
      obtain ⟨a_6, ha_6, hp⟩ := hp
      refine sx_nonnull (x := a_6) ha_6 ?_
      refine lv_iload_n (pc := 33) hx hb dX11_place_33 rfl (lv_at hl 2 rfl) ?_
      refine lv_iconst (pc := 34) (v := 1) hx hb dX11_place_34 (by decide) ?_
      refine lv_isub (pc := 35) hx hb dX11_place_35 ?_
      refine lv_iload_n (pc := 36) hx hb dX11_place_36 rfl (lv_at hl 3 rfl) ?_
      obtain ⟨hk_7, hp⟩ := hp
      refine sx_V (pc := 37) (As := [.int (p0 - 1), .int p1]) (rest := [.ref th]) B hH hl.1 (C_X8_spot G l a_6 (p0 - 1) p1 _ _ hp) mi_X8_spot coX8 hk_7 w_1108 w_1109 w_1107 rfl rfl ⟨Nat.le_of_ble_eq_true rfl, Nat.le_of_ble_eq_true rfl⟩ (Nat.le_of_ble_eq_true rfl) ⟨Nat.le_of_ble_eq_true rfl, Nat.le_of_ble_eq_true rfl⟩ dX11_place_37 (fun v S1 H locs hq hH => ?_)
      obtain ⟨r_8, rfl, e9, hp⟩ := hq
      rw [e9] at hH
      refine W.eq (g2 := F0 m 40 ls [.int r_8, .ref th]) rfl ?_
      refine lv_iconst (pc := 40) (v := 1) hx hb dX11_place_40 (by decide) ?_
      refine lv_iadd (pc := 41) hx hb dX11_place_41 ?_
      refine sx_V (pc := 42) (As := [.int (r_8 + 1)]) (rest := []) B hH hl.1 (C_X11_answer G l th (r_8 + 1) _ _ hp) mi_X11_answer coX11 hk_th w_740 w_16 w_738 rfl rfl ⟨Nat.le_of_ble_eq_true rfl, Nat.le_of_ble_eq_true rfl⟩ (Nat.le_of_ble_eq_true rfl) ⟨Nat.le_of_ble_eq_true rfl, Nat.le_of_ble_eq_true rfl⟩ dX11_place_42 (fun v S1 H locs hq hH => ?_)
      obtain ⟨r_9, F_9, rfl, e9, hp⟩ := hq
      rw [e9] at hH
      have hH : Hp G (FA S s.heap.size) s.heap (wI S F_9) H locs := hH
      refine W.eq (g2 := F0 m 45 ls [.int r_9]) rfl ?_
      exact sx_iret (pc := 45) B hH hr hlk (by rw [← hQQ]; exact ⟨_, F_9, rfl, rfl, hp⟩) (Nat.le_of_ble_eq_true rfl) (Nat.le_of_ble_eq_true rfl) dX11_place_45
    · have hp := hp.2 cc_5
      refine lv_aload_n (pc := 22) hx hb dX11_place_22 rfl (lv_at hl 1 rfl) ?_
      refine lv_iload_n (pc := 23) hx hb dX11_place_23 rfl (lv_at hl 0 rfl) ?_
      refine sx_V (pc := 24) (As := [.int t_4]) (rest := []) B hH hl.1 (C_X11_refuse G l th t_4 _ _ hp) mi_X11_refuse coX11 hk_th w_570 w_3 w_568 rfl rfl ⟨Nat.le_of_ble_eq_true rfl, Nat.le_of_ble_eq_true rfl⟩ (Nat.le_of_ble_eq_true rfl) ⟨Nat.le_of_ble_eq_true rfl, Nat.le_of_ble_eq_true rfl⟩ dX11_place_24 (fun v S1 H locs hq hH => ?_)
      obtain ⟨r_10, F_10, rfl, e9, hp⟩ := hq
      rw [e9] at hH
      have hH : Hp G (FA S s.heap.size) s.heap (wI S F_10) H locs := hH
      refine W.eq (g2 := F0 m 27 ls [.int r_10]) rfl ?_
      exact sx_iret (pc := 27) B hH hr hlk (by rw [← hQQ]; exact ⟨_, F_10, rfl, rfl, hp⟩) (Nat.le_of_ble_eq_true rfl) (Nat.le_of_ble_eq_true rfl) dX11_place_27
  refine lv_if_eq (pc := 5) (tgt := 16) hx hb dX11_place_5 (by decide) (fun cc_2 => ?_) (fun cc_2 => ?_)
  · have hp := hp.1 cc_2
    refine lv_iconst (pc := 16) (v := 1) hx hb dX11_place_16 (by decide) ?_
    exact kj_3 _ _ _ _ hp hH (lv_sub hl [0, 1, 2] rfl)
  · have hp := hp.2 cc_2
    refine lv_aload_n (pc := 8) hx hb dX11_place_8 rfl (lv_at hl 0 rfl) ?_
    refine lv_iload_n (pc := 9) hx hb dX11_place_9 rfl (lv_at hl 2 rfl) ?_
    refine sx_V (pc := 10) (As := [.int p1]) (rest := []) B hH hl.1 (C_X11_whyNotRung G l th p1 _ _ hp) mi_X11_whyNotRung coX11 hk_th w_1056 w_32 w_1054 rfl rfl ⟨Nat.le_of_ble_eq_true rfl, Nat.le_of_ble_eq_true rfl⟩ (Nat.le_of_ble_eq_true rfl) ⟨Nat.le_of_ble_eq_true rfl, Nat.le_of_ble_eq_true rfl⟩ dX11_place_10 (fun v S1 H locs hq hH => ?_)
    obtain ⟨r_11, rfl, e9, hp⟩ := hq
    rw [e9] at hH
    refine W.eq (g2 := F0 m 13 ls [.int r_11]) rfl ?_
    refine lv_goto (pc := 13) (tgt := 17) hx hb dX11_place_13 (by decide) ?_
    exact kj_3 _ _ _ _ hp hH (lv_sub hl [0, 1, 2] rfl)
theorem dX11_blows_0 : decode cX11_blows 0 = .ok (.aload_n 0, 1) := by decide +kernel
theorem dX11_blows_1 : decode cX11_blows 1 = .ok (.iload_n 1, 1) := by decide +kernel
theorem dX11_blows_2 : decode cX11_blows 2 = .ok (.invokevirtual 204, 3) := by decide +kernel
theorem dX11_blows_5 : decode cX11_blows 5 = .ok (.ifCond .eq 11, 3) := by decide +kernel
theorem dX11_blows_8 : decode cX11_blows 8 = .ok (.aload_n 0, 1) := by decide +kernel
theorem dX11_blows_9 : decode cX11_blows 9 = .ok (.iload_n 2, 1) := by decide +kernel
theorem dX11_blows_10 : decode cX11_blows 10 = .ok (.invokevirtual 204, 3) := by decide +kernel
theorem dX11_blows_13 : decode cX11_blows 13 = .ok (.ifCond .ne 9, 3) := by decide +kernel
theorem dX11_blows_16 : decode cX11_blows 16 = .ok (.aload_n 0, 1) := by decide +kernel
theorem dX11_blows_17 : decode cX11_blows 17 = .ok (.iconst 1, 1) := by decide +kernel
theorem dX11_blows_18 : decode cX11_blows 18 = .ok (.invokevirtual 139, 3) := by decide +kernel
theorem dX11_blows_21 : decode cX11_blows 21 = .ok (.ireturn, 1) := by decide +kernel
theorem dX11_blows_22 : decode cX11_blows 22 = .ok (.aload_n 0, 1) := by decide +kernel
theorem dX11_blows_23 : decode cX11_blows 23 = .ok (.getfield 70, 3) := by decide +kernel
theorem dX11_blows_26 : decode cX11_blows 26 = .ok (.ifnonnull 10, 3) := by decide +kernel
theorem dX11_blows_29 : decode cX11_blows 29 = .ok (.aload_n 0, 1) := by decide +kernel
theorem dX11_blows_30 : decode cX11_blows 30 = .ok (.bipush 6, 2) := by decide +kernel
theorem dX11_blows_32 : decode cX11_blows 32 = .ok (.invokevirtual 139, 3) := by decide +kernel
theorem dX11_blows_35 : decode cX11_blows 35 = .ok (.ireturn, 1) := by decide +kernel
theorem dX11_blows_36 : decode cX11_blows 36 = .ok (.iconst 4, 1) := by decide +kernel
theorem dX11_blows_37 : decode cX11_blows 37 = .ok (.iload_n 2, 1) := by decide +kernel
theorem dX11_blows_38 : decode cX11_blows 38 = .ok (.iconst 1, 1) := by decide +kernel
theorem dX11_blows_39 : decode cX11_blows 39 = .ok (.isub, 1) := by decide +kernel
theorem dX11_blows_40 : decode cX11_blows 40 = .ok (.imul, 1) := by decide +kernel
theorem dX11_blows_41 : decode cX11_blows 41 = .ok (.istore_n 3, 1) := by decide +kernel
theorem dX11_blows_42 : decode cX11_blows 42 = .ok (.aload_n 0, 1) := by decide +kernel
theorem dX11_blows_43 : decode cX11_blows 43 = .ok (.aload_n 0, 1) := by decide +kernel
theorem dX11_blows_44 : decode cX11_blows 44 = .ok (.getfield 70, 3) := by decide +kernel
theorem dX11_blows_47 : decode cX11_blows 47 = .ok (.bipush 15, 2) := by decide +kernel
theorem dX11_blows_49 : decode cX11_blows 49 = .ok (.iload_n 3, 1) := by decide +kernel
theorem dX11_blows_50 : decode cX11_blows 50 = .ok (.ishl, 1) := by decide +kernel
theorem dX11_blows_51 : decode cX11_blows 51 = .ok (.iload_n 1, 1) := by decide +kernel
theorem dX11_blows_52 : decode cX11_blows 52 = .ok (.iconst 1, 1) := by decide +kernel
theorem dX11_blows_53 : decode cX11_blows 53 = .ok (.isub, 1) := by decide +kernel
theorem dX11_blows_54 : decode cX11_blows 54 = .ok (.iload_n 3, 1) := by decide +kernel
theorem dX11_blows_55 : decode cX11_blows 55 = .ok (.ishl, 1) := by decide +kernel
theorem dX11_blows_56 : decode cX11_blows 56 = .ok (.invokevirtual 315, 3) := by decide +kernel
theorem dX11_blows_59 : decode cX11_blows 59 = .ok (.invokevirtual 170, 3) := by decide +kernel
theorem dX11_blows_62 : decode cX11_blows 62 = .ok (.ireturn, 1) := by decide +kernel
theorem mi_X11_blows : MI yX11_blows cX11_blows 4 (some FieldType.int) 2 := ⟨w_1114, w_105, by decide +kernel, by decide +kernel, by decide +kernel⟩
set_option maxRecDepth 100000 in
set_option maxHeartbeats 4000000 in
theorem C_X11_blows (G : GG) (l : Launch) (th : Nat) (p0 : Int32) (p1 : Int32) (S : St) (Q : Int32 → (Nat → Nat → Int32) → Prop) (hp : P_X11_blows th p0 p1 S Q) : Ctr G l yX11_blows cX11_blows 4 (some FieldType.int) 1 24 0 0 [.ref th, .int p0, .int p1] S (fun (v : Option Value) (S9 : St) => ∃ (r : Int32) (I9 : Nat → Nat → Int32), v = some (.int r) ∧ S9 = wI S I9 ∧ Q r I9) := by
  generalize hQQ : (fun (v : Option Value) (S9 : St) => ∃ (r : Int32) (I9 : Nat → Nat → Int32), v = some (.int r) ∧ S9 = wI S I9 ∧ Q r I9) = QQ
  unfold P_X11_blows at hp
  refine Ctr.of (by decide) (Nat.le_of_ble_eq_true rfl) ?_
  intro p e s m args below meth c ls B hr hlk hin hl hH
  generalize hlocs0 : ([] : List Loc) = locs at hH ⊢
  have hx := B.1
  have hb := B.2.1
  have hl : lv_has ls 4 [(0, .ref th), (1, .int p0), (2, .int p1)] := hl
  obtain ⟨hk_th, hp⟩ := hp
  refine lv_aload_n (pc := 0) hx hb dX11_blows_0 rfl (lv_at hl 0 rfl) ?_
  refine lv_iload_n (pc := 1) hx hb dX11_blows_1 rfl (lv_at hl 1 rfl) ?_
  refine sx_V (pc := 2) (As := [.int p0]) (rest := []) B hH hl.1 (C_X11_isBell G l th p0 _ _ hp) mi_X11_isBell coX11 hk_th w_859 w_27 w_857 rfl rfl ⟨Nat.le_of_ble_eq_true rfl, Nat.le_of_ble_eq_true rfl⟩ (Nat.le_of_ble_eq_true rfl) ⟨Nat.le_of_ble_eq_true rfl, Nat.le_of_ble_eq_true rfl⟩ dX11_blows_2 (fun v S1 H locs hq hH => ?_)
  obtain ⟨r_1, rfl, e9, hp⟩ := hq
  rw [e9] at hH
  refine W.eq (g2 := F0 m 5 ls [.int r_1]) rfl ?_
  obtain ⟨J_3, hj_3, hp⟩ := hp
  have kj_3 : ∀  (H : Heap) (locs : List Loc) (ls : Array Slot), J_3  → Hp G (FA S s.heap.size) s.heap S H locs → lv_has ls 4 [(0, .ref th)] → Wm G p l e { frames := 1, cells := 0, slots := 0, locals := 24 } s m args below meth c S QQ 0 0 H locs 0 0 (F0 m 16 ls []) := by
    intro  H locs ls hq9 hH hl
    have hp := hj_3  hq9
    refine lv_aload_n (pc := 16) hx hb dX11_blows_16 rfl (lv_at hl 0 rfl) ?_
    refine lv_iconst (pc := 17) (v := 1) hx hb dX11_blows_17 (by decide) ?_
    refine sx_V (pc := 18) (As := [.int 1]) (rest := []) B hH hl.1 (C_X11_refuse G l th 1 _ _ hp) mi_X11_refuse coX11 hk_th w_570 w_3 w_568 rfl rfl ⟨Nat.le_of_ble_eq_true rfl, Nat.le_of_ble_eq_true rfl⟩ (Nat.le_of_ble_eq_true rfl) ⟨Nat.le_of_ble_eq_true rfl, Nat.le_of_ble_eq_true rfl⟩ dX11_blows_18 (fun v S1 H locs hq hH => ?_)
    obtain ⟨r_4, F_4, rfl, e9, hp⟩ := hq
    rw [e9] at hH
    have hH : Hp G (FA S s.heap.size) s.heap (wI S F_4) H locs := hH
    refine W.eq (g2 := F0 m 21 ls [.int r_4]) rfl ?_
    exact sx_iret (pc := 21) B hH hr hlk (by rw [← hQQ]; exact ⟨_, F_4, rfl, rfl, hp⟩) (Nat.le_of_ble_eq_true rfl) (Nat.le_of_ble_eq_true rfl) dX11_blows_21
  refine lv_if_eq (pc := 5) (tgt := 16) hx hb dX11_blows_5 (by decide) (fun cc_2 => ?_) (fun cc_2 => ?_)
  · have hp := hp.1 cc_2
    exact kj_3  _ _ _ hp hH (lv_sub hl [0] rfl)
  · have hp := hp.2 cc_2
    refine lv_aload_n (pc := 8) hx hb dX11_blows_8 rfl (lv_at hl 0 rfl) ?_
    refine lv_iload_n (pc := 9) hx hb dX11_blows_9 rfl (lv_at hl 2 rfl) ?_
    refine sx_V (pc := 10) (As := [.int p1]) (rest := []) B hH hl.1 (C_X11_isBell G l th p1 _ _ hp) mi_X11_isBell coX11 hk_th w_859 w_27 w_857 rfl rfl ⟨Nat.le_of_ble_eq_true rfl, Nat.le_of_ble_eq_true rfl⟩ (Nat.le_of_ble_eq_true rfl) ⟨Nat.le_of_ble_eq_true rfl, Nat.le_of_ble_eq_true rfl⟩ dX11_blows_10 (fun v S1 H locs hq hH => ?_)
    obtain ⟨r_5, rfl, e9, hp⟩ := hq
    rw [e9] at hH
    refine W.eq (g2 := F0 m 13 ls [.int r_5]) rfl ?_
    refine lv_if_ne (pc := 13) (tgt := 22) hx hb dX11_blows_13 (by decide) (fun cc_6 => ?_) (fun cc_6 => ?_)
    · have hp := hp.1 cc_6
      refine lv_aload_n (pc := 22) hx hb dX11_blows_22 rfl (lv_at hl 0 rfl) ?_
      refine sx_getR (pc := 23) (j := 9) B hH hk_th coX11 rfl w_465 rfl dX11_blows_23 ?_
      refine W.eq (g2 := F0 m 26 ls [va_rf (gR S th 9)]) rfl ?_
      refine sx_ifnonnull (pc := 26) (r := gR S th 9) (tgt := 36) B dX11_blows_26 (by decide) (fun cc_7 => ?_) (fun cc_7 => ?_)
      · have hp := hp.1 cc_7
        refine lv_iconst (pc := 36) (v := 4) hx hb dX11_blows_36 (by decide) ?_
        refine lv_iload_n (pc := 37) hx hb dX11_blows_37 rfl (lv_at hl 2 rfl) ?_
        refine lv_iconst (pc := 38) (v := 1) hx hb dX11_blows_38 (by decide) ?_
        refine lv_isub (pc := 39) hx hb dX11_blows_39 ?_
        refine lv_imul (pc := 40) hx hb dX11_blows_40 ?_
        refine lv_topi (fun v_8 ev_8 => ?_)
        have hp := hp v_8 ev_8
        refine lv_istore_n (pc := 41) (lv' := [(3, .int v_8), (0, .ref th), (1, .int p0), (2, .int p1)]) hx hb dX11_blows_41 rfl hl (by decide) rfl (fun ls hl => ?_)
        refine lv_aload_n (pc := 42) hx hb dX11_blows_42 rfl (lv_at hl 1 rfl) ?_
        refine lv_aload_n (pc := 43) hx hb dX11_blows_43 rfl (lv_at hl 1 rfl) ?_
        refine sx_getR (pc := 44) (j := 9) B hH hk_th coX11 rfl w_465 rfl dX11_blows_44 ?_
        refine W.eq (g2 := F0 m 47 ls [va_rf (gR S th 9), .ref th]) rfl ?_
        obtain ⟨a_9, ha_9, hp⟩ := hp
        refine sx_nonnull (x := a_9) ha_9 ?_
        refine lv_bipush (pc := 47) (v := 15) hx hb dX11_blows_47 (by decide) ?_
        refine lv_iload_n (pc := 49) hx hb dX11_blows_49 rfl (lv_at hl 0 rfl) ?_
        refine lv_ishl (pc := 50) hx hb dX11_blows_50 ?_
        refine W.eq (g2 := F0 m 51 ls [.int (shl 15 v_8), .ref a_9, .ref th]) rfl ?_
        refine lv_iload_n (pc := 51) hx hb dX11_blows_51 rfl (lv_at hl 2 rfl) ?_
        refine lv_iconst (pc := 52) (v := 1) hx hb dX11_blows_52 (by decide) ?_
        refine lv_isub (pc := 53) hx hb dX11_blows_53 ?_
        refine lv_iload_n (pc := 54) hx hb dX11_blows_54 rfl (lv_at hl 0 rfl) ?_
        refine lv_ishl (pc := 55) hx hb dX11_blows_55 ?_
        refine W.eq (g2 := F0 m 56 ls [.int (shl (p0 - 1) v_8), .int (shl 15 v_8), .ref a_9, .ref th]) rfl ?_
        obtain ⟨hk_10, hp⟩ := hp
        refine sx_V (pc := 56) (As := [.int (shl 15 v_8), .int (shl (p0 - 1) v_8)]) (rest := [.ref th]) B hH hl.1 (C_X8_fitting G l a_9 (shl 15 v_8) (shl (p0 - 1) v_8) _ _ hp) mi_X8_fitting coX8 hk_10 w_1116 w_1117 w_1115 rfl rfl ⟨Nat.le_of_ble_eq_true rfl, Nat.le_of_ble_eq_true rfl⟩ (Nat.le_of_ble_eq_true rfl) ⟨Nat.le_of_ble_eq_true rfl, Nat.le_of_ble_eq_true rfl⟩ dX11_blows_56 (fun v S1 H locs hq hH => ?_)
        obtain ⟨r_11, rfl, e9, hp⟩ := hq
        rw [e9] at hH
        refine W.eq (g2 := F0 m 59 ls [.int r_11, .ref th]) rfl ?_
        refine sx_V (pc := 59) (As := [.int r_11]) (rest := []) B hH hl.1 (C_X11_answer G l th r_11 _ _ hp) mi_X11_answer coX11 hk_th w_740 w_16 w_738 rfl rfl ⟨Nat.le_of_ble_eq_true rfl, Nat.le_of_ble_eq_true rfl⟩ (Nat.le_of_ble_eq_true rfl) ⟨Nat.le_of_ble_eq_true rfl, Nat.le_of_ble_eq_true rfl⟩ dX11_blows_59 (fun v S1 H locs hq hH => ?_)
        obtain ⟨r_12, F_12, rfl, e9, hp⟩ := hq
        rw [e9] at hH
        have hH : Hp G (FA S s.heap.size) s.heap (wI S F_12) H locs := hH
        refine W.eq (g2 := F0 m 62 ls [.int r_12]) rfl ?_
        exact sx_iret (pc := 62) B hH hr hlk (by rw [← hQQ]; exact ⟨_, F_12, rfl, rfl, hp⟩) (Nat.le_of_ble_eq_true rfl) (Nat.le_of_ble_eq_true rfl) dX11_blows_62
      · have hp := hp.2 cc_7
        refine lv_aload_n (pc := 29) hx hb dX11_blows_29 rfl (lv_at hl 0 rfl) ?_
        refine lv_bipush (pc := 30) (v := 6) hx hb dX11_blows_30 (by decide) ?_
        refine sx_V (pc := 32) (As := [.int 6]) (rest := []) B hH hl.1 (C_X11_refuse G l th 6 _ _ hp) mi_X11_refuse coX11 hk_th w_570 w_3 w_568 rfl rfl ⟨Nat.le_of_ble_eq_true rfl, Nat.le_of_ble_eq_true rfl⟩ (Nat.le_of_ble_eq_true rfl) ⟨Nat.le_of_ble_eq_true rfl, Nat.le_of_ble_eq_true rfl⟩ dX11_blows_32 (fun v S1 H locs hq hH => ?_)
        obtain ⟨r_13, F_13, rfl, e9, hp⟩ := hq
        rw [e9] at hH
        have hH : Hp G (FA S s.heap.size) s.heap (wI S F_13) H locs := hH
        refine W.eq (g2 := F0 m 35 ls [.int r_13]) rfl ?_
        exact sx_iret (pc := 35) B hH hr hlk (by rw [← hQQ]; exact ⟨_, F_13, rfl, rfl, hp⟩) (Nat.le_of_ble_eq_true rfl) (Nat.le_of_ble_eq_true rfl) dX11_blows_35
    · have hp := hp.2 cc_6
      exact kj_3  _ _ _ hp hH (lv_sub hl [0] rfl)
theorem dX11_music_0 : decode cX11_music 0 = .ok (.aload_n 0, 1) := by decide +kernel
theorem dX11_music_1 : decode cX11_music 1 = .ok (.iload_n 1, 1) := by decide +kernel
theorem dX11_music_2 : decode cX11_music 2 = .ok (.iconst 0, 1) := by decide +kernel
theorem dX11_music_3 : decode cX11_music 3 = .ok (.invokevirtual 213, 3) := by decide +kernel
theorem dX11_music_6 : decode cX11_music 6 = .ok (.istore_n 2, 1) := by decide +kernel
theorem dX11_music_7 : decode cX11_music 7 = .ok (.iload_n 2, 1) := by decide +kernel
theorem dX11_music_8 : decode cX11_music 8 = .ok (.ifCond .ne 13, 3) := by decide +kernel
theorem dX11_music_11 : decode cX11_music 11 = .ok (.aload_n 0, 1) := by decide +kernel
theorem dX11_music_12 : decode cX11_music 12 = .ok (.getfield 70, 3) := by decide +kernel
theorem dX11_music_15 : decode cX11_music 15 = .ok (.ifnonnull 6, 3) := by decide +kernel
theorem dX11_music_18 : decode cX11_music 18 = .ok (.bipush 6, 2) := by decide +kernel
theorem dX11_music_20 : decode cX11_music 20 = .ok (.istore_n 2, 1) := by decide +kernel
theorem dX11_music_21 : decode cX11_music 21 = .ok (.iload_n 2, 1) := by decide +kernel
theorem dX11_music_22 : decode cX11_music 22 = .ok (.ifCond .eq 9, 3) := by decide +kernel
theorem dX11_music_25 : decode cX11_music 25 = .ok (.aload_n 0, 1) := by decide +kernel
theorem dX11_music_26 : decode cX11_music 26 = .ok (.iload_n 2, 1) := by decide +kernel
theorem dX11_music_27 : decode cX11_music 27 = .ok (.invokevirtual 139, 3) := by decide +kernel
theorem dX11_music_30 : decode cX11_music 30 = .ok (.ireturn, 1) := by decide +kernel
theorem dX11_music_31 : decode cX11_music 31 = .ok (.iconst 0, 1) := by decide +kernel
theorem dX11_music_32 : decode cX11_music 32 = .ok (.istore_n 3, 1) := by decide +kernel
theorem dX11_music_33 : decode cX11_music 33 = .ok (.iconst 0, 1) := by decide +kernel
theorem dX11_music_34 : decode cX11_music 34 = .ok (.istore 4, 2) := by decide +kernel
theorem dX11_music_36 : decode cX11_music 36 = .ok (.iconst 0, 1) := by decide +kernel
theorem dX11_music_37 : decode cX11_music 37 = .ok (.istore 5, 2) := by decide +kernel
theorem dX11_music_39 : decode cX11_music 39 = .ok (.iload 5, 2) := by decide +kernel
theorem dX11_music_41 : decode cX11_music 41 = .ok (.aload_n 0, 1) := by decide +kernel
theorem dX11_music_42 : decode cX11_music 42 = .ok (.getfield 62, 3) := by decide +kernel
theorem dX11_music_45 : decode cX11_music 45 = .ok (.getfield 188, 3) := by decide +kernel
theorem dX11_music_48 : decode cX11_music 48 = .ok (.if_icmp .ge 53, 3) := by decide +kernel
theorem dX11_music_51 : decode cX11_music 51 = .ok (.aload_n 0, 1) := by decide +kernel
theorem dX11_music_52 : decode cX11_music 52 = .ok (.getfield 22, 3) := by decide +kernel
theorem dX11_music_55 : decode cX11_music 55 = .ok (.iload_n 1, 1) := by decide +kernel
theorem dX11_music_56 : decode cX11_music 56 = .ok (.aaload, 1) := by decide +kernel
theorem dX11_music_57 : decode cX11_music 57 = .ok (.getfield 128, 3) := by decide +kernel
theorem dX11_music_60 : decode cX11_music 60 = .ok (.iload 5, 2) := by decide +kernel
theorem dX11_music_62 : decode cX11_music 62 = .ok (.laload, 1) := by decide +kernel
theorem dX11_music_63 : decode cX11_music 63 = .ok (.l2i, 1) := by decide +kernel
theorem dX11_music_64 : decode cX11_music 64 = .ok (.istore 6, 2) := by decide +kernel
theorem dX11_music_66 : decode cX11_music 66 = .ok (.iload 6, 2) := by decide +kernel
theorem dX11_music_68 : decode cX11_music 68 = .ok (.ifCond .le 27, 3) := by decide +kernel
theorem dX11_music_71 : decode cX11_music 71 = .ok (.iload_n 3, 1) := by decide +kernel
theorem dX11_music_72 : decode cX11_music 72 = .ok (.bipush 15, 2) := by decide +kernel
theorem dX11_music_74 : decode cX11_music 74 = .ok (.iconst 4, 1) := by decide +kernel
theorem dX11_music_75 : decode cX11_music 75 = .ok (.iload 5, 2) := by decide +kernel
theorem dX11_music_77 : decode cX11_music 77 = .ok (.imul, 1) := by decide +kernel
theorem dX11_music_78 : decode cX11_music 78 = .ok (.ishl, 1) := by decide +kernel
theorem dX11_music_79 : decode cX11_music 79 = .ok (.ior, 1) := by decide +kernel
theorem dX11_music_80 : decode cX11_music 80 = .ok (.istore_n 3, 1) := by decide +kernel
theorem dX11_music_81 : decode cX11_music 81 = .ok (.iload 4, 2) := by decide +kernel
theorem dX11_music_83 : decode cX11_music 83 = .ok (.iload 6, 2) := by decide +kernel
theorem dX11_music_85 : decode cX11_music 85 = .ok (.iconst 1, 1) := by decide +kernel
theorem dX11_music_86 : decode cX11_music 86 = .ok (.isub, 1) := by decide +kernel
theorem dX11_music_87 : decode cX11_music 87 = .ok (.iconst 4, 1) := by decide +kernel
theorem dX11_music_88 : decode cX11_music 88 = .ok (.iload 5, 2) := by decide +kernel
theorem dX11_music_90 : decode cX11_music 90 = .ok (.imul, 1) := by decide +kernel
theorem dX11_music_91 : decode cX11_music 91 = .ok (.ishl, 1) := by decide +kernel
theorem dX11_music_92 : decode cX11_music 92 = .ok (.ior, 1) := by decide +kernel
theorem dX11_music_93 : decode cX11_music 93 = .ok (.istore 4, 2) := by decide +kernel
theorem dX11_music_95 : decode cX11_music 95 = .ok (.iinc 5 1, 3) := by decide +kernel
theorem dX11_music_98 : decode cX11_music 98 = .ok (.goto (-59), 3) := by decide +kernel
theorem dX11_music_101 : decode cX11_music 101 = .ok (.aload_n 0, 1) := by decide +kernel
theorem dX11_music_102 : decode cX11_music 102 = .ok (.aload_n 0, 1) := by decide +kernel
theorem dX11_music_103 : decode cX11_music 103 = .ok (.getfield 70, 3) := by decide +kernel
theorem dX11_music_106 : decode cX11_music 106 = .ok (.iload_n 3, 1) := by decide +kernel
theorem dX11_music_107 : decode cX11_music 107 = .ok (.iload 4, 2) := by decide +kernel
theorem dX11_music_109 : decode cX11_music 109 = .ok (.invokevirtual 315, 3) := by decide +kernel
theorem dX11_music_112 : decode cX11_music 112 = .ok (.invokevirtual 170, 3) := by decide +kernel
theorem dX11_music_115 : decode cX11_music 115 = .ok (.ireturn, 1) := by decide +kernel
theorem mi_X11_music : MI yX11_music cX11_music 7 (some FieldType.int) 1 := ⟨w_1122, w_105, by decide +kernel, by decide +kernel, by decide +kernel⟩
set_option maxRecDepth 100000 in
set_option maxHeartbeats 4000000 in
theorem C_X11_music (G : GG) (l : Launch) (th : Nat) (p0 : Int32) (S : St) (Q : Int32 → (Nat → Nat → Int32) → Prop) (hp : P_X11_music th p0 S Q) : Ctr G l yX11_music cX11_music 7 (some FieldType.int) 2 47 0 0 [.ref th, .int p0] S (fun (v : Option Value) (S9 : St) => ∃ (r : Int32) (I9 : Nat → Nat → Int32), v = some (.int r) ∧ S9 = wI S I9 ∧ Q r I9) := by
  generalize hQQ : (fun (v : Option Value) (S9 : St) => ∃ (r : Int32) (I9 : Nat → Nat → Int32), v = some (.int r) ∧ S9 = wI S I9 ∧ Q r I9) = QQ
  unfold P_X11_music at hp
  refine Ctr.of (by decide) (Nat.le_of_ble_eq_true rfl) ?_
  intro p e s m args below meth c ls B hr hlk hin hl hH
  generalize hlocs0 : ([] : List Loc) = locs at hH ⊢
  have hx := B.1
  have hb := B.2.1
  have hl : lv_has ls 7 [(0, .ref th), (1, .int p0)] := hl
  obtain ⟨hk_th, hp⟩ := hp
  refine lv_aload_n (pc := 0) hx hb dX11_music_0 rfl (lv_at hl 0 rfl) ?_
  refine lv_iload_n (pc := 1) hx hb dX11_music_1 rfl (lv_at hl 1 rfl) ?_
  refine lv_iconst (pc := 2) (v := 0) hx hb dX11_music_2 (by decide) ?_
  refine sx_V (pc := 3) (As := [.int p0, .int 0]) (rest := []) B hH hl.1 (C_X11_whyNoBells G l th p0 0 _ _ hp) mi_X11_whyNoBells coX11 hk_th w_881 w_29 w_879 rfl rfl ⟨Nat.le_of_ble_eq_true rfl, Nat.le_of_ble_eq_true rfl⟩ (Nat.le_of_ble_eq_true rfl) ⟨Nat.le_of_ble_eq_true rfl, Nat.le_of_ble_eq_true rfl⟩ dX11_music_3 (fun v S1 H locs hq hH => ?_)
  obtain ⟨r_1, rfl, e9, hp⟩ := hq
  rw [e9] at hH
  refine W.eq (g2 := F0 m 6 ls [.int r_1]) rfl ?_
  refine lv_istore_n (pc := 6) (lv' := [(2, .int r_1), (0, .ref th), (1, .int p0)]) hx hb dX11_music_6 rfl hl (by decide) rfl (fun ls hl => ?_)
  refine lv_iload_n (pc := 7) hx hb dX11_music_7 rfl (lv_at hl 0 rfl) ?_
  obtain ⟨J_3, hj_3, hp⟩ := hp
  have kj_3 : ∀ (x2_4 : Int32) (H : Heap) (locs : List Loc) (ls : Array Slot), J_3 x2_4 → Hp G (FA S s.heap.size) s.heap S H locs → lv_has ls 7 [(0, .ref th), (1, .int p0), (2, .int x2_4)] → Wm G p l e { frames := 2, cells := 0, slots := 0, locals := 47 } s m args below meth c S QQ 0 0 H locs 0 0 (F0 m 21 ls []) := by
    intro x2_4 H locs ls hq9 hH hl
    have hp := hj_3 x2_4 hq9
    refine lv_iload_n (pc := 21) hx hb dX11_music_21 rfl (lv_at hl 2 rfl) ?_
    refine lv_if_eq (pc := 22) (tgt := 31) hx hb dX11_music_22 (by decide) (fun cc_5 => ?_) (fun cc_5 => ?_)
    · have hp := hp.1 cc_5
      refine lv_iconst (pc := 31) (v := 0) hx hb dX11_music_31 (by decide) ?_
      refine lv_istore_n (pc := 32) (lv' := [(3, .int 0), (0, .ref th), (1, .int p0), (2, .int x2_4)]) hx hb dX11_music_32 rfl hl (by decide) rfl (fun ls hl => ?_)
      refine lv_iconst (pc := 33) (v := 0) hx hb dX11_music_33 (by decide) ?_
      refine lv_istore (pc := 34) (lv' := [(4, .int 0), (3, .int 0), (0, .ref th), (1, .int p0), (2, .int x2_4)]) hx hb dX11_music_34 hl (by decide) rfl (fun ls hl => ?_)
      refine lv_iconst (pc := 36) (v := 0) hx hb dX11_music_36 (by decide) ?_
      refine lv_istore (pc := 37) (lv' := [(5, .int 0), (4, .int 0), (3, .int 0), (0, .ref th), (1, .int p0), (2, .int x2_4)]) hx hb dX11_music_37 hl (by decide) rfl (fun ls hl => ?_)
      obtain ⟨I_6, ⟨k0_6, h0_6⟩, hst_6⟩ := hp
      have kl_6 : ∀ (n_6 : Nat) (x3_7 : Int32) (x4_8 : Int32) (x5_9 : Int32) (H : Heap) (locs : List Loc) (ls : Array Slot), I_6 n_6 x3_7 x4_8 x5_9 → Hp G (FA S s.heap.size) s.heap S H locs → lv_has ls 7 [(0, .ref th), (1, .int p0), (3, .int x3_7), (4, .int x4_8), (5, .int x5_9)] → Wm G p l e { frames := 2, cells := 0, slots := 0, locals := 47 } s m args below meth c S QQ 0 0 H locs 0 0 (F0 m 39 ls []) := by
        intro n_6
        induction n_6 using Nat.strongRecOn with
        | ind n_6 ih_6 =>
          intro x3_7 x4_8 x5_9 H locs ls hq9 hH hl
          have hp := hst_6 n_6 x3_7 x4_8 x5_9 hq9
          refine lv_iload (pc := 39) hx hb dX11_music_39 (lv_at hl 4 rfl) ?_
          refine lv_aload_n (pc := 41) hx hb dX11_music_41 rfl (lv_at hl 0 rfl) ?_
          refine sx_getR (pc := 42) (j := 7) B hH hk_th coX11 rfl w_463 rfl dX11_music_42 ?_
          refine W.eq (g2 := F0 m 45 ls [va_rf (gR S th 7), .int x5_9]) rfl ?_
          obtain ⟨a_10, ha_10, hp⟩ := hp
          refine sx_nonnull (x := a_10) ha_10 ?_
          obtain ⟨hk_11, hp⟩ := hp
          refine sx_getI (pc := 45) (j := 0) B hH hk_11 coX0 rfl w_357 rfl dX11_music_45 ?_
          refine W.eq (g2 := F0 m 48 ls [.int (gI S a_10 0), .int x5_9]) rfl ?_
          refine lv_icmp_ge (pc := 48) (tgt := 101) hx hb dX11_music_48 (by decide) (fun cc_12 => ?_) (fun cc_12 => ?_)
          · have hp := hp.1 cc_12
            refine lv_aload_n (pc := 101) hx hb dX11_music_101 rfl (lv_at hl 0 rfl) ?_
            refine lv_aload_n (pc := 102) hx hb dX11_music_102 rfl (lv_at hl 0 rfl) ?_
            refine sx_getR (pc := 103) (j := 9) B hH hk_th coX11 rfl w_465 rfl dX11_music_103 ?_
            refine W.eq (g2 := F0 m 106 ls [va_rf (gR S th 9), .ref th]) rfl ?_
            obtain ⟨a_13, ha_13, hp⟩ := hp
            refine sx_nonnull (x := a_13) ha_13 ?_
            refine lv_iload_n (pc := 106) hx hb dX11_music_106 rfl (lv_at hl 2 rfl) ?_
            refine lv_iload (pc := 107) hx hb dX11_music_107 (lv_at hl 3 rfl) ?_
            obtain ⟨hk_14, hp⟩ := hp
            refine sx_V (pc := 109) (As := [.int x3_7, .int x4_8]) (rest := [.ref th]) B hH hl.1 (C_X8_fitting G l a_13 x3_7 x4_8 _ _ hp) mi_X8_fitting coX8 hk_14 w_1116 w_1117 w_1115 rfl rfl ⟨Nat.le_of_ble_eq_true rfl, Nat.le_of_ble_eq_true rfl⟩ (Nat.le_of_ble_eq_true rfl) ⟨Nat.le_of_ble_eq_true rfl, Nat.le_of_ble_eq_true rfl⟩ dX11_music_109 (fun v S1 H locs hq hH => ?_)
            obtain ⟨r_15, rfl, e9, hp⟩ := hq
            rw [e9] at hH
            refine W.eq (g2 := F0 m 112 ls [.int r_15, .ref th]) rfl ?_
            refine sx_V (pc := 112) (As := [.int r_15]) (rest := []) B hH hl.1 (C_X11_answer G l th r_15 _ _ hp) mi_X11_answer coX11 hk_th w_740 w_16 w_738 rfl rfl ⟨Nat.le_of_ble_eq_true rfl, Nat.le_of_ble_eq_true rfl⟩ (Nat.le_of_ble_eq_true rfl) ⟨Nat.le_of_ble_eq_true rfl, Nat.le_of_ble_eq_true rfl⟩ dX11_music_112 (fun v S1 H locs hq hH => ?_)
            obtain ⟨r_16, F_16, rfl, e9, hp⟩ := hq
            rw [e9] at hH
            have hH : Hp G (FA S s.heap.size) s.heap (wI S F_16) H locs := hH
            refine W.eq (g2 := F0 m 115 ls [.int r_16]) rfl ?_
            exact sx_iret (pc := 115) B hH hr hlk (by rw [← hQQ]; exact ⟨_, F_16, rfl, rfl, hp⟩) (Nat.le_of_ble_eq_true rfl) (Nat.le_of_ble_eq_true rfl) dX11_music_115
          · have hp := hp.2 cc_12
            refine lv_aload_n (pc := 51) hx hb dX11_music_51 rfl (lv_at hl 0 rfl) ?_
            refine sx_getR (pc := 52) (j := 3) B hH hk_th coX11 rfl w_459 rfl dX11_music_52 ?_
            refine W.eq (g2 := F0 m 55 ls [va_rf (gR S th 3)]) rfl ?_
            obtain ⟨a_17, ha_17, hp⟩ := hp
            refine sx_nonnull (x := a_17) ha_17 ?_
            refine lv_iload_n (pc := 55) hx hb dX11_music_55 rfl (lv_at hl 1 rfl) ?_
            obtain ⟨hk_18, hp⟩ := hp
            obtain ⟨hn_19, hp⟩ := hp
            refine sx_aald (pc := 56) B hH hk_18 (by decide) (by decide) hn_19 dX11_music_56 ?_
            refine W.eq (g2 := F0 m 57 ls [va_rf (gR S a_17 p0.toNatClampNeg)]) rfl ?_
            obtain ⟨a_20, ha_20, hp⟩ := hp
            refine sx_nonnull (x := a_20) ha_20 ?_
            obtain ⟨hk_21, hp⟩ := hp
            refine sx_getR (pc := 57) (j := 1) B hH hk_21 coX10 rfl w_539 rfl dX11_music_57 ?_
            refine W.eq (g2 := F0 m 60 ls [va_rf (gR S a_20 1)]) rfl ?_
            obtain ⟨a_22, ha_22, hp⟩ := hp
            refine sx_nonnull (x := a_22) ha_22 ?_
            refine lv_iload (pc := 60) hx hb dX11_music_60 (lv_at hl 4 rfl) ?_
            obtain ⟨hk_23, hp⟩ := hp
            obtain ⟨hn_24, hp⟩ := hp
            refine sx_lald (pc := 62) B hH hk_23 hn_24 dX11_music_62 ?_
            refine W.eq (g2 := F0 m 63 ls [.long (gJ S a_22 x5_9.toNatClampNeg)]) rfl ?_
            refine lv_l2i (pc := 63) (v := (gJ S a_22 x5_9.toNatClampNeg).toInt32) hx hb dX11_music_63 rfl ?_
            refine lv_topi (fun v_25 ev_25 => ?_)
            have hp := hp v_25 ev_25
            refine lv_istore (pc := 64) (lv' := [(6, .int v_25), (0, .ref th), (1, .int p0), (3, .int x3_7), (4, .int x4_8), (5, .int x5_9)]) hx hb dX11_music_64 hl (by decide) rfl (fun ls hl => ?_)
            refine lv_iload (pc := 66) hx hb dX11_music_66 (lv_at hl 0 rfl) ?_
            refine lv_if_le (pc := 68) (tgt := 95) hx hb dX11_music_68 (by decide) (fun cc_26 => ?_) (fun cc_26 => ?_)
            · have hp := hp.1 cc_26
              obtain ⟨v_27, ev_27⟩ : ∃ y : Int32, y = x5_9 + 1 := ⟨_, rfl⟩
              have hp := hp v_27 ev_27
              refine lv_iinc (pc := 95) (v := v_27) (lv' := [(5, .int v_27), (6, .int v_25), (0, .ref th), (1, .int p0), (3, .int x3_7), (4, .int x4_8)]) hx hb dX11_music_95 hl (k := 5) rfl (by rw [ev_27]; rfl) (by decide) rfl (fun ls hl => ?_)
              refine lv_goto (pc := 98) (tgt := 39) hx hb dX11_music_98 (by decide) ?_
              obtain ⟨k9, hlt9, hp⟩ := hp
              exact ih_6 k9 hlt9 _ _ _ _ _ _ hp hH (lv_sub hl [2, 3, 4, 5, 0] rfl)
            · have hp := hp.2 cc_26
              refine lv_iload_n (pc := 71) hx hb dX11_music_71 rfl (lv_at hl 3 rfl) ?_
              refine lv_bipush (pc := 72) (v := 15) hx hb dX11_music_72 (by decide) ?_
              refine lv_iconst (pc := 74) (v := 4) hx hb dX11_music_74 (by decide) ?_
              refine lv_iload (pc := 75) hx hb dX11_music_75 (lv_at hl 5 rfl) ?_
              refine lv_imul (pc := 77) hx hb dX11_music_77 ?_
              refine lv_ishl (pc := 78) hx hb dX11_music_78 ?_
              refine W.eq (g2 := F0 m 79 ls [.int (shl 15 (4 * x5_9)), .int x3_7]) rfl ?_
              refine lv_ior (pc := 79) hx hb dX11_music_79 ?_
              refine lv_topi (fun v_28 ev_28 => ?_)
              have hp := hp v_28 ev_28
              refine lv_istore_n (pc := 80) (lv' := [(3, .int v_28), (6, .int v_25), (0, .ref th), (1, .int p0), (4, .int x4_8), (5, .int x5_9)]) hx hb dX11_music_80 rfl hl (by decide) rfl (fun ls hl => ?_)
              refine lv_iload (pc := 81) hx hb dX11_music_81 (lv_at hl 4 rfl) ?_
              refine lv_iload (pc := 83) hx hb dX11_music_83 (lv_at hl 1 rfl) ?_
              refine lv_iconst (pc := 85) (v := 1) hx hb dX11_music_85 (by decide) ?_
              refine lv_isub (pc := 86) hx hb dX11_music_86 ?_
              refine lv_iconst (pc := 87) (v := 4) hx hb dX11_music_87 (by decide) ?_
              refine lv_iload (pc := 88) hx hb dX11_music_88 (lv_at hl 5 rfl) ?_
              refine lv_imul (pc := 90) hx hb dX11_music_90 ?_
              refine lv_ishl (pc := 91) hx hb dX11_music_91 ?_
              refine W.eq (g2 := F0 m 92 ls [.int (shl (v_25 - 1) (4 * x5_9)), .int x4_8]) rfl ?_
              refine lv_ior (pc := 92) hx hb dX11_music_92 ?_
              refine lv_topi (fun v_29 ev_29 => ?_)
              have hp := hp v_29 ev_29
              refine lv_istore (pc := 93) (lv' := [(4, .int v_29), (3, .int v_28), (6, .int v_25), (0, .ref th), (1, .int p0), (5, .int x5_9)]) hx hb dX11_music_93 hl (by decide) rfl (fun ls hl => ?_)
              obtain ⟨v_30, ev_30⟩ : ∃ y : Int32, y = x5_9 + 1 := ⟨_, rfl⟩
              have hp := hp v_30 ev_30
              refine lv_iinc (pc := 95) (v := v_30) (lv' := [(5, .int v_30), (4, .int v_29), (3, .int v_28), (6, .int v_25), (0, .ref th), (1, .int p0)]) hx hb dX11_music_95 hl (k := 5) rfl (by rw [ev_30]; rfl) (by decide) rfl (fun ls hl => ?_)
              refine lv_goto (pc := 98) (tgt := 39) hx hb dX11_music_98 (by decide) ?_
              obtain ⟨k9, hlt9, hp⟩ := hp
              exact ih_6 k9 hlt9 _ _ _ _ _ _ hp hH (lv_sub hl [4, 5, 2, 1, 0] rfl)
      exact kl_6 k0_6 _ _ _ _ _ _ h0_6 hH (lv_sub hl [3, 4, 2, 1, 0] rfl)
    · have hp := hp.2 cc_5
      refine lv_aload_n (pc := 25) hx hb dX11_music_25 rfl (lv_at hl 0 rfl) ?_
      refine lv_iload_n (pc := 26) hx hb dX11_music_26 rfl (lv_at hl 2 rfl) ?_
      refine sx_V (pc := 27) (As := [.int x2_4]) (rest := []) B hH hl.1 (C_X11_refuse G l th x2_4 _ _ hp) mi_X11_refuse coX11 hk_th w_570 w_3 w_568 rfl rfl ⟨Nat.le_of_ble_eq_true rfl, Nat.le_of_ble_eq_true rfl⟩ (Nat.le_of_ble_eq_true rfl) ⟨Nat.le_of_ble_eq_true rfl, Nat.le_of_ble_eq_true rfl⟩ dX11_music_27 (fun v S1 H locs hq hH => ?_)
      obtain ⟨r_31, F_31, rfl, e9, hp⟩ := hq
      rw [e9] at hH
      have hH : Hp G (FA S s.heap.size) s.heap (wI S F_31) H locs := hH
      refine W.eq (g2 := F0 m 30 ls [.int r_31]) rfl ?_
      exact sx_iret (pc := 30) B hH hr hlk (by rw [← hQQ]; exact ⟨_, F_31, rfl, rfl, hp⟩) (Nat.le_of_ble_eq_true rfl) (Nat.le_of_ble_eq_true rfl) dX11_music_30
  refine lv_if_ne (pc := 8) (tgt := 21) hx hb dX11_music_8 (by decide) (fun cc_2 => ?_) (fun cc_2 => ?_)
  · have hp := hp.1 cc_2
    exact kj_3 _ _ _ _ hp hH (lv_sub hl [1, 2, 0] rfl)
  · have hp := hp.2 cc_2
    refine lv_aload_n (pc := 11) hx hb dX11_music_11 rfl (lv_at hl 1 rfl) ?_
    refine sx_getR (pc := 12) (j := 9) B hH hk_th coX11 rfl w_465 rfl dX11_music_12 ?_
    refine W.eq (g2 := F0 m 15 ls [va_rf (gR S th 9)]) rfl ?_
    refine sx_ifnonnull (pc := 15) (r := gR S th 9) (tgt := 21) B dX11_music_15 (by decide) (fun cc_32 => ?_) (fun cc_32 => ?_)
    · have hp := hp.1 cc_32
      exact kj_3 _ _ _ _ hp hH (lv_sub hl [1, 2, 0] rfl)
    · have hp := hp.2 cc_32
      refine lv_bipush (pc := 18) (v := 6) hx hb dX11_music_18 (by decide) ?_
      refine lv_istore_n (pc := 20) (lv' := [(2, .int 6), (0, .ref th), (1, .int p0)]) hx hb dX11_music_20 rfl hl (by decide) rfl (fun ls hl => ?_)
      exact kj_3 _ _ _ _ hp hH (lv_sub hl [1, 2, 0] rfl)
theorem dX11_runs_0 : decode cX11_runs 0 = .ok (.iload_n 1, 1) := by decide +kernel
theorem dX11_runs_1 : decode cX11_runs 1 = .ok (.iconst 3, 1) := by decide +kernel
theorem dX11_runs_2 : decode cX11_runs 2 = .ok (.if_icmp .lt 14, 3) := by decide +kernel
theorem dX11_runs_5 : decode cX11_runs 5 = .ok (.iload_n 1, 1) := by decide +kernel
theorem dX11_runs_6 : decode cX11_runs 6 = .ok (.aload_n 0, 1) := by decide +kernel
theorem dX11_runs_7 : decode cX11_runs 7 = .ok (.getfield 62, 3) := by decide +kernel
theorem dX11_runs_10 : decode cX11_runs 10 = .ok (.getfield 188, 3) := by decide +kernel
theorem dX11_runs_13 : decode cX11_runs 13 = .ok (.if_icmp .le 9, 3) := by decide +kernel
theorem dX11_runs_16 : decode cX11_runs 16 = .ok (.aload_n 0, 1) := by decide +kernel
theorem dX11_runs_17 : decode cX11_runs 17 = .ok (.iconst 1, 1) := by decide +kernel
theorem dX11_runs_18 : decode cX11_runs 18 = .ok (.invokevirtual 139, 3) := by decide +kernel
theorem dX11_runs_21 : decode cX11_runs 21 = .ok (.ireturn, 1) := by decide +kernel
theorem dX11_runs_22 : decode cX11_runs 22 = .ok (.aload_n 0, 1) := by decide +kernel
theorem dX11_runs_23 : decode cX11_runs 23 = .ok (.getfield 70, 3) := by decide +kernel
theorem dX11_runs_26 : decode cX11_runs 26 = .ok (.ifnonnull 12, 3) := by decide +kernel
theorem dX11_runs_29 : decode cX11_runs 29 = .ok (.aload_n 0, 1) := by decide +kernel
theorem dX11_runs_30 : decode cX11_runs 30 = .ok (.bipush 6, 2) := by decide +kernel
theorem dX11_runs_32 : decode cX11_runs 32 = .ok (.invokevirtual 139, 3) := by decide +kernel
theorem dX11_runs_35 : decode cX11_runs 35 = .ok (.goto 15, 3) := by decide +kernel
theorem dX11_runs_38 : decode cX11_runs 38 = .ok (.aload_n 0, 1) := by decide +kernel
theorem dX11_runs_39 : decode cX11_runs 39 = .ok (.aload_n 0, 1) := by decide +kernel
theorem dX11_runs_40 : decode cX11_runs 40 = .ok (.getfield 70, 3) := by decide +kernel
theorem dX11_runs_43 : decode cX11_runs 43 = .ok (.iload_n 1, 1) := by decide +kernel
theorem dX11_runs_44 : decode cX11_runs 44 = .ok (.invokevirtual 318, 3) := by decide +kernel
theorem dX11_runs_47 : decode cX11_runs 47 = .ok (.invokevirtual 170, 3) := by decide +kernel
theorem dX11_runs_50 : decode cX11_runs 50 = .ok (.ireturn, 1) := by decide +kernel
theorem mi_X11_runs : MI yX11_runs cX11_runs 2 (some FieldType.int) 1 := ⟨w_1126, w_105, by decide +kernel, by decide +kernel, by decide +kernel⟩
set_option maxRecDepth 100000 in
set_option maxHeartbeats 4000000 in
theorem C_X11_runs (G : GG) (l : Launch) (th : Nat) (p0 : Int32) (S : St) (Q : Int32 → (Nat → Nat → Int32) → Prop) (hp : P_X11_runs th p0 S Q) : Ctr G l yX11_runs cX11_runs 2 (some FieldType.int) 2 48 0 0 [.ref th, .int p0] S (fun (v : Option Value) (S9 : St) => ∃ (r : Int32) (I9 : Nat → Nat → Int32), v = some (.int r) ∧ S9 = wI S I9 ∧ Q r I9) := by
  generalize hQQ : (fun (v : Option Value) (S9 : St) => ∃ (r : Int32) (I9 : Nat → Nat → Int32), v = some (.int r) ∧ S9 = wI S I9 ∧ Q r I9) = QQ
  unfold P_X11_runs at hp
  refine Ctr.of (by decide) (Nat.le_of_ble_eq_true rfl) ?_
  intro p e s m args below meth c ls B hr hlk hin hl hH
  generalize hlocs0 : ([] : List Loc) = locs at hH ⊢
  have hx := B.1
  have hb := B.2.1
  have hl : lv_has ls 2 [(0, .ref th), (1, .int p0)] := hl
  obtain ⟨hk_th, hp⟩ := hp
  refine lv_iload_n (pc := 0) hx hb dX11_runs_0 rfl (lv_at hl 1 rfl) ?_
  refine lv_iconst (pc := 1) (v := 3) hx hb dX11_runs_1 (by decide) ?_
  obtain ⟨J_2, hj_2, hp⟩ := hp
  have kj_2 : ∀  (H : Heap) (locs : List Loc) (ls : Array Slot), J_2  → Hp G (FA S s.heap.size) s.heap S H locs → lv_has ls 2 [(0, .ref th)] → Wm G p l e { frames := 2, cells := 0, slots := 0, locals := 48 } s m args below meth c S QQ 0 0 H locs 0 0 (F0 m 16 ls []) := by
    intro  H locs ls hq9 hH hl
    have hp := hj_2  hq9
    refine lv_aload_n (pc := 16) hx hb dX11_runs_16 rfl (lv_at hl 0 rfl) ?_
    refine lv_iconst (pc := 17) (v := 1) hx hb dX11_runs_17 (by decide) ?_
    refine sx_V (pc := 18) (As := [.int 1]) (rest := []) B hH hl.1 (C_X11_refuse G l th 1 _ _ hp) mi_X11_refuse coX11 hk_th w_570 w_3 w_568 rfl rfl ⟨Nat.le_of_ble_eq_true rfl, Nat.le_of_ble_eq_true rfl⟩ (Nat.le_of_ble_eq_true rfl) ⟨Nat.le_of_ble_eq_true rfl, Nat.le_of_ble_eq_true rfl⟩ dX11_runs_18 (fun v S1 H locs hq hH => ?_)
    obtain ⟨r_3, F_3, rfl, e9, hp⟩ := hq
    rw [e9] at hH
    have hH : Hp G (FA S s.heap.size) s.heap (wI S F_3) H locs := hH
    refine W.eq (g2 := F0 m 21 ls [.int r_3]) rfl ?_
    exact sx_iret (pc := 21) B hH hr hlk (by rw [← hQQ]; exact ⟨_, F_3, rfl, rfl, hp⟩) (Nat.le_of_ble_eq_true rfl) (Nat.le_of_ble_eq_true rfl) dX11_runs_21
  refine lv_icmp_lt (pc := 2) (tgt := 16) hx hb dX11_runs_2 (by decide) (fun cc_1 => ?_) (fun cc_1 => ?_)
  · have hp := hp.1 cc_1
    exact kj_2  _ _ _ hp hH (lv_sub hl [0] rfl)
  · have hp := hp.2 cc_1
    refine lv_iload_n (pc := 5) hx hb dX11_runs_5 rfl (lv_at hl 1 rfl) ?_
    refine lv_aload_n (pc := 6) hx hb dX11_runs_6 rfl (lv_at hl 0 rfl) ?_
    refine sx_getR (pc := 7) (j := 7) B hH hk_th coX11 rfl w_463 rfl dX11_runs_7 ?_
    refine W.eq (g2 := F0 m 10 ls [va_rf (gR S th 7), .int p0]) rfl ?_
    obtain ⟨a_4, ha_4, hp⟩ := hp
    refine sx_nonnull (x := a_4) ha_4 ?_
    obtain ⟨hk_5, hp⟩ := hp
    refine sx_getI (pc := 10) (j := 0) B hH hk_5 coX0 rfl w_357 rfl dX11_runs_10 ?_
    refine W.eq (g2 := F0 m 13 ls [.int (gI S a_4 0), .int p0]) rfl ?_
    refine lv_icmp_le (pc := 13) (tgt := 22) hx hb dX11_runs_13 (by decide) (fun cc_6 => ?_) (fun cc_6 => ?_)
    · have hp := hp.1 cc_6
      refine lv_aload_n (pc := 22) hx hb dX11_runs_22 rfl (lv_at hl 0 rfl) ?_
      refine sx_getR (pc := 23) (j := 9) B hH hk_th coX11 rfl w_465 rfl dX11_runs_23 ?_
      refine W.eq (g2 := F0 m 26 ls [va_rf (gR S th 9)]) rfl ?_
      refine sx_ifnonnull (pc := 26) (r := gR S th 9) (tgt := 38) B dX11_runs_26 (by decide) (fun cc_7 => ?_) (fun cc_7 => ?_)
      · have hp := hp.1 cc_7
        refine lv_aload_n (pc := 38) hx hb dX11_runs_38 rfl (lv_at hl 0 rfl) ?_
        refine lv_aload_n (pc := 39) hx hb dX11_runs_39 rfl (lv_at hl 0 rfl) ?_
        refine sx_getR (pc := 40) (j := 9) B hH hk_th coX11 rfl w_465 rfl dX11_runs_40 ?_
        refine W.eq (g2 := F0 m 43 ls [va_rf (gR S th 9), .ref th]) rfl ?_
        obtain ⟨a_8, ha_8, hp⟩ := hp
        refine sx_nonnull (x := a_8) ha_8 ?_
        refine lv_iload_n (pc := 43) hx hb dX11_runs_43 rfl (lv_at hl 1 rfl) ?_
        obtain ⟨hk_9, hp⟩ := hp
        refine sx_V (pc := 44) (As := [.int p0]) (rest := [.ref th]) B hH hl.1 (C_X8_runsOf G l a_8 p0 _ _ hp) mi_X8_runsOf coX8 hk_9 w_1128 w_1129 w_1127 rfl rfl ⟨Nat.le_of_ble_eq_true rfl, Nat.le_of_ble_eq_true rfl⟩ (Nat.le_of_ble_eq_true rfl) ⟨Nat.le_of_ble_eq_true rfl, Nat.le_of_ble_eq_true rfl⟩ dX11_runs_44 (fun v S1 H locs hq hH => ?_)
        obtain ⟨r_10, rfl, e9, hp⟩ := hq
        rw [e9] at hH
        refine W.eq (g2 := F0 m 47 ls [.int r_10, .ref th]) rfl ?_
        refine sx_V (pc := 47) (As := [.int r_10]) (rest := []) B hH hl.1 (C_X11_answer G l th r_10 _ _ hp) mi_X11_answer coX11 hk_th w_740 w_16 w_738 rfl rfl ⟨Nat.le_of_ble_eq_true rfl, Nat.le_of_ble_eq_true rfl⟩ (Nat.le_of_ble_eq_true rfl) ⟨Nat.le_of_ble_eq_true rfl, Nat.le_of_ble_eq_true rfl⟩ dX11_runs_47 (fun v S1 H locs hq hH => ?_)
        obtain ⟨r_11, F_11, rfl, e9, hp⟩ := hq
        rw [e9] at hH
        have hH : Hp G (FA S s.heap.size) s.heap (wI S F_11) H locs := hH
        refine W.eq (g2 := F0 m 50 ls [.int r_11]) rfl ?_
        exact sx_iret (pc := 50) B hH hr hlk (by rw [← hQQ]; exact ⟨_, F_11, rfl, rfl, hp⟩) (Nat.le_of_ble_eq_true rfl) (Nat.le_of_ble_eq_true rfl) dX11_runs_50
      · have hp := hp.2 cc_7
        refine lv_aload_n (pc := 29) hx hb dX11_runs_29 rfl (lv_at hl 0 rfl) ?_
        refine lv_bipush (pc := 30) (v := 6) hx hb dX11_runs_30 (by decide) ?_
        refine sx_V (pc := 32) (As := [.int 6]) (rest := []) B hH hl.1 (C_X11_refuse G l th 6 _ _ hp) mi_X11_refuse coX11 hk_th w_570 w_3 w_568 rfl rfl ⟨Nat.le_of_ble_eq_true rfl, Nat.le_of_ble_eq_true rfl⟩ (Nat.le_of_ble_eq_true rfl) ⟨Nat.le_of_ble_eq_true rfl, Nat.le_of_ble_eq_true rfl⟩ dX11_runs_32 (fun v S1 H locs hq hH => ?_)
        obtain ⟨r_12, F_12, rfl, e9, hp⟩ := hq
        rw [e9] at hH
        have hH : Hp G (FA S s.heap.size) s.heap (wI S F_12) H locs := hH
        refine W.eq (g2 := F0 m 35 ls [.int r_12]) rfl ?_
        refine lv_goto (pc := 35) (tgt := 50) hx hb dX11_runs_35 (by decide) ?_
        exact sx_iret (pc := 50) B hH hr hlk (by rw [← hQQ]; exact ⟨_, F_12, rfl, rfl, hp⟩) (Nat.le_of_ble_eq_true rfl) (Nat.le_of_ble_eq_true rfl) dX11_runs_50
    · have hp := hp.2 cc_6
      exact kj_2  _ _ _ hp hH (lv_sub hl [0] rfl)
theorem dX11_dodges_0 : decode cX11_dodges 0 = .ok (.aload_n 0, 1) := by decide +kernel
theorem dX11_dodges_1 : decode cX11_dodges 1 = .ok (.iload_n 1, 1) := by decide +kernel
theorem dX11_dodges_2 : decode cX11_dodges 2 = .ok (.invokevirtual 204, 3) := by decide +kernel
theorem dX11_dodges_5 : decode cX11_dodges 5 = .ok (.ifCond .ne 9, 3) := by decide +kernel
theorem dX11_dodges_8 : decode cX11_dodges 8 = .ok (.aload_n 0, 1) := by decide +kernel
theorem dX11_dodges_9 : decode cX11_dodges 9 = .ok (.iconst 1, 1) := by decide +kernel
theorem dX11_dodges_10 : decode cX11_dodges 10 = .ok (.invokevirtual 139, 3) := by decide +kernel
theorem dX11_dodges_13 : decode cX11_dodges 13 = .ok (.ireturn, 1) := by decide +kernel
theorem dX11_dodges_14 : decode cX11_dodges 14 = .ok (.aload_n 0, 1) := by decide +kernel
theorem dX11_dodges_15 : decode cX11_dodges 15 = .ok (.getfield 70, 3) := by decide +kernel
theorem dX11_dodges_18 : decode cX11_dodges 18 = .ok (.ifnonnull 12, 3) := by decide +kernel
theorem dX11_dodges_21 : decode cX11_dodges 21 = .ok (.aload_n 0, 1) := by decide +kernel
theorem dX11_dodges_22 : decode cX11_dodges 22 = .ok (.bipush 6, 2) := by decide +kernel
theorem dX11_dodges_24 : decode cX11_dodges 24 = .ok (.invokevirtual 139, 3) := by decide +kernel
theorem dX11_dodges_27 : decode cX11_dodges 27 = .ok (.goto 17, 3) := by decide +kernel
theorem dX11_dodges_30 : decode cX11_dodges 30 = .ok (.aload_n 0, 1) := by decide +kernel
theorem dX11_dodges_31 : decode cX11_dodges 31 = .ok (.aload_n 0, 1) := by decide +kernel
theorem dX11_dodges_32 : decode cX11_dodges 32 = .ok (.getfield 70, 3) := by decide +kernel
theorem dX11_dodges_35 : decode cX11_dodges 35 = .ok (.iload_n 1, 1) := by decide +kernel
theorem dX11_dodges_36 : decode cX11_dodges 36 = .ok (.iconst 1, 1) := by decide +kernel
theorem dX11_dodges_37 : decode cX11_dodges 37 = .ok (.isub, 1) := by decide +kernel
theorem dX11_dodges_38 : decode cX11_dodges 38 = .ok (.invokevirtual 321, 3) := by decide +kernel
theorem dX11_dodges_41 : decode cX11_dodges 41 = .ok (.invokevirtual 170, 3) := by decide +kernel
theorem dX11_dodges_44 : decode cX11_dodges 44 = .ok (.ireturn, 1) := by decide +kernel
theorem mi_X11_dodges : MI yX11_dodges cX11_dodges 2 (some FieldType.int) 1 := ⟨w_1134, w_105, by decide +kernel, by decide +kernel, by decide +kernel⟩
set_option maxRecDepth 100000 in
set_option maxHeartbeats 4000000 in
theorem C_X11_dodges (G : GG) (l : Launch) (th : Nat) (p0 : Int32) (S : St) (Q : Int32 → (Nat → Nat → Int32) → Prop) (hp : P_X11_dodges th p0 S Q) : Ctr G l yX11_dodges cX11_dodges 2 (some FieldType.int) 3 70 0 0 [.ref th, .int p0] S (fun (v : Option Value) (S9 : St) => ∃ (r : Int32) (I9 : Nat → Nat → Int32), v = some (.int r) ∧ S9 = wI S I9 ∧ Q r I9) := by
  generalize hQQ : (fun (v : Option Value) (S9 : St) => ∃ (r : Int32) (I9 : Nat → Nat → Int32), v = some (.int r) ∧ S9 = wI S I9 ∧ Q r I9) = QQ
  unfold P_X11_dodges at hp
  refine Ctr.of (by decide) (Nat.le_of_ble_eq_true rfl) ?_
  intro p e s m args below meth c ls B hr hlk hin hl hH
  generalize hlocs0 : ([] : List Loc) = locs at hH ⊢
  have hx := B.1
  have hb := B.2.1
  have hl : lv_has ls 2 [(0, .ref th), (1, .int p0)] := hl
  obtain ⟨hk_th, hp⟩ := hp
  refine lv_aload_n (pc := 0) hx hb dX11_dodges_0 rfl (lv_at hl 0 rfl) ?_
  refine lv_iload_n (pc := 1) hx hb dX11_dodges_1 rfl (lv_at hl 1 rfl) ?_
  refine sx_V (pc := 2) (As := [.int p0]) (rest := []) B hH hl.1 (C_X11_isBell G l th p0 _ _ hp) mi_X11_isBell coX11 hk_th w_859 w_27 w_857 rfl rfl ⟨Nat.le_of_ble_eq_true rfl, Nat.le_of_ble_eq_true rfl⟩ (Nat.le_of_ble_eq_true rfl) ⟨Nat.le_of_ble_eq_true rfl, Nat.le_of_ble_eq_true rfl⟩ dX11_dodges_2 (fun v S1 H locs hq hH => ?_)
  obtain ⟨r_1, rfl, e9, hp⟩ := hq
  rw [e9] at hH
  refine W.eq (g2 := F0 m 5 ls [.int r_1]) rfl ?_
  refine lv_if_ne (pc := 5) (tgt := 14) hx hb dX11_dodges_5 (by decide) (fun cc_2 => ?_) (fun cc_2 => ?_)
  · have hp := hp.1 cc_2
    refine lv_aload_n (pc := 14) hx hb dX11_dodges_14 rfl (lv_at hl 0 rfl) ?_
    refine sx_getR (pc := 15) (j := 9) B hH hk_th coX11 rfl w_465 rfl dX11_dodges_15 ?_
    refine W.eq (g2 := F0 m 18 ls [va_rf (gR S th 9)]) rfl ?_
    refine sx_ifnonnull (pc := 18) (r := gR S th 9) (tgt := 30) B dX11_dodges_18 (by decide) (fun cc_3 => ?_) (fun cc_3 => ?_)
    · have hp := hp.1 cc_3
      refine lv_aload_n (pc := 30) hx hb dX11_dodges_30 rfl (lv_at hl 0 rfl) ?_
      refine lv_aload_n (pc := 31) hx hb dX11_dodges_31 rfl (lv_at hl 0 rfl) ?_
      refine sx_getR (pc := 32) (j := 9) B hH hk_th coX11 rfl w_465 rfl dX11_dodges_32 ?_
      refine W.eq (g2 := F0 m 35 ls [va_rf (gR S th 9), .ref th]) rfl ?_
      obtain ⟨a_4, ha_4, hp⟩ := hp
      refine sx_nonnull (x := a_4) ha_4 ?_
      refine lv_iload_n (pc := 35) hx hb dX11_dodges_35 rfl (lv_at hl 1 rfl) ?_
      refine lv_iconst (pc := 36) (v := 1) hx hb dX11_dodges_36 (by decide) ?_
      refine lv_isub (pc := 37) hx hb dX11_dodges_37 ?_
      obtain ⟨hk_5, hp⟩ := hp
      refine sx_V (pc := 38) (As := [.int (p0 - 1)]) (rest := [.ref th]) B hH hl.1 (C_X8_dodgesOf G l a_4 (p0 - 1) _ _ hp) mi_X8_dodgesOf coX8 hk_5 w_1136 w_1137 w_1135 rfl rfl ⟨Nat.le_of_ble_eq_true rfl, Nat.le_of_ble_eq_true rfl⟩ (Nat.le_of_ble_eq_true rfl) ⟨Nat.le_of_ble_eq_true rfl, Nat.le_of_ble_eq_true rfl⟩ dX11_dodges_38 (fun v S1 H locs hq hH => ?_)
      obtain ⟨r_6, rfl, e9, hp⟩ := hq
      rw [e9] at hH
      refine W.eq (g2 := F0 m 41 ls [.int r_6, .ref th]) rfl ?_
      refine sx_V (pc := 41) (As := [.int r_6]) (rest := []) B hH hl.1 (C_X11_answer G l th r_6 _ _ hp) mi_X11_answer coX11 hk_th w_740 w_16 w_738 rfl rfl ⟨Nat.le_of_ble_eq_true rfl, Nat.le_of_ble_eq_true rfl⟩ (Nat.le_of_ble_eq_true rfl) ⟨Nat.le_of_ble_eq_true rfl, Nat.le_of_ble_eq_true rfl⟩ dX11_dodges_41 (fun v S1 H locs hq hH => ?_)
      obtain ⟨r_7, F_7, rfl, e9, hp⟩ := hq
      rw [e9] at hH
      have hH : Hp G (FA S s.heap.size) s.heap (wI S F_7) H locs := hH
      refine W.eq (g2 := F0 m 44 ls [.int r_7]) rfl ?_
      exact sx_iret (pc := 44) B hH hr hlk (by rw [← hQQ]; exact ⟨_, F_7, rfl, rfl, hp⟩) (Nat.le_of_ble_eq_true rfl) (Nat.le_of_ble_eq_true rfl) dX11_dodges_44
    · have hp := hp.2 cc_3
      refine lv_aload_n (pc := 21) hx hb dX11_dodges_21 rfl (lv_at hl 0 rfl) ?_
      refine lv_bipush (pc := 22) (v := 6) hx hb dX11_dodges_22 (by decide) ?_
      refine sx_V (pc := 24) (As := [.int 6]) (rest := []) B hH hl.1 (C_X11_refuse G l th 6 _ _ hp) mi_X11_refuse coX11 hk_th w_570 w_3 w_568 rfl rfl ⟨Nat.le_of_ble_eq_true rfl, Nat.le_of_ble_eq_true rfl⟩ (Nat.le_of_ble_eq_true rfl) ⟨Nat.le_of_ble_eq_true rfl, Nat.le_of_ble_eq_true rfl⟩ dX11_dodges_24 (fun v S1 H locs hq hH => ?_)
      obtain ⟨r_8, F_8, rfl, e9, hp⟩ := hq
      rw [e9] at hH
      have hH : Hp G (FA S s.heap.size) s.heap (wI S F_8) H locs := hH
      refine W.eq (g2 := F0 m 27 ls [.int r_8]) rfl ?_
      refine lv_goto (pc := 27) (tgt := 44) hx hb dX11_dodges_27 (by decide) ?_
      exact sx_iret (pc := 44) B hH hr hlk (by rw [← hQQ]; exact ⟨_, F_8, rfl, rfl, hp⟩) (Nat.le_of_ble_eq_true rfl) (Nat.le_of_ble_eq_true rfl) dX11_dodges_44
  · have hp := hp.2 cc_2
    refine lv_aload_n (pc := 8) hx hb dX11_dodges_8 rfl (lv_at hl 0 rfl) ?_
    refine lv_iconst (pc := 9) (v := 1) hx hb dX11_dodges_9 (by decide) ?_
    refine sx_V (pc := 10) (As := [.int 1]) (rest := []) B hH hl.1 (C_X11_refuse G l th 1 _ _ hp) mi_X11_refuse coX11 hk_th w_570 w_3 w_568 rfl rfl ⟨Nat.le_of_ble_eq_true rfl, Nat.le_of_ble_eq_true rfl⟩ (Nat.le_of_ble_eq_true rfl) ⟨Nat.le_of_ble_eq_true rfl, Nat.le_of_ble_eq_true rfl⟩ dX11_dodges_10 (fun v S1 H locs hq hH => ?_)
    obtain ⟨r_9, F_9, rfl, e9, hp⟩ := hq
    rw [e9] at hH
    have hH : Hp G (FA S s.heap.size) s.heap (wI S F_9) H locs := hH
    refine W.eq (g2 := F0 m 13 ls [.int r_9]) rfl ?_
    exact sx_iret (pc := 13) B hH hr hlk (by rw [← hQQ]; exact ⟨_, F_9, rfl, rfl, hp⟩) (Nat.le_of_ble_eq_true rfl) (Nat.le_of_ble_eq_true rfl) dX11_dodges_13
theorem dX11_lies_0 : decode cX11_lies 0 = .ok (.aload_n 0, 1) := by decide +kernel
theorem dX11_lies_1 : decode cX11_lies 1 = .ok (.iload_n 1, 1) := by decide +kernel
theorem dX11_lies_2 : decode cX11_lies 2 = .ok (.invokevirtual 204, 3) := by decide +kernel
theorem dX11_lies_5 : decode cX11_lies 5 = .ok (.ifCond .ne 9, 3) := by decide +kernel
theorem dX11_lies_8 : decode cX11_lies 8 = .ok (.aload_n 0, 1) := by decide +kernel
theorem dX11_lies_9 : decode cX11_lies 9 = .ok (.iconst 1, 1) := by decide +kernel
theorem dX11_lies_10 : decode cX11_lies 10 = .ok (.invokevirtual 139, 3) := by decide +kernel
theorem dX11_lies_13 : decode cX11_lies 13 = .ok (.ireturn, 1) := by decide +kernel
theorem dX11_lies_14 : decode cX11_lies 14 = .ok (.aload_n 0, 1) := by decide +kernel
theorem dX11_lies_15 : decode cX11_lies 15 = .ok (.getfield 70, 3) := by decide +kernel
theorem dX11_lies_18 : decode cX11_lies 18 = .ok (.ifnonnull 12, 3) := by decide +kernel
theorem dX11_lies_21 : decode cX11_lies 21 = .ok (.aload_n 0, 1) := by decide +kernel
theorem dX11_lies_22 : decode cX11_lies 22 = .ok (.bipush 6, 2) := by decide +kernel
theorem dX11_lies_24 : decode cX11_lies 24 = .ok (.invokevirtual 139, 3) := by decide +kernel
theorem dX11_lies_27 : decode cX11_lies 27 = .ok (.goto 17, 3) := by decide +kernel
theorem dX11_lies_30 : decode cX11_lies 30 = .ok (.aload_n 0, 1) := by decide +kernel
theorem dX11_lies_31 : decode cX11_lies 31 = .ok (.aload_n 0, 1) := by decide +kernel
theorem dX11_lies_32 : decode cX11_lies 32 = .ok (.getfield 70, 3) := by decide +kernel
theorem dX11_lies_35 : decode cX11_lies 35 = .ok (.iload_n 1, 1) := by decide +kernel
theorem dX11_lies_36 : decode cX11_lies 36 = .ok (.iconst 1, 1) := by decide +kernel
theorem dX11_lies_37 : decode cX11_lies 37 = .ok (.isub, 1) := by decide +kernel
theorem dX11_lies_38 : decode cX11_lies 38 = .ok (.invokevirtual 324, 3) := by decide +kernel
theorem dX11_lies_41 : decode cX11_lies 41 = .ok (.invokevirtual 170, 3) := by decide +kernel
theorem dX11_lies_44 : decode cX11_lies 44 = .ok (.ireturn, 1) := by decide +kernel
theorem mi_X11_lies : MI yX11_lies cX11_lies 2 (some FieldType.int) 1 := ⟨w_1143, w_105, by decide +kernel, by decide +kernel, by decide +kernel⟩
set_option maxRecDepth 100000 in
set_option maxHeartbeats 4000000 in
theorem C_X11_lies (G : GG) (l : Launch) (th : Nat) (p0 : Int32) (S : St) (Q : Int32 → (Nat → Nat → Int32) → Prop) (hp : P_X11_lies th p0 S Q) : Ctr G l yX11_lies cX11_lies 2 (some FieldType.int) 3 69 0 0 [.ref th, .int p0] S (fun (v : Option Value) (S9 : St) => ∃ (r : Int32) (I9 : Nat → Nat → Int32), v = some (.int r) ∧ S9 = wI S I9 ∧ Q r I9) := by
  generalize hQQ : (fun (v : Option Value) (S9 : St) => ∃ (r : Int32) (I9 : Nat → Nat → Int32), v = some (.int r) ∧ S9 = wI S I9 ∧ Q r I9) = QQ
  unfold P_X11_lies at hp
  refine Ctr.of (by decide) (Nat.le_of_ble_eq_true rfl) ?_
  intro p e s m args below meth c ls B hr hlk hin hl hH
  generalize hlocs0 : ([] : List Loc) = locs at hH ⊢
  have hx := B.1
  have hb := B.2.1
  have hl : lv_has ls 2 [(0, .ref th), (1, .int p0)] := hl
  obtain ⟨hk_th, hp⟩ := hp
  refine lv_aload_n (pc := 0) hx hb dX11_lies_0 rfl (lv_at hl 0 rfl) ?_
  refine lv_iload_n (pc := 1) hx hb dX11_lies_1 rfl (lv_at hl 1 rfl) ?_
  refine sx_V (pc := 2) (As := [.int p0]) (rest := []) B hH hl.1 (C_X11_isBell G l th p0 _ _ hp) mi_X11_isBell coX11 hk_th w_859 w_27 w_857 rfl rfl ⟨Nat.le_of_ble_eq_true rfl, Nat.le_of_ble_eq_true rfl⟩ (Nat.le_of_ble_eq_true rfl) ⟨Nat.le_of_ble_eq_true rfl, Nat.le_of_ble_eq_true rfl⟩ dX11_lies_2 (fun v S1 H locs hq hH => ?_)
  obtain ⟨r_1, rfl, e9, hp⟩ := hq
  rw [e9] at hH
  refine W.eq (g2 := F0 m 5 ls [.int r_1]) rfl ?_
  refine lv_if_ne (pc := 5) (tgt := 14) hx hb dX11_lies_5 (by decide) (fun cc_2 => ?_) (fun cc_2 => ?_)
  · have hp := hp.1 cc_2
    refine lv_aload_n (pc := 14) hx hb dX11_lies_14 rfl (lv_at hl 0 rfl) ?_
    refine sx_getR (pc := 15) (j := 9) B hH hk_th coX11 rfl w_465 rfl dX11_lies_15 ?_
    refine W.eq (g2 := F0 m 18 ls [va_rf (gR S th 9)]) rfl ?_
    refine sx_ifnonnull (pc := 18) (r := gR S th 9) (tgt := 30) B dX11_lies_18 (by decide) (fun cc_3 => ?_) (fun cc_3 => ?_)
    · have hp := hp.1 cc_3
      refine lv_aload_n (pc := 30) hx hb dX11_lies_30 rfl (lv_at hl 0 rfl) ?_
      refine lv_aload_n (pc := 31) hx hb dX11_lies_31 rfl (lv_at hl 0 rfl) ?_
      refine sx_getR (pc := 32) (j := 9) B hH hk_th coX11 rfl w_465 rfl dX11_lies_32 ?_
      refine W.eq (g2 := F0 m 35 ls [va_rf (gR S th 9), .ref th]) rfl ?_
      obtain ⟨a_4, ha_4, hp⟩ := hp
      refine sx_nonnull (x := a_4) ha_4 ?_
      refine lv_iload_n (pc := 35) hx hb dX11_lies_35 rfl (lv_at hl 1 rfl) ?_
      refine lv_iconst (pc := 36) (v := 1) hx hb dX11_lies_36 (by decide) ?_
      refine lv_isub (pc := 37) hx hb dX11_lies_37 ?_
      obtain ⟨hk_5, hp⟩ := hp
      refine sx_V (pc := 38) (As := [.int (p0 - 1)]) (rest := [.ref th]) B hH hl.1 (C_X8_liesOf G l a_4 (p0 - 1) _ _ hp) mi_X8_liesOf coX8 hk_5 w_1145 w_1146 w_1144 rfl rfl ⟨Nat.le_of_ble_eq_true rfl, Nat.le_of_ble_eq_true rfl⟩ (Nat.le_of_ble_eq_true rfl) ⟨Nat.le_of_ble_eq_true rfl, Nat.le_of_ble_eq_true rfl⟩ dX11_lies_38 (fun v S1 H locs hq hH => ?_)
      obtain ⟨r_6, rfl, e9, hp⟩ := hq
      rw [e9] at hH
      refine W.eq (g2 := F0 m 41 ls [.int r_6, .ref th]) rfl ?_
      refine sx_V (pc := 41) (As := [.int r_6]) (rest := []) B hH hl.1 (C_X11_answer G l th r_6 _ _ hp) mi_X11_answer coX11 hk_th w_740 w_16 w_738 rfl rfl ⟨Nat.le_of_ble_eq_true rfl, Nat.le_of_ble_eq_true rfl⟩ (Nat.le_of_ble_eq_true rfl) ⟨Nat.le_of_ble_eq_true rfl, Nat.le_of_ble_eq_true rfl⟩ dX11_lies_41 (fun v S1 H locs hq hH => ?_)
      obtain ⟨r_7, F_7, rfl, e9, hp⟩ := hq
      rw [e9] at hH
      have hH : Hp G (FA S s.heap.size) s.heap (wI S F_7) H locs := hH
      refine W.eq (g2 := F0 m 44 ls [.int r_7]) rfl ?_
      exact sx_iret (pc := 44) B hH hr hlk (by rw [← hQQ]; exact ⟨_, F_7, rfl, rfl, hp⟩) (Nat.le_of_ble_eq_true rfl) (Nat.le_of_ble_eq_true rfl) dX11_lies_44
    · have hp := hp.2 cc_3
      refine lv_aload_n (pc := 21) hx hb dX11_lies_21 rfl (lv_at hl 0 rfl) ?_
      refine lv_bipush (pc := 22) (v := 6) hx hb dX11_lies_22 (by decide) ?_
      refine sx_V (pc := 24) (As := [.int 6]) (rest := []) B hH hl.1 (C_X11_refuse G l th 6 _ _ hp) mi_X11_refuse coX11 hk_th w_570 w_3 w_568 rfl rfl ⟨Nat.le_of_ble_eq_true rfl, Nat.le_of_ble_eq_true rfl⟩ (Nat.le_of_ble_eq_true rfl) ⟨Nat.le_of_ble_eq_true rfl, Nat.le_of_ble_eq_true rfl⟩ dX11_lies_24 (fun v S1 H locs hq hH => ?_)
      obtain ⟨r_8, F_8, rfl, e9, hp⟩ := hq
      rw [e9] at hH
      have hH : Hp G (FA S s.heap.size) s.heap (wI S F_8) H locs := hH
      refine W.eq (g2 := F0 m 27 ls [.int r_8]) rfl ?_
      refine lv_goto (pc := 27) (tgt := 44) hx hb dX11_lies_27 (by decide) ?_
      exact sx_iret (pc := 44) B hH hr hlk (by rw [← hQQ]; exact ⟨_, F_8, rfl, rfl, hp⟩) (Nat.le_of_ble_eq_true rfl) (Nat.le_of_ble_eq_true rfl) dX11_lies_44
  · have hp := hp.2 cc_2
    refine lv_aload_n (pc := 8) hx hb dX11_lies_8 rfl (lv_at hl 0 rfl) ?_
    refine lv_iconst (pc := 9) (v := 1) hx hb dX11_lies_9 (by decide) ?_
    refine sx_V (pc := 10) (As := [.int 1]) (rest := []) B hH hl.1 (C_X11_refuse G l th 1 _ _ hp) mi_X11_refuse coX11 hk_th w_570 w_3 w_568 rfl rfl ⟨Nat.le_of_ble_eq_true rfl, Nat.le_of_ble_eq_true rfl⟩ (Nat.le_of_ble_eq_true rfl) ⟨Nat.le_of_ble_eq_true rfl, Nat.le_of_ble_eq_true rfl⟩ dX11_lies_10 (fun v S1 H locs hq hH => ?_)
    obtain ⟨r_9, F_9, rfl, e9, hp⟩ := hq
    rw [e9] at hH
    have hH : Hp G (FA S s.heap.size) s.heap (wI S F_9) H locs := hH
    refine W.eq (g2 := F0 m 13 ls [.int r_9]) rfl ?_
    exact sx_iret (pc := 13) B hH hr hlk (by rw [← hQQ]; exact ⟨_, F_9, rfl, rfl, hp⟩) (Nat.le_of_ble_eq_true rfl) (Nat.le_of_ble_eq_true rfl) dX11_lies_13
theorem dX11_backward_0 : decode cX11_backward 0 = .ok (.aload_n 0, 1) := by decide +kernel
theorem dX11_backward_1 : decode cX11_backward 1 = .ok (.getfield 70, 3) := by decide +kernel
theorem dX11_backward_4 : decode cX11_backward 4 = .ok (.ifnonnull 10, 3) := by decide +kernel
theorem dX11_backward_7 : decode cX11_backward 7 = .ok (.aload_n 0, 1) := by decide +kernel
theorem dX11_backward_8 : decode cX11_backward 8 = .ok (.bipush 6, 2) := by decide +kernel
theorem dX11_backward_10 : decode cX11_backward 10 = .ok (.invokevirtual 139, 3) := by decide +kernel
theorem dX11_backward_13 : decode cX11_backward 13 = .ok (.ireturn, 1) := by decide +kernel
theorem dX11_backward_14 : decode cX11_backward 14 = .ok (.aload_n 0, 1) := by decide +kernel
theorem dX11_backward_15 : decode cX11_backward 15 = .ok (.aload_n 0, 1) := by decide +kernel
theorem dX11_backward_16 : decode cX11_backward 16 = .ok (.getfield 70, 3) := by decide +kernel
theorem dX11_backward_19 : decode cX11_backward 19 = .ok (.getfield 327, 3) := by decide +kernel
theorem dX11_backward_22 : decode cX11_backward 22 = .ok (.aload_n 0, 1) := by decide +kernel
theorem dX11_backward_23 : decode cX11_backward 23 = .ok (.getfield 70, 3) := by decide +kernel
theorem dX11_backward_26 : decode cX11_backward 26 = .ok (.getfield 327, 3) := by decide +kernel
theorem dX11_backward_29 : decode cX11_backward 29 = .ok (.arraylength, 1) := by decide +kernel
theorem dX11_backward_30 : decode cX11_backward 30 = .ok (.invokestatic 278, 3) := by decide +kernel
theorem dX11_backward_33 : decode cX11_backward 33 = .ok (.ifCond .eq 7, 3) := by decide +kernel
theorem dX11_backward_36 : decode cX11_backward 36 = .ok (.iconst 1, 1) := by decide +kernel
theorem dX11_backward_37 : decode cX11_backward 37 = .ok (.goto 4, 3) := by decide +kernel
theorem dX11_backward_40 : decode cX11_backward 40 = .ok (.iconst 0, 1) := by decide +kernel
theorem dX11_backward_41 : decode cX11_backward 41 = .ok (.invokevirtual 170, 3) := by decide +kernel
theorem dX11_backward_44 : decode cX11_backward 44 = .ok (.ireturn, 1) := by decide +kernel
theorem mi_X11_backward : MI yX11_backward cX11_backward 1 (some FieldType.int) 0 := ⟨w_1151, w_105, by decide +kernel, by decide +kernel, by decide +kernel⟩
set_option maxRecDepth 100000 in
set_option maxHeartbeats 4000000 in
theorem C_X11_backward (G : GG) (l : Launch) (th : Nat) (S : St) (Q : Int32 → (Nat → Nat → Int32) → Prop) (hp : P_X11_backward th S Q) : Ctr G l yX11_backward cX11_backward 1 (some FieldType.int) 1 22 0 0 [.ref th] S (fun (v : Option Value) (S9 : St) => ∃ (r : Int32) (I9 : Nat → Nat → Int32), v = some (.int r) ∧ S9 = wI S I9 ∧ Q r I9) := by
  generalize hQQ : (fun (v : Option Value) (S9 : St) => ∃ (r : Int32) (I9 : Nat → Nat → Int32), v = some (.int r) ∧ S9 = wI S I9 ∧ Q r I9) = QQ
  unfold P_X11_backward at hp
  refine Ctr.of (by decide) (Nat.le_of_ble_eq_true rfl) ?_
  intro p e s m args below meth c ls B hr hlk hin hl hH
  generalize hlocs0 : ([] : List Loc) = locs at hH ⊢
  have hx := B.1
  have hb := B.2.1
  have hl : lv_has ls 1 [(0, .ref th)] := hl
  obtain ⟨hk_th, hp⟩ := hp
  refine lv_aload_n (pc := 0) hx hb dX11_backward_0 rfl (lv_at hl 0 rfl) ?_
  refine sx_getR (pc := 1) (j := 9) B hH hk_th coX11 rfl w_465 rfl dX11_backward_1 ?_
  refine W.eq (g2 := F0 m 4 ls [va_rf (gR S th 9)]) rfl ?_
  refine sx_ifnonnull (pc := 4) (r := gR S th 9) (tgt := 14) B dX11_backward_4 (by decide) (fun cc_1 => ?_) (fun cc_1 => ?_)
  · have hp := hp.1 cc_1
    refine lv_aload_n (pc := 14) hx hb dX11_backward_14 rfl (lv_at hl 0 rfl) ?_
    refine lv_aload_n (pc := 15) hx hb dX11_backward_15 rfl (lv_at hl 0 rfl) ?_
    refine sx_getR (pc := 16) (j := 9) B hH hk_th coX11 rfl w_465 rfl dX11_backward_16 ?_
    refine W.eq (g2 := F0 m 19 ls [va_rf (gR S th 9), .ref th]) rfl ?_
    obtain ⟨a_2, ha_2, hp⟩ := hp
    refine sx_nonnull (x := a_2) ha_2 ?_
    obtain ⟨hk_3, hp⟩ := hp
    refine sx_getR (pc := 19) (j := 2) B hH hk_3 coX8 rfl w_825 rfl dX11_backward_19 ?_
    refine W.eq (g2 := F0 m 22 ls [va_rf (gR S a_2 2), .ref th]) rfl ?_
    obtain ⟨a_4, ha_4, hp⟩ := hp
    refine sx_nonnull (x := a_4) ha_4 ?_
    refine lv_aload_n (pc := 22) hx hb dX11_backward_22 rfl (lv_at hl 0 rfl) ?_
    refine sx_getR (pc := 23) (j := 9) B hH hk_th coX11 rfl w_465 rfl dX11_backward_23 ?_
    refine W.eq (g2 := F0 m 26 ls [va_rf (gR S th 9), .ref a_4, .ref th]) rfl ?_
    refine sx_nonnull (x := a_2) ha_2 ?_
    refine sx_getR (pc := 26) (j := 2) B hH hk_3 coX8 rfl w_825 rfl dX11_backward_26 ?_
    refine W.eq (g2 := F0 m 29 ls [va_rf (gR S a_2 2), .ref a_4, .ref th]) rfl ?_
    refine sx_nonnull (x := a_4) ha_4 ?_
    obtain ⟨hk_5, hp⟩ := hp
    refine sx_alen (pc := 29) B hH hk_5 (by decide) (by decide) dX11_backward_29 ?_
    refine W.eq (g2 := F0 m 30 ls [.int (nI (ln S a_4)), .ref a_4, .ref th]) rfl ?_
    refine sx_S (pc := 30) (As := [.ref a_4, .int (nI (ln S a_4))]) (rest := [.ref th]) B hH hl.1 (C_X11_readsBackward G l a_4 (nI (ln S a_4)) _ _ hp) mi_X11_readsBackward w_999 w_998 rfl rfl ⟨Nat.le_of_ble_eq_true rfl, Nat.le_of_ble_eq_true rfl⟩ (Nat.le_of_ble_eq_true rfl) ⟨Nat.le_of_ble_eq_true rfl, Nat.le_of_ble_eq_true rfl⟩ dX11_backward_30 (fun v S1 H locs hq hH => ?_)
    obtain ⟨r_6, rfl, e9, hp⟩ := hq
    rw [e9] at hH
    refine W.eq (g2 := F0 m 33 ls [.int r_6, .ref th]) rfl ?_
    obtain ⟨J_8, hj_8, hp⟩ := hp
    have kj_8 : ∀ (t_9 : Int32) (H : Heap) (locs : List Loc) (ls : Array Slot), J_8 t_9 → Hp G (FA S s.heap.size) s.heap S H locs → lv_has ls 1 [] → Wm G p l e { frames := 1, cells := 0, slots := 0, locals := 22 } s m args below meth c S QQ 0 0 H locs 0 0 (F0 m 41 ls [.int t_9, .ref th]) := by
      intro t_9 H locs ls hq9 hH hl
      have hp := hj_8 t_9 hq9
      refine sx_V (pc := 41) (As := [.int t_9]) (rest := []) B hH hl.1 (C_X11_answer G l th t_9 _ _ hp) mi_X11_answer coX11 hk_th w_740 w_16 w_738 rfl rfl ⟨Nat.le_of_ble_eq_true rfl, Nat.le_of_ble_eq_true rfl⟩ (Nat.le_of_ble_eq_true rfl) ⟨Nat.le_of_ble_eq_true rfl, Nat.le_of_ble_eq_true rfl⟩ dX11_backward_41 (fun v S1 H locs hq hH => ?_)
      obtain ⟨r_10, F_10, rfl, e9, hp⟩ := hq
      rw [e9] at hH
      have hH : Hp G (FA S s.heap.size) s.heap (wI S F_10) H locs := hH
      refine W.eq (g2 := F0 m 44 ls [.int r_10]) rfl ?_
      exact sx_iret (pc := 44) B hH hr hlk (by rw [← hQQ]; exact ⟨_, F_10, rfl, rfl, hp⟩) (Nat.le_of_ble_eq_true rfl) (Nat.le_of_ble_eq_true rfl) dX11_backward_44
    refine lv_if_eq (pc := 33) (tgt := 40) hx hb dX11_backward_33 (by decide) (fun cc_7 => ?_) (fun cc_7 => ?_)
    · have hp := hp.1 cc_7
      refine lv_iconst (pc := 40) (v := 0) hx hb dX11_backward_40 (by decide) ?_
      exact kj_8 _ _ _ _ hp hH (lv_sub hl [] rfl)
    · have hp := hp.2 cc_7
      refine lv_iconst (pc := 36) (v := 1) hx hb dX11_backward_36 (by decide) ?_
      refine lv_goto (pc := 37) (tgt := 41) hx hb dX11_backward_37 (by decide) ?_
      exact kj_8 _ _ _ _ hp hH (lv_sub hl [] rfl)
  · have hp := hp.2 cc_1
    refine lv_aload_n (pc := 7) hx hb dX11_backward_7 rfl (lv_at hl 0 rfl) ?_
    refine lv_bipush (pc := 8) (v := 6) hx hb dX11_backward_8 (by decide) ?_
    refine sx_V (pc := 10) (As := [.int 6]) (rest := []) B hH hl.1 (C_X11_refuse G l th 6 _ _ hp) mi_X11_refuse coX11 hk_th w_570 w_3 w_568 rfl rfl ⟨Nat.le_of_ble_eq_true rfl, Nat.le_of_ble_eq_true rfl⟩ (Nat.le_of_ble_eq_true rfl) ⟨Nat.le_of_ble_eq_true rfl, Nat.le_of_ble_eq_true rfl⟩ dX11_backward_10 (fun v S1 H locs hq hH => ?_)
    obtain ⟨r_11, F_11, rfl, e9, hp⟩ := hq
    rw [e9] at hH
    have hH : Hp G (FA S s.heap.size) s.heap (wI S F_11) H locs := hH
    refine W.eq (g2 := F0 m 13 ls [.int r_11]) rfl ?_
    exact sx_iret (pc := 13) B hH hr hlk (by rw [← hQQ]; exact ⟨_, F_11, rfl, rfl, hp⟩) (Nat.le_of_ble_eq_true rfl) (Nat.le_of_ble_eq_true rfl) dX11_backward_13
theorem dX11_heard_0 : decode cX11_heard 0 = .ok (.aload_n 0, 1) := by decide +kernel
theorem dX11_heard_1 : decode cX11_heard 1 = .ok (.iload_n 1, 1) := by decide +kernel
theorem dX11_heard_2 : decode cX11_heard 2 = .ok (.invokevirtual 294, 3) := by decide +kernel
theorem dX11_heard_5 : decode cX11_heard 5 = .ok (.istore_n 3, 1) := by decide +kernel
theorem dX11_heard_6 : decode cX11_heard 6 = .ok (.iload_n 3, 1) := by decide +kernel
theorem dX11_heard_7 : decode cX11_heard 7 = .ok (.ifCond .eq 9, 3) := by decide +kernel
theorem dX11_heard_10 : decode cX11_heard 10 = .ok (.aload_n 0, 1) := by decide +kernel
theorem dX11_heard_11 : decode cX11_heard 11 = .ok (.iload_n 3, 1) := by decide +kernel
theorem dX11_heard_12 : decode cX11_heard 12 = .ok (.invokevirtual 139, 3) := by decide +kernel
theorem dX11_heard_15 : decode cX11_heard 15 = .ok (.ireturn, 1) := by decide +kernel
theorem dX11_heard_16 : decode cX11_heard 16 = .ok (.aload_n 0, 1) := by decide +kernel
theorem dX11_heard_17 : decode cX11_heard 17 = .ok (.getfield 70, 3) := by decide +kernel
theorem dX11_heard_20 : decode cX11_heard 20 = .ok (.iload_n 1, 1) := by decide +kernel
theorem dX11_heard_21 : decode cX11_heard 21 = .ok (.iload_n 2, 1) := by decide +kernel
theorem dX11_heard_22 : decode cX11_heard 22 = .ok (.aload_n 0, 1) := by decide +kernel
theorem dX11_heard_23 : decode cX11_heard 23 = .ok (.getfield 62, 3) := by decide +kernel
theorem dX11_heard_26 : decode cX11_heard 26 = .ok (.getfield 194, 3) := by decide +kernel
theorem dX11_heard_29 : decode cX11_heard 29 = .ok (.invokevirtual 328, 3) := by decide +kernel
theorem dX11_heard_32 : decode cX11_heard 32 = .ok (.istore 4, 2) := by decide +kernel
theorem dX11_heard_34 : decode cX11_heard 34 = .ok (.iload 4, 2) := by decide +kernel
theorem dX11_heard_36 : decode cX11_heard 36 = .ok (.iconst (-1), 1) := by decide +kernel
theorem dX11_heard_37 : decode cX11_heard 37 = .ok (.if_icmp .ne 12, 3) := by decide +kernel
theorem dX11_heard_40 : decode cX11_heard 40 = .ok (.aload_n 0, 1) := by decide +kernel
theorem dX11_heard_41 : decode cX11_heard 41 = .ok (.bipush 6, 2) := by decide +kernel
theorem dX11_heard_43 : decode cX11_heard 43 = .ok (.invokevirtual 139, 3) := by decide +kernel
theorem dX11_heard_46 : decode cX11_heard 46 = .ok (.goto 11, 3) := by decide +kernel
theorem dX11_heard_49 : decode cX11_heard 49 = .ok (.aload_n 0, 1) := by decide +kernel
theorem dX11_heard_50 : decode cX11_heard 50 = .ok (.iload 4, 2) := by decide +kernel
theorem dX11_heard_52 : decode cX11_heard 52 = .ok (.iconst 1, 1) := by decide +kernel
theorem dX11_heard_53 : decode cX11_heard 53 = .ok (.iadd, 1) := by decide +kernel
theorem dX11_heard_54 : decode cX11_heard 54 = .ok (.invokevirtual 170, 3) := by decide +kernel
theorem dX11_heard_57 : decode cX11_heard 57 = .ok (.ireturn, 1) := by decide +kernel
theorem mi_X11_heard : MI yX11_heard cX11_heard 5 (some FieldType.int) 2 := ⟨w_1155, w_105, by decide +kernel, by decide +kernel, by decide +kernel⟩
set_option maxRecDepth 100000 in
set_option maxHeartbeats 4000000 in
theorem C_X11_heard (G : GG) (l : Launch) (th : Nat) (p0 : Int32) (p1 : Int32) (S : St) (Q : Int32 → (Nat → Nat → Int32) → Prop) (hp : P_X11_heard th p0 p1 S Q) : Ctr G l yX11_heard cX11_heard 5 (some FieldType.int) 2 47 0 0 [.ref th, .int p0, .int p1] S (fun (v : Option Value) (S9 : St) => ∃ (r : Int32) (I9 : Nat → Nat → Int32), v = some (.int r) ∧ S9 = wI S I9 ∧ Q r I9) := by
  generalize hQQ : (fun (v : Option Value) (S9 : St) => ∃ (r : Int32) (I9 : Nat → Nat → Int32), v = some (.int r) ∧ S9 = wI S I9 ∧ Q r I9) = QQ
  unfold P_X11_heard at hp
  refine Ctr.of (by decide) (Nat.le_of_ble_eq_true rfl) ?_
  intro p e s m args below meth c ls B hr hlk hin hl hH
  generalize hlocs0 : ([] : List Loc) = locs at hH ⊢
  have hx := B.1
  have hb := B.2.1
  have hl : lv_has ls 5 [(0, .ref th), (1, .int p0), (2, .int p1)] := hl
  obtain ⟨hk_th, hp⟩ := hp
  refine lv_aload_n (pc := 0) hx hb dX11_heard_0 rfl (lv_at hl 0 rfl) ?_
  refine lv_iload_n (pc := 1) hx hb dX11_heard_1 rfl (lv_at hl 1 rfl) ?_
  refine sx_V (pc := 2) (As := [.int p0]) (rest := []) B hH hl.1 (C_X11_whyNotRung G l th p0 _ _ hp) mi_X11_whyNotRung coX11 hk_th w_1056 w_32 w_1054 rfl rfl ⟨Nat.le_of_ble_eq_true rfl, Nat.le_of_ble_eq_true rfl⟩ (Nat.le_of_ble_eq_true rfl) ⟨Nat.le_of_ble_eq_true rfl, Nat.le_of_ble_eq_true rfl⟩ dX11_heard_2 (fun v S1 H locs hq hH => ?_)
  obtain ⟨r_1, rfl, e9, hp⟩ := hq
  rw [e9] at hH
  refine W.eq (g2 := F0 m 5 ls [.int r_1]) rfl ?_
  refine lv_istore_n (pc := 5) (lv' := [(3, .int r_1), (0, .ref th), (1, .int p0), (2, .int p1)]) hx hb dX11_heard_5 rfl hl (by decide) rfl (fun ls hl => ?_)
  refine lv_iload_n (pc := 6) hx hb dX11_heard_6 rfl (lv_at hl 0 rfl) ?_
  refine lv_if_eq (pc := 7) (tgt := 16) hx hb dX11_heard_7 (by decide) (fun cc_2 => ?_) (fun cc_2 => ?_)
  · have hp := hp.1 cc_2
    refine lv_aload_n (pc := 16) hx hb dX11_heard_16 rfl (lv_at hl 1 rfl) ?_
    refine sx_getR (pc := 17) (j := 9) B hH hk_th coX11 rfl w_465 rfl dX11_heard_17 ?_
    refine W.eq (g2 := F0 m 20 ls [va_rf (gR S th 9)]) rfl ?_
    obtain ⟨a_3, ha_3, hp⟩ := hp
    refine sx_nonnull (x := a_3) ha_3 ?_
    refine lv_iload_n (pc := 20) hx hb dX11_heard_20 rfl (lv_at hl 2 rfl) ?_
    refine lv_iload_n (pc := 21) hx hb dX11_heard_21 rfl (lv_at hl 3 rfl) ?_
    refine lv_aload_n (pc := 22) hx hb dX11_heard_22 rfl (lv_at hl 1 rfl) ?_
    refine sx_getR (pc := 23) (j := 7) B hH hk_th coX11 rfl w_463 rfl dX11_heard_23 ?_
    refine W.eq (g2 := F0 m 26 ls [va_rf (gR S th 7), .int p1, .int p0, .ref a_3]) rfl ?_
    obtain ⟨a_4, ha_4, hp⟩ := hp
    refine sx_nonnull (x := a_4) ha_4 ?_
    obtain ⟨hk_5, hp⟩ := hp
    refine sx_getI (pc := 26) (j := 2) B hH hk_5 coX0 rfl w_363 rfl dX11_heard_26 ?_
    refine W.eq (g2 := F0 m 29 ls [.int (gI S a_4 2), .int p1, .int p0, .ref a_3]) rfl ?_
    obtain ⟨hk_6, hp⟩ := hp
    refine sx_V (pc := 29) (As := [.int p0, .int p1, .int (gI S a_4 2)]) (rest := []) B hH hl.1 (C_X8_heardBell G l a_3 p0 p1 (gI S a_4 2) _ _ hp) mi_X8_heardBell coX8 hk_6 w_1157 w_1158 w_1156 rfl rfl ⟨Nat.le_of_ble_eq_true rfl, Nat.le_of_ble_eq_true rfl⟩ (Nat.le_of_ble_eq_true rfl) ⟨Nat.le_of_ble_eq_true rfl, Nat.le_of_ble_eq_true rfl⟩ dX11_heard_29 (fun v S1 H locs hq hH => ?_)
    obtain ⟨r_7, rfl, e9, hp⟩ := hq
    rw [e9] at hH
    refine W.eq (g2 := F0 m 32 ls [.int r_7]) rfl ?_
    refine lv_istore (pc := 32) (lv' := [(4, .int r_7), (3, .int r_1), (0, .ref th), (1, .int p0), (2, .int p1)]) hx hb dX11_heard_32 hl (by decide) rfl (fun ls hl => ?_)
    refine lv_iload (pc := 34) hx hb dX11_heard_34 (lv_at hl 0 rfl) ?_
    refine lv_iconst (pc := 36) (v := (-1)) hx hb dX11_heard_36 (by decide) ?_
    refine lv_icmp_ne (pc := 37) (tgt := 49) hx hb dX11_heard_37 (by decide) (fun cc_8 => ?_) (fun cc_8 => ?_)
    · have hp := hp.1 cc_8
      refine lv_aload_n (pc := 49) hx hb dX11_heard_49 rfl (lv_at hl 2 rfl) ?_
      refine lv_iload (pc := 50) hx hb dX11_heard_50 (lv_at hl 0 rfl) ?_
      refine lv_iconst (pc := 52) (v := 1) hx hb dX11_heard_52 (by decide) ?_
      refine lv_iadd (pc := 53) hx hb dX11_heard_53 ?_
      refine sx_V (pc := 54) (As := [.int (r_7 + 1)]) (rest := []) B hH hl.1 (C_X11_answer G l th (r_7 + 1) _ _ hp) mi_X11_answer coX11 hk_th w_740 w_16 w_738 rfl rfl ⟨Nat.le_of_ble_eq_true rfl, Nat.le_of_ble_eq_true rfl⟩ (Nat.le_of_ble_eq_true rfl) ⟨Nat.le_of_ble_eq_true rfl, Nat.le_of_ble_eq_true rfl⟩ dX11_heard_54 (fun v S1 H locs hq hH => ?_)
      obtain ⟨r_9, F_9, rfl, e9, hp⟩ := hq
      rw [e9] at hH
      have hH : Hp G (FA S s.heap.size) s.heap (wI S F_9) H locs := hH
      refine W.eq (g2 := F0 m 57 ls [.int r_9]) rfl ?_
      exact sx_iret (pc := 57) B hH hr hlk (by rw [← hQQ]; exact ⟨_, F_9, rfl, rfl, hp⟩) (Nat.le_of_ble_eq_true rfl) (Nat.le_of_ble_eq_true rfl) dX11_heard_57
    · have hp := hp.2 cc_8
      refine lv_aload_n (pc := 40) hx hb dX11_heard_40 rfl (lv_at hl 2 rfl) ?_
      refine lv_bipush (pc := 41) (v := 6) hx hb dX11_heard_41 (by decide) ?_
      refine sx_V (pc := 43) (As := [.int 6]) (rest := []) B hH hl.1 (C_X11_refuse G l th 6 _ _ hp) mi_X11_refuse coX11 hk_th w_570 w_3 w_568 rfl rfl ⟨Nat.le_of_ble_eq_true rfl, Nat.le_of_ble_eq_true rfl⟩ (Nat.le_of_ble_eq_true rfl) ⟨Nat.le_of_ble_eq_true rfl, Nat.le_of_ble_eq_true rfl⟩ dX11_heard_43 (fun v S1 H locs hq hH => ?_)
      obtain ⟨r_10, F_10, rfl, e9, hp⟩ := hq
      rw [e9] at hH
      have hH : Hp G (FA S s.heap.size) s.heap (wI S F_10) H locs := hH
      refine W.eq (g2 := F0 m 46 ls [.int r_10]) rfl ?_
      refine lv_goto (pc := 46) (tgt := 57) hx hb dX11_heard_46 (by decide) ?_
      exact sx_iret (pc := 57) B hH hr hlk (by rw [← hQQ]; exact ⟨_, F_10, rfl, rfl, hp⟩) (Nat.le_of_ble_eq_true rfl) (Nat.le_of_ble_eq_true rfl) dX11_heard_57
  · have hp := hp.2 cc_2
    refine lv_aload_n (pc := 10) hx hb dX11_heard_10 rfl (lv_at hl 1 rfl) ?_
    refine lv_iload_n (pc := 11) hx hb dX11_heard_11 rfl (lv_at hl 0 rfl) ?_
    refine sx_V (pc := 12) (As := [.int r_1]) (rest := []) B hH hl.1 (C_X11_refuse G l th r_1 _ _ hp) mi_X11_refuse coX11 hk_th w_570 w_3 w_568 rfl rfl ⟨Nat.le_of_ble_eq_true rfl, Nat.le_of_ble_eq_true rfl⟩ (Nat.le_of_ble_eq_true rfl) ⟨Nat.le_of_ble_eq_true rfl, Nat.le_of_ble_eq_true rfl⟩ dX11_heard_12 (fun v S1 H locs hq hH => ?_)
    obtain ⟨r_11, F_11, rfl, e9, hp⟩ := hq
    rw [e9] at hH
    have hH : Hp G (FA S s.heap.size) s.heap (wI S F_11) H locs := hH
    refine W.eq (g2 := F0 m 15 ls [.int r_11]) rfl ?_
    exact sx_iret (pc := 15) B hH hr hlk (by rw [← hQQ]; exact ⟨_, F_11, rfl, rfl, hp⟩) (Nat.le_of_ble_eq_true rfl) (Nat.le_of_ble_eq_true rfl) dX11_heard_15
theorem dX11_heardAlike_0 : decode cX11_heardAlike 0 = .ok (.aload_n 0, 1) := by decide +kernel
theorem dX11_heardAlike_1 : decode cX11_heardAlike 1 = .ok (.getfield 70, 3) := by decide +kernel
theorem dX11_heardAlike_4 : decode cX11_heardAlike 4 = .ok (.ifnonnull 10, 3) := by decide +kernel
theorem dX11_heardAlike_7 : decode cX11_heardAlike 7 = .ok (.aload_n 0, 1) := by decide +kernel
theorem dX11_heardAlike_8 : decode cX11_heardAlike 8 = .ok (.bipush 6, 2) := by decide +kernel
theorem dX11_heardAlike_10 : decode cX11_heardAlike 10 = .ok (.invokevirtual 139, 3) := by decide +kernel
theorem dX11_heardAlike_13 : decode cX11_heardAlike 13 = .ok (.ireturn, 1) := by decide +kernel
theorem dX11_heardAlike_14 : decode cX11_heardAlike 14 = .ok (.aload_n 0, 1) := by decide +kernel
theorem dX11_heardAlike_15 : decode cX11_heardAlike 15 = .ok (.aload_n 0, 1) := by decide +kernel
theorem dX11_heardAlike_16 : decode cX11_heardAlike 16 = .ok (.getfield 70, 3) := by decide +kernel
theorem dX11_heardAlike_19 : decode cX11_heardAlike 19 = .ok (.aload_n 0, 1) := by decide +kernel
theorem dX11_heardAlike_20 : decode cX11_heardAlike 20 = .ok (.getfield 92, 3) := by decide +kernel
theorem dX11_heardAlike_23 : decode cX11_heardAlike 23 = .ok (.aload_n 0, 1) := by decide +kernel
theorem dX11_heardAlike_24 : decode cX11_heardAlike 24 = .ok (.getfield 62, 3) := by decide +kernel
theorem dX11_heardAlike_27 : decode cX11_heardAlike 27 = .ok (.getfield 194, 3) := by decide +kernel
theorem dX11_heardAlike_30 : decode cX11_heardAlike 30 = .ok (.invokevirtual 308, 3) := by decide +kernel
theorem dX11_heardAlike_33 : decode cX11_heardAlike 33 = .ok (.invokevirtual 170, 3) := by decide +kernel
theorem dX11_heardAlike_36 : decode cX11_heardAlike 36 = .ok (.ireturn, 1) := by decide +kernel
theorem mi_X11_heardAlike : MI yX11_heardAlike cX11_heardAlike 1 (some FieldType.int) 0 := ⟨w_1163, w_105, by decide +kernel, by decide +kernel, by decide +kernel⟩
set_option maxRecDepth 100000 in
set_option maxHeartbeats 4000000 in
theorem C_X11_heardAlike (G : GG) (l : Launch) (th : Nat) (S : St) (bc bs : Nat) (Q : Int32 → St → Prop) (hp : P_X11_heardAlike th S bc bs Q) : Ctr G l yX11_heardAlike cX11_heardAlike 1 (some FieldType.int) 3 72 bc bs [.ref th] S (fun (v : Option Value) (S9 : St) => ∃ r : Int32, v = some (.int r) ∧ Q r S9) := by
  generalize hQQ : (fun (v : Option Value) (S9 : St) => ∃ r : Int32, v = some (.int r) ∧ Q r S9) = QQ
  unfold P_X11_heardAlike at hp
  refine Ctr.of (by decide) (Nat.le_of_ble_eq_true rfl) ?_
  intro p e s m args below meth c ls B hr hlk hin hl hH
  generalize hlocs0 : ([] : List Loc) = locs at hH ⊢
  have hx := B.1
  have hb := B.2.1
  have hl : lv_has ls 1 [(0, .ref th)] := hl
  obtain ⟨hk_th, hp⟩ := hp
  refine lv_aload_n (pc := 0) hx hb dX11_heardAlike_0 rfl (lv_at hl 0 rfl) ?_
  refine sx_getR (pc := 1) (j := 9) B hH hk_th coX11 rfl w_465 rfl dX11_heardAlike_1 ?_
  refine W.eq (g2 := F0 m 4 ls [va_rf (gR S th 9)]) rfl ?_
  refine sx_ifnonnull (pc := 4) (r := gR S th 9) (tgt := 14) B dX11_heardAlike_4 (by decide) (fun cc_1 => ?_) (fun cc_1 => ?_)
  · have hp := hp.1 cc_1
    refine lv_aload_n (pc := 14) hx hb dX11_heardAlike_14 rfl (lv_at hl 0 rfl) ?_
    refine lv_aload_n (pc := 15) hx hb dX11_heardAlike_15 rfl (lv_at hl 0 rfl) ?_
    refine sx_getR (pc := 16) (j := 9) B hH hk_th coX11 rfl w_465 rfl dX11_heardAlike_16 ?_
    refine W.eq (g2 := F0 m 19 ls [va_rf (gR S th 9), .ref th]) rfl ?_
    obtain ⟨a_2, ha_2, hp⟩ := hp
    refine sx_nonnull (x := a_2) ha_2 ?_
    refine lv_aload_n (pc := 19) hx hb dX11_heardAlike_19 rfl (lv_at hl 0 rfl) ?_
    refine sx_getR (pc := 20) (j := 14) B hH hk_th coX11 rfl w_470 rfl dX11_heardAlike_20 ?_
    refine W.eq (g2 := F0 m 23 ls [va_rf (gR S th 14), .ref a_2, .ref th]) rfl ?_
    obtain ⟨a_3, ha_3, hp⟩ := hp
    refine sx_nonnull (x := a_3) ha_3 ?_
    refine lv_aload_n (pc := 23) hx hb dX11_heardAlike_23 rfl (lv_at hl 0 rfl) ?_
    refine sx_getR (pc := 24) (j := 7) B hH hk_th coX11 rfl w_463 rfl dX11_heardAlike_24 ?_
    refine W.eq (g2 := F0 m 27 ls [va_rf (gR S th 7), .ref a_3, .ref a_2, .ref th]) rfl ?_
    obtain ⟨a_4, ha_4, hp⟩ := hp
    refine sx_nonnull (x := a_4) ha_4 ?_
    obtain ⟨hk_5, hp⟩ := hp
    refine sx_getI (pc := 27) (j := 2) B hH hk_5 coX0 rfl w_363 rfl dX11_heardAlike_27 ?_
    refine W.eq (g2 := F0 m 30 ls [.int (gI S a_4 2), .ref a_3, .ref a_2, .ref th]) rfl ?_
    obtain ⟨hk_6, hp⟩ := hp
    obtain ⟨c_7, s_7, hb_7, hs_7, hp⟩ := hp
    refine sx_V (pc := 30) (As := [.ref a_3, .int (gI S a_4 2)]) (rest := [.ref th]) B hH hl.1 (C_X8_alike G l a_2 a_3 (gI S a_4 2) _ c_7 s_7 _ hp) mi_X8_alike coX8 hk_6 w_1095 w_1096 w_1094 rfl rfl ⟨Nat.le_of_ble_eq_true rfl, Nat.le_of_ble_eq_true rfl⟩ (Nat.le_of_ble_eq_true rfl) ⟨(show _ + c_7 ≤ bc by omega), (show _ + s_7 ≤ bs by omega)⟩ dX11_heardAlike_30 (fun v S1 H locs hq hH => ?_)
    obtain ⟨r_8, rfl, hp⟩ := hq
    obtain ⟨S_8, eS_8⟩ : ∃ z : St, z = S1 := ⟨_, rfl⟩
    rw [← eS_8] at hp hH
    refine W.eq (g2 := F0 m 33 ls [.int r_8, .ref th]) rfl ?_
    obtain ⟨hk_9, hp⟩ := hp
    refine sx_V (pc := 33) (As := [.int r_8]) (rest := []) B hH hl.1 (C_X11_answer G l th r_8 _ _ hp) mi_X11_answer coX11 hk_9 w_740 w_16 w_738 rfl rfl ⟨Nat.le_of_ble_eq_true rfl, Nat.le_of_ble_eq_true rfl⟩ (Nat.le_of_ble_eq_true rfl) ⟨(show _ + 0 ≤ bc by omega), (show _ + 0 ≤ bs by omega)⟩ dX11_heardAlike_33 (fun v S1 H locs hq hH => ?_)
    obtain ⟨r_10, F_10, rfl, e9, hp⟩ := hq
    rw [e9] at hH
    have hH : Hp G (FA S s.heap.size) s.heap (wI S_8 F_10) H locs := hH
    refine W.eq (g2 := F0 m 36 ls [.int r_10]) rfl ?_
    exact sx_iret (pc := 36) B hH hr hlk (by rw [← hQQ]; exact ⟨_, rfl, hp⟩) (show _ ≤ bc by omega) (show _ ≤ bs by omega) dX11_heardAlike_36
  · have hp := hp.2 cc_1
    refine lv_aload_n (pc := 7) hx hb dX11_heardAlike_7 rfl (lv_at hl 0 rfl) ?_
    refine lv_bipush (pc := 8) (v := 6) hx hb dX11_heardAlike_8 (by decide) ?_
    refine sx_V (pc := 10) (As := [.int 6]) (rest := []) B hH hl.1 (C_X11_refuse G l th 6 _ _ hp) mi_X11_refuse coX11 hk_th w_570 w_3 w_568 rfl rfl ⟨Nat.le_of_ble_eq_true rfl, Nat.le_of_ble_eq_true rfl⟩ (Nat.le_of_ble_eq_true rfl) ⟨(show _ + 0 ≤ bc by omega), (show _ + 0 ≤ bs by omega)⟩ dX11_heardAlike_10 (fun v S1 H locs hq hH => ?_)
    obtain ⟨r_11, F_11, rfl, e9, hp⟩ := hq
    rw [e9] at hH
    have hH : Hp G (FA S s.heap.size) s.heap (wI S F_11) H locs := hH
    refine W.eq (g2 := F0 m 13 ls [.int r_11]) rfl ?_
    exact sx_iret (pc := 13) B hH hr hlk (by rw [← hQQ]; exact ⟨_, rfl, hp⟩) (show _ ≤ bc by omega) (show _ ≤ bs by omega) dX11_heardAlike_13
theorem dX11_commonDivisor_0 : decode cX11_commonDivisor 0 = .ok (.iload_n 0, 1) := by decide +kernel
theorem dX11_commonDivisor_1 : decode cX11_commonDivisor 1 = .ok (.istore_n 2, 1) := by decide +kernel
theorem dX11_commonDivisor_2 : decode cX11_commonDivisor 2 = .ok (.iload_n 1, 1) := by decide +kernel
theorem dX11_commonDivisor_3 : decode cX11_commonDivisor 3 = .ok (.istore_n 3, 1) := by decide +kernel
theorem dX11_commonDivisor_4 : decode cX11_commonDivisor 4 = .ok (.iconst 0, 1) := by decide +kernel
theorem dX11_commonDivisor_5 : decode cX11_commonDivisor 5 = .ok (.istore 4, 2) := by decide +kernel
theorem dX11_commonDivisor_7 : decode cX11_commonDivisor 7 = .ok (.iload 4, 2) := by decide +kernel
theorem dX11_commonDivisor_9 : decode cX11_commonDivisor 9 = .ok (.bipush 64, 2) := by decide +kernel
theorem dX11_commonDivisor_11 : decode cX11_commonDivisor 11 = .ok (.if_icmp .ge 23, 3) := by decide +kernel
theorem dX11_commonDivisor_14 : decode cX11_commonDivisor 14 = .ok (.iload_n 3, 1) := by decide +kernel
theorem dX11_commonDivisor_15 : decode cX11_commonDivisor 15 = .ok (.ifCond .eq 19, 3) := by decide +kernel
theorem dX11_commonDivisor_18 : decode cX11_commonDivisor 18 = .ok (.iload_n 2, 1) := by decide +kernel
theorem dX11_commonDivisor_19 : decode cX11_commonDivisor 19 = .ok (.iload_n 3, 1) := by decide +kernel
theorem dX11_commonDivisor_20 : decode cX11_commonDivisor 20 = .ok (.irem, 1) := by decide +kernel
theorem dX11_commonDivisor_21 : decode cX11_commonDivisor 21 = .ok (.istore 5, 2) := by decide +kernel
theorem dX11_commonDivisor_23 : decode cX11_commonDivisor 23 = .ok (.iload_n 3, 1) := by decide +kernel
theorem dX11_commonDivisor_24 : decode cX11_commonDivisor 24 = .ok (.istore_n 2, 1) := by decide +kernel
theorem dX11_commonDivisor_25 : decode cX11_commonDivisor 25 = .ok (.iload 5, 2) := by decide +kernel
theorem dX11_commonDivisor_27 : decode cX11_commonDivisor 27 = .ok (.istore_n 3, 1) := by decide +kernel
theorem dX11_commonDivisor_28 : decode cX11_commonDivisor 28 = .ok (.iinc 4 1, 3) := by decide +kernel
theorem dX11_commonDivisor_31 : decode cX11_commonDivisor 31 = .ok (.goto (-24), 3) := by decide +kernel
theorem dX11_commonDivisor_34 : decode cX11_commonDivisor 34 = .ok (.iload_n 2, 1) := by decide +kernel
theorem dX11_commonDivisor_35 : decode cX11_commonDivisor 35 = .ok (.ireturn, 1) := by decide +kernel
theorem mi_X11_commonDivisor : MI yX11_commonDivisor cX11_commonDivisor 6 (some FieldType.int) 2 := ⟨w_1179, w_105, by decide +kernel, by decide +kernel, by decide +kernel⟩
set_option maxRecDepth 100000 in
set_option maxHeartbeats 4000000 in
theorem C_X11_commonDivisor (G : GG) (l : Launch) (p0 : Int32) (p1 : Int32) (S : St) (Q : Int32 → Prop) (hp : P_X11_commonDivisor p0 p1 Q) : Ctr G l yX11_commonDivisor cX11_commonDivisor 6 (some FieldType.int) 0 0 0 0 [.int p0, .int p1] S (fun (v : Option Value) (S9 : St) => ∃ (r : Int32), v = some (.int r) ∧ S9 = S ∧ Q r ) := by
  generalize hQQ : (fun (v : Option Value) (S9 : St) => ∃ (r : Int32), v = some (.int r) ∧ S9 = S ∧ Q r ) = QQ
  unfold P_X11_commonDivisor at hp
  refine Ctr.of (by decide) (Nat.le_of_ble_eq_true rfl) ?_
  intro p e s m args below meth c ls B hr hlk hin hl hH
  generalize hlocs0 : ([] : List Loc) = locs at hH ⊢
  have hx := B.1
  have hb := B.2.1
  have hl : lv_has ls 6 [(0, .int p0), (1, .int p1)] := hl
  refine lv_iload_n (pc := 0) hx hb dX11_commonDivisor_0 rfl (lv_at hl 0 rfl) ?_
  refine lv_istore_n (pc := 1) (lv' := [(2, .int p0), (0, .int p0), (1, .int p1)]) hx hb dX11_commonDivisor_1 rfl hl (by decide) rfl (fun ls hl => ?_)
  refine lv_iload_n (pc := 2) hx hb dX11_commonDivisor_2 rfl (lv_at hl 2 rfl) ?_
  refine lv_istore_n (pc := 3) (lv' := [(3, .int p1), (2, .int p0), (0, .int p0), (1, .int p1)]) hx hb dX11_commonDivisor_3 rfl hl (by decide) rfl (fun ls hl => ?_)
  refine lv_iconst (pc := 4) (v := 0) hx hb dX11_commonDivisor_4 (by decide) ?_
  refine lv_istore (pc := 5) (lv' := [(4, .int 0), (3, .int p1), (2, .int p0), (0, .int p0), (1, .int p1)]) hx hb dX11_commonDivisor_5 hl (by decide) rfl (fun ls hl => ?_)
  obtain ⟨I_1, ⟨k0_1, h0_1⟩, hst_1⟩ := hp
  have kl_1 : ∀ (n_1 : Nat) (x2_2 : Int32) (x3_3 : Int32) (x4_4 : Int32) (H : Heap) (locs : List Loc) (ls : Array Slot), I_1 n_1 x2_2 x3_3 x4_4 → Hp G (FA S s.heap.size) s.heap S H locs → lv_has ls 6 [(2, .int x2_2), (3, .int x3_3), (4, .int x4_4)] → Wm G p l e { frames := 0, cells := 0, slots := 0, locals := 0 } s m args below meth c S QQ 0 0 H locs 0 0 (F0 m 7 ls []) := by
    intro n_1
    induction n_1 using Nat.strongRecOn with
    | ind n_1 ih_1 =>
      intro x2_2 x3_3 x4_4 H locs ls hq9 hH hl
      have hp := hst_1 n_1 x2_2 x3_3 x4_4 hq9
      refine lv_iload (pc := 7) hx hb dX11_commonDivisor_7 (lv_at hl 2 rfl) ?_
      refine lv_bipush (pc := 9) (v := 64) hx hb dX11_commonDivisor_9 (by decide) ?_
      refine lv_icmp_ge (pc := 11) (tgt := 34) hx hb dX11_commonDivisor_11 (by decide) (fun cc_5 => ?_) (fun cc_5 => ?_)
      · have hp := hp.1 cc_5
        refine lv_iload_n (pc := 34) hx hb dX11_commonDivisor_34 rfl (lv_at hl 0 rfl) ?_
        exact sx_iret (pc := 35) B hH hr hlk (by rw [← hQQ]; exact ⟨_, rfl, rfl, hp⟩) (Nat.le_of_ble_eq_true rfl) (Nat.le_of_ble_eq_true rfl) dX11_commonDivisor_35
      · have hp := hp.2 cc_5
        refine lv_iload_n (pc := 14) hx hb dX11_commonDivisor_14 rfl (lv_at hl 1 rfl) ?_
        refine lv_if_eq (pc := 15) (tgt := 34) hx hb dX11_commonDivisor_15 (by decide) (fun cc_6 => ?_) (fun cc_6 => ?_)
        · have hp := hp.1 cc_6
          refine lv_iload_n (pc := 34) hx hb dX11_commonDivisor_34 rfl (lv_at hl 0 rfl) ?_
          exact sx_iret (pc := 35) B hH hr hlk (by rw [← hQQ]; exact ⟨_, rfl, rfl, hp⟩) (Nat.le_of_ble_eq_true rfl) (Nat.le_of_ble_eq_true rfl) dX11_commonDivisor_35
        · have hp := hp.2 cc_6
          refine lv_iload_n (pc := 18) hx hb dX11_commonDivisor_18 rfl (lv_at hl 0 rfl) ?_
          refine lv_iload_n (pc := 19) hx hb dX11_commonDivisor_19 rfl (lv_at hl 1 rfl) ?_
          obtain ⟨hc_7, hp⟩ := hp
          refine lv_irem (pc := 20) hx hb dX11_commonDivisor_20 hc_7 ?_
          refine W.eq (g2 := F0 m 21 ls [.int (irm x2_2 x3_3)]) rfl ?_
          refine lv_topi (fun v_8 ev_8 => ?_)
          have hp := hp v_8 ev_8
          refine lv_istore (pc := 21) (lv' := [(5, .int v_8), (2, .int x2_2), (3, .int x3_3), (4, .int x4_4)]) hx hb dX11_commonDivisor_21 hl (by decide) rfl (fun ls hl => ?_)
          refine lv_iload_n (pc := 23) hx hb dX11_commonDivisor_23 rfl (lv_at hl 2 rfl) ?_
          refine lv_istore_n (pc := 24) (lv' := [(2, .int x3_3), (5, .int v_8), (3, .int x3_3), (4, .int x4_4)]) hx hb dX11_commonDivisor_24 rfl hl (by decide) rfl (fun ls hl => ?_)
          refine lv_iload (pc := 25) hx hb dX11_commonDivisor_25 (lv_at hl 1 rfl) ?_
          refine lv_istore_n (pc := 27) (lv' := [(3, .int v_8), (2, .int x3_3), (5, .int v_8), (4, .int x4_4)]) hx hb dX11_commonDivisor_27 rfl hl (by decide) rfl (fun ls hl => ?_)
          obtain ⟨v_9, ev_9⟩ : ∃ y : Int32, y = x4_4 + 1 := ⟨_, rfl⟩
          have hp := hp v_9 ev_9
          refine lv_iinc (pc := 28) (v := v_9) (lv' := [(4, .int v_9), (3, .int v_8), (2, .int x3_3), (5, .int v_8)]) hx hb dX11_commonDivisor_28 hl (k := 3) rfl (by rw [ev_9]; rfl) (by decide) rfl (fun ls hl => ?_)
          refine lv_goto (pc := 31) (tgt := 7) hx hb dX11_commonDivisor_31 (by decide) ?_
          obtain ⟨k9, hlt9, hp⟩ := hp
          exact ih_1 k9 hlt9 _ _ _ _ _ _ hp hH (lv_sub hl [2, 1, 0] rfl)
  exact kl_1 k0_1 _ _ _ _ _ _ h0_1 hH (lv_sub hl [2, 1, 0] rfl)
theorem dX11_tellFraction_0 : decode cX11_tellFraction 0 = .ok (.iload_n 1, 1) := by decide +kernel
theorem dX11_tellFraction_1 : decode cX11_tellFraction 1 = .ok (.iload_n 2, 1) := by decide +kernel
theorem dX11_tellFraction_2 : decode cX11_tellFraction 2 = .ok (.invokestatic 378, 3) := by decide +kernel
theorem dX11_tellFraction_5 : decode cX11_tellFraction 5 = .ok (.istore_n 3, 1) := by decide +kernel
theorem dX11_tellFraction_6 : decode cX11_tellFraction 6 = .ok (.iload_n 3, 1) := by decide +kernel
theorem dX11_tellFraction_7 : decode cX11_tellFraction 7 = .ok (.ifCond .le 19, 3) := by decide +kernel
theorem dX11_tellFraction_10 : decode cX11_tellFraction 10 = .ok (.aload_n 0, 1) := by decide +kernel
theorem dX11_tellFraction_11 : decode cX11_tellFraction 11 = .ok (.iload_n 1, 1) := by decide +kernel
theorem dX11_tellFraction_12 : decode cX11_tellFraction 12 = .ok (.iload_n 3, 1) := by decide +kernel
theorem dX11_tellFraction_13 : decode cX11_tellFraction 13 = .ok (.idiv, 1) := by decide +kernel
theorem dX11_tellFraction_14 : decode cX11_tellFraction 14 = .ok (.i2l, 1) := by decide +kernel
theorem dX11_tellFraction_15 : decode cX11_tellFraction 15 = .ok (.putfield 13, 3) := by decide +kernel
theorem dX11_tellFraction_18 : decode cX11_tellFraction 18 = .ok (.aload_n 0, 1) := by decide +kernel
theorem dX11_tellFraction_19 : decode cX11_tellFraction 19 = .ok (.iload_n 2, 1) := by decide +kernel
theorem dX11_tellFraction_20 : decode cX11_tellFraction 20 = .ok (.iload_n 3, 1) := by decide +kernel
theorem dX11_tellFraction_21 : decode cX11_tellFraction 21 = .ok (.idiv, 1) := by decide +kernel
theorem dX11_tellFraction_22 : decode cX11_tellFraction 22 = .ok (.i2l, 1) := by decide +kernel
theorem dX11_tellFraction_23 : decode cX11_tellFraction 23 = .ok (.putfield 17, 3) := by decide +kernel
theorem dX11_tellFraction_26 : decode cX11_tellFraction 26 = .ok (.return_, 1) := by decide +kernel
theorem mi_X11_tellFraction : MI yX11_tellFraction cX11_tellFraction 4 (none : Option Jvm.ClassFile.FieldType) 2 := ⟨w_1176, w_105, by decide +kernel, by decide +kernel, by decide +kernel⟩
set_option maxRecDepth 100000 in
set_option maxHeartbeats 4000000 in
theorem C_X11_tellFraction (G : GG) (l : Launch) (th : Nat) (p0 : Int32) (p1 : Int32) (S : St) (Q : (Nat → Nat → Int64) → Prop) (hp : P_X11_tellFraction th p0 p1 S Q) : Ctr G l yX11_tellFraction cX11_tellFraction 4 (none : Option Jvm.ClassFile.FieldType) 1 25 0 0 [.ref th, .int p0, .int p1] S (fun (v : Option Value) (S9 : St) => ∃ (J9 : Nat → Nat → Int64), v = none ∧ S9 = wA S (gI S) J9 (gR S) ∧ Q J9) := by
  generalize hQQ : (fun (v : Option Value) (S9 : St) => ∃ (J9 : Nat → Nat → Int64), v = none ∧ S9 = wA S (gI S) J9 (gR S) ∧ Q J9) = QQ
  unfold P_X11_tellFraction at hp
  refine Ctr.of (by decide) (Nat.le_of_ble_eq_true rfl) ?_
  intro p e s m args below meth c ls B hr hlk hin hl hH
  generalize hlocs0 : ([] : List Loc) = locs at hH ⊢
  have hx := B.1
  have hb := B.2.1
  have hl : lv_has ls 4 [(0, .ref th), (1, .int p0), (2, .int p1)] := hl
  obtain ⟨hk_th, hp⟩ := hp
  refine lv_iload_n (pc := 0) hx hb dX11_tellFraction_0 rfl (lv_at hl 1 rfl) ?_
  refine lv_iload_n (pc := 1) hx hb dX11_tellFraction_1 rfl (lv_at hl 2 rfl) ?_
  refine sx_S (pc := 2) (As := [.int p0, .int p1]) (rest := []) B hH hl.1 (C_X11_commonDivisor G l p0 p1 _ _ hp) mi_X11_commonDivisor w_1178 w_1177 rfl rfl ⟨Nat.le_of_ble_eq_true rfl, Nat.le_of_ble_eq_true rfl⟩ (Nat.le_of_ble_eq_true rfl) ⟨Nat.le_of_ble_eq_true rfl, Nat.le_of_ble_eq_true rfl⟩ dX11_tellFraction_2 (fun v S1 H locs hq hH => ?_)
  obtain ⟨r_1, rfl, e9, hp⟩ := hq
  rw [e9] at hH
  refine W.eq (g2 := F0 m 5 ls [.int r_1]) rfl ?_
  refine lv_istore_n (pc := 5) (lv' := [(3, .int r_1), (0, .ref th), (1, .int p0), (2, .int p1)]) hx hb dX11_tellFraction_5 rfl hl (by decide) rfl (fun ls hl => ?_)
  refine lv_iload_n (pc := 6) hx hb dX11_tellFraction_6 rfl (lv_at hl 0 rfl) ?_
  refine lv_if_le (pc := 7) (tgt := 26) hx hb dX11_tellFraction_7 (by decide) (fun cc_2 => ?_) (fun cc_2 => ?_)
  · have hp := hp.1 cc_2
    exact sx_vret (pc := 26) B hH hr hlk (by rw [← hQQ]; exact ⟨(gJ S), rfl, rfl, hp⟩) (Nat.le_of_ble_eq_true rfl) (Nat.le_of_ble_eq_true rfl) dX11_tellFraction_26
  · have hp := hp.2 cc_2
    refine lv_aload_n (pc := 10) hx hb dX11_tellFraction_10 rfl (lv_at hl 1 rfl) ?_
    refine lv_iload_n (pc := 11) hx hb dX11_tellFraction_11 rfl (lv_at hl 2 rfl) ?_
    refine lv_iload_n (pc := 12) hx hb dX11_tellFraction_12 rfl (lv_at hl 0 rfl) ?_
    obtain ⟨hc_3, hp⟩ := hp
    refine lv_idiv (pc := 13) hx hb dX11_tellFraction_13 hc_3 ?_
    refine lv_i2l (pc := 14) (v := (p0 / r_1).toInt64) hx hb dX11_tellFraction_14 rfl ?_
    refine lv_topl (fun v_4 ev_4 => ?_)
    have hp := hp v_4 ev_4
    obtain ⟨J_5, eJ_5⟩ : ∃ z : Nat → Nat → Int64, z = upJ (gJ S) th 1 v_4 := ⟨_, rfl⟩
    have hp := hp J_5 eJ_5
    refine sx_putJ (pc := 15) (j := 1) B hH hk_th coX11 rfl w_457 rfl (Or.inl rfl) rfl dX11_tellFraction_15 (fun H locs hH => ?_)
    have hH : Hp G (FA S s.heap.size) s.heap (wA S (gI S) J_5 (gR S)) H locs := by rw [eJ_5]; exact hH
    refine lv_aload_n (pc := 18) hx hb dX11_tellFraction_18 rfl (lv_at hl 1 rfl) ?_
    refine lv_iload_n (pc := 19) hx hb dX11_tellFraction_19 rfl (lv_at hl 3 rfl) ?_
    refine lv_iload_n (pc := 20) hx hb dX11_tellFraction_20 rfl (lv_at hl 0 rfl) ?_
    obtain ⟨hc_6, hp⟩ := hp
    refine lv_idiv (pc := 21) hx hb dX11_tellFraction_21 hc_6 ?_
    refine lv_i2l (pc := 22) (v := (p1 / r_1).toInt64) hx hb dX11_tellFraction_22 rfl ?_
    refine lv_topl (fun v_7 ev_7 => ?_)
    have hp := hp v_7 ev_7
    obtain ⟨J_8, eJ_8⟩ : ∃ z : Nat → Nat → Int64, z = upJ J_5 th 2 v_7 := ⟨_, rfl⟩
    have hp := hp J_8 eJ_8
    refine sx_putJ (pc := 23) (j := 2) B hH hk_th coX11 rfl w_458 rfl (Or.inl rfl) rfl dX11_tellFraction_23 (fun H locs hH => ?_)
    have hH : Hp G (FA S s.heap.size) s.heap (wA S (gI S) J_8 (gR S)) H locs := by rw [eJ_8]; exact hH
    exact sx_vret (pc := 26) B hH hr hlk (by rw [← hQQ]; exact ⟨J_8, rfl, rfl, hp⟩) (Nat.le_of_ble_eq_true rfl) (Nat.le_of_ble_eq_true rfl) dX11_tellFraction_26
theorem dX11_evens_0 : decode cX11_evens 0 = .ok (.aload_n 0, 1) := by decide +kernel
theorem dX11_evens_1 : decode cX11_evens 1 = .ok (.getfield 70, 3) := by decide +kernel
theorem dX11_evens_4 : decode cX11_evens 4 = .ok (.ifnull 13, 3) := by decide +kernel
theorem dX11_evens_7 : decode cX11_evens 7 = .ok (.aload_n 0, 1) := by decide +kernel
theorem dX11_evens_8 : decode cX11_evens 8 = .ok (.getfield 70, 3) := by decide +kernel
theorem dX11_evens_11 : decode cX11_evens 11 = .ok (.invokevirtual 197, 3) := by decide +kernel
theorem dX11_evens_14 : decode cX11_evens 14 = .ok (.ifCond .ne 10, 3) := by decide +kernel
theorem dX11_evens_17 : decode cX11_evens 17 = .ok (.aload_n 0, 1) := by decide +kernel
theorem dX11_evens_18 : decode cX11_evens 18 = .ok (.bipush 6, 2) := by decide +kernel
theorem dX11_evens_20 : decode cX11_evens 20 = .ok (.invokevirtual 114, 3) := by decide +kernel
theorem dX11_evens_23 : decode cX11_evens 23 = .ok (.ireturn, 1) := by decide +kernel
theorem dX11_evens_24 : decode cX11_evens 24 = .ok (.aload_n 0, 1) := by decide +kernel
theorem dX11_evens_25 : decode cX11_evens 25 = .ok (.aload_n 0, 1) := by decide +kernel
theorem dX11_evens_26 : decode cX11_evens 26 = .ok (.getfield 70, 3) := by decide +kernel
theorem dX11_evens_29 : decode cX11_evens 29 = .ok (.invokevirtual 331, 3) := by decide +kernel
theorem dX11_evens_32 : decode cX11_evens 32 = .ok (.aload_n 0, 1) := by decide +kernel
theorem dX11_evens_33 : decode cX11_evens 33 = .ok (.getfield 70, 3) := by decide +kernel
theorem dX11_evens_36 : decode cX11_evens 36 = .ok (.invokevirtual 197, 3) := by decide +kernel
theorem dX11_evens_39 : decode cX11_evens 39 = .ok (.invokevirtual 334, 3) := by decide +kernel
theorem dX11_evens_42 : decode cX11_evens 42 = .ok (.aload_n 0, 1) := by decide +kernel
theorem dX11_evens_43 : decode cX11_evens 43 = .ok (.invokevirtual 120, 3) := by decide +kernel
theorem dX11_evens_46 : decode cX11_evens 46 = .ok (.ireturn, 1) := by decide +kernel
theorem mi_X11_evens : MI yX11_evens cX11_evens 1 (some FieldType.boolean) 0 := ⟨w_1167, w_105, by decide +kernel, by decide +kernel, by decide +kernel⟩
set_option maxRecDepth 100000 in
set_option maxHeartbeats 4000000 in
theorem C_X11_evens (G : GG) (l : Launch) (th : Nat) (S : St) (Q : Int32 → (Nat → Nat → Int32) → (Nat → Nat → Int64) → Prop) (hp : P_X11_evens th S Q) : Ctr G l yX11_evens cX11_evens 1 (some FieldType.boolean) 3 68 0 0 [.ref th] S (fun (v : Option Value) (S9 : St) => ∃ (r : Int32) (I9 : Nat → Nat → Int32) (J9 : Nat → Nat → Int64), v = some (.int r) ∧ S9 = wA S I9 J9 (gR S) ∧ Q r I9 J9) := by
  generalize hQQ : (fun (v : Option Value) (S9 : St) => ∃ (r : Int32) (I9 : Nat → Nat → Int32) (J9 : Nat → Nat → Int64), v = some (.int r) ∧ S9 = wA S I9 J9 (gR S) ∧ Q r I9 J9) = QQ
  unfold P_X11_evens at hp
  refine Ctr.of (by decide) (Nat.le_of_ble_eq_true rfl) ?_
  intro p e s m args below meth c ls B hr hlk hin hl hH
  generalize hlocs0 : ([] : List Loc) = locs at hH ⊢
  have hx := B.1
  have hb := B.2.1
  have hl : lv_has ls 1 [(0, .ref th)] := hl
  obtain ⟨hk_th, hp⟩ := hp
  refine lv_aload_n (pc := 0) hx hb dX11_evens_0 rfl (lv_at hl 0 rfl) ?_
  refine sx_getR (pc := 1) (j := 9) B hH hk_th coX11 rfl w_465 rfl dX11_evens_1 ?_
  refine W.eq (g2 := F0 m 4 ls [va_rf (gR S th 9)]) rfl ?_
  obtain ⟨J_2, hj_2, hp⟩ := hp
  have kj_2 : ∀  (H : Heap) (locs : List Loc) (ls : Array Slot), J_2  → Hp G (FA S s.heap.size) s.heap S H locs → lv_has ls 1 [(0, .ref th)] → Wm G p l e { frames := 3, cells := 0, slots := 0, locals := 68 } s m args below meth c S QQ 0 0 H locs 0 0 (F0 m 17 ls []) := by
    intro  H locs ls hq9 hH hl
    have hp := hj_2  hq9
    refine lv_aload_n (pc := 17) hx hb dX11_evens_17 rfl (lv_at hl 0 rfl) ?_
    refine lv_bipush (pc := 18) (v := 6) hx hb dX11_evens_18 (by decide) ?_
    refine sx_V (pc := 20) (As := [.int 6]) (rest := []) B hH hl.1 (C_X11_deny G l th 6 _ _ hp) mi_X11_deny coX11 hk_th w_529 w_0 w_527 rfl rfl ⟨Nat.le_of_ble_eq_true rfl, Nat.le_of_ble_eq_true rfl⟩ (Nat.le_of_ble_eq_true rfl) ⟨Nat.le_of_ble_eq_true rfl, Nat.le_of_ble_eq_true rfl⟩ dX11_evens_20 (fun v S1 H locs hq hH => ?_)
    obtain ⟨r_3, F_3, rfl, e9, hp⟩ := hq
    rw [e9] at hH
    have hH : Hp G (FA S s.heap.size) s.heap (wI S F_3) H locs := hH
    refine W.eq (g2 := F0 m 23 ls [.int r_3]) rfl ?_
    obtain ⟨hz, hp⟩ := hp
    exact sx_zret (pc := 23) B hH hr hlk hz (by rw [← hQQ]; exact ⟨_, F_3, (gJ S), rfl, rfl, hp⟩) (Nat.le_of_ble_eq_true rfl) (Nat.le_of_ble_eq_true rfl) dX11_evens_23
  refine sx_ifnull (pc := 4) (r := gR S th 9) (tgt := 17) B dX11_evens_4 (by decide) (fun cc_1 => ?_) (fun cc_1 => ?_)
  · have hp := hp.1 cc_1
    exact kj_2  _ _ _ hp hH (lv_sub hl [0] rfl)
  · have hp := hp.2 cc_1
    refine lv_aload_n (pc := 7) hx hb dX11_evens_7 rfl (lv_at hl 0 rfl) ?_
    refine sx_getR (pc := 8) (j := 9) B hH hk_th coX11 rfl w_465 rfl dX11_evens_8 ?_
    refine W.eq (g2 := F0 m 11 ls [va_rf (gR S th 9)]) rfl ?_
    obtain ⟨a_4, ha_4, hp⟩ := hp
    refine sx_nonnull (x := a_4) ha_4 ?_
    obtain ⟨hk_5, hp⟩ := hp
    refine sx_V (pc := 11) (As := []) (rest := []) B hH hl.1 (C_X8_last G l a_4 _ _ hp) mi_X8_last coX8 hk_5 w_846 w_847 w_845 rfl rfl ⟨Nat.le_of_ble_eq_true rfl, Nat.le_of_ble_eq_true rfl⟩ (Nat.le_of_ble_eq_true rfl) ⟨Nat.le_of_ble_eq_true rfl, Nat.le_of_ble_eq_true rfl⟩ dX11_evens_11 (fun v S1 H locs hq hH => ?_)
    obtain ⟨r_6, rfl, e9, hp⟩ := hq
    rw [e9] at hH
    refine W.eq (g2 := F0 m 14 ls [.int r_6]) rfl ?_
    refine lv_if_ne (pc := 14) (tgt := 24) hx hb dX11_evens_14 (by decide) (fun cc_7 => ?_) (fun cc_7 => ?_)
    · have hp := hp.1 cc_7
      refine lv_aload_n (pc := 24) hx hb dX11_evens_24 rfl (lv_at hl 0 rfl) ?_
      refine lv_aload_n (pc := 25) hx hb dX11_evens_25 rfl (lv_at hl 0 rfl) ?_
      refine sx_getR (pc := 26) (j := 9) B hH hk_th coX11 rfl w_465 rfl dX11_evens_26 ?_
      refine W.eq (g2 := F0 m 29 ls [va_rf (gR S th 9), .ref th]) rfl ?_
      refine sx_nonnull (x := a_4) ha_4 ?_
      refine sx_V (pc := 29) (As := []) (rest := [.ref th]) B hH hl.1 (C_X8_evenRows G l a_4 _ _ hp) mi_X8_evenRows coX8 hk_5 w_1169 w_1170 w_1168 rfl rfl ⟨Nat.le_of_ble_eq_true rfl, Nat.le_of_ble_eq_true rfl⟩ (Nat.le_of_ble_eq_true rfl) ⟨Nat.le_of_ble_eq_true rfl, Nat.le_of_ble_eq_true rfl⟩ dX11_evens_29 (fun v S1 H locs hq hH => ?_)
      obtain ⟨r_8, rfl, e9, hp⟩ := hq
      rw [e9] at hH
      refine W.eq (g2 := F0 m 32 ls [.int r_8, .ref th]) rfl ?_
      refine lv_aload_n (pc := 32) hx hb dX11_evens_32 rfl (lv_at hl 0 rfl) ?_
      refine sx_getR (pc := 33) (j := 9) B hH hk_th coX11 rfl w_465 rfl dX11_evens_33 ?_
      refine W.eq (g2 := F0 m 36 ls [va_rf (gR S th 9), .int r_8, .ref th]) rfl ?_
      refine sx_nonnull (x := a_4) ha_4 ?_
      refine sx_V (pc := 36) (As := []) (rest := [.int r_8, .ref th]) B hH hl.1 (C_X8_last G l a_4 _ _ hp) mi_X8_last coX8 hk_5 w_846 w_847 w_845 rfl rfl ⟨Nat.le_of_ble_eq_true rfl, Nat.le_of_ble_eq_true rfl⟩ (Nat.le_of_ble_eq_true rfl) ⟨Nat.le_of_ble_eq_true rfl, Nat.le_of_ble_eq_true rfl⟩ dX11_evens_36 (fun v S1 H locs hq hH => ?_)
      obtain ⟨r_9, rfl, e9, hp⟩ := hq
      rw [e9] at hH
      refine W.eq (g2 := F0 m 39 ls [.int r_9, .int r_8, .ref th]) rfl ?_
      refine sx_V (pc := 39) (As := [.int r_8, .int r_9]) (rest := []) B hH hl.1 (C_X11_tellFraction G l th r_8 r_9 _ _ hp) mi_X11_tellFraction coX11 hk_th w_1175 w_35 w_1173 rfl rfl ⟨Nat.le_of_ble_eq_true rfl, Nat.le_of_ble_eq_true rfl⟩ (Nat.le_of_ble_eq_true rfl) ⟨Nat.le_of_ble_eq_true rfl, Nat.le_of_ble_eq_true rfl⟩ dX11_evens_39 (fun v S1 H locs hq hH => ?_)
      obtain ⟨J_10, rfl, e9, hp⟩ := hq
      rw [e9] at hH
      have hH : Hp G (FA S s.heap.size) s.heap (wA S (gI S) J_10 (gR S)) H locs := hH
      refine W.eq (g2 := F0 m 42 ls []) rfl ?_
      refine lv_aload_n (pc := 42) hx hb dX11_evens_42 rfl (lv_at hl 0 rfl) ?_
      refine sx_V (pc := 43) (As := []) (rest := []) B hH hl.1 (C_X11_grant G l th _ _ hp) mi_X11_grant coX11 hk_th w_547 w_1 w_545 rfl rfl ⟨Nat.le_of_ble_eq_true rfl, Nat.le_of_ble_eq_true rfl⟩ (Nat.le_of_ble_eq_true rfl) ⟨Nat.le_of_ble_eq_true rfl, Nat.le_of_ble_eq_true rfl⟩ dX11_evens_43 (fun v S1 H locs hq hH => ?_)
      obtain ⟨r_11, F_11, rfl, e9, hp⟩ := hq
      rw [e9] at hH
      have hH : Hp G (FA S s.heap.size) s.heap (wA S F_11 J_10 (gR S)) H locs := hH
      refine W.eq (g2 := F0 m 46 ls [.int r_11]) rfl ?_
      obtain ⟨hz, hp⟩ := hp
      exact sx_zret (pc := 46) B hH hr hlk hz (by rw [← hQQ]; exact ⟨_, F_11, J_10, rfl, rfl, hp⟩) (Nat.le_of_ble_eq_true rfl) (Nat.le_of_ble_eq_true rfl) dX11_evens_46
    · have hp := hp.2 cc_7
      exact kj_2  _ _ _ hp hH (lv_sub hl [0] rfl)
theorem dX11_isSeed_0 : decode cX11_isSeed 0 = .ok (.iload_n 0, 1) := by decide +kernel
theorem dX11_isSeed_1 : decode cX11_isSeed 1 = .ok (.ifCond .lt 14, 3) := by decide +kernel
theorem dX11_isSeed_4 : decode cX11_isSeed 4 = .ok (.iload_n 0, 1) := by decide +kernel
theorem dX11_isSeed_5 : decode cX11_isSeed 5 = .ok (.sipush 9999, 3) := by decide +kernel
theorem dX11_isSeed_8 : decode cX11_isSeed 8 = .ok (.if_icmp .gt 7, 3) := by decide +kernel
theorem dX11_isSeed_11 : decode cX11_isSeed 11 = .ok (.iconst 1, 1) := by decide +kernel
theorem dX11_isSeed_12 : decode cX11_isSeed 12 = .ok (.goto 4, 3) := by decide +kernel
theorem dX11_isSeed_15 : decode cX11_isSeed 15 = .ok (.iconst 0, 1) := by decide +kernel
theorem dX11_isSeed_16 : decode cX11_isSeed 16 = .ok (.ireturn, 1) := by decide +kernel
theorem mi_X11_isSeed : MI yX11_isSeed cX11_isSeed 1 (some FieldType.boolean) 1 := ⟨w_1186, w_105, by decide +kernel, by decide +kernel, by decide +kernel⟩
set_option maxRecDepth 100000 in
set_option maxHeartbeats 4000000 in
theorem C_X11_isSeed (G : GG) (l : Launch) (p0 : Int32) (S : St) (Q : Int32 → Prop) (hp : P_X11_isSeed p0 Q) : Ctr G l yX11_isSeed cX11_isSeed 1 (some FieldType.boolean) 0 0 0 0 [.int p0] S (fun (v : Option Value) (S9 : St) => ∃ (r : Int32), v = some (.int r) ∧ S9 = S ∧ Q r ) := by
  generalize hQQ : (fun (v : Option Value) (S9 : St) => ∃ (r : Int32), v = some (.int r) ∧ S9 = S ∧ Q r ) = QQ
  unfold P_X11_isSeed at hp
  refine Ctr.of (by decide) (Nat.le_of_ble_eq_true rfl) ?_
  intro p e s m args below meth c ls B hr hlk hin hl hH
  generalize hlocs0 : ([] : List Loc) = locs at hH ⊢
  have hx := B.1
  have hb := B.2.1
  have hl : lv_has ls 1 [(0, .int p0)] := hl
  refine lv_iload_n (pc := 0) hx hb dX11_isSeed_0 rfl (lv_at hl 0 rfl) ?_
  refine lv_if_lt (pc := 1) (tgt := 15) hx hb dX11_isSeed_1 (by decide) (fun cc_1 => ?_) (fun cc_1 => ?_)
  · have hp := hp.1 cc_1
    refine lv_iconst (pc := 15) (v := 0) hx hb dX11_isSeed_15 (by decide) ?_
    exact sx_zret (pc := 16) B hH hr hlk (Or.inl rfl) (by rw [← hQQ]; exact ⟨_, rfl, rfl, hp⟩) (Nat.le_of_ble_eq_true rfl) (Nat.le_of_ble_eq_true rfl) dX11_isSeed_16
  · have hp := hp.2 cc_1
    refine lv_iload_n (pc := 4) hx hb dX11_isSeed_4 rfl (lv_at hl 0 rfl) ?_
    refine lv_sipush (pc := 5) (v := 9999) hx hb dX11_isSeed_5 (by decide) ?_
    refine lv_icmp_gt (pc := 8) (tgt := 15) hx hb dX11_isSeed_8 (by decide) (fun cc_2 => ?_) (fun cc_2 => ?_)
    · have hp := hp.1 cc_2
      refine lv_iconst (pc := 15) (v := 0) hx hb dX11_isSeed_15 (by decide) ?_
      exact sx_zret (pc := 16) B hH hr hlk (Or.inl rfl) (by rw [← hQQ]; exact ⟨_, rfl, rfl, hp⟩) (Nat.le_of_ble_eq_true rfl) (Nat.le_of_ble_eq_true rfl) dX11_isSeed_16
    · have hp := hp.2 cc_2
      refine lv_iconst (pc := 11) (v := 1) hx hb dX11_isSeed_11 (by decide) ?_
      refine lv_goto (pc := 12) (tgt := 16) hx hb dX11_isSeed_12 (by decide) ?_
      exact sx_zret (pc := 16) B hH hr hlk (Or.inr rfl) (by rw [← hQQ]; exact ⟨_, rfl, rfl, hp⟩) (Nat.le_of_ble_eq_true rfl) (Nat.le_of_ble_eq_true rfl) dX11_isSeed_16
theorem dX11_strayed_0 : decode cX11_strayed 0 = .ok (.iload_n 1, 1) := by decide +kernel
theorem dX11_strayed_1 : decode cX11_strayed 1 = .ok (.invokestatic 337, 3) := by decide +kernel
theorem dX11_strayed_4 : decode cX11_strayed 4 = .ok (.ifCond .eq 13, 3) := by decide +kernel
theorem dX11_strayed_7 : decode cX11_strayed 7 = .ok (.iload_n 2, 1) := by decide +kernel
theorem dX11_strayed_8 : decode cX11_strayed 8 = .ok (.ifCond .lt 9, 3) := by decide +kernel
theorem dX11_strayed_11 : decode cX11_strayed 11 = .ok (.iload_n 2, 1) := by decide +kernel
theorem dX11_strayed_12 : decode cX11_strayed 12 = .ok (.bipush 16, 2) := by decide +kernel
theorem dX11_strayed_14 : decode cX11_strayed 14 = .ok (.if_icmp .le 9, 3) := by decide +kernel
theorem dX11_strayed_17 : decode cX11_strayed 17 = .ok (.aload_n 0, 1) := by decide +kernel
theorem dX11_strayed_18 : decode cX11_strayed 18 = .ok (.iconst 1, 1) := by decide +kernel
theorem dX11_strayed_19 : decode cX11_strayed 19 = .ok (.invokevirtual 139, 3) := by decide +kernel
theorem dX11_strayed_22 : decode cX11_strayed 22 = .ok (.ireturn, 1) := by decide +kernel
theorem dX11_strayed_23 : decode cX11_strayed 23 = .ok (.aload_n 0, 1) := by decide +kernel
theorem dX11_strayed_24 : decode cX11_strayed 24 = .ok (.getfield 66, 3) := by decide +kernel
theorem dX11_strayed_27 : decode cX11_strayed 27 = .ok (.ifnonnull 10, 3) := by decide +kernel
theorem dX11_strayed_30 : decode cX11_strayed 30 = .ok (.aload_n 0, 1) := by decide +kernel
theorem dX11_strayed_31 : decode cX11_strayed 31 = .ok (.bipush 6, 2) := by decide +kernel
theorem dX11_strayed_33 : decode cX11_strayed 33 = .ok (.invokevirtual 139, 3) := by decide +kernel
theorem dX11_strayed_36 : decode cX11_strayed 36 = .ok (.ireturn, 1) := by decide +kernel
theorem dX11_strayed_37 : decode cX11_strayed 37 = .ok (.aload_n 0, 1) := by decide +kernel
theorem dX11_strayed_38 : decode cX11_strayed 38 = .ok (.aload_n 0, 1) := by decide +kernel
theorem dX11_strayed_39 : decode cX11_strayed 39 = .ok (.aload_n 0, 1) := by decide +kernel
theorem dX11_strayed_40 : decode cX11_strayed 40 = .ok (.getfield 66, 3) := by decide +kernel
theorem dX11_strayed_43 : decode cX11_strayed 43 = .ok (.iload_n 1, 1) := by decide +kernel
theorem dX11_strayed_44 : decode cX11_strayed 44 = .ok (.iload_n 2, 1) := by decide +kernel
theorem dX11_strayed_45 : decode cX11_strayed 45 = .ok (.invokevirtual 340, 3) := by decide +kernel
theorem dX11_strayed_48 : decode cX11_strayed 48 = .ok (.invokevirtual 216, 3) := by decide +kernel
theorem dX11_strayed_51 : decode cX11_strayed 51 = .ok (.invokevirtual 170, 3) := by decide +kernel
theorem dX11_strayed_54 : decode cX11_strayed 54 = .ok (.ireturn, 1) := by decide +kernel
theorem mi_X11_strayed : MI yX11_strayed cX11_strayed 3 (some FieldType.int) 2 := ⟨w_1183, w_105, by decide +kernel, by decide +kernel, by decide +kernel⟩
set_option maxRecDepth 100000 in
set_option maxHeartbeats 4000000 in
theorem C_X11_strayed (G : GG) (l : Launch) (th : Nat) (p0 : Int32) (p1 : Int32) (S : St) (Q : Int32 → (Nat → Nat → Int32) → Prop) (hp : P_X11_strayed th p0 p1 S Q) : Ctr G l yX11_strayed cX11_strayed 3 (some FieldType.int) 2 48 0 0 [.ref th, .int p0, .int p1] S (fun (v : Option Value) (S9 : St) => ∃ (r : Int32) (I9 : Nat → Nat → Int32), v = some (.int r) ∧ S9 = wI S I9 ∧ Q r I9) := by
  generalize hQQ : (fun (v : Option Value) (S9 : St) => ∃ (r : Int32) (I9 : Nat → Nat → Int32), v = some (.int r) ∧ S9 = wI S I9 ∧ Q r I9) = QQ
  unfold P_X11_strayed at hp
  refine Ctr.of (by decide) (Nat.le_of_ble_eq_true rfl) ?_
  intro p e s m args below meth c ls B hr hlk hin hl hH
  generalize hlocs0 : ([] : List Loc) = locs at hH ⊢
  have hx := B.1
  have hb := B.2.1
  have hl : lv_has ls 3 [(0, .ref th), (1, .int p0), (2, .int p1)] := hl
  obtain ⟨hk_th, hp⟩ := hp
  refine lv_iload_n (pc := 0) hx hb dX11_strayed_0 rfl (lv_at hl 1 rfl) ?_
  refine sx_S (pc := 1) (As := [.int p0]) (rest := []) B hH hl.1 (C_X11_isSeed G l p0 _ _ hp) mi_X11_isSeed w_1185 w_1184 rfl rfl ⟨Nat.le_of_ble_eq_true rfl, Nat.le_of_ble_eq_true rfl⟩ (Nat.le_of_ble_eq_true rfl) ⟨Nat.le_of_ble_eq_true rfl, Nat.le_of_ble_eq_true rfl⟩ dX11_strayed_1 (fun v S1 H locs hq hH => ?_)
  obtain ⟨r_1, rfl, e9, hp⟩ := hq
  rw [e9] at hH
  refine W.eq (g2 := F0 m 4 ls [.int r_1]) rfl ?_
  obtain ⟨J_3, hj_3, hp⟩ := hp
  have kj_3 : ∀  (H : Heap) (locs : List Loc) (ls : Array Slot), J_3  → Hp G (FA S s.heap.size) s.heap S H locs → lv_has ls 3 [(0, .ref th)] → Wm G p l e { frames := 2, cells := 0, slots := 0, locals := 48 } s m args below meth c S QQ 0 0 H locs 0 0 (F0 m 17 ls []) := by
    intro  H locs ls hq9 hH hl
    have hp := hj_3  hq9
    refine lv_aload_n (pc := 17) hx hb dX11_strayed_17 rfl (lv_at hl 0 rfl) ?_
    refine lv_iconst (pc := 18) (v := 1) hx hb dX11_strayed_18 (by decide) ?_
    refine sx_V (pc := 19) (As := [.int 1]) (rest := []) B hH hl.1 (C_X11_refuse G l th 1 _ _ hp) mi_X11_refuse coX11 hk_th w_570 w_3 w_568 rfl rfl ⟨Nat.le_of_ble_eq_true rfl, Nat.le_of_ble_eq_true rfl⟩ (Nat.le_of_ble_eq_true rfl) ⟨Nat.le_of_ble_eq_true rfl, Nat.le_of_ble_eq_true rfl⟩ dX11_strayed_19 (fun v S1 H locs hq hH => ?_)
    obtain ⟨r_4, F_4, rfl, e9, hp⟩ := hq
    rw [e9] at hH
    have hH : Hp G (FA S s.heap.size) s.heap (wI S F_4) H locs := hH
    refine W.eq (g2 := F0 m 22 ls [.int r_4]) rfl ?_
    exact sx_iret (pc := 22) B hH hr hlk (by rw [← hQQ]; exact ⟨_, F_4, rfl, rfl, hp⟩) (Nat.le_of_ble_eq_true rfl) (Nat.le_of_ble_eq_true rfl) dX11_strayed_22
  refine lv_if_eq (pc := 4) (tgt := 17) hx hb dX11_strayed_4 (by decide) (fun cc_2 => ?_) (fun cc_2 => ?_)
  · have hp := hp.1 cc_2
    exact kj_3  _ _ _ hp hH (lv_sub hl [0] rfl)
  · have hp := hp.2 cc_2
    refine lv_iload_n (pc := 7) hx hb dX11_strayed_7 rfl (lv_at hl 2 rfl) ?_
    refine lv_if_lt (pc := 8) (tgt := 17) hx hb dX11_strayed_8 (by decide) (fun cc_5 => ?_) (fun cc_5 => ?_)
    · have hp := hp.1 cc_5
      exact kj_3  _ _ _ hp hH (lv_sub hl [0] rfl)
    · have hp := hp.2 cc_5
      refine lv_iload_n (pc := 11) hx hb dX11_strayed_11 rfl (lv_at hl 2 rfl) ?_
      refine lv_bipush (pc := 12) (v := 16) hx hb dX11_strayed_12 (by decide) ?_
      refine lv_icmp_le (pc := 14) (tgt := 23) hx hb dX11_strayed_14 (by decide) (fun cc_6 => ?_) (fun cc_6 => ?_)
      · have hp := hp.1 cc_6
        refine lv_aload_n (pc := 23) hx hb dX11_strayed_23 rfl (lv_at hl 0 rfl) ?_
        refine sx_getR (pc := 24) (j := 8) B hH hk_th coX11 rfl w_464 rfl dX11_strayed_24 ?_
        refine W.eq (g2 := F0 m 27 ls [va_rf (gR S th 8)]) rfl ?_
        refine sx_ifnonnull (pc := 27) (r := gR S th 8) (tgt := 37) B dX11_strayed_27 (by decide) (fun cc_7 => ?_) (fun cc_7 => ?_)
        · have hp := hp.1 cc_7
          refine lv_aload_n (pc := 37) hx hb dX11_strayed_37 rfl (lv_at hl 0 rfl) ?_
          refine lv_aload_n (pc := 38) hx hb dX11_strayed_38 rfl (lv_at hl 0 rfl) ?_
          refine lv_aload_n (pc := 39) hx hb dX11_strayed_39 rfl (lv_at hl 0 rfl) ?_
          refine sx_getR (pc := 40) (j := 8) B hH hk_th coX11 rfl w_464 rfl dX11_strayed_40 ?_
          refine W.eq (g2 := F0 m 43 ls [va_rf (gR S th 8), .ref th, .ref th]) rfl ?_
          obtain ⟨a_8, ha_8, hp⟩ := hp
          refine sx_nonnull (x := a_8) ha_8 ?_
          refine lv_iload_n (pc := 43) hx hb dX11_strayed_43 rfl (lv_at hl 1 rfl) ?_
          refine lv_iload_n (pc := 44) hx hb dX11_strayed_44 rfl (lv_at hl 2 rfl) ?_
          obtain ⟨hk_9, hp⟩ := hp
          refine sx_V (pc := 45) (As := [.int p0, .int p1]) (rest := [.ref th, .ref th]) B hH hl.1 (C_X8_strayedRow G l a_8 p0 p1 _ _ hp) mi_X8_strayedRow coX8 hk_9 w_1188 w_1189 w_1187 rfl rfl ⟨Nat.le_of_ble_eq_true rfl, Nat.le_of_ble_eq_true rfl⟩ (Nat.le_of_ble_eq_true rfl) ⟨Nat.le_of_ble_eq_true rfl, Nat.le_of_ble_eq_true rfl⟩ dX11_strayed_45 (fun v S1 H locs hq hH => ?_)
          obtain ⟨r_10, rfl, e9, hp⟩ := hq
          rw [e9] at hH
          refine W.eq (g2 := F0 m 48 ls [.int r_10, .ref th, .ref th]) rfl ?_
          refine sx_V (pc := 48) (As := [.int r_10]) (rest := [.ref th]) B hH hl.1 (C_X11_numbered G l th r_10 _ _ hp) mi_X11_numbered coX11 hk_th w_885 w_30 w_883 rfl rfl ⟨Nat.le_of_ble_eq_true rfl, Nat.le_of_ble_eq_true rfl⟩ (Nat.le_of_ble_eq_true rfl) ⟨Nat.le_of_ble_eq_true rfl, Nat.le_of_ble_eq_true rfl⟩ dX11_strayed_48 (fun v S1 H locs hq hH => ?_)
          obtain ⟨r_11, rfl, e9, hp⟩ := hq
          rw [e9] at hH
          refine W.eq (g2 := F0 m 51 ls [.int r_11, .ref th]) rfl ?_
          refine sx_V (pc := 51) (As := [.int r_11]) (rest := []) B hH hl.1 (C_X11_answer G l th r_11 _ _ hp) mi_X11_answer coX11 hk_th w_740 w_16 w_738 rfl rfl ⟨Nat.le_of_ble_eq_true rfl, Nat.le_of_ble_eq_true rfl⟩ (Nat.le_of_ble_eq_true rfl) ⟨Nat.le_of_ble_eq_true rfl, Nat.le_of_ble_eq_true rfl⟩ dX11_strayed_51 (fun v S1 H locs hq hH => ?_)
          obtain ⟨r_12, F_12, rfl, e9, hp⟩ := hq
          rw [e9] at hH
          have hH : Hp G (FA S s.heap.size) s.heap (wI S F_12) H locs := hH
          refine W.eq (g2 := F0 m 54 ls [.int r_12]) rfl ?_
          exact sx_iret (pc := 54) B hH hr hlk (by rw [← hQQ]; exact ⟨_, F_12, rfl, rfl, hp⟩) (Nat.le_of_ble_eq_true rfl) (Nat.le_of_ble_eq_true rfl) dX11_strayed_54
        · have hp := hp.2 cc_7
          refine lv_aload_n (pc := 30) hx hb dX11_strayed_30 rfl (lv_at hl 0 rfl) ?_
          refine lv_bipush (pc := 31) (v := 6) hx hb dX11_strayed_31 (by decide) ?_
          refine sx_V (pc := 33) (As := [.int 6]) (rest := []) B hH hl.1 (C_X11_refuse G l th 6 _ _ hp) mi_X11_refuse coX11 hk_th w_570 w_3 w_568 rfl rfl ⟨Nat.le_of_ble_eq_true rfl, Nat.le_of_ble_eq_true rfl⟩ (Nat.le_of_ble_eq_true rfl) ⟨Nat.le_of_ble_eq_true rfl, Nat.le_of_ble_eq_true rfl⟩ dX11_strayed_33 (fun v S1 H locs hq hH => ?_)
          obtain ⟨r_13, F_13, rfl, e9, hp⟩ := hq
          rw [e9] at hH
          have hH : Hp G (FA S s.heap.size) s.heap (wI S F_13) H locs := hH
          refine W.eq (g2 := F0 m 36 ls [.int r_13]) rfl ?_
          exact sx_iret (pc := 36) B hH hr hlk (by rw [← hQQ]; exact ⟨_, F_13, rfl, rfl, hp⟩) (Nat.le_of_ble_eq_true rfl) (Nat.le_of_ble_eq_true rfl) dX11_strayed_36
      · have hp := hp.2 cc_6
        exact kj_3  _ _ _ hp hH (lv_sub hl [0] rfl)
theorem dX11_odds_0 : decode cX11_odds 0 = .ok (.iload_n 1, 1) := by decide +kernel
theorem dX11_odds_1 : decode cX11_odds 1 = .ok (.invokestatic 337, 3) := by decide +kernel
theorem dX11_odds_4 : decode cX11_odds 4 = .ok (.ifCond .eq 35, 3) := by decide +kernel
theorem dX11_odds_7 : decode cX11_odds 7 = .ok (.iload_n 2, 1) := by decide +kernel
theorem dX11_odds_8 : decode cX11_odds 8 = .ok (.iconst 1, 1) := by decide +kernel
theorem dX11_odds_9 : decode cX11_odds 9 = .ok (.if_icmp .lt 30, 3) := by decide +kernel
theorem dX11_odds_12 : decode cX11_odds 12 = .ok (.iload_n 2, 1) := by decide +kernel
theorem dX11_odds_13 : decode cX11_odds 13 = .ok (.bipush 20, 2) := by decide +kernel
theorem dX11_odds_15 : decode cX11_odds 15 = .ok (.if_icmp .gt 24, 3) := by decide +kernel
theorem dX11_odds_18 : decode cX11_odds 18 = .ok (.iload_n 1, 1) := by decide +kernel
theorem dX11_odds_19 : decode cX11_odds 19 = .ok (.iload_n 2, 1) := by decide +kernel
theorem dX11_odds_20 : decode cX11_odds 20 = .ok (.iadd, 1) := by decide +kernel
theorem dX11_odds_21 : decode cX11_odds 21 = .ok (.iconst 1, 1) := by decide +kernel
theorem dX11_odds_22 : decode cX11_odds 22 = .ok (.isub, 1) := by decide +kernel
theorem dX11_odds_23 : decode cX11_odds 23 = .ok (.invokestatic 337, 3) := by decide +kernel
theorem dX11_odds_26 : decode cX11_odds 26 = .ok (.ifCond .eq 13, 3) := by decide +kernel
theorem dX11_odds_29 : decode cX11_odds 29 = .ok (.iload_n 3, 1) := by decide +kernel
theorem dX11_odds_30 : decode cX11_odds 30 = .ok (.ifCond .lt 9, 3) := by decide +kernel
theorem dX11_odds_33 : decode cX11_odds 33 = .ok (.iload_n 3, 1) := by decide +kernel
theorem dX11_odds_34 : decode cX11_odds 34 = .ok (.bipush 16, 2) := by decide +kernel
theorem dX11_odds_36 : decode cX11_odds 36 = .ok (.if_icmp .le 9, 3) := by decide +kernel
theorem dX11_odds_39 : decode cX11_odds 39 = .ok (.aload_n 0, 1) := by decide +kernel
theorem dX11_odds_40 : decode cX11_odds 40 = .ok (.iconst 1, 1) := by decide +kernel
theorem dX11_odds_41 : decode cX11_odds 41 = .ok (.invokevirtual 114, 3) := by decide +kernel
theorem dX11_odds_44 : decode cX11_odds 44 = .ok (.ireturn, 1) := by decide +kernel
theorem dX11_odds_45 : decode cX11_odds 45 = .ok (.aload_n 0, 1) := by decide +kernel
theorem dX11_odds_46 : decode cX11_odds 46 = .ok (.getfield 66, 3) := by decide +kernel
theorem dX11_odds_49 : decode cX11_odds 49 = .ok (.ifnonnull 10, 3) := by decide +kernel
theorem dX11_odds_52 : decode cX11_odds 52 = .ok (.aload_n 0, 1) := by decide +kernel
theorem dX11_odds_53 : decode cX11_odds 53 = .ok (.bipush 6, 2) := by decide +kernel
theorem dX11_odds_55 : decode cX11_odds 55 = .ok (.invokevirtual 114, 3) := by decide +kernel
theorem dX11_odds_58 : decode cX11_odds 58 = .ok (.ireturn, 1) := by decide +kernel
theorem dX11_odds_59 : decode cX11_odds 59 = .ok (.aload_n 0, 1) := by decide +kernel
theorem dX11_odds_60 : decode cX11_odds 60 = .ok (.getfield 66, 3) := by decide +kernel
theorem dX11_odds_63 : decode cX11_odds 63 = .ok (.getfield 297, 3) := by decide +kernel
theorem dX11_odds_66 : decode cX11_odds 66 = .ok (.aload_n 0, 1) := by decide +kernel
theorem dX11_odds_67 : decode cX11_odds 67 = .ok (.getfield 66, 3) := by decide +kernel
theorem dX11_odds_70 : decode cX11_odds 70 = .ok (.invokevirtual 197, 3) := by decide +kernel
theorem dX11_odds_73 : decode cX11_odds 73 = .ok (.iaload, 1) := by decide +kernel
theorem dX11_odds_74 : decode cX11_odds 74 = .ok (.istore 4, 2) := by decide +kernel
theorem dX11_odds_76 : decode cX11_odds 76 = .ok (.iconst 0, 1) := by decide +kernel
theorem dX11_odds_77 : decode cX11_odds 77 = .ok (.istore 5, 2) := by decide +kernel
theorem dX11_odds_79 : decode cX11_odds 79 = .ok (.iconst 0, 1) := by decide +kernel
theorem dX11_odds_80 : decode cX11_odds 80 = .ok (.istore 6, 2) := by decide +kernel
theorem dX11_odds_82 : decode cX11_odds 82 = .ok (.iload 6, 2) := by decide +kernel
theorem dX11_odds_84 : decode cX11_odds 84 = .ok (.iload_n 2, 1) := by decide +kernel
theorem dX11_odds_85 : decode cX11_odds 85 = .ok (.if_icmp .ge 29, 3) := by decide +kernel
theorem dX11_odds_88 : decode cX11_odds 88 = .ok (.aload_n 0, 1) := by decide +kernel
theorem dX11_odds_89 : decode cX11_odds 89 = .ok (.getfield 66, 3) := by decide +kernel
theorem dX11_odds_92 : decode cX11_odds 92 = .ok (.iload_n 1, 1) := by decide +kernel
theorem dX11_odds_93 : decode cX11_odds 93 = .ok (.iload 6, 2) := by decide +kernel
theorem dX11_odds_95 : decode cX11_odds 95 = .ok (.iadd, 1) := by decide +kernel
theorem dX11_odds_96 : decode cX11_odds 96 = .ok (.iload_n 3, 1) := by decide +kernel
theorem dX11_odds_97 : decode cX11_odds 97 = .ok (.invokevirtual 340, 3) := by decide +kernel
theorem dX11_odds_100 : decode cX11_odds 100 = .ok (.iload 4, 2) := by decide +kernel
theorem dX11_odds_102 : decode cX11_odds 102 = .ok (.if_icmp .ne 6, 3) := by decide +kernel
theorem dX11_odds_105 : decode cX11_odds 105 = .ok (.iinc 5 1, 3) := by decide +kernel
theorem dX11_odds_108 : decode cX11_odds 108 = .ok (.iinc 6 1, 3) := by decide +kernel
theorem dX11_odds_111 : decode cX11_odds 111 = .ok (.goto (-29), 3) := by decide +kernel
theorem dX11_odds_114 : decode cX11_odds 114 = .ok (.aload_n 0, 1) := by decide +kernel
theorem dX11_odds_115 : decode cX11_odds 115 = .ok (.iload 5, 2) := by decide +kernel
theorem dX11_odds_117 : decode cX11_odds 117 = .ok (.iload_n 2, 1) := by decide +kernel
theorem dX11_odds_118 : decode cX11_odds 118 = .ok (.invokevirtual 334, 3) := by decide +kernel
theorem dX11_odds_121 : decode cX11_odds 121 = .ok (.aload_n 0, 1) := by decide +kernel
theorem dX11_odds_122 : decode cX11_odds 122 = .ok (.invokevirtual 120, 3) := by decide +kernel
theorem dX11_odds_125 : decode cX11_odds 125 = .ok (.ireturn, 1) := by decide +kernel
theorem mi_X11_odds : MI yX11_odds cX11_odds 7 (some FieldType.boolean) 3 := ⟨w_1195, w_105, by decide +kernel, by decide +kernel, by decide +kernel⟩
set_option maxRecDepth 100000 in
set_option maxHeartbeats 4000000 in
theorem C_X11_odds (G : GG) (l : Launch) (th : Nat) (p0 : Int32) (p1 : Int32) (p2 : Int32) (S : St) (Q : Int32 → (Nat → Nat → Int32) → (Nat → Nat → Int64) → Prop) (hp : P_X11_odds th p0 p1 p2 S Q) : Ctr G l yX11_odds cX11_odds 7 (some FieldType.boolean) 2 48 0 0 [.ref th, .int p0, .int p1, .int p2] S (fun (v : Option Value) (S9 : St) => ∃ (r : Int32) (I9 : Nat → Nat → Int32) (J9 : Nat → Nat → Int64), v = some (.int r) ∧ S9 = wA S I9 J9 (gR S) ∧ Q r I9 J9) := by
  generalize hQQ : (fun (v : Option Value) (S9 : St) => ∃ (r : Int32) (I9 : Nat → Nat → Int32) (J9 : Nat → Nat → Int64), v = some (.int r) ∧ S9 = wA S I9 J9 (gR S) ∧ Q r I9 J9) = QQ
  unfold P_X11_odds at hp
  refine Ctr.of (by decide) (Nat.le_of_ble_eq_true rfl) ?_
  intro p e s m args below meth c ls B hr hlk hin hl hH
  generalize hlocs0 : ([] : List Loc) = locs at hH ⊢
  have hx := B.1
  have hb := B.2.1
  have hl : lv_has ls 7 [(0, .ref th), (1, .int p0), (2, .int p1), (3, .int p2)] := hl
  obtain ⟨hk_th, hp⟩ := hp
  refine lv_iload_n (pc := 0) hx hb dX11_odds_0 rfl (lv_at hl 1 rfl) ?_
  refine sx_S (pc := 1) (As := [.int p0]) (rest := []) B hH hl.1 (C_X11_isSeed G l p0 _ _ hp) mi_X11_isSeed w_1185 w_1184 rfl rfl ⟨Nat.le_of_ble_eq_true rfl, Nat.le_of_ble_eq_true rfl⟩ (Nat.le_of_ble_eq_true rfl) ⟨Nat.le_of_ble_eq_true rfl, Nat.le_of_ble_eq_true rfl⟩ dX11_odds_1 (fun v S1 H locs hq hH => ?_)
  obtain ⟨r_1, rfl, e9, hp⟩ := hq
  rw [e9] at hH
  refine W.eq (g2 := F0 m 4 ls [.int r_1]) rfl ?_
  obtain ⟨J_3, hj_3, hp⟩ := hp
  have kj_3 : ∀  (H : Heap) (locs : List Loc) (ls : Array Slot), J_3  → Hp G (FA S s.heap.size) s.heap S H locs → lv_has ls 7 [(0, .ref th)] → Wm G p l e { frames := 2, cells := 0, slots := 0, locals := 48 } s m args below meth c S QQ 0 0 H locs 0 0 (F0 m 39 ls []) := by
    intro  H locs ls hq9 hH hl
    have hp := hj_3  hq9
    refine lv_aload_n (pc := 39) hx hb dX11_odds_39 rfl (lv_at hl 0 rfl) ?_
    refine lv_iconst (pc := 40) (v := 1) hx hb dX11_odds_40 (by decide) ?_
    refine sx_V (pc := 41) (As := [.int 1]) (rest := []) B hH hl.1 (C_X11_deny G l th 1 _ _ hp) mi_X11_deny coX11 hk_th w_529 w_0 w_527 rfl rfl ⟨Nat.le_of_ble_eq_true rfl, Nat.le_of_ble_eq_true rfl⟩ (Nat.le_of_ble_eq_true rfl) ⟨Nat.le_of_ble_eq_true rfl, Nat.le_of_ble_eq_true rfl⟩ dX11_odds_41 (fun v S1 H locs hq hH => ?_)
    obtain ⟨r_4, F_4, rfl, e9, hp⟩ := hq
    rw [e9] at hH
    have hH : Hp G (FA S s.heap.size) s.heap (wI S F_4) H locs := hH
    refine W.eq (g2 := F0 m 44 ls [.int r_4]) rfl ?_
    obtain ⟨hz, hp⟩ := hp
    exact sx_zret (pc := 44) B hH hr hlk hz (by rw [← hQQ]; exact ⟨_, F_4, (gJ S), rfl, rfl, hp⟩) (Nat.le_of_ble_eq_true rfl) (Nat.le_of_ble_eq_true rfl) dX11_odds_44
  refine lv_if_eq (pc := 4) (tgt := 39) hx hb dX11_odds_4 (by decide) (fun cc_2 => ?_) (fun cc_2 => ?_)
  · have hp := hp.1 cc_2
    exact kj_3  _ _ _ hp hH (lv_sub hl [0] rfl)
  · have hp := hp.2 cc_2
    refine lv_iload_n (pc := 7) hx hb dX11_odds_7 rfl (lv_at hl 2 rfl) ?_
    refine lv_iconst (pc := 8) (v := 1) hx hb dX11_odds_8 (by decide) ?_
    refine lv_icmp_lt (pc := 9) (tgt := 39) hx hb dX11_odds_9 (by decide) (fun cc_5 => ?_) (fun cc_5 => ?_)
    · have hp := hp.1 cc_5
      exact kj_3  _ _ _ hp hH (lv_sub hl [0] rfl)
    · have hp := hp.2 cc_5
      refine lv_iload_n (pc := 12) hx hb dX11_odds_12 rfl (lv_at hl 2 rfl) ?_
      refine lv_bipush (pc := 13) (v := 20) hx hb dX11_odds_13 (by decide) ?_
      refine lv_icmp_gt (pc := 15) (tgt := 39) hx hb dX11_odds_15 (by decide) (fun cc_6 => ?_) (fun cc_6 => ?_)
      · have hp := hp.1 cc_6
        exact kj_3  _ _ _ hp hH (lv_sub hl [0] rfl)
      · have hp := hp.2 cc_6
        refine lv_iload_n (pc := 18) hx hb dX11_odds_18 rfl (lv_at hl 1 rfl) ?_
        refine lv_iload_n (pc := 19) hx hb dX11_odds_19 rfl (lv_at hl 2 rfl) ?_
        refine lv_iadd (pc := 20) hx hb dX11_odds_20 ?_
        refine lv_iconst (pc := 21) (v := 1) hx hb dX11_odds_21 (by decide) ?_
        refine lv_isub (pc := 22) hx hb dX11_odds_22 ?_
        refine sx_S (pc := 23) (As := [.int ((p0 + p1) - 1)]) (rest := []) B hH hl.1 (C_X11_isSeed G l ((p0 + p1) - 1) _ _ hp) mi_X11_isSeed w_1185 w_1184 rfl rfl ⟨Nat.le_of_ble_eq_true rfl, Nat.le_of_ble_eq_true rfl⟩ (Nat.le_of_ble_eq_true rfl) ⟨Nat.le_of_ble_eq_true rfl, Nat.le_of_ble_eq_true rfl⟩ dX11_odds_23 (fun v S1 H locs hq hH => ?_)
        obtain ⟨r_7, rfl, e9, hp⟩ := hq
        rw [e9] at hH
        refine W.eq (g2 := F0 m 26 ls [.int r_7]) rfl ?_
        refine lv_if_eq (pc := 26) (tgt := 39) hx hb dX11_odds_26 (by decide) (fun cc_8 => ?_) (fun cc_8 => ?_)
        · have hp := hp.1 cc_8
          exact kj_3  _ _ _ hp hH (lv_sub hl [0] rfl)
        · have hp := hp.2 cc_8
          refine lv_iload_n (pc := 29) hx hb dX11_odds_29 rfl (lv_at hl 3 rfl) ?_
          refine lv_if_lt (pc := 30) (tgt := 39) hx hb dX11_odds_30 (by decide) (fun cc_9 => ?_) (fun cc_9 => ?_)
          · have hp := hp.1 cc_9
            exact kj_3  _ _ _ hp hH (lv_sub hl [0] rfl)
          · have hp := hp.2 cc_9
            refine lv_iload_n (pc := 33) hx hb dX11_odds_33 rfl (lv_at hl 3 rfl) ?_
            refine lv_bipush (pc := 34) (v := 16) hx hb dX11_odds_34 (by decide) ?_
            refine lv_icmp_le (pc := 36) (tgt := 45) hx hb dX11_odds_36 (by decide) (fun cc_10 => ?_) (fun cc_10 => ?_)
            · have hp := hp.1 cc_10
              refine lv_aload_n (pc := 45) hx hb dX11_odds_45 rfl (lv_at hl 0 rfl) ?_
              refine sx_getR (pc := 46) (j := 8) B hH hk_th coX11 rfl w_464 rfl dX11_odds_46 ?_
              refine W.eq (g2 := F0 m 49 ls [va_rf (gR S th 8)]) rfl ?_
              refine sx_ifnonnull (pc := 49) (r := gR S th 8) (tgt := 59) B dX11_odds_49 (by decide) (fun cc_11 => ?_) (fun cc_11 => ?_)
              · have hp := hp.1 cc_11
                refine lv_aload_n (pc := 59) hx hb dX11_odds_59 rfl (lv_at hl 0 rfl) ?_
                refine sx_getR (pc := 60) (j := 8) B hH hk_th coX11 rfl w_464 rfl dX11_odds_60 ?_
                refine W.eq (g2 := F0 m 63 ls [va_rf (gR S th 8)]) rfl ?_
                obtain ⟨a_12, ha_12, hp⟩ := hp
                refine sx_nonnull (x := a_12) ha_12 ?_
                obtain ⟨hk_13, hp⟩ := hp
                refine sx_getR (pc := 63) (j := 3) B hH hk_13 coX8 rfl w_827 rfl dX11_odds_63 ?_
                refine W.eq (g2 := F0 m 66 ls [va_rf (gR S a_12 3)]) rfl ?_
                obtain ⟨a_14, ha_14, hp⟩ := hp
                refine sx_nonnull (x := a_14) ha_14 ?_
                refine lv_aload_n (pc := 66) hx hb dX11_odds_66 rfl (lv_at hl 0 rfl) ?_
                refine sx_getR (pc := 67) (j := 8) B hH hk_th coX11 rfl w_464 rfl dX11_odds_67 ?_
                refine W.eq (g2 := F0 m 70 ls [va_rf (gR S th 8), .ref a_14]) rfl ?_
                refine sx_nonnull (x := a_12) ha_12 ?_
                refine sx_V (pc := 70) (As := []) (rest := [.ref a_14]) B hH hl.1 (C_X8_last G l a_12 _ _ hp) mi_X8_last coX8 hk_13 w_846 w_847 w_845 rfl rfl ⟨Nat.le_of_ble_eq_true rfl, Nat.le_of_ble_eq_true rfl⟩ (Nat.le_of_ble_eq_true rfl) ⟨Nat.le_of_ble_eq_true rfl, Nat.le_of_ble_eq_true rfl⟩ dX11_odds_70 (fun v S1 H locs hq hH => ?_)
                obtain ⟨r_15, rfl, e9, hp⟩ := hq
                rw [e9] at hH
                refine W.eq (g2 := F0 m 73 ls [.int r_15, .ref a_14]) rfl ?_
                obtain ⟨hk_16, hp⟩ := hp
                obtain ⟨hn_17, hp⟩ := hp
                refine sx_iald (pc := 73) B hH hk_16 hn_17 dX11_odds_73 ?_
                refine W.eq (g2 := F0 m 74 ls [.int (gI S a_14 r_15.toNatClampNeg)]) rfl ?_
                refine lv_topi (fun v_18 ev_18 => ?_)
                have hp := hp v_18 ev_18
                refine lv_istore (pc := 74) (lv' := [(4, .int v_18), (0, .ref th), (1, .int p0), (2, .int p1), (3, .int p2)]) hx hb dX11_odds_74 hl (by decide) rfl (fun ls hl => ?_)
                refine lv_iconst (pc := 76) (v := 0) hx hb dX11_odds_76 (by decide) ?_
                refine lv_istore (pc := 77) (lv' := [(5, .int 0), (4, .int v_18), (0, .ref th), (1, .int p0), (2, .int p1), (3, .int p2)]) hx hb dX11_odds_77 hl (by decide) rfl (fun ls hl => ?_)
                refine lv_iconst (pc := 79) (v := 0) hx hb dX11_odds_79 (by decide) ?_
                refine lv_istore (pc := 80) (lv' := [(6, .int 0), (5, .int 0), (4, .int v_18), (0, .ref th), (1, .int p0), (2, .int p1), (3, .int p2)]) hx hb dX11_odds_80 hl (by decide) rfl (fun ls hl => ?_)
                obtain ⟨I_19, ⟨k0_19, h0_19⟩, hst_19⟩ := hp
                have kl_19 : ∀ (n_19 : Nat) (x5_20 : Int32) (x6_21 : Int32) (H : Heap) (locs : List Loc) (ls : Array Slot), I_19 n_19 x5_20 x6_21 → Hp G (FA S s.heap.size) s.heap S H locs → lv_has ls 7 [(0, .ref th), (1, .int p0), (2, .int p1), (3, .int p2), (4, .int v_18), (5, .int x5_20), (6, .int x6_21)] → Wm G p l e { frames := 2, cells := 0, slots := 0, locals := 48 } s m args below meth c S QQ 0 0 H locs 0 0 (F0 m 82 ls []) := by
                  intro n_19
                  induction n_19 using Nat.strongRecOn with
                  | ind n_19 ih_19 =>
                    intro x5_20 x6_21 H locs ls hq9 hH hl
                    have hp := hst_19 n_19 x5_20 x6_21 hq9
                    refine lv_iload (pc := 82) hx hb dX11_odds_82 (lv_at hl 6 rfl) ?_
                    refine lv_iload_n (pc := 84) hx hb dX11_odds_84 rfl (lv_at hl 2 rfl) ?_
                    refine lv_icmp_ge (pc := 85) (tgt := 114) hx hb dX11_odds_85 (by decide) (fun cc_22 => ?_) (fun cc_22 => ?_)
                    · have hp := hp.1 cc_22
                      refine lv_aload_n (pc := 114) hx hb dX11_odds_114 rfl (lv_at hl 0 rfl) ?_
                      refine lv_iload (pc := 115) hx hb dX11_odds_115 (lv_at hl 5 rfl) ?_
                      refine lv_iload_n (pc := 117) hx hb dX11_odds_117 rfl (lv_at hl 2 rfl) ?_
                      refine sx_V (pc := 118) (As := [.int x5_20, .int p1]) (rest := []) B hH hl.1 (C_X11_tellFraction G l th x5_20 p1 _ _ hp) mi_X11_tellFraction coX11 hk_th w_1175 w_35 w_1173 rfl rfl ⟨Nat.le_of_ble_eq_true rfl, Nat.le_of_ble_eq_true rfl⟩ (Nat.le_of_ble_eq_true rfl) ⟨Nat.le_of_ble_eq_true rfl, Nat.le_of_ble_eq_true rfl⟩ dX11_odds_118 (fun v S1 H locs hq hH => ?_)
                      obtain ⟨J_23, rfl, e9, hp⟩ := hq
                      rw [e9] at hH
                      have hH : Hp G (FA S s.heap.size) s.heap (wA S (gI S) J_23 (gR S)) H locs := hH
                      refine W.eq (g2 := F0 m 121 ls []) rfl ?_
                      refine lv_aload_n (pc := 121) hx hb dX11_odds_121 rfl (lv_at hl 0 rfl) ?_
                      refine sx_V (pc := 122) (As := []) (rest := []) B hH hl.1 (C_X11_grant G l th _ _ hp) mi_X11_grant coX11 hk_th w_547 w_1 w_545 rfl rfl ⟨Nat.le_of_ble_eq_true rfl, Nat.le_of_ble_eq_true rfl⟩ (Nat.le_of_ble_eq_true rfl) ⟨Nat.le_of_ble_eq_true rfl, Nat.le_of_ble_eq_true rfl⟩ dX11_odds_122 (fun v S1 H locs hq hH => ?_)
                      obtain ⟨r_24, F_24, rfl, e9, hp⟩ := hq
                      rw [e9] at hH
                      have hH : Hp G (FA S s.heap.size) s.heap (wA S F_24 J_23 (gR S)) H locs := hH
                      refine W.eq (g2 := F0 m 125 ls [.int r_24]) rfl ?_
                      obtain ⟨hz, hp⟩ := hp
                      exact sx_zret (pc := 125) B hH hr hlk hz (by rw [← hQQ]; exact ⟨_, F_24, J_23, rfl, rfl, hp⟩) (Nat.le_of_ble_eq_true rfl) (Nat.le_of_ble_eq_true rfl) dX11_odds_125
                    · have hp := hp.2 cc_22
                      refine lv_aload_n (pc := 88) hx hb dX11_odds_88 rfl (lv_at hl 0 rfl) ?_
                      refine sx_getR (pc := 89) (j := 8) B hH hk_th coX11 rfl w_464 rfl dX11_odds_89 ?_
                      refine W.eq (g2 := F0 m 92 ls [va_rf (gR S th 8)]) rfl ?_
                      refine sx_nonnull (x := a_12) ha_12 ?_
                      refine lv_iload_n (pc := 92) hx hb dX11_odds_92 rfl (lv_at hl 1 rfl) ?_
                      refine lv_iload (pc := 93) hx hb dX11_odds_93 (lv_at hl 6 rfl) ?_
                      refine lv_iadd (pc := 95) hx hb dX11_odds_95 ?_
                      refine lv_iload_n (pc := 96) hx hb dX11_odds_96 rfl (lv_at hl 3 rfl) ?_
                      refine sx_V (pc := 97) (As := [.int (p0 + x6_21), .int p2]) (rest := []) B hH hl.1 (C_X8_strayedRow G l a_12 (p0 + x6_21) p2 _ _ hp) mi_X8_strayedRow coX8 hk_13 w_1188 w_1189 w_1187 rfl rfl ⟨Nat.le_of_ble_eq_true rfl, Nat.le_of_ble_eq_true rfl⟩ (Nat.le_of_ble_eq_true rfl) ⟨Nat.le_of_ble_eq_true rfl, Nat.le_of_ble_eq_true rfl⟩ dX11_odds_97 (fun v S1 H locs hq hH => ?_)
                      obtain ⟨r_25, rfl, e9, hp⟩ := hq
                      rw [e9] at hH
                      refine W.eq (g2 := F0 m 100 ls [.int r_25]) rfl ?_
                      refine lv_iload (pc := 100) hx hb dX11_odds_100 (lv_at hl 4 rfl) ?_
                      refine lv_icmp_ne (pc := 102) (tgt := 108) hx hb dX11_odds_102 (by decide) (fun cc_26 => ?_) (fun cc_26 => ?_)
                      · have hp := hp.1 cc_26
                        obtain ⟨v_27, ev_27⟩ : ∃ y : Int32, y = x6_21 + 1 := ⟨_, rfl⟩
                        have hp := hp v_27 ev_27
                        refine lv_iinc (pc := 108) (v := v_27) (lv' := [(6, .int v_27), (0, .ref th), (1, .int p0), (2, .int p1), (3, .int p2), (4, .int v_18), (5, .int x5_20)]) hx hb dX11_odds_108 hl (k := 6) rfl (by rw [ev_27]; rfl) (by decide) rfl (fun ls hl => ?_)
                        refine lv_goto (pc := 111) (tgt := 82) hx hb dX11_odds_111 (by decide) ?_
                        obtain ⟨k9, hlt9, hp⟩ := hp
                        exact ih_19 k9 hlt9 _ _ _ _ _ hp hH (lv_sub hl [1, 2, 3, 4, 5, 6, 0] rfl)
                      · have hp := hp.2 cc_26
                        obtain ⟨v_28, ev_28⟩ : ∃ y : Int32, y = x5_20 + 1 := ⟨_, rfl⟩
                        have hp := hp v_28 ev_28
                        refine lv_iinc (pc := 105) (v := v_28) (lv' := [(5, .int v_28), (0, .ref th), (1, .int p0), (2, .int p1), (3, .int p2), (4, .int v_18), (6, .int x6_21)]) hx hb dX11_odds_105 hl (k := 5) rfl (by rw [ev_28]; rfl) (by decide) rfl (fun ls hl => ?_)
                        obtain ⟨v_29, ev_29⟩ : ∃ y : Int32, y = x6_21 + 1 := ⟨_, rfl⟩
                        have hp := hp v_29 ev_29
                        refine lv_iinc (pc := 108) (v := v_29) (lv' := [(6, .int v_29), (5, .int v_28), (0, .ref th), (1, .int p0), (2, .int p1), (3, .int p2), (4, .int v_18)]) hx hb dX11_odds_108 hl (k := 6) rfl (by rw [ev_29]; rfl) (by decide) rfl (fun ls hl => ?_)
                        refine lv_goto (pc := 111) (tgt := 82) hx hb dX11_odds_111 (by decide) ?_
                        obtain ⟨k9, hlt9, hp⟩ := hp
                        exact ih_19 k9 hlt9 _ _ _ _ _ hp hH (lv_sub hl [2, 3, 4, 5, 6, 1, 0] rfl)
                exact kl_19 k0_19 _ _ _ _ _ h0_19 hH (lv_sub hl [3, 4, 5, 6, 2, 1, 0] rfl)
              · have hp := hp.2 cc_11
                refine lv_aload_n (pc := 52) hx hb dX11_odds_52 rfl (lv_at hl 0 rfl) ?_
                refine lv_bipush (pc := 53) (v := 6) hx hb dX11_odds_53 (by decide) ?_
                refine sx_V (pc := 55) (As := [.int 6]) (rest := []) B hH hl.1 (C_X11_deny G l th 6 _ _ hp) mi_X11_deny coX11 hk_th w_529 w_0 w_527 rfl rfl ⟨Nat.le_of_ble_eq_true rfl, Nat.le_of_ble_eq_true rfl⟩ (Nat.le_of_ble_eq_true rfl) ⟨Nat.le_of_ble_eq_true rfl, Nat.le_of_ble_eq_true rfl⟩ dX11_odds_55 (fun v S1 H locs hq hH => ?_)
                obtain ⟨r_30, F_30, rfl, e9, hp⟩ := hq
                rw [e9] at hH
                have hH : Hp G (FA S s.heap.size) s.heap (wI S F_30) H locs := hH
                refine W.eq (g2 := F0 m 58 ls [.int r_30]) rfl ?_
                obtain ⟨hz, hp⟩ := hp
                exact sx_zret (pc := 58) B hH hr hlk hz (by rw [← hQQ]; exact ⟨_, F_30, (gJ S), rfl, rfl, hp⟩) (Nat.le_of_ble_eq_true rfl) (Nat.le_of_ble_eq_true rfl) dX11_odds_58
            · have hp := hp.2 cc_10
              exact kj_3  _ _ _ hp hH (lv_sub hl [0] rfl)
theorem dX11_way_0 : decode cX11_way 0 = .ok (.aload_n 0, 1) := by decide +kernel
theorem dX11_way_1 : decode cX11_way 1 = .ok (.iload_n 1, 1) := by decide +kernel
theorem dX11_way_2 : decode cX11_way 2 = .ok (.invokevirtual 201, 3) := by decide +kernel
theorem dX11_way_5 : decode cX11_way 5 = .ok (.ifCond .ne 9, 3) := by decide +kernel
theorem dX11_way_8 : decode cX11_way 8 = .ok (.aload_n 0, 1) := by decide +kernel
theorem dX11_way_9 : decode cX11_way 9 = .ok (.iconst 1, 1) := by decide +kernel
theorem dX11_way_10 : decode cX11_way 10 = .ok (.invokevirtual 139, 3) := by decide +kernel
theorem dX11_way_13 : decode cX11_way 13 = .ok (.ireturn, 1) := by decide +kernel
theorem dX11_way_14 : decode cX11_way 14 = .ok (.aload_n 0, 1) := by decide +kernel
theorem dX11_way_15 : decode cX11_way 15 = .ok (.getfield 99, 3) := by decide +kernel
theorem dX11_way_18 : decode cX11_way 18 = .ok (.aload_n 0, 1) := by decide +kernel
theorem dX11_way_19 : decode cX11_way 19 = .ok (.getfield 62, 3) := by decide +kernel
theorem dX11_way_22 : decode cX11_way 22 = .ok (.invokevirtual 343, 3) := by decide +kernel
theorem dX11_way_25 : decode cX11_way 25 = .ok (.aload_n 0, 1) := by decide +kernel
theorem dX11_way_26 : decode cX11_way 26 = .ok (.getfield 99, 3) := by decide +kernel
theorem dX11_way_29 : decode cX11_way 29 = .ok (.iload_n 1, 1) := by decide +kernel
theorem dX11_way_30 : decode cX11_way 30 = .ok (.invokevirtual 347, 3) := by decide +kernel
theorem dX11_way_33 : decode cX11_way 33 = .ok (.ifCond .ne 10, 3) := by decide +kernel
theorem dX11_way_36 : decode cX11_way 36 = .ok (.aload_n 0, 1) := by decide +kernel
theorem dX11_way_37 : decode cX11_way 37 = .ok (.bipush 6, 2) := by decide +kernel
theorem dX11_way_39 : decode cX11_way 39 = .ok (.invokevirtual 139, 3) := by decide +kernel
theorem dX11_way_42 : decode cX11_way 42 = .ok (.ireturn, 1) := by decide +kernel
theorem dX11_way_43 : decode cX11_way 43 = .ok (.aload_n 0, 1) := by decide +kernel
theorem dX11_way_44 : decode cX11_way 44 = .ok (.getfield 99, 3) := by decide +kernel
theorem dX11_way_47 : decode cX11_way 47 = .ok (.iload_n 1, 1) := by decide +kernel
theorem dX11_way_48 : decode cX11_way 48 = .ok (.invokevirtual 350, 3) := by decide +kernel
theorem dX11_way_51 : decode cX11_way 51 = .ok (.aload_n 0, 1) := by decide +kernel
theorem dX11_way_52 : decode cX11_way 52 = .ok (.aload_n 0, 1) := by decide +kernel
theorem dX11_way_53 : decode cX11_way 53 = .ok (.getfield 99, 3) := by decide +kernel
theorem dX11_way_56 : decode cX11_way 56 = .ok (.getfield 353, 3) := by decide +kernel
theorem dX11_way_59 : decode cX11_way 59 = .ok (.invokevirtual 170, 3) := by decide +kernel
theorem dX11_way_62 : decode cX11_way 62 = .ok (.ireturn, 1) := by decide +kernel
theorem mi_X11_way : MI yX11_way cX11_way 2 (some FieldType.int) 1 := ⟨w_1199, w_105, by decide +kernel, by decide +kernel, by decide +kernel⟩
set_option maxRecDepth 100000 in
set_option maxHeartbeats 4000000 in
theorem C_X11_way (G : GG) (l : Launch) (th : Nat) (p0 : Int32) (S : St) (bc bs : Nat) (Q : Int32 → St → Prop) (hp : P_X11_way th p0 S bc bs Q) : Ctr G l yX11_way cX11_way 2 (some FieldType.int) 3 73 bc bs [.ref th, .int p0] S (fun (v : Option Value) (S9 : St) => ∃ r : Int32, v = some (.int r) ∧ Q r S9) := by
  generalize hQQ : (fun (v : Option Value) (S9 : St) => ∃ r : Int32, v = some (.int r) ∧ Q r S9) = QQ
  unfold P_X11_way at hp
  refine Ctr.of (by decide) (Nat.le_of_ble_eq_true rfl) ?_
  intro p e s m args below meth c ls B hr hlk hin hl hH
  generalize hlocs0 : ([] : List Loc) = locs at hH ⊢
  have hx := B.1
  have hb := B.2.1
  have hl : lv_has ls 2 [(0, .ref th), (1, .int p0)] := hl
  obtain ⟨hk_th, hp⟩ := hp
  refine lv_aload_n (pc := 0) hx hb dX11_way_0 rfl (lv_at hl 0 rfl) ?_
  refine lv_iload_n (pc := 1) hx hb dX11_way_1 rfl (lv_at hl 1 rfl) ?_
  refine sx_V (pc := 2) (As := [.int p0]) (rest := []) B hH hl.1 (C_X11_isRow G l th p0 _ _ hp) mi_X11_isRow coX11 hk_th w_855 w_26 w_853 rfl rfl ⟨Nat.le_of_ble_eq_true rfl, Nat.le_of_ble_eq_true rfl⟩ (Nat.le_of_ble_eq_true rfl) ⟨(show _ + 0 ≤ bc by omega), (show _ + 0 ≤ bs by omega)⟩ dX11_way_2 (fun v S1 H locs hq hH => ?_)
  obtain ⟨r_1, rfl, e9, hp⟩ := hq
  rw [e9] at hH
  refine W.eq (g2 := F0 m 5 ls [.int r_1]) rfl ?_
  refine lv_if_ne (pc := 5) (tgt := 14) hx hb dX11_way_5 (by decide) (fun cc_2 => ?_) (fun cc_2 => ?_)
  · have hp := hp.1 cc_2
    refine lv_aload_n (pc := 14) hx hb dX11_way_14 rfl (lv_at hl 0 rfl) ?_
    refine sx_getR (pc := 15) (j := 15) B hH hk_th coX11 rfl w_471 rfl dX11_way_15 ?_
    refine W.eq (g2 := F0 m 18 ls [va_rf (gR S th 15)]) rfl ?_
    obtain ⟨a_3, ha_3, hp⟩ := hp
    refine sx_nonnull (x := a_3) ha_3 ?_
    refine lv_aload_n (pc := 18) hx hb dX11_way_18 rfl (lv_at hl 0 rfl) ?_
    refine sx_getR (pc := 19) (j := 7) B hH hk_th coX11 rfl w_463 rfl dX11_way_19 ?_
    refine W.eq (g2 := F0 m 22 ls [va_rf (gR S th 7), .ref a_3]) rfl ?_
    obtain ⟨a_4, ha_4, hp⟩ := hp
    refine sx_nonnull (x := a_4) ha_4 ?_
    obtain ⟨hk_5, hp⟩ := hp
    obtain ⟨c_6, s_6, hb_6, hs_6, hp⟩ := hp
    refine sx_V (pc := 22) (As := [.ref a_4]) (rest := []) B hH hl.1 (C_X5_over G l a_3 a_4 _ c_6 s_6 _ hp) mi_X5_over coX5 hk_5 w_1201 w_1202 w_1200 rfl rfl ⟨Nat.le_of_ble_eq_true rfl, Nat.le_of_ble_eq_true rfl⟩ (Nat.le_of_ble_eq_true rfl) ⟨(show _ + c_6 ≤ bc by omega), (show _ + s_6 ≤ bs by omega)⟩ dX11_way_22 (fun v S1 H locs hq hH => ?_)
    obtain ⟨rfl, hp⟩ := hq
    obtain ⟨S_7, eS_7⟩ : ∃ z : St, z = S1 := ⟨_, rfl⟩
    rw [← eS_7] at hp hH
    refine W.eq (g2 := F0 m 25 ls []) rfl ?_
    refine lv_aload_n (pc := 25) hx hb dX11_way_25 rfl (lv_at hl 0 rfl) ?_
    obtain ⟨hk_8, hp⟩ := hp
    refine sx_getR (pc := 26) (j := 15) B hH hk_8 coX11 rfl w_471 rfl dX11_way_26 ?_
    refine W.eq (g2 := F0 m 29 ls [va_rf (gR S_7 th 15)]) rfl ?_
    obtain ⟨a_9, ha_9, hp⟩ := hp
    refine sx_nonnull (x := a_9) ha_9 ?_
    refine lv_iload_n (pc := 29) hx hb dX11_way_29 rfl (lv_at hl 1 rfl) ?_
    obtain ⟨hk_10, hp⟩ := hp
    refine sx_V (pc := 30) (As := [.int p0]) (rest := []) B hH hl.1 (C_X5_isFound G l a_9 p0 _ _ hp) mi_X5_isFound coX5 hk_10 w_1228 w_1229 w_1227 rfl rfl ⟨Nat.le_of_ble_eq_true rfl, Nat.le_of_ble_eq_true rfl⟩ (Nat.le_of_ble_eq_true rfl) ⟨(show _ + 0 ≤ bc by omega), (show _ + 0 ≤ bs by omega)⟩ dX11_way_30 (fun v S1 H locs hq hH => ?_)
    obtain ⟨r_11, rfl, e9, hp⟩ := hq
    rw [e9] at hH
    refine W.eq (g2 := F0 m 33 ls [.int r_11]) rfl ?_
    refine lv_if_ne (pc := 33) (tgt := 43) hx hb dX11_way_33 (by decide) (fun cc_12 => ?_) (fun cc_12 => ?_)
    · have hp := hp.1 cc_12
      refine lv_aload_n (pc := 43) hx hb dX11_way_43 rfl (lv_at hl 0 rfl) ?_
      refine sx_getR (pc := 44) (j := 15) B hH hk_8 coX11 rfl w_471 rfl dX11_way_44 ?_
      refine W.eq (g2 := F0 m 47 ls [va_rf (gR S_7 th 15)]) rfl ?_
      refine sx_nonnull (x := a_9) ha_9 ?_
      refine lv_iload_n (pc := 47) hx hb dX11_way_47 rfl (lv_at hl 1 rfl) ?_
      obtain ⟨c_13, s_13, hb_13, hs_13, hp⟩ := hp
      refine sx_V (pc := 48) (As := [.int p0]) (rest := []) B hH hl.1 (C_X5_keepWay G l a_9 p0 _ c_13 s_13 _ hp) mi_X5_keepWay coX5 hk_10 w_1232 w_1233 w_1231 rfl rfl ⟨Nat.le_of_ble_eq_true rfl, Nat.le_of_ble_eq_true rfl⟩ (Nat.le_of_ble_eq_true rfl) ⟨(show _ + c_13 ≤ bc by omega), (show _ + s_13 ≤ bs by omega)⟩ dX11_way_48 (fun v S1 H locs hq hH => ?_)
      obtain ⟨rfl, hp⟩ := hq
      obtain ⟨S_14, eS_14⟩ : ∃ z : St, z = S1 := ⟨_, rfl⟩
      rw [← eS_14] at hp hH
      refine W.eq (g2 := F0 m 51 ls []) rfl ?_
      refine lv_aload_n (pc := 51) hx hb dX11_way_51 rfl (lv_at hl 0 rfl) ?_
      refine lv_aload_n (pc := 52) hx hb dX11_way_52 rfl (lv_at hl 0 rfl) ?_
      obtain ⟨hk_15, hp⟩ := hp
      refine sx_getR (pc := 53) (j := 15) B hH hk_15 coX11 rfl w_471 rfl dX11_way_53 ?_
      refine W.eq (g2 := F0 m 56 ls [va_rf (gR S_14 th 15), .ref th]) rfl ?_
      obtain ⟨a_16, ha_16, hp⟩ := hp
      refine sx_nonnull (x := a_16) ha_16 ?_
      obtain ⟨hk_17, hp⟩ := hp
      refine sx_getI (pc := 56) (j := 8) B hH hk_17 coX5 rfl w_409 rfl dX11_way_56 ?_
      refine W.eq (g2 := F0 m 59 ls [.int (gI S_14 a_16 8), .ref th]) rfl ?_
      refine sx_V (pc := 59) (As := [.int (gI S_14 a_16 8)]) (rest := []) B hH hl.1 (C_X11_answer G l th (gI S_14 a_16 8) _ _ hp) mi_X11_answer coX11 hk_15 w_740 w_16 w_738 rfl rfl ⟨Nat.le_of_ble_eq_true rfl, Nat.le_of_ble_eq_true rfl⟩ (Nat.le_of_ble_eq_true rfl) ⟨(show _ + 0 ≤ bc by omega), (show _ + 0 ≤ bs by omega)⟩ dX11_way_59 (fun v S1 H locs hq hH => ?_)
      obtain ⟨r_18, F_18, rfl, e9, hp⟩ := hq
      rw [e9] at hH
      have hH : Hp G (FA S s.heap.size) s.heap (wI S_14 F_18) H locs := hH
      refine W.eq (g2 := F0 m 62 ls [.int r_18]) rfl ?_
      exact sx_iret (pc := 62) B hH hr hlk (by rw [← hQQ]; exact ⟨_, rfl, hp⟩) (show _ ≤ bc by omega) (show _ ≤ bs by omega) dX11_way_62
    · have hp := hp.2 cc_12
      refine lv_aload_n (pc := 36) hx hb dX11_way_36 rfl (lv_at hl 0 rfl) ?_
      refine lv_bipush (pc := 37) (v := 6) hx hb dX11_way_37 (by decide) ?_
      refine sx_V (pc := 39) (As := [.int 6]) (rest := []) B hH hl.1 (C_X11_refuse G l th 6 _ _ hp) mi_X11_refuse coX11 hk_8 w_570 w_3 w_568 rfl rfl ⟨Nat.le_of_ble_eq_true rfl, Nat.le_of_ble_eq_true rfl⟩ (Nat.le_of_ble_eq_true rfl) ⟨(show _ + 0 ≤ bc by omega), (show _ + 0 ≤ bs by omega)⟩ dX11_way_39 (fun v S1 H locs hq hH => ?_)
      obtain ⟨r_19, F_19, rfl, e9, hp⟩ := hq
      rw [e9] at hH
      have hH : Hp G (FA S s.heap.size) s.heap (wI S_7 F_19) H locs := hH
      refine W.eq (g2 := F0 m 42 ls [.int r_19]) rfl ?_
      exact sx_iret (pc := 42) B hH hr hlk (by rw [← hQQ]; exact ⟨_, rfl, hp⟩) (show _ ≤ bc by omega) (show _ ≤ bs by omega) dX11_way_42
  · have hp := hp.2 cc_2
    refine lv_aload_n (pc := 8) hx hb dX11_way_8 rfl (lv_at hl 0 rfl) ?_
    refine lv_iconst (pc := 9) (v := 1) hx hb dX11_way_9 (by decide) ?_
    refine sx_V (pc := 10) (As := [.int 1]) (rest := []) B hH hl.1 (C_X11_refuse G l th 1 _ _ hp) mi_X11_refuse coX11 hk_th w_570 w_3 w_568 rfl rfl ⟨Nat.le_of_ble_eq_true rfl, Nat.le_of_ble_eq_true rfl⟩ (Nat.le_of_ble_eq_true rfl) ⟨(show _ + 0 ≤ bc by omega), (show _ + 0 ≤ bs by omega)⟩ dX11_way_10 (fun v S1 H locs hq hH => ?_)
    obtain ⟨r_20, F_20, rfl, e9, hp⟩ := hq
    rw [e9] at hH
    have hH : Hp G (FA S s.heap.size) s.heap (wI S F_20) H locs := hH
    refine W.eq (g2 := F0 m 13 ls [.int r_20]) rfl ?_
    exact sx_iret (pc := 13) B hH hr hlk (by rw [← hQQ]; exact ⟨_, rfl, hp⟩) (show _ ≤ bc by omega) (show _ ≤ bs by omega) dX11_way_13
theorem dX11_wayAt_0 : decode cX11_wayAt 0 = .ok (.iload_n 2, 1) := by decide +kernel
theorem dX11_wayAt_1 : decode cX11_wayAt 1 = .ok (.ifCond .eq 14, 3) := by decide +kernel
theorem dX11_wayAt_4 : decode cX11_wayAt 4 = .ok (.iload_n 2, 1) := by decide +kernel
theorem dX11_wayAt_5 : decode cX11_wayAt 5 = .ok (.iconst 1, 1) := by decide +kernel
theorem dX11_wayAt_6 : decode cX11_wayAt 6 = .ok (.if_icmp .eq 9, 3) := by decide +kernel
theorem dX11_wayAt_9 : decode cX11_wayAt 9 = .ok (.aload_n 0, 1) := by decide +kernel
theorem dX11_wayAt_10 : decode cX11_wayAt 10 = .ok (.iconst 1, 1) := by decide +kernel
theorem dX11_wayAt_11 : decode cX11_wayAt 11 = .ok (.invokevirtual 139, 3) := by decide +kernel
theorem dX11_wayAt_14 : decode cX11_wayAt 14 = .ok (.ireturn, 1) := by decide +kernel
theorem dX11_wayAt_15 : decode cX11_wayAt 15 = .ok (.iload_n 1, 1) := by decide +kernel
theorem dX11_wayAt_16 : decode cX11_wayAt 16 = .ok (.ifCond .lt 14, 3) := by decide +kernel
theorem dX11_wayAt_19 : decode cX11_wayAt 19 = .ok (.iload_n 1, 1) := by decide +kernel
theorem dX11_wayAt_20 : decode cX11_wayAt 20 = .ok (.aload_n 0, 1) := by decide +kernel
theorem dX11_wayAt_21 : decode cX11_wayAt 21 = .ok (.getfield 99, 3) := by decide +kernel
theorem dX11_wayAt_24 : decode cX11_wayAt 24 = .ok (.getfield 353, 3) := by decide +kernel
theorem dX11_wayAt_27 : decode cX11_wayAt 27 = .ok (.if_icmp .lt 10, 3) := by decide +kernel
theorem dX11_wayAt_30 : decode cX11_wayAt 30 = .ok (.aload_n 0, 1) := by decide +kernel
theorem dX11_wayAt_31 : decode cX11_wayAt 31 = .ok (.bipush 6, 2) := by decide +kernel
theorem dX11_wayAt_33 : decode cX11_wayAt 33 = .ok (.invokevirtual 139, 3) := by decide +kernel
theorem dX11_wayAt_36 : decode cX11_wayAt 36 = .ok (.ireturn, 1) := by decide +kernel
theorem dX11_wayAt_37 : decode cX11_wayAt 37 = .ok (.aload_n 0, 1) := by decide +kernel
theorem dX11_wayAt_38 : decode cX11_wayAt 38 = .ok (.getfield 99, 3) := by decide +kernel
theorem dX11_wayAt_41 : decode cX11_wayAt 41 = .ok (.getfield 356, 3) := by decide +kernel
theorem dX11_wayAt_44 : decode cX11_wayAt 44 = .ok (.iload_n 1, 1) := by decide +kernel
theorem dX11_wayAt_45 : decode cX11_wayAt 45 = .ok (.iaload, 1) := by decide +kernel
theorem dX11_wayAt_46 : decode cX11_wayAt 46 = .ok (.istore_n 3, 1) := by decide +kernel
theorem dX11_wayAt_47 : decode cX11_wayAt 47 = .ok (.aload_n 0, 1) := by decide +kernel
theorem dX11_wayAt_48 : decode cX11_wayAt 48 = .ok (.iload_n 2, 1) := by decide +kernel
theorem dX11_wayAt_49 : decode cX11_wayAt 49 = .ok (.ifCond .ne 9, 3) := by decide +kernel
theorem dX11_wayAt_52 : decode cX11_wayAt 52 = .ok (.iload_n 3, 1) := by decide +kernel
theorem dX11_wayAt_53 : decode cX11_wayAt 53 = .ok (.iconst 3, 1) := by decide +kernel
theorem dX11_wayAt_54 : decode cX11_wayAt 54 = .ok (.idiv, 1) := by decide +kernel
theorem dX11_wayAt_55 : decode cX11_wayAt 55 = .ok (.goto 6, 3) := by decide +kernel
theorem dX11_wayAt_58 : decode cX11_wayAt 58 = .ok (.iload_n 3, 1) := by decide +kernel
theorem dX11_wayAt_59 : decode cX11_wayAt 59 = .ok (.iconst 3, 1) := by decide +kernel
theorem dX11_wayAt_60 : decode cX11_wayAt 60 = .ok (.irem, 1) := by decide +kernel
theorem dX11_wayAt_61 : decode cX11_wayAt 61 = .ok (.invokevirtual 170, 3) := by decide +kernel
theorem dX11_wayAt_64 : decode cX11_wayAt 64 = .ok (.ireturn, 1) := by decide +kernel
theorem mi_X11_wayAt : MI yX11_wayAt cX11_wayAt 4 (some FieldType.int) 2 := ⟨w_1243, w_105, by decide +kernel, by decide +kernel, by decide +kernel⟩
set_option maxRecDepth 100000 in
set_option maxHeartbeats 4000000 in
theorem C_X11_wayAt (G : GG) (l : Launch) (th : Nat) (p0 : Int32) (p1 : Int32) (S : St) (Q : Int32 → (Nat → Nat → Int32) → Prop) (hp : P_X11_wayAt th p0 p1 S Q) : Ctr G l yX11_wayAt cX11_wayAt 4 (some FieldType.int) 1 21 0 0 [.ref th, .int p0, .int p1] S (fun (v : Option Value) (S9 : St) => ∃ (r : Int32) (I9 : Nat → Nat → Int32), v = some (.int r) ∧ S9 = wI S I9 ∧ Q r I9) := by
  generalize hQQ : (fun (v : Option Value) (S9 : St) => ∃ (r : Int32) (I9 : Nat → Nat → Int32), v = some (.int r) ∧ S9 = wI S I9 ∧ Q r I9) = QQ
  unfold P_X11_wayAt at hp
  refine Ctr.of (by decide) (Nat.le_of_ble_eq_true rfl) ?_
  intro p e s m args below meth c ls B hr hlk hin hl hH
  generalize hlocs0 : ([] : List Loc) = locs at hH ⊢
  have hx := B.1
  have hb := B.2.1
  have hl : lv_has ls 4 [(0, .ref th), (1, .int p0), (2, .int p1)] := hl
  obtain ⟨hk_th, hp⟩ := hp
  refine lv_iload_n (pc := 0) hx hb dX11_wayAt_0 rfl (lv_at hl 2 rfl) ?_
  obtain ⟨J_2, hj_2, hp⟩ := hp
  have kj_2 : ∀  (H : Heap) (locs : List Loc) (ls : Array Slot), J_2  → Hp G (FA S s.heap.size) s.heap S H locs → lv_has ls 4 [(0, .ref th), (1, .int p0), (2, .int p1)] → Wm G p l e { frames := 1, cells := 0, slots := 0, locals := 21 } s m args below meth c S QQ 0 0 H locs 0 0 (F0 m 15 ls []) := by
    intro  H locs ls hq9 hH hl
    have hp := hj_2  hq9
    refine lv_iload_n (pc := 15) hx hb dX11_wayAt_15 rfl (lv_at hl 1 rfl) ?_
    obtain ⟨J_4, hj_4, hp⟩ := hp
    have kj_4 : ∀  (H : Heap) (locs : List Loc) (ls : Array Slot), J_4  → Hp G (FA S s.heap.size) s.heap S H locs → lv_has ls 4 [(0, .ref th)] → Wm G p l e { frames := 1, cells := 0, slots := 0, locals := 21 } s m args below meth c S QQ 0 0 H locs 0 0 (F0 m 30 ls []) := by
      intro  H locs ls hq9 hH hl
      have hp := hj_4  hq9
      refine lv_aload_n (pc := 30) hx hb dX11_wayAt_30 rfl (lv_at hl 0 rfl) ?_
      refine lv_bipush (pc := 31) (v := 6) hx hb dX11_wayAt_31 (by decide) ?_
      refine sx_V (pc := 33) (As := [.int 6]) (rest := []) B hH hl.1 (C_X11_refuse G l th 6 _ _ hp) mi_X11_refuse coX11 hk_th w_570 w_3 w_568 rfl rfl ⟨Nat.le_of_ble_eq_true rfl, Nat.le_of_ble_eq_true rfl⟩ (Nat.le_of_ble_eq_true rfl) ⟨Nat.le_of_ble_eq_true rfl, Nat.le_of_ble_eq_true rfl⟩ dX11_wayAt_33 (fun v S1 H locs hq hH => ?_)
      obtain ⟨r_5, F_5, rfl, e9, hp⟩ := hq
      rw [e9] at hH
      have hH : Hp G (FA S s.heap.size) s.heap (wI S F_5) H locs := hH
      refine W.eq (g2 := F0 m 36 ls [.int r_5]) rfl ?_
      exact sx_iret (pc := 36) B hH hr hlk (by rw [← hQQ]; exact ⟨_, F_5, rfl, rfl, hp⟩) (Nat.le_of_ble_eq_true rfl) (Nat.le_of_ble_eq_true rfl) dX11_wayAt_36
    refine lv_if_lt (pc := 16) (tgt := 30) hx hb dX11_wayAt_16 (by decide) (fun cc_3 => ?_) (fun cc_3 => ?_)
    · have hp := hp.1 cc_3
      exact kj_4  _ _ _ hp hH (lv_sub hl [0] rfl)
    · have hp := hp.2 cc_3
      refine lv_iload_n (pc := 19) hx hb dX11_wayAt_19 rfl (lv_at hl 1 rfl) ?_
      refine lv_aload_n (pc := 20) hx hb dX11_wayAt_20 rfl (lv_at hl 0 rfl) ?_
      refine sx_getR (pc := 21) (j := 15) B hH hk_th coX11 rfl w_471 rfl dX11_wayAt_21 ?_
      refine W.eq (g2 := F0 m 24 ls [va_rf (gR S th 15), .int p0]) rfl ?_
      obtain ⟨a_6, ha_6, hp⟩ := hp
      refine sx_nonnull (x := a_6) ha_6 ?_
      obtain ⟨hk_7, hp⟩ := hp
      refine sx_getI (pc := 24) (j := 8) B hH hk_7 coX5 rfl w_409 rfl dX11_wayAt_24 ?_
      refine W.eq (g2 := F0 m 27 ls [.int (gI S a_6 8), .int p0]) rfl ?_
      refine lv_icmp_lt (pc := 27) (tgt := 37) hx hb dX11_wayAt_27 (by decide) (fun cc_8 => ?_) (fun cc_8 => ?_)
      · have hp := hp.1 cc_8
        refine lv_aload_n (pc := 37) hx hb dX11_wayAt_37 rfl (lv_at hl 0 rfl) ?_
        refine sx_getR (pc := 38) (j := 15) B hH hk_th coX11 rfl w_471 rfl dX11_wayAt_38 ?_
        refine W.eq (g2 := F0 m 41 ls [va_rf (gR S th 15)]) rfl ?_
        refine sx_nonnull (x := a_6) ha_6 ?_
        refine sx_getR (pc := 41) (j := 7) B hH hk_7 coX5 rfl w_407 rfl dX11_wayAt_41 ?_
        refine W.eq (g2 := F0 m 44 ls [va_rf (gR S a_6 7)]) rfl ?_
        obtain ⟨a_9, ha_9, hp⟩ := hp
        refine sx_nonnull (x := a_9) ha_9 ?_
        refine lv_iload_n (pc := 44) hx hb dX11_wayAt_44 rfl (lv_at hl 1 rfl) ?_
        obtain ⟨hk_10, hp⟩ := hp
        obtain ⟨hn_11, hp⟩ := hp
        refine sx_iald (pc := 45) B hH hk_10 hn_11 dX11_wayAt_45 ?_
        refine W.eq (g2 := F0 m 46 ls [.int (gI S a_9 p0.toNatClampNeg)]) rfl ?_
        refine lv_topi (fun v_12 ev_12 => ?_)
        have hp := hp v_12 ev_12
        refine lv_istore_n (pc := 46) (lv' := [(3, .int v_12), (0, .ref th), (1, .int p0), (2, .int p1)]) hx hb dX11_wayAt_46 rfl hl (by decide) rfl (fun ls hl => ?_)
        refine lv_aload_n (pc := 47) hx hb dX11_wayAt_47 rfl (lv_at hl 1 rfl) ?_
        refine lv_iload_n (pc := 48) hx hb dX11_wayAt_48 rfl (lv_at hl 3 rfl) ?_
        obtain ⟨J_14, hj_14, hp⟩ := hp
        have kj_14 : ∀ (t_15 : Int32) (H : Heap) (locs : List Loc) (ls : Array Slot), J_14 t_15 → Hp G (FA S s.heap.size) s.heap S H locs → lv_has ls 4 [] → Wm G p l e { frames := 1, cells := 0, slots := 0, locals := 21 } s m args below meth c S QQ 0 0 H locs 0 0 (F0 m 61 ls [.int t_15, .ref th]) := by
          intro t_15 H locs ls hq9 hH hl
          have hp := hj_14 t_15 hq9
          refine sx_V (pc := 61) (As := [.int t_15]) (rest := []) B hH hl.1 (C_X11_answer G l th t_15 _ _ hp) mi_X11_answer coX11 hk_th w_740 w_16 w_738 rfl rfl ⟨Nat.le_of_ble_eq_true rfl, Nat.le_of_ble_eq_true rfl⟩ (Nat.le_of_ble_eq_true rfl) ⟨Nat.le_of_ble_eq_true rfl, Nat.le_of_ble_eq_true rfl⟩ dX11_wayAt_61 (fun v S1 H locs hq hH => ?_)
          obtain ⟨r_16, F_16, rfl, e9, hp⟩ := hq
          rw [e9] at hH
          have hH : Hp G (FA S s.heap.size) s.heap (wI S F_16) H locs := hH
          refine W.eq (g2 := F0 m 64 ls [.int r_16]) rfl ?_
          exact sx_iret (pc := 64) B hH hr hlk (by rw [← hQQ]; exact ⟨_, F_16, rfl, rfl, hp⟩) (Nat.le_of_ble_eq_true rfl) (Nat.le_of_ble_eq_true rfl) dX11_wayAt_64
        refine lv_if_ne (pc := 49) (tgt := 58) hx hb dX11_wayAt_49 (by decide) (fun cc_13 => ?_) (fun cc_13 => ?_)
        · have hp := hp.1 cc_13
          refine lv_iload_n (pc := 58) hx hb dX11_wayAt_58 rfl (lv_at hl 0 rfl) ?_
          refine lv_iconst (pc := 59) (v := 3) hx hb dX11_wayAt_59 (by decide) ?_
          refine lv_irem (pc := 60) hx hb dX11_wayAt_60 (by decide) ?_
          refine W.eq (g2 := F0 m 61 ls [.int (irm v_12 3), .ref th]) rfl ?_
          exact kj_14 _ _ _ _ hp hH (lv_sub hl [] rfl)
        · have hp := hp.2 cc_13
          refine lv_iload_n (pc := 52) hx hb dX11_wayAt_52 rfl (lv_at hl 0 rfl) ?_
          refine lv_iconst (pc := 53) (v := 3) hx hb dX11_wayAt_53 (by decide) ?_
          refine lv_idiv (pc := 54) hx hb dX11_wayAt_54 (by decide) ?_
          refine lv_goto (pc := 55) (tgt := 61) hx hb dX11_wayAt_55 (by decide) ?_
          exact kj_14 _ _ _ _ hp hH (lv_sub hl [] rfl)
      · have hp := hp.2 cc_8
        exact kj_4  _ _ _ hp hH (lv_sub hl [0] rfl)
  refine lv_if_eq (pc := 1) (tgt := 15) hx hb dX11_wayAt_1 (by decide) (fun cc_1 => ?_) (fun cc_1 => ?_)
  · have hp := hp.1 cc_1
    exact kj_2  _ _ _ hp hH (lv_sub hl [0, 1, 2] rfl)
  · have hp := hp.2 cc_1
    refine lv_iload_n (pc := 4) hx hb dX11_wayAt_4 rfl (lv_at hl 2 rfl) ?_
    refine lv_iconst (pc := 5) (v := 1) hx hb dX11_wayAt_5 (by decide) ?_
    refine lv_icmp_eq (pc := 6) (tgt := 15) hx hb dX11_wayAt_6 (by decide) (fun cc_17 => ?_) (fun cc_17 => ?_)
    · have hp := hp.1 cc_17
      exact kj_2  _ _ _ hp hH (lv_sub hl [0, 1, 2] rfl)
    · have hp := hp.2 cc_17
      refine lv_aload_n (pc := 9) hx hb dX11_wayAt_9 rfl (lv_at hl 0 rfl) ?_
      refine lv_iconst (pc := 10) (v := 1) hx hb dX11_wayAt_10 (by decide) ?_
      refine sx_V (pc := 11) (As := [.int 1]) (rest := []) B hH hl.1 (C_X11_refuse G l th 1 _ _ hp) mi_X11_refuse coX11 hk_th w_570 w_3 w_568 rfl rfl ⟨Nat.le_of_ble_eq_true rfl, Nat.le_of_ble_eq_true rfl⟩ (Nat.le_of_ble_eq_true rfl) ⟨Nat.le_of_ble_eq_true rfl, Nat.le_of_ble_eq_true rfl⟩ dX11_wayAt_11 (fun v S1 H locs hq hH => ?_)
      obtain ⟨r_18, F_18, rfl, e9, hp⟩ := hq
      rw [e9] at hH
      have hH : Hp G (FA S s.heap.size) s.heap (wI S F_18) H locs := hH
      refine W.eq (g2 := F0 m 14 ls [.int r_18]) rfl ?_
      exact sx_iret (pc := 14) B hH hr hlk (by rw [← hQQ]; exact ⟨_, F_18, rfl, rfl, hp⟩) (Nat.le_of_ble_eq_true rfl) (Nat.le_of_ble_eq_true rfl) dX11_wayAt_14
theorem dX11_extent_0 : decode cX11_extent 0 = .ok (.aload_n 0, 1) := by decide +kernel
theorem dX11_extent_1 : decode cX11_extent 1 = .ok (.getfield 99, 3) := by decide +kernel
theorem dX11_extent_4 : decode cX11_extent 4 = .ok (.aload_n 0, 1) := by decide +kernel
theorem dX11_extent_5 : decode cX11_extent 5 = .ok (.getfield 62, 3) := by decide +kernel
theorem dX11_extent_8 : decode cX11_extent 8 = .ok (.invokevirtual 343, 3) := by decide +kernel
theorem dX11_extent_11 : decode cX11_extent 11 = .ok (.aload_n 0, 1) := by decide +kernel
theorem dX11_extent_12 : decode cX11_extent 12 = .ok (.aload_n 0, 1) := by decide +kernel
theorem dX11_extent_13 : decode cX11_extent 13 = .ok (.getfield 99, 3) := by decide +kernel
theorem dX11_extent_16 : decode cX11_extent 16 = .ok (.getfield 359, 3) := by decide +kernel
theorem dX11_extent_19 : decode cX11_extent 19 = .ok (.invokevirtual 170, 3) := by decide +kernel
theorem dX11_extent_22 : decode cX11_extent 22 = .ok (.ireturn, 1) := by decide +kernel
theorem mi_X11_extent : MI yX11_extent cX11_extent 1 (some FieldType.int) 0 := ⟨w_1247, w_105, by decide +kernel, by decide +kernel, by decide +kernel⟩
set_option maxRecDepth 100000 in
set_option maxHeartbeats 4000000 in
theorem C_X11_extent (G : GG) (l : Launch) (th : Nat) (S : St) (bc bs : Nat) (Q : Int32 → St → Prop) (hp : P_X11_extent th S bc bs Q) : Ctr G l yX11_extent cX11_extent 1 (some FieldType.int) 3 73 bc bs [.ref th] S (fun (v : Option Value) (S9 : St) => ∃ r : Int32, v = some (.int r) ∧ Q r S9) := by
  generalize hQQ : (fun (v : Option Value) (S9 : St) => ∃ r : Int32, v = some (.int r) ∧ Q r S9) = QQ
  unfold P_X11_extent at hp
  refine Ctr.of (by decide) (Nat.le_of_ble_eq_true rfl) ?_
  intro p e s m args below meth c ls B hr hlk hin hl hH
  generalize hlocs0 : ([] : List Loc) = locs at hH ⊢
  have hx := B.1
  have hb := B.2.1
  have hl : lv_has ls 1 [(0, .ref th)] := hl
  obtain ⟨hk_th, hp⟩ := hp
  refine lv_aload_n (pc := 0) hx hb dX11_extent_0 rfl (lv_at hl 0 rfl) ?_
  refine sx_getR (pc := 1) (j := 15) B hH hk_th coX11 rfl w_471 rfl dX11_extent_1 ?_
  refine W.eq (g2 := F0 m 4 ls [va_rf (gR S th 15)]) rfl ?_
  obtain ⟨a_1, ha_1, hp⟩ := hp
  refine sx_nonnull (x := a_1) ha_1 ?_
  refine lv_aload_n (pc := 4) hx hb dX11_extent_4 rfl (lv_at hl 0 rfl) ?_
  refine sx_getR (pc := 5) (j := 7) B hH hk_th coX11 rfl w_463 rfl dX11_extent_5 ?_
  refine W.eq (g2 := F0 m 8 ls [va_rf (gR S th 7), .ref a_1]) rfl ?_
  obtain ⟨a_2, ha_2, hp⟩ := hp
  refine sx_nonnull (x := a_2) ha_2 ?_
  obtain ⟨hk_3, hp⟩ := hp
  obtain ⟨c_4, s_4, hb_4, hs_4, hp⟩ := hp
  refine sx_V (pc := 8) (As := [.ref a_2]) (rest := []) B hH hl.1 (C_X5_over G l a_1 a_2 _ c_4 s_4 _ hp) mi_X5_over coX5 hk_3 w_1201 w_1202 w_1200 rfl rfl ⟨Nat.le_of_ble_eq_true rfl, Nat.le_of_ble_eq_true rfl⟩ (Nat.le_of_ble_eq_true rfl) ⟨(show _ + c_4 ≤ bc by omega), (show _ + s_4 ≤ bs by omega)⟩ dX11_extent_8 (fun v S1 H locs hq hH => ?_)
  obtain ⟨rfl, hp⟩ := hq
  obtain ⟨S_5, eS_5⟩ : ∃ z : St, z = S1 := ⟨_, rfl⟩
  rw [← eS_5] at hp hH
  refine W.eq (g2 := F0 m 11 ls []) rfl ?_
  refine lv_aload_n (pc := 11) hx hb dX11_extent_11 rfl (lv_at hl 0 rfl) ?_
  refine lv_aload_n (pc := 12) hx hb dX11_extent_12 rfl (lv_at hl 0 rfl) ?_
  obtain ⟨hk_6, hp⟩ := hp
  refine sx_getR (pc := 13) (j := 15) B hH hk_6 coX11 rfl w_471 rfl dX11_extent_13 ?_
  refine W.eq (g2 := F0 m 16 ls [va_rf (gR S_5 th 15), .ref th]) rfl ?_
  obtain ⟨a_7, ha_7, hp⟩ := hp
  refine sx_nonnull (x := a_7) ha_7 ?_
  obtain ⟨hk_8, hp⟩ := hp
  refine sx_getI (pc := 16) (j := 6) B hH hk_8 coX5 rfl w_405 rfl dX11_extent_16 ?_
  refine W.eq (g2 := F0 m 19 ls [.int (gI S_5 a_7 6), .ref th]) rfl ?_
  refine sx_V (pc := 19) (As := [.int (gI S_5 a_7 6)]) (rest := []) B hH hl.1 (C_X11_answer G l th (gI S_5 a_7 6) _ _ hp) mi_X11_answer coX11 hk_6 w_740 w_16 w_738 rfl rfl ⟨Nat.le_of_ble_eq_true rfl, Nat.le_of_ble_eq_true rfl⟩ (Nat.le_of_ble_eq_true rfl) ⟨(show _ + 0 ≤ bc by omega), (show _ + 0 ≤ bs by omega)⟩ dX11_extent_19 (fun v S1 H locs hq hH => ?_)
  obtain ⟨r_9, F_9, rfl, e9, hp⟩ := hq
  rw [e9] at hH
  have hH : Hp G (FA S s.heap.size) s.heap (wI S_5 F_9) H locs := hH
  refine W.eq (g2 := F0 m 22 ls [.int r_9]) rfl ?_
  exact sx_iret (pc := 22) B hH hr hlk (by rw [← hQQ]; exact ⟨_, rfl, hp⟩) (show _ ≤ bc by omega) (show _ ≤ bs by omega) dX11_extent_22
theorem dX11_compositions_0 : decode cX11_compositions 0 = .ok (.aload_n 0, 1) := by decide +kernel
theorem dX11_compositions_1 : decode cX11_compositions 1 = .ok (.iload_n 1, 1) := by decide +kernel
theorem dX11_compositions_2 : decode cX11_compositions 2 = .ok (.invokevirtual 256, 3) := by decide +kernel
theorem dX11_compositions_5 : decode cX11_compositions 5 = .ok (.ifCond .eq 25, 3) := by decide +kernel
theorem dX11_compositions_8 : decode cX11_compositions 8 = .ok (.iload_n 2, 1) := by decide +kernel
theorem dX11_compositions_9 : decode cX11_compositions 9 = .ok (.iconst 1, 1) := by decide +kernel
theorem dX11_compositions_10 : decode cX11_compositions 10 = .ok (.if_icmp .lt 20, 3) := by decide +kernel
theorem dX11_compositions_13 : decode cX11_compositions 13 = .ok (.iload_n 2, 1) := by decide +kernel
theorem dX11_compositions_14 : decode cX11_compositions 14 = .ok (.bipush 8, 2) := by decide +kernel
theorem dX11_compositions_16 : decode cX11_compositions 16 = .ok (.if_icmp .gt 14, 3) := by decide +kernel
theorem dX11_compositions_19 : decode cX11_compositions 19 = .ok (.iload_n 3, 1) := by decide +kernel
theorem dX11_compositions_20 : decode cX11_compositions 20 = .ok (.iconst 1, 1) := by decide +kernel
theorem dX11_compositions_21 : decode cX11_compositions 21 = .ok (.if_icmp .lt 9, 3) := by decide +kernel
theorem dX11_compositions_24 : decode cX11_compositions 24 = .ok (.iload_n 3, 1) := by decide +kernel
theorem dX11_compositions_25 : decode cX11_compositions 25 = .ok (.bipush 8, 2) := by decide +kernel
theorem dX11_compositions_27 : decode cX11_compositions 27 = .ok (.if_icmp .lt 9, 3) := by decide +kernel
theorem dX11_compositions_30 : decode cX11_compositions 30 = .ok (.aload_n 0, 1) := by decide +kernel
theorem dX11_compositions_31 : decode cX11_compositions 31 = .ok (.iconst 1, 1) := by decide +kernel
theorem dX11_compositions_32 : decode cX11_compositions 32 = .ok (.invokevirtual 139, 3) := by decide +kernel
theorem dX11_compositions_35 : decode cX11_compositions 35 = .ok (.ireturn, 1) := by decide +kernel
theorem dX11_compositions_36 : decode cX11_compositions 36 = .ok (.aload_n 0, 1) := by decide +kernel
theorem dX11_compositions_37 : decode cX11_compositions 37 = .ok (.aload_n 0, 1) := by decide +kernel
theorem dX11_compositions_38 : decode cX11_compositions 38 = .ok (.getfield 106, 3) := by decide +kernel
theorem dX11_compositions_41 : decode cX11_compositions 41 = .ok (.aload_n 0, 1) := by decide +kernel
theorem dX11_compositions_42 : decode cX11_compositions 42 = .ok (.getfield 62, 3) := by decide +kernel
theorem dX11_compositions_45 : decode cX11_compositions 45 = .ok (.aload_n 0, 1) := by decide +kernel
theorem dX11_compositions_46 : decode cX11_compositions 46 = .ok (.getfield 62, 3) := by decide +kernel
theorem dX11_compositions_49 : decode cX11_compositions 49 = .ok (.getfield 166, 3) := by decide +kernel
theorem dX11_compositions_52 : decode cX11_compositions 52 = .ok (.iload_n 1, 1) := by decide +kernel
theorem dX11_compositions_53 : decode cX11_compositions 53 = .ok (.aaload, 1) := by decide +kernel
theorem dX11_compositions_54 : decode cX11_compositions 54 = .ok (.iload_n 2, 1) := by decide +kernel
theorem dX11_compositions_55 : decode cX11_compositions 55 = .ok (.iload_n 3, 1) := by decide +kernel
theorem dX11_compositions_56 : decode cX11_compositions 56 = .ok (.aload_n 0, 1) := by decide +kernel
theorem dX11_compositions_57 : decode cX11_compositions 57 = .ok (.getfield 92, 3) := by decide +kernel
theorem dX11_compositions_60 : decode cX11_compositions 60 = .ok (.invokevirtual 362, 3) := by decide +kernel
theorem dX11_compositions_63 : decode cX11_compositions 63 = .ok (.invokevirtual 170, 3) := by decide +kernel
theorem dX11_compositions_66 : decode cX11_compositions 66 = .ok (.ireturn, 1) := by decide +kernel
theorem mi_X11_compositions : MI yX11_compositions cX11_compositions 4 (some FieldType.int) 3 := ⟨w_1251, w_105, by decide +kernel, by decide +kernel, by decide +kernel⟩
set_option maxRecDepth 100000 in
set_option maxHeartbeats 4000000 in
theorem C_X11_compositions (G : GG) (l : Launch) (th : Nat) (p0 : Int32) (p1 : Int32) (p2 : Int32) (S : St) (bc bs : Nat) (Q : Int32 → St → Prop) (hp : P_X11_compositions th p0 p1 p2 S bc bs Q) : Ctr G l yX11_compositions cX11_compositions 4 (some FieldType.int) 4 105 bc bs [.ref th, .int p0, .int p1, .int p2] S (fun (v : Option Value) (S9 : St) => ∃ r : Int32, v = some (.int r) ∧ Q r S9) := by
  generalize hQQ : (fun (v : Option Value) (S9 : St) => ∃ r : Int32, v = some (.int r) ∧ Q r S9) = QQ
  unfold P_X11_compositions at hp
  refine Ctr.of (by decide) (Nat.le_of_ble_eq_true rfl) ?_
  intro p e s m args below meth c ls B hr hlk hin hl hH
  generalize hlocs0 : ([] : List Loc) = locs at hH ⊢
  have hx := B.1
  have hb := B.2.1
  have hl : lv_has ls 4 [(0, .ref th), (1, .int p0), (2, .int p1), (3, .int p2)] := hl
  obtain ⟨hk_th, hp⟩ := hp
  refine lv_aload_n (pc := 0) hx hb dX11_compositions_0 rfl (lv_at hl 0 rfl) ?_
  refine lv_iload_n (pc := 1) hx hb dX11_compositions_1 rfl (lv_at hl 1 rfl) ?_
  refine sx_V (pc := 2) (As := [.int p0]) (rest := []) B hH hl.1 (C_X11_isMethod G l th p0 _ _ hp) mi_X11_isMethod coX11 hk_th w_968 w_31 w_966 rfl rfl ⟨Nat.le_of_ble_eq_true rfl, Nat.le_of_ble_eq_true rfl⟩ (Nat.le_of_ble_eq_true rfl) ⟨(show _ + 0 ≤ bc by omega), (show _ + 0 ≤ bs by omega)⟩ dX11_compositions_2 (fun v S1 H locs hq hH => ?_)
  obtain ⟨r_1, rfl, e9, hp⟩ := hq
  rw [e9] at hH
  refine W.eq (g2 := F0 m 5 ls [.int r_1]) rfl ?_
  obtain ⟨J_3, hj_3, hp⟩ := hp
  have kj_3 : ∀  (H : Heap) (locs : List Loc) (ls : Array Slot) (cells slots : Nat), J_3  → cells + bc ≤ bc → slots + bs ≤ bs → Hp G (FA S s.heap.size) s.heap S H locs → lv_has ls 4 [(0, .ref th)] → Wm G p l e { frames := 4, cells := bc, slots := bs, locals := 105 } s m args below meth c S QQ bc bs H locs cells slots (F0 m 30 ls []) := by
    intro  H locs ls cells slots hq9 hcc_3 hss_3 hH hl
    have hp := hj_3  hq9
    refine lv_aload_n (pc := 30) hx hb dX11_compositions_30 rfl (lv_at hl 0 rfl) ?_
    refine lv_iconst (pc := 31) (v := 1) hx hb dX11_compositions_31 (by decide) ?_
    refine sx_V (pc := 32) (As := [.int 1]) (rest := []) B hH hl.1 (C_X11_refuse G l th 1 _ _ hp) mi_X11_refuse coX11 hk_th w_570 w_3 w_568 rfl rfl ⟨Nat.le_of_ble_eq_true rfl, Nat.le_of_ble_eq_true rfl⟩ (Nat.le_of_ble_eq_true rfl) ⟨(show _ + 0 ≤ bc by omega), (show _ + 0 ≤ bs by omega)⟩ dX11_compositions_32 (fun v S1 H locs hq hH => ?_)
    obtain ⟨r_4, F_4, rfl, e9, hp⟩ := hq
    rw [e9] at hH
    have hH : Hp G (FA S s.heap.size) s.heap (wI S F_4) H locs := hH
    refine W.eq (g2 := F0 m 35 ls [.int r_4]) rfl ?_
    exact sx_iret (pc := 35) B hH hr hlk (by rw [← hQQ]; exact ⟨_, rfl, hp⟩) (show _ ≤ bc by omega) (show _ ≤ bs by omega) dX11_compositions_35
  refine lv_if_eq (pc := 5) (tgt := 30) hx hb dX11_compositions_5 (by decide) (fun cc_2 => ?_) (fun cc_2 => ?_)
  · have hp := hp.1 cc_2
    exact kj_3  _ _ _ _ _ hp (show _ + bc ≤ bc by omega) (show _ + bs ≤ bs by omega) hH (lv_sub hl [0] rfl)
  · have hp := hp.2 cc_2
    refine lv_iload_n (pc := 8) hx hb dX11_compositions_8 rfl (lv_at hl 2 rfl) ?_
    refine lv_iconst (pc := 9) (v := 1) hx hb dX11_compositions_9 (by decide) ?_
    refine lv_icmp_lt (pc := 10) (tgt := 30) hx hb dX11_compositions_10 (by decide) (fun cc_5 => ?_) (fun cc_5 => ?_)
    · have hp := hp.1 cc_5
      exact kj_3  _ _ _ _ _ hp (show _ + bc ≤ bc by omega) (show _ + bs ≤ bs by omega) hH (lv_sub hl [0] rfl)
    · have hp := hp.2 cc_5
      refine lv_iload_n (pc := 13) hx hb dX11_compositions_13 rfl (lv_at hl 2 rfl) ?_
      refine lv_bipush (pc := 14) (v := 8) hx hb dX11_compositions_14 (by decide) ?_
      refine lv_icmp_gt (pc := 16) (tgt := 30) hx hb dX11_compositions_16 (by decide) (fun cc_6 => ?_) (fun cc_6 => ?_)
      · have hp := hp.1 cc_6
        exact kj_3  _ _ _ _ _ hp (show _ + bc ≤ bc by omega) (show _ + bs ≤ bs by omega) hH (lv_sub hl [0] rfl)
      · have hp := hp.2 cc_6
        refine lv_iload_n (pc := 19) hx hb dX11_compositions_19 rfl (lv_at hl 3 rfl) ?_
        refine lv_iconst (pc := 20) (v := 1) hx hb dX11_compositions_20 (by decide) ?_
        refine lv_icmp_lt (pc := 21) (tgt := 30) hx hb dX11_compositions_21 (by decide) (fun cc_7 => ?_) (fun cc_7 => ?_)
        · have hp := hp.1 cc_7
          exact kj_3  _ _ _ _ _ hp (show _ + bc ≤ bc by omega) (show _ + bs ≤ bs by omega) hH (lv_sub hl [0] rfl)
        · have hp := hp.2 cc_7
          refine lv_iload_n (pc := 24) hx hb dX11_compositions_24 rfl (lv_at hl 3 rfl) ?_
          refine lv_bipush (pc := 25) (v := 8) hx hb dX11_compositions_25 (by decide) ?_
          refine lv_icmp_lt (pc := 27) (tgt := 36) hx hb dX11_compositions_27 (by decide) (fun cc_8 => ?_) (fun cc_8 => ?_)
          · have hp := hp.1 cc_8
            refine lv_aload_n (pc := 36) hx hb dX11_compositions_36 rfl (lv_at hl 0 rfl) ?_
            refine lv_aload_n (pc := 37) hx hb dX11_compositions_37 rfl (lv_at hl 0 rfl) ?_
            refine sx_getR (pc := 38) (j := 16) B hH hk_th coX11 rfl w_472 rfl dX11_compositions_38 ?_
            refine W.eq (g2 := F0 m 41 ls [va_rf (gR S th 16), .ref th]) rfl ?_
            obtain ⟨a_9, ha_9, hp⟩ := hp
            refine sx_nonnull (x := a_9) ha_9 ?_
            refine lv_aload_n (pc := 41) hx hb dX11_compositions_41 rfl (lv_at hl 0 rfl) ?_
            refine sx_getR (pc := 42) (j := 7) B hH hk_th coX11 rfl w_463 rfl dX11_compositions_42 ?_
            refine W.eq (g2 := F0 m 45 ls [va_rf (gR S th 7), .ref a_9, .ref th]) rfl ?_
            obtain ⟨a_10, ha_10, hp⟩ := hp
            refine sx_nonnull (x := a_10) ha_10 ?_
            refine lv_aload_n (pc := 45) hx hb dX11_compositions_45 rfl (lv_at hl 0 rfl) ?_
            refine sx_getR (pc := 46) (j := 7) B hH hk_th coX11 rfl w_463 rfl dX11_compositions_46 ?_
            refine W.eq (g2 := F0 m 49 ls [va_rf (gR S th 7), .ref a_10, .ref a_9, .ref th]) rfl ?_
            refine sx_nonnull (x := a_10) ha_10 ?_
            obtain ⟨hk_11, hp⟩ := hp
            refine sx_getR (pc := 49) (j := 3) B hH hk_11 coX0 rfl w_366 rfl dX11_compositions_49 ?_
            refine W.eq (g2 := F0 m 52 ls [va_rf (gR S a_10 3), .ref a_10, .ref a_9, .ref th]) rfl ?_
            obtain ⟨a_12, ha_12, hp⟩ := hp
            refine sx_nonnull (x := a_12) ha_12 ?_
            refine lv_iload_n (pc := 52) hx hb dX11_compositions_52 rfl (lv_at hl 1 rfl) ?_
            obtain ⟨hk_13, hp⟩ := hp
            obtain ⟨hn_14, hp⟩ := hp
            refine sx_aald (pc := 53) B hH hk_13 (by decide) (by decide) hn_14 dX11_compositions_53 ?_
            refine W.eq (g2 := F0 m 54 ls [va_rf (gR S a_12 p0.toNatClampNeg), .ref a_10, .ref a_9, .ref th]) rfl ?_
            obtain ⟨a_15, ha_15, hp⟩ := hp
            refine sx_nonnull (x := a_15) ha_15 ?_
            refine lv_iload_n (pc := 54) hx hb dX11_compositions_54 rfl (lv_at hl 2 rfl) ?_
            refine lv_iload_n (pc := 55) hx hb dX11_compositions_55 rfl (lv_at hl 3 rfl) ?_
            refine lv_aload_n (pc := 56) hx hb dX11_compositions_56 rfl (lv_at hl 0 rfl) ?_
            refine sx_getR (pc := 57) (j := 14) B hH hk_th coX11 rfl w_470 rfl dX11_compositions_57 ?_
            refine W.eq (g2 := F0 m 60 ls [va_rf (gR S th 14), .int p2, .int p1, .ref a_15, .ref a_10, .ref a_9, .ref th]) rfl ?_
            obtain ⟨a_16, ha_16, hp⟩ := hp
            refine sx_nonnull (x := a_16) ha_16 ?_
            obtain ⟨hk_17, hp⟩ := hp
            obtain ⟨c_18, s_18, hb_18, hs_18, hp⟩ := hp
            refine sx_V (pc := 60) (As := [.ref a_10, .ref a_15, .int p1, .int p2, .ref a_16]) (rest := [.ref th]) B hH hl.1 (C_X2_composed G l a_9 a_10 a_15 p1 p2 a_16 _ c_18 s_18 _ hp) mi_X2_composed coX2 hk_17 w_1253 w_1254 w_1252 rfl rfl ⟨Nat.le_of_ble_eq_true rfl, Nat.le_of_ble_eq_true rfl⟩ (Nat.le_of_ble_eq_true rfl) ⟨(show _ + c_18 ≤ bc by omega), (show _ + s_18 ≤ bs by omega)⟩ dX11_compositions_60 (fun v S1 H locs hq hH => ?_)
            obtain ⟨r_19, rfl, hp⟩ := hq
            obtain ⟨S_19, eS_19⟩ : ∃ z : St, z = S1 := ⟨_, rfl⟩
            rw [← eS_19] at hp hH
            refine W.eq (g2 := F0 m 63 ls [.int r_19, .ref th]) rfl ?_
            obtain ⟨hk_20, hp⟩ := hp
            refine sx_V (pc := 63) (As := [.int r_19]) (rest := []) B hH hl.1 (C_X11_answer G l th r_19 _ _ hp) mi_X11_answer coX11 hk_20 w_740 w_16 w_738 rfl rfl ⟨Nat.le_of_ble_eq_true rfl, Nat.le_of_ble_eq_true rfl⟩ (Nat.le_of_ble_eq_true rfl) ⟨(show _ + 0 ≤ bc by omega), (show _ + 0 ≤ bs by omega)⟩ dX11_compositions_63 (fun v S1 H locs hq hH => ?_)
            obtain ⟨r_21, F_21, rfl, e9, hp⟩ := hq
            rw [e9] at hH
            have hH : Hp G (FA S s.heap.size) s.heap (wI S_19 F_21) H locs := hH
            refine W.eq (g2 := F0 m 66 ls [.int r_21]) rfl ?_
            exact sx_iret (pc := 66) B hH hr hlk (by rw [← hQQ]; exact ⟨_, rfl, hp⟩) (show _ ≤ bc by omega) (show _ ≤ bs by omega) dX11_compositions_66
          · have hp := hp.2 cc_8
            exact kj_3  _ _ _ _ _ hp (show _ + bc ≤ bc by omega) (show _ + bs ≤ bs by omega) hH (lv_sub hl [0] rfl)
theorem dX11_callAt_0 : decode cX11_callAt 0 = .ok (.iload_n 1, 1) := by decide +kernel
theorem dX11_callAt_1 : decode cX11_callAt 1 = .ok (.ifCond .lt 14, 3) := by decide +kernel
theorem dX11_callAt_4 : decode cX11_callAt 4 = .ok (.iload_n 1, 1) := by decide +kernel
theorem dX11_callAt_5 : decode cX11_callAt 5 = .ok (.aload_n 0, 1) := by decide +kernel
theorem dX11_callAt_6 : decode cX11_callAt 6 = .ok (.getfield 106, 3) := by decide +kernel
theorem dX11_callAt_9 : decode cX11_callAt 9 = .ok (.getfield 366, 3) := by decide +kernel
theorem dX11_callAt_12 : decode cX11_callAt 12 = .ok (.if_icmp .lt 10, 3) := by decide +kernel
theorem dX11_callAt_15 : decode cX11_callAt 15 = .ok (.aload_n 0, 1) := by decide +kernel
theorem dX11_callAt_16 : decode cX11_callAt 16 = .ok (.bipush 6, 2) := by decide +kernel
theorem dX11_callAt_18 : decode cX11_callAt 18 = .ok (.invokevirtual 139, 3) := by decide +kernel
theorem dX11_callAt_21 : decode cX11_callAt 21 = .ok (.ireturn, 1) := by decide +kernel
theorem dX11_callAt_22 : decode cX11_callAt 22 = .ok (.aload_n 0, 1) := by decide +kernel
theorem dX11_callAt_23 : decode cX11_callAt 23 = .ok (.aload_n 0, 1) := by decide +kernel
theorem dX11_callAt_24 : decode cX11_callAt 24 = .ok (.getfield 106, 3) := by decide +kernel
theorem dX11_callAt_27 : decode cX11_callAt 27 = .ok (.getfield 369, 3) := by decide +kernel
theorem dX11_callAt_30 : decode cX11_callAt 30 = .ok (.iload_n 1, 1) := by decide +kernel
theorem dX11_callAt_31 : decode cX11_callAt 31 = .ok (.iaload, 1) := by decide +kernel
theorem dX11_callAt_32 : decode cX11_callAt 32 = .ok (.invokevirtual 170, 3) := by decide +kernel
theorem dX11_callAt_35 : decode cX11_callAt 35 = .ok (.ireturn, 1) := by decide +kernel
theorem mi_X11_callAt : MI yX11_callAt cX11_callAt 2 (some FieldType.int) 1 := ⟨w_1288, w_105, by decide +kernel, by decide +kernel, by decide +kernel⟩
set_option maxRecDepth 100000 in
set_option maxHeartbeats 4000000 in
theorem C_X11_callAt (G : GG) (l : Launch) (th : Nat) (p0 : Int32) (S : St) (Q : Int32 → (Nat → Nat → Int32) → Prop) (hp : P_X11_callAt th p0 S Q) : Ctr G l yX11_callAt cX11_callAt 2 (some FieldType.int) 1 21 0 0 [.ref th, .int p0] S (fun (v : Option Value) (S9 : St) => ∃ (r : Int32) (I9 : Nat → Nat → Int32), v = some (.int r) ∧ S9 = wI S I9 ∧ Q r I9) := by
  generalize hQQ : (fun (v : Option Value) (S9 : St) => ∃ (r : Int32) (I9 : Nat → Nat → Int32), v = some (.int r) ∧ S9 = wI S I9 ∧ Q r I9) = QQ
  unfold P_X11_callAt at hp
  refine Ctr.of (by decide) (Nat.le_of_ble_eq_true rfl) ?_
  intro p e s m args below meth c ls B hr hlk hin hl hH
  generalize hlocs0 : ([] : List Loc) = locs at hH ⊢
  have hx := B.1
  have hb := B.2.1
  have hl : lv_has ls 2 [(0, .ref th), (1, .int p0)] := hl
  obtain ⟨hk_th, hp⟩ := hp
  refine lv_iload_n (pc := 0) hx hb dX11_callAt_0 rfl (lv_at hl 1 rfl) ?_
  obtain ⟨J_2, hj_2, hp⟩ := hp
  have kj_2 : ∀  (H : Heap) (locs : List Loc) (ls : Array Slot), J_2  → Hp G (FA S s.heap.size) s.heap S H locs → lv_has ls 2 [(0, .ref th)] → Wm G p l e { frames := 1, cells := 0, slots := 0, locals := 21 } s m args below meth c S QQ 0 0 H locs 0 0 (F0 m 15 ls []) := by
    intro  H locs ls hq9 hH hl
    have hp := hj_2  hq9
    refine lv_aload_n (pc := 15) hx hb dX11_callAt_15 rfl (lv_at hl 0 rfl) ?_
    refine lv_bipush (pc := 16) (v := 6) hx hb dX11_callAt_16 (by decide) ?_
    refine sx_V (pc := 18) (As := [.int 6]) (rest := []) B hH hl.1 (C_X11_refuse G l th 6 _ _ hp) mi_X11_refuse coX11 hk_th w_570 w_3 w_568 rfl rfl ⟨Nat.le_of_ble_eq_true rfl, Nat.le_of_ble_eq_true rfl⟩ (Nat.le_of_ble_eq_true rfl) ⟨Nat.le_of_ble_eq_true rfl, Nat.le_of_ble_eq_true rfl⟩ dX11_callAt_18 (fun v S1 H locs hq hH => ?_)
    obtain ⟨r_3, F_3, rfl, e9, hp⟩ := hq
    rw [e9] at hH
    have hH : Hp G (FA S s.heap.size) s.heap (wI S F_3) H locs := hH
    refine W.eq (g2 := F0 m 21 ls [.int r_3]) rfl ?_
    exact sx_iret (pc := 21) B hH hr hlk (by rw [← hQQ]; exact ⟨_, F_3, rfl, rfl, hp⟩) (Nat.le_of_ble_eq_true rfl) (Nat.le_of_ble_eq_true rfl) dX11_callAt_21
  refine lv_if_lt (pc := 1) (tgt := 15) hx hb dX11_callAt_1 (by decide) (fun cc_1 => ?_) (fun cc_1 => ?_)
  · have hp := hp.1 cc_1
    exact kj_2  _ _ _ hp hH (lv_sub hl [0] rfl)
  · have hp := hp.2 cc_1
    refine lv_iload_n (pc := 4) hx hb dX11_callAt_4 rfl (lv_at hl 1 rfl) ?_
    refine lv_aload_n (pc := 5) hx hb dX11_callAt_5 rfl (lv_at hl 0 rfl) ?_
    refine sx_getR (pc := 6) (j := 16) B hH hk_th coX11 rfl w_472 rfl dX11_callAt_6 ?_
    refine W.eq (g2 := F0 m 9 ls [va_rf (gR S th 16), .int p0]) rfl ?_
    obtain ⟨a_4, ha_4, hp⟩ := hp
    refine sx_nonnull (x := a_4) ha_4 ?_
    obtain ⟨hk_5, hp⟩ := hp
    refine sx_getI (pc := 9) (j := 4) B hH hk_5 coX2 rfl w_441 rfl dX11_callAt_9 ?_
    refine W.eq (g2 := F0 m 12 ls [.int (gI S a_4 4), .int p0]) rfl ?_
    refine lv_icmp_lt (pc := 12) (tgt := 22) hx hb dX11_callAt_12 (by decide) (fun cc_6 => ?_) (fun cc_6 => ?_)
    · have hp := hp.1 cc_6
      refine lv_aload_n (pc := 22) hx hb dX11_callAt_22 rfl (lv_at hl 0 rfl) ?_
      refine lv_aload_n (pc := 23) hx hb dX11_callAt_23 rfl (lv_at hl 0 rfl) ?_
      refine sx_getR (pc := 24) (j := 16) B hH hk_th coX11 rfl w_472 rfl dX11_callAt_24 ?_
      refine W.eq (g2 := F0 m 27 ls [va_rf (gR S th 16), .ref th]) rfl ?_
      refine sx_nonnull (x := a_4) ha_4 ?_
      refine sx_getR (pc := 27) (j := 3) B hH hk_5 coX2 rfl w_439 rfl dX11_callAt_27 ?_
      refine W.eq (g2 := F0 m 30 ls [va_rf (gR S a_4 3), .ref th]) rfl ?_
      obtain ⟨a_7, ha_7, hp⟩ := hp
      refine sx_nonnull (x := a_7) ha_7 ?_
      refine lv_iload_n (pc := 30) hx hb dX11_callAt_30 rfl (lv_at hl 1 rfl) ?_
      obtain ⟨hk_8, hp⟩ := hp
      obtain ⟨hn_9, hp⟩ := hp
      refine sx_iald (pc := 31) B hH hk_8 hn_9 dX11_callAt_31 ?_
      refine W.eq (g2 := F0 m 32 ls [.int (gI S a_7 p0.toNatClampNeg), .ref th]) rfl ?_
      refine sx_V (pc := 32) (As := [.int (gI S a_7 p0.toNatClampNeg)]) (rest := []) B hH hl.1 (C_X11_answer G l th (gI S a_7 p0.toNatClampNeg) _ _ hp) mi_X11_answer coX11 hk_th w_740 w_16 w_738 rfl rfl ⟨Nat.le_of_ble_eq_true rfl, Nat.le_of_ble_eq_true rfl⟩ (Nat.le_of_ble_eq_true rfl) ⟨Nat.le_of_ble_eq_true rfl, Nat.le_of_ble_eq_true rfl⟩ dX11_callAt_32 (fun v S1 H locs hq hH => ?_)
      obtain ⟨r_10, F_10, rfl, e9, hp⟩ := hq
      rw [e9] at hH
      have hH : Hp G (FA S s.heap.size) s.heap (wI S F_10) H locs := hH
      refine W.eq (g2 := F0 m 35 ls [.int r_10]) rfl ?_
      exact sx_iret (pc := 35) B hH hr hlk (by rw [← hQQ]; exact ⟨_, F_10, rfl, rfl, hp⟩) (Nat.le_of_ble_eq_true rfl) (Nat.le_of_ble_eq_true rfl) dX11_callAt_35
    · have hp := hp.2 cc_6
      exact kj_2  _ _ _ hp hH (lv_sub hl [0] rfl)
theorem dX11_mark_0 : decode cX11_mark 0 = .ok (.aload_n 0, 1) := by decide +kernel
theorem dX11_mark_1 : decode cX11_mark 1 = .ok (.getfield 86, 3) := by decide +kernel
theorem dX11_mark_4 : decode cX11_mark 4 = .ok (.iconst 3, 1) := by decide +kernel
theorem dX11_mark_5 : decode cX11_mark 5 = .ok (.if_icmp .lt 9, 3) := by decide +kernel
theorem dX11_mark_8 : decode cX11_mark 8 = .ok (.aload_n 0, 1) := by decide +kernel
theorem dX11_mark_9 : decode cX11_mark 9 = .ok (.iconst 4, 1) := by decide +kernel
theorem dX11_mark_10 : decode cX11_mark 10 = .ok (.invokevirtual 139, 3) := by decide +kernel
theorem dX11_mark_13 : decode cX11_mark 13 = .ok (.ireturn, 1) := by decide +kernel
theorem dX11_mark_14 : decode cX11_mark 14 = .ok (.aload_n 0, 1) := by decide +kernel
theorem dX11_mark_15 : decode cX11_mark 15 = .ok (.getfield 73, 3) := by decide +kernel
theorem dX11_mark_18 : decode cX11_mark 18 = .ok (.aload_n 0, 1) := by decide +kernel
theorem dX11_mark_19 : decode cX11_mark 19 = .ok (.getfield 86, 3) := by decide +kernel
theorem dX11_mark_22 : decode cX11_mark 22 = .ok (.aload_n 0, 1) := by decide +kernel
theorem dX11_mark_23 : decode cX11_mark 23 = .ok (.getfield 62, 3) := by decide +kernel
theorem dX11_mark_26 : decode cX11_mark 26 = .ok (.aastore, 1) := by decide +kernel
theorem dX11_mark_27 : decode cX11_mark 27 = .ok (.aload_n 0, 1) := by decide +kernel
theorem dX11_mark_28 : decode cX11_mark 28 = .ok (.getfield 79, 3) := by decide +kernel
theorem dX11_mark_31 : decode cX11_mark 31 = .ok (.aload_n 0, 1) := by decide +kernel
theorem dX11_mark_32 : decode cX11_mark 32 = .ok (.getfield 86, 3) := by decide +kernel
theorem dX11_mark_35 : decode cX11_mark 35 = .ok (.aload_n 0, 1) := by decide +kernel
theorem dX11_mark_36 : decode cX11_mark 36 = .ok (.getfield 66, 3) := by decide +kernel
theorem dX11_mark_39 : decode cX11_mark 39 = .ok (.aastore, 1) := by decide +kernel
theorem dX11_mark_40 : decode cX11_mark 40 = .ok (.aload_n 0, 1) := by decide +kernel
theorem dX11_mark_41 : decode cX11_mark 41 = .ok (.getfield 83, 3) := by decide +kernel
theorem dX11_mark_44 : decode cX11_mark 44 = .ok (.aload_n 0, 1) := by decide +kernel
theorem dX11_mark_45 : decode cX11_mark 45 = .ok (.getfield 86, 3) := by decide +kernel
theorem dX11_mark_48 : decode cX11_mark 48 = .ok (.aload_n 0, 1) := by decide +kernel
theorem dX11_mark_49 : decode cX11_mark 49 = .ok (.getfield 70, 3) := by decide +kernel
theorem dX11_mark_52 : decode cX11_mark 52 = .ok (.aastore, 1) := by decide +kernel
theorem dX11_mark_53 : decode cX11_mark 53 = .ok (.aload_n 0, 1) := by decide +kernel
theorem dX11_mark_54 : decode cX11_mark 54 = .ok (.dup, 1) := by decide +kernel
theorem dX11_mark_55 : decode cX11_mark 55 = .ok (.getfield 86, 3) := by decide +kernel
theorem dX11_mark_58 : decode cX11_mark 58 = .ok (.iconst 1, 1) := by decide +kernel
theorem dX11_mark_59 : decode cX11_mark 59 = .ok (.iadd, 1) := by decide +kernel
theorem dX11_mark_60 : decode cX11_mark 60 = .ok (.putfield 86, 3) := by decide +kernel
theorem dX11_mark_63 : decode cX11_mark 63 = .ok (.aload_n 0, 1) := by decide +kernel
theorem dX11_mark_64 : decode cX11_mark 64 = .ok (.aload_n 0, 1) := by decide +kernel
theorem dX11_mark_65 : decode cX11_mark 65 = .ok (.getfield 86, 3) := by decide +kernel
theorem dX11_mark_68 : decode cX11_mark 68 = .ok (.invokevirtual 170, 3) := by decide +kernel
theorem dX11_mark_71 : decode cX11_mark 71 = .ok (.ireturn, 1) := by decide +kernel
theorem mi_X11_mark : MI yX11_mark cX11_mark 1 (some FieldType.int) 0 := ⟨w_1292, w_105, by decide +kernel, by decide +kernel, by decide +kernel⟩
set_option maxRecDepth 100000 in
set_option maxHeartbeats 4000000 in
theorem C_X11_mark (G : GG) (l : Launch) (th : Nat) (S : St) (Q : Int32 → (Nat → Nat → Int32) → (Nat → Nat → Option Nat) → Prop) (hp : P_X11_mark th S Q) : Ctr G l yX11_mark cX11_mark 1 (some FieldType.int) 1 21 0 0 [.ref th] S (fun (v : Option Value) (S9 : St) => ∃ (r : Int32) (I9 : Nat → Nat → Int32) (R9 : Nat → Nat → Option Nat), v = some (.int r) ∧ S9 = wA S I9 (gJ S) R9 ∧ Q r I9 R9) := by
  generalize hQQ : (fun (v : Option Value) (S9 : St) => ∃ (r : Int32) (I9 : Nat → Nat → Int32) (R9 : Nat → Nat → Option Nat), v = some (.int r) ∧ S9 = wA S I9 (gJ S) R9 ∧ Q r I9 R9) = QQ
  unfold P_X11_mark at hp
  refine Ctr.of (by decide) (Nat.le_of_ble_eq_true rfl) ?_
  intro p e s m args below meth c ls B hr hlk hin hl hH
  generalize hlocs0 : ([] : List Loc) = locs at hH ⊢
  have hx := B.1
  have hb := B.2.1
  have hl : lv_has ls 1 [(0, .ref th)] := hl
  obtain ⟨hk_th, hp⟩ := hp
  refine lv_aload_n (pc := 0) hx hb dX11_mark_0 rfl (lv_at hl 0 rfl) ?_
  refine sx_getI (pc := 1) (j := 13) B hH hk_th coX11 rfl w_469 rfl dX11_mark_1 ?_
  refine W.eq (g2 := F0 m 4 ls [.int (gI S th 13)]) rfl ?_
  refine lv_iconst (pc := 4) (v := 3) hx hb dX11_mark_4 (by decide) ?_
  refine lv_icmp_lt (pc := 5) (tgt := 14) hx hb dX11_mark_5 (by decide) (fun cc_1 => ?_) (fun cc_1 => ?_)
  · have hp := hp.1 cc_1
    refine lv_aload_n (pc := 14) hx hb dX11_mark_14 rfl (lv_at hl 0 rfl) ?_
    refine sx_getR (pc := 15) (j := 10) B hH hk_th coX11 rfl w_466 rfl dX11_mark_15 ?_
    refine W.eq (g2 := F0 m 18 ls [va_rf (gR S th 10)]) rfl ?_
    obtain ⟨a_2, ha_2, hp⟩ := hp
    refine sx_nonnull (x := a_2) ha_2 ?_
    refine lv_aload_n (pc := 18) hx hb dX11_mark_18 rfl (lv_at hl 0 rfl) ?_
    refine sx_getI (pc := 19) (j := 13) B hH hk_th coX11 rfl w_469 rfl dX11_mark_19 ?_
    refine W.eq (g2 := F0 m 22 ls [.int (gI S th 13), .ref a_2]) rfl ?_
    refine lv_aload_n (pc := 22) hx hb dX11_mark_22 rfl (lv_at hl 0 rfl) ?_
    refine sx_getR (pc := 23) (j := 7) B hH hk_th coX11 rfl w_463 rfl dX11_mark_23 ?_
    refine W.eq (g2 := F0 m 26 ls [va_rf (gR S th 7), .int (gI S th 13), .ref a_2]) rfl ?_
    obtain ⟨hk_3, hp⟩ := hp
    obtain ⟨hn_4, hp⟩ := hp
    obtain ⟨hc_5, hp⟩ := hp
    obtain ⟨R_6, eR_6⟩ : ∃ z : Nat → Nat → Option Nat, z = upR (gR S) a_2 ((gI S th 13).toNatClampNeg) (gR S th 7) := ⟨_, rfl⟩
    have hp := hp R_6 eR_6
    refine sx_aast (pc := 26) (r := gR S th 7) B hH hk_3 (by decide) rfl coX0 hc_5 hn_4 dX11_mark_26 (fun H locs hH => ?_)
    have hH : Hp G (FA S s.heap.size) s.heap (wA S (gI S) (gJ S) R_6) H locs := by rw [eR_6]; exact hH
    refine lv_aload_n (pc := 27) hx hb dX11_mark_27 rfl (lv_at hl 0 rfl) ?_
    refine sx_getR (pc := 28) (j := 11) B hH hk_th coX11 rfl w_467 rfl dX11_mark_28 ?_
    refine W.eq (g2 := F0 m 31 ls [va_rf (R_6 th 11)]) rfl ?_
    obtain ⟨a_7, ha_7, hp⟩ := hp
    refine sx_nonnull (x := a_7) ha_7 ?_
    refine lv_aload_n (pc := 31) hx hb dX11_mark_31 rfl (lv_at hl 0 rfl) ?_
    refine sx_getI (pc := 32) (j := 13) B hH hk_th coX11 rfl w_469 rfl dX11_mark_32 ?_
    refine W.eq (g2 := F0 m 35 ls [.int (gI S th 13), .ref a_7]) rfl ?_
    refine lv_aload_n (pc := 35) hx hb dX11_mark_35 rfl (lv_at hl 0 rfl) ?_
    refine sx_getR (pc := 36) (j := 8) B hH hk_th coX11 rfl w_464 rfl dX11_mark_36 ?_
    refine W.eq (g2 := F0 m 39 ls [va_rf (R_6 th 8), .int (gI S th 13), .ref a_7]) rfl ?_
    obtain ⟨hk_8, hp⟩ := hp
    obtain ⟨hn_9, hp⟩ := hp
    obtain ⟨hc_10, hp⟩ := hp
    obtain ⟨R_11, eR_11⟩ : ∃ z : Nat → Nat → Option Nat, z = upR R_6 a_7 ((gI S th 13).toNatClampNeg) (R_6 th 8) := ⟨_, rfl⟩
    have hp := hp R_11 eR_11
    refine sx_aast (pc := 39) (r := R_6 th 8) B hH hk_8 (by decide) rfl coX8 hc_10 hn_9 dX11_mark_39 (fun H locs hH => ?_)
    have hH : Hp G (FA S s.heap.size) s.heap (wA S (gI S) (gJ S) R_11) H locs := by rw [eR_11]; exact hH
    refine lv_aload_n (pc := 40) hx hb dX11_mark_40 rfl (lv_at hl 0 rfl) ?_
    refine sx_getR (pc := 41) (j := 12) B hH hk_th coX11 rfl w_468 rfl dX11_mark_41 ?_
    refine W.eq (g2 := F0 m 44 ls [va_rf (R_11 th 12)]) rfl ?_
    obtain ⟨a_12, ha_12, hp⟩ := hp
    refine sx_nonnull (x := a_12) ha_12 ?_
    refine lv_aload_n (pc := 44) hx hb dX11_mark_44 rfl (lv_at hl 0 rfl) ?_
    refine sx_getI (pc := 45) (j := 13) B hH hk_th coX11 rfl w_469 rfl dX11_mark_45 ?_
    refine W.eq (g2 := F0 m 48 ls [.int (gI S th 13), .ref a_12]) rfl ?_
    refine lv_aload_n (pc := 48) hx hb dX11_mark_48 rfl (lv_at hl 0 rfl) ?_
    refine sx_getR (pc := 49) (j := 9) B hH hk_th coX11 rfl w_465 rfl dX11_mark_49 ?_
    refine W.eq (g2 := F0 m 52 ls [va_rf (R_11 th 9), .int (gI S th 13), .ref a_12]) rfl ?_
    obtain ⟨hk_13, hp⟩ := hp
    obtain ⟨hn_14, hp⟩ := hp
    obtain ⟨hc_15, hp⟩ := hp
    obtain ⟨R_16, eR_16⟩ : ∃ z : Nat → Nat → Option Nat, z = upR R_11 a_12 ((gI S th 13).toNatClampNeg) (R_11 th 9) := ⟨_, rfl⟩
    have hp := hp R_16 eR_16
    refine sx_aast (pc := 52) (r := R_11 th 9) B hH hk_13 (by decide) rfl coX8 hc_15 hn_14 dX11_mark_52 (fun H locs hH => ?_)
    have hH : Hp G (FA S s.heap.size) s.heap (wA S (gI S) (gJ S) R_16) H locs := by rw [eR_16]; exact hH
    refine lv_aload_n (pc := 53) hx hb dX11_mark_53 rfl (lv_at hl 0 rfl) ?_
    refine lv_dup (pc := 54) hx hb dX11_mark_54 rfl ?_
    refine sx_getI (pc := 55) (j := 13) B hH hk_th coX11 rfl w_469 rfl dX11_mark_55 ?_
    refine W.eq (g2 := F0 m 58 ls [.int (gI S th 13), .ref th]) rfl ?_
    refine lv_iconst (pc := 58) (v := 1) hx hb dX11_mark_58 (by decide) ?_
    refine lv_iadd (pc := 59) hx hb dX11_mark_59 ?_
    refine lv_topi (fun v_17 ev_17 => ?_)
    have hp := hp v_17 ev_17
    obtain ⟨F_18, eF_18⟩ : ∃ z : Nat → Nat → Int32, z = upI (gI S) th 13 v_17 := ⟨_, rfl⟩
    have hp := hp F_18 eF_18
    refine sx_putI (pc := 60) (j := 13) B hH hk_th coX11 rfl w_469 rfl (Or.inl rfl) rfl dX11_mark_60 (fun H locs hH => ?_)
    have hH : Hp G (FA S s.heap.size) s.heap (wA S F_18 (gJ S) R_16) H locs := by rw [eF_18]; exact hH
    refine lv_aload_n (pc := 63) hx hb dX11_mark_63 rfl (lv_at hl 0 rfl) ?_
    refine lv_aload_n (pc := 64) hx hb dX11_mark_64 rfl (lv_at hl 0 rfl) ?_
    refine sx_getI (pc := 65) (j := 13) B hH hk_th coX11 rfl w_469 rfl dX11_mark_65 ?_
    refine W.eq (g2 := F0 m 68 ls [.int (F_18 th 13), .ref th]) rfl ?_
    refine sx_V (pc := 68) (As := [.int (F_18 th 13)]) (rest := []) B hH hl.1 (C_X11_answer G l th (F_18 th 13) _ _ hp) mi_X11_answer coX11 hk_th w_740 w_16 w_738 rfl rfl ⟨Nat.le_of_ble_eq_true rfl, Nat.le_of_ble_eq_true rfl⟩ (Nat.le_of_ble_eq_true rfl) ⟨Nat.le_of_ble_eq_true rfl, Nat.le_of_ble_eq_true rfl⟩ dX11_mark_68 (fun v S1 H locs hq hH => ?_)
    obtain ⟨r_19, F_19, rfl, e9, hp⟩ := hq
    rw [e9] at hH
    have hH : Hp G (FA S s.heap.size) s.heap (wA S F_19 (gJ S) R_16) H locs := hH
    refine W.eq (g2 := F0 m 71 ls [.int r_19]) rfl ?_
    exact sx_iret (pc := 71) B hH hr hlk (by rw [← hQQ]; exact ⟨_, F_19, R_16, rfl, rfl, hp⟩) (Nat.le_of_ble_eq_true rfl) (Nat.le_of_ble_eq_true rfl) dX11_mark_71
  · have hp := hp.2 cc_1
    refine lv_aload_n (pc := 8) hx hb dX11_mark_8 rfl (lv_at hl 0 rfl) ?_
    refine lv_iconst (pc := 9) (v := 4) hx hb dX11_mark_9 (by decide) ?_
    refine sx_V (pc := 10) (As := [.int 4]) (rest := []) B hH hl.1 (C_X11_refuse G l th 4 _ _ hp) mi_X11_refuse coX11 hk_th w_570 w_3 w_568 rfl rfl ⟨Nat.le_of_ble_eq_true rfl, Nat.le_of_ble_eq_true rfl⟩ (Nat.le_of_ble_eq_true rfl) ⟨Nat.le_of_ble_eq_true rfl, Nat.le_of_ble_eq_true rfl⟩ dX11_mark_10 (fun v S1 H locs hq hH => ?_)
    obtain ⟨r_20, F_20, rfl, e9, hp⟩ := hq
    rw [e9] at hH
    have hH : Hp G (FA S s.heap.size) s.heap (wI S F_20) H locs := hH
    refine W.eq (g2 := F0 m 13 ls [.int r_20]) rfl ?_
    exact sx_iret (pc := 13) B hH hr hlk (by rw [← hQQ]; exact ⟨_, F_20, (gR S), rfl, rfl, hp⟩) (Nat.le_of_ble_eq_true rfl) (Nat.le_of_ble_eq_true rfl) dX11_mark_13
theorem dX11_back_0 : decode cX11_back 0 = .ok (.aload_n 0, 1) := by decide +kernel
theorem dX11_back_1 : decode cX11_back 1 = .ok (.getfield 86, 3) := by decide +kernel
theorem dX11_back_4 : decode cX11_back 4 = .ok (.ifCond .gt 10, 3) := by decide +kernel
theorem dX11_back_7 : decode cX11_back 7 = .ok (.aload_n 0, 1) := by decide +kernel
theorem dX11_back_8 : decode cX11_back 8 = .ok (.bipush 6, 2) := by decide +kernel
theorem dX11_back_10 : decode cX11_back 10 = .ok (.invokevirtual 139, 3) := by decide +kernel
theorem dX11_back_13 : decode cX11_back 13 = .ok (.ireturn, 1) := by decide +kernel
theorem dX11_back_14 : decode cX11_back 14 = .ok (.aload_n 0, 1) := by decide +kernel
theorem dX11_back_15 : decode cX11_back 15 = .ok (.dup, 1) := by decide +kernel
theorem dX11_back_16 : decode cX11_back 16 = .ok (.getfield 86, 3) := by decide +kernel
theorem dX11_back_19 : decode cX11_back 19 = .ok (.iconst 1, 1) := by decide +kernel
theorem dX11_back_20 : decode cX11_back 20 = .ok (.isub, 1) := by decide +kernel
theorem dX11_back_21 : decode cX11_back 21 = .ok (.putfield 86, 3) := by decide +kernel
theorem dX11_back_24 : decode cX11_back 24 = .ok (.aload_n 0, 1) := by decide +kernel
theorem dX11_back_25 : decode cX11_back 25 = .ok (.aload_n 0, 1) := by decide +kernel
theorem dX11_back_26 : decode cX11_back 26 = .ok (.getfield 73, 3) := by decide +kernel
theorem dX11_back_29 : decode cX11_back 29 = .ok (.aload_n 0, 1) := by decide +kernel
theorem dX11_back_30 : decode cX11_back 30 = .ok (.getfield 86, 3) := by decide +kernel
theorem dX11_back_33 : decode cX11_back 33 = .ok (.aaload, 1) := by decide +kernel
theorem dX11_back_34 : decode cX11_back 34 = .ok (.putfield 62, 3) := by decide +kernel
theorem dX11_back_37 : decode cX11_back 37 = .ok (.aload_n 0, 1) := by decide +kernel
theorem dX11_back_38 : decode cX11_back 38 = .ok (.aload_n 0, 1) := by decide +kernel
theorem dX11_back_39 : decode cX11_back 39 = .ok (.getfield 79, 3) := by decide +kernel
theorem dX11_back_42 : decode cX11_back 42 = .ok (.aload_n 0, 1) := by decide +kernel
theorem dX11_back_43 : decode cX11_back 43 = .ok (.getfield 86, 3) := by decide +kernel
theorem dX11_back_46 : decode cX11_back 46 = .ok (.aaload, 1) := by decide +kernel
theorem dX11_back_47 : decode cX11_back 47 = .ok (.putfield 66, 3) := by decide +kernel
theorem dX11_back_50 : decode cX11_back 50 = .ok (.aload_n 0, 1) := by decide +kernel
theorem dX11_back_51 : decode cX11_back 51 = .ok (.aload_n 0, 1) := by decide +kernel
theorem dX11_back_52 : decode cX11_back 52 = .ok (.getfield 83, 3) := by decide +kernel
theorem dX11_back_55 : decode cX11_back 55 = .ok (.aload_n 0, 1) := by decide +kernel
theorem dX11_back_56 : decode cX11_back 56 = .ok (.getfield 86, 3) := by decide +kernel
theorem dX11_back_59 : decode cX11_back 59 = .ok (.aaload, 1) := by decide +kernel
theorem dX11_back_60 : decode cX11_back 60 = .ok (.putfield 70, 3) := by decide +kernel
theorem dX11_back_63 : decode cX11_back 63 = .ok (.aload_n 0, 1) := by decide +kernel
theorem dX11_back_64 : decode cX11_back 64 = .ok (.aload_n 0, 1) := by decide +kernel
theorem dX11_back_65 : decode cX11_back 65 = .ok (.getfield 86, 3) := by decide +kernel
theorem dX11_back_68 : decode cX11_back 68 = .ok (.invokevirtual 170, 3) := by decide +kernel
theorem dX11_back_71 : decode cX11_back 71 = .ok (.ireturn, 1) := by decide +kernel
theorem mi_X11_back : MI yX11_back cX11_back 1 (some FieldType.int) 0 := ⟨w_1296, w_105, by decide +kernel, by decide +kernel, by decide +kernel⟩
set_option maxRecDepth 100000 in
set_option maxHeartbeats 4000000 in
theorem C_X11_back (G : GG) (l : Launch) (th : Nat) (S : St) (Q : Int32 → (Nat → Nat → Int32) → (Nat → Nat → Option Nat) → Prop) (hp : P_X11_back th S Q) : Ctr G l yX11_back cX11_back 1 (some FieldType.int) 1 21 0 0 [.ref th] S (fun (v : Option Value) (S9 : St) => ∃ (r : Int32) (I9 : Nat → Nat → Int32) (R9 : Nat → Nat → Option Nat), v = some (.int r) ∧ S9 = wA S I9 (gJ S) R9 ∧ Q r I9 R9) := by
  generalize hQQ : (fun (v : Option Value) (S9 : St) => ∃ (r : Int32) (I9 : Nat → Nat → Int32) (R9 : Nat → Nat → Option Nat), v = some (.int r) ∧ S9 = wA S I9 (gJ S) R9 ∧ Q r I9 R9) = QQ
  unfold P_X11_back at hp
  refine Ctr.of (by decide) (Nat.le_of_ble_eq_true rfl) ?_
  intro p e s m args below meth c ls B hr hlk hin hl hH
  generalize hlocs0 : ([] : List Loc) = locs at hH ⊢
  have hx := B.1
  have hb := B.2.1
  have hl : lv_has ls 1 [(0, .ref th)] := hl
  obtain ⟨hk_th, hp⟩ := hp
  refine lv_aload_n (pc := 0) hx hb dX11_back_0 rfl (lv_at hl 0 rfl) ?_
  refine sx_getI (pc := 1) (j := 13) B hH hk_th coX11 rfl w_469 rfl dX11_back_1 ?_
  refine W.eq (g2 := F0 m 4 ls [.int (gI S th 13)]) rfl ?_
  refine lv_if_gt (pc := 4) (tgt := 14) hx hb dX11_back_4 (by decide) (fun cc_1 => ?_) (fun cc_1 => ?_)
  · have hp := hp.1 cc_1
    refine lv_aload_n (pc := 14) hx hb dX11_back_14 rfl (lv_at hl 0 rfl) ?_
    refine lv_dup (pc := 15) hx hb dX11_back_15 rfl ?_
    refine sx_getI (pc := 16) (j := 13) B hH hk_th coX11 rfl w_469 rfl dX11_back_16 ?_
    refine W.eq (g2 := F0 m 19 ls [.int (gI S th 13), .ref th]) rfl ?_
    refine lv_iconst (pc := 19) (v := 1) hx hb dX11_back_19 (by decide) ?_
    refine lv_isub (pc := 20) hx hb dX11_back_20 ?_
    refine lv_topi (fun v_2 ev_2 => ?_)
    have hp := hp v_2 ev_2
    obtain ⟨F_3, eF_3⟩ : ∃ z : Nat → Nat → Int32, z = upI (gI S) th 13 v_2 := ⟨_, rfl⟩
    have hp := hp F_3 eF_3
    refine sx_putI (pc := 21) (j := 13) B hH hk_th coX11 rfl w_469 rfl (Or.inl rfl) rfl dX11_back_21 (fun H locs hH => ?_)
    have hH : Hp G (FA S s.heap.size) s.heap (wI S F_3) H locs := by rw [eF_3]; exact hH
    refine lv_aload_n (pc := 24) hx hb dX11_back_24 rfl (lv_at hl 0 rfl) ?_
    refine lv_aload_n (pc := 25) hx hb dX11_back_25 rfl (lv_at hl 0 rfl) ?_
    refine sx_getR (pc := 26) (j := 10) B hH hk_th coX11 rfl w_466 rfl dX11_back_26 ?_
    refine W.eq (g2 := F0 m 29 ls [va_rf (gR S th 10), .ref th]) rfl ?_
    obtain ⟨a_4, ha_4, hp⟩ := hp
    refine sx_nonnull (x := a_4) ha_4 ?_
    refine lv_aload_n (pc := 29) hx hb dX11_back_29 rfl (lv_at hl 0 rfl) ?_
    refine sx_getI (pc := 30) (j := 13) B hH hk_th coX11 rfl w_469 rfl dX11_back_30 ?_
    refine W.eq (g2 := F0 m 33 ls [.int (F_3 th 13), .ref a_4, .ref th]) rfl ?_
    obtain ⟨hk_5, hp⟩ := hp
    obtain ⟨hn_6, hp⟩ := hp
    refine sx_aald (pc := 33) B hH hk_5 (by decide) (by decide) hn_6 dX11_back_33 ?_
    refine W.eq (g2 := F0 m 34 ls [va_rf (gR S a_4 ((F_3 th 13).toNatClampNeg)), .ref th]) rfl ?_
    obtain ⟨R_7, eR_7⟩ : ∃ z : Nat → Nat → Option Nat, z = upR (gR S) th 7 (gR S a_4 ((F_3 th 13).toNatClampNeg)) := ⟨_, rfl⟩
    have hp := hp R_7 eR_7
    refine sx_putR (pc := 34) (j := 7) (x := (gR S a_4 ((F_3 th 13).toNatClampNeg))) B hH hk_th coX11 rfl w_463 rfl (Or.inl rfl) rfl dX11_back_34 (fun H locs hH => ?_)
    have hH : Hp G (FA S s.heap.size) s.heap (wA S F_3 (gJ S) R_7) H locs := by rw [eR_7]; exact hH
    refine lv_aload_n (pc := 37) hx hb dX11_back_37 rfl (lv_at hl 0 rfl) ?_
    refine lv_aload_n (pc := 38) hx hb dX11_back_38 rfl (lv_at hl 0 rfl) ?_
    refine sx_getR (pc := 39) (j := 11) B hH hk_th coX11 rfl w_467 rfl dX11_back_39 ?_
    refine W.eq (g2 := F0 m 42 ls [va_rf (R_7 th 11), .ref th]) rfl ?_
    obtain ⟨a_8, ha_8, hp⟩ := hp
    refine sx_nonnull (x := a_8) ha_8 ?_
    refine lv_aload_n (pc := 42) hx hb dX11_back_42 rfl (lv_at hl 0 rfl) ?_
    refine sx_getI (pc := 43) (j := 13) B hH hk_th coX11 rfl w_469 rfl dX11_back_43 ?_
    refine W.eq (g2 := F0 m 46 ls [.int (F_3 th 13), .ref a_8, .ref th]) rfl ?_
    obtain ⟨hk_9, hp⟩ := hp
    obtain ⟨hn_10, hp⟩ := hp
    refine sx_aald (pc := 46) B hH hk_9 (by decide) (by decide) hn_10 dX11_back_46 ?_
    refine W.eq (g2 := F0 m 47 ls [va_rf (R_7 a_8 ((F_3 th 13).toNatClampNeg)), .ref th]) rfl ?_
    obtain ⟨R_11, eR_11⟩ : ∃ z : Nat → Nat → Option Nat, z = upR R_7 th 8 (R_7 a_8 ((F_3 th 13).toNatClampNeg)) := ⟨_, rfl⟩
    have hp := hp R_11 eR_11
    refine sx_putR (pc := 47) (j := 8) (x := (R_7 a_8 ((F_3 th 13).toNatClampNeg))) B hH hk_th coX11 rfl w_464 rfl (Or.inl rfl) rfl dX11_back_47 (fun H locs hH => ?_)
    have hH : Hp G (FA S s.heap.size) s.heap (wA S F_3 (gJ S) R_11) H locs := by rw [eR_11]; exact hH
    refine lv_aload_n (pc := 50) hx hb dX11_back_50 rfl (lv_at hl 0 rfl) ?_
    refine lv_aload_n (pc := 51) hx hb dX11_back_51 rfl (lv_at hl 0 rfl) ?_
    refine sx_getR (pc := 52) (j := 12) B hH hk_th coX11 rfl w_468 rfl dX11_back_52 ?_
    refine W.eq (g2 := F0 m 55 ls [va_rf (R_11 th 12), .ref th]) rfl ?_
    obtain ⟨a_12, ha_12, hp⟩ := hp
    refine sx_nonnull (x := a_12) ha_12 ?_
    refine lv_aload_n (pc := 55) hx hb dX11_back_55 rfl (lv_at hl 0 rfl) ?_
    refine sx_getI (pc := 56) (j := 13) B hH hk_th coX11 rfl w_469 rfl dX11_back_56 ?_
    refine W.eq (g2 := F0 m 59 ls [.int (F_3 th 13), .ref a_12, .ref th]) rfl ?_
    obtain ⟨hk_13, hp⟩ := hp
    obtain ⟨hn_14, hp⟩ := hp
    refine sx_aald (pc := 59) B hH hk_13 (by decide) (by decide) hn_14 dX11_back_59 ?_
    refine W.eq (g2 := F0 m 60 ls [va_rf (R_11 a_12 ((F_3 th 13).toNatClampNeg)), .ref th]) rfl ?_
    obtain ⟨R_15, eR_15⟩ : ∃ z : Nat → Nat → Option Nat, z = upR R_11 th 9 (R_11 a_12 ((F_3 th 13).toNatClampNeg)) := ⟨_, rfl⟩
    have hp := hp R_15 eR_15
    refine sx_putR (pc := 60) (j := 9) (x := (R_11 a_12 ((F_3 th 13).toNatClampNeg))) B hH hk_th coX11 rfl w_465 rfl (Or.inl rfl) rfl dX11_back_60 (fun H locs hH => ?_)
    have hH : Hp G (FA S s.heap.size) s.heap (wA S F_3 (gJ S) R_15) H locs := by rw [eR_15]; exact hH
    refine lv_aload_n (pc := 63) hx hb dX11_back_63 rfl (lv_at hl 0 rfl) ?_
    refine lv_aload_n (pc := 64) hx hb dX11_back_64 rfl (lv_at hl 0 rfl) ?_
    refine sx_getI (pc := 65) (j := 13) B hH hk_th coX11 rfl w_469 rfl dX11_back_65 ?_
    refine W.eq (g2 := F0 m 68 ls [.int (F_3 th 13), .ref th]) rfl ?_
    refine sx_V (pc := 68) (As := [.int (F_3 th 13)]) (rest := []) B hH hl.1 (C_X11_answer G l th (F_3 th 13) _ _ hp) mi_X11_answer coX11 hk_th w_740 w_16 w_738 rfl rfl ⟨Nat.le_of_ble_eq_true rfl, Nat.le_of_ble_eq_true rfl⟩ (Nat.le_of_ble_eq_true rfl) ⟨Nat.le_of_ble_eq_true rfl, Nat.le_of_ble_eq_true rfl⟩ dX11_back_68 (fun v S1 H locs hq hH => ?_)
    obtain ⟨r_16, F_16, rfl, e9, hp⟩ := hq
    rw [e9] at hH
    have hH : Hp G (FA S s.heap.size) s.heap (wA S F_16 (gJ S) R_15) H locs := hH
    refine W.eq (g2 := F0 m 71 ls [.int r_16]) rfl ?_
    exact sx_iret (pc := 71) B hH hr hlk (by rw [← hQQ]; exact ⟨_, F_16, R_15, rfl, rfl, hp⟩) (Nat.le_of_ble_eq_true rfl) (Nat.le_of_ble_eq_true rfl) dX11_back_71
  · have hp := hp.2 cc_1
    refine lv_aload_n (pc := 7) hx hb dX11_back_7 rfl (lv_at hl 0 rfl) ?_
    refine lv_bipush (pc := 8) (v := 6) hx hb dX11_back_8 (by decide) ?_
    refine sx_V (pc := 10) (As := [.int 6]) (rest := []) B hH hl.1 (C_X11_refuse G l th 6 _ _ hp) mi_X11_refuse coX11 hk_th w_570 w_3 w_568 rfl rfl ⟨Nat.le_of_ble_eq_true rfl, Nat.le_of_ble_eq_true rfl⟩ (Nat.le_of_ble_eq_true rfl) ⟨Nat.le_of_ble_eq_true rfl, Nat.le_of_ble_eq_true rfl⟩ dX11_back_10 (fun v S1 H locs hq hH => ?_)
    obtain ⟨r_17, F_17, rfl, e9, hp⟩ := hq
    rw [e9] at hH
    have hH : Hp G (FA S s.heap.size) s.heap (wI S F_17) H locs := hH
    refine W.eq (g2 := F0 m 13 ls [.int r_17]) rfl ?_
    exact sx_iret (pc := 13) B hH hr hlk (by rw [← hQQ]; exact ⟨_, F_17, (gR S), rfl, rfl, hp⟩) (Nat.le_of_ble_eq_true rfl) (Nat.le_of_ble_eq_true rfl) dX11_back_13
