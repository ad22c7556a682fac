theorem dX1_init_0 : decode cX1_init 0 = .ok (.aload_n 0, 1) := by decide +kernel
theorem dX1_init_1 : decode cX1_init 1 = .ok (.invokespecial 3, 3) := by decide +kernel
theorem dX1_init_4 : decode cX1_init 4 = .ok (.aload_n 0, 1) := by decide +kernel
theorem dX1_init_5 : decode cX1_init 5 = .ok (.iconst 4, 1) := by decide +kernel
theorem dX1_init_6 : decode cX1_init 6 = .ok (.putfield 9, 3) := by decide +kernel
theorem dX1_init_9 : decode cX1_init 9 = .ok (.aload_n 0, 1) := by decide +kernel
theorem dX1_init_10 : decode cX1_init 10 = .ok (.iconst 0, 1) := by decide +kernel
theorem dX1_init_11 : decode cX1_init 11 = .ok (.putfield 15, 3) := by decide +kernel
theorem dX1_init_14 : decode cX1_init 14 = .ok (.aload_n 0, 1) := by decide +kernel
theorem dX1_init_15 : decode cX1_init 15 = .ok (.iconst 0, 1) := by decide +kernel
theorem dX1_init_16 : decode cX1_init 16 = .ok (.putfield 18, 3) := by decide +kernel
theorem dX1_init_19 : decode cX1_init 19 = .ok (.aload_n 0, 1) := by decide +kernel
theorem dX1_init_20 : decode cX1_init 20 = .ok (.iconst 0, 1) := by decide +kernel
theorem dX1_init_21 : decode cX1_init 21 = .ok (.putfield 21, 3) := by decide +kernel
theorem dX1_init_24 : decode cX1_init 24 = .ok (.aload_n 0, 1) := by decide +kernel
theorem dX1_init_25 : decode cX1_init 25 = .ok (.iconst (-1), 1) := by decide +kernel
theorem dX1_init_26 : decode cX1_init 26 = .ok (.putfield 24, 3) := by decide +kernel
theorem dX1_init_29 : decode cX1_init 29 = .ok (.aload_n 0, 1) := by decide +kernel
theorem dX1_init_30 : decode cX1_init 30 = .ok (.bipush 12, 2) := by decide +kernel
theorem dX1_init_32 : decode cX1_init 32 = .ok (.newarray .long, 2) := by decide +kernel
theorem dX1_init_34 : decode cX1_init 34 = .ok (.putfield 27, 3) := by decide +kernel
theorem dX1_init_37 : decode cX1_init 37 = .ok (.aload_n 0, 1) := by decide +kernel
theorem dX1_init_38 : decode cX1_init 38 = .ok (.iconst 4, 1) := by decide +kernel
theorem dX1_init_39 : decode cX1_init 39 = .ok (.newarray .long, 2) := by decide +kernel
theorem dX1_init_41 : decode cX1_init 41 = .ok (.putfield 31, 3) := by decide +kernel
theorem dX1_init_44 : decode cX1_init 44 = .ok (.aload_n 0, 1) := by decide +kernel
theorem dX1_init_45 : decode cX1_init 45 = .ok (.iconst 4, 1) := by decide +kernel
theorem dX1_init_46 : decode cX1_init 46 = .ok (.bipush 32, 2) := by decide +kernel
theorem dX1_init_48 : decode cX1_init 48 = .ok (.multianewarray 34 2, 4) := by decide +kernel
theorem dX1_init_52 : decode cX1_init 52 = .ok (.putfield 36, 3) := by decide +kernel
theorem dX1_init_55 : decode cX1_init 55 = .ok (.aload_n 0, 1) := by decide +kernel
theorem dX1_init_56 : decode cX1_init 56 = .ok (.iconst 4, 1) := by decide +kernel
theorem dX1_init_57 : decode cX1_init 57 = .ok (.newarray .int, 2) := by decide +kernel
theorem dX1_init_59 : decode cX1_init 59 = .ok (.putfield 39, 3) := by decide +kernel
theorem dX1_init_62 : decode cX1_init 62 = .ok (.aload_n 0, 1) := by decide +kernel
theorem dX1_init_63 : decode cX1_init 63 = .ok (.iconst 4, 1) := by decide +kernel
theorem dX1_init_64 : decode cX1_init 64 = .ok (.newarray .int, 2) := by decide +kernel
theorem dX1_init_66 : decode cX1_init 66 = .ok (.putfield 43, 3) := by decide +kernel
theorem dX1_init_69 : decode cX1_init 69 = .ok (.aload_n 0, 1) := by decide +kernel
theorem dX1_init_70 : decode cX1_init 70 = .ok (.iconst 4, 1) := by decide +kernel
theorem dX1_init_71 : decode cX1_init 71 = .ok (.newarray .int, 2) := by decide +kernel
theorem dX1_init_73 : decode cX1_init 73 = .ok (.putfield 46, 3) := by decide +kernel
theorem dX1_init_76 : decode cX1_init 76 = .ok (.aload_n 0, 1) := by decide +kernel
theorem dX1_init_77 : decode cX1_init 77 = .ok (.aload_n 1, 1) := by decide +kernel
theorem dX1_init_78 : decode cX1_init 78 = .ok (.putfield 49, 3) := by decide +kernel
theorem dX1_init_81 : decode cX1_init 81 = .ok (.return_, 1) := by decide +kernel
theorem mi_X1_init : MI yX1_init cX1_init 2 (none : Option Jvm.ClassFile.FieldType) 1 := ⟨w_253, w_111, by decide +kernel, by decide +kernel, by decide +kernel⟩
set_option maxRecDepth 100000 in
set_option maxHeartbeats 4000000 in
theorem C_X1_init (G : GG) (l : Launch) (th : Nat) (p0 : Nat) (S : St) (bc bs : Nat) (Q : St → Prop) (hp : P_X1_init th p0 S bc bs Q) : Ctr G l yX1_init cX1_init 2 (none : Option Jvm.ClassFile.FieldType) 1 20 bc bs [.ref th, .ref p0] S (fun (v : Option Value) (S9 : St) => v = none ∧ Q S9) := by
  generalize hQQ : (fun (v : Option Value) (S9 : St) => v = none ∧ Q S9) = QQ
  unfold P_X1_init at hp
  refine Ctr.of (by decide) (Nat.le_of_ble_eq_true rfl) ?_
  intro p e s m args below meth c ls B hr hlk hin hl hH
  generalize hlocs0 : ([] : List Loc) = locs at hH ⊢
  have hx := B.1
  have hb := B.2.1
  have hl : lv_has ls 2 [(0, .ref th), (1, .ref p0)] := hl
  obtain ⟨hk_th, hp⟩ := hp
  refine lv_aload_n (pc := 0) hx hb dX1_init_0 rfl (lv_at hl 0 rfl) ?_
  refine sx_objInit (pc := 1) (rest := []) B hl.1 w_254 w_131 w_obj (Nat.le_of_ble_eq_true rfl) (Nat.le_of_ble_eq_true rfl) dX1_init_1 ?_
  refine W.eq (g2 := F0 m 4 ls []) rfl ?_
  refine lv_aload_n (pc := 4) hx hb dX1_init_4 rfl (lv_at hl 0 rfl) ?_
  refine lv_iconst (pc := 5) (v := 4) hx hb dX1_init_5 (by decide) ?_
  obtain ⟨F_1, eF_1⟩ : ∃ z : Nat → Nat → Int32, z = upI (gI S) th 1 4 := ⟨_, rfl⟩
  have hp := hp F_1 eF_1
  refine sx_putI (pc := 6) (j := 1) B hH hk_th coX1 rfl w_258 rfl (Or.inl rfl) rfl dX1_init_6 (fun H locs hH => ?_)
  have hH : Hp G (FA S s.heap.size) s.heap (wI S F_1) H locs := by rw [eF_1]; exact hH
  refine lv_aload_n (pc := 9) hx hb dX1_init_9 rfl (lv_at hl 0 rfl) ?_
  refine lv_iconst (pc := 10) (v := 0) hx hb dX1_init_10 (by decide) ?_
  obtain ⟨F_2, eF_2⟩ : ∃ z : Nat → Nat → Int32, z = upI F_1 th 2 0 := ⟨_, rfl⟩
  have hp := hp F_2 eF_2
  refine sx_putI (pc := 11) (j := 2) B hH hk_th coX1 rfl w_259 rfl (Or.inl rfl) rfl dX1_init_11 (fun H locs hH => ?_)
  have hH : Hp G (FA S s.heap.size) s.heap (wI S F_2) H locs := by rw [eF_2]; exact hH
  refine lv_aload_n (pc := 14) hx hb dX1_init_14 rfl (lv_at hl 0 rfl) ?_
  refine lv_iconst (pc := 15) (v := 0) hx hb dX1_init_15 (by decide) ?_
  obtain ⟨F_3, eF_3⟩ : ∃ z : Nat → Nat → Int32, z = upI F_2 th 3 0 := ⟨_, rfl⟩
  have hp := hp F_3 eF_3
  refine sx_putI (pc := 16) (j := 3) B hH hk_th coX1 rfl w_260 rfl (Or.inl rfl) rfl dX1_init_16 (fun H locs hH => ?_)
  have hH : Hp G (FA S s.heap.size) s.heap (wI S F_3) H locs := by rw [eF_3]; exact hH
  refine lv_aload_n (pc := 19) hx hb dX1_init_19 rfl (lv_at hl 0 rfl) ?_
  refine lv_iconst (pc := 20) (v := 0) hx hb dX1_init_20 (by decide) ?_
  obtain ⟨F_4, eF_4⟩ : ∃ z : Nat → Nat → Int32, z = upI F_3 th 4 0 := ⟨_, rfl⟩
  have hp := hp F_4 eF_4
  refine sx_putI (pc := 21) (j := 4) B hH hk_th coX1 rfl w_261 rfl (Or.inl rfl) rfl dX1_init_21 (fun H locs hH => ?_)
  have hH : Hp G (FA S s.heap.size) s.heap (wI S F_4) H locs := by rw [eF_4]; exact hH
  refine lv_aload_n (pc := 24) hx hb dX1_init_24 rfl (lv_at hl 0 rfl) ?_
  refine lv_iconst (pc := 25) (v := (-1)) hx hb dX1_init_25 (by decide) ?_
  obtain ⟨F_5, eF_5⟩ : ∃ z : Nat → Nat → Int32, z = upI F_4 th 5 (-1) := ⟨_, rfl⟩
  have hp := hp F_5 eF_5
  refine sx_putI (pc := 26) (j := 5) B hH hk_th coX1 rfl w_262 rfl (Or.inl rfl) rfl dX1_init_26 (fun H locs hH => ?_)
  have hH : Hp G (FA S s.heap.size) s.heap (wI S F_5) H locs := by rw [eF_5]; exact hH
  refine lv_aload_n (pc := 29) hx hb dX1_init_29 rfl (lv_at hl 0 rfl) ?_
  refine lv_bipush (pc := 30) (v := 12) hx hb dX1_init_30 (by decide) ?_
  obtain ⟨hc_7, hp⟩ := hp
  obtain ⟨hc_8, hp⟩ := hp
  refine sx_newj (pc := 32) (S := (wI S F_5)) B hH w_248 (by decide) (by decide) (by decide) (show _ + 1 ≤ bc by omega) (show _ + 12 ≤ bs by first | omega | exact (by omega : _ + 12 ≤ bs)) dX1_init_32 (fun q_6 H hq_6 hH => ?_)
  obtain ⟨S_6, eS_6⟩ : ∃ z : St, z = alo (wI S F_5) q_6 22 12 := ⟨_, rfl⟩
  have hp := hp q_6 hq_6 S_6 eS_6
  have hH : Hp G (FA S s.heap.size) s.heap S_6 H locs := by rw [eS_6]; exact hH
  have hk_6 : kd S_6 q_6 = 22 := by rw [eS_6]; exact kd_alo
  refine W.eq (g2 := F0 m 34 ls [.ref q_6, .ref th]) rfl ?_
  obtain ⟨hk_9, hp⟩ := hp
  obtain ⟨R_10, eR_10⟩ : ∃ z : Nat → Nat → Option Nat, z = upR (gR S_6) th 6 (some q_6) := ⟨_, rfl⟩
  have hp := hp R_10 eR_10
  refine sx_putR (pc := 34) (j := 6) (x := (some q_6)) B hH hk_9 coX1 rfl w_263 rfl (Or.inr ⟨rfl, hin, rfl⟩) rfl dX1_init_34 (fun H locs hH => ?_)
  have hH : Hp G (FA S s.heap.size) s.heap (wA S_6 (gI S_6) (gJ S_6) R_10) H locs := by rw [eR_10]; exact hH
  refine lv_aload_n (pc := 37) hx hb dX1_init_37 rfl (lv_at hl 0 rfl) ?_
  refine lv_iconst (pc := 38) (v := 4) hx hb dX1_init_38 (by decide) ?_
  obtain ⟨hc_12, hp⟩ := hp
  obtain ⟨hc_13, hp⟩ := hp
  refine sx_newj (pc := 39) (S := (wA S_6 (gI S_6) (gJ S_6) R_10)) B hH w_248 (by decide) (by decide) (by decide) (show _ + 1 ≤ bc by omega) (show _ + 4 ≤ bs by first | omega | exact (by omega : _ + 4 ≤ bs)) dX1_init_39 (fun q_11 H hq_11 hH => ?_)
  obtain ⟨S_11, eS_11⟩ : ∃ z : St, z = alo (wA S_6 (gI S_6) (gJ S_6) R_10) q_11 22 4 := ⟨_, rfl⟩
  have hp := hp q_11 hq_11 S_11 eS_11
  have hH : Hp G (FA S s.heap.size) s.heap S_11 H locs := by rw [eS_11]; exact hH
  have hk_11 : kd S_11 q_11 = 22 := by rw [eS_11]; exact kd_alo
  refine W.eq (g2 := F0 m 41 ls [.ref q_11, .ref th]) rfl ?_
  obtain ⟨hk_14, hp⟩ := hp
  obtain ⟨R_15, eR_15⟩ : ∃ z : Nat → Nat → Option Nat, z = upR (gR S_11) th 7 (some q_11) := ⟨_, rfl⟩
  have hp := hp R_15 eR_15
  refine sx_putR (pc := 41) (j := 7) (x := (some q_11)) B hH hk_14 coX1 rfl w_264 rfl (Or.inr ⟨rfl, hin, rfl⟩) rfl dX1_init_41 (fun H locs hH => ?_)
  have hH : Hp G (FA S s.heap.size) s.heap (wA S_11 (gI S_11) (gJ S_11) R_15) H locs := by rw [eR_15]; exact hH
  refine lv_aload_n (pc := 44) hx hb dX1_init_44 rfl (lv_at hl 0 rfl) ?_
  refine lv_iconst (pc := 45) (v := 4) hx hb dX1_init_45 (by decide) ?_
  refine lv_bipush (pc := 46) (v := 32) hx hb dX1_init_46 (by decide) ?_
  obtain ⟨hc_17, hp⟩ := hp
  obtain ⟨hc_18, hp⟩ := hp
  refine sx_mna (pc := 48) (S := (wA S_11 (gI S_11) (gJ S_11) R_15)) B hH w_255 w_294 (by decide) (by decide) (by decide) (by decide) (show _ + (1 + 4) ≤ bc by omega) (show _ + (4 + 4 * 32) ≤ bs by omega) dX1_init_48 (fun q_16 rr_16 H hq_16 hr_16 hi_16 hH => ?_)
  obtain ⟨S_16, eS_16⟩ : ∃ z : St, z = mnaS (wA S_11 (gI S_11) (gJ S_11) R_15) q_16 rr_16 4 32 := ⟨_, rfl⟩
  have hp := hp q_16 rr_16 hq_16 hr_16 hi_16 S_16 eS_16
  have hH : Hp G (FA S s.heap.size) s.heap S_16 H locs := by rw [eS_16]; exact hH
  refine W.eq (g2 := F0 m 52 ls [.ref q_16, .ref th]) rfl ?_
  obtain ⟨hk_19, hp⟩ := hp
  obtain ⟨R_20, eR_20⟩ : ∃ z : Nat → Nat → Option Nat, z = upR (gR S_16) th 8 (some q_16) := ⟨_, rfl⟩
  have hp := hp R_20 eR_20
  refine sx_putR (pc := 52) (j := 8) (x := (some q_16)) B hH hk_19 coX1 rfl w_265 rfl (Or.inr ⟨rfl, hin, rfl⟩) rfl dX1_init_52 (fun H locs hH => ?_)
  have hH : Hp G (FA S s.heap.size) s.heap (wA S_16 (gI S_16) (gJ S_16) R_20) H locs := by rw [eR_20]; exact hH
  refine lv_aload_n (pc := 55) hx hb dX1_init_55 rfl (lv_at hl 0 rfl) ?_
  refine lv_iconst (pc := 56) (v := 4) hx hb dX1_init_56 (by decide) ?_
  obtain ⟨hc_22, hp⟩ := hp
  obtain ⟨hc_23, hp⟩ := hp
  refine sx_newi (pc := 57) (S := (wA S_16 (gI S_16) (gJ S_16) R_20)) B hH w_294 (by decide) (by decide) (by decide) (show _ + 1 ≤ bc by omega) (show _ + 4 ≤ bs by first | omega | exact (by omega : _ + 4 ≤ bs)) dX1_init_57 (fun q_21 H hq_21 hH => ?_)
  obtain ⟨S_21, eS_21⟩ : ∃ z : St, z = alo (wA S_16 (gI S_16) (gJ S_16) R_20) q_21 21 4 := ⟨_, rfl⟩
  have hp := hp q_21 hq_21 S_21 eS_21
  have hH : Hp G (FA S s.heap.size) s.heap S_21 H locs := by rw [eS_21]; exact hH
  have hk_21 : kd S_21 q_21 = 21 := by rw [eS_21]; exact kd_alo
  refine W.eq (g2 := F0 m 59 ls [.ref q_21, .ref th]) rfl ?_
  obtain ⟨hk_24, hp⟩ := hp
  obtain ⟨R_25, eR_25⟩ : ∃ z : Nat → Nat → Option Nat, z = upR (gR S_21) th 9 (some q_21) := ⟨_, rfl⟩
  have hp := hp R_25 eR_25
  refine sx_putR (pc := 59) (j := 9) (x := (some q_21)) B hH hk_24 coX1 rfl w_266 rfl (Or.inr ⟨rfl, hin, rfl⟩) rfl dX1_init_59 (fun H locs hH => ?_)
  have hH : Hp G (FA S s.heap.size) s.heap (wA S_21 (gI S_21) (gJ S_21) R_25) H locs := by rw [eR_25]; exact hH
  refine lv_aload_n (pc := 62) hx hb dX1_init_62 rfl (lv_at hl 0 rfl) ?_
  refine lv_iconst (pc := 63) (v := 4) hx hb dX1_init_63 (by decide) ?_
  obtain ⟨hc_27, hp⟩ := hp
  obtain ⟨hc_28, hp⟩ := hp
  refine sx_newi (pc := 64) (S := (wA S_21 (gI S_21) (gJ S_21) R_25)) B hH w_294 (by decide) (by decide) (by decide) (show _ + 1 ≤ bc by omega) (show _ + 4 ≤ bs by first | omega | exact (by omega : _ + 4 ≤ bs)) dX1_init_64 (fun q_26 H hq_26 hH => ?_)
  obtain ⟨S_26, eS_26⟩ : ∃ z : St, z = alo (wA S_21 (gI S_21) (gJ S_21) R_25) q_26 21 4 := ⟨_, rfl⟩
  have hp := hp q_26 hq_26 S_26 eS_26
  have hH : Hp G (FA S s.heap.size) s.heap S_26 H locs := by rw [eS_26]; exact hH
  have hk_26 : kd S_26 q_26 = 21 := by rw [eS_26]; exact kd_alo
  refine W.eq (g2 := F0 m 66 ls [.ref q_26, .ref th]) rfl ?_
  obtain ⟨hk_29, hp⟩ := hp
  obtain ⟨R_30, eR_30⟩ : ∃ z : Nat → Nat → Option Nat, z = upR (gR S_26) th 10 (some q_26) := ⟨_, rfl⟩
  have hp := hp R_30 eR_30
  refine sx_putR (pc := 66) (j := 10) (x := (some q_26)) B hH hk_29 coX1 rfl w_267 rfl (Or.inr ⟨rfl, hin, rfl⟩) rfl dX1_init_66 (fun H locs hH => ?_)
  have hH : Hp G (FA S s.heap.size) s.heap (wA S_26 (gI S_26) (gJ S_26) R_30) H locs := by rw [eR_30]; exact hH
  refine lv_aload_n (pc := 69) hx hb dX1_init_69 rfl (lv_at hl 0 rfl) ?_
  refine lv_iconst (pc := 70) (v := 4) hx hb dX1_init_70 (by decide) ?_
  obtain ⟨hc_32, hp⟩ := hp
  obtain ⟨hc_33, hp⟩ := hp
  refine sx_newi (pc := 71) (S := (wA S_26 (gI S_26) (gJ S_26) R_30)) B hH w_294 (by decide) (by decide) (by decide) (show _ + 1 ≤ bc by omega) (show _ + 4 ≤ bs by first | omega | exact (by omega : _ + 4 ≤ bs)) dX1_init_71 (fun q_31 H hq_31 hH => ?_)
  obtain ⟨S_31, eS_31⟩ : ∃ z : St, z = alo (wA S_26 (gI S_26) (gJ S_26) R_30) q_31 21 4 := ⟨_, rfl⟩
  have hp := hp q_31 hq_31 S_31 eS_31
  have hH : Hp G (FA S s.heap.size) s.heap S_31 H locs := by rw [eS_31]; exact hH
  have hk_31 : kd S_31 q_31 = 21 := by rw [eS_31]; exact kd_alo
  refine W.eq (g2 := F0 m 73 ls [.ref q_31, .ref th]) rfl ?_
  obtain ⟨hk_34, hp⟩ := hp
  obtain ⟨R_35, eR_35⟩ : ∃ z : Nat → Nat → Option Nat, z = upR (gR S_31) th 11 (some q_31) := ⟨_, rfl⟩
  have hp := hp R_35 eR_35
  refine sx_putR (pc := 73) (j := 11) (x := (some q_31)) B hH hk_34 coX1 rfl w_268 rfl (Or.inr ⟨rfl, hin, rfl⟩) rfl dX1_init_73 (fun H locs hH => ?_)
  have hH : Hp G (FA S s.heap.size) s.heap (wA S_31 (gI S_31) (gJ S_31) R_35) H locs := by rw [eR_35]; exact hH
  refine lv_aload_n (pc := 76) hx hb dX1_init_76 rfl (lv_at hl 0 rfl) ?_
  refine lv_aload_n (pc := 77) hx hb dX1_init_77 rfl (lv_at hl 1 rfl) ?_
  obtain ⟨R_36, eR_36⟩ : ∃ z : Nat → Nat → Option Nat, z = upR R_35 th 0 (some p0) := ⟨_, rfl⟩
  have hp := hp R_36 eR_36
  refine sx_putR (pc := 78) (j := 0) (x := (some p0)) B hH hk_34 coX1 rfl w_257 rfl (Or.inr ⟨rfl, hin, rfl⟩) rfl dX1_init_78 (fun H locs hH => ?_)
  have hH : Hp G (FA S s.heap.size) s.heap (wA S_31 (gI S_31) (gJ S_31) R_36) H locs := by rw [eR_36]; exact hH
  exact sx_vret (pc := 81) B hH hr hlk (by rw [← hQQ]; exact ⟨rfl, hp⟩) (show _ ≤ bc by omega) (show _ ≤ bs by omega) dX1_init_81
theorem dX9_init_0 : decode cX9_init 0 = .ok (.aload_n 0, 1) := by decide +kernel
theorem dX9_init_1 : decode cX9_init 1 = .ok (.invokespecial 3, 3) := by decide +kernel
theorem dX9_init_4 : decode cX9_init 4 = .ok (.aload_n 0, 1) := by decide +kernel
theorem dX9_init_5 : decode cX9_init 5 = .ok (.iconst 0, 1) := by decide +kernel
theorem dX9_init_6 : decode cX9_init 6 = .ok (.putfield 9, 3) := by decide +kernel
theorem dX9_init_9 : decode cX9_init 9 = .ok (.aload_n 0, 1) := by decide +kernel
theorem dX9_init_10 : decode cX9_init 10 = .ok (.iconst 0, 1) := by decide +kernel
theorem dX9_init_11 : decode cX9_init 11 = .ok (.putfield 15, 3) := by decide +kernel
theorem dX9_init_14 : decode cX9_init 14 = .ok (.aload_n 0, 1) := by decide +kernel
theorem dX9_init_15 : decode cX9_init 15 = .ok (.iconst 0, 1) := by decide +kernel
theorem dX9_init_16 : decode cX9_init 16 = .ok (.putfield 18, 3) := by decide +kernel
theorem dX9_init_19 : decode cX9_init 19 = .ok (.aload_n 0, 1) := by decide +kernel
theorem dX9_init_20 : decode cX9_init 20 = .ok (.bipush 60, 2) := by decide +kernel
theorem dX9_init_22 : decode cX9_init 22 = .ok (.newarray .int, 2) := by decide +kernel
theorem dX9_init_24 : decode cX9_init 24 = .ok (.putfield 21, 3) := by decide +kernel
theorem dX9_init_27 : decode cX9_init 27 = .ok (.aload_n 0, 1) := by decide +kernel
theorem dX9_init_28 : decode cX9_init 28 = .ok (.bipush 60, 2) := by decide +kernel
theorem dX9_init_30 : decode cX9_init 30 = .ok (.newarray .int, 2) := by decide +kernel
theorem dX9_init_32 : decode cX9_init 32 = .ok (.putfield 25, 3) := by decide +kernel
theorem dX9_init_35 : decode cX9_init 35 = .ok (.aload_n 0, 1) := by decide +kernel
theorem dX9_init_36 : decode cX9_init 36 = .ok (.bipush 60, 2) := by decide +kernel
theorem dX9_init_38 : decode cX9_init 38 = .ok (.anewarray 28, 3) := by decide +kernel
theorem dX9_init_41 : decode cX9_init 41 = .ok (.putfield 30, 3) := by decide +kernel
theorem dX9_init_44 : decode cX9_init 44 = .ok (.aload_n 0, 1) := by decide +kernel
theorem dX9_init_45 : decode cX9_init 45 = .ok (.iconst 3, 1) := by decide +kernel
theorem dX9_init_46 : decode cX9_init 46 = .ok (.newarray .int, 2) := by decide +kernel
theorem dX9_init_48 : decode cX9_init 48 = .ok (.putfield 34, 3) := by decide +kernel
theorem dX9_init_51 : decode cX9_init 51 = .ok (.aload_n 0, 1) := by decide +kernel
theorem dX9_init_52 : decode cX9_init 52 = .ok (.iconst 3, 1) := by decide +kernel
theorem dX9_init_53 : decode cX9_init 53 = .ok (.newarray .int, 2) := by decide +kernel
theorem dX9_init_55 : decode cX9_init 55 = .ok (.putfield 37, 3) := by decide +kernel
theorem dX9_init_58 : decode cX9_init 58 = .ok (.aload_n 0, 1) := by decide +kernel
theorem dX9_init_59 : decode cX9_init 59 = .ok (.sipush 2000, 3) := by decide +kernel
theorem dX9_init_62 : decode cX9_init 62 = .ok (.newarray .int, 2) := by decide +kernel
theorem dX9_init_64 : decode cX9_init 64 = .ok (.putfield 40, 3) := by decide +kernel
theorem dX9_init_67 : decode cX9_init 67 = .ok (.aload_n 0, 1) := by decide +kernel
theorem dX9_init_68 : decode cX9_init 68 = .ok (.iconst 0, 1) := by decide +kernel
theorem dX9_init_69 : decode cX9_init 69 = .ok (.putfield 43, 3) := by decide +kernel
theorem dX9_init_72 : decode cX9_init 72 = .ok (.aload_n 0, 1) := by decide +kernel
theorem dX9_init_73 : decode cX9_init 73 = .ok (.aload_n 1, 1) := by decide +kernel
theorem dX9_init_74 : decode cX9_init 74 = .ok (.putfield 46, 3) := by decide +kernel
theorem dX9_init_77 : decode cX9_init 77 = .ok (.return_, 1) := by decide +kernel
theorem mi_X9_init : MI yX9_init cX9_init 2 (none : Option Jvm.ClassFile.FieldType) 1 := ⟨w_299, w_112, by decide +kernel, by decide +kernel, by decide +kernel⟩
set_option maxRecDepth 100000 in
set_option maxHeartbeats 4000000 in
theorem C_X9_init (G : GG) (l : Launch) (th : Nat) (p0 : Nat) (S : St) (bc bs : Nat) (Q : St → Prop) (hp : P_X9_init th p0 S bc bs Q) : Ctr G l yX9_init cX9_init 2 (none : Option Jvm.ClassFile.FieldType) 1 20 bc bs [.ref th, .ref p0] S (fun (v : Option Value) (S9 : St) => v = none ∧ Q S9) := by
  generalize hQQ : (fun (v : Option Value) (S9 : St) => v = none ∧ Q S9) = QQ
  unfold P_X9_init at hp
  refine Ctr.of (by decide) (Nat.le_of_ble_eq_true rfl) ?_
  intro p e s m args below meth c ls B hr hlk hin hl hH
  generalize hlocs0 : ([] : List Loc) = locs at hH ⊢
  have hx := B.1
  have hb := B.2.1
  have hl : lv_has ls 2 [(0, .ref th), (1, .ref p0)] := hl
  obtain ⟨hk_th, hp⟩ := hp
  refine lv_aload_n (pc := 0) hx hb dX9_init_0 rfl (lv_at hl 0 rfl) ?_
  refine sx_objInit (pc := 1) (rest := []) B hl.1 w_300 w_131 w_obj (Nat.le_of_ble_eq_true rfl) (Nat.le_of_ble_eq_true rfl) dX9_init_1 ?_
  refine W.eq (g2 := F0 m 4 ls []) rfl ?_
  refine lv_aload_n (pc := 4) hx hb dX9_init_4 rfl (lv_at hl 0 rfl) ?_
  refine lv_iconst (pc := 5) (v := 0) hx hb dX9_init_5 (by decide) ?_
  obtain ⟨F_1, eF_1⟩ : ∃ z : Nat → Nat → Int32, z = upI (gI S) th 1 0 := ⟨_, rfl⟩
  have hp := hp F_1 eF_1
  refine sx_putI (pc := 6) (j := 1) B hH hk_th coX9 rfl w_304 rfl (Or.inl rfl) rfl dX9_init_6 (fun H locs hH => ?_)
  have hH : Hp G (FA S s.heap.size) s.heap (wI S F_1) H locs := by rw [eF_1]; exact hH
  refine lv_aload_n (pc := 9) hx hb dX9_init_9 rfl (lv_at hl 0 rfl) ?_
  refine lv_iconst (pc := 10) (v := 0) hx hb dX9_init_10 (by decide) ?_
  obtain ⟨F_2, eF_2⟩ : ∃ z : Nat → Nat → Int32, z = upI F_1 th 2 0 := ⟨_, rfl⟩
  have hp := hp F_2 eF_2
  refine sx_putI (pc := 11) (j := 2) B hH hk_th coX9 rfl w_305 rfl (Or.inl rfl) rfl dX9_init_11 (fun H locs hH => ?_)
  have hH : Hp G (FA S s.heap.size) s.heap (wI S F_2) H locs := by rw [eF_2]; exact hH
  refine lv_aload_n (pc := 14) hx hb dX9_init_14 rfl (lv_at hl 0 rfl) ?_
  refine lv_iconst (pc := 15) (v := 0) hx hb dX9_init_15 (by decide) ?_
  obtain ⟨F_3, eF_3⟩ : ∃ z : Nat → Nat → Int32, z = upI F_2 th 3 0 := ⟨_, rfl⟩
  have hp := hp F_3 eF_3
  refine sx_putI (pc := 16) (j := 3) B hH hk_th coX9 rfl w_306 rfl (Or.inl rfl) rfl dX9_init_16 (fun H locs hH => ?_)
  have hH : Hp G (FA S s.heap.size) s.heap (wI S F_3) H locs := by rw [eF_3]; exact hH
  refine lv_aload_n (pc := 19) hx hb dX9_init_19 rfl (lv_at hl 0 rfl) ?_
  refine lv_bipush (pc := 20) (v := 60) hx hb dX9_init_20 (by decide) ?_
  obtain ⟨hc_5, hp⟩ := hp
  obtain ⟨hc_6, hp⟩ := hp
  refine sx_newi (pc := 22) (S := (wI S F_3)) B hH w_294 (by decide) (by decide) (by decide) (show _ + 1 ≤ bc by omega) (show _ + 60 ≤ bs by first | omega | exact (by omega : _ + 60 ≤ bs)) dX9_init_22 (fun q_4 H hq_4 hH => ?_)
  obtain ⟨S_4, eS_4⟩ : ∃ z : St, z = alo (wI S F_3) q_4 21 60 := ⟨_, rfl⟩
  have hp := hp q_4 hq_4 S_4 eS_4
  have hH : Hp G (FA S s.heap.size) s.heap S_4 H locs := by rw [eS_4]; exact hH
  have hk_4 : kd S_4 q_4 = 21 := by rw [eS_4]; exact kd_alo
  refine W.eq (g2 := F0 m 24 ls [.ref q_4, .ref th]) rfl ?_
  obtain ⟨hk_7, hp⟩ := hp
  obtain ⟨R_8, eR_8⟩ : ∃ z : Nat → Nat → Option Nat, z = upR (gR S_4) th 4 (some q_4) := ⟨_, rfl⟩
  have hp := hp R_8 eR_8
  refine sx_putR (pc := 24) (j := 4) (x := (some q_4)) B hH hk_7 coX9 rfl w_307 rfl (Or.inr ⟨rfl, hin, rfl⟩) rfl dX9_init_24 (fun H locs hH => ?_)
  have hH : Hp G (FA S s.heap.size) s.heap (wA S_4 (gI S_4) (gJ S_4) R_8) H locs := by rw [eR_8]; exact hH
  refine lv_aload_n (pc := 27) hx hb dX9_init_27 rfl (lv_at hl 0 rfl) ?_
  refine lv_bipush (pc := 28) (v := 60) hx hb dX9_init_28 (by decide) ?_
  obtain ⟨hc_10, hp⟩ := hp
  obtain ⟨hc_11, hp⟩ := hp
  refine sx_newi (pc := 30) (S := (wA S_4 (gI S_4) (gJ S_4) R_8)) B hH w_294 (by decide) (by decide) (by decide) (show _ + 1 ≤ bc by omega) (show _ + 60 ≤ bs by first | omega | exact (by omega : _ + 60 ≤ bs)) dX9_init_30 (fun q_9 H hq_9 hH => ?_)
  obtain ⟨S_9, eS_9⟩ : ∃ z : St, z = alo (wA S_4 (gI S_4) (gJ S_4) R_8) q_9 21 60 := ⟨_, rfl⟩
  have hp := hp q_9 hq_9 S_9 eS_9
  have hH : Hp G (FA S s.heap.size) s.heap S_9 H locs := by rw [eS_9]; exact hH
  have hk_9 : kd S_9 q_9 = 21 := by rw [eS_9]; exact kd_alo
  refine W.eq (g2 := F0 m 32 ls [.ref q_9, .ref th]) rfl ?_
  obtain ⟨hk_12, hp⟩ := hp
  obtain ⟨R_13, eR_13⟩ : ∃ z : Nat → Nat → Option Nat, z = upR (gR S_9) th 5 (some q_9) := ⟨_, rfl⟩
  have hp := hp R_13 eR_13
  refine sx_putR (pc := 32) (j := 5) (x := (some q_9)) B hH hk_12 coX9 rfl w_308 rfl (Or.inr ⟨rfl, hin, rfl⟩) rfl dX9_init_32 (fun H locs hH => ?_)
  have hH : Hp G (FA S s.heap.size) s.heap (wA S_9 (gI S_9) (gJ S_9) R_13) H locs := by rw [eR_13]; exact hH
  refine lv_aload_n (pc := 35) hx hb dX9_init_35 rfl (lv_at hl 0 rfl) ?_
  refine lv_bipush (pc := 36) (v := 60) hx hb dX9_init_36 (by decide) ?_
  obtain ⟨hc_15, hp⟩ := hp
  obtain ⟨hc_16, hp⟩ := hp
  refine sx_newq (pc := 38) (S := (wA S_9 (gI S_9) (gJ S_9) R_13)) (k0 := 4) B hH B.2.2.2.2.2.1.2.1.2.1 (by decide) rfl w_301 (by decide) (by decide) (by decide) (show _ + 1 ≤ bc by omega) (show _ + 60 ≤ bs by omega) dX9_init_38 (fun q_14 H hq_14 hH => ?_)
  obtain ⟨S_14, eS_14⟩ : ∃ z : St, z = alo (wA S_9 (gI S_9) (gJ S_9) R_13) q_14 24 60 := ⟨_, rfl⟩
  have hp := hp q_14 hq_14 S_14 eS_14
  have hH : Hp G (FA S s.heap.size) s.heap S_14 H locs := by rw [eS_14]; exact hH
  have hk_14 : kd S_14 q_14 = 24 := by rw [eS_14]; exact kd_alo
  refine W.eq (g2 := F0 m 41 ls [.ref q_14, .ref th]) rfl ?_
  obtain ⟨hk_17, hp⟩ := hp
  obtain ⟨R_18, eR_18⟩ : ∃ z : Nat → Nat → Option Nat, z = upR (gR S_14) th 6 (some q_14) := ⟨_, rfl⟩
  have hp := hp R_18 eR_18
  refine sx_putR (pc := 41) (j := 6) (x := (some q_14)) B hH hk_17 coX9 rfl w_309 rfl (Or.inr ⟨rfl, hin, rfl⟩) rfl dX9_init_41 (fun H locs hH => ?_)
  have hH : Hp G (FA S s.heap.size) s.heap (wA S_14 (gI S_14) (gJ S_14) R_18) H locs := by rw [eR_18]; exact hH
  refine lv_aload_n (pc := 44) hx hb dX9_init_44 rfl (lv_at hl 0 rfl) ?_
  refine lv_iconst (pc := 45) (v := 3) hx hb dX9_init_45 (by decide) ?_
  obtain ⟨hc_20, hp⟩ := hp
  obtain ⟨hc_21, hp⟩ := hp
  refine sx_newi (pc := 46) (S := (wA S_14 (gI S_14) (gJ S_14) R_18)) B hH w_294 (by decide) (by decide) (by decide) (show _ + 1 ≤ bc by omega) (show _ + 3 ≤ bs by first | omega | exact (by omega : _ + 3 ≤ bs)) dX9_init_46 (fun q_19 H hq_19 hH => ?_)
  obtain ⟨S_19, eS_19⟩ : ∃ z : St, z = alo (wA S_14 (gI S_14) (gJ S_14) R_18) q_19 21 3 := ⟨_, rfl⟩
  have hp := hp q_19 hq_19 S_19 eS_19
  have hH : Hp G (FA S s.heap.size) s.heap S_19 H locs := by rw [eS_19]; exact hH
  have hk_19 : kd S_19 q_19 = 21 := by rw [eS_19]; exact kd_alo
  refine W.eq (g2 := F0 m 48 ls [.ref q_19, .ref th]) rfl ?_
  obtain ⟨hk_22, hp⟩ := hp
  obtain ⟨R_23, eR_23⟩ : ∃ z : Nat → Nat → Option Nat, z = upR (gR S_19) th 7 (some q_19) := ⟨_, rfl⟩
  have hp := hp R_23 eR_23
  refine sx_putR (pc := 48) (j := 7) (x := (some q_19)) B hH hk_22 coX9 rfl w_310 rfl (Or.inr ⟨rfl, hin, rfl⟩) rfl dX9_init_48 (fun H locs hH => ?_)
  have hH : Hp G (FA S s.heap.size) s.heap (wA S_19 (gI S_19) (gJ S_19) R_23) H locs := by rw [eR_23]; exact hH
  refine lv_aload_n (pc := 51) hx hb dX9_init_51 rfl (lv_at hl 0 rfl) ?_
  refine lv_iconst (pc := 52) (v := 3) hx hb dX9_init_52 (by decide) ?_
  obtain ⟨hc_25, hp⟩ := hp
  obtain ⟨hc_26, hp⟩ := hp
  refine sx_newi (pc := 53) (S := (wA S_19 (gI S_19) (gJ S_19) R_23)) B hH w_294 (by decide) (by decide) (by decide) (show _ + 1 ≤ bc by omega) (show _ + 3 ≤ bs by first | omega | exact (by omega : _ + 3 ≤ bs)) dX9_init_53 (fun q_24 H hq_24 hH => ?_)
  obtain ⟨S_24, eS_24⟩ : ∃ z : St, z = alo (wA S_19 (gI S_19) (gJ S_19) R_23) q_24 21 3 := ⟨_, rfl⟩
  have hp := hp q_24 hq_24 S_24 eS_24
  have hH : Hp G (FA S s.heap.size) s.heap S_24 H locs := by rw [eS_24]; exact hH
  have hk_24 : kd S_24 q_24 = 21 := by rw [eS_24]; exact kd_alo
  refine W.eq (g2 := F0 m 55 ls [.ref q_24, .ref th]) rfl ?_
  obtain ⟨hk_27, hp⟩ := hp
  obtain ⟨R_28, eR_28⟩ : ∃ z : Nat → Nat → Option Nat, z = upR (gR S_24) th 8 (some q_24) := ⟨_, rfl⟩
  have hp := hp R_28 eR_28
  refine sx_putR (pc := 55) (j := 8) (x := (some q_24)) B hH hk_27 coX9 rfl w_311 rfl (Or.inr ⟨rfl, hin, rfl⟩) rfl dX9_init_55 (fun H locs hH => ?_)
  have hH : Hp G (FA S s.heap.size) s.heap (wA S_24 (gI S_24) (gJ S_24) R_28) H locs := by rw [eR_28]; exact hH
  refine lv_aload_n (pc := 58) hx hb dX9_init_58 rfl (lv_at hl 0 rfl) ?_
  refine lv_sipush (pc := 59) (v := 2000) hx hb dX9_init_59 (by decide) ?_
  obtain ⟨hc_30, hp⟩ := hp
  obtain ⟨hc_31, hp⟩ := hp
  refine sx_newi (pc := 62) (S := (wA S_24 (gI S_24) (gJ S_24) R_28)) B hH w_294 (by decide) (by decide) (by decide) (show _ + 1 ≤ bc by omega) (show _ + 2000 ≤ bs by first | omega | exact (by omega : _ + 2000 ≤ bs)) dX9_init_62 (fun q_29 H hq_29 hH => ?_)
  obtain ⟨S_29, eS_29⟩ : ∃ z : St, z = alo (wA S_24 (gI S_24) (gJ S_24) R_28) q_29 21 2000 := ⟨_, rfl⟩
  have hp := hp q_29 hq_29 S_29 eS_29
  have hH : Hp G (FA S s.heap.size) s.heap S_29 H locs := by rw [eS_29]; exact hH
  have hk_29 : kd S_29 q_29 = 21 := by rw [eS_29]; exact kd_alo
  refine W.eq (g2 := F0 m 64 ls [.ref q_29, .ref th]) rfl ?_
  obtain ⟨hk_32, hp⟩ := hp
  obtain ⟨R_33, eR_33⟩ : ∃ z : Nat → Nat → Option Nat, z = upR (gR S_29) th 9 (some q_29) := ⟨_, rfl⟩
  have hp := hp R_33 eR_33
  refine sx_putR (pc := 64) (j := 9) (x := (some q_29)) B hH hk_32 coX9 rfl w_312 rfl (Or.inr ⟨rfl, hin, rfl⟩) rfl dX9_init_64 (fun H locs hH => ?_)
  have hH : Hp G (FA S s.heap.size) s.heap (wA S_29 (gI S_29) (gJ S_29) R_33) H locs := by rw [eR_33]; exact hH
  refine lv_aload_n (pc := 67) hx hb dX9_init_67 rfl (lv_at hl 0 rfl) ?_
  refine lv_iconst (pc := 68) (v := 0) hx hb dX9_init_68 (by decide) ?_
  obtain ⟨F_34, eF_34⟩ : ∃ z : Nat → Nat → Int32, z = upI (gI S_29) th 10 0 := ⟨_, rfl⟩
  have hp := hp F_34 eF_34
  refine sx_putI (pc := 69) (j := 10) B hH hk_32 coX9 rfl w_313 rfl (Or.inl rfl) rfl dX9_init_69 (fun H locs hH => ?_)
  have hH : Hp G (FA S s.heap.size) s.heap (wA S_29 F_34 (gJ S_29) R_33) H locs := by rw [eF_34]; exact hH
  refine lv_aload_n (pc := 72) hx hb dX9_init_72 rfl (lv_at hl 0 rfl) ?_
  refine lv_aload_n (pc := 73) hx hb dX9_init_73 rfl (lv_at hl 1 rfl) ?_
  obtain ⟨R_35, eR_35⟩ : ∃ z : Nat → Nat → Option Nat, z = upR R_33 th 0 (some p0) := ⟨_, rfl⟩
  have hp := hp R_35 eR_35
  refine sx_putR (pc := 74) (j := 0) (x := (some p0)) B hH hk_32 coX9 rfl w_303 rfl (Or.inr ⟨rfl, hin, rfl⟩) rfl dX9_init_74 (fun H locs hH => ?_)
  have hH : Hp G (FA S s.heap.size) s.heap (wA S_29 F_34 (gJ S_29) R_35) H locs := by rw [eR_35]; exact hH
  exact sx_vret (pc := 77) B hH hr hlk (by rw [← hQQ]; exact ⟨rfl, hp⟩) (show _ ≤ bc by omega) (show _ ≤ bs by omega) dX9_init_77
theorem dX1_takesStage_0 : decode cX1_takesStage 0 = .ok (.aload_n 0, 1) := by decide +kernel
theorem dX1_takesStage_1 : decode cX1_takesStage 1 = .ok (.getfield 49, 3) := by decide +kernel
theorem dX1_takesStage_4 : decode cX1_takesStage 4 = .ok (.bipush 6, 2) := by decide +kernel
theorem dX1_takesStage_6 : decode cX1_takesStage 6 = .ok (.invokevirtual 98, 3) := by decide +kernel
theorem dX1_takesStage_9 : decode cX1_takesStage 9 = .ok (.ifCond .ne 5, 3) := by decide +kernel
theorem dX1_takesStage_12 : decode cX1_takesStage 12 = .ok (.iconst 0, 1) := by decide +kernel
theorem dX1_takesStage_13 : decode cX1_takesStage 13 = .ok (.ireturn, 1) := by decide +kernel
theorem dX1_takesStage_14 : decode cX1_takesStage 14 = .ok (.aload_n 0, 1) := by decide +kernel
theorem dX1_takesStage_15 : decode cX1_takesStage 15 = .ok (.getfield 49, 3) := by decide +kernel
theorem dX1_takesStage_18 : decode cX1_takesStage 18 = .ok (.iconst 3, 1) := by decide +kernel
theorem dX1_takesStage_19 : decode cX1_takesStage 19 = .ok (.invokevirtual 63, 3) := by decide +kernel
theorem dX1_takesStage_22 : decode cX1_takesStage 22 = .ok (.ifCond .ne 11, 3) := by decide +kernel
theorem dX1_takesStage_25 : decode cX1_takesStage 25 = .ok (.aload_n 0, 1) := by decide +kernel
theorem dX1_takesStage_26 : decode cX1_takesStage 26 = .ok (.getfield 49, 3) := by decide +kernel
theorem dX1_takesStage_29 : decode cX1_takesStage 29 = .ok (.invokevirtual 73, 3) := by decide +kernel
theorem dX1_takesStage_32 : decode cX1_takesStage 32 = .ok (.ireturn, 1) := by decide +kernel
theorem dX1_takesStage_33 : decode cX1_takesStage 33 = .ok (.aload_n 0, 1) := by decide +kernel
theorem dX1_takesStage_34 : decode cX1_takesStage 34 = .ok (.getfield 49, 3) := by decide +kernel
theorem dX1_takesStage_37 : decode cX1_takesStage 37 = .ok (.getfield 101, 3) := by decide +kernel
theorem dX1_takesStage_40 : decode cX1_takesStage 40 = .ok (.iconst 4, 1) := by decide +kernel
theorem dX1_takesStage_41 : decode cX1_takesStage 41 = .ok (.if_icmp .lt 15, 3) := by decide +kernel
theorem dX1_takesStage_44 : decode cX1_takesStage 44 = .ok (.aload_n 0, 1) := by decide +kernel
theorem dX1_takesStage_45 : decode cX1_takesStage 45 = .ok (.getfield 49, 3) := by decide +kernel
theorem dX1_takesStage_48 : decode cX1_takesStage 48 = .ok (.getfield 101, 3) := by decide +kernel
theorem dX1_takesStage_51 : decode cX1_takesStage 51 = .ok (.bipush 8, 2) := by decide +kernel
theorem dX1_takesStage_53 : decode cX1_takesStage 53 = .ok (.if_icmp .le 12, 3) := by decide +kernel
theorem dX1_takesStage_56 : decode cX1_takesStage 56 = .ok (.aload_n 0, 1) := by decide +kernel
theorem dX1_takesStage_57 : decode cX1_takesStage 57 = .ok (.getfield 49, 3) := by decide +kernel
theorem dX1_takesStage_60 : decode cX1_takesStage 60 = .ok (.iconst 4, 1) := by decide +kernel
theorem dX1_takesStage_61 : decode cX1_takesStage 61 = .ok (.invokevirtual 104, 3) := by decide +kernel
theorem dX1_takesStage_64 : decode cX1_takesStage 64 = .ok (.ireturn, 1) := by decide +kernel
theorem dX1_takesStage_65 : decode cX1_takesStage 65 = .ok (.aload_n 0, 1) := by decide +kernel
theorem dX1_takesStage_66 : decode cX1_takesStage 66 = .ok (.aload_n 0, 1) := by decide +kernel
theorem dX1_takesStage_67 : decode cX1_takesStage 67 = .ok (.getfield 49, 3) := by decide +kernel
theorem dX1_takesStage_70 : decode cX1_takesStage 70 = .ok (.getfield 101, 3) := by decide +kernel
theorem dX1_takesStage_73 : decode cX1_takesStage 73 = .ok (.putfield 9, 3) := by decide +kernel
theorem dX1_takesStage_76 : decode cX1_takesStage 76 = .ok (.aload_n 0, 1) := by decide +kernel
theorem dX1_takesStage_77 : decode cX1_takesStage 77 = .ok (.getfield 49, 3) := by decide +kernel
theorem dX1_takesStage_80 : decode cX1_takesStage 80 = .ok (.invokevirtual 107, 3) := by decide +kernel
theorem dX1_takesStage_83 : decode cX1_takesStage 83 = .ok (.aload_n 0, 1) := by decide +kernel
theorem dX1_takesStage_84 : decode cX1_takesStage 84 = .ok (.getfield 49, 3) := by decide +kernel
theorem dX1_takesStage_87 : decode cX1_takesStage 87 = .ok (.iconst 2, 1) := by decide +kernel
theorem dX1_takesStage_88 : decode cX1_takesStage 88 = .ok (.invokevirtual 98, 3) := by decide +kernel
theorem dX1_takesStage_91 : decode cX1_takesStage 91 = .ok (.ireturn, 1) := by decide +kernel
theorem mi_X1_takesStage : MI yX1_takesStage cX1_takesStage 1 (some FieldType.boolean) 0 := ⟨w_625, w_111, by decide +kernel, by decide +kernel, by decide +kernel⟩
set_option maxRecDepth 100000 in
set_option maxHeartbeats 4000000 in
theorem C_X1_takesStage (G : GG) (l : Launch) (th : Nat) (S : St) (Q : Int32 → (Nat → Nat → Int32) → (Nat → Nat → Int64) → Prop) (hp : P_X1_takesStage th S Q) : Ctr G l yX1_takesStage cX1_takesStage 1 (some FieldType.boolean) 4 83 0 0 [.ref th] S (fun (v : Option Value) (S9 : St) => ∃ (r : Int32) (I9 : Nat → Nat → Int32) (J9 : Nat → Nat → Int64), v = some (.int r) ∧ S9 = wA S I9 J9 (gR S) ∧ Q r I9 J9) := by
  generalize hQQ : (fun (v : Option Value) (S9 : St) => ∃ (r : Int32) (I9 : Nat → Nat → Int32) (J9 : Nat → Nat → Int64), v = some (.int r) ∧ S9 = wA S I9 J9 (gR S) ∧ Q r I9 J9) = QQ
  unfold P_X1_takesStage at hp
  refine Ctr.of (by decide) (Nat.le_of_ble_eq_true rfl) ?_
  intro p e s m args below meth c ls B hr hlk hin hl hH
  generalize hlocs0 : ([] : List Loc) = locs at hH ⊢
  have hx := B.1
  have hb := B.2.1
  have hl : lv_has ls 1 [(0, .ref th)] := hl
  obtain ⟨hk_th, hp⟩ := hp
  refine lv_aload_n (pc := 0) hx hb dX1_takesStage_0 rfl (lv_at hl 0 rfl) ?_
  refine sx_getR (pc := 1) (j := 0) B hH hk_th coX1 rfl w_257 rfl dX1_takesStage_1 ?_
  refine W.eq (g2 := F0 m 4 ls [va_rf (gR S th 0)]) rfl ?_
  obtain ⟨a_1, ha_1, hp⟩ := hp
  refine sx_nonnull (x := a_1) ha_1 ?_
  refine lv_bipush (pc := 4) (v := 6) hx hb dX1_takesStage_4 (by decide) ?_
  obtain ⟨hk_2, hp⟩ := hp
  refine sx_V (pc := 6) (As := [.int 6]) (rest := []) B hH hl.1 (C_X7_take G l a_1 6 _ _ hp) mi_X7_take coX7 hk_2 w_627 w_628 w_626 rfl rfl ⟨Nat.le_of_ble_eq_true rfl, Nat.le_of_ble_eq_true rfl⟩ (Nat.le_of_ble_eq_true rfl) ⟨Nat.le_of_ble_eq_true rfl, Nat.le_of_ble_eq_true rfl⟩ dX1_takesStage_6 (fun v S1 H locs hq hH => ?_)
  obtain ⟨r_3, F_3, J_3, rfl, e9, hp⟩ := hq
  rw [e9] at hH
  have hH : Hp G (FA S s.heap.size) s.heap (wA S F_3 J_3 (gR S)) H locs := hH
  refine W.eq (g2 := F0 m 9 ls [.int r_3]) rfl ?_
  refine lv_if_ne (pc := 9) (tgt := 14) hx hb dX1_takesStage_9 (by decide) (fun cc_4 => ?_) (fun cc_4 => ?_)
  · have hp := hp.1 cc_4
    refine lv_aload_n (pc := 14) hx hb dX1_takesStage_14 rfl (lv_at hl 0 rfl) ?_
    refine sx_getR (pc := 15) (j := 0) B hH hk_th coX1 rfl w_257 rfl dX1_takesStage_15 ?_
    refine W.eq (g2 := F0 m 18 ls [va_rf (gR S th 0)]) rfl ?_
    refine sx_nonnull (x := a_1) ha_1 ?_
    refine lv_iconst (pc := 18) (v := 3) hx hb dX1_takesStage_18 (by decide) ?_
    refine sx_V (pc := 19) (As := [.int 3]) (rest := []) B hH hl.1 (C_X7_isAt G l a_1 3 _ _ hp) mi_X7_isAt coX7 hk_2 w_639 w_640 w_638 rfl rfl ⟨Nat.le_of_ble_eq_true rfl, Nat.le_of_ble_eq_true rfl⟩ (Nat.le_of_ble_eq_true rfl) ⟨Nat.le_of_ble_eq_true rfl, Nat.le_of_ble_eq_true rfl⟩ dX1_takesStage_19 (fun v S1 H locs hq hH => ?_)
    obtain ⟨r_5, rfl, e9, hp⟩ := hq
    rw [e9] at hH
    refine W.eq (g2 := F0 m 22 ls [.int r_5]) rfl ?_
    refine lv_if_ne (pc := 22) (tgt := 33) hx hb dX1_takesStage_22 (by decide) (fun cc_6 => ?_) (fun cc_6 => ?_)
    · have hp := hp.1 cc_6
      refine lv_aload_n (pc := 33) hx hb dX1_takesStage_33 rfl (lv_at hl 0 rfl) ?_
      refine sx_getR (pc := 34) (j := 0) B hH hk_th coX1 rfl w_257 rfl dX1_takesStage_34 ?_
      refine W.eq (g2 := F0 m 37 ls [va_rf (gR S th 0)]) rfl ?_
      refine sx_nonnull (x := a_1) ha_1 ?_
      refine sx_getI (pc := 37) (j := 7) B hH hk_2 coX7 rfl w_215 rfl dX1_takesStage_37 ?_
      refine W.eq (g2 := F0 m 40 ls [.int (F_3 a_1 7)]) rfl ?_
      refine lv_iconst (pc := 40) (v := 4) hx hb dX1_takesStage_40 (by decide) ?_
      obtain ⟨J_8, hj_8, hp⟩ := hp
      have kj_8 : ∀  (H : Heap) (locs : List Loc) (ls : Array Slot), J_8  → Hp G (FA S s.heap.size) s.heap (wA S F_3 J_3 (gR S)) H locs → lv_has ls 1 [(0, .ref th)] → Wm G p l e { frames := 4, cells := 0, slots := 0, locals := 83 } s m args below meth c S QQ 0 0 H locs 0 0 (F0 m 56 ls []) := by
        intro  H locs ls hq9 hH hl
        have hp := hj_8  hq9
        refine lv_aload_n (pc := 56) hx hb dX1_takesStage_56 rfl (lv_at hl 0 rfl) ?_
        refine sx_getR (pc := 57) (j := 0) B hH hk_th coX1 rfl w_257 rfl dX1_takesStage_57 ?_
        refine W.eq (g2 := F0 m 60 ls [va_rf (gR S th 0)]) rfl ?_
        refine sx_nonnull (x := a_1) ha_1 ?_
        refine lv_iconst (pc := 60) (v := 4) hx hb dX1_takesStage_60 (by decide) ?_
        refine sx_V (pc := 61) (As := [.int 4]) (rest := []) B hH hl.1 (C_X7_wrong G l a_1 4 _ _ hp) mi_X7_wrong coX7 hk_2 w_635 w_636 w_643 rfl rfl ⟨Nat.le_of_ble_eq_true rfl, Nat.le_of_ble_eq_true rfl⟩ (Nat.le_of_ble_eq_true rfl) ⟨Nat.le_of_ble_eq_true rfl, Nat.le_of_ble_eq_true rfl⟩ dX1_takesStage_61 (fun v S1 H locs hq hH => ?_)
        obtain ⟨r_9, F_9, rfl, e9, hp⟩ := hq
        rw [e9] at hH
        have hH : Hp G (FA S s.heap.size) s.heap (wA S F_9 J_3 (gR S)) H locs := hH
        refine W.eq (g2 := F0 m 64 ls [.int r_9]) rfl ?_
        obtain ⟨hz, hp⟩ := hp
        exact sx_zret (pc := 64) B hH hr hlk hz (by rw [← hQQ]; exact ⟨_, F_9, J_3, rfl, rfl, hp⟩) (Nat.le_of_ble_eq_true rfl) (Nat.le_of_ble_eq_true rfl) dX1_takesStage_64
      refine lv_icmp_lt (pc := 41) (tgt := 56) hx hb dX1_takesStage_41 (by decide) (fun cc_7 => ?_) (fun cc_7 => ?_)
      · have hp := hp.1 cc_7
        exact kj_8  _ _ _ hp hH (lv_sub hl [0] rfl)
      · have hp := hp.2 cc_7
        refine lv_aload_n (pc := 44) hx hb dX1_takesStage_44 rfl (lv_at hl 0 rfl) ?_
        refine sx_getR (pc := 45) (j := 0) B hH hk_th coX1 rfl w_257 rfl dX1_takesStage_45 ?_
        refine W.eq (g2 := F0 m 48 ls [va_rf (gR S th 0)]) rfl ?_
        refine sx_nonnull (x := a_1) ha_1 ?_
        refine sx_getI (pc := 48) (j := 7) B hH hk_2 coX7 rfl w_215 rfl dX1_takesStage_48 ?_
        refine W.eq (g2 := F0 m 51 ls [.int (F_3 a_1 7)]) rfl ?_
        refine lv_bipush (pc := 51) (v := 8) hx hb dX1_takesStage_51 (by decide) ?_
        refine lv_icmp_le (pc := 53) (tgt := 65) hx hb dX1_takesStage_53 (by decide) (fun cc_10 => ?_) (fun cc_10 => ?_)
        · have hp := hp.1 cc_10
          refine lv_aload_n (pc := 65) hx hb dX1_takesStage_65 rfl (lv_at hl 0 rfl) ?_
          refine lv_aload_n (pc := 66) hx hb dX1_takesStage_66 rfl (lv_at hl 0 rfl) ?_
          refine sx_getR (pc := 67) (j := 0) B hH hk_th coX1 rfl w_257 rfl dX1_takesStage_67 ?_
          refine W.eq (g2 := F0 m 70 ls [va_rf (gR S th 0), .ref th]) rfl ?_
          refine sx_nonnull (x := a_1) ha_1 ?_
          refine sx_getI (pc := 70) (j := 7) B hH hk_2 coX7 rfl w_215 rfl dX1_takesStage_70 ?_
          refine W.eq (g2 := F0 m 73 ls [.int (F_3 a_1 7), .ref th]) rfl ?_
          refine lv_topi (fun v_11 ev_11 => ?_)
          have hp := hp v_11 ev_11
          obtain ⟨F_12, eF_12⟩ : ∃ z : Nat → Nat → Int32, z = upI F_3 th 1 v_11 := ⟨_, rfl⟩
          have hp := hp F_12 eF_12
          refine sx_putI (pc := 73) (j := 1) B hH hk_th coX1 rfl w_258 rfl (Or.inl rfl) rfl dX1_takesStage_73 (fun H locs hH => ?_)
          have hH : Hp G (FA S s.heap.size) s.heap (wA S F_12 J_3 (gR S)) H locs := by rw [eF_12]; exact hH
          refine lv_aload_n (pc := 76) hx hb dX1_takesStage_76 rfl (lv_at hl 0 rfl) ?_
          refine sx_getR (pc := 77) (j := 0) B hH hk_th coX1 rfl w_257 rfl dX1_takesStage_77 ?_
          refine W.eq (g2 := F0 m 80 ls [va_rf (gR S th 0)]) rfl ?_
          refine sx_nonnull (x := a_1) ha_1 ?_
          refine sx_V (pc := 80) (As := []) (rest := []) B hH hl.1 (C_X7_next G l a_1 _ _ hp) mi_X7_next coX7 hk_2 w_603 w_604 w_644 rfl rfl ⟨Nat.le_of_ble_eq_true rfl, Nat.le_of_ble_eq_true rfl⟩ (Nat.le_of_ble_eq_true rfl) ⟨Nat.le_of_ble_eq_true rfl, Nat.le_of_ble_eq_true rfl⟩ dX1_takesStage_80 (fun v S1 H locs hq hH => ?_)
          obtain ⟨F_13, J_13, rfl, e9, hp⟩ := hq
          rw [e9] at hH
          have hH : Hp G (FA S s.heap.size) s.heap (wA S F_13 J_13 (gR S)) H locs := hH
          refine W.eq (g2 := F0 m 83 ls []) rfl ?_
          refine lv_aload_n (pc := 83) hx hb dX1_takesStage_83 rfl (lv_at hl 0 rfl) ?_
          refine sx_getR (pc := 84) (j := 0) B hH hk_th coX1 rfl w_257 rfl dX1_takesStage_84 ?_
          refine W.eq (g2 := F0 m 87 ls [va_rf (gR S th 0)]) rfl ?_
          refine sx_nonnull (x := a_1) ha_1 ?_
          refine lv_iconst (pc := 87) (v := 2) hx hb dX1_takesStage_87 (by decide) ?_
          refine sx_V (pc := 88) (As := [.int 2]) (rest := []) B hH hl.1 (C_X7_take G l a_1 2 _ _ hp) mi_X7_take coX7 hk_2 w_627 w_628 w_626 rfl rfl ⟨Nat.le_of_ble_eq_true rfl, Nat.le_of_ble_eq_true rfl⟩ (Nat.le_of_ble_eq_true rfl) ⟨Nat.le_of_ble_eq_true rfl, Nat.le_of_ble_eq_true rfl⟩ dX1_takesStage_88 (fun v S1 H locs hq hH => ?_)
          obtain ⟨r_14, F_14, J_14, rfl, e9, hp⟩ := hq
          rw [e9] at hH
          have hH : Hp G (FA S s.heap.size) s.heap (wA S F_14 J_14 (gR S)) H locs := hH
          refine W.eq (g2 := F0 m 91 ls [.int r_14]) rfl ?_
          obtain ⟨hz, hp⟩ := hp
          exact sx_zret (pc := 91) B hH hr hlk hz (by rw [← hQQ]; exact ⟨_, F_14, J_14, rfl, rfl, hp⟩) (Nat.le_of_ble_eq_true rfl) (Nat.le_of_ble_eq_true rfl) dX1_takesStage_91
        · have hp := hp.2 cc_10
          exact kj_8  _ _ _ hp hH (lv_sub hl [0] rfl)
    · have hp := hp.2 cc_6
      refine lv_aload_n (pc := 25) hx hb dX1_takesStage_25 rfl (lv_at hl 0 rfl) ?_
      refine sx_getR (pc := 26) (j := 0) B hH hk_th coX1 rfl w_257 rfl dX1_takesStage_26 ?_
      refine W.eq (g2 := F0 m 29 ls [va_rf (gR S th 0)]) rfl ?_
      refine sx_nonnull (x := a_1) ha_1 ?_
      refine sx_V (pc := 29) (As := []) (rest := []) B hH hl.1 (C_X7_misplaced G l a_1 _ _ hp) mi_X7_misplaced coX7 hk_2 w_631 w_632 w_642 rfl rfl ⟨Nat.le_of_ble_eq_true rfl, Nat.le_of_ble_eq_true rfl⟩ (Nat.le_of_ble_eq_true rfl) ⟨Nat.le_of_ble_eq_true rfl, Nat.le_of_ble_eq_true rfl⟩ dX1_takesStage_29 (fun v S1 H locs hq hH => ?_)
      obtain ⟨r_15, F_15, rfl, e9, hp⟩ := hq
      rw [e9] at hH
      have hH : Hp G (FA S s.heap.size) s.heap (wA S F_15 J_3 (gR S)) H locs := hH
      refine W.eq (g2 := F0 m 32 ls [.int r_15]) rfl ?_
      obtain ⟨hz, hp⟩ := hp
      exact sx_zret (pc := 32) B hH hr hlk hz (by rw [← hQQ]; exact ⟨_, F_15, J_3, rfl, rfl, hp⟩) (Nat.le_of_ble_eq_true rfl) (Nat.le_of_ble_eq_true rfl) dX1_takesStage_32
  · have hp := hp.2 cc_4
    refine lv_iconst (pc := 12) (v := 0) hx hb dX1_takesStage_12 (by decide) ?_
    exact sx_zret (pc := 13) B hH hr hlk (Or.inl rfl) (by rw [← hQQ]; exact ⟨_, F_3, J_3, rfl, rfl, hp⟩) (Nat.le_of_ble_eq_true rfl) (Nat.le_of_ble_eq_true rfl) dX1_takesStage_13
theorem dX1_takesNewName_0 : decode cX1_takesNewName 0 = .ok (.aload_n 0, 1) := by decide +kernel
theorem dX1_takesNewName_1 : decode cX1_takesNewName 1 = .ok (.getfield 49, 3) := by decide +kernel
theorem dX1_takesNewName_4 : decode cX1_takesNewName 4 = .ok (.iconst 4, 1) := by decide +kernel
theorem dX1_takesNewName_5 : decode cX1_takesNewName 5 = .ok (.invokevirtual 63, 3) := by decide +kernel
theorem dX1_takesNewName_8 : decode cX1_takesNewName 8 = .ok (.ifCond .ne 11, 3) := by decide +kernel
theorem dX1_takesNewName_11 : decode cX1_takesNewName 11 = .ok (.aload_n 0, 1) := by decide +kernel
theorem dX1_takesNewName_12 : decode cX1_takesNewName 12 = .ok (.getfield 49, 3) := by decide +kernel
theorem dX1_takesNewName_15 : decode cX1_takesNewName 15 = .ok (.invokevirtual 73, 3) := by decide +kernel
theorem dX1_takesNewName_18 : decode cX1_takesNewName 18 = .ok (.ireturn, 1) := by decide +kernel
theorem dX1_takesNewName_19 : decode cX1_takesNewName 19 = .ok (.aload_n 0, 1) := by decide +kernel
theorem dX1_takesNewName_20 : decode cX1_takesNewName 20 = .ok (.getfield 15, 3) := by decide +kernel
theorem dX1_takesNewName_23 : decode cX1_takesNewName 23 = .ok (.aload_n 0, 1) := by decide +kernel
theorem dX1_takesNewName_24 : decode cX1_takesNewName 24 = .ok (.getfield 18, 3) := by decide +kernel
theorem dX1_takesNewName_27 : decode cX1_takesNewName 27 = .ok (.iadd, 1) := by decide +kernel
theorem dX1_takesNewName_28 : decode cX1_takesNewName 28 = .ok (.istore_n 1, 1) := by decide +kernel
theorem dX1_takesNewName_29 : decode cX1_takesNewName 29 = .ok (.iconst 0, 1) := by decide +kernel
theorem dX1_takesNewName_30 : decode cX1_takesNewName 30 = .ok (.istore_n 2, 1) := by decide +kernel
theorem dX1_takesNewName_31 : decode cX1_takesNewName 31 = .ok (.iload_n 2, 1) := by decide +kernel
theorem dX1_takesNewName_32 : decode cX1_takesNewName 32 = .ok (.iload_n 1, 1) := by decide +kernel
theorem dX1_takesNewName_33 : decode cX1_takesNewName 33 = .ok (.if_icmp .ge 44, 3) := by decide +kernel
theorem dX1_takesNewName_36 : decode cX1_takesNewName 36 = .ok (.iload_n 2, 1) := by decide +kernel
theorem dX1_takesNewName_37 : decode cX1_takesNewName 37 = .ok (.aload_n 0, 1) := by decide +kernel
theorem dX1_takesNewName_38 : decode cX1_takesNewName 38 = .ok (.getfield 27, 3) := by decide +kernel
theorem dX1_takesNewName_41 : decode cX1_takesNewName 41 = .ok (.arraylength, 1) := by decide +kernel
theorem dX1_takesNewName_42 : decode cX1_takesNewName 42 = .ok (.if_icmp .ge 35, 3) := by decide +kernel
theorem dX1_takesNewName_45 : decode cX1_takesNewName 45 = .ok (.aload_n 0, 1) := by decide +kernel
theorem dX1_takesNewName_46 : decode cX1_takesNewName 46 = .ok (.getfield 27, 3) := by decide +kernel
theorem dX1_takesNewName_49 : decode cX1_takesNewName 49 = .ok (.iload_n 2, 1) := by decide +kernel
theorem dX1_takesNewName_50 : decode cX1_takesNewName 50 = .ok (.laload, 1) := by decide +kernel
theorem dX1_takesNewName_51 : decode cX1_takesNewName 51 = .ok (.aload_n 0, 1) := by decide +kernel
theorem dX1_takesNewName_52 : decode cX1_takesNewName 52 = .ok (.getfield 49, 3) := by decide +kernel
theorem dX1_takesNewName_55 : decode cX1_takesNewName 55 = .ok (.getfield 113, 3) := by decide +kernel
theorem dX1_takesNewName_58 : decode cX1_takesNewName 58 = .ok (.lcmp, 1) := by decide +kernel
theorem dX1_takesNewName_59 : decode cX1_takesNewName 59 = .ok (.ifCond .ne 12, 3) := by decide +kernel
theorem dX1_takesNewName_62 : decode cX1_takesNewName 62 = .ok (.aload_n 0, 1) := by decide +kernel
theorem dX1_takesNewName_63 : decode cX1_takesNewName 63 = .ok (.getfield 49, 3) := by decide +kernel
theorem dX1_takesNewName_66 : decode cX1_takesNewName 66 = .ok (.iconst 3, 1) := by decide +kernel
theorem dX1_takesNewName_67 : decode cX1_takesNewName 67 = .ok (.invokevirtual 104, 3) := by decide +kernel
theorem dX1_takesNewName_70 : decode cX1_takesNewName 70 = .ok (.ireturn, 1) := by decide +kernel
theorem dX1_takesNewName_71 : decode cX1_takesNewName 71 = .ok (.iinc 2 1, 3) := by decide +kernel
theorem dX1_takesNewName_74 : decode cX1_takesNewName 74 = .ok (.goto (-43), 3) := by decide +kernel
theorem dX1_takesNewName_77 : decode cX1_takesNewName 77 = .ok (.iload_n 1, 1) := by decide +kernel
theorem dX1_takesNewName_78 : decode cX1_takesNewName 78 = .ok (.aload_n 0, 1) := by decide +kernel
theorem dX1_takesNewName_79 : decode cX1_takesNewName 79 = .ok (.getfield 27, 3) := by decide +kernel
theorem dX1_takesNewName_82 : decode cX1_takesNewName 82 = .ok (.arraylength, 1) := by decide +kernel
theorem dX1_takesNewName_83 : decode cX1_takesNewName 83 = .ok (.if_icmp .ge 16, 3) := by decide +kernel
theorem dX1_takesNewName_86 : decode cX1_takesNewName 86 = .ok (.aload_n 0, 1) := by decide +kernel
theorem dX1_takesNewName_87 : decode cX1_takesNewName 87 = .ok (.getfield 27, 3) := by decide +kernel
theorem dX1_takesNewName_90 : decode cX1_takesNewName 90 = .ok (.iload_n 1, 1) := by decide +kernel
theorem dX1_takesNewName_91 : decode cX1_takesNewName 91 = .ok (.aload_n 0, 1) := by decide +kernel
theorem dX1_takesNewName_92 : decode cX1_takesNewName 92 = .ok (.getfield 49, 3) := by decide +kernel
theorem dX1_takesNewName_95 : decode cX1_takesNewName 95 = .ok (.getfield 113, 3) := by decide +kernel
theorem dX1_takesNewName_98 : decode cX1_takesNewName 98 = .ok (.lastore, 1) := by decide +kernel
theorem dX1_takesNewName_99 : decode cX1_takesNewName 99 = .ok (.aload_n 0, 1) := by decide +kernel
theorem dX1_takesNewName_100 : decode cX1_takesNewName 100 = .ok (.getfield 49, 3) := by decide +kernel
theorem dX1_takesNewName_103 : decode cX1_takesNewName 103 = .ok (.invokevirtual 107, 3) := by decide +kernel
theorem dX1_takesNewName_106 : decode cX1_takesNewName 106 = .ok (.iconst 1, 1) := by decide +kernel
theorem dX1_takesNewName_107 : decode cX1_takesNewName 107 = .ok (.ireturn, 1) := by decide +kernel
theorem mi_X1_takesNewName : MI yX1_takesNewName cX1_takesNewName 3 (some FieldType.boolean) 0 := ⟨w_652, w_111, by decide +kernel, by decide +kernel, by decide +kernel⟩
set_option maxRecDepth 100000 in
set_option maxHeartbeats 4000000 in
theorem C_X1_takesNewName (G : GG) (l : Launch) (th : Nat) (S : St) (Q : Int32 → (Nat → Nat → Int32) → (Nat → Nat → Int64) → Prop) (hp : P_X1_takesNewName th S Q) : Ctr G l yX1_takesNewName cX1_takesNewName 3 (some FieldType.boolean) 3 62 0 0 [.ref th] S (fun (v : Option Value) (S9 : St) => ∃ (r : Int32) (I9 : Nat → Nat → Int32) (J9 : Nat → Nat → Int64), v = some (.int r) ∧ S9 = wA S I9 J9 (gR S) ∧ Q r I9 J9) := by
  generalize hQQ : (fun (v : Option Value) (S9 : St) => ∃ (r : Int32) (I9 : Nat → Nat → Int32) (J9 : Nat → Nat → Int64), v = some (.int r) ∧ S9 = wA S I9 J9 (gR S) ∧ Q r I9 J9) = QQ
  unfold P_X1_takesNewName at hp
  refine Ctr.of (by decide) (Nat.le_of_ble_eq_true rfl) ?_
  intro p e s m args below meth c ls B hr hlk hin hl hH
  generalize hlocs0 : ([] : List Loc) = locs at hH ⊢
  have hx := B.1
  have hb := B.2.1
  have hl : lv_has ls 3 [(0, .ref th)] := hl
  obtain ⟨hk_th, hp⟩ := hp
  refine lv_aload_n (pc := 0) hx hb dX1_takesNewName_0 rfl (lv_at hl 0 rfl) ?_
  refine sx_getR (pc := 1) (j := 0) B hH hk_th coX1 rfl w_257 rfl dX1_takesNewName_1 ?_
  refine W.eq (g2 := F0 m 4 ls [va_rf (gR S th 0)]) rfl ?_
  obtain ⟨a_1, ha_1, hp⟩ := hp
  refine sx_nonnull (x := a_1) ha_1 ?_
  refine lv_iconst (pc := 4) (v := 4) hx hb dX1_takesNewName_4 (by decide) ?_
  obtain ⟨hk_2, hp⟩ := hp
  refine sx_V (pc := 5) (As := [.int 4]) (rest := []) B hH hl.1 (C_X7_isAt G l a_1 4 _ _ hp) mi_X7_isAt coX7 hk_2 w_639 w_640 w_638 rfl rfl ⟨Nat.le_of_ble_eq_true rfl, Nat.le_of_ble_eq_true rfl⟩ (Nat.le_of_ble_eq_true rfl) ⟨Nat.le_of_ble_eq_true rfl, Nat.le_of_ble_eq_true rfl⟩ dX1_takesNewName_5 (fun v S1 H locs hq hH => ?_)
  obtain ⟨r_3, rfl, e9, hp⟩ := hq
  rw [e9] at hH
  refine W.eq (g2 := F0 m 8 ls [.int r_3]) rfl ?_
  refine lv_if_ne (pc := 8) (tgt := 19) hx hb dX1_takesNewName_8 (by decide) (fun cc_4 => ?_) (fun cc_4 => ?_)
  · have hp := hp.1 cc_4
    refine lv_aload_n (pc := 19) hx hb dX1_takesNewName_19 rfl (lv_at hl 0 rfl) ?_
    refine sx_getI (pc := 20) (j := 2) B hH hk_th coX1 rfl w_259 rfl dX1_takesNewName_20 ?_
    refine W.eq (g2 := F0 m 23 ls [.int (gI S th 2)]) rfl ?_
    refine lv_aload_n (pc := 23) hx hb dX1_takesNewName_23 rfl (lv_at hl 0 rfl) ?_
    refine sx_getI (pc := 24) (j := 3) B hH hk_th coX1 rfl w_260 rfl dX1_takesNewName_24 ?_
    refine W.eq (g2 := F0 m 27 ls [.int (gI S th 3), .int (gI S th 2)]) rfl ?_
    refine lv_iadd (pc := 27) hx hb dX1_takesNewName_27 ?_
    refine lv_topi (fun v_5 ev_5 => ?_)
    have hp := hp v_5 ev_5
    refine lv_istore_n (pc := 28) (lv' := [(1, .int v_5), (0, .ref th)]) hx hb dX1_takesNewName_28 rfl hl (by decide) rfl (fun ls hl => ?_)
    refine lv_iconst (pc := 29) (v := 0) hx hb dX1_takesNewName_29 (by decide) ?_
    refine lv_istore_n (pc := 30) (lv' := [(2, .int 0), (1, .int v_5), (0, .ref th)]) hx hb dX1_takesNewName_30 rfl hl (by decide) rfl (fun ls hl => ?_)
    obtain ⟨I_6, ⟨k0_6, h0_6⟩, hst_6⟩ := hp
    have kl_6 : ∀ (n_6 : Nat) (x2_7 : Int32) (H : Heap) (locs : List Loc) (ls : Array Slot), I_6 n_6 x2_7 → Hp G (FA S s.heap.size) s.heap S H locs → lv_has ls 3 [(0, .ref th), (1, .int v_5), (2, .int x2_7)] → Wm G p l e { frames := 3, cells := 0, slots := 0, locals := 62 } s m args below meth c S QQ 0 0 H locs 0 0 (F0 m 31 ls []) := by
      intro n_6
      induction n_6 using Nat.strongRecOn with
      | ind n_6 ih_6 =>
        intro x2_7 H locs ls hq9 hH hl
        have hp := hst_6 n_6 x2_7 hq9
        refine lv_iload_n (pc := 31) hx hb dX1_takesNewName_31 rfl (lv_at hl 2 rfl) ?_
        refine lv_iload_n (pc := 32) hx hb dX1_takesNewName_32 rfl (lv_at hl 1 rfl) ?_
        obtain ⟨J_9, hj_9, hp⟩ := hp
        have kj_9 : ∀  (H : Heap) (locs : List Loc) (ls : Array Slot), J_9  → Hp G (FA S s.heap.size) s.heap S H locs → lv_has ls 3 [(0, .ref th), (1, .int v_5)] → Wm G p l e { frames := 3, cells := 0, slots := 0, locals := 62 } s m args below meth c S QQ 0 0 H locs 0 0 (F0 m 77 ls []) := by
          intro  H locs ls hq9 hH hl
          have hp := hj_9  hq9
          refine lv_iload_n (pc := 77) hx hb dX1_takesNewName_77 rfl (lv_at hl 1 rfl) ?_
          refine lv_aload_n (pc := 78) hx hb dX1_takesNewName_78 rfl (lv_at hl 0 rfl) ?_
          refine sx_getR (pc := 79) (j := 6) B hH hk_th coX1 rfl w_263 rfl dX1_takesNewName_79 ?_
          refine W.eq (g2 := F0 m 82 ls [va_rf (gR S th 6), .int v_5]) rfl ?_
          obtain ⟨a_10, ha_10, hp⟩ := hp
          refine sx_nonnull (x := a_10) ha_10 ?_
          obtain ⟨hk_11, hp⟩ := hp
          refine sx_alen (pc := 82) B hH hk_11 (by decide) (by decide) dX1_takesNewName_82 ?_
          refine W.eq (g2 := F0 m 83 ls [.int (nI (ln S a_10)), .int v_5]) rfl ?_
          obtain ⟨J_13, hj_13, hp⟩ := hp
          have kj_13 : ∀ (J_14 : Nat → Nat → Int64) (H : Heap) (locs : List Loc) (ls : Array Slot), J_13 J_14 → Hp G (FA S s.heap.size) s.heap (wA S (gI S) J_14 (gR S)) H locs → lv_has ls 3 [(0, .ref th)] → Wm G p l e { frames := 3, cells := 0, slots := 0, locals := 62 } s m args below meth c S QQ 0 0 H locs 0 0 (F0 m 99 ls []) := by
            intro J_14 H locs ls hq9 hH hl
            have hp := hj_13 J_14 hq9
            refine lv_aload_n (pc := 99) hx hb dX1_takesNewName_99 rfl (lv_at hl 0 rfl) ?_
            refine sx_getR (pc := 100) (j := 0) B hH hk_th coX1 rfl w_257 rfl dX1_takesNewName_100 ?_
            refine W.eq (g2 := F0 m 103 ls [va_rf (gR S th 0)]) rfl ?_
            refine sx_nonnull (x := a_1) ha_1 ?_
            refine sx_V (pc := 103) (As := []) (rest := []) B hH hl.1 (C_X7_next G l a_1 _ _ hp) mi_X7_next coX7 hk_2 w_603 w_604 w_644 rfl rfl ⟨Nat.le_of_ble_eq_true rfl, Nat.le_of_ble_eq_true rfl⟩ (Nat.le_of_ble_eq_true rfl) ⟨Nat.le_of_ble_eq_true rfl, Nat.le_of_ble_eq_true rfl⟩ dX1_takesNewName_103 (fun v S1 H locs hq hH => ?_)
            obtain ⟨F_15, J_15, rfl, e9, hp⟩ := hq
            rw [e9] at hH
            have hH : Hp G (FA S s.heap.size) s.heap (wA S F_15 J_15 (gR S)) H locs := hH
            refine W.eq (g2 := F0 m 106 ls []) rfl ?_
            refine lv_iconst (pc := 106) (v := 1) hx hb dX1_takesNewName_106 (by decide) ?_
            exact sx_zret (pc := 107) B hH hr hlk (Or.inr rfl) (by rw [← hQQ]; exact ⟨_, F_15, J_15, rfl, rfl, hp⟩) (Nat.le_of_ble_eq_true rfl) (Nat.le_of_ble_eq_true rfl) dX1_takesNewName_107
          refine lv_icmp_ge (pc := 83) (tgt := 99) hx hb dX1_takesNewName_83 (by decide) (fun cc_12 => ?_) (fun cc_12 => ?_)
          · have hp := hp.1 cc_12
            exact kj_13 _ _ _ _ hp hH (lv_sub hl [0] rfl)
          · have hp := hp.2 cc_12
            refine lv_aload_n (pc := 86) hx hb dX1_takesNewName_86 rfl (lv_at hl 0 rfl) ?_
            refine sx_getR (pc := 87) (j := 6) B hH hk_th coX1 rfl w_263 rfl dX1_takesNewName_87 ?_
            refine W.eq (g2 := F0 m 90 ls [va_rf (gR S th 6)]) rfl ?_
            refine sx_nonnull (x := a_10) ha_10 ?_
            refine lv_iload_n (pc := 90) hx hb dX1_takesNewName_90 rfl (lv_at hl 1 rfl) ?_
            refine lv_aload_n (pc := 91) hx hb dX1_takesNewName_91 rfl (lv_at hl 0 rfl) ?_
            refine sx_getR (pc := 92) (j := 0) B hH hk_th coX1 rfl w_257 rfl dX1_takesNewName_92 ?_
            refine W.eq (g2 := F0 m 95 ls [va_rf (gR S th 0), .int v_5, .ref a_10]) rfl ?_
            refine sx_nonnull (x := a_1) ha_1 ?_
            refine sx_getJ (pc := 95) (j := 8) B hH hk_2 coX7 rfl w_218 rfl dX1_takesNewName_95 ?_
            refine W.eq (g2 := F0 m 98 ls [.long (gJ S a_1 8), .int v_5, .ref a_10]) rfl ?_
            obtain ⟨hn_16, hp⟩ := hp
            refine lv_topl (fun v_17 ev_17 => ?_)
            have hp := hp v_17 ev_17
            obtain ⟨J_18, eJ_18⟩ : ∃ z : Nat → Nat → Int64, z = upJ (gJ S) a_10 v_5.toNatClampNeg v_17 := ⟨_, rfl⟩
            have hp := hp J_18 eJ_18
            refine sx_last (pc := 98) B hH hk_11 hn_16 dX1_takesNewName_98 (fun H locs hH => ?_)
            have hH : Hp G (FA S s.heap.size) s.heap (wA S (gI S) J_18 (gR S)) H locs := by rw [eJ_18]; exact hH
            exact kj_13 _ _ _ _ hp hH (lv_sub hl [0] rfl)
        refine lv_icmp_ge (pc := 33) (tgt := 77) hx hb dX1_takesNewName_33 (by decide) (fun cc_8 => ?_) (fun cc_8 => ?_)
        · have hp := hp.1 cc_8
          exact kj_9  _ _ _ hp hH (lv_sub hl [0, 1] rfl)
        · have hp := hp.2 cc_8
          refine lv_iload_n (pc := 36) hx hb dX1_takesNewName_36 rfl (lv_at hl 2 rfl) ?_
          refine lv_aload_n (pc := 37) hx hb dX1_takesNewName_37 rfl (lv_at hl 0 rfl) ?_
          refine sx_getR (pc := 38) (j := 6) B hH hk_th coX1 rfl w_263 rfl dX1_takesNewName_38 ?_
          refine W.eq (g2 := F0 m 41 ls [va_rf (gR S th 6), .int x2_7]) rfl ?_
          obtain ⟨a_19, ha_19, hp⟩ := hp
          refine sx_nonnull (x := a_19) ha_19 ?_
          obtain ⟨hk_20, hp⟩ := hp
          refine sx_alen (pc := 41) B hH hk_20 (by decide) (by decide) dX1_takesNewName_41 ?_
          refine W.eq (g2 := F0 m 42 ls [.int (nI (ln S a_19)), .int x2_7]) rfl ?_
          refine lv_icmp_ge (pc := 42) (tgt := 77) hx hb dX1_takesNewName_42 (by decide) (fun cc_21 => ?_) (fun cc_21 => ?_)
          · have hp := hp.1 cc_21
            exact kj_9  _ _ _ hp hH (lv_sub hl [0, 1] rfl)
          · have hp := hp.2 cc_21
            refine lv_aload_n (pc := 45) hx hb dX1_takesNewName_45 rfl (lv_at hl 0 rfl) ?_
            refine sx_getR (pc := 46) (j := 6) B hH hk_th coX1 rfl w_263 rfl dX1_takesNewName_46 ?_
            refine W.eq (g2 := F0 m 49 ls [va_rf (gR S th 6)]) rfl ?_
            refine sx_nonnull (x := a_19) ha_19 ?_
            refine lv_iload_n (pc := 49) hx hb dX1_takesNewName_49 rfl (lv_at hl 2 rfl) ?_
            obtain ⟨hn_22, hp⟩ := hp
            refine sx_lald (pc := 50) B hH hk_20 hn_22 dX1_takesNewName_50 ?_
            refine W.eq (g2 := F0 m 51 ls [.long (gJ S a_19 x2_7.toNatClampNeg)]) rfl ?_
            refine lv_aload_n (pc := 51) hx hb dX1_takesNewName_51 rfl (lv_at hl 0 rfl) ?_
            refine sx_getR (pc := 52) (j := 0) B hH hk_th coX1 rfl w_257 rfl dX1_takesNewName_52 ?_
            refine W.eq (g2 := F0 m 55 ls [va_rf (gR S th 0), .long (gJ S a_19 x2_7.toNatClampNeg)]) rfl ?_
            refine sx_nonnull (x := a_1) ha_1 ?_
            refine sx_getJ (pc := 55) (j := 8) B hH hk_2 coX7 rfl w_218 rfl dX1_takesNewName_55 ?_
            refine W.eq (g2 := F0 m 58 ls [.long (gJ S a_1 8), .long (gJ S a_19 x2_7.toNatClampNeg)]) rfl ?_
            refine W.lcmp (pc := 58) hx hb dX1_takesNewName_58 ?_
            refine lv_if_ne (pc := 59) (tgt := 71) hx hb dX1_takesNewName_59 (by decide) (fun cc_23 => ?_) (fun cc_23 => ?_)
            · have hp := hp.1 cc_23
              obtain ⟨v_24, ev_24⟩ : ∃ y : Int32, y = x2_7 + 1 := ⟨_, rfl⟩
              have hp := hp v_24 ev_24
              refine lv_iinc (pc := 71) (v := v_24) (lv' := [(2, .int v_24), (0, .ref th), (1, .int v_5)]) hx hb dX1_takesNewName_71 hl (k := 2) rfl (by rw [ev_24]; rfl) (by decide) rfl (fun ls hl => ?_)
              refine lv_goto (pc := 74) (tgt := 31) hx hb dX1_takesNewName_74 (by decide) ?_
              obtain ⟨k9, hlt9, hp⟩ := hp
              exact ih_6 k9 hlt9 _ _ _ _ hp hH (lv_sub hl [1, 2, 0] rfl)
            · have hp := hp.2 cc_23
              refine lv_aload_n (pc := 62) hx hb dX1_takesNewName_62 rfl (lv_at hl 0 rfl) ?_
              refine sx_getR (pc := 63) (j := 0) B hH hk_th coX1 rfl w_257 rfl dX1_takesNewName_63 ?_
              refine W.eq (g2 := F0 m 66 ls [va_rf (gR S th 0)]) rfl ?_
              refine sx_nonnull (x := a_1) ha_1 ?_
              refine lv_iconst (pc := 66) (v := 3) hx hb dX1_takesNewName_66 (by decide) ?_
              refine sx_V (pc := 67) (As := [.int 3]) (rest := []) B hH hl.1 (C_X7_wrong G l a_1 3 _ _ hp) mi_X7_wrong coX7 hk_2 w_635 w_636 w_643 rfl rfl ⟨Nat.le_of_ble_eq_true rfl, Nat.le_of_ble_eq_true rfl⟩ (Nat.le_of_ble_eq_true rfl) ⟨Nat.le_of_ble_eq_true rfl, Nat.le_of_ble_eq_true rfl⟩ dX1_takesNewName_67 (fun v S1 H locs hq hH => ?_)
              obtain ⟨r_25, F_25, rfl, e9, hp⟩ := hq
              rw [e9] at hH
              have hH : Hp G (FA S s.heap.size) s.heap (wI S F_25) H locs := hH
              refine W.eq (g2 := F0 m 70 ls [.int r_25]) rfl ?_
              obtain ⟨hz, hp⟩ := hp
              exact sx_zret (pc := 70) B hH hr hlk hz (by rw [← hQQ]; exact ⟨_, F_25, (gJ S), rfl, rfl, hp⟩) (Nat.le_of_ble_eq_true rfl) (Nat.le_of_ble_eq_true rfl) dX1_takesNewName_70
    exact kl_6 k0_6 _ _ _ _ h0_6 hH (lv_sub hl [2, 1, 0] rfl)
  · have hp := hp.2 cc_4
    refine lv_aload_n (pc := 11) hx hb dX1_takesNewName_11 rfl (lv_at hl 0 rfl) ?_
    refine sx_getR (pc := 12) (j := 0) B hH hk_th coX1 rfl w_257 rfl dX1_takesNewName_12 ?_
    refine W.eq (g2 := F0 m 15 ls [va_rf (gR S th 0)]) rfl ?_
    refine sx_nonnull (x := a_1) ha_1 ?_
    refine sx_V (pc := 15) (As := []) (rest := []) B hH hl.1 (C_X7_misplaced G l a_1 _ _ hp) mi_X7_misplaced coX7 hk_2 w_631 w_632 w_642 rfl rfl ⟨Nat.le_of_ble_eq_true rfl, Nat.le_of_ble_eq_true rfl⟩ (Nat.le_of_ble_eq_true rfl) ⟨Nat.le_of_ble_eq_true rfl, Nat.le_of_ble_eq_true rfl⟩ dX1_takesNewName_15 (fun v S1 H locs hq hH => ?_)
    obtain ⟨r_26, F_26, rfl, e9, hp⟩ := hq
    rw [e9] at hH
    have hH : Hp G (FA S s.heap.size) s.heap (wI S F_26) H locs := hH
    refine W.eq (g2 := F0 m 18 ls [.int r_26]) rfl ?_
    obtain ⟨hz, hp⟩ := hp
    exact sx_zret (pc := 18) B hH hr hlk hz (by rw [← hQQ]; exact ⟨_, F_26, (gJ S), rfl, rfl, hp⟩) (Nat.le_of_ble_eq_true rfl) (Nat.le_of_ble_eq_true rfl) dX1_takesNewName_18
theorem dX1_seesPlaces_0 : decode cX1_seesPlaces 0 = .ok (.aload_n 0, 1) := by decide +kernel
theorem dX1_seesPlaces_1 : decode cX1_seesPlaces 1 = .ok (.getfield 49, 3) := by decide +kernel
theorem dX1_seesPlaces_4 : decode cX1_seesPlaces 4 = .ok (.bipush 8, 2) := by decide +kernel
theorem dX1_seesPlaces_6 : decode cX1_seesPlaces 6 = .ok (.invokevirtual 63, 3) := by decide +kernel
theorem dX1_seesPlaces_9 : decode cX1_seesPlaces 9 = .ok (.ifCond .eq 18, 3) := by decide +kernel
theorem dX1_seesPlaces_12 : decode cX1_seesPlaces 12 = .ok (.aload_n 0, 1) := by decide +kernel
theorem dX1_seesPlaces_13 : decode cX1_seesPlaces 13 = .ok (.iconst 0, 1) := by decide +kernel
theorem dX1_seesPlaces_14 : decode cX1_seesPlaces 14 = .ok (.aload_n 0, 1) := by decide +kernel
theorem dX1_seesPlaces_15 : decode cX1_seesPlaces 15 = .ok (.getfield 9, 3) := by decide +kernel
theorem dX1_seesPlaces_18 : decode cX1_seesPlaces 18 = .ok (.invokestatic 127, 3) := by decide +kernel
theorem dX1_seesPlaces_21 : decode cX1_seesPlaces 21 = .ok (.putfield 24, 3) := by decide +kernel
theorem dX1_seesPlaces_24 : decode cX1_seesPlaces 24 = .ok (.goto 57, 3) := by decide +kernel
theorem dX1_seesPlaces_27 : decode cX1_seesPlaces 27 = .ok (.aload_n 0, 1) := by decide +kernel
theorem dX1_seesPlaces_28 : decode cX1_seesPlaces 28 = .ok (.getfield 49, 3) := by decide +kernel
theorem dX1_seesPlaces_31 : decode cX1_seesPlaces 31 = .ok (.iconst 3, 1) := by decide +kernel
theorem dX1_seesPlaces_32 : decode cX1_seesPlaces 32 = .ok (.invokevirtual 63, 3) := by decide +kernel
theorem dX1_seesPlaces_35 : decode cX1_seesPlaces 35 = .ok (.ifCond .eq 38, 3) := by decide +kernel
theorem dX1_seesPlaces_38 : decode cX1_seesPlaces 38 = .ok (.aload_n 0, 1) := by decide +kernel
theorem dX1_seesPlaces_39 : decode cX1_seesPlaces 39 = .ok (.aload_n 0, 1) := by decide +kernel
theorem dX1_seesPlaces_40 : decode cX1_seesPlaces 40 = .ok (.getfield 49, 3) := by decide +kernel
theorem dX1_seesPlaces_43 : decode cX1_seesPlaces 43 = .ok (.invokevirtual 131, 3) := by decide +kernel
theorem dX1_seesPlaces_46 : decode cX1_seesPlaces 46 = .ok (.ifCond .eq 7, 3) := by decide +kernel
theorem dX1_seesPlaces_49 : decode cX1_seesPlaces 49 = .ok (.iconst (-1), 1) := by decide +kernel
theorem dX1_seesPlaces_50 : decode cX1_seesPlaces 50 = .ok (.goto 17, 3) := by decide +kernel
theorem dX1_seesPlaces_53 : decode cX1_seesPlaces 53 = .ok (.aload_n 0, 1) := by decide +kernel
theorem dX1_seesPlaces_54 : decode cX1_seesPlaces 54 = .ok (.getfield 49, 3) := by decide +kernel
theorem dX1_seesPlaces_57 : decode cX1_seesPlaces 57 = .ok (.getfield 101, 3) := by decide +kernel
theorem dX1_seesPlaces_60 : decode cX1_seesPlaces 60 = .ok (.aload_n 0, 1) := by decide +kernel
theorem dX1_seesPlaces_61 : decode cX1_seesPlaces 61 = .ok (.getfield 9, 3) := by decide +kernel
theorem dX1_seesPlaces_64 : decode cX1_seesPlaces 64 = .ok (.invokestatic 127, 3) := by decide +kernel
theorem dX1_seesPlaces_67 : decode cX1_seesPlaces 67 = .ok (.putfield 24, 3) := by decide +kernel
theorem dX1_seesPlaces_70 : decode cX1_seesPlaces 70 = .ok (.goto 11, 3) := by decide +kernel
theorem dX1_seesPlaces_73 : decode cX1_seesPlaces 73 = .ok (.aload_n 0, 1) := by decide +kernel
theorem dX1_seesPlaces_74 : decode cX1_seesPlaces 74 = .ok (.getfield 49, 3) := by decide +kernel
theorem dX1_seesPlaces_77 : decode cX1_seesPlaces 77 = .ok (.invokevirtual 73, 3) := by decide +kernel
theorem dX1_seesPlaces_80 : decode cX1_seesPlaces 80 = .ok (.ireturn, 1) := by decide +kernel
theorem dX1_seesPlaces_81 : decode cX1_seesPlaces 81 = .ok (.aload_n 0, 1) := by decide +kernel
theorem dX1_seesPlaces_82 : decode cX1_seesPlaces 82 = .ok (.getfield 24, 3) := by decide +kernel
theorem dX1_seesPlaces_85 : decode cX1_seesPlaces 85 = .ok (.iconst (-1), 1) := by decide +kernel
theorem dX1_seesPlaces_86 : decode cX1_seesPlaces 86 = .ok (.if_icmp .ne 14, 3) := by decide +kernel
theorem dX1_seesPlaces_89 : decode cX1_seesPlaces 89 = .ok (.aload_n 0, 1) := by decide +kernel
theorem dX1_seesPlaces_90 : decode cX1_seesPlaces 90 = .ok (.getfield 49, 3) := by decide +kernel
theorem dX1_seesPlaces_93 : decode cX1_seesPlaces 93 = .ok (.iconst 4, 1) := by decide +kernel
theorem dX1_seesPlaces_94 : decode cX1_seesPlaces 94 = .ok (.invokevirtual 104, 3) := by decide +kernel
theorem dX1_seesPlaces_97 : decode cX1_seesPlaces 97 = .ok (.ifCond .eq 7, 3) := by decide +kernel
theorem dX1_seesPlaces_100 : decode cX1_seesPlaces 100 = .ok (.iconst 1, 1) := by decide +kernel
theorem dX1_seesPlaces_101 : decode cX1_seesPlaces 101 = .ok (.goto 4, 3) := by decide +kernel
theorem dX1_seesPlaces_104 : decode cX1_seesPlaces 104 = .ok (.iconst 0, 1) := by decide +kernel
theorem dX1_seesPlaces_105 : decode cX1_seesPlaces 105 = .ok (.ireturn, 1) := by decide +kernel
theorem mi_X1_seesPlaces : MI yX1_seesPlaces cX1_seesPlaces 1 (some FieldType.boolean) 0 := ⟨w_660, w_111, by decide +kernel, by decide +kernel, by decide +kernel⟩
set_option maxRecDepth 100000 in
set_option maxHeartbeats 4000000 in
theorem C_X1_seesPlaces (G : GG) (l : Launch) (th : Nat) (S : St) (Q : Int32 → (Nat → Nat → Int32) → Prop) (hp : P_X1_seesPlaces th S Q) : Ctr G l yX1_seesPlaces cX1_seesPlaces 1 (some FieldType.boolean) 2 48 0 0 [.ref th] S (fun (v : Option Value) (S9 : St) => ∃ (r : Int32) (I9 : Nat → Nat → Int32), v = some (.int r) ∧ S9 = wI S I9 ∧ Q r I9) := by
  generalize hQQ : (fun (v : Option Value) (S9 : St) => ∃ (r : Int32) (I9 : Nat → Nat → Int32), v = some (.int r) ∧ S9 = wI S I9 ∧ Q r I9) = QQ
  unfold P_X1_seesPlaces at hp
  refine Ctr.of (by decide) (Nat.le_of_ble_eq_true rfl) ?_
  intro p e s m args below meth c ls B hr hlk hin hl hH
  generalize hlocs0 : ([] : List Loc) = locs at hH ⊢
  have hx := B.1
  have hb := B.2.1
  have hl : lv_has ls 1 [(0, .ref th)] := hl
  obtain ⟨hk_th, hp⟩ := hp
  refine lv_aload_n (pc := 0) hx hb dX1_seesPlaces_0 rfl (lv_at hl 0 rfl) ?_
  refine sx_getR (pc := 1) (j := 0) B hH hk_th coX1 rfl w_257 rfl dX1_seesPlaces_1 ?_
  refine W.eq (g2 := F0 m 4 ls [va_rf (gR S th 0)]) rfl ?_
  obtain ⟨a_1, ha_1, hp⟩ := hp
  refine sx_nonnull (x := a_1) ha_1 ?_
  refine lv_bipush (pc := 4) (v := 8) hx hb dX1_seesPlaces_4 (by decide) ?_
  obtain ⟨hk_2, hp⟩ := hp
  refine sx_V (pc := 6) (As := [.int 8]) (rest := []) B hH hl.1 (C_X7_isAt G l a_1 8 _ _ hp) mi_X7_isAt coX7 hk_2 w_639 w_640 w_638 rfl rfl ⟨Nat.le_of_ble_eq_true rfl, Nat.le_of_ble_eq_true rfl⟩ (Nat.le_of_ble_eq_true rfl) ⟨Nat.le_of_ble_eq_true rfl, Nat.le_of_ble_eq_true rfl⟩ dX1_seesPlaces_6 (fun v S1 H locs hq hH => ?_)
  obtain ⟨r_3, rfl, e9, hp⟩ := hq
  rw [e9] at hH
  refine W.eq (g2 := F0 m 9 ls [.int r_3]) rfl ?_
  obtain ⟨J_5, hj_5, hp⟩ := hp
  have kj_5 : ∀ (F_6 : Nat → Nat → Int32) (H : Heap) (locs : List Loc) (ls : Array Slot), J_5 F_6 → Hp G (FA S s.heap.size) s.heap (wI S F_6) H locs → lv_has ls 1 [(0, .ref th)] → Wm G p l e { frames := 2, cells := 0, slots := 0, locals := 48 } s m args below meth c S QQ 0 0 H locs 0 0 (F0 m 81 ls []) := by
    intro F_6 H locs ls hq9 hH hl
    have hp := hj_5 F_6 hq9
    refine lv_aload_n (pc := 81) hx hb dX1_seesPlaces_81 rfl (lv_at hl 0 rfl) ?_
    refine sx_getI (pc := 82) (j := 5) B hH hk_th coX1 rfl w_262 rfl dX1_seesPlaces_82 ?_
    refine W.eq (g2 := F0 m 85 ls [.int (F_6 th 5)]) rfl ?_
    refine lv_iconst (pc := 85) (v := (-1)) hx hb dX1_seesPlaces_85 (by decide) ?_
    refine lv_icmp_ne (pc := 86) (tgt := 100) hx hb dX1_seesPlaces_86 (by decide) (fun cc_7 => ?_) (fun cc_7 => ?_)
    · have hp := hp.1 cc_7
      refine lv_iconst (pc := 100) (v := 1) hx hb dX1_seesPlaces_100 (by decide) ?_
      refine lv_goto (pc := 101) (tgt := 105) hx hb dX1_seesPlaces_101 (by decide) ?_
      exact sx_zret (pc := 105) B hH hr hlk (Or.inr rfl) (by rw [← hQQ]; exact ⟨_, F_6, rfl, rfl, hp⟩) (Nat.le_of_ble_eq_true rfl) (Nat.le_of_ble_eq_true rfl) dX1_seesPlaces_105
    · have hp := hp.2 cc_7
      refine lv_aload_n (pc := 89) hx hb dX1_seesPlaces_89 rfl (lv_at hl 0 rfl) ?_
      refine sx_getR (pc := 90) (j := 0) B hH hk_th coX1 rfl w_257 rfl dX1_seesPlaces_90 ?_
      refine W.eq (g2 := F0 m 93 ls [va_rf (gR S th 0)]) rfl ?_
      refine sx_nonnull (x := a_1) ha_1 ?_
      refine lv_iconst (pc := 93) (v := 4) hx hb dX1_seesPlaces_93 (by decide) ?_
      refine sx_V (pc := 94) (As := [.int 4]) (rest := []) B hH hl.1 (C_X7_wrong G l a_1 4 _ _ hp) mi_X7_wrong coX7 hk_2 w_635 w_636 w_643 rfl rfl ⟨Nat.le_of_ble_eq_true rfl, Nat.le_of_ble_eq_true rfl⟩ (Nat.le_of_ble_eq_true rfl) ⟨Nat.le_of_ble_eq_true rfl, Nat.le_of_ble_eq_true rfl⟩ dX1_seesPlaces_94 (fun v S1 H locs hq hH => ?_)
      obtain ⟨r_8, F_8, rfl, e9, hp⟩ := hq
      rw [e9] at hH
      have hH : Hp G (FA S s.heap.size) s.heap (wI S F_8) H locs := hH
      refine W.eq (g2 := F0 m 97 ls [.int r_8]) rfl ?_
      refine lv_if_eq (pc := 97) (tgt := 104) hx hb dX1_seesPlaces_97 (by decide) (fun cc_9 => ?_) (fun cc_9 => ?_)
      · have hp := hp.1 cc_9
        refine lv_iconst (pc := 104) (v := 0) hx hb dX1_seesPlaces_104 (by decide) ?_
        exact sx_zret (pc := 105) B hH hr hlk (Or.inl rfl) (by rw [← hQQ]; exact ⟨_, F_8, rfl, rfl, hp⟩) (Nat.le_of_ble_eq_true rfl) (Nat.le_of_ble_eq_true rfl) dX1_seesPlaces_105
      · have hp := hp.2 cc_9
        refine lv_iconst (pc := 100) (v := 1) hx hb dX1_seesPlaces_100 (by decide) ?_
        refine lv_goto (pc := 101) (tgt := 105) hx hb dX1_seesPlaces_101 (by decide) ?_
        exact sx_zret (pc := 105) B hH hr hlk (Or.inr rfl) (by rw [← hQQ]; exact ⟨_, F_8, rfl, rfl, hp⟩) (Nat.le_of_ble_eq_true rfl) (Nat.le_of_ble_eq_true rfl) dX1_seesPlaces_105
  refine lv_if_eq (pc := 9) (tgt := 27) hx hb dX1_seesPlaces_9 (by decide) (fun cc_4 => ?_) (fun cc_4 => ?_)
  · have hp := hp.1 cc_4
    refine lv_aload_n (pc := 27) hx hb dX1_seesPlaces_27 rfl (lv_at hl 0 rfl) ?_
    refine sx_getR (pc := 28) (j := 0) B hH hk_th coX1 rfl w_257 rfl dX1_seesPlaces_28 ?_
    refine W.eq (g2 := F0 m 31 ls [va_rf (gR S th 0)]) rfl ?_
    refine sx_nonnull (x := a_1) ha_1 ?_
    refine lv_iconst (pc := 31) (v := 3) hx hb dX1_seesPlaces_31 (by decide) ?_
    refine sx_V (pc := 32) (As := [.int 3]) (rest := []) B hH hl.1 (C_X7_isAt G l a_1 3 _ _ hp) mi_X7_isAt coX7 hk_2 w_639 w_640 w_638 rfl rfl ⟨Nat.le_of_ble_eq_true rfl, Nat.le_of_ble_eq_true rfl⟩ (Nat.le_of_ble_eq_true rfl) ⟨Nat.le_of_ble_eq_true rfl, Nat.le_of_ble_eq_true rfl⟩ dX1_seesPlaces_32 (fun v S1 H locs hq hH => ?_)
    obtain ⟨r_10, rfl, e9, hp⟩ := hq
    rw [e9] at hH
    refine W.eq (g2 := F0 m 35 ls [.int r_10]) rfl ?_
    refine lv_if_eq (pc := 35) (tgt := 73) hx hb dX1_seesPlaces_35 (by decide) (fun cc_11 => ?_) (fun cc_11 => ?_)
    · have hp := hp.1 cc_11
      refine lv_aload_n (pc := 73) hx hb dX1_seesPlaces_73 rfl (lv_at hl 0 rfl) ?_
      refine sx_getR (pc := 74) (j := 0) B hH hk_th coX1 rfl w_257 rfl dX1_seesPlaces_74 ?_
      refine W.eq (g2 := F0 m 77 ls [va_rf (gR S th 0)]) rfl ?_
      refine sx_nonnull (x := a_1) ha_1 ?_
      refine sx_V (pc := 77) (As := []) (rest := []) B hH hl.1 (C_X7_misplaced G l a_1 _ _ hp) mi_X7_misplaced coX7 hk_2 w_631 w_632 w_642 rfl rfl ⟨Nat.le_of_ble_eq_true rfl, Nat.le_of_ble_eq_true rfl⟩ (Nat.le_of_ble_eq_true rfl) ⟨Nat.le_of_ble_eq_true rfl, Nat.le_of_ble_eq_true rfl⟩ dX1_seesPlaces_77 (fun v S1 H locs hq hH => ?_)
      obtain ⟨r_12, F_12, rfl, e9, hp⟩ := hq
      rw [e9] at hH
      have hH : Hp G (FA S s.heap.size) s.heap (wI S F_12) H locs := hH
      refine W.eq (g2 := F0 m 80 ls [.int r_12]) rfl ?_
      obtain ⟨hz, hp⟩ := hp
      exact sx_zret (pc := 80) B hH hr hlk hz (by rw [← hQQ]; exact ⟨_, F_12, rfl, rfl, hp⟩) (Nat.le_of_ble_eq_true rfl) (Nat.le_of_ble_eq_true rfl) dX1_seesPlaces_80
    · have hp := hp.2 cc_11
      refine lv_aload_n (pc := 38) hx hb dX1_seesPlaces_38 rfl (lv_at hl 0 rfl) ?_
      refine lv_aload_n (pc := 39) hx hb dX1_seesPlaces_39 rfl (lv_at hl 0 rfl) ?_
      refine sx_getR (pc := 40) (j := 0) B hH hk_th coX1 rfl w_257 rfl dX1_seesPlaces_40 ?_
      refine W.eq (g2 := F0 m 43 ls [va_rf (gR S th 0), .ref th]) rfl ?_
      refine sx_nonnull (x := a_1) ha_1 ?_
      refine sx_V (pc := 43) (As := []) (rest := [.ref th]) B hH hl.1 (C_X7_beginsWithZero G l a_1 _ _ hp) mi_X7_beginsWithZero coX7 hk_2 w_668 w_669 w_667 rfl rfl ⟨Nat.le_of_ble_eq_true rfl, Nat.le_of_ble_eq_true rfl⟩ (Nat.le_of_ble_eq_true rfl) ⟨Nat.le_of_ble_eq_true rfl, Nat.le_of_ble_eq_true rfl⟩ dX1_seesPlaces_43 (fun v S1 H locs hq hH => ?_)
      obtain ⟨r_13, rfl, e9, hp⟩ := hq
      rw [e9] at hH
      refine W.eq (g2 := F0 m 46 ls [.int r_13, .ref th]) rfl ?_
      obtain ⟨J_15, hj_15, hp⟩ := hp
      have kj_15 : ∀ (t_16 : Int32) (H : Heap) (locs : List Loc) (ls : Array Slot), J_15 t_16 → Hp G (FA S s.heap.size) s.heap S H locs → lv_has ls 1 [(0, .ref th)] → Wm G p l e { frames := 2, cells := 0, slots := 0, locals := 48 } s m args below meth c S QQ 0 0 H locs 0 0 (F0 m 67 ls [.int t_16, .ref th]) := by
        intro t_16 H locs ls hq9 hH hl
        have hp := hj_15 t_16 hq9
        obtain ⟨F_17, eF_17⟩ : ∃ z : Nat → Nat → Int32, z = upI (gI S) th 5 t_16 := ⟨_, rfl⟩
        have hp := hp F_17 eF_17
        refine sx_putI (pc := 67) (j := 5) B hH hk_th coX1 rfl w_262 rfl (Or.inl rfl) rfl dX1_seesPlaces_67 (fun H locs hH => ?_)
        have hH : Hp G (FA S s.heap.size) s.heap (wI S F_17) H locs := by rw [eF_17]; exact hH
        refine lv_goto (pc := 70) (tgt := 81) hx hb dX1_seesPlaces_70 (by decide) ?_
        exact kj_5 _ _ _ _ hp hH (lv_sub hl [0] rfl)
      refine lv_if_eq (pc := 46) (tgt := 53) hx hb dX1_seesPlaces_46 (by decide) (fun cc_14 => ?_) (fun cc_14 => ?_)
      · have hp := hp.1 cc_14
        refine lv_aload_n (pc := 53) hx hb dX1_seesPlaces_53 rfl (lv_at hl 0 rfl) ?_
        refine sx_getR (pc := 54) (j := 0) B hH hk_th coX1 rfl w_257 rfl dX1_seesPlaces_54 ?_
        refine W.eq (g2 := F0 m 57 ls [va_rf (gR S th 0), .ref th]) rfl ?_
        refine sx_nonnull (x := a_1) ha_1 ?_
        refine sx_getI (pc := 57) (j := 7) B hH hk_2 coX7 rfl w_215 rfl dX1_seesPlaces_57 ?_
        refine W.eq (g2 := F0 m 60 ls [.int (gI S a_1 7), .ref th]) rfl ?_
        refine lv_aload_n (pc := 60) hx hb dX1_seesPlaces_60 rfl (lv_at hl 0 rfl) ?_
        refine sx_getI (pc := 61) (j := 1) B hH hk_th coX1 rfl w_258 rfl dX1_seesPlaces_61 ?_
        refine W.eq (g2 := F0 m 64 ls [.int (gI S th 1), .int (gI S a_1 7), .ref th]) rfl ?_
        refine sx_S (pc := 64) (As := [.int (gI S a_1 7), .int (gI S th 1)]) (rest := [.ref th]) B hH hl.1 (C_X4_moveOf G l (gI S a_1 7) (gI S th 1) _ _ hp) mi_X4_moveOf w_662 w_661 rfl rfl ⟨Nat.le_of_ble_eq_true rfl, Nat.le_of_ble_eq_true rfl⟩ (Nat.le_of_ble_eq_true rfl) ⟨Nat.le_of_ble_eq_true rfl, Nat.le_of_ble_eq_true rfl⟩ dX1_seesPlaces_64 (fun v S1 H locs hq hH => ?_)
        obtain ⟨r_18, rfl, e9, hp⟩ := hq
        rw [e9] at hH
        refine W.eq (g2 := F0 m 67 ls [.int r_18, .ref th]) rfl ?_
        exact kj_15 _ _ _ _ hp hH (lv_sub hl [0] rfl)
      · have hp := hp.2 cc_14
        refine lv_iconst (pc := 49) (v := (-1)) hx hb dX1_seesPlaces_49 (by decide) ?_
        refine lv_goto (pc := 50) (tgt := 67) hx hb dX1_seesPlaces_50 (by decide) ?_
        exact kj_15 _ _ _ _ hp hH (lv_sub hl [0] rfl)
  · have hp := hp.2 cc_4
    refine lv_aload_n (pc := 12) hx hb dX1_seesPlaces_12 rfl (lv_at hl 0 rfl) ?_
    refine lv_iconst (pc := 13) (v := 0) hx hb dX1_seesPlaces_13 (by decide) ?_
    refine lv_aload_n (pc := 14) hx hb dX1_seesPlaces_14 rfl (lv_at hl 0 rfl) ?_
    refine sx_getI (pc := 15) (j := 1) B hH hk_th coX1 rfl w_258 rfl dX1_seesPlaces_15 ?_
    refine W.eq (g2 := F0 m 18 ls [.int (gI S th 1), .int 0, .ref th]) rfl ?_
    refine sx_S (pc := 18) (As := [.int 0, .int (gI S th 1)]) (rest := [.ref th]) B hH hl.1 (C_X4_moveOf G l 0 (gI S th 1) _ _ hp) mi_X4_moveOf w_662 w_661 rfl rfl ⟨Nat.le_of_ble_eq_true rfl, Nat.le_of_ble_eq_true rfl⟩ (Nat.le_of_ble_eq_true rfl) ⟨Nat.le_of_ble_eq_true rfl, Nat.le_of_ble_eq_true rfl⟩ dX1_seesPlaces_18 (fun v S1 H locs hq hH => ?_)
    obtain ⟨r_19, rfl, e9, hp⟩ := hq
    rw [e9] at hH
    refine W.eq (g2 := F0 m 21 ls [.int r_19, .ref th]) rfl ?_
    obtain ⟨F_20, eF_20⟩ : ∃ z : Nat → Nat → Int32, z = upI (gI S) th 5 r_19 := ⟨_, rfl⟩
    have hp := hp F_20 eF_20
    refine sx_putI (pc := 21) (j := 5) B hH hk_th coX1 rfl w_262 rfl (Or.inl rfl) rfl dX1_seesPlaces_21 (fun H locs hH => ?_)
    have hH : Hp G (FA S s.heap.size) s.heap (wI S F_20) H locs := by rw [eF_20]; exact hH
    refine lv_goto (pc := 24) (tgt := 81) hx hb dX1_seesPlaces_24 (by decide) ?_
    exact kj_5 _ _ _ _ hp hH (lv_sub hl [0] rfl)
theorem dX1_takesChanges_0 : decode cX1_takesChanges 0 = .ok (.aload_n 0, 1) := by decide +kernel
theorem dX1_takesChanges_1 : decode cX1_takesChanges 1 = .ok (.getfield 36, 3) := by decide +kernel
theorem dX1_takesChanges_4 : decode cX1_takesChanges 4 = .ok (.aload_n 0, 1) := by decide +kernel
theorem dX1_takesChanges_5 : decode cX1_takesChanges 5 = .ok (.getfield 15, 3) := by decide +kernel
theorem dX1_takesChanges_8 : decode cX1_takesChanges 8 = .ok (.aaload, 1) := by decide +kernel
theorem dX1_takesChanges_9 : decode cX1_takesChanges 9 = .ok (.astore_n 1, 1) := by decide +kernel
theorem dX1_takesChanges_10 : decode cX1_takesChanges 10 = .ok (.aload_n 0, 1) := by decide +kernel
theorem dX1_takesChanges_11 : decode cX1_takesChanges 11 = .ok (.getfield 39, 3) := by decide +kernel
theorem dX1_takesChanges_14 : decode cX1_takesChanges 14 = .ok (.aload_n 0, 1) := by decide +kernel
theorem dX1_takesChanges_15 : decode cX1_takesChanges 15 = .ok (.getfield 15, 3) := by decide +kernel
theorem dX1_takesChanges_18 : decode cX1_takesChanges 18 = .ok (.iconst 0, 1) := by decide +kernel
theorem dX1_takesChanges_19 : decode cX1_takesChanges 19 = .ok (.iastore, 1) := by decide +kernel
theorem dX1_takesChanges_20 : decode cX1_takesChanges 20 = .ok (.iconst 0, 1) := by decide +kernel
theorem dX1_takesChanges_21 : decode cX1_takesChanges 21 = .ok (.istore_n 2, 1) := by decide +kernel
theorem dX1_takesChanges_22 : decode cX1_takesChanges 22 = .ok (.iload_n 2, 1) := by decide +kernel
theorem dX1_takesChanges_23 : decode cX1_takesChanges 23 = .ok (.bipush 32, 2) := by decide +kernel
theorem dX1_takesChanges_25 : decode cX1_takesChanges 25 = .ok (.if_icmp .gt 89, 3) := by decide +kernel
theorem dX1_takesChanges_28 : decode cX1_takesChanges 28 = .ok (.iload_n 2, 1) := by decide +kernel
theorem dX1_takesChanges_29 : decode cX1_takesChanges 29 = .ok (.ifCond .le 28, 3) := by decide +kernel
theorem dX1_takesChanges_32 : decode cX1_takesChanges 32 = .ok (.aload_n 0, 1) := by decide +kernel
theorem dX1_takesChanges_33 : decode cX1_takesChanges 33 = .ok (.getfield 49, 3) := by decide +kernel
theorem dX1_takesChanges_36 : decode cX1_takesChanges 36 = .ok (.bipush 8, 2) := by decide +kernel
theorem dX1_takesChanges_38 : decode cX1_takesChanges 38 = .ok (.invokevirtual 63, 3) := by decide +kernel
theorem dX1_takesChanges_41 : decode cX1_takesChanges 41 = .ok (.ifCond .ne 16, 3) := by decide +kernel
theorem dX1_takesChanges_44 : decode cX1_takesChanges 44 = .ok (.aload_n 0, 1) := by decide +kernel
theorem dX1_takesChanges_45 : decode cX1_takesChanges 45 = .ok (.getfield 49, 3) := by decide +kernel
theorem dX1_takesChanges_48 : decode cX1_takesChanges 48 = .ok (.iconst 3, 1) := by decide +kernel
theorem dX1_takesChanges_49 : decode cX1_takesChanges 49 = .ok (.invokevirtual 63, 3) := by decide +kernel
theorem dX1_takesChanges_52 : decode cX1_takesChanges 52 = .ok (.ifCond .ne 5, 3) := by decide +kernel
theorem dX1_takesChanges_55 : decode cX1_takesChanges 55 = .ok (.iconst 1, 1) := by decide +kernel
theorem dX1_takesChanges_56 : decode cX1_takesChanges 56 = .ok (.ireturn, 1) := by decide +kernel
theorem dX1_takesChanges_57 : decode cX1_takesChanges 57 = .ok (.aload_n 0, 1) := by decide +kernel
theorem dX1_takesChanges_58 : decode cX1_takesChanges 58 = .ok (.invokevirtual 134, 3) := by decide +kernel
theorem dX1_takesChanges_61 : decode cX1_takesChanges 61 = .ok (.ifCond .ne 5, 3) := by decide +kernel
theorem dX1_takesChanges_64 : decode cX1_takesChanges 64 = .ok (.iconst 0, 1) := by decide +kernel
theorem dX1_takesChanges_65 : decode cX1_takesChanges 65 = .ok (.ireturn, 1) := by decide +kernel
theorem dX1_takesChanges_66 : decode cX1_takesChanges 66 = .ok (.iload_n 2, 1) := by decide +kernel
theorem dX1_takesChanges_67 : decode cX1_takesChanges 67 = .ok (.bipush 32, 2) := by decide +kernel
theorem dX1_takesChanges_69 : decode cX1_takesChanges 69 = .ok (.if_icmp .lt 13, 3) := by decide +kernel
theorem dX1_takesChanges_72 : decode cX1_takesChanges 72 = .ok (.aload_n 0, 1) := by decide +kernel
theorem dX1_takesChanges_73 : decode cX1_takesChanges 73 = .ok (.getfield 49, 3) := by decide +kernel
theorem dX1_takesChanges_76 : decode cX1_takesChanges 76 = .ok (.bipush 6, 2) := by decide +kernel
theorem dX1_takesChanges_78 : decode cX1_takesChanges 78 = .ok (.invokevirtual 104, 3) := by decide +kernel
theorem dX1_takesChanges_81 : decode cX1_takesChanges 81 = .ok (.ireturn, 1) := by decide +kernel
theorem dX1_takesChanges_82 : decode cX1_takesChanges 82 = .ok (.aload_n 1, 1) := by decide +kernel
theorem dX1_takesChanges_83 : decode cX1_takesChanges 83 = .ok (.iload_n 2, 1) := by decide +kernel
theorem dX1_takesChanges_84 : decode cX1_takesChanges 84 = .ok (.aload_n 0, 1) := by decide +kernel
theorem dX1_takesChanges_85 : decode cX1_takesChanges 85 = .ok (.getfield 24, 3) := by decide +kernel
theorem dX1_takesChanges_88 : decode cX1_takesChanges 88 = .ok (.iastore, 1) := by decide +kernel
theorem dX1_takesChanges_89 : decode cX1_takesChanges 89 = .ok (.aload_n 0, 1) := by decide +kernel
theorem dX1_takesChanges_90 : decode cX1_takesChanges 90 = .ok (.getfield 39, 3) := by decide +kernel
theorem dX1_takesChanges_93 : decode cX1_takesChanges 93 = .ok (.aload_n 0, 1) := by decide +kernel
theorem dX1_takesChanges_94 : decode cX1_takesChanges 94 = .ok (.getfield 15, 3) := by decide +kernel
theorem dX1_takesChanges_97 : decode cX1_takesChanges 97 = .ok (.iload_n 2, 1) := by decide +kernel
theorem dX1_takesChanges_98 : decode cX1_takesChanges 98 = .ok (.iconst 1, 1) := by decide +kernel
theorem dX1_takesChanges_99 : decode cX1_takesChanges 99 = .ok (.iadd, 1) := by decide +kernel
theorem dX1_takesChanges_100 : decode cX1_takesChanges 100 = .ok (.iastore, 1) := by decide +kernel
theorem dX1_takesChanges_101 : decode cX1_takesChanges 101 = .ok (.aload_n 0, 1) := by decide +kernel
theorem dX1_takesChanges_102 : decode cX1_takesChanges 102 = .ok (.getfield 49, 3) := by decide +kernel
theorem dX1_takesChanges_105 : decode cX1_takesChanges 105 = .ok (.invokevirtual 107, 3) := by decide +kernel
theorem dX1_takesChanges_108 : decode cX1_takesChanges 108 = .ok (.iinc 2 1, 3) := by decide +kernel
theorem dX1_takesChanges_111 : decode cX1_takesChanges 111 = .ok (.goto (-89), 3) := by decide +kernel
theorem dX1_takesChanges_114 : decode cX1_takesChanges 114 = .ok (.iconst 1, 1) := by decide +kernel
theorem dX1_takesChanges_115 : decode cX1_takesChanges 115 = .ok (.ireturn, 1) := by decide +kernel
theorem mi_X1_takesChanges : MI yX1_takesChanges cX1_takesChanges 3 (some FieldType.boolean) 0 := ⟨w_656, w_111, by decide +kernel, by decide +kernel, by decide +kernel⟩
set_option maxRecDepth 100000 in
set_option maxHeartbeats 4000000 in
theorem C_X1_takesChanges (G : GG) (l : Launch) (th : Nat) (S : St) (Q : Int32 → (Nat → Nat → Int32) → (Nat → Nat → Int64) → Prop) (hp : P_X1_takesChanges th S Q) : Ctr G l yX1_takesChanges cX1_takesChanges 3 (some FieldType.boolean) 3 68 0 0 [.ref th] S (fun (v : Option Value) (S9 : St) => ∃ (r : Int32) (I9 : Nat → Nat → Int32) (J9 : Nat → Nat → Int64), v = some (.int r) ∧ S9 = wA S I9 J9 (gR S) ∧ Q r I9 J9) := by
  generalize hQQ : (fun (v : Option Value) (S9 : St) => ∃ (r : Int32) (I9 : Nat → Nat → Int32) (J9 : Nat → Nat → Int64), v = some (.int r) ∧ S9 = wA S I9 J9 (gR S) ∧ Q r I9 J9) = QQ
  unfold P_X1_takesChanges at hp
  refine Ctr.of (by decide) (Nat.le_of_ble_eq_true rfl) ?_
  intro p e s m args below meth c ls B hr hlk hin hl hH
  generalize hlocs0 : ([] : List Loc) = locs at hH ⊢
  have hx := B.1
  have hb := B.2.1
  have hl : lv_has ls 3 [(0, .ref th)] := hl
  obtain ⟨hk_th, hp⟩ := hp
  refine lv_aload_n (pc := 0) hx hb dX1_takesChanges_0 rfl (lv_at hl 0 rfl) ?_
  refine sx_getR (pc := 1) (j := 8) B hH hk_th coX1 rfl w_265 rfl dX1_takesChanges_1 ?_
  refine W.eq (g2 := F0 m 4 ls [va_rf (gR S th 8)]) rfl ?_
  obtain ⟨a_1, ha_1, hp⟩ := hp
  refine sx_nonnull (x := a_1) ha_1 ?_
  refine lv_aload_n (pc := 4) hx hb dX1_takesChanges_4 rfl (lv_at hl 0 rfl) ?_
  refine sx_getI (pc := 5) (j := 2) B hH hk_th coX1 rfl w_259 rfl dX1_takesChanges_5 ?_
  refine W.eq (g2 := F0 m 8 ls [.int (gI S th 2), .ref a_1]) rfl ?_
  obtain ⟨hk_2, hp⟩ := hp
  obtain ⟨hn_3, hp⟩ := hp
  refine sx_aald (pc := 8) B hH hk_2 (by decide) (by decide) hn_3 dX1_takesChanges_8 ?_
  refine W.eq (g2 := F0 m 9 ls [va_rf (gR S a_1 ((gI S th 2).toNatClampNeg))]) rfl ?_
  refine sx_astore_n (pc := 9) (r := gR S a_1 ((gI S th 2).toNatClampNeg)) (lv' := [(1, va_rf (gR S a_1 ((gI S th 2).toNatClampNeg))), (0, .ref th)]) B dX1_takesChanges_9 rfl hl (by decide) rfl (fun ls hl => ?_)
  refine lv_aload_n (pc := 10) hx hb dX1_takesChanges_10 rfl (lv_at hl 1 rfl) ?_
  refine sx_getR (pc := 11) (j := 9) B hH hk_th coX1 rfl w_266 rfl dX1_takesChanges_11 ?_
  refine W.eq (g2 := F0 m 14 ls [va_rf (gR S th 9)]) rfl ?_
  obtain ⟨a_4, ha_4, hp⟩ := hp
  refine sx_nonnull (x := a_4) ha_4 ?_
  refine lv_aload_n (pc := 14) hx hb dX1_takesChanges_14 rfl (lv_at hl 1 rfl) ?_
  refine sx_getI (pc := 15) (j := 2) B hH hk_th coX1 rfl w_259 rfl dX1_takesChanges_15 ?_
  refine W.eq (g2 := F0 m 18 ls [.int (gI S th 2), .ref a_4]) rfl ?_
  refine lv_iconst (pc := 18) (v := 0) hx hb dX1_takesChanges_18 (by decide) ?_
  obtain ⟨hk_5, hp⟩ := hp
  obtain ⟨hn_6, hp⟩ := hp
  obtain ⟨F_7, eF_7⟩ : ∃ z : Nat → Nat → Int32, z = upI (gI S) a_4 ((gI S th 2).toNatClampNeg) 0 := ⟨_, rfl⟩
  have hp := hp F_7 eF_7
  refine sx_iast (pc := 19) B hH hk_5 hn_6 dX1_takesChanges_19 (fun H locs hH => ?_)
  have hH : Hp G (FA S s.heap.size) s.heap (wI S F_7) H locs := by rw [eF_7]; exact hH
  refine lv_iconst (pc := 20) (v := 0) hx hb dX1_takesChanges_20 (by decide) ?_
  refine lv_istore_n (pc := 21) (lv' := [(2, .int 0), (1, va_rf (gR S a_1 ((gI S th 2).toNatClampNeg))), (0, .ref th)]) hx hb dX1_takesChanges_21 rfl hl (by decide) (by cases (gR S a_1 ((gI S th 2).toNatClampNeg)) <;> rfl) (fun ls hl => ?_)
  obtain ⟨I_8, ⟨k0_8, h0_8⟩, hst_8⟩ := hp
  have kl_8 : ∀ (n_8 : Nat) (x2_9 : Int32) (F_10 : Nat → Nat → Int32) (J_11 : Nat → Nat → Int64) (H : Heap) (locs : List Loc) (ls : Array Slot), I_8 n_8 x2_9 F_10 J_11 → Hp G (FA S s.heap.size) s.heap (wA S F_10 J_11 (gR S)) H locs → lv_has ls 3 [(0, .ref th), (1, va_rf (gR S a_1 ((gI S th 2).toNatClampNeg))), (2, .int x2_9)] → Wm G p l e { frames := 3, cells := 0, slots := 0, locals := 68 } s m args below meth c S QQ 0 0 H locs 0 0 (F0 m 22 ls []) := by
    intro n_8
    induction n_8 using Nat.strongRecOn with
    | ind n_8 ih_8 =>
      intro x2_9 F_10 J_11 H locs ls hq9 hH hl
      have hp := hst_8 n_8 x2_9 F_10 J_11 hq9
      refine lv_iload_n (pc := 22) hx hb dX1_takesChanges_22 rfl (lv_at hl 2 rfl) ?_
      refine lv_bipush (pc := 23) (v := 32) hx hb dX1_takesChanges_23 (by decide) ?_
      refine lv_icmp_gt (pc := 25) (tgt := 114) hx hb dX1_takesChanges_25 (by decide) (fun cc_12 => ?_) (fun cc_12 => ?_)
      · have hp := hp.1 cc_12
        refine lv_iconst (pc := 114) (v := 1) hx hb dX1_takesChanges_114 (by decide) ?_
        exact sx_zret (pc := 115) B hH hr hlk (Or.inr rfl) (by rw [← hQQ]; exact ⟨_, F_10, J_11, rfl, rfl, hp⟩) (Nat.le_of_ble_eq_true rfl) (Nat.le_of_ble_eq_true rfl) dX1_takesChanges_115
      · have hp := hp.2 cc_12
        refine lv_iload_n (pc := 28) hx hb dX1_takesChanges_28 rfl (lv_at hl 2 rfl) ?_
        obtain ⟨J_14, hj_14, hp⟩ := hp
        have kj_14 : ∀  (H : Heap) (locs : List Loc) (ls : Array Slot), J_14  → Hp G (FA S s.heap.size) s.heap (wA S F_10 J_11 (gR S)) H locs → lv_has ls 3 [(0, .ref th), (1, va_rf (gR S a_1 ((gI S th 2).toNatClampNeg))), (2, .int x2_9)] → Wm G p l e { frames := 3, cells := 0, slots := 0, locals := 68 } s m args below meth c S QQ 0 0 H locs 0 0 (F0 m 57 ls []) := by
          intro  H locs ls hq9 hH hl
          have hp := hj_14  hq9
          refine lv_aload_n (pc := 57) hx hb dX1_takesChanges_57 rfl (lv_at hl 0 rfl) ?_
          refine sx_V (pc := 58) (As := []) (rest := []) B hH hl.1 (C_X1_seesPlaces G l th _ _ hp) mi_X1_seesPlaces coX1 hk_th w_659 w_12 w_657 rfl rfl ⟨Nat.le_of_ble_eq_true rfl, Nat.le_of_ble_eq_true rfl⟩ (Nat.le_of_ble_eq_true rfl) ⟨Nat.le_of_ble_eq_true rfl, Nat.le_of_ble_eq_true rfl⟩ dX1_takesChanges_58 (fun v S1 H locs hq hH => ?_)
          obtain ⟨r_15, F_15, rfl, e9, hp⟩ := hq
          rw [e9] at hH
          have hH : Hp G (FA S s.heap.size) s.heap (wA S F_15 J_11 (gR S)) H locs := hH
          refine W.eq (g2 := F0 m 61 ls [.int r_15]) rfl ?_
          refine lv_if_ne (pc := 61) (tgt := 66) hx hb dX1_takesChanges_61 (by decide) (fun cc_16 => ?_) (fun cc_16 => ?_)
          · have hp := hp.1 cc_16
            refine lv_iload_n (pc := 66) hx hb dX1_takesChanges_66 rfl (lv_at hl 2 rfl) ?_
            refine lv_bipush (pc := 67) (v := 32) hx hb dX1_takesChanges_67 (by decide) ?_
            refine lv_icmp_lt (pc := 69) (tgt := 82) hx hb dX1_takesChanges_69 (by decide) (fun cc_17 => ?_) (fun cc_17 => ?_)
            · have hp := hp.1 cc_17
              refine sx_aload_n (pc := 82) (r := gR S a_1 ((gI S th 2).toNatClampNeg)) B dX1_takesChanges_82 rfl (lv_at hl 1 rfl) ?_
              obtain ⟨a_18, ha_18, hp⟩ := hp
              refine sx_nonnull (x := a_18) ha_18 ?_
              refine lv_iload_n (pc := 83) hx hb dX1_takesChanges_83 rfl (lv_at hl 2 rfl) ?_
              refine lv_aload_n (pc := 84) hx hb dX1_takesChanges_84 rfl (lv_at hl 0 rfl) ?_
              refine sx_getI (pc := 85) (j := 5) B hH hk_th coX1 rfl w_262 rfl dX1_takesChanges_85 ?_
              refine W.eq (g2 := F0 m 88 ls [.int (F_15 th 5), .int x2_9, .ref a_18]) rfl ?_
              obtain ⟨hk_19, hp⟩ := hp
              obtain ⟨hn_20, hp⟩ := hp
              refine lv_topi (fun v_21 ev_21 => ?_)
              have hp := hp v_21 ev_21
              obtain ⟨F_22, eF_22⟩ : ∃ z : Nat → Nat → Int32, z = upI F_15 a_18 x2_9.toNatClampNeg v_21 := ⟨_, rfl⟩
              have hp := hp F_22 eF_22
              refine sx_iast (pc := 88) B hH hk_19 hn_20 dX1_takesChanges_88 (fun H locs hH => ?_)
              have hH : Hp G (FA S s.heap.size) s.heap (wA S F_22 J_11 (gR S)) H locs := by rw [eF_22]; exact hH
              refine lv_aload_n (pc := 89) hx hb dX1_takesChanges_89 rfl (lv_at hl 0 rfl) ?_
              refine sx_getR (pc := 90) (j := 9) B hH hk_th coX1 rfl w_266 rfl dX1_takesChanges_90 ?_
              refine W.eq (g2 := F0 m 93 ls [va_rf (gR S th 9)]) rfl ?_
              refine sx_nonnull (x := a_4) ha_4 ?_
              refine lv_aload_n (pc := 93) hx hb dX1_takesChanges_93 rfl (lv_at hl 0 rfl) ?_
              refine sx_getI (pc := 94) (j := 2) B hH hk_th coX1 rfl w_259 rfl dX1_takesChanges_94 ?_
              refine W.eq (g2 := F0 m 97 ls [.int (F_22 th 2), .ref a_4]) rfl ?_
              refine lv_iload_n (pc := 97) hx hb dX1_takesChanges_97 rfl (lv_at hl 2 rfl) ?_
              refine lv_iconst (pc := 98) (v := 1) hx hb dX1_takesChanges_98 (by decide) ?_
              refine lv_iadd (pc := 99) hx hb dX1_takesChanges_99 ?_
              obtain ⟨hn_23, hp⟩ := hp
              refine lv_topi (fun v_24 ev_24 => ?_)
              have hp := hp v_24 ev_24
              obtain ⟨F_25, eF_25⟩ : ∃ z : Nat → Nat → Int32, z = upI F_22 a_4 ((F_22 th 2).toNatClampNeg) v_24 := ⟨_, rfl⟩
              have hp := hp F_25 eF_25
              refine sx_iast (pc := 100) B hH hk_5 hn_23 dX1_takesChanges_100 (fun H locs hH => ?_)
              have hH : Hp G (FA S s.heap.size) s.heap (wA S F_25 J_11 (gR S)) H locs := by rw [eF_25]; exact hH
              refine lv_aload_n (pc := 101) hx hb dX1_takesChanges_101 rfl (lv_at hl 0 rfl) ?_
              refine sx_getR (pc := 102) (j := 0) B hH hk_th coX1 rfl w_257 rfl dX1_takesChanges_102 ?_
              refine W.eq (g2 := F0 m 105 ls [va_rf (gR S th 0)]) rfl ?_
              obtain ⟨a_26, ha_26, hp⟩ := hp
              refine sx_nonnull (x := a_26) ha_26 ?_
              obtain ⟨hk_27, hp⟩ := hp
              refine sx_V (pc := 105) (As := []) (rest := []) B hH hl.1 (C_X7_next G l a_26 _ _ hp) mi_X7_next coX7 hk_27 w_603 w_604 w_644 rfl rfl ⟨Nat.le_of_ble_eq_true rfl, Nat.le_of_ble_eq_true rfl⟩ (Nat.le_of_ble_eq_true rfl) ⟨Nat.le_of_ble_eq_true rfl, Nat.le_of_ble_eq_true rfl⟩ dX1_takesChanges_105 (fun v S1 H locs hq hH => ?_)
              obtain ⟨F_28, J_28, rfl, e9, hp⟩ := hq
              rw [e9] at hH
              have hH : Hp G (FA S s.heap.size) s.heap (wA S F_28 J_28 (gR S)) H locs := hH
              refine W.eq (g2 := F0 m 108 ls []) rfl ?_
              obtain ⟨v_29, ev_29⟩ : ∃ y : Int32, y = x2_9 + 1 := ⟨_, rfl⟩
              have hp := hp v_29 ev_29
              refine lv_iinc (pc := 108) (v := v_29) (lv' := [(2, .int v_29), (0, .ref th), (1, va_rf (gR S a_1 ((gI S th 2).toNatClampNeg)))]) hx hb dX1_takesChanges_108 hl (k := 2) rfl (by rw [ev_29]; rfl) (by decide) (by cases (gR S a_1 ((gI S th 2).toNatClampNeg)) <;> rfl) (fun ls hl => ?_)
              refine lv_goto (pc := 111) (tgt := 22) hx hb dX1_takesChanges_111 (by decide) ?_
              obtain ⟨k9, hlt9, hp⟩ := hp
              exact ih_8 k9 hlt9 _ _ _ _ _ _ hp hH (lv_sub hl [1, 2, 0] rfl)
            · have hp := hp.2 cc_17
              refine lv_aload_n (pc := 72) hx hb dX1_takesChanges_72 rfl (lv_at hl 0 rfl) ?_
              refine sx_getR (pc := 73) (j := 0) B hH hk_th coX1 rfl w_257 rfl dX1_takesChanges_73 ?_
              refine W.eq (g2 := F0 m 76 ls [va_rf (gR S th 0)]) rfl ?_
              obtain ⟨a_30, ha_30, hp⟩ := hp
              refine sx_nonnull (x := a_30) ha_30 ?_
              refine lv_bipush (pc := 76) (v := 6) hx hb dX1_takesChanges_76 (by decide) ?_
              obtain ⟨hk_31, hp⟩ := hp
              refine sx_V (pc := 78) (As := [.int 6]) (rest := []) B hH hl.1 (C_X7_wrong G l a_30 6 _ _ hp) mi_X7_wrong coX7 hk_31 w_635 w_636 w_643 rfl rfl ⟨Nat.le_of_ble_eq_true rfl, Nat.le_of_ble_eq_true rfl⟩ (Nat.le_of_ble_eq_true rfl) ⟨Nat.le_of_ble_eq_true rfl, Nat.le_of_ble_eq_true rfl⟩ dX1_takesChanges_78 (fun v S1 H locs hq hH => ?_)
              obtain ⟨r_32, F_32, rfl, e9, hp⟩ := hq
              rw [e9] at hH
              have hH : Hp G (FA S s.heap.size) s.heap (wA S F_32 J_11 (gR S)) H locs := hH
              refine W.eq (g2 := F0 m 81 ls [.int r_32]) rfl ?_
              obtain ⟨hz, hp⟩ := hp
              exact sx_zret (pc := 81) B hH hr hlk hz (by rw [← hQQ]; exact ⟨_, F_32, J_11, rfl, rfl, hp⟩) (Nat.le_of_ble_eq_true rfl) (Nat.le_of_ble_eq_true rfl) dX1_takesChanges_81
          · have hp := hp.2 cc_16
            refine lv_iconst (pc := 64) (v := 0) hx hb dX1_takesChanges_64 (by decide) ?_
            exact sx_zret (pc := 65) B hH hr hlk (Or.inl rfl) (by rw [← hQQ]; exact ⟨_, F_15, J_11, rfl, rfl, hp⟩) (Nat.le_of_ble_eq_true rfl) (Nat.le_of_ble_eq_true rfl) dX1_takesChanges_65
        refine lv_if_le (pc := 29) (tgt := 57) hx hb dX1_takesChanges_29 (by decide) (fun cc_13 => ?_) (fun cc_13 => ?_)
        · have hp := hp.1 cc_13
          exact kj_14  _ _ _ hp hH (lv_sub hl [0, 1, 2] rfl)
        · have hp := hp.2 cc_13
          refine lv_aload_n (pc := 32) hx hb dX1_takesChanges_32 rfl (lv_at hl 0 rfl) ?_
          refine sx_getR (pc := 33) (j := 0) B hH hk_th coX1 rfl w_257 rfl dX1_takesChanges_33 ?_
          refine W.eq (g2 := F0 m 36 ls [va_rf (gR S th 0)]) rfl ?_
          obtain ⟨a_33, ha_33, hp⟩ := hp
          refine sx_nonnull (x := a_33) ha_33 ?_
          refine lv_bipush (pc := 36) (v := 8) hx hb dX1_takesChanges_36 (by decide) ?_
          obtain ⟨hk_34, hp⟩ := hp
          refine sx_V (pc := 38) (As := [.int 8]) (rest := []) B hH hl.1 (C_X7_isAt G l a_33 8 _ _ hp) mi_X7_isAt coX7 hk_34 w_639 w_640 w_638 rfl rfl ⟨Nat.le_of_ble_eq_true rfl, Nat.le_of_ble_eq_true rfl⟩ (Nat.le_of_ble_eq_true rfl) ⟨Nat.le_of_ble_eq_true rfl, Nat.le_of_ble_eq_true rfl⟩ dX1_takesChanges_38 (fun v S1 H locs hq hH => ?_)
          obtain ⟨r_35, rfl, e9, hp⟩ := hq
          rw [e9] at hH
          refine W.eq (g2 := F0 m 41 ls [.int r_35]) rfl ?_
          refine lv_if_ne (pc := 41) (tgt := 57) hx hb dX1_takesChanges_41 (by decide) (fun cc_36 => ?_) (fun cc_36 => ?_)
          · have hp := hp.1 cc_36
            exact kj_14  _ _ _ hp hH (lv_sub hl [0, 1, 2] rfl)
          · have hp := hp.2 cc_36
            refine lv_aload_n (pc := 44) hx hb dX1_takesChanges_44 rfl (lv_at hl 0 rfl) ?_
            refine sx_getR (pc := 45) (j := 0) B hH hk_th coX1 rfl w_257 rfl dX1_takesChanges_45 ?_
            refine W.eq (g2 := F0 m 48 ls [va_rf (gR S th 0)]) rfl ?_
            refine sx_nonnull (x := a_33) ha_33 ?_
            refine lv_iconst (pc := 48) (v := 3) hx hb dX1_takesChanges_48 (by decide) ?_
            refine sx_V (pc := 49) (As := [.int 3]) (rest := []) B hH hl.1 (C_X7_isAt G l a_33 3 _ _ hp) mi_X7_isAt coX7 hk_34 w_639 w_640 w_638 rfl rfl ⟨Nat.le_of_ble_eq_true rfl, Nat.le_of_ble_eq_true rfl⟩ (Nat.le_of_ble_eq_true rfl) ⟨Nat.le_of_ble_eq_true rfl, Nat.le_of_ble_eq_true rfl⟩ dX1_takesChanges_49 (fun v S1 H locs hq hH => ?_)
            obtain ⟨r_37, rfl, e9, hp⟩ := hq
            rw [e9] at hH
            refine W.eq (g2 := F0 m 52 ls [.int r_37]) rfl ?_
            refine lv_if_ne (pc := 52) (tgt := 57) hx hb dX1_takesChanges_52 (by decide) (fun cc_38 => ?_) (fun cc_38 => ?_)
            · have hp := hp.1 cc_38
              exact kj_14  _ _ _ hp hH (lv_sub hl [0, 1, 2] rfl)
            · have hp := hp.2 cc_38
              refine lv_iconst (pc := 55) (v := 1) hx hb dX1_takesChanges_55 (by decide) ?_
              exact sx_zret (pc := 56) B hH hr hlk (Or.inr rfl) (by rw [← hQQ]; exact ⟨_, F_10, J_11, rfl, rfl, hp⟩) (Nat.le_of_ble_eq_true rfl) (Nat.le_of_ble_eq_true rfl) dX1_takesChanges_56
  exact kl_8 k0_8 _ _ _ _ _ _ h0_8 hH (lv_sub hl [2, 1, 0] rfl)
theorem dX1_takesBack_0 : decode cX1_takesBack 0 = .ok (.aload_n 0, 1) := by decide +kernel
theorem dX1_takesBack_1 : decode cX1_takesBack 1 = .ok (.getfield 49, 3) := by decide +kernel
theorem dX1_takesBack_4 : decode cX1_takesBack 4 = .ok (.bipush 9, 2) := by decide +kernel
theorem dX1_takesBack_6 : decode cX1_takesBack 6 = .ok (.invokevirtual 63, 3) := by decide +kernel
theorem dX1_takesBack_9 : decode cX1_takesBack 9 = .ok (.ifCond .ne 5, 3) := by decide +kernel
theorem dX1_takesBack_12 : decode cX1_takesBack 12 = .ok (.iconst 1, 1) := by decide +kernel
theorem dX1_takesBack_13 : decode cX1_takesBack 13 = .ok (.ireturn, 1) := by decide +kernel
theorem dX1_takesBack_14 : decode cX1_takesBack 14 = .ok (.aload_n 0, 1) := by decide +kernel
theorem dX1_takesBack_15 : decode cX1_takesBack 15 = .ok (.getfield 39, 3) := by decide +kernel
theorem dX1_takesBack_18 : decode cX1_takesBack 18 = .ok (.aload_n 0, 1) := by decide +kernel
theorem dX1_takesBack_19 : decode cX1_takesBack 19 = .ok (.getfield 15, 3) := by decide +kernel
theorem dX1_takesBack_22 : decode cX1_takesBack 22 = .ok (.iaload, 1) := by decide +kernel
theorem dX1_takesBack_23 : decode cX1_takesBack 23 = .ok (.istore_n 1, 1) := by decide +kernel
theorem dX1_takesBack_24 : decode cX1_takesBack 24 = .ok (.iload_n 1, 1) := by decide +kernel
theorem dX1_takesBack_25 : decode cX1_takesBack 25 = .ok (.iconst 1, 1) := by decide +kernel
theorem dX1_takesBack_26 : decode cX1_takesBack 26 = .ok (.if_icmp .lt 11, 3) := by decide +kernel
theorem dX1_takesBack_29 : decode cX1_takesBack 29 = .ok (.iconst 2, 1) := by decide +kernel
theorem dX1_takesBack_30 : decode cX1_takesBack 30 = .ok (.iload_n 1, 1) := by decide +kernel
theorem dX1_takesBack_31 : decode cX1_takesBack 31 = .ok (.imul, 1) := by decide +kernel
theorem dX1_takesBack_32 : decode cX1_takesBack 32 = .ok (.bipush 32, 2) := by decide +kernel
theorem dX1_takesBack_34 : decode cX1_takesBack 34 = .ok (.if_icmp .le 13, 3) := by decide +kernel
theorem dX1_takesBack_37 : decode cX1_takesBack 37 = .ok (.aload_n 0, 1) := by decide +kernel
theorem dX1_takesBack_38 : decode cX1_takesBack 38 = .ok (.getfield 49, 3) := by decide +kernel
theorem dX1_takesBack_41 : decode cX1_takesBack 41 = .ok (.bipush 6, 2) := by decide +kernel
theorem dX1_takesBack_43 : decode cX1_takesBack 43 = .ok (.invokevirtual 104, 3) := by decide +kernel
theorem dX1_takesBack_46 : decode cX1_takesBack 46 = .ok (.ireturn, 1) := by decide +kernel
theorem dX1_takesBack_47 : decode cX1_takesBack 47 = .ok (.aload_n 0, 1) := by decide +kernel
theorem dX1_takesBack_48 : decode cX1_takesBack 48 = .ok (.getfield 49, 3) := by decide +kernel
theorem dX1_takesBack_51 : decode cX1_takesBack 51 = .ok (.invokevirtual 107, 3) := by decide +kernel
theorem dX1_takesBack_54 : decode cX1_takesBack 54 = .ok (.aload_n 0, 1) := by decide +kernel
theorem dX1_takesBack_55 : decode cX1_takesBack 55 = .ok (.invokevirtual 134, 3) := by decide +kernel
theorem dX1_takesBack_58 : decode cX1_takesBack 58 = .ok (.ifCond .ne 5, 3) := by decide +kernel
theorem dX1_takesBack_61 : decode cX1_takesBack 61 = .ok (.iconst 0, 1) := by decide +kernel
theorem dX1_takesBack_62 : decode cX1_takesBack 62 = .ok (.ireturn, 1) := by decide +kernel
theorem dX1_takesBack_63 : decode cX1_takesBack 63 = .ok (.aload_n 0, 1) := by decide +kernel
theorem dX1_takesBack_64 : decode cX1_takesBack 64 = .ok (.getfield 36, 3) := by decide +kernel
theorem dX1_takesBack_67 : decode cX1_takesBack 67 = .ok (.aload_n 0, 1) := by decide +kernel
theorem dX1_takesBack_68 : decode cX1_takesBack 68 = .ok (.getfield 15, 3) := by decide +kernel
theorem dX1_takesBack_71 : decode cX1_takesBack 71 = .ok (.aaload, 1) := by decide +kernel
theorem dX1_takesBack_72 : decode cX1_takesBack 72 = .ok (.astore_n 2, 1) := by decide +kernel
theorem dX1_takesBack_73 : decode cX1_takesBack 73 = .ok (.iconst 0, 1) := by decide +kernel
theorem dX1_takesBack_74 : decode cX1_takesBack 74 = .ok (.istore_n 3, 1) := by decide +kernel
theorem dX1_takesBack_75 : decode cX1_takesBack 75 = .ok (.iload_n 3, 1) := by decide +kernel
theorem dX1_takesBack_76 : decode cX1_takesBack 76 = .ok (.iload_n 1, 1) := by decide +kernel
theorem dX1_takesBack_77 : decode cX1_takesBack 77 = .ok (.iconst 1, 1) := by decide +kernel
theorem dX1_takesBack_78 : decode cX1_takesBack 78 = .ok (.isub, 1) := by decide +kernel
theorem dX1_takesBack_79 : decode cX1_takesBack 79 = .ok (.if_icmp .ge 21, 3) := by decide +kernel
theorem dX1_takesBack_82 : decode cX1_takesBack 82 = .ok (.aload_n 2, 1) := by decide +kernel
theorem dX1_takesBack_83 : decode cX1_takesBack 83 = .ok (.iload_n 1, 1) := by decide +kernel
theorem dX1_takesBack_84 : decode cX1_takesBack 84 = .ok (.iload_n 3, 1) := by decide +kernel
theorem dX1_takesBack_85 : decode cX1_takesBack 85 = .ok (.iadd, 1) := by decide +kernel
theorem dX1_takesBack_86 : decode cX1_takesBack 86 = .ok (.aload_n 2, 1) := by decide +kernel
theorem dX1_takesBack_87 : decode cX1_takesBack 87 = .ok (.iload_n 1, 1) := by decide +kernel
theorem dX1_takesBack_88 : decode cX1_takesBack 88 = .ok (.iconst 2, 1) := by decide +kernel
theorem dX1_takesBack_89 : decode cX1_takesBack 89 = .ok (.isub, 1) := by decide +kernel
theorem dX1_takesBack_90 : decode cX1_takesBack 90 = .ok (.iload_n 3, 1) := by decide +kernel
theorem dX1_takesBack_91 : decode cX1_takesBack 91 = .ok (.isub, 1) := by decide +kernel
theorem dX1_takesBack_92 : decode cX1_takesBack 92 = .ok (.iaload, 1) := by decide +kernel
theorem dX1_takesBack_93 : decode cX1_takesBack 93 = .ok (.iastore, 1) := by decide +kernel
theorem dX1_takesBack_94 : decode cX1_takesBack 94 = .ok (.iinc 3 1, 3) := by decide +kernel
theorem dX1_takesBack_97 : decode cX1_takesBack 97 = .ok (.goto (-22), 3) := by decide +kernel
theorem dX1_takesBack_100 : decode cX1_takesBack 100 = .ok (.aload_n 2, 1) := by decide +kernel
theorem dX1_takesBack_101 : decode cX1_takesBack 101 = .ok (.iconst 2, 1) := by decide +kernel
theorem dX1_takesBack_102 : decode cX1_takesBack 102 = .ok (.iload_n 1, 1) := by decide +kernel
theorem dX1_takesBack_103 : decode cX1_takesBack 103 = .ok (.imul, 1) := by decide +kernel
theorem dX1_takesBack_104 : decode cX1_takesBack 104 = .ok (.iconst 1, 1) := by decide +kernel
theorem dX1_takesBack_105 : decode cX1_takesBack 105 = .ok (.isub, 1) := by decide +kernel
theorem dX1_takesBack_106 : decode cX1_takesBack 106 = .ok (.aload_n 0, 1) := by decide +kernel
theorem dX1_takesBack_107 : decode cX1_takesBack 107 = .ok (.getfield 24, 3) := by decide +kernel
theorem dX1_takesBack_110 : decode cX1_takesBack 110 = .ok (.iastore, 1) := by decide +kernel
theorem dX1_takesBack_111 : decode cX1_takesBack 111 = .ok (.aload_n 0, 1) := by decide +kernel
theorem dX1_takesBack_112 : decode cX1_takesBack 112 = .ok (.getfield 39, 3) := by decide +kernel
theorem dX1_takesBack_115 : decode cX1_takesBack 115 = .ok (.aload_n 0, 1) := by decide +kernel
theorem dX1_takesBack_116 : decode cX1_takesBack 116 = .ok (.getfield 15, 3) := by decide +kernel
theorem dX1_takesBack_119 : decode cX1_takesBack 119 = .ok (.iconst 2, 1) := by decide +kernel
theorem dX1_takesBack_120 : decode cX1_takesBack 120 = .ok (.iload_n 1, 1) := by decide +kernel
theorem dX1_takesBack_121 : decode cX1_takesBack 121 = .ok (.imul, 1) := by decide +kernel
theorem dX1_takesBack_122 : decode cX1_takesBack 122 = .ok (.iastore, 1) := by decide +kernel
theorem dX1_takesBack_123 : decode cX1_takesBack 123 = .ok (.aload_n 0, 1) := by decide +kernel
theorem dX1_takesBack_124 : decode cX1_takesBack 124 = .ok (.getfield 49, 3) := by decide +kernel
theorem dX1_takesBack_127 : decode cX1_takesBack 127 = .ok (.invokevirtual 107, 3) := by decide +kernel
theorem dX1_takesBack_130 : decode cX1_takesBack 130 = .ok (.iconst 1, 1) := by decide +kernel
theorem dX1_takesBack_131 : decode cX1_takesBack 131 = .ok (.ireturn, 1) := by decide +kernel
theorem mi_X1_takesBack : MI yX1_takesBack cX1_takesBack 4 (some FieldType.boolean) 0 := ⟨w_674, w_111, by decide +kernel, by decide +kernel, by decide +kernel⟩
set_option maxRecDepth 100000 in
set_option maxHeartbeats 4000000 in
theorem C_X1_takesBack (G : GG) (l : Launch) (th : Nat) (S : St) (Q : Int32 → (Nat → Nat → Int32) → (Nat → Nat → Int64) → Prop) (hp : P_X1_takesBack th S Q) : Ctr G l yX1_takesBack cX1_takesBack 4 (some FieldType.boolean) 3 68 0 0 [.ref th] S (fun (v : Option Value) (S9 : St) => ∃ (r : Int32) (I9 : Nat → Nat → Int32) (J9 : Nat → Nat → Int64), v = some (.int r) ∧ S9 = wA S I9 J9 (gR S) ∧ Q r I9 J9) := by
  generalize hQQ : (fun (v : Option Value) (S9 : St) => ∃ (r : Int32) (I9 : Nat → Nat → Int32) (J9 : Nat → Nat → Int64), v = some (.int r) ∧ S9 = wA S I9 J9 (gR S) ∧ Q r I9 J9) = QQ
  unfold P_X1_takesBack at hp
  refine Ctr.of (by decide) (Nat.le_of_ble_eq_true rfl) ?_
  intro p e s m args below meth c ls B hr hlk hin hl hH
  generalize hlocs0 : ([] : List Loc) = locs at hH ⊢
  have hx := B.1
  have hb := B.2.1
  have hl : lv_has ls 4 [(0, .ref th)] := hl
  obtain ⟨hk_th, hp⟩ := hp
  refine lv_aload_n (pc := 0) hx hb dX1_takesBack_0 rfl (lv_at hl 0 rfl) ?_
  refine sx_getR (pc := 1) (j := 0) B hH hk_th coX1 rfl w_257 rfl dX1_takesBack_1 ?_
  refine W.eq (g2 := F0 m 4 ls [va_rf (gR S th 0)]) rfl ?_
  obtain ⟨a_1, ha_1, hp⟩ := hp
  refine sx_nonnull (x := a_1) ha_1 ?_
  refine lv_bipush (pc := 4) (v := 9) hx hb dX1_takesBack_4 (by decide) ?_
  obtain ⟨hk_2, hp⟩ := hp
  refine sx_V (pc := 6) (As := [.int 9]) (rest := []) B hH hl.1 (C_X7_isAt G l a_1 9 _ _ hp) mi_X7_isAt coX7 hk_2 w_639 w_640 w_638 rfl rfl ⟨Nat.le_of_ble_eq_true rfl, Nat.le_of_ble_eq_true rfl⟩ (Nat.le_of_ble_eq_true rfl) ⟨Nat.le_of_ble_eq_true rfl, Nat.le_of_ble_eq_true rfl⟩ dX1_takesBack_6 (fun v S1 H locs hq hH => ?_)
  obtain ⟨r_3, rfl, e9, hp⟩ := hq
  rw [e9] at hH
  refine W.eq (g2 := F0 m 9 ls [.int r_3]) rfl ?_
  refine lv_if_ne (pc := 9) (tgt := 14) hx hb dX1_takesBack_9 (by decide) (fun cc_4 => ?_) (fun cc_4 => ?_)
  · have hp := hp.1 cc_4
    refine lv_aload_n (pc := 14) hx hb dX1_takesBack_14 rfl (lv_at hl 0 rfl) ?_
    refine sx_getR (pc := 15) (j := 9) B hH hk_th coX1 rfl w_266 rfl dX1_takesBack_15 ?_
    refine W.eq (g2 := F0 m 18 ls [va_rf (gR S th 9)]) rfl ?_
    obtain ⟨a_5, ha_5, hp⟩ := hp
    refine sx_nonnull (x := a_5) ha_5 ?_
    refine lv_aload_n (pc := 18) hx hb dX1_takesBack_18 rfl (lv_at hl 0 rfl) ?_
    refine sx_getI (pc := 19) (j := 2) B hH hk_th coX1 rfl w_259 rfl dX1_takesBack_19 ?_
    refine W.eq (g2 := F0 m 22 ls [.int (gI S th 2), .ref a_5]) rfl ?_
    obtain ⟨hk_6, hp⟩ := hp
    obtain ⟨hn_7, hp⟩ := hp
    refine sx_iald (pc := 22) B hH hk_6 hn_7 dX1_takesBack_22 ?_
    refine W.eq (g2 := F0 m 23 ls [.int (gI S a_5 ((gI S th 2).toNatClampNeg))]) rfl ?_
    refine lv_topi (fun v_8 ev_8 => ?_)
    have hp := hp v_8 ev_8
    refine lv_istore_n (pc := 23) (lv' := [(1, .int v_8), (0, .ref th)]) hx hb dX1_takesBack_23 rfl hl (by decide) rfl (fun ls hl => ?_)
    refine lv_iload_n (pc := 24) hx hb dX1_takesBack_24 rfl (lv_at hl 0 rfl) ?_
    refine lv_iconst (pc := 25) (v := 1) hx hb dX1_takesBack_25 (by decide) ?_
    obtain ⟨J_10, hj_10, hp⟩ := hp
    have kj_10 : ∀  (H : Heap) (locs : List Loc) (ls : Array Slot), J_10  → Hp G (FA S s.heap.size) s.heap S H locs → lv_has ls 4 [(0, .ref th)] → Wm G p l e { frames := 3, cells := 0, slots := 0, locals := 68 } s m args below meth c S QQ 0 0 H locs 0 0 (F0 m 37 ls []) := by
      intro  H locs ls hq9 hH hl
      have hp := hj_10  hq9
      refine lv_aload_n (pc := 37) hx hb dX1_takesBack_37 rfl (lv_at hl 0 rfl) ?_
      refine sx_getR (pc := 38) (j := 0) B hH hk_th coX1 rfl w_257 rfl dX1_takesBack_38 ?_
      refine W.eq (g2 := F0 m 41 ls [va_rf (gR S th 0)]) rfl ?_
      refine sx_nonnull (x := a_1) ha_1 ?_
      refine lv_bipush (pc := 41) (v := 6) hx hb dX1_takesBack_41 (by decide) ?_
      refine sx_V (pc := 43) (As := [.int 6]) (rest := []) B hH hl.1 (C_X7_wrong G l a_1 6 _ _ hp) mi_X7_wrong coX7 hk_2 w_635 w_636 w_643 rfl rfl ⟨Nat.le_of_ble_eq_true rfl, Nat.le_of_ble_eq_true rfl⟩ (Nat.le_of_ble_eq_true rfl) ⟨Nat.le_of_ble_eq_true rfl, Nat.le_of_ble_eq_true rfl⟩ dX1_takesBack_43 (fun v S1 H locs hq hH => ?_)
      obtain ⟨r_11, F_11, rfl, e9, hp⟩ := hq
      rw [e9] at hH
      have hH : Hp G (FA S s.heap.size) s.heap (wI S F_11) H locs := hH
      refine W.eq (g2 := F0 m 46 ls [.int r_11]) rfl ?_
      obtain ⟨hz, hp⟩ := hp
      exact sx_zret (pc := 46) B hH hr hlk hz (by rw [← hQQ]; exact ⟨_, F_11, (gJ S), rfl, rfl, hp⟩) (Nat.le_of_ble_eq_true rfl) (Nat.le_of_ble_eq_true rfl) dX1_takesBack_46
    refine lv_icmp_lt (pc := 26) (tgt := 37) hx hb dX1_takesBack_26 (by decide) (fun cc_9 => ?_) (fun cc_9 => ?_)
    · have hp := hp.1 cc_9
      exact kj_10  _ _ _ hp hH (lv_sub hl [1] rfl)
    · have hp := hp.2 cc_9
      refine lv_iconst (pc := 29) (v := 2) hx hb dX1_takesBack_29 (by decide) ?_
      refine lv_iload_n (pc := 30) hx hb dX1_takesBack_30 rfl (lv_at hl 0 rfl) ?_
      refine lv_imul (pc := 31) hx hb dX1_takesBack_31 ?_
      refine lv_bipush (pc := 32) (v := 32) hx hb dX1_takesBack_32 (by decide) ?_
      refine lv_icmp_le (pc := 34) (tgt := 47) hx hb dX1_takesBack_34 (by decide) (fun cc_12 => ?_) (fun cc_12 => ?_)
      · have hp := hp.1 cc_12
        refine lv_aload_n (pc := 47) hx hb dX1_takesBack_47 rfl (lv_at hl 1 rfl) ?_
        refine sx_getR (pc := 48) (j := 0) B hH hk_th coX1 rfl w_257 rfl dX1_takesBack_48 ?_
        refine W.eq (g2 := F0 m 51 ls [va_rf (gR S th 0)]) rfl ?_
        refine sx_nonnull (x := a_1) ha_1 ?_
        refine sx_V (pc := 51) (As := []) (rest := []) B hH hl.1 (C_X7_next G l a_1 _ _ hp) mi_X7_next coX7 hk_2 w_603 w_604 w_644 rfl rfl ⟨Nat.le_of_ble_eq_true rfl, Nat.le_of_ble_eq_true rfl⟩ (Nat.le_of_ble_eq_true rfl) ⟨Nat.le_of_ble_eq_true rfl, Nat.le_of_ble_eq_true rfl⟩ dX1_takesBack_51 (fun v S1 H locs hq hH => ?_)
        obtain ⟨F_13, J_13, rfl, e9, hp⟩ := hq
        rw [e9] at hH
        have hH : Hp G (FA S s.heap.size) s.heap (wA S F_13 J_13 (gR S)) H locs := hH
        refine W.eq (g2 := F0 m 54 ls []) rfl ?_
        refine lv_aload_n (pc := 54) hx hb dX1_takesBack_54 rfl (lv_at hl 1 rfl) ?_
        refine sx_V (pc := 55) (As := []) (rest := []) B hH hl.1 (C_X1_seesPlaces G l th _ _ hp) mi_X1_seesPlaces coX1 hk_th w_659 w_12 w_657 rfl rfl ⟨Nat.le_of_ble_eq_true rfl, Nat.le_of_ble_eq_true rfl⟩ (Nat.le_of_ble_eq_true rfl) ⟨Nat.le_of_ble_eq_true rfl, Nat.le_of_ble_eq_true rfl⟩ dX1_takesBack_55 (fun v S1 H locs hq hH => ?_)
        obtain ⟨r_14, F_14, rfl, e9, hp⟩ := hq
        rw [e9] at hH
        have hH : Hp G (FA S s.heap.size) s.heap (wA S F_14 J_13 (gR S)) H locs := hH
        refine W.eq (g2 := F0 m 58 ls [.int r_14]) rfl ?_
        refine lv_if_ne (pc := 58) (tgt := 63) hx hb dX1_takesBack_58 (by decide) (fun cc_15 => ?_) (fun cc_15 => ?_)
        · have hp := hp.1 cc_15
          refine lv_aload_n (pc := 63) hx hb dX1_takesBack_63 rfl (lv_at hl 1 rfl) ?_
          refine sx_getR (pc := 64) (j := 8) B hH hk_th coX1 rfl w_265 rfl dX1_takesBack_64 ?_
          refine W.eq (g2 := F0 m 67 ls [va_rf (gR S th 8)]) rfl ?_
          obtain ⟨a_16, ha_16, hp⟩ := hp
          refine sx_nonnull (x := a_16) ha_16 ?_
          refine lv_aload_n (pc := 67) hx hb dX1_takesBack_67 rfl (lv_at hl 1 rfl) ?_
          refine sx_getI (pc := 68) (j := 2) B hH hk_th coX1 rfl w_259 rfl dX1_takesBack_68 ?_
          refine W.eq (g2 := F0 m 71 ls [.int (F_14 th 2), .ref a_16]) rfl ?_
          obtain ⟨hk_17, hp⟩ := hp
          obtain ⟨hn_18, hp⟩ := hp
          refine sx_aald (pc := 71) B hH hk_17 (by decide) (by decide) hn_18 dX1_takesBack_71 ?_
          refine W.eq (g2 := F0 m 72 ls [va_rf (gR S a_16 ((F_14 th 2).toNatClampNeg))]) rfl ?_
          refine sx_astore_n (pc := 72) (r := gR S a_16 ((F_14 th 2).toNatClampNeg)) (lv' := [(2, va_rf (gR S a_16 ((F_14 th 2).toNatClampNeg))), (1, .int v_8), (0, .ref th)]) B dX1_takesBack_72 rfl hl (by decide) rfl (fun ls hl => ?_)
          refine lv_iconst (pc := 73) (v := 0) hx hb dX1_takesBack_73 (by decide) ?_
          refine lv_istore_n (pc := 74) (lv' := [(3, .int 0), (2, va_rf (gR S a_16 ((F_14 th 2).toNatClampNeg))), (1, .int v_8), (0, .ref th)]) hx hb dX1_takesBack_74 rfl hl (by decide) (by cases (gR S a_16 ((F_14 th 2).toNatClampNeg)) <;> rfl) (fun ls hl => ?_)
          obtain ⟨I_19, ⟨k0_19, h0_19⟩, hst_19⟩ := hp
          have kl_19 : ∀ (n_19 : Nat) (x3_20 : Int32) (F_21 : Nat → Nat → Int32) (H : Heap) (locs : List Loc) (ls : Array Slot), I_19 n_19 x3_20 F_21 → Hp G (FA S s.heap.size) s.heap (wA S F_21 J_13 (gR S)) H locs → lv_has ls 4 [(0, .ref th), (1, .int v_8), (2, va_rf (gR S a_16 ((F_14 th 2).toNatClampNeg))), (3, .int x3_20)] → Wm G p l e { frames := 3, cells := 0, slots := 0, locals := 68 } s m args below meth c S QQ 0 0 H locs 0 0 (F0 m 75 ls []) := by
            intro n_19
            induction n_19 using Nat.strongRecOn with
            | ind n_19 ih_19 =>
              intro x3_20 F_21 H locs ls hq9 hH hl
              have hp := hst_19 n_19 x3_20 F_21 hq9
              refine lv_iload_n (pc := 75) hx hb dX1_takesBack_75 rfl (lv_at hl 3 rfl) ?_
              refine lv_iload_n (pc := 76) hx hb dX1_takesBack_76 rfl (lv_at hl 1 rfl) ?_
              refine lv_iconst (pc := 77) (v := 1) hx hb dX1_takesBack_77 (by decide) ?_
              refine lv_isub (pc := 78) hx hb dX1_takesBack_78 ?_
              refine lv_icmp_ge (pc := 79) (tgt := 100) hx hb dX1_takesBack_79 (by decide) (fun cc_22 => ?_) (fun cc_22 => ?_)
              · have hp := hp.1 cc_22
                refine sx_aload_n (pc := 100) (r := gR S a_16 ((F_14 th 2).toNatClampNeg)) B dX1_takesBack_100 rfl (lv_at hl 2 rfl) ?_
                obtain ⟨a_23, ha_23, hp⟩ := hp
                refine sx_nonnull (x := a_23) ha_23 ?_
                refine lv_iconst (pc := 101) (v := 2) hx hb dX1_takesBack_101 (by decide) ?_
                refine lv_iload_n (pc := 102) hx hb dX1_takesBack_102 rfl (lv_at hl 1 rfl) ?_
                refine lv_imul (pc := 103) hx hb dX1_takesBack_103 ?_
                refine lv_iconst (pc := 104) (v := 1) hx hb dX1_takesBack_104 (by decide) ?_
                refine lv_isub (pc := 105) hx hb dX1_takesBack_105 ?_
                refine lv_aload_n (pc := 106) hx hb dX1_takesBack_106 rfl (lv_at hl 0 rfl) ?_
                refine sx_getI (pc := 107) (j := 5) B hH hk_th coX1 rfl w_262 rfl dX1_takesBack_107 ?_
                refine W.eq (g2 := F0 m 110 ls [.int (F_21 th 5), .int ((2 * v_8) - 1), .ref a_23]) rfl ?_
                obtain ⟨hk_24, hp⟩ := hp
                obtain ⟨hn_25, hp⟩ := hp
                refine lv_topi (fun v_26 ev_26 => ?_)
                have hp := hp v_26 ev_26
                obtain ⟨F_27, eF_27⟩ : ∃ z : Nat → Nat → Int32, z = upI F_21 a_23 (((2 * v_8) - 1).toNatClampNeg) v_26 := ⟨_, rfl⟩
                have hp := hp F_27 eF_27
                refine sx_iast (pc := 110) B hH hk_24 hn_25 dX1_takesBack_110 (fun H locs hH => ?_)
                have hH : Hp G (FA S s.heap.size) s.heap (wA S F_27 J_13 (gR S)) H locs := by rw [eF_27]; exact hH
                refine lv_aload_n (pc := 111) hx hb dX1_takesBack_111 rfl (lv_at hl 0 rfl) ?_
                refine sx_getR (pc := 112) (j := 9) B hH hk_th coX1 rfl w_266 rfl dX1_takesBack_112 ?_
                refine W.eq (g2 := F0 m 115 ls [va_rf (gR S th 9)]) rfl ?_
                refine sx_nonnull (x := a_5) ha_5 ?_
                refine lv_aload_n (pc := 115) hx hb dX1_takesBack_115 rfl (lv_at hl 0 rfl) ?_
                refine sx_getI (pc := 116) (j := 2) B hH hk_th coX1 rfl w_259 rfl dX1_takesBack_116 ?_
                refine W.eq (g2 := F0 m 119 ls [.int (F_27 th 2), .ref a_5]) rfl ?_
                refine lv_iconst (pc := 119) (v := 2) hx hb dX1_takesBack_119 (by decide) ?_
                refine lv_iload_n (pc := 120) hx hb dX1_takesBack_120 rfl (lv_at hl 1 rfl) ?_
                refine lv_imul (pc := 121) hx hb dX1_takesBack_121 ?_
                obtain ⟨hn_28, hp⟩ := hp
                refine lv_topi (fun v_29 ev_29 => ?_)
                have hp := hp v_29 ev_29
                obtain ⟨F_30, eF_30⟩ : ∃ z : Nat → Nat → Int32, z = upI F_27 a_5 ((F_27 th 2).toNatClampNeg) v_29 := ⟨_, rfl⟩
                have hp := hp F_30 eF_30
                refine sx_iast (pc := 122) B hH hk_6 hn_28 dX1_takesBack_122 (fun H locs hH => ?_)
                have hH : Hp G (FA S s.heap.size) s.heap (wA S F_30 J_13 (gR S)) H locs := by rw [eF_30]; exact hH
                refine lv_aload_n (pc := 123) hx hb dX1_takesBack_123 rfl (lv_at hl 0 rfl) ?_
                refine sx_getR (pc := 124) (j := 0) B hH hk_th coX1 rfl w_257 rfl dX1_takesBack_124 ?_
                refine W.eq (g2 := F0 m 127 ls [va_rf (gR S th 0)]) rfl ?_
                refine sx_nonnull (x := a_1) ha_1 ?_
                refine sx_V (pc := 127) (As := []) (rest := []) B hH hl.1 (C_X7_next G l a_1 _ _ hp) mi_X7_next coX7 hk_2 w_603 w_604 w_644 rfl rfl ⟨Nat.le_of_ble_eq_true rfl, Nat.le_of_ble_eq_true rfl⟩ (Nat.le_of_ble_eq_true rfl) ⟨Nat.le_of_ble_eq_true rfl, Nat.le_of_ble_eq_true rfl⟩ dX1_takesBack_127 (fun v S1 H locs hq hH => ?_)
                obtain ⟨F_31, J_31, rfl, e9, hp⟩ := hq
                rw [e9] at hH
                have hH : Hp G (FA S s.heap.size) s.heap (wA S F_31 J_31 (gR S)) H locs := hH
                refine W.eq (g2 := F0 m 130 ls []) rfl ?_
                refine lv_iconst (pc := 130) (v := 1) hx hb dX1_takesBack_130 (by decide) ?_
                exact sx_zret (pc := 131) B hH hr hlk (Or.inr rfl) (by rw [← hQQ]; exact ⟨_, F_31, J_31, rfl, rfl, hp⟩) (Nat.le_of_ble_eq_true rfl) (Nat.le_of_ble_eq_true rfl) dX1_takesBack_131
              · have hp := hp.2 cc_22
                refine sx_aload_n (pc := 82) (r := gR S a_16 ((F_14 th 2).toNatClampNeg)) B dX1_takesBack_82 rfl (lv_at hl 2 rfl) ?_
                obtain ⟨a_32, ha_32, hp⟩ := hp
                refine sx_nonnull (x := a_32) ha_32 ?_
                refine lv_iload_n (pc := 83) hx hb dX1_takesBack_83 rfl (lv_at hl 1 rfl) ?_
                refine lv_iload_n (pc := 84) hx hb dX1_takesBack_84 rfl (lv_at hl 3 rfl) ?_
                refine lv_iadd (pc := 85) hx hb dX1_takesBack_85 ?_
                refine sx_aload_n (pc := 86) (r := gR S a_16 ((F_14 th 2).toNatClampNeg)) B dX1_takesBack_86 rfl (lv_at hl 2 rfl) ?_
                refine sx_nonnull (x := a_32) ha_32 ?_
                refine lv_iload_n (pc := 87) hx hb dX1_takesBack_87 rfl (lv_at hl 1 rfl) ?_
                refine lv_iconst (pc := 88) (v := 2) hx hb dX1_takesBack_88 (by decide) ?_
                refine lv_isub (pc := 89) hx hb dX1_takesBack_89 ?_
                refine lv_iload_n (pc := 90) hx hb dX1_takesBack_90 rfl (lv_at hl 3 rfl) ?_
                refine lv_isub (pc := 91) hx hb dX1_takesBack_91 ?_
                obtain ⟨hk_33, hp⟩ := hp
                obtain ⟨hn_34, hp⟩ := hp
                refine sx_iald (pc := 92) B hH hk_33 hn_34 dX1_takesBack_92 ?_
                refine W.eq (g2 := F0 m 93 ls [.int (F_21 a_32 (((v_8 - 2) - x3_20).toNatClampNeg)), .int (v_8 + x3_20), .ref a_32]) rfl ?_
                obtain ⟨hn_35, hp⟩ := hp
                refine lv_topi (fun v_36 ev_36 => ?_)
                have hp := hp v_36 ev_36
                obtain ⟨F_37, eF_37⟩ : ∃ z : Nat → Nat → Int32, z = upI F_21 a_32 ((v_8 + x3_20).toNatClampNeg) v_36 := ⟨_, rfl⟩
                have hp := hp F_37 eF_37
                refine sx_iast (pc := 93) B hH hk_33 hn_35 dX1_takesBack_93 (fun H locs hH => ?_)
                have hH : Hp G (FA S s.heap.size) s.heap (wA S F_37 J_13 (gR S)) H locs := by rw [eF_37]; exact hH
                obtain ⟨v_38, ev_38⟩ : ∃ y : Int32, y = x3_20 + 1 := ⟨_, rfl⟩
                have hp := hp v_38 ev_38
                refine lv_iinc (pc := 94) (v := v_38) (lv' := [(3, .int v_38), (0, .ref th), (1, .int v_8), (2, va_rf (gR S a_16 ((F_14 th 2).toNatClampNeg)))]) hx hb dX1_takesBack_94 hl (k := 3) rfl (by rw [ev_38]; rfl) (by decide) (by cases (gR S a_16 ((F_14 th 2).toNatClampNeg)) <;> rfl) (fun ls hl => ?_)
                refine lv_goto (pc := 97) (tgt := 75) hx hb dX1_takesBack_97 (by decide) ?_
                obtain ⟨k9, hlt9, hp⟩ := hp
                exact ih_19 k9 hlt9 _ _ _ _ _ hp hH (lv_sub hl [1, 2, 3, 0] rfl)
          exact kl_19 k0_19 _ _ _ _ _ h0_19 hH (lv_sub hl [3, 2, 1, 0] rfl)
        · have hp := hp.2 cc_15
          refine lv_iconst (pc := 61) (v := 0) hx hb dX1_takesBack_61 (by decide) ?_
          exact sx_zret (pc := 62) B hH hr hlk (Or.inl rfl) (by rw [← hQQ]; exact ⟨_, F_14, J_13, rfl, rfl, hp⟩) (Nat.le_of_ble_eq_true rfl) (Nat.le_of_ble_eq_true rfl) dX1_takesBack_62
      · have hp := hp.2 cc_12
        exact kj_10  _ _ _ hp hH (lv_sub hl [1] rfl)
  · have hp := hp.2 cc_4
    refine lv_iconst (pc := 12) (v := 1) hx hb dX1_takesBack_12 (by decide) ?_
    exact sx_zret (pc := 13) B hH hr hlk (Or.inr rfl) (by rw [← hQQ]; exact ⟨_, (gI S), (gJ S), rfl, rfl, hp⟩) (Nat.le_of_ble_eq_true rfl) (Nat.le_of_ble_eq_true rfl) dX1_takesBack_13
theorem dX1_takesCall_0 : decode cX1_takesCall 0 = .ok (.aload_n 0, 1) := by decide +kernel
theorem dX1_takesCall_1 : decode cX1_takesCall 1 = .ok (.getfield 49, 3) := by decide +kernel
theorem dX1_takesCall_4 : decode cX1_takesCall 4 = .ok (.iload_n 1, 1) := by decide +kernel
theorem dX1_takesCall_5 : decode cX1_takesCall 5 = .ok (.invokevirtual 63, 3) := by decide +kernel
theorem dX1_takesCall_8 : decode cX1_takesCall 8 = .ok (.ifCond .ne 10, 3) := by decide +kernel
theorem dX1_takesCall_11 : decode cX1_takesCall 11 = .ok (.aload_n 0, 1) := by decide +kernel
theorem dX1_takesCall_12 : decode cX1_takesCall 12 = .ok (.iload_n 2, 1) := by decide +kernel
theorem dX1_takesCall_13 : decode cX1_takesCall 13 = .ok (.putfield 24, 3) := by decide +kernel
theorem dX1_takesCall_16 : decode cX1_takesCall 16 = .ok (.iconst 1, 1) := by decide +kernel
theorem dX1_takesCall_17 : decode cX1_takesCall 17 = .ok (.ireturn, 1) := by decide +kernel
theorem dX1_takesCall_18 : decode cX1_takesCall 18 = .ok (.aload_n 0, 1) := by decide +kernel
theorem dX1_takesCall_19 : decode cX1_takesCall 19 = .ok (.getfield 49, 3) := by decide +kernel
theorem dX1_takesCall_22 : decode cX1_takesCall 22 = .ok (.invokevirtual 107, 3) := by decide +kernel
theorem dX1_takesCall_25 : decode cX1_takesCall 25 = .ok (.aload_n 0, 1) := by decide +kernel
theorem dX1_takesCall_26 : decode cX1_takesCall 26 = .ok (.invokevirtual 134, 3) := by decide +kernel
theorem dX1_takesCall_29 : decode cX1_takesCall 29 = .ok (.ifCond .ne 5, 3) := by decide +kernel
theorem dX1_takesCall_32 : decode cX1_takesCall 32 = .ok (.iconst 0, 1) := by decide +kernel
theorem dX1_takesCall_33 : decode cX1_takesCall 33 = .ok (.ireturn, 1) := by decide +kernel
theorem dX1_takesCall_34 : decode cX1_takesCall 34 = .ok (.aload_n 0, 1) := by decide +kernel
theorem dX1_takesCall_35 : decode cX1_takesCall 35 = .ok (.getfield 49, 3) := by decide +kernel
theorem dX1_takesCall_38 : decode cX1_takesCall 38 = .ok (.invokevirtual 107, 3) := by decide +kernel
theorem dX1_takesCall_41 : decode cX1_takesCall 41 = .ok (.iconst 1, 1) := by decide +kernel
theorem dX1_takesCall_42 : decode cX1_takesCall 42 = .ok (.ireturn, 1) := by decide +kernel
theorem mi_X1_takesCall : MI yX1_takesCall cX1_takesCall 3 (some FieldType.boolean) 2 := ⟨w_678, w_111, by decide +kernel, by decide +kernel, by decide +kernel⟩
set_option maxRecDepth 100000 in
set_option maxHeartbeats 4000000 in
theorem C_X1_takesCall (G : GG) (l : Launch) (th : Nat) (p0 : Int32) (p1 : Int32) (S : St) (Q : Int32 → (Nat → Nat → Int32) → (Nat → Nat → Int64) → Prop) (hp : P_X1_takesCall th p0 p1 S Q) : Ctr G l yX1_takesCall cX1_takesCall 3 (some FieldType.boolean) 3 68 0 0 [.ref th, .int p0, .int p1] S (fun (v : Option Value) (S9 : St) => ∃ (r : Int32) (I9 : Nat → Nat → Int32) (J9 : Nat → Nat → Int64), v = some (.int r) ∧ S9 = wA S I9 J9 (gR S) ∧ Q r I9 J9) := by
  generalize hQQ : (fun (v : Option Value) (S9 : St) => ∃ (r : Int32) (I9 : Nat → Nat → Int32) (J9 : Nat → Nat → Int64), v = some (.int r) ∧ S9 = wA S I9 J9 (gR S) ∧ Q r I9 J9) = QQ
  unfold P_X1_takesCall at hp
  refine Ctr.of (by decide) (Nat.le_of_ble_eq_true rfl) ?_
  intro p e s m args below meth c ls B hr hlk hin hl hH
  generalize hlocs0 : ([] : List Loc) = locs at hH ⊢
  have hx := B.1
  have hb := B.2.1
  have hl : lv_has ls 3 [(0, .ref th), (1, .int p0), (2, .int p1)] := hl
  obtain ⟨hk_th, hp⟩ := hp
  refine lv_aload_n (pc := 0) hx hb dX1_takesCall_0 rfl (lv_at hl 0 rfl) ?_
  refine sx_getR (pc := 1) (j := 0) B hH hk_th coX1 rfl w_257 rfl dX1_takesCall_1 ?_
  refine W.eq (g2 := F0 m 4 ls [va_rf (gR S th 0)]) rfl ?_
  obtain ⟨a_1, ha_1, hp⟩ := hp
  refine sx_nonnull (x := a_1) ha_1 ?_
  refine lv_iload_n (pc := 4) hx hb dX1_takesCall_4 rfl (lv_at hl 1 rfl) ?_
  obtain ⟨hk_2, hp⟩ := hp
  refine sx_V (pc := 5) (As := [.int p0]) (rest := []) B hH hl.1 (C_X7_isAt G l a_1 p0 _ _ hp) mi_X7_isAt coX7 hk_2 w_639 w_640 w_638 rfl rfl ⟨Nat.le_of_ble_eq_true rfl, Nat.le_of_ble_eq_true rfl⟩ (Nat.le_of_ble_eq_true rfl) ⟨Nat.le_of_ble_eq_true rfl, Nat.le_of_ble_eq_true rfl⟩ dX1_takesCall_5 (fun v S1 H locs hq hH => ?_)
  obtain ⟨r_3, rfl, e9, hp⟩ := hq
  rw [e9] at hH
  refine W.eq (g2 := F0 m 8 ls [.int r_3]) rfl ?_
  refine lv_if_ne (pc := 8) (tgt := 18) hx hb dX1_takesCall_8 (by decide) (fun cc_4 => ?_) (fun cc_4 => ?_)
  · have hp := hp.1 cc_4
    refine lv_aload_n (pc := 18) hx hb dX1_takesCall_18 rfl (lv_at hl 0 rfl) ?_
    refine sx_getR (pc := 19) (j := 0) B hH hk_th coX1 rfl w_257 rfl dX1_takesCall_19 ?_
    refine W.eq (g2 := F0 m 22 ls [va_rf (gR S th 0)]) rfl ?_
    refine sx_nonnull (x := a_1) ha_1 ?_
    refine sx_V (pc := 22) (As := []) (rest := []) B hH hl.1 (C_X7_next G l a_1 _ _ hp) mi_X7_next coX7 hk_2 w_603 w_604 w_644 rfl rfl ⟨Nat.le_of_ble_eq_true rfl, Nat.le_of_ble_eq_true rfl⟩ (Nat.le_of_ble_eq_true rfl) ⟨Nat.le_of_ble_eq_true rfl, Nat.le_of_ble_eq_true rfl⟩ dX1_takesCall_22 (fun v S1 H locs hq hH => ?_)
    obtain ⟨F_5, J_5, rfl, e9, hp⟩ := hq
    rw [e9] at hH
    have hH : Hp G (FA S s.heap.size) s.heap (wA S F_5 J_5 (gR S)) H locs := hH
    refine W.eq (g2 := F0 m 25 ls []) rfl ?_
    refine lv_aload_n (pc := 25) hx hb dX1_takesCall_25 rfl (lv_at hl 0 rfl) ?_
    refine sx_V (pc := 26) (As := []) (rest := []) B hH hl.1 (C_X1_seesPlaces G l th _ _ hp) mi_X1_seesPlaces coX1 hk_th w_659 w_12 w_657 rfl rfl ⟨Nat.le_of_ble_eq_true rfl, Nat.le_of_ble_eq_true rfl⟩ (Nat.le_of_ble_eq_true rfl) ⟨Nat.le_of_ble_eq_true rfl, Nat.le_of_ble_eq_true rfl⟩ dX1_takesCall_26 (fun v S1 H locs hq hH => ?_)
    obtain ⟨r_6, F_6, rfl, e9, hp⟩ := hq
    rw [e9] at hH
    have hH : Hp G (FA S s.heap.size) s.heap (wA S F_6 J_5 (gR S)) H locs := hH
    refine W.eq (g2 := F0 m 29 ls [.int r_6]) rfl ?_
    refine lv_if_ne (pc := 29) (tgt := 34) hx hb dX1_takesCall_29 (by decide) (fun cc_7 => ?_) (fun cc_7 => ?_)
    · have hp := hp.1 cc_7
      refine lv_aload_n (pc := 34) hx hb dX1_takesCall_34 rfl (lv_at hl 0 rfl) ?_
      refine sx_getR (pc := 35) (j := 0) B hH hk_th coX1 rfl w_257 rfl dX1_takesCall_35 ?_
      refine W.eq (g2 := F0 m 38 ls [va_rf (gR S th 0)]) rfl ?_
      refine sx_nonnull (x := a_1) ha_1 ?_
      refine sx_V (pc := 38) (As := []) (rest := []) B hH hl.1 (C_X7_next G l a_1 _ _ hp) mi_X7_next coX7 hk_2 w_603 w_604 w_644 rfl rfl ⟨Nat.le_of_ble_eq_true rfl, Nat.le_of_ble_eq_true rfl⟩ (Nat.le_of_ble_eq_true rfl) ⟨Nat.le_of_ble_eq_true rfl, Nat.le_of_ble_eq_true rfl⟩ dX1_takesCall_38 (fun v S1 H locs hq hH => ?_)
      obtain ⟨F_8, J_8, rfl, e9, hp⟩ := hq
      rw [e9] at hH
      have hH : Hp G (FA S s.heap.size) s.heap (wA S F_8 J_8 (gR S)) H locs := hH
      refine W.eq (g2 := F0 m 41 ls []) rfl ?_
      refine lv_iconst (pc := 41) (v := 1) hx hb dX1_takesCall_41 (by decide) ?_
      exact sx_zret (pc := 42) B hH hr hlk (Or.inr rfl) (by rw [← hQQ]; exact ⟨_, F_8, J_8, rfl, rfl, hp⟩) (Nat.le_of_ble_eq_true rfl) (Nat.le_of_ble_eq_true rfl) dX1_takesCall_42
    · have hp := hp.2 cc_7
      refine lv_iconst (pc := 32) (v := 0) hx hb dX1_takesCall_32 (by decide) ?_
      exact sx_zret (pc := 33) B hH hr hlk (Or.inl rfl) (by rw [← hQQ]; exact ⟨_, F_6, J_5, rfl, rfl, hp⟩) (Nat.le_of_ble_eq_true rfl) (Nat.le_of_ble_eq_true rfl) dX1_takesCall_33
  · have hp := hp.2 cc_4
    refine lv_aload_n (pc := 11) hx hb dX1_takesCall_11 rfl (lv_at hl 0 rfl) ?_
    refine lv_iload_n (pc := 12) hx hb dX1_takesCall_12 rfl (lv_at hl 2 rfl) ?_
    obtain ⟨F_9, eF_9⟩ : ∃ z : Nat → Nat → Int32, z = upI (gI S) th 5 p1 := ⟨_, rfl⟩
    have hp := hp F_9 eF_9
    refine sx_putI (pc := 13) (j := 5) B hH hk_th coX1 rfl w_262 rfl (Or.inl rfl) rfl dX1_takesCall_13 (fun H locs hH => ?_)
    have hH : Hp G (FA S s.heap.size) s.heap (wI S F_9) H locs := by rw [eF_9]; exact hH
    refine lv_iconst (pc := 16) (v := 1) hx hb dX1_takesCall_16 (by decide) ?_
    exact sx_zret (pc := 17) B hH hr hlk (Or.inr rfl) (by rw [← hQQ]; exact ⟨_, F_9, (gJ S), rfl, rfl, hp⟩) (Nat.le_of_ble_eq_true rfl) (Nat.le_of_ble_eq_true rfl) dX1_takesCall_17
theorem dX1_takesMethod_0 : decode cX1_takesMethod 0 = .ok (.aload_n 0, 1) := by decide +kernel
theorem dX1_takesMethod_1 : decode cX1_takesMethod 1 = .ok (.getfield 15, 3) := by decide +kernel
theorem dX1_takesMethod_4 : decode cX1_takesMethod 4 = .ok (.iconst 4, 1) := by decide +kernel
theorem dX1_takesMethod_5 : decode cX1_takesMethod 5 = .ok (.if_icmp .lt 13, 3) := by decide +kernel
theorem dX1_takesMethod_8 : decode cX1_takesMethod 8 = .ok (.aload_n 0, 1) := by decide +kernel
theorem dX1_takesMethod_9 : decode cX1_takesMethod 9 = .ok (.getfield 49, 3) := by decide +kernel
theorem dX1_takesMethod_12 : decode cX1_takesMethod 12 = .ok (.bipush 6, 2) := by decide +kernel
theorem dX1_takesMethod_14 : decode cX1_takesMethod 14 = .ok (.invokevirtual 104, 3) := by decide +kernel
theorem dX1_takesMethod_17 : decode cX1_takesMethod 17 = .ok (.ireturn, 1) := by decide +kernel
theorem dX1_takesMethod_18 : decode cX1_takesMethod 18 = .ok (.aload_n 0, 1) := by decide +kernel
theorem dX1_takesMethod_19 : decode cX1_takesMethod 19 = .ok (.getfield 49, 3) := by decide +kernel
theorem dX1_takesMethod_22 : decode cX1_takesMethod 22 = .ok (.invokevirtual 107, 3) := by decide +kernel
theorem dX1_takesMethod_25 : decode cX1_takesMethod 25 = .ok (.aload_n 0, 1) := by decide +kernel
theorem dX1_takesMethod_26 : decode cX1_takesMethod 26 = .ok (.getfield 31, 3) := by decide +kernel
theorem dX1_takesMethod_29 : decode cX1_takesMethod 29 = .ok (.aload_n 0, 1) := by decide +kernel
theorem dX1_takesMethod_30 : decode cX1_takesMethod 30 = .ok (.getfield 15, 3) := by decide +kernel
theorem dX1_takesMethod_33 : decode cX1_takesMethod 33 = .ok (.aload_n 0, 1) := by decide +kernel
theorem dX1_takesMethod_34 : decode cX1_takesMethod 34 = .ok (.getfield 49, 3) := by decide +kernel
theorem dX1_takesMethod_37 : decode cX1_takesMethod 37 = .ok (.getfield 113, 3) := by decide +kernel
theorem dX1_takesMethod_40 : decode cX1_takesMethod 40 = .ok (.lastore, 1) := by decide +kernel
theorem dX1_takesMethod_41 : decode cX1_takesMethod 41 = .ok (.aload_n 0, 1) := by decide +kernel
theorem dX1_takesMethod_42 : decode cX1_takesMethod 42 = .ok (.invokevirtual 110, 3) := by decide +kernel
theorem dX1_takesMethod_45 : decode cX1_takesMethod 45 = .ok (.ifCond .eq 17, 3) := by decide +kernel
theorem dX1_takesMethod_48 : decode cX1_takesMethod 48 = .ok (.aload_n 0, 1) := by decide +kernel
theorem dX1_takesMethod_49 : decode cX1_takesMethod 49 = .ok (.invokevirtual 117, 3) := by decide +kernel
theorem dX1_takesMethod_52 : decode cX1_takesMethod 52 = .ok (.ifCond .eq 10, 3) := by decide +kernel
theorem dX1_takesMethod_55 : decode cX1_takesMethod 55 = .ok (.aload_n 0, 1) := by decide +kernel
theorem dX1_takesMethod_56 : decode cX1_takesMethod 56 = .ok (.invokevirtual 120, 3) := by decide +kernel
theorem dX1_takesMethod_59 : decode cX1_takesMethod 59 = .ok (.ifCond .ne 5, 3) := by decide +kernel
theorem dX1_takesMethod_62 : decode cX1_takesMethod 62 = .ok (.iconst 0, 1) := by decide +kernel
theorem dX1_takesMethod_63 : decode cX1_takesMethod 63 = .ok (.ireturn, 1) := by decide +kernel
theorem dX1_takesMethod_64 : decode cX1_takesMethod 64 = .ok (.aload_n 0, 1) := by decide +kernel
theorem dX1_takesMethod_65 : decode cX1_takesMethod 65 = .ok (.getfield 39, 3) := by decide +kernel
theorem dX1_takesMethod_68 : decode cX1_takesMethod 68 = .ok (.aload_n 0, 1) := by decide +kernel
theorem dX1_takesMethod_69 : decode cX1_takesMethod 69 = .ok (.getfield 15, 3) := by decide +kernel
theorem dX1_takesMethod_72 : decode cX1_takesMethod 72 = .ok (.iaload, 1) := by decide +kernel
theorem dX1_takesMethod_73 : decode cX1_takesMethod 73 = .ok (.ifCond .le 27, 3) := by decide +kernel
theorem dX1_takesMethod_76 : decode cX1_takesMethod 76 = .ok (.aload_n 0, 1) := by decide +kernel
theorem dX1_takesMethod_77 : decode cX1_takesMethod 77 = .ok (.getfield 36, 3) := by decide +kernel
theorem dX1_takesMethod_80 : decode cX1_takesMethod 80 = .ok (.aload_n 0, 1) := by decide +kernel
theorem dX1_takesMethod_81 : decode cX1_takesMethod 81 = .ok (.getfield 15, 3) := by decide +kernel
theorem dX1_takesMethod_84 : decode cX1_takesMethod 84 = .ok (.aaload, 1) := by decide +kernel
theorem dX1_takesMethod_85 : decode cX1_takesMethod 85 = .ok (.aload_n 0, 1) := by decide +kernel
theorem dX1_takesMethod_86 : decode cX1_takesMethod 86 = .ok (.getfield 39, 3) := by decide +kernel
theorem dX1_takesMethod_89 : decode cX1_takesMethod 89 = .ok (.aload_n 0, 1) := by decide +kernel
theorem dX1_takesMethod_90 : decode cX1_takesMethod 90 = .ok (.getfield 15, 3) := by decide +kernel
theorem dX1_takesMethod_93 : decode cX1_takesMethod 93 = .ok (.iaload, 1) := by decide +kernel
theorem dX1_takesMethod_94 : decode cX1_takesMethod 94 = .ok (.iconst 1, 1) := by decide +kernel
theorem dX1_takesMethod_95 : decode cX1_takesMethod 95 = .ok (.isub, 1) := by decide +kernel
theorem dX1_takesMethod_96 : decode cX1_takesMethod 96 = .ok (.iaload, 1) := by decide +kernel
theorem dX1_takesMethod_97 : decode cX1_takesMethod 97 = .ok (.goto 4, 3) := by decide +kernel
theorem dX1_takesMethod_100 : decode cX1_takesMethod 100 = .ok (.iconst 0, 1) := by decide +kernel
theorem dX1_takesMethod_101 : decode cX1_takesMethod 101 = .ok (.istore_n 1, 1) := by decide +kernel
theorem dX1_takesMethod_102 : decode cX1_takesMethod 102 = .ok (.aload_n 0, 1) := by decide +kernel
theorem dX1_takesMethod_103 : decode cX1_takesMethod 103 = .ok (.bipush 10, 2) := by decide +kernel
theorem dX1_takesMethod_105 : decode cX1_takesMethod 105 = .ok (.iload_n 1, 1) := by decide +kernel
theorem dX1_takesMethod_106 : decode cX1_takesMethod 106 = .ok (.invokevirtual 123, 3) := by decide +kernel
theorem dX1_takesMethod_109 : decode cX1_takesMethod 109 = .ok (.ifCond .ne 5, 3) := by decide +kernel
theorem dX1_takesMethod_112 : decode cX1_takesMethod 112 = .ok (.iconst 0, 1) := by decide +kernel
theorem dX1_takesMethod_113 : decode cX1_takesMethod 113 = .ok (.ireturn, 1) := by decide +kernel
theorem dX1_takesMethod_114 : decode cX1_takesMethod 114 = .ok (.aload_n 0, 1) := by decide +kernel
theorem dX1_takesMethod_115 : decode cX1_takesMethod 115 = .ok (.getfield 43, 3) := by decide +kernel
theorem dX1_takesMethod_118 : decode cX1_takesMethod 118 = .ok (.aload_n 0, 1) := by decide +kernel
theorem dX1_takesMethod_119 : decode cX1_takesMethod 119 = .ok (.getfield 15, 3) := by decide +kernel
theorem dX1_takesMethod_122 : decode cX1_takesMethod 122 = .ok (.aload_n 0, 1) := by decide +kernel
theorem dX1_takesMethod_123 : decode cX1_takesMethod 123 = .ok (.getfield 24, 3) := by decide +kernel
theorem dX1_takesMethod_126 : decode cX1_takesMethod 126 = .ok (.iastore, 1) := by decide +kernel
theorem dX1_takesMethod_127 : decode cX1_takesMethod 127 = .ok (.aload_n 0, 1) := by decide +kernel
theorem dX1_takesMethod_128 : decode cX1_takesMethod 128 = .ok (.bipush 11, 2) := by decide +kernel
theorem dX1_takesMethod_130 : decode cX1_takesMethod 130 = .ok (.iload_n 1, 1) := by decide +kernel
theorem dX1_takesMethod_131 : decode cX1_takesMethod 131 = .ok (.invokevirtual 123, 3) := by decide +kernel
theorem dX1_takesMethod_134 : decode cX1_takesMethod 134 = .ok (.ifCond .ne 5, 3) := by decide +kernel
theorem dX1_takesMethod_137 : decode cX1_takesMethod 137 = .ok (.iconst 0, 1) := by decide +kernel
theorem dX1_takesMethod_138 : decode cX1_takesMethod 138 = .ok (.ireturn, 1) := by decide +kernel
theorem dX1_takesMethod_139 : decode cX1_takesMethod 139 = .ok (.aload_n 0, 1) := by decide +kernel
theorem dX1_takesMethod_140 : decode cX1_takesMethod 140 = .ok (.getfield 46, 3) := by decide +kernel
theorem dX1_takesMethod_143 : decode cX1_takesMethod 143 = .ok (.aload_n 0, 1) := by decide +kernel
theorem dX1_takesMethod_144 : decode cX1_takesMethod 144 = .ok (.getfield 15, 3) := by decide +kernel
theorem dX1_takesMethod_147 : decode cX1_takesMethod 147 = .ok (.aload_n 0, 1) := by decide +kernel
theorem dX1_takesMethod_148 : decode cX1_takesMethod 148 = .ok (.getfield 24, 3) := by decide +kernel
theorem dX1_takesMethod_151 : decode cX1_takesMethod 151 = .ok (.iastore, 1) := by decide +kernel
theorem dX1_takesMethod_152 : decode cX1_takesMethod 152 = .ok (.aload_n 0, 1) := by decide +kernel
theorem dX1_takesMethod_153 : decode cX1_takesMethod 153 = .ok (.dup, 1) := by decide +kernel
theorem dX1_takesMethod_154 : decode cX1_takesMethod 154 = .ok (.getfield 15, 3) := by decide +kernel
theorem dX1_takesMethod_157 : decode cX1_takesMethod 157 = .ok (.iconst 1, 1) := by decide +kernel
theorem dX1_takesMethod_158 : decode cX1_takesMethod 158 = .ok (.iadd, 1) := by decide +kernel
theorem dX1_takesMethod_159 : decode cX1_takesMethod 159 = .ok (.putfield 15, 3) := by decide +kernel
theorem dX1_takesMethod_162 : decode cX1_takesMethod 162 = .ok (.aload_n 0, 1) := by decide +kernel
theorem dX1_takesMethod_163 : decode cX1_takesMethod 163 = .ok (.getfield 49, 3) := by decide +kernel
theorem dX1_takesMethod_166 : decode cX1_takesMethod 166 = .ok (.iconst 2, 1) := by decide +kernel
theorem dX1_takesMethod_167 : decode cX1_takesMethod 167 = .ok (.invokevirtual 98, 3) := by decide +kernel
theorem dX1_takesMethod_170 : decode cX1_takesMethod 170 = .ok (.ireturn, 1) := by decide +kernel
theorem mi_X1_takesMethod : MI yX1_takesMethod cX1_takesMethod 2 (some FieldType.boolean) 0 := ⟨w_648, w_111, by decide +kernel, by decide +kernel, by decide +kernel⟩
set_option maxRecDepth 100000 in
set_option maxHeartbeats 4000000 in
theorem C_X1_takesMethod (G : GG) (l : Launch) (th : Nat) (S : St) (Q : Int32 → (Nat → Nat → Int32) → (Nat → Nat → Int64) → Prop) (hp : P_X1_takesMethod th S Q) : Ctr G l yX1_takesMethod cX1_takesMethod 2 (some FieldType.boolean) 4 91 0 0 [.ref th] S (fun (v : Option Value) (S9 : St) => ∃ (r : Int32) (I9 : Nat → Nat → Int32) (J9 : Nat → Nat → Int64), v = some (.int r) ∧ S9 = wA S I9 J9 (gR S) ∧ Q r I9 J9) := by
  generalize hQQ : (fun (v : Option Value) (S9 : St) => ∃ (r : Int32) (I9 : Nat → Nat → Int32) (J9 : Nat → Nat → Int64), v = some (.int r) ∧ S9 = wA S I9 J9 (gR S) ∧ Q r I9 J9) = QQ
  unfold P_X1_takesMethod at hp
  refine Ctr.of (by decide) (Nat.le_of_ble_eq_true rfl) ?_
  intro p e s m args below meth c ls B hr hlk hin hl hH
  generalize hlocs0 : ([] : List Loc) = locs at hH ⊢
  have hx := B.1
  have hb := B.2.1
  have hl : lv_has ls 2 [(0, .ref th)] := hl
  obtain ⟨hk_th, hp⟩ := hp
  refine lv_aload_n (pc := 0) hx hb dX1_takesMethod_0 rfl (lv_at hl 0 rfl) ?_
  refine sx_getI (pc := 1) (j := 2) B hH hk_th coX1 rfl w_259 rfl dX1_takesMethod_1 ?_
  refine W.eq (g2 := F0 m 4 ls [.int (gI S th 2)]) rfl ?_
  refine lv_iconst (pc := 4) (v := 4) hx hb dX1_takesMethod_4 (by decide) ?_
  refine lv_icmp_lt (pc := 5) (tgt := 18) hx hb dX1_takesMethod_5 (by decide) (fun cc_1 => ?_) (fun cc_1 => ?_)
  · have hp := hp.1 cc_1
    refine lv_aload_n (pc := 18) hx hb dX1_takesMethod_18 rfl (lv_at hl 0 rfl) ?_
    refine sx_getR (pc := 19) (j := 0) B hH hk_th coX1 rfl w_257 rfl dX1_takesMethod_19 ?_
    refine W.eq (g2 := F0 m 22 ls [va_rf (gR S th 0)]) rfl ?_
    obtain ⟨a_2, ha_2, hp⟩ := hp
    refine sx_nonnull (x := a_2) ha_2 ?_
    obtain ⟨hk_3, hp⟩ := hp
    refine sx_V (pc := 22) (As := []) (rest := []) B hH hl.1 (C_X7_next G l a_2 _ _ hp) mi_X7_next coX7 hk_3 w_603 w_604 w_644 rfl rfl ⟨Nat.le_of_ble_eq_true rfl, Nat.le_of_ble_eq_true rfl⟩ (Nat.le_of_ble_eq_true rfl) ⟨Nat.le_of_ble_eq_true rfl, Nat.le_of_ble_eq_true rfl⟩ dX1_takesMethod_22 (fun v S1 H locs hq hH => ?_)
    obtain ⟨F_4, J_4, rfl, e9, hp⟩ := hq
    rw [e9] at hH
    have hH : Hp G (FA S s.heap.size) s.heap (wA S F_4 J_4 (gR S)) H locs := hH
    refine W.eq (g2 := F0 m 25 ls []) rfl ?_
    refine lv_aload_n (pc := 25) hx hb dX1_takesMethod_25 rfl (lv_at hl 0 rfl) ?_
    refine sx_getR (pc := 26) (j := 7) B hH hk_th coX1 rfl w_264 rfl dX1_takesMethod_26 ?_
    refine W.eq (g2 := F0 m 29 ls [va_rf (gR S th 7)]) rfl ?_
    obtain ⟨a_5, ha_5, hp⟩ := hp
    refine sx_nonnull (x := a_5) ha_5 ?_
    refine lv_aload_n (pc := 29) hx hb dX1_takesMethod_29 rfl (lv_at hl 0 rfl) ?_
    refine sx_getI (pc := 30) (j := 2) B hH hk_th coX1 rfl w_259 rfl dX1_takesMethod_30 ?_
    refine W.eq (g2 := F0 m 33 ls [.int (F_4 th 2), .ref a_5]) rfl ?_
    refine lv_aload_n (pc := 33) hx hb dX1_takesMethod_33 rfl (lv_at hl 0 rfl) ?_
    refine sx_getR (pc := 34) (j := 0) B hH hk_th coX1 rfl w_257 rfl dX1_takesMethod_34 ?_
    refine W.eq (g2 := F0 m 37 ls [va_rf (gR S th 0), .int (F_4 th 2), .ref a_5]) rfl ?_
    refine sx_nonnull (x := a_2) ha_2 ?_
    refine sx_getJ (pc := 37) (j := 8) B hH hk_3 coX7 rfl w_218 rfl dX1_takesMethod_37 ?_
    refine W.eq (g2 := F0 m 40 ls [.long (J_4 a_2 8), .int (F_4 th 2), .ref a_5]) rfl ?_
    obtain ⟨hk_6, hp⟩ := hp
    obtain ⟨hn_7, hp⟩ := hp
    refine lv_topl (fun v_8 ev_8 => ?_)
    have hp := hp v_8 ev_8
    obtain ⟨J_9, eJ_9⟩ : ∃ z : Nat → Nat → Int64, z = upJ J_4 a_5 ((F_4 th 2).toNatClampNeg) v_8 := ⟨_, rfl⟩
    have hp := hp J_9 eJ_9
    refine sx_last (pc := 40) B hH hk_6 hn_7 dX1_takesMethod_40 (fun H locs hH => ?_)
    have hH : Hp G (FA S s.heap.size) s.heap (wA S F_4 J_9 (gR S)) H locs := by rw [eJ_9]; exact hH
    refine lv_aload_n (pc := 41) hx hb dX1_takesMethod_41 rfl (lv_at hl 0 rfl) ?_
    refine sx_V (pc := 42) (As := []) (rest := []) B hH hl.1 (C_X1_takesNewName G l th _ _ hp) mi_X1_takesNewName coX1 hk_th w_651 w_10 w_649 rfl rfl ⟨Nat.le_of_ble_eq_true rfl, Nat.le_of_ble_eq_true rfl⟩ (Nat.le_of_ble_eq_true rfl) ⟨Nat.le_of_ble_eq_true rfl, Nat.le_of_ble_eq_true rfl⟩ dX1_takesMethod_42 (fun v S1 H locs hq hH => ?_)
    obtain ⟨r_10, F_10, J_10, rfl, e9, hp⟩ := hq
    rw [e9] at hH
    have hH : Hp G (FA S s.heap.size) s.heap (wA S F_10 J_10 (gR S)) H locs := hH
    refine W.eq (g2 := F0 m 45 ls [.int r_10]) rfl ?_
    refine lv_if_eq (pc := 45) (tgt := 62) hx hb dX1_takesMethod_45 (by decide) (fun cc_11 => ?_) (fun cc_11 => ?_)
    · have hp := hp.1 cc_11
      refine lv_iconst (pc := 62) (v := 0) hx hb dX1_takesMethod_62 (by decide) ?_
      exact sx_zret (pc := 63) B hH hr hlk (Or.inl rfl) (by rw [← hQQ]; exact ⟨_, F_10, J_10, rfl, rfl, hp⟩) (Nat.le_of_ble_eq_true rfl) (Nat.le_of_ble_eq_true rfl) dX1_takesMethod_63
    · have hp := hp.2 cc_11
      refine lv_aload_n (pc := 48) hx hb dX1_takesMethod_48 rfl (lv_at hl 0 rfl) ?_
      refine sx_V (pc := 49) (As := []) (rest := []) B hH hl.1 (C_X1_takesChanges G l th _ _ hp) mi_X1_takesChanges coX1 hk_th w_655 w_11 w_653 rfl rfl ⟨Nat.le_of_ble_eq_true rfl, Nat.le_of_ble_eq_true rfl⟩ (Nat.le_of_ble_eq_true rfl) ⟨Nat.le_of_ble_eq_true rfl, Nat.le_of_ble_eq_true rfl⟩ dX1_takesMethod_49 (fun v S1 H locs hq hH => ?_)
      obtain ⟨r_12, F_12, J_12, rfl, e9, hp⟩ := hq
      rw [e9] at hH
      have hH : Hp G (FA S s.heap.size) s.heap (wA S F_12 J_12 (gR S)) H locs := hH
      refine W.eq (g2 := F0 m 52 ls [.int r_12]) rfl ?_
      refine lv_if_eq (pc := 52) (tgt := 62) hx hb dX1_takesMethod_52 (by decide) (fun cc_13 => ?_) (fun cc_13 => ?_)
      · have hp := hp.1 cc_13
        refine lv_iconst (pc := 62) (v := 0) hx hb dX1_takesMethod_62 (by decide) ?_
        exact sx_zret (pc := 63) B hH hr hlk (Or.inl rfl) (by rw [← hQQ]; exact ⟨_, F_12, J_12, rfl, rfl, hp⟩) (Nat.le_of_ble_eq_true rfl) (Nat.le_of_ble_eq_true rfl) dX1_takesMethod_63
      · have hp := hp.2 cc_13
        refine lv_aload_n (pc := 55) hx hb dX1_takesMethod_55 rfl (lv_at hl 0 rfl) ?_
        refine sx_V (pc := 56) (As := []) (rest := []) B hH hl.1 (C_X1_takesBack G l th _ _ hp) mi_X1_takesBack coX1 hk_th w_673 w_13 w_671 rfl rfl ⟨Nat.le_of_ble_eq_true rfl, Nat.le_of_ble_eq_true rfl⟩ (Nat.le_of_ble_eq_true rfl) ⟨Nat.le_of_ble_eq_true rfl, Nat.le_of_ble_eq_true rfl⟩ dX1_takesMethod_56 (fun v S1 H locs hq hH => ?_)
        obtain ⟨r_14, F_14, J_14, rfl, e9, hp⟩ := hq
        rw [e9] at hH
        have hH : Hp G (FA S s.heap.size) s.heap (wA S F_14 J_14 (gR S)) H locs := hH
        refine W.eq (g2 := F0 m 59 ls [.int r_14]) rfl ?_
        refine lv_if_ne (pc := 59) (tgt := 64) hx hb dX1_takesMethod_59 (by decide) (fun cc_15 => ?_) (fun cc_15 => ?_)
        · have hp := hp.1 cc_15
          refine lv_aload_n (pc := 64) hx hb dX1_takesMethod_64 rfl (lv_at hl 0 rfl) ?_
          refine sx_getR (pc := 65) (j := 9) B hH hk_th coX1 rfl w_266 rfl dX1_takesMethod_65 ?_
          refine W.eq (g2 := F0 m 68 ls [va_rf (gR S th 9)]) rfl ?_
          obtain ⟨a_16, ha_16, hp⟩ := hp
          refine sx_nonnull (x := a_16) ha_16 ?_
          refine lv_aload_n (pc := 68) hx hb dX1_takesMethod_68 rfl (lv_at hl 0 rfl) ?_
          refine sx_getI (pc := 69) (j := 2) B hH hk_th coX1 rfl w_259 rfl dX1_takesMethod_69 ?_
          refine W.eq (g2 := F0 m 72 ls [.int (F_14 th 2), .ref a_16]) rfl ?_
          obtain ⟨hk_17, hp⟩ := hp
          obtain ⟨hn_18, hp⟩ := hp
          refine sx_iald (pc := 72) B hH hk_17 hn_18 dX1_takesMethod_72 ?_
          refine W.eq (g2 := F0 m 73 ls [.int (F_14 a_16 ((F_14 th 2).toNatClampNeg))]) rfl ?_
          obtain ⟨J_20, hj_20, hp⟩ := hp
          have kj_20 : ∀ (t_21 : Int32) (H : Heap) (locs : List Loc) (ls : Array Slot), J_20 t_21 → Hp G (FA S s.heap.size) s.heap (wA S F_14 J_14 (gR S)) H locs → lv_has ls 2 [(0, .ref th)] → Wm G p l e { frames := 4, cells := 0, slots := 0, locals := 91 } s m args below meth c S QQ 0 0 H locs 0 0 (F0 m 101 ls [.int t_21]) := by
            intro t_21 H locs ls hq9 hH hl
            have hp := hj_20 t_21 hq9
            refine lv_istore_n (pc := 101) (lv' := [(1, .int t_21), (0, .ref th)]) hx hb dX1_takesMethod_101 rfl hl (by decide) rfl (fun ls hl => ?_)
            refine lv_aload_n (pc := 102) hx hb dX1_takesMethod_102 rfl (lv_at hl 1 rfl) ?_
            refine lv_bipush (pc := 103) (v := 10) hx hb dX1_takesMethod_103 (by decide) ?_
            refine lv_iload_n (pc := 105) hx hb dX1_takesMethod_105 rfl (lv_at hl 0 rfl) ?_
            refine sx_V (pc := 106) (As := [.int 10, .int t_21]) (rest := []) B hH hl.1 (C_X1_takesCall G l th 10 t_21 _ _ hp) mi_X1_takesCall coX1 hk_th w_677 w_14 w_675 rfl rfl ⟨Nat.le_of_ble_eq_true rfl, Nat.le_of_ble_eq_true rfl⟩ (Nat.le_of_ble_eq_true rfl) ⟨Nat.le_of_ble_eq_true rfl, Nat.le_of_ble_eq_true rfl⟩ dX1_takesMethod_106 (fun v S1 H locs hq hH => ?_)
            obtain ⟨r_22, F_22, J_22, rfl, e9, hp⟩ := hq
            rw [e9] at hH
            have hH : Hp G (FA S s.heap.size) s.heap (wA S F_22 J_22 (gR S)) H locs := hH
            refine W.eq (g2 := F0 m 109 ls [.int r_22]) rfl ?_
            refine lv_if_ne (pc := 109) (tgt := 114) hx hb dX1_takesMethod_109 (by decide) (fun cc_23 => ?_) (fun cc_23 => ?_)
            · have hp := hp.1 cc_23
              refine lv_aload_n (pc := 114) hx hb dX1_takesMethod_114 rfl (lv_at hl 1 rfl) ?_
              refine sx_getR (pc := 115) (j := 10) B hH hk_th coX1 rfl w_267 rfl dX1_takesMethod_115 ?_
              refine W.eq (g2 := F0 m 118 ls [va_rf (gR S th 10)]) rfl ?_
              obtain ⟨a_24, ha_24, hp⟩ := hp
              refine sx_nonnull (x := a_24) ha_24 ?_
              refine lv_aload_n (pc := 118) hx hb dX1_takesMethod_118 rfl (lv_at hl 1 rfl) ?_
              refine sx_getI (pc := 119) (j := 2) B hH hk_th coX1 rfl w_259 rfl dX1_takesMethod_119 ?_
              refine W.eq (g2 := F0 m 122 ls [.int (F_22 th 2), .ref a_24]) rfl ?_
              refine lv_aload_n (pc := 122) hx hb dX1_takesMethod_122 rfl (lv_at hl 1 rfl) ?_
              refine sx_getI (pc := 123) (j := 5) B hH hk_th coX1 rfl w_262 rfl dX1_takesMethod_123 ?_
              refine W.eq (g2 := F0 m 126 ls [.int (F_22 th 5), .int (F_22 th 2), .ref a_24]) rfl ?_
              obtain ⟨hk_25, hp⟩ := hp
              obtain ⟨hn_26, hp⟩ := hp
              refine lv_topi (fun v_27 ev_27 => ?_)
              have hp := hp v_27 ev_27
              obtain ⟨F_28, eF_28⟩ : ∃ z : Nat → Nat → Int32, z = upI F_22 a_24 ((F_22 th 2).toNatClampNeg) v_27 := ⟨_, rfl⟩
              have hp := hp F_28 eF_28
              refine sx_iast (pc := 126) B hH hk_25 hn_26 dX1_takesMethod_126 (fun H locs hH => ?_)
              have hH : Hp G (FA S s.heap.size) s.heap (wA S F_28 J_22 (gR S)) H locs := by rw [eF_28]; exact hH
              refine lv_aload_n (pc := 127) hx hb dX1_takesMethod_127 rfl (lv_at hl 1 rfl) ?_
              refine lv_bipush (pc := 128) (v := 11) hx hb dX1_takesMethod_128 (by decide) ?_
              refine lv_iload_n (pc := 130) hx hb dX1_takesMethod_130 rfl (lv_at hl 0 rfl) ?_
              refine sx_V (pc := 131) (As := [.int 11, .int t_21]) (rest := []) B hH hl.1 (C_X1_takesCall G l th 11 t_21 _ _ hp) mi_X1_takesCall coX1 hk_th w_677 w_14 w_675 rfl rfl ⟨Nat.le_of_ble_eq_true rfl, Nat.le_of_ble_eq_true rfl⟩ (Nat.le_of_ble_eq_true rfl) ⟨Nat.le_of_ble_eq_true rfl, Nat.le_of_ble_eq_true rfl⟩ dX1_takesMethod_131 (fun v S1 H locs hq hH => ?_)
              obtain ⟨r_29, F_29, J_29, rfl, e9, hp⟩ := hq
              rw [e9] at hH
              have hH : Hp G (FA S s.heap.size) s.heap (wA S F_29 J_29 (gR S)) H locs := hH
              refine W.eq (g2 := F0 m 134 ls [.int r_29]) rfl ?_
              refine lv_if_ne (pc := 134) (tgt := 139) hx hb dX1_takesMethod_134 (by decide) (fun cc_30 => ?_) (fun cc_30 => ?_)
              · have hp := hp.1 cc_30
                refine lv_aload_n (pc := 139) hx hb dX1_takesMethod_139 rfl (lv_at hl 1 rfl) ?_
                refine sx_getR (pc := 140) (j := 11) B hH hk_th coX1 rfl w_268 rfl dX1_takesMethod_140 ?_
                refine W.eq (g2 := F0 m 143 ls [va_rf (gR S th 11)]) rfl ?_
                obtain ⟨a_31, ha_31, hp⟩ := hp
                refine sx_nonnull (x := a_31) ha_31 ?_
                refine lv_aload_n (pc := 143) hx hb dX1_takesMethod_143 rfl (lv_at hl 1 rfl) ?_
                refine sx_getI (pc := 144) (j := 2) B hH hk_th coX1 rfl w_259 rfl dX1_takesMethod_144 ?_
                refine W.eq (g2 := F0 m 147 ls [.int (F_29 th 2), .ref a_31]) rfl ?_
                refine lv_aload_n (pc := 147) hx hb dX1_takesMethod_147 rfl (lv_at hl 1 rfl) ?_
                refine sx_getI (pc := 148) (j := 5) B hH hk_th coX1 rfl w_262 rfl dX1_takesMethod_148 ?_
                refine W.eq (g2 := F0 m 151 ls [.int (F_29 th 5), .int (F_29 th 2), .ref a_31]) rfl ?_
                obtain ⟨hk_32, hp⟩ := hp
                obtain ⟨hn_33, hp⟩ := hp
                refine lv_topi (fun v_34 ev_34 => ?_)
                have hp := hp v_34 ev_34
                obtain ⟨F_35, eF_35⟩ : ∃ z : Nat → Nat → Int32, z = upI F_29 a_31 ((F_29 th 2).toNatClampNeg) v_34 := ⟨_, rfl⟩
                have hp := hp F_35 eF_35
                refine sx_iast (pc := 151) B hH hk_32 hn_33 dX1_takesMethod_151 (fun H locs hH => ?_)
                have hH : Hp G (FA S s.heap.size) s.heap (wA S F_35 J_29 (gR S)) H locs := by rw [eF_35]; exact hH
                refine lv_aload_n (pc := 152) hx hb dX1_takesMethod_152 rfl (lv_at hl 1 rfl) ?_
                refine lv_dup (pc := 153) hx hb dX1_takesMethod_153 rfl ?_
                refine sx_getI (pc := 154) (j := 2) B hH hk_th coX1 rfl w_259 rfl dX1_takesMethod_154 ?_
                refine W.eq (g2 := F0 m 157 ls [.int (F_35 th 2), .ref th]) rfl ?_
                refine lv_iconst (pc := 157) (v := 1) hx hb dX1_takesMethod_157 (by decide) ?_
                refine lv_iadd (pc := 158) hx hb dX1_takesMethod_158 ?_
                refine lv_topi (fun v_36 ev_36 => ?_)
                have hp := hp v_36 ev_36
                obtain ⟨F_37, eF_37⟩ : ∃ z : Nat → Nat → Int32, z = upI F_35 th 2 v_36 := ⟨_, rfl⟩
                have hp := hp F_37 eF_37
                refine sx_putI (pc := 159) (j := 2) B hH hk_th coX1 rfl w_259 rfl (Or.inl rfl) rfl dX1_takesMethod_159 (fun H locs hH => ?_)
                have hH : Hp G (FA S s.heap.size) s.heap (wA S F_37 J_29 (gR S)) H locs := by rw [eF_37]; exact hH
                refine lv_aload_n (pc := 162) hx hb dX1_takesMethod_162 rfl (lv_at hl 1 rfl) ?_
                refine sx_getR (pc := 163) (j := 0) B hH hk_th coX1 rfl w_257 rfl dX1_takesMethod_163 ?_
                refine W.eq (g2 := F0 m 166 ls [va_rf (gR S th 0)]) rfl ?_
                refine sx_nonnull (x := a_2) ha_2 ?_
                refine lv_iconst (pc := 166) (v := 2) hx hb dX1_takesMethod_166 (by decide) ?_
                refine sx_V (pc := 167) (As := [.int 2]) (rest := []) B hH hl.1 (C_X7_take G l a_2 2 _ _ hp) mi_X7_take coX7 hk_3 w_627 w_628 w_626 rfl rfl ⟨Nat.le_of_ble_eq_true rfl, Nat.le_of_ble_eq_true rfl⟩ (Nat.le_of_ble_eq_true rfl) ⟨Nat.le_of_ble_eq_true rfl, Nat.le_of_ble_eq_true rfl⟩ dX1_takesMethod_167 (fun v S1 H locs hq hH => ?_)
                obtain ⟨r_38, F_38, J_38, rfl, e9, hp⟩ := hq
                rw [e9] at hH
                have hH : Hp G (FA S s.heap.size) s.heap (wA S F_38 J_38 (gR S)) H locs := hH
                refine W.eq (g2 := F0 m 170 ls [.int r_38]) rfl ?_
                obtain ⟨hz, hp⟩ := hp
                exact sx_zret (pc := 170) B hH hr hlk hz (by rw [← hQQ]; exact ⟨_, F_38, J_38, rfl, rfl, hp⟩) (Nat.le_of_ble_eq_true rfl) (Nat.le_of_ble_eq_true rfl) dX1_takesMethod_170
              · have hp := hp.2 cc_30
                refine lv_iconst (pc := 137) (v := 0) hx hb dX1_takesMethod_137 (by decide) ?_
                exact sx_zret (pc := 138) B hH hr hlk (Or.inl rfl) (by rw [← hQQ]; exact ⟨_, F_29, J_29, rfl, rfl, hp⟩) (Nat.le_of_ble_eq_true rfl) (Nat.le_of_ble_eq_true rfl) dX1_takesMethod_138
            · have hp := hp.2 cc_23
              refine lv_iconst (pc := 112) (v := 0) hx hb dX1_takesMethod_112 (by decide) ?_
              exact sx_zret (pc := 113) B hH hr hlk (Or.inl rfl) (by rw [← hQQ]; exact ⟨_, F_22, J_22, rfl, rfl, hp⟩) (Nat.le_of_ble_eq_true rfl) (Nat.le_of_ble_eq_true rfl) dX1_takesMethod_113
          refine lv_if_le (pc := 73) (tgt := 100) hx hb dX1_takesMethod_73 (by decide) (fun cc_19 => ?_) (fun cc_19 => ?_)
          · have hp := hp.1 cc_19
            refine lv_iconst (pc := 100) (v := 0) hx hb dX1_takesMethod_100 (by decide) ?_
            exact kj_20 _ _ _ _ hp hH (lv_sub hl [0] rfl)
          · have hp := hp.2 cc_19
            refine lv_aload_n (pc := 76) hx hb dX1_takesMethod_76 rfl (lv_at hl 0 rfl) ?_
            refine sx_getR (pc := 77) (j := 8) B hH hk_th coX1 rfl w_265 rfl dX1_takesMethod_77 ?_
            refine W.eq (g2 := F0 m 80 ls [va_rf (gR S th 8)]) rfl ?_
            obtain ⟨a_39, ha_39, hp⟩ := hp
            refine sx_nonnull (x := a_39) ha_39 ?_
            refine lv_aload_n (pc := 80) hx hb dX1_takesMethod_80 rfl (lv_at hl 0 rfl) ?_
            refine sx_getI (pc := 81) (j := 2) B hH hk_th coX1 rfl w_259 rfl dX1_takesMethod_81 ?_
            refine W.eq (g2 := F0 m 84 ls [.int (F_14 th 2), .ref a_39]) rfl ?_
            obtain ⟨hk_40, hp⟩ := hp
            obtain ⟨hn_41, hp⟩ := hp
            refine sx_aald (pc := 84) B hH hk_40 (by decide) (by decide) hn_41 dX1_takesMethod_84 ?_
            refine W.eq (g2 := F0 m 85 ls [va_rf (gR S a_39 ((F_14 th 2).toNatClampNeg))]) rfl ?_
            obtain ⟨a_42, ha_42, hp⟩ := hp
            refine sx_nonnull (x := a_42) ha_42 ?_
            refine lv_aload_n (pc := 85) hx hb dX1_takesMethod_85 rfl (lv_at hl 0 rfl) ?_
            refine sx_getR (pc := 86) (j := 9) B hH hk_th coX1 rfl w_266 rfl dX1_takesMethod_86 ?_
            refine W.eq (g2 := F0 m 89 ls [va_rf (gR S th 9), .ref a_42]) rfl ?_
            refine sx_nonnull (x := a_16) ha_16 ?_
            refine lv_aload_n (pc := 89) hx hb dX1_takesMethod_89 rfl (lv_at hl 0 rfl) ?_
            refine sx_getI (pc := 90) (j := 2) B hH hk_th coX1 rfl w_259 rfl dX1_takesMethod_90 ?_
            refine W.eq (g2 := F0 m 93 ls [.int (F_14 th 2), .ref a_16, .ref a_42]) rfl ?_
            refine sx_iald (pc := 93) B hH hk_17 hn_18 dX1_takesMethod_93 ?_
            refine W.eq (g2 := F0 m 94 ls [.int (F_14 a_16 ((F_14 th 2).toNatClampNeg)), .ref a_42]) rfl ?_
            refine lv_iconst (pc := 94) (v := 1) hx hb dX1_takesMethod_94 (by decide) ?_
            refine lv_isub (pc := 95) hx hb dX1_takesMethod_95 ?_
            obtain ⟨hk_43, hp⟩ := hp
            obtain ⟨hn_44, hp⟩ := hp
            refine sx_iald (pc := 96) B hH hk_43 hn_44 dX1_takesMethod_96 ?_
            refine W.eq (g2 := F0 m 97 ls [.int (F_14 a_42 (((F_14 a_16 ((F_14 th 2).toNatClampNeg)) - 1).toNatClampNeg))]) rfl ?_
            refine lv_goto (pc := 97) (tgt := 101) hx hb dX1_takesMethod_97 (by decide) ?_
            exact kj_20 _ _ _ _ hp hH (lv_sub hl [0] rfl)
        · have hp := hp.2 cc_15
          refine lv_iconst (pc := 62) (v := 0) hx hb dX1_takesMethod_62 (by decide) ?_
          exact sx_zret (pc := 63) B hH hr hlk (Or.inl rfl) (by rw [← hQQ]; exact ⟨_, F_14, J_14, rfl, rfl, hp⟩) (Nat.le_of_ble_eq_true rfl) (Nat.le_of_ble_eq_true rfl) dX1_takesMethod_63
  · have hp := hp.2 cc_1
    refine lv_aload_n (pc := 8) hx hb dX1_takesMethod_8 rfl (lv_at hl 0 rfl) ?_
    refine sx_getR (pc := 9) (j := 0) B hH hk_th coX1 rfl w_257 rfl dX1_takesMethod_9 ?_
    refine W.eq (g2 := F0 m 12 ls [va_rf (gR S th 0)]) rfl ?_
    obtain ⟨a_45, ha_45, hp⟩ := hp
    refine sx_nonnull (x := a_45) ha_45 ?_
    refine lv_bipush (pc := 12) (v := 6) hx hb dX1_takesMethod_12 (by decide) ?_
    obtain ⟨hk_46, hp⟩ := hp
    refine sx_V (pc := 14) (As := [.int 6]) (rest := []) B hH hl.1 (C_X7_wrong G l a_45 6 _ _ hp) mi_X7_wrong coX7 hk_46 w_635 w_636 w_643 rfl rfl ⟨Nat.le_of_ble_eq_true rfl, Nat.le_of_ble_eq_true rfl⟩ (Nat.le_of_ble_eq_true rfl) ⟨Nat.le_of_ble_eq_true rfl, Nat.le_of_ble_eq_true rfl⟩ dX1_takesMethod_14 (fun v S1 H locs hq hH => ?_)
    obtain ⟨r_47, F_47, rfl, e9, hp⟩ := hq
    rw [e9] at hH
    have hH : Hp G (FA S s.heap.size) s.heap (wI S F_47) H locs := hH
    refine W.eq (g2 := F0 m 17 ls [.int r_47]) rfl ?_
    obtain ⟨hz, hp⟩ := hp
    exact sx_zret (pc := 17) B hH hr hlk hz (by rw [← hQQ]; exact ⟨_, F_47, (gJ S), rfl, rfl, hp⟩) (Nat.le_of_ble_eq_true rfl) (Nat.le_of_ble_eq_true rfl) dX1_takesMethod_17
theorem dX1_takesRinger_0 : decode cX1_takesRinger 0 = .ok (.aload_n 0, 1) := by decide +kernel
theorem dX1_takesRinger_1 : decode cX1_takesRinger 1 = .ok (.getfield 18, 3) := by decide +kernel
theorem dX1_takesRinger_4 : decode cX1_takesRinger 4 = .ok (.bipush 8, 2) := by decide +kernel
theorem dX1_takesRinger_6 : decode cX1_takesRinger 6 = .ok (.if_icmp .lt 13, 3) := by decide +kernel
theorem dX1_takesRinger_9 : decode cX1_takesRinger 9 = .ok (.aload_n 0, 1) := by decide +kernel
theorem dX1_takesRinger_10 : decode cX1_takesRinger 10 = .ok (.getfield 49, 3) := by decide +kernel
theorem dX1_takesRinger_13 : decode cX1_takesRinger 13 = .ok (.bipush 6, 2) := by decide +kernel
theorem dX1_takesRinger_15 : decode cX1_takesRinger 15 = .ok (.invokevirtual 104, 3) := by decide +kernel
theorem dX1_takesRinger_18 : decode cX1_takesRinger 18 = .ok (.ireturn, 1) := by decide +kernel
theorem dX1_takesRinger_19 : decode cX1_takesRinger 19 = .ok (.aload_n 0, 1) := by decide +kernel
theorem dX1_takesRinger_20 : decode cX1_takesRinger 20 = .ok (.getfield 49, 3) := by decide +kernel
theorem dX1_takesRinger_23 : decode cX1_takesRinger 23 = .ok (.invokevirtual 107, 3) := by decide +kernel
theorem dX1_takesRinger_26 : decode cX1_takesRinger 26 = .ok (.aload_n 0, 1) := by decide +kernel
theorem dX1_takesRinger_27 : decode cX1_takesRinger 27 = .ok (.invokevirtual 110, 3) := by decide +kernel
theorem dX1_takesRinger_30 : decode cX1_takesRinger 30 = .ok (.ifCond .ne 5, 3) := by decide +kernel
theorem dX1_takesRinger_33 : decode cX1_takesRinger 33 = .ok (.iconst 0, 1) := by decide +kernel
theorem dX1_takesRinger_34 : decode cX1_takesRinger 34 = .ok (.ireturn, 1) := by decide +kernel
theorem dX1_takesRinger_35 : decode cX1_takesRinger 35 = .ok (.aload_n 0, 1) := by decide +kernel
theorem dX1_takesRinger_36 : decode cX1_takesRinger 36 = .ok (.dup, 1) := by decide +kernel
theorem dX1_takesRinger_37 : decode cX1_takesRinger 37 = .ok (.getfield 18, 3) := by decide +kernel
theorem dX1_takesRinger_40 : decode cX1_takesRinger 40 = .ok (.iconst 1, 1) := by decide +kernel
theorem dX1_takesRinger_41 : decode cX1_takesRinger 41 = .ok (.iadd, 1) := by decide +kernel
theorem dX1_takesRinger_42 : decode cX1_takesRinger 42 = .ok (.putfield 18, 3) := by decide +kernel
theorem dX1_takesRinger_45 : decode cX1_takesRinger 45 = .ok (.aload_n 0, 1) := by decide +kernel
theorem dX1_takesRinger_46 : decode cX1_takesRinger 46 = .ok (.getfield 49, 3) := by decide +kernel
theorem dX1_takesRinger_49 : decode cX1_takesRinger 49 = .ok (.iconst 3, 1) := by decide +kernel
theorem dX1_takesRinger_50 : decode cX1_takesRinger 50 = .ok (.invokevirtual 63, 3) := by decide +kernel
theorem dX1_takesRinger_53 : decode cX1_takesRinger 53 = .ok (.ifCond .ne 11, 3) := by decide +kernel
theorem dX1_takesRinger_56 : decode cX1_takesRinger 56 = .ok (.aload_n 0, 1) := by decide +kernel
theorem dX1_takesRinger_57 : decode cX1_takesRinger 57 = .ok (.getfield 49, 3) := by decide +kernel
theorem dX1_takesRinger_60 : decode cX1_takesRinger 60 = .ok (.invokevirtual 73, 3) := by decide +kernel
theorem dX1_takesRinger_63 : decode cX1_takesRinger 63 = .ok (.ireturn, 1) := by decide +kernel
theorem dX1_takesRinger_64 : decode cX1_takesRinger 64 = .ok (.aload_n 0, 1) := by decide +kernel
theorem dX1_takesRinger_65 : decode cX1_takesRinger 65 = .ok (.getfield 49, 3) := by decide +kernel
theorem dX1_takesRinger_68 : decode cX1_takesRinger 68 = .ok (.getfield 101, 3) := by decide +kernel
theorem dX1_takesRinger_71 : decode cX1_takesRinger 71 = .ok (.iconst 1, 1) := by decide +kernel
theorem dX1_takesRinger_72 : decode cX1_takesRinger 72 = .ok (.if_icmp .lt 17, 3) := by decide +kernel
theorem dX1_takesRinger_75 : decode cX1_takesRinger 75 = .ok (.aload_n 0, 1) := by decide +kernel
theorem dX1_takesRinger_76 : decode cX1_takesRinger 76 = .ok (.getfield 49, 3) := by decide +kernel
theorem dX1_takesRinger_79 : decode cX1_takesRinger 79 = .ok (.getfield 101, 3) := by decide +kernel
theorem dX1_takesRinger_82 : decode cX1_takesRinger 82 = .ok (.aload_n 0, 1) := by decide +kernel
theorem dX1_takesRinger_83 : decode cX1_takesRinger 83 = .ok (.getfield 9, 3) := by decide +kernel
theorem dX1_takesRinger_86 : decode cX1_takesRinger 86 = .ok (.if_icmp .le 12, 3) := by decide +kernel
theorem dX1_takesRinger_89 : decode cX1_takesRinger 89 = .ok (.aload_n 0, 1) := by decide +kernel
theorem dX1_takesRinger_90 : decode cX1_takesRinger 90 = .ok (.getfield 49, 3) := by decide +kernel
theorem dX1_takesRinger_93 : decode cX1_takesRinger 93 = .ok (.iconst 4, 1) := by decide +kernel
theorem dX1_takesRinger_94 : decode cX1_takesRinger 94 = .ok (.invokevirtual 104, 3) := by decide +kernel
theorem dX1_takesRinger_97 : decode cX1_takesRinger 97 = .ok (.ireturn, 1) := by decide +kernel
theorem dX1_takesRinger_98 : decode cX1_takesRinger 98 = .ok (.iconst 1, 1) := by decide +kernel
theorem dX1_takesRinger_99 : decode cX1_takesRinger 99 = .ok (.aload_n 0, 1) := by decide +kernel
theorem dX1_takesRinger_100 : decode cX1_takesRinger 100 = .ok (.getfield 49, 3) := by decide +kernel
theorem dX1_takesRinger_103 : decode cX1_takesRinger 103 = .ok (.getfield 101, 3) := by decide +kernel
theorem dX1_takesRinger_106 : decode cX1_takesRinger 106 = .ok (.iconst 1, 1) := by decide +kernel
theorem dX1_takesRinger_107 : decode cX1_takesRinger 107 = .ok (.isub, 1) := by decide +kernel
theorem dX1_takesRinger_108 : decode cX1_takesRinger 108 = .ok (.ishl, 1) := by decide +kernel
theorem dX1_takesRinger_109 : decode cX1_takesRinger 109 = .ok (.istore_n 1, 1) := by decide +kernel
theorem dX1_takesRinger_110 : decode cX1_takesRinger 110 = .ok (.aload_n 0, 1) := by decide +kernel
theorem dX1_takesRinger_111 : decode cX1_takesRinger 111 = .ok (.getfield 21, 3) := by decide +kernel
theorem dX1_takesRinger_114 : decode cX1_takesRinger 114 = .ok (.iload_n 1, 1) := by decide +kernel
theorem dX1_takesRinger_115 : decode cX1_takesRinger 115 = .ok (.iand, 1) := by decide +kernel
theorem dX1_takesRinger_116 : decode cX1_takesRinger 116 = .ok (.ifCond .eq 12, 3) := by decide +kernel
theorem dX1_takesRinger_119 : decode cX1_takesRinger 119 = .ok (.aload_n 0, 1) := by decide +kernel
theorem dX1_takesRinger_120 : decode cX1_takesRinger 120 = .ok (.getfield 49, 3) := by decide +kernel
theorem dX1_takesRinger_123 : decode cX1_takesRinger 123 = .ok (.iconst 5, 1) := by decide +kernel
theorem dX1_takesRinger_124 : decode cX1_takesRinger 124 = .ok (.invokevirtual 104, 3) := by decide +kernel
theorem dX1_takesRinger_127 : decode cX1_takesRinger 127 = .ok (.ireturn, 1) := by decide +kernel
theorem dX1_takesRinger_128 : decode cX1_takesRinger 128 = .ok (.aload_n 0, 1) := by decide +kernel
theorem dX1_takesRinger_129 : decode cX1_takesRinger 129 = .ok (.dup, 1) := by decide +kernel
theorem dX1_takesRinger_130 : decode cX1_takesRinger 130 = .ok (.getfield 21, 3) := by decide +kernel
theorem dX1_takesRinger_133 : decode cX1_takesRinger 133 = .ok (.iload_n 1, 1) := by decide +kernel
theorem dX1_takesRinger_134 : decode cX1_takesRinger 134 = .ok (.ior, 1) := by decide +kernel
theorem dX1_takesRinger_135 : decode cX1_takesRinger 135 = .ok (.putfield 21, 3) := by decide +kernel
theorem dX1_takesRinger_138 : decode cX1_takesRinger 138 = .ok (.aload_n 0, 1) := by decide +kernel
theorem dX1_takesRinger_139 : decode cX1_takesRinger 139 = .ok (.getfield 49, 3) := by decide +kernel
theorem dX1_takesRinger_142 : decode cX1_takesRinger 142 = .ok (.invokevirtual 107, 3) := by decide +kernel
theorem dX1_takesRinger_145 : decode cX1_takesRinger 145 = .ok (.aload_n 0, 1) := by decide +kernel
theorem dX1_takesRinger_146 : decode cX1_takesRinger 146 = .ok (.getfield 49, 3) := by decide +kernel
theorem dX1_takesRinger_149 : decode cX1_takesRinger 149 = .ok (.iconst 2, 1) := by decide +kernel
theorem dX1_takesRinger_150 : decode cX1_takesRinger 150 = .ok (.invokevirtual 98, 3) := by decide +kernel
theorem dX1_takesRinger_153 : decode cX1_takesRinger 153 = .ok (.ireturn, 1) := by decide +kernel
theorem mi_X1_takesRinger : MI yX1_takesRinger cX1_takesRinger 2 (some FieldType.boolean) 0 := ⟨w_682, w_111, by decide +kernel, by decide +kernel, by decide +kernel⟩
set_option maxRecDepth 100000 in
set_option maxHeartbeats 4000000 in
theorem C_X1_takesRinger (G : GG) (l : Launch) (th : Nat) (S : St) (Q : Int32 → (Nat → Nat → Int32) → (Nat → Nat → Int64) → Prop) (hp : P_X1_takesRinger th S Q) : Ctr G l yX1_takesRinger cX1_takesRinger 2 (some FieldType.boolean) 4 84 0 0 [.ref th] S (fun (v : Option Value) (S9 : St) => ∃ (r : Int32) (I9 : Nat → Nat → Int32) (J9 : Nat → Nat → Int64), v = some (.int r) ∧ S9 = wA S I9 J9 (gR S) ∧ Q r I9 J9) := by
  generalize hQQ : (fun (v : Option Value) (S9 : St) => ∃ (r : Int32) (I9 : Nat → Nat → Int32) (J9 : Nat → Nat → Int64), v = some (.int r) ∧ S9 = wA S I9 J9 (gR S) ∧ Q r I9 J9) = QQ
  unfold P_X1_takesRinger at hp
  refine Ctr.of (by decide) (Nat.le_of_ble_eq_true rfl) ?_
  intro p e s m args below meth c ls B hr hlk hin hl hH
  generalize hlocs0 : ([] : List Loc) = locs at hH ⊢
  have hx := B.1
  have hb := B.2.1
  have hl : lv_has ls 2 [(0, .ref th)] := hl
  obtain ⟨hk_th, hp⟩ := hp
  refine lv_aload_n (pc := 0) hx hb dX1_takesRinger_0 rfl (lv_at hl 0 rfl) ?_
  refine sx_getI (pc := 1) (j := 3) B hH hk_th coX1 rfl w_260 rfl dX1_takesRinger_1 ?_
  refine W.eq (g2 := F0 m 4 ls [.int (gI S th 3)]) rfl ?_
  refine lv_bipush (pc := 4) (v := 8) hx hb dX1_takesRinger_4 (by decide) ?_
  refine lv_icmp_lt (pc := 6) (tgt := 19) hx hb dX1_takesRinger_6 (by decide) (fun cc_1 => ?_) (fun cc_1 => ?_)
  · have hp := hp.1 cc_1
    refine lv_aload_n (pc := 19) hx hb dX1_takesRinger_19 rfl (lv_at hl 0 rfl) ?_
    refine sx_getR (pc := 20) (j := 0) B hH hk_th coX1 rfl w_257 rfl dX1_takesRinger_20 ?_
    refine W.eq (g2 := F0 m 23 ls [va_rf (gR S th 0)]) rfl ?_
    obtain ⟨a_2, ha_2, hp⟩ := hp
    refine sx_nonnull (x := a_2) ha_2 ?_
    obtain ⟨hk_3, hp⟩ := hp
    refine sx_V (pc := 23) (As := []) (rest := []) B hH hl.1 (C_X7_next G l a_2 _ _ hp) mi_X7_next coX7 hk_3 w_603 w_604 w_644 rfl rfl ⟨Nat.le_of_ble_eq_true rfl, Nat.le_of_ble_eq_true rfl⟩ (Nat.le_of_ble_eq_true rfl) ⟨Nat.le_of_ble_eq_true rfl, Nat.le_of_ble_eq_true rfl⟩ dX1_takesRinger_23 (fun v S1 H locs hq hH => ?_)
    obtain ⟨F_4, J_4, rfl, e9, hp⟩ := hq
    rw [e9] at hH
    have hH : Hp G (FA S s.heap.size) s.heap (wA S F_4 J_4 (gR S)) H locs := hH
    refine W.eq (g2 := F0 m 26 ls []) rfl ?_
    refine lv_aload_n (pc := 26) hx hb dX1_takesRinger_26 rfl (lv_at hl 0 rfl) ?_
    refine sx_V (pc := 27) (As := []) (rest := []) B hH hl.1 (C_X1_takesNewName G l th _ _ hp) mi_X1_takesNewName coX1 hk_th w_651 w_10 w_649 rfl rfl ⟨Nat.le_of_ble_eq_true rfl, Nat.le_of_ble_eq_true rfl⟩ (Nat.le_of_ble_eq_true rfl) ⟨Nat.le_of_ble_eq_true rfl, Nat.le_of_ble_eq_true rfl⟩ dX1_takesRinger_27 (fun v S1 H locs hq hH => ?_)
    obtain ⟨r_5, F_5, J_5, rfl, e9, hp⟩ := hq
    rw [e9] at hH
    have hH : Hp G (FA S s.heap.size) s.heap (wA S F_5 J_5 (gR S)) H locs := hH
    refine W.eq (g2 := F0 m 30 ls [.int r_5]) rfl ?_
    refine lv_if_ne (pc := 30) (tgt := 35) hx hb dX1_takesRinger_30 (by decide) (fun cc_6 => ?_) (fun cc_6 => ?_)
    · have hp := hp.1 cc_6
      refine lv_aload_n (pc := 35) hx hb dX1_takesRinger_35 rfl (lv_at hl 0 rfl) ?_
      refine lv_dup (pc := 36) hx hb dX1_takesRinger_36 rfl ?_
      refine sx_getI (pc := 37) (j := 3) B hH hk_th coX1 rfl w_260 rfl dX1_takesRinger_37 ?_
      refine W.eq (g2 := F0 m 40 ls [.int (F_5 th 3), .ref th]) rfl ?_
      refine lv_iconst (pc := 40) (v := 1) hx hb dX1_takesRinger_40 (by decide) ?_
      refine lv_iadd (pc := 41) hx hb dX1_takesRinger_41 ?_
      refine lv_topi (fun v_7 ev_7 => ?_)
      have hp := hp v_7 ev_7
      obtain ⟨F_8, eF_8⟩ : ∃ z : Nat → Nat → Int32, z = upI F_5 th 3 v_7 := ⟨_, rfl⟩
      have hp := hp F_8 eF_8
      refine sx_putI (pc := 42) (j := 3) B hH hk_th coX1 rfl w_260 rfl (Or.inl rfl) rfl dX1_takesRinger_42 (fun H locs hH => ?_)
      have hH : Hp G (FA S s.heap.size) s.heap (wA S F_8 J_5 (gR S)) H locs := by rw [eF_8]; exact hH
      refine lv_aload_n (pc := 45) hx hb dX1_takesRinger_45 rfl (lv_at hl 0 rfl) ?_
      refine sx_getR (pc := 46) (j := 0) B hH hk_th coX1 rfl w_257 rfl dX1_takesRinger_46 ?_
      refine W.eq (g2 := F0 m 49 ls [va_rf (gR S th 0)]) rfl ?_
      refine sx_nonnull (x := a_2) ha_2 ?_
      refine lv_iconst (pc := 49) (v := 3) hx hb dX1_takesRinger_49 (by decide) ?_
      refine sx_V (pc := 50) (As := [.int 3]) (rest := []) B hH hl.1 (C_X7_isAt G l a_2 3 _ _ hp) mi_X7_isAt coX7 hk_3 w_639 w_640 w_638 rfl rfl ⟨Nat.le_of_ble_eq_true rfl, Nat.le_of_ble_eq_true rfl⟩ (Nat.le_of_ble_eq_true rfl) ⟨Nat.le_of_ble_eq_true rfl, Nat.le_of_ble_eq_true rfl⟩ dX1_takesRinger_50 (fun v S1 H locs hq hH => ?_)
      obtain ⟨r_9, rfl, e9, hp⟩ := hq
      rw [e9] at hH
      refine W.eq (g2 := F0 m 53 ls [.int r_9]) rfl ?_
      refine lv_if_ne (pc := 53) (tgt := 64) hx hb dX1_takesRinger_53 (by decide) (fun cc_10 => ?_) (fun cc_10 => ?_)
      · have hp := hp.1 cc_10
        refine lv_aload_n (pc := 64) hx hb dX1_takesRinger_64 rfl (lv_at hl 0 rfl) ?_
        refine sx_getR (pc := 65) (j := 0) B hH hk_th coX1 rfl w_257 rfl dX1_takesRinger_65 ?_
        refine W.eq (g2 := F0 m 68 ls [va_rf (gR S th 0)]) rfl ?_
        refine sx_nonnull (x := a_2) ha_2 ?_
        refine sx_getI (pc := 68) (j := 7) B hH hk_3 coX7 rfl w_215 rfl dX1_takesRinger_68 ?_
        refine W.eq (g2 := F0 m 71 ls [.int (F_8 a_2 7)]) rfl ?_
        refine lv_iconst (pc := 71) (v := 1) hx hb dX1_takesRinger_71 (by decide) ?_
        obtain ⟨J_12, hj_12, hp⟩ := hp
        have kj_12 : ∀  (H : Heap) (locs : List Loc) (ls : Array Slot), J_12  → Hp G (FA S s.heap.size) s.heap (wA S F_8 J_5 (gR S)) H locs → lv_has ls 2 [(0, .ref th)] → Wm G p l e { frames := 4, cells := 0, slots := 0, locals := 84 } s m args below meth c S QQ 0 0 H locs 0 0 (F0 m 89 ls []) := by
          intro  H locs ls hq9 hH hl
          have hp := hj_12  hq9
          refine lv_aload_n (pc := 89) hx hb dX1_takesRinger_89 rfl (lv_at hl 0 rfl) ?_
          refine sx_getR (pc := 90) (j := 0) B hH hk_th coX1 rfl w_257 rfl dX1_takesRinger_90 ?_
          refine W.eq (g2 := F0 m 93 ls [va_rf (gR S th 0)]) rfl ?_
          refine sx_nonnull (x := a_2) ha_2 ?_
          refine lv_iconst (pc := 93) (v := 4) hx hb dX1_takesRinger_93 (by decide) ?_
          refine sx_V (pc := 94) (As := [.int 4]) (rest := []) B hH hl.1 (C_X7_wrong G l a_2 4 _ _ hp) mi_X7_wrong coX7 hk_3 w_635 w_636 w_643 rfl rfl ⟨Nat.le_of_ble_eq_true rfl, Nat.le_of_ble_eq_true rfl⟩ (Nat.le_of_ble_eq_true rfl) ⟨Nat.le_of_ble_eq_true rfl, Nat.le_of_ble_eq_true rfl⟩ dX1_takesRinger_94 (fun v S1 H locs hq hH => ?_)
          obtain ⟨r_13, F_13, rfl, e9, hp⟩ := hq
          rw [e9] at hH
          have hH : Hp G (FA S s.heap.size) s.heap (wA S F_13 J_5 (gR S)) H locs := hH
          refine W.eq (g2 := F0 m 97 ls [.int r_13]) rfl ?_
          obtain ⟨hz, hp⟩ := hp
          exact sx_zret (pc := 97) B hH hr hlk hz (by rw [← hQQ]; exact ⟨_, F_13, J_5, rfl, rfl, hp⟩) (Nat.le_of_ble_eq_true rfl) (Nat.le_of_ble_eq_true rfl) dX1_takesRinger_97
        refine lv_icmp_lt (pc := 72) (tgt := 89) hx hb dX1_takesRinger_72 (by decide) (fun cc_11 => ?_) (fun cc_11 => ?_)
        · have hp := hp.1 cc_11
          exact kj_12  _ _ _ hp hH (lv_sub hl [0] rfl)
        · have hp := hp.2 cc_11
          refine lv_aload_n (pc := 75) hx hb dX1_takesRinger_75 rfl (lv_at hl 0 rfl) ?_
          refine sx_getR (pc := 76) (j := 0) B hH hk_th coX1 rfl w_257 rfl dX1_takesRinger_76 ?_
          refine W.eq (g2 := F0 m 79 ls [va_rf (gR S th 0)]) rfl ?_
          refine sx_nonnull (x := a_2) ha_2 ?_
          refine sx_getI (pc := 79) (j := 7) B hH hk_3 coX7 rfl w_215 rfl dX1_takesRinger_79 ?_
          refine W.eq (g2 := F0 m 82 ls [.int (F_8 a_2 7)]) rfl ?_
          refine lv_aload_n (pc := 82) hx hb dX1_takesRinger_82 rfl (lv_at hl 0 rfl) ?_
          refine sx_getI (pc := 83) (j := 1) B hH hk_th coX1 rfl w_258 rfl dX1_takesRinger_83 ?_
          refine W.eq (g2 := F0 m 86 ls [.int (F_8 th 1), .int (F_8 a_2 7)]) rfl ?_
          refine lv_icmp_le (pc := 86) (tgt := 98) hx hb dX1_takesRinger_86 (by decide) (fun cc_14 => ?_) (fun cc_14 => ?_)
          · have hp := hp.1 cc_14
            refine lv_iconst (pc := 98) (v := 1) hx hb dX1_takesRinger_98 (by decide) ?_
            refine lv_aload_n (pc := 99) hx hb dX1_takesRinger_99 rfl (lv_at hl 0 rfl) ?_
            refine sx_getR (pc := 100) (j := 0) B hH hk_th coX1 rfl w_257 rfl dX1_takesRinger_100 ?_
            refine W.eq (g2 := F0 m 103 ls [va_rf (gR S th 0), .int 1]) rfl ?_
            refine sx_nonnull (x := a_2) ha_2 ?_
            refine sx_getI (pc := 103) (j := 7) B hH hk_3 coX7 rfl w_215 rfl dX1_takesRinger_103 ?_
            refine W.eq (g2 := F0 m 106 ls [.int (F_8 a_2 7), .int 1]) rfl ?_
            refine lv_iconst (pc := 106) (v := 1) hx hb dX1_takesRinger_106 (by decide) ?_
            refine lv_isub (pc := 107) hx hb dX1_takesRinger_107 ?_
            refine lv_ishl (pc := 108) hx hb dX1_takesRinger_108 ?_
            refine W.eq (g2 := F0 m 109 ls [.int (shl 1 ((F_8 a_2 7) - 1))]) rfl ?_
            refine lv_topi (fun v_15 ev_15 => ?_)
            have hp := hp v_15 ev_15
            refine lv_istore_n (pc := 109) (lv' := [(1, .int v_15), (0, .ref th)]) hx hb dX1_takesRinger_109 rfl hl (by decide) rfl (fun ls hl => ?_)
            refine lv_aload_n (pc := 110) hx hb dX1_takesRinger_110 rfl (lv_at hl 1 rfl) ?_
            refine sx_getI (pc := 111) (j := 4) B hH hk_th coX1 rfl w_261 rfl dX1_takesRinger_111 ?_
            refine W.eq (g2 := F0 m 114 ls [.int (F_8 th 4)]) rfl ?_
            refine lv_iload_n (pc := 114) hx hb dX1_takesRinger_114 rfl (lv_at hl 0 rfl) ?_
            refine lv_iand (pc := 115) hx hb dX1_takesRinger_115 ?_
            refine lv_if_eq (pc := 116) (tgt := 128) hx hb dX1_takesRinger_116 (by decide) (fun cc_16 => ?_) (fun cc_16 => ?_)
            · have hp := hp.1 cc_16
              refine lv_aload_n (pc := 128) hx hb dX1_takesRinger_128 rfl (lv_at hl 1 rfl) ?_
              refine lv_dup (pc := 129) hx hb dX1_takesRinger_129 rfl ?_
              refine sx_getI (pc := 130) (j := 4) B hH hk_th coX1 rfl w_261 rfl dX1_takesRinger_130 ?_
              refine W.eq (g2 := F0 m 133 ls [.int (F_8 th 4), .ref th]) rfl ?_
              refine lv_iload_n (pc := 133) hx hb dX1_takesRinger_133 rfl (lv_at hl 0 rfl) ?_
              refine lv_ior (pc := 134) hx hb dX1_takesRinger_134 ?_
              refine lv_topi (fun v_17 ev_17 => ?_)
              have hp := hp v_17 ev_17
              obtain ⟨F_18, eF_18⟩ : ∃ z : Nat → Nat → Int32, z = upI F_8 th 4 v_17 := ⟨_, rfl⟩
              have hp := hp F_18 eF_18
              refine sx_putI (pc := 135) (j := 4) B hH hk_th coX1 rfl w_261 rfl (Or.inl rfl) rfl dX1_takesRinger_135 (fun H locs hH => ?_)
              have hH : Hp G (FA S s.heap.size) s.heap (wA S F_18 J_5 (gR S)) H locs := by rw [eF_18]; exact hH
              refine lv_aload_n (pc := 138) hx hb dX1_takesRinger_138 rfl (lv_at hl 1 rfl) ?_
              refine sx_getR (pc := 139) (j := 0) B hH hk_th coX1 rfl w_257 rfl dX1_takesRinger_139 ?_
              refine W.eq (g2 := F0 m 142 ls [va_rf (gR S th 0)]) rfl ?_
              refine sx_nonnull (x := a_2) ha_2 ?_
              refine sx_V (pc := 142) (As := []) (rest := []) B hH hl.1 (C_X7_next G l a_2 _ _ hp) mi_X7_next coX7 hk_3 w_603 w_604 w_644 rfl rfl ⟨Nat.le_of_ble_eq_true rfl, Nat.le_of_ble_eq_true rfl⟩ (Nat.le_of_ble_eq_true rfl) ⟨Nat.le_of_ble_eq_true rfl, Nat.le_of_ble_eq_true rfl⟩ dX1_takesRinger_142 (fun v S1 H locs hq hH => ?_)
              obtain ⟨F_19, J_19, rfl, e9, hp⟩ := hq
              rw [e9] at hH
              have hH : Hp G (FA S s.heap.size) s.heap (wA S F_19 J_19 (gR S)) H locs := hH
              refine W.eq (g2 := F0 m 145 ls []) rfl ?_
              refine lv_aload_n (pc := 145) hx hb dX1_takesRinger_145 rfl (lv_at hl 1 rfl) ?_
              refine sx_getR (pc := 146) (j := 0) B hH hk_th coX1 rfl w_257 rfl dX1_takesRinger_146 ?_
              refine W.eq (g2 := F0 m 149 ls [va_rf (gR S th 0)]) rfl ?_
              refine sx_nonnull (x := a_2) ha_2 ?_
              refine lv_iconst (pc := 149) (v := 2) hx hb dX1_takesRinger_149 (by decide) ?_
              refine sx_V (pc := 150) (As := [.int 2]) (rest := []) B hH hl.1 (C_X7_take G l a_2 2 _ _ hp) mi_X7_take coX7 hk_3 w_627 w_628 w_626 rfl rfl ⟨Nat.le_of_ble_eq_true rfl, Nat.le_of_ble_eq_true rfl⟩ (Nat.le_of_ble_eq_true rfl) ⟨Nat.le_of_ble_eq_true rfl, Nat.le_of_ble_eq_true rfl⟩ dX1_takesRinger_150 (fun v S1 H locs hq hH => ?_)
              obtain ⟨r_20, F_20, J_20, rfl, e9, hp⟩ := hq
              rw [e9] at hH
              have hH : Hp G (FA S s.heap.size) s.heap (wA S F_20 J_20 (gR S)) H locs := hH
              refine W.eq (g2 := F0 m 153 ls [.int r_20]) rfl ?_
              obtain ⟨hz, hp⟩ := hp
              exact sx_zret (pc := 153) B hH hr hlk hz (by rw [← hQQ]; exact ⟨_, F_20, J_20, rfl, rfl, hp⟩) (Nat.le_of_ble_eq_true rfl) (Nat.le_of_ble_eq_true rfl) dX1_takesRinger_153
            · have hp := hp.2 cc_16
              refine lv_aload_n (pc := 119) hx hb dX1_takesRinger_119 rfl (lv_at hl 1 rfl) ?_
              refine sx_getR (pc := 120) (j := 0) B hH hk_th coX1 rfl w_257 rfl dX1_takesRinger_120 ?_
              refine W.eq (g2 := F0 m 123 ls [va_rf (gR S th 0)]) rfl ?_
              refine sx_nonnull (x := a_2) ha_2 ?_
              refine lv_iconst (pc := 123) (v := 5) hx hb dX1_takesRinger_123 (by decide) ?_
              refine sx_V (pc := 124) (As := [.int 5]) (rest := []) B hH hl.1 (C_X7_wrong G l a_2 5 _ _ hp) mi_X7_wrong coX7 hk_3 w_635 w_636 w_643 rfl rfl ⟨Nat.le_of_ble_eq_true rfl, Nat.le_of_ble_eq_true rfl⟩ (Nat.le_of_ble_eq_true rfl) ⟨Nat.le_of_ble_eq_true rfl, Nat.le_of_ble_eq_true rfl⟩ dX1_takesRinger_124 (fun v S1 H locs hq hH => ?_)
              obtain ⟨r_21, F_21, rfl, e9, hp⟩ := hq
              rw [e9] at hH
              have hH : Hp G (FA S s.heap.size) s.heap (wA S F_21 J_5 (gR S)) H locs := hH
              refine W.eq (g2 := F0 m 127 ls [.int r_21]) rfl ?_
              obtain ⟨hz, hp⟩ := hp
              exact sx_zret (pc := 127) B hH hr hlk hz (by rw [← hQQ]; exact ⟨_, F_21, J_5, rfl, rfl, hp⟩) (Nat.le_of_ble_eq_true rfl) (Nat.le_of_ble_eq_true rfl) dX1_takesRinger_127
          · have hp := hp.2 cc_14
            exact kj_12  _ _ _ hp hH (lv_sub hl [0] rfl)
      · have hp := hp.2 cc_10
        refine lv_aload_n (pc := 56) hx hb dX1_takesRinger_56 rfl (lv_at hl 0 rfl) ?_
        refine sx_getR (pc := 57) (j := 0) B hH hk_th coX1 rfl w_257 rfl dX1_takesRinger_57 ?_
        refine W.eq (g2 := F0 m 60 ls [va_rf (gR S th 0)]) rfl ?_
        refine sx_nonnull (x := a_2) ha_2 ?_
        refine sx_V (pc := 60) (As := []) (rest := []) B hH hl.1 (C_X7_misplaced G l a_2 _ _ hp) mi_X7_misplaced coX7 hk_3 w_631 w_632 w_642 rfl rfl ⟨Nat.le_of_ble_eq_true rfl, Nat.le_of_ble_eq_true rfl⟩ (Nat.le_of_ble_eq_true rfl) ⟨Nat.le_of_ble_eq_true rfl, Nat.le_of_ble_eq_true rfl⟩ dX1_takesRinger_60 (fun v S1 H locs hq hH => ?_)
        obtain ⟨r_22, F_22, rfl, e9, hp⟩ := hq
        rw [e9] at hH
        have hH : Hp G (FA S s.heap.size) s.heap (wA S F_22 J_5 (gR S)) H locs := hH
        refine W.eq (g2 := F0 m 63 ls [.int r_22]) rfl ?_
        obtain ⟨hz, hp⟩ := hp
        exact sx_zret (pc := 63) B hH hr hlk hz (by rw [← hQQ]; exact ⟨_, F_22, J_5, rfl, rfl, hp⟩) (Nat.le_of_ble_eq_true rfl) (Nat.le_of_ble_eq_true rfl) dX1_takesRinger_63
    · have hp := hp.2 cc_6
      refine lv_iconst (pc := 33) (v := 0) hx hb dX1_takesRinger_33 (by decide) ?_
      exact sx_zret (pc := 34) B hH hr hlk (Or.inl rfl) (by rw [← hQQ]; exact ⟨_, F_5, J_5, rfl, rfl, hp⟩) (Nat.le_of_ble_eq_true rfl) (Nat.le_of_ble_eq_true rfl) dX1_takesRinger_34
  · have hp := hp.2 cc_1
    refine lv_aload_n (pc := 9) hx hb dX1_takesRinger_9 rfl (lv_at hl 0 rfl) ?_
    refine sx_getR (pc := 10) (j := 0) B hH hk_th coX1 rfl w_257 rfl dX1_takesRinger_10 ?_
    refine W.eq (g2 := F0 m 13 ls [va_rf (gR S th 0)]) rfl ?_
    obtain ⟨a_23, ha_23, hp⟩ := hp
    refine sx_nonnull (x := a_23) ha_23 ?_
    refine lv_bipush (pc := 13) (v := 6) hx hb dX1_takesRinger_13 (by decide) ?_
    obtain ⟨hk_24, hp⟩ := hp
    refine sx_V (pc := 15) (As := [.int 6]) (rest := []) B hH hl.1 (C_X7_wrong G l a_23 6 _ _ hp) mi_X7_wrong coX7 hk_24 w_635 w_636 w_643 rfl rfl ⟨Nat.le_of_ble_eq_true rfl, Nat.le_of_ble_eq_true rfl⟩ (Nat.le_of_ble_eq_true rfl) ⟨Nat.le_of_ble_eq_true rfl, Nat.le_of_ble_eq_true rfl⟩ dX1_takesRinger_15 (fun v S1 H locs hq hH => ?_)
    obtain ⟨r_25, F_25, rfl, e9, hp⟩ := hq
    rw [e9] at hH
    have hH : Hp G (FA S s.heap.size) s.heap (wI S F_25) H locs := hH
    refine W.eq (g2 := F0 m 18 ls [.int r_25]) rfl ?_
    obtain ⟨hz, hp⟩ := hp
    exact sx_zret (pc := 18) B hH hr hlk hz (by rw [← hQQ]; exact ⟨_, F_25, (gJ S), rfl, rfl, hp⟩) (Nat.le_of_ble_eq_true rfl) (Nat.le_of_ble_eq_true rfl) dX1_takesRinger_18
theorem dX1_takes_0 : decode cX1_takes 0 = .ok (.aload_n 0, 1) := by decide +kernel
theorem dX1_takes_1 : decode cX1_takes 1 = .ok (.iconst 0, 1) := by decide +kernel
theorem dX1_takes_2 : decode cX1_takes 2 = .ok (.putfield 15, 3) := by decide +kernel
theorem dX1_takes_5 : decode cX1_takes 5 = .ok (.aload_n 0, 1) := by decide +kernel
theorem dX1_takes_6 : decode cX1_takes 6 = .ok (.iconst 0, 1) := by decide +kernel
theorem dX1_takes_7 : decode cX1_takes 7 = .ok (.putfield 18, 3) := by decide +kernel
theorem dX1_takes_10 : decode cX1_takes 10 = .ok (.aload_n 0, 1) := by decide +kernel
theorem dX1_takes_11 : decode cX1_takes 11 = .ok (.iconst 0, 1) := by decide +kernel
theorem dX1_takes_12 : decode cX1_takes 12 = .ok (.putfield 21, 3) := by decide +kernel
theorem dX1_takes_15 : decode cX1_takes 15 = .ok (.aload_n 0, 1) := by decide +kernel
theorem dX1_takes_16 : decode cX1_takes 16 = .ok (.getfield 49, 3) := by decide +kernel
theorem dX1_takes_19 : decode cX1_takes 19 = .ok (.iload_n 1, 1) := by decide +kernel
theorem dX1_takes_20 : decode cX1_takes 20 = .ok (.invokevirtual 53, 3) := by decide +kernel
theorem dX1_takes_23 : decode cX1_takes 23 = .ok (.aload_n 0, 1) := by decide +kernel
theorem dX1_takes_24 : decode cX1_takes 24 = .ok (.invokevirtual 59, 3) := by decide +kernel
theorem dX1_takes_27 : decode cX1_takes 27 = .ok (.ifCond .ne 5, 3) := by decide +kernel
theorem dX1_takes_30 : decode cX1_takes 30 = .ok (.iconst 0, 1) := by decide +kernel
theorem dX1_takes_31 : decode cX1_takes 31 = .ok (.ireturn, 1) := by decide +kernel
theorem dX1_takes_32 : decode cX1_takes 32 = .ok (.iconst 0, 1) := by decide +kernel
theorem dX1_takes_33 : decode cX1_takes 33 = .ok (.istore_n 2, 1) := by decide +kernel
theorem dX1_takes_34 : decode cX1_takes 34 = .ok (.iload_n 2, 1) := by decide +kernel
theorem dX1_takes_35 : decode cX1_takes 35 = .ok (.sipush 900, 3) := by decide +kernel
theorem dX1_takes_38 : decode cX1_takes 38 = .ok (.if_icmp .gt 76, 3) := by decide +kernel
theorem dX1_takes_41 : decode cX1_takes 41 = .ok (.aload_n 0, 1) := by decide +kernel
theorem dX1_takes_42 : decode cX1_takes 42 = .ok (.getfield 49, 3) := by decide +kernel
theorem dX1_takes_45 : decode cX1_takes 45 = .ok (.iconst 1, 1) := by decide +kernel
theorem dX1_takes_46 : decode cX1_takes 46 = .ok (.invokevirtual 63, 3) := by decide +kernel
theorem dX1_takes_49 : decode cX1_takes 49 = .ok (.ifCond .ne 65, 3) := by decide +kernel
theorem dX1_takes_52 : decode cX1_takes 52 = .ok (.iconst 0, 1) := by decide +kernel
theorem dX1_takes_53 : decode cX1_takes 53 = .ok (.istore_n 3, 1) := by decide +kernel
theorem dX1_takes_54 : decode cX1_takes 54 = .ok (.aload_n 0, 1) := by decide +kernel
theorem dX1_takes_55 : decode cX1_takes 55 = .ok (.getfield 49, 3) := by decide +kernel
theorem dX1_takes_58 : decode cX1_takes 58 = .ok (.bipush 7, 2) := by decide +kernel
theorem dX1_takes_60 : decode cX1_takes 60 = .ok (.invokevirtual 63, 3) := by decide +kernel
theorem dX1_takes_63 : decode cX1_takes 63 = .ok (.ifCond .eq 11, 3) := by decide +kernel
theorem dX1_takes_66 : decode cX1_takes 66 = .ok (.aload_n 0, 1) := by decide +kernel
theorem dX1_takes_67 : decode cX1_takes 67 = .ok (.invokevirtual 67, 3) := by decide +kernel
theorem dX1_takes_70 : decode cX1_takes 70 = .ok (.istore_n 3, 1) := by decide +kernel
theorem dX1_takes_71 : decode cX1_takes 71 = .ok (.goto 31, 3) := by decide +kernel
theorem dX1_takes_74 : decode cX1_takes 74 = .ok (.aload_n 0, 1) := by decide +kernel
theorem dX1_takes_75 : decode cX1_takes 75 = .ok (.getfield 49, 3) := by decide +kernel
theorem dX1_takes_78 : decode cX1_takes 78 = .ok (.bipush 12, 2) := by decide +kernel
theorem dX1_takes_80 : decode cX1_takes 80 = .ok (.invokevirtual 63, 3) := by decide +kernel
theorem dX1_takes_83 : decode cX1_takes 83 = .ok (.ifCond .eq 11, 3) := by decide +kernel
theorem dX1_takes_86 : decode cX1_takes 86 = .ok (.aload_n 0, 1) := by decide +kernel
theorem dX1_takes_87 : decode cX1_takes 87 = .ok (.invokevirtual 70, 3) := by decide +kernel
theorem dX1_takes_90 : decode cX1_takes 90 = .ok (.istore_n 3, 1) := by decide +kernel
theorem dX1_takes_91 : decode cX1_takes 91 = .ok (.goto 11, 3) := by decide +kernel
theorem dX1_takes_94 : decode cX1_takes 94 = .ok (.aload_n 0, 1) := by decide +kernel
theorem dX1_takes_95 : decode cX1_takes 95 = .ok (.getfield 49, 3) := by decide +kernel
theorem dX1_takes_98 : decode cX1_takes 98 = .ok (.invokevirtual 73, 3) := by decide +kernel
theorem dX1_takes_101 : decode cX1_takes 101 = .ok (.istore_n 3, 1) := by decide +kernel
theorem dX1_takes_102 : decode cX1_takes 102 = .ok (.iload_n 3, 1) := by decide +kernel
theorem dX1_takes_103 : decode cX1_takes 103 = .ok (.ifCond .ne 5, 3) := by decide +kernel
theorem dX1_takes_106 : decode cX1_takes 106 = .ok (.iconst 0, 1) := by decide +kernel
theorem dX1_takes_107 : decode cX1_takes 107 = .ok (.ireturn, 1) := by decide +kernel
theorem dX1_takes_108 : decode cX1_takes 108 = .ok (.iinc 2 1, 3) := by decide +kernel
theorem dX1_takes_111 : decode cX1_takes 111 = .ok (.goto (-77), 3) := by decide +kernel
theorem dX1_takes_114 : decode cX1_takes 114 = .ok (.iconst 1, 1) := by decide +kernel
theorem dX1_takes_115 : decode cX1_takes 115 = .ok (.ireturn, 1) := by decide +kernel
theorem mi_X1_takes : MI yX1_takes cX1_takes 4 (some FieldType.boolean) 1 := ⟨w_594, w_111, by decide +kernel, by decide +kernel, by decide +kernel⟩
set_option maxRecDepth 100000 in
set_option maxHeartbeats 4000000 in
theorem C_X1_takes (G : GG) (l : Launch) (th : Nat) (p0 : Int32) (S : St) (Q : Int32 → (Nat → Nat → Int32) → (Nat → Nat → Int64) → Prop) (hp : P_X1_takes th p0 S Q) : Ctr G l yX1_takes cX1_takes 4 (some FieldType.boolean) 5 112 0 0 [.ref th, .int p0] S (fun (v : Option Value) (S9 : St) => ∃ (r : Int32) (I9 : Nat → Nat → Int32) (J9 : Nat → Nat → Int64), v = some (.int r) ∧ S9 = wA S I9 J9 (gR S) ∧ Q r I9 J9) := by
  generalize hQQ : (fun (v : Option Value) (S9 : St) => ∃ (r : Int32) (I9 : Nat → Nat → Int32) (J9 : Nat → Nat → Int64), v = some (.int r) ∧ S9 = wA S I9 J9 (gR S) ∧ Q r I9 J9) = QQ
  unfold P_X1_takes at hp
  refine Ctr.of (by decide) (Nat.le_of_ble_eq_true rfl) ?_
  intro p e s m args below meth c ls B hr hlk hin hl hH
  generalize hlocs0 : ([] : List Loc) = locs at hH ⊢
  have hx := B.1
  have hb := B.2.1
  have hl : lv_has ls 4 [(0, .ref th), (1, .int p0)] := hl
  obtain ⟨hk_th, hp⟩ := hp
  refine lv_aload_n (pc := 0) hx hb dX1_takes_0 rfl (lv_at hl 0 rfl) ?_
  refine lv_iconst (pc := 1) (v := 0) hx hb dX1_takes_1 (by decide) ?_
  obtain ⟨F_1, eF_1⟩ : ∃ z : Nat → Nat → Int32, z = upI (gI S) th 2 0 := ⟨_, rfl⟩
  have hp := hp F_1 eF_1
  refine sx_putI (pc := 2) (j := 2) B hH hk_th coX1 rfl w_259 rfl (Or.inl rfl) rfl dX1_takes_2 (fun H locs hH => ?_)
  have hH : Hp G (FA S s.heap.size) s.heap (wI S F_1) H locs := by rw [eF_1]; exact hH
  refine lv_aload_n (pc := 5) hx hb dX1_takes_5 rfl (lv_at hl 0 rfl) ?_
  refine lv_iconst (pc := 6) (v := 0) hx hb dX1_takes_6 (by decide) ?_
  obtain ⟨F_2, eF_2⟩ : ∃ z : Nat → Nat → Int32, z = upI F_1 th 3 0 := ⟨_, rfl⟩
  have hp := hp F_2 eF_2
  refine sx_putI (pc := 7) (j := 3) B hH hk_th coX1 rfl w_260 rfl (Or.inl rfl) rfl dX1_takes_7 (fun H locs hH => ?_)
  have hH : Hp G (FA S s.heap.size) s.heap (wI S F_2) H locs := by rw [eF_2]; exact hH
  refine lv_aload_n (pc := 10) hx hb dX1_takes_10 rfl (lv_at hl 0 rfl) ?_
  refine lv_iconst (pc := 11) (v := 0) hx hb dX1_takes_11 (by decide) ?_
  obtain ⟨F_3, eF_3⟩ : ∃ z : Nat → Nat → Int32, z = upI F_2 th 4 0 := ⟨_, rfl⟩
  have hp := hp F_3 eF_3
  refine sx_putI (pc := 12) (j := 4) B hH hk_th coX1 rfl w_261 rfl (Or.inl rfl) rfl dX1_takes_12 (fun H locs hH => ?_)
  have hH : Hp G (FA S s.heap.size) s.heap (wI S F_3) H locs := by rw [eF_3]; exact hH
  refine lv_aload_n (pc := 15) hx hb dX1_takes_15 rfl (lv_at hl 0 rfl) ?_
  refine sx_getR (pc := 16) (j := 0) B hH hk_th coX1 rfl w_257 rfl dX1_takes_16 ?_
  refine W.eq (g2 := F0 m 19 ls [va_rf (gR S th 0)]) rfl ?_
  obtain ⟨a_4, ha_4, hp⟩ := hp
  refine sx_nonnull (x := a_4) ha_4 ?_
  refine lv_iload_n (pc := 19) hx hb dX1_takes_19 rfl (lv_at hl 1 rfl) ?_
  obtain ⟨hk_5, hp⟩ := hp
  refine sx_V (pc := 20) (As := [.int p0]) (rest := []) B hH hl.1 (C_X7_open G l a_4 p0 _ _ hp) mi_X7_open coX7 hk_5 w_596 w_597 w_595 rfl rfl ⟨Nat.le_of_ble_eq_true rfl, Nat.le_of_ble_eq_true rfl⟩ (Nat.le_of_ble_eq_true rfl) ⟨Nat.le_of_ble_eq_true rfl, Nat.le_of_ble_eq_true rfl⟩ dX1_takes_20 (fun v S1 H locs hq hH => ?_)
  obtain ⟨F_6, J_6, rfl, e9, hp⟩ := hq
  rw [e9] at hH
  have hH : Hp G (FA S s.heap.size) s.heap (wA S F_6 J_6 (gR S)) H locs := hH
  refine W.eq (g2 := F0 m 23 ls []) rfl ?_
  refine lv_aload_n (pc := 23) hx hb dX1_takes_23 rfl (lv_at hl 0 rfl) ?_
  refine sx_V (pc := 24) (As := []) (rest := []) B hH hl.1 (C_X1_takesStage G l th _ _ hp) mi_X1_takesStage coX1 hk_th w_624 w_8 w_622 rfl rfl ⟨Nat.le_of_ble_eq_true rfl, Nat.le_of_ble_eq_true rfl⟩ (Nat.le_of_ble_eq_true rfl) ⟨Nat.le_of_ble_eq_true rfl, Nat.le_of_ble_eq_true rfl⟩ dX1_takes_24 (fun v S1 H locs hq hH => ?_)
  obtain ⟨r_7, F_7, J_7, rfl, e9, hp⟩ := hq
  rw [e9] at hH
  have hH : Hp G (FA S s.heap.size) s.heap (wA S F_7 J_7 (gR S)) H locs := hH
  refine W.eq (g2 := F0 m 27 ls [.int r_7]) rfl ?_
  refine lv_if_ne (pc := 27) (tgt := 32) hx hb dX1_takes_27 (by decide) (fun cc_8 => ?_) (fun cc_8 => ?_)
  · have hp := hp.1 cc_8
    refine lv_iconst (pc := 32) (v := 0) hx hb dX1_takes_32 (by decide) ?_
    refine lv_istore_n (pc := 33) (lv' := [(2, .int 0), (0, .ref th), (1, .int p0)]) hx hb dX1_takes_33 rfl hl (by decide) rfl (fun ls hl => ?_)
    obtain ⟨I_9, ⟨k0_9, h0_9⟩, hst_9⟩ := hp
    have kl_9 : ∀ (n_9 : Nat) (x2_10 : Int32) (F_11 : Nat → Nat → Int32) (J_12 : Nat → Nat → Int64) (H : Heap) (locs : List Loc) (ls : Array Slot), I_9 n_9 x2_10 F_11 J_12 → Hp G (FA S s.heap.size) s.heap (wA S F_11 J_12 (gR S)) H locs → lv_has ls 4 [(0, .ref th), (2, .int x2_10)] → Wm G p l e { frames := 5, cells := 0, slots := 0, locals := 112 } s m args below meth c S QQ 0 0 H locs 0 0 (F0 m 34 ls []) := by
      intro n_9
      induction n_9 using Nat.strongRecOn with
      | ind n_9 ih_9 =>
        intro x2_10 F_11 J_12 H locs ls hq9 hH hl
        have hp := hst_9 n_9 x2_10 F_11 J_12 hq9
        refine lv_iload_n (pc := 34) hx hb dX1_takes_34 rfl (lv_at hl 1 rfl) ?_
        refine lv_sipush (pc := 35) (v := 900) hx hb dX1_takes_35 (by decide) ?_
        refine lv_icmp_gt (pc := 38) (tgt := 114) hx hb dX1_takes_38 (by decide) (fun cc_13 => ?_) (fun cc_13 => ?_)
        · have hp := hp.1 cc_13
          refine lv_iconst (pc := 114) (v := 1) hx hb dX1_takes_114 (by decide) ?_
          exact sx_zret (pc := 115) B hH hr hlk (Or.inr rfl) (by rw [← hQQ]; exact ⟨_, F_11, J_12, rfl, rfl, hp⟩) (Nat.le_of_ble_eq_true rfl) (Nat.le_of_ble_eq_true rfl) dX1_takes_115
        · have hp := hp.2 cc_13
          refine lv_aload_n (pc := 41) hx hb dX1_takes_41 rfl (lv_at hl 0 rfl) ?_
          refine sx_getR (pc := 42) (j := 0) B hH hk_th coX1 rfl w_257 rfl dX1_takes_42 ?_
          refine W.eq (g2 := F0 m 45 ls [va_rf (gR S th 0)]) rfl ?_
          refine sx_nonnull (x := a_4) ha_4 ?_
          refine lv_iconst (pc := 45) (v := 1) hx hb dX1_takes_45 (by decide) ?_
          refine sx_V (pc := 46) (As := [.int 1]) (rest := []) B hH hl.1 (C_X7_isAt G l a_4 1 _ _ hp) mi_X7_isAt coX7 hk_5 w_639 w_640 w_638 rfl rfl ⟨Nat.le_of_ble_eq_true rfl, Nat.le_of_ble_eq_true rfl⟩ (Nat.le_of_ble_eq_true rfl) ⟨Nat.le_of_ble_eq_true rfl, Nat.le_of_ble_eq_true rfl⟩ dX1_takes_46 (fun v S1 H locs hq hH => ?_)
          obtain ⟨r_14, rfl, e9, hp⟩ := hq
          rw [e9] at hH
          refine W.eq (g2 := F0 m 49 ls [.int r_14]) rfl ?_
          refine lv_if_ne (pc := 49) (tgt := 114) hx hb dX1_takes_49 (by decide) (fun cc_15 => ?_) (fun cc_15 => ?_)
          · have hp := hp.1 cc_15
            refine lv_iconst (pc := 114) (v := 1) hx hb dX1_takes_114 (by decide) ?_
            exact sx_zret (pc := 115) B hH hr hlk (Or.inr rfl) (by rw [← hQQ]; exact ⟨_, F_11, J_12, rfl, rfl, hp⟩) (Nat.le_of_ble_eq_true rfl) (Nat.le_of_ble_eq_true rfl) dX1_takes_115
          · have hp := hp.2 cc_15
            refine lv_iconst (pc := 52) (v := 0) hx hb dX1_takes_52 (by decide) ?_
            refine lv_istore_n (pc := 53) (lv' := [(3, .int 0), (0, .ref th), (2, .int x2_10)]) hx hb dX1_takes_53 rfl hl (by decide) rfl (fun ls hl => ?_)
            refine lv_aload_n (pc := 54) hx hb dX1_takes_54 rfl (lv_at hl 1 rfl) ?_
            refine sx_getR (pc := 55) (j := 0) B hH hk_th coX1 rfl w_257 rfl dX1_takes_55 ?_
            refine W.eq (g2 := F0 m 58 ls [va_rf (gR S th 0)]) rfl ?_
            refine sx_nonnull (x := a_4) ha_4 ?_
            refine lv_bipush (pc := 58) (v := 7) hx hb dX1_takes_58 (by decide) ?_
            refine sx_V (pc := 60) (As := [.int 7]) (rest := []) B hH hl.1 (C_X7_isAt G l a_4 7 _ _ hp) mi_X7_isAt coX7 hk_5 w_639 w_640 w_638 rfl rfl ⟨Nat.le_of_ble_eq_true rfl, Nat.le_of_ble_eq_true rfl⟩ (Nat.le_of_ble_eq_true rfl) ⟨Nat.le_of_ble_eq_true rfl, Nat.le_of_ble_eq_true rfl⟩ dX1_takes_60 (fun v S1 H locs hq hH => ?_)
            obtain ⟨r_16, rfl, e9, hp⟩ := hq
            rw [e9] at hH
            refine W.eq (g2 := F0 m 63 ls [.int r_16]) rfl ?_
            obtain ⟨J_18, hj_18, hp⟩ := hp
            have kj_18 : ∀ (x3_19 : Int32) (F_20 : Nat → Nat → Int32) (J_21 : Nat → Nat → Int64) (H : Heap) (locs : List Loc) (ls : Array Slot), J_18 x3_19 F_20 J_21 → Hp G (FA S s.heap.size) s.heap (wA S F_20 J_21 (gR S)) H locs → lv_has ls 4 [(0, .ref th), (2, .int x2_10), (3, .int x3_19)] → Wm G p l e { frames := 5, cells := 0, slots := 0, locals := 112 } s m args below meth c S QQ 0 0 H locs 0 0 (F0 m 102 ls []) := by
              intro x3_19 F_20 J_21 H locs ls hq9 hH hl
              have hp := hj_18 x3_19 F_20 J_21 hq9
              refine lv_iload_n (pc := 102) hx hb dX1_takes_102 rfl (lv_at hl 2 rfl) ?_
              refine lv_if_ne (pc := 103) (tgt := 108) hx hb dX1_takes_103 (by decide) (fun cc_22 => ?_) (fun cc_22 => ?_)
              · have hp := hp.1 cc_22
                obtain ⟨v_23, ev_23⟩ : ∃ y : Int32, y = x2_10 + 1 := ⟨_, rfl⟩
                have hp := hp v_23 ev_23
                refine lv_iinc (pc := 108) (v := v_23) (lv' := [(2, .int v_23), (0, .ref th), (3, .int x3_19)]) hx hb dX1_takes_108 hl (k := 1) rfl (by rw [ev_23]; rfl) (by decide) rfl (fun ls hl => ?_)
                refine lv_goto (pc := 111) (tgt := 34) hx hb dX1_takes_111 (by decide) ?_
                obtain ⟨k9, hlt9, hp⟩ := hp
                exact ih_9 k9 hlt9 _ _ _ _ _ _ hp hH (lv_sub hl [1, 0] rfl)
              · have hp := hp.2 cc_22
                refine lv_iconst (pc := 106) (v := 0) hx hb dX1_takes_106 (by decide) ?_
                exact sx_zret (pc := 107) B hH hr hlk (Or.inl rfl) (by rw [← hQQ]; exact ⟨_, F_20, J_21, rfl, rfl, hp⟩) (Nat.le_of_ble_eq_true rfl) (Nat.le_of_ble_eq_true rfl) dX1_takes_107
            refine lv_if_eq (pc := 63) (tgt := 74) hx hb dX1_takes_63 (by decide) (fun cc_17 => ?_) (fun cc_17 => ?_)
            · have hp := hp.1 cc_17
              refine lv_aload_n (pc := 74) hx hb dX1_takes_74 rfl (lv_at hl 1 rfl) ?_
              refine sx_getR (pc := 75) (j := 0) B hH hk_th coX1 rfl w_257 rfl dX1_takes_75 ?_
              refine W.eq (g2 := F0 m 78 ls [va_rf (gR S th 0)]) rfl ?_
              refine sx_nonnull (x := a_4) ha_4 ?_
              refine lv_bipush (pc := 78) (v := 12) hx hb dX1_takes_78 (by decide) ?_
              refine sx_V (pc := 80) (As := [.int 12]) (rest := []) B hH hl.1 (C_X7_isAt G l a_4 12 _ _ hp) mi_X7_isAt coX7 hk_5 w_639 w_640 w_638 rfl rfl ⟨Nat.le_of_ble_eq_true rfl, Nat.le_of_ble_eq_true rfl⟩ (Nat.le_of_ble_eq_true rfl) ⟨Nat.le_of_ble_eq_true rfl, Nat.le_of_ble_eq_true rfl⟩ dX1_takes_80 (fun v S1 H locs hq hH => ?_)
              obtain ⟨r_24, rfl, e9, hp⟩ := hq
              rw [e9] at hH
              refine W.eq (g2 := F0 m 83 ls [.int r_24]) rfl ?_
              refine lv_if_eq (pc := 83) (tgt := 94) hx hb dX1_takes_83 (by decide) (fun cc_25 => ?_) (fun cc_25 => ?_)
              · have hp := hp.1 cc_25
                refine lv_aload_n (pc := 94) hx hb dX1_takes_94 rfl (lv_at hl 1 rfl) ?_
                refine sx_getR (pc := 95) (j := 0) B hH hk_th coX1 rfl w_257 rfl dX1_takes_95 ?_
                refine W.eq (g2 := F0 m 98 ls [va_rf (gR S th 0)]) rfl ?_
                refine sx_nonnull (x := a_4) ha_4 ?_
                refine sx_V (pc := 98) (As := []) (rest := []) B hH hl.1 (C_X7_misplaced G l a_4 _ _ hp) mi_X7_misplaced coX7 hk_5 w_631 w_632 w_642 rfl rfl ⟨Nat.le_of_ble_eq_true rfl, Nat.le_of_ble_eq_true rfl⟩ (Nat.le_of_ble_eq_true rfl) ⟨Nat.le_of_ble_eq_true rfl, Nat.le_of_ble_eq_true rfl⟩ dX1_takes_98 (fun v S1 H locs hq hH => ?_)
                obtain ⟨r_26, F_26, rfl, e9, hp⟩ := hq
                rw [e9] at hH
                have hH : Hp G (FA S s.heap.size) s.heap (wA S F_26 J_12 (gR S)) H locs := hH
                refine W.eq (g2 := F0 m 101 ls [.int r_26]) rfl ?_
                refine lv_istore_n (pc := 101) (lv' := [(3, .int r_26), (0, .ref th), (2, .int x2_10)]) hx hb dX1_takes_101 rfl hl (by decide) rfl (fun ls hl => ?_)
                exact kj_18 _ _ _ _ _ _ hp hH (lv_sub hl [1, 2, 0] rfl)
              · have hp := hp.2 cc_25
                refine lv_aload_n (pc := 86) hx hb dX1_takes_86 rfl (lv_at hl 1 rfl) ?_
                refine sx_V (pc := 87) (As := []) (rest := []) B hH hl.1 (C_X1_takesRinger G l th _ _ hp) mi_X1_takesRinger coX1 hk_th w_681 w_15 w_679 rfl rfl ⟨Nat.le_of_ble_eq_true rfl, Nat.le_of_ble_eq_true rfl⟩ (Nat.le_of_ble_eq_true rfl) ⟨Nat.le_of_ble_eq_true rfl, Nat.le_of_ble_eq_true rfl⟩ dX1_takes_87 (fun v S1 H locs hq hH => ?_)
                obtain ⟨r_27, F_27, J_27, rfl, e9, hp⟩ := hq
                rw [e9] at hH
                have hH : Hp G (FA S s.heap.size) s.heap (wA S F_27 J_27 (gR S)) H locs := hH
                refine W.eq (g2 := F0 m 90 ls [.int r_27]) rfl ?_
                refine lv_istore_n (pc := 90) (lv' := [(3, .int r_27), (0, .ref th), (2, .int x2_10)]) hx hb dX1_takes_90 rfl hl (by decide) rfl (fun ls hl => ?_)
                refine lv_goto (pc := 91) (tgt := 102) hx hb dX1_takes_91 (by decide) ?_
                exact kj_18 _ _ _ _ _ _ hp hH (lv_sub hl [1, 2, 0] rfl)
            · have hp := hp.2 cc_17
              refine lv_aload_n (pc := 66) hx hb dX1_takes_66 rfl (lv_at hl 1 rfl) ?_
              refine sx_V (pc := 67) (As := []) (rest := []) B hH hl.1 (C_X1_takesMethod G l th _ _ hp) mi_X1_takesMethod coX1 hk_th w_647 w_9 w_645 rfl rfl ⟨Nat.le_of_ble_eq_true rfl, Nat.le_of_ble_eq_true rfl⟩ (Nat.le_of_ble_eq_true rfl) ⟨Nat.le_of_ble_eq_true rfl, Nat.le_of_ble_eq_true rfl⟩ dX1_takes_67 (fun v S1 H locs hq hH => ?_)
              obtain ⟨r_28, F_28, J_28, rfl, e9, hp⟩ := hq
              rw [e9] at hH
              have hH : Hp G (FA S s.heap.size) s.heap (wA S F_28 J_28 (gR S)) H locs := hH
              refine W.eq (g2 := F0 m 70 ls [.int r_28]) rfl ?_
              refine lv_istore_n (pc := 70) (lv' := [(3, .int r_28), (0, .ref th), (2, .int x2_10)]) hx hb dX1_takes_70 rfl hl (by decide) rfl (fun ls hl => ?_)
              refine lv_goto (pc := 71) (tgt := 102) hx hb dX1_takes_71 (by decide) ?_
              exact kj_18 _ _ _ _ _ _ hp hH (lv_sub hl [1, 2, 0] rfl)
    exact kl_9 k0_9 _ _ _ _ _ _ h0_9 hH (lv_sub hl [1, 0] rfl)
  · have hp := hp.2 cc_8
    refine lv_iconst (pc := 30) (v := 0) hx hb dX1_takes_30 (by decide) ?_
    exact sx_zret (pc := 31) B hH hr hlk (Or.inl rfl) (by rw [← hQQ]; exact ⟨_, F_7, J_7, rfl, rfl, hp⟩) (Nat.le_of_ble_eq_true rfl) (Nat.le_of_ble_eq_true rfl) dX1_takes_31
theorem dX1_made_0 : decode cX1_made 0 = .ok (.aload_n 0, 1) := by decide +kernel
theorem dX1_made_1 : decode cX1_made 1 = .ok (.getfield 15, 3) := by decide +kernel
theorem dX1_made_4 : decode cX1_made 4 = .ok (.anewarray 76, 3) := by decide +kernel
theorem dX1_made_7 : decode cX1_made 7 = .ok (.astore_n 1, 1) := by decide +kernel
theorem dX1_made_8 : decode cX1_made 8 = .ok (.iconst 0, 1) := by decide +kernel
theorem dX1_made_9 : decode cX1_made 9 = .ok (.istore_n 2, 1) := by decide +kernel
theorem dX1_made_10 : decode cX1_made 10 = .ok (.iload_n 2, 1) := by decide +kernel
theorem dX1_made_11 : decode cX1_made 11 = .ok (.aload_n 0, 1) := by decide +kernel
theorem dX1_made_12 : decode cX1_made 12 = .ok (.getfield 15, 3) := by decide +kernel
theorem dX1_made_15 : decode cX1_made 15 = .ok (.if_icmp .ge 58, 3) := by decide +kernel
theorem dX1_made_18 : decode cX1_made 18 = .ok (.aload_n 0, 1) := by decide +kernel
theorem dX1_made_19 : decode cX1_made 19 = .ok (.getfield 36, 3) := by decide +kernel
theorem dX1_made_22 : decode cX1_made 22 = .ok (.iload_n 2, 1) := by decide +kernel
theorem dX1_made_23 : decode cX1_made 23 = .ok (.aaload, 1) := by decide +kernel
theorem dX1_made_24 : decode cX1_made 24 = .ok (.aload_n 0, 1) := by decide +kernel
theorem dX1_made_25 : decode cX1_made 25 = .ok (.getfield 39, 3) := by decide +kernel
theorem dX1_made_28 : decode cX1_made 28 = .ok (.iload_n 2, 1) := by decide +kernel
theorem dX1_made_29 : decode cX1_made 29 = .ok (.iaload, 1) := by decide +kernel
theorem dX1_made_30 : decode cX1_made 30 = .ok (.invokestatic 78, 3) := by decide +kernel
theorem dX1_made_33 : decode cX1_made 33 = .ok (.astore_n 3, 1) := by decide +kernel
theorem dX1_made_34 : decode cX1_made 34 = .ok (.aload_n 1, 1) := by decide +kernel
theorem dX1_made_35 : decode cX1_made 35 = .ok (.iload_n 2, 1) := by decide +kernel
theorem dX1_made_36 : decode cX1_made 36 = .ok (.new 76, 3) := by decide +kernel
theorem dX1_made_39 : decode cX1_made 39 = .ok (.dup, 1) := by decide +kernel
theorem dX1_made_40 : decode cX1_made 40 = .ok (.aload_n 0, 1) := by decide +kernel
theorem dX1_made_41 : decode cX1_made 41 = .ok (.getfield 31, 3) := by decide +kernel
theorem dX1_made_44 : decode cX1_made 44 = .ok (.iload_n 2, 1) := by decide +kernel
theorem dX1_made_45 : decode cX1_made 45 = .ok (.laload, 1) := by decide +kernel
theorem dX1_made_46 : decode cX1_made 46 = .ok (.aload_n 0, 1) := by decide +kernel
theorem dX1_made_47 : decode cX1_made 47 = .ok (.getfield 9, 3) := by decide +kernel
theorem dX1_made_50 : decode cX1_made 50 = .ok (.aload_n 3, 1) := by decide +kernel
theorem dX1_made_51 : decode cX1_made 51 = .ok (.aload_n 0, 1) := by decide +kernel
theorem dX1_made_52 : decode cX1_made 52 = .ok (.getfield 43, 3) := by decide +kernel
theorem dX1_made_55 : decode cX1_made 55 = .ok (.iload_n 2, 1) := by decide +kernel
theorem dX1_made_56 : decode cX1_made 56 = .ok (.iaload, 1) := by decide +kernel
theorem dX1_made_57 : decode cX1_made 57 = .ok (.aload_n 0, 1) := by decide +kernel
theorem dX1_made_58 : decode cX1_made 58 = .ok (.getfield 46, 3) := by decide +kernel
theorem dX1_made_61 : decode cX1_made 61 = .ok (.iload_n 2, 1) := by decide +kernel
theorem dX1_made_62 : decode cX1_made 62 = .ok (.iaload, 1) := by decide +kernel
theorem dX1_made_63 : decode cX1_made 63 = .ok (.invokespecial 84, 3) := by decide +kernel
theorem dX1_made_66 : decode cX1_made 66 = .ok (.aastore, 1) := by decide +kernel
theorem dX1_made_67 : decode cX1_made 67 = .ok (.iinc 2 1, 3) := by decide +kernel
theorem dX1_made_70 : decode cX1_made 70 = .ok (.goto (-60), 3) := by decide +kernel
theorem dX1_made_73 : decode cX1_made 73 = .ok (.new 87, 3) := by decide +kernel
theorem dX1_made_76 : decode cX1_made 76 = .ok (.dup, 1) := by decide +kernel
theorem dX1_made_77 : decode cX1_made 77 = .ok (.aload_n 0, 1) := by decide +kernel
theorem dX1_made_78 : decode cX1_made 78 = .ok (.getfield 9, 3) := by decide +kernel
theorem dX1_made_81 : decode cX1_made 81 = .ok (.aload_n 0, 1) := by decide +kernel
theorem dX1_made_82 : decode cX1_made 82 = .ok (.getfield 9, 3) := by decide +kernel
theorem dX1_made_85 : decode cX1_made 85 = .ok (.invokestatic 89, 3) := by decide +kernel
theorem dX1_made_88 : decode cX1_made 88 = .ok (.aload_n 0, 1) := by decide +kernel
theorem dX1_made_89 : decode cX1_made 89 = .ok (.getfield 21, 3) := by decide +kernel
theorem dX1_made_92 : decode cX1_made 92 = .ok (.iconst (-1), 1) := by decide +kernel
theorem dX1_made_93 : decode cX1_made 93 = .ok (.ixor, 1) := by decide +kernel
theorem dX1_made_94 : decode cX1_made 94 = .ok (.iand, 1) := by decide +kernel
theorem dX1_made_95 : decode cX1_made 95 = .ok (.aload_n 1, 1) := by decide +kernel
theorem dX1_made_96 : decode cX1_made 96 = .ok (.invokespecial 95, 3) := by decide +kernel
theorem dX1_made_99 : decode cX1_made 99 = .ok (.areturn, 1) := by decide +kernel
theorem mi_X1_made : MI yX1_made cX1_made 4 (some (FieldType.object "RingChamber$Book")) 0 := ⟨w_686, w_111, by decide +kernel, by decide +kernel, by decide +kernel⟩
set_option maxRecDepth 100000 in
set_option maxHeartbeats 4000000 in
theorem C_X1_made (G : GG) (l : Launch) (th : Nat) (S : St) (bc bs : Nat) (Q : Option Nat → St → Prop) (hp : P_X1_made th S bc bs Q) : Ctr G l yX1_made cX1_made 4 (some (FieldType.object "RingChamber$Book")) 2 82 bc bs [.ref th] S (fun (v : Option Value) (S9 : St) => ∃ r : Option Nat, v = some (va_rf r) ∧ Q r S9) := by
  generalize hQQ : (fun (v : Option Value) (S9 : St) => ∃ r : Option Nat, v = some (va_rf r) ∧ Q r S9) = QQ
  unfold P_X1_made at hp
  refine Ctr.of (by decide) (Nat.le_of_ble_eq_true rfl) ?_
  intro p e s m args below meth c ls B hr hlk hin hl hH
  generalize hlocs0 : ([] : List Loc) = locs at hH ⊢
  have hx := B.1
  have hb := B.2.1
  have hl : lv_has ls 4 [(0, .ref th)] := hl
  obtain ⟨hk_th, hp⟩ := hp
  refine lv_aload_n (pc := 0) hx hb dX1_made_0 rfl (lv_at hl 0 rfl) ?_
  refine sx_getI (pc := 1) (j := 2) B hH hk_th coX1 rfl w_259 rfl dX1_made_1 ?_
  refine W.eq (g2 := F0 m 4 ls [.int (gI S th 2)]) rfl ?_
  refine lv_topi (fun v_2 ev_2 => ?_)
  have hp := hp v_2 ev_2
  obtain ⟨hc_3, hp⟩ := hp
  obtain ⟨hc_4, hp⟩ := hp
  obtain ⟨hc_5, hp⟩ := hp
  obtain ⟨hc_6, hp⟩ := hp
  refine sx_newq (pc := 4) (S := S) (k0 := 4) B hH B.2.2.2.2.2.1.2.1.2.1 (by decide) rfl w_687 rfl hc_3 hc_4 (show _ + 1 ≤ bc by omega) (show _ + v_2.toNatClampNeg ≤ bs by omega) dX1_made_4 (fun q_1 H hq_1 hH => ?_)
  obtain ⟨S_1, eS_1⟩ : ∃ z : St, z = alo S q_1 24 v_2.toNatClampNeg := ⟨_, rfl⟩
  have hp := hp q_1 hq_1 S_1 eS_1
  have hH : Hp G (FA S s.heap.size) s.heap S_1 H locs := by rw [eS_1]; exact hH
  have hk_1 : kd S_1 q_1 = 24 := by rw [eS_1]; exact kd_alo
  refine W.eq (g2 := F0 m 7 ls [.ref q_1]) rfl ?_
  refine lv_astore_n (pc := 7) (lv' := [(1, .ref q_1), (0, .ref th)]) hx hb dX1_made_7 rfl hl (by decide) rfl (fun ls hl => ?_)
  refine lv_iconst (pc := 8) (v := 0) hx hb dX1_made_8 (by decide) ?_
  refine lv_istore_n (pc := 9) (lv' := [(2, .int 0), (1, .ref q_1), (0, .ref th)]) hx hb dX1_made_9 rfl hl (by decide) rfl (fun ls hl => ?_)
  obtain ⟨I_7, ⟨k0_7, h0_7⟩, hst_7⟩ := hp
  have kl_7 : ∀ (n_7 : Nat) (x2_8 : Int32) (S_9 : St) (b_10 : Nat) (d_10 : Nat) (H : Heap) (locs : List Loc) (ls : Array Slot) (cells slots : Nat), I_7 n_7 x2_8 S_9 b_10 d_10 → cells + b_10 ≤ bc → slots + d_10 ≤ bs → Hp G (FA S s.heap.size) s.heap S_9 H locs → lv_has ls 4 [(0, .ref th), (1, .ref q_1), (2, .int x2_8)] → Wm G p l e { frames := 2, cells := bc, slots := bs, locals := 82 } s m args below meth c S QQ bc bs H locs cells slots (F0 m 10 ls []) := by
    intro n_7
    induction n_7 using Nat.strongRecOn with
    | ind n_7 ih_7 =>
      intro x2_8 S_9 b_10 d_10 H locs ls cells slots hq9 hcc_7 hss_7 hH hl
      have hp := hst_7 n_7 x2_8 S_9 b_10 d_10 hq9
      refine lv_iload_n (pc := 10) hx hb dX1_made_10 rfl (lv_at hl 2 rfl) ?_
      refine lv_aload_n (pc := 11) hx hb dX1_made_11 rfl (lv_at hl 0 rfl) ?_
      obtain ⟨hk_11, hp⟩ := hp
      refine sx_getI (pc := 12) (j := 2) B hH hk_11 coX1 rfl w_259 rfl dX1_made_12 ?_
      refine W.eq (g2 := F0 m 15 ls [.int (gI S_9 th 2), .int x2_8]) rfl ?_
      refine lv_icmp_ge (pc := 15) (tgt := 73) hx hb dX1_made_15 (by decide) (fun cc_12 => ?_) (fun cc_12 => ?_)
      · have hp := hp.1 cc_12
        obtain ⟨hc_14, hp⟩ := hp
        obtain ⟨hc_15, hp⟩ := hp
        refine sx_new (pc := 73) (S := S_9) B hH coX0 dvX0 w_735 w_338 w_113 (show _ + 1 ≤ bc by omega) (show _ + 4 ≤ bs by omega) dX1_made_73 (fun q_13 H hq_13 hH => ?_)
        obtain ⟨S_13, eS_13⟩ : ∃ z : St, z = alo S_9 q_13 1 0 := ⟨_, rfl⟩
        have hp := hp q_13 hq_13 S_13 eS_13
        have hH : Hp G (FA S s.heap.size) s.heap S_13 H locs := by rw [eS_13]; exact hH
        have hk_13 : kd S_13 q_13 = 1 := by rw [eS_13]; exact kd_alo
        refine W.eq (g2 := F0 m 76 ls [.ref q_13]) rfl ?_
        refine lv_dup (pc := 76) hx hb dX1_made_76 rfl ?_
        refine lv_aload_n (pc := 77) hx hb dX1_made_77 rfl (lv_at hl 0 rfl) ?_
        obtain ⟨hk_16, hp⟩ := hp
        refine sx_getI (pc := 78) (j := 1) B hH hk_16 coX1 rfl w_258 rfl dX1_made_78 ?_
        refine W.eq (g2 := F0 m 81 ls [.int (gI S_13 th 1), .ref q_13, .ref q_13]) rfl ?_
        refine lv_aload_n (pc := 81) hx hb dX1_made_81 rfl (lv_at hl 0 rfl) ?_
        refine sx_getI (pc := 82) (j := 1) B hH hk_16 coX1 rfl w_258 rfl dX1_made_82 ?_
        refine W.eq (g2 := F0 m 85 ls [.int (gI S_13 th 1), .int (gI S_13 th 1), .ref q_13, .ref q_13]) rfl ?_
        refine sx_S (pc := 85) (As := [.int (gI S_13 th 1)]) (rest := [.int (gI S_13 th 1), .ref q_13, .ref q_13]) B hH hl.1 (C_X4_allBells G l (gI S_13 th 1) _ _ hp) mi_X4_allBells w_340 w_736 rfl rfl ⟨Nat.le_of_ble_eq_true rfl, Nat.le_of_ble_eq_true rfl⟩ (Nat.le_of_ble_eq_true rfl) ⟨(show _ + 0 ≤ bc by omega), (show _ + 0 ≤ bs by omega)⟩ dX1_made_85 (fun v S1 H locs hq hH => ?_)
        obtain ⟨r_17, rfl, e9, hp⟩ := hq
        rw [e9] at hH
        refine W.eq (g2 := F0 m 88 ls [.int r_17, .int (gI S_13 th 1), .ref q_13, .ref q_13]) rfl ?_
        refine lv_aload_n (pc := 88) hx hb dX1_made_88 rfl (lv_at hl 0 rfl) ?_
        refine sx_getI (pc := 89) (j := 4) B hH hk_16 coX1 rfl w_261 rfl dX1_made_89 ?_
        refine W.eq (g2 := F0 m 92 ls [.int (gI S_13 th 4), .int r_17, .int (gI S_13 th 1), .ref q_13, .ref q_13]) rfl ?_
        refine lv_iconst (pc := 92) (v := (-1)) hx hb dX1_made_92 (by decide) ?_
        refine lv_ixor (pc := 93) hx hb dX1_made_93 ?_
        refine lv_iand (pc := 94) hx hb dX1_made_94 ?_
        refine lv_aload_n (pc := 95) hx hb dX1_made_95 rfl (lv_at hl 1 rfl) ?_
        refine sx_I (pc := 96) (As := [.int (gI S_13 th 1), .int (r_17 &&& ((gI S_13 th 4) ^^^ (-1))), .ref q_1]) (rest := [.ref q_13]) B hH hl.1 (C_X0_init G l q_13 (gI S_13 th 1) (r_17 &&& ((gI S_13 th 4) ^^^ (-1))) q_1 _ _ hp) mi_X0_init rfl w_344 w_737 rfl rfl ⟨Nat.le_of_ble_eq_true rfl, Nat.le_of_ble_eq_true rfl⟩ (Nat.le_of_ble_eq_true rfl) ⟨(show _ + 0 ≤ bc by omega), (show _ + 0 ≤ bs by omega)⟩ dX1_made_96 (fun v S1 H locs hq hH => ?_)
        obtain ⟨F_18, R_18, rfl, e9, hp⟩ := hq
        rw [e9] at hH
        have hH : Hp G (FA S s.heap.size) s.heap (wA S_13 F_18 (gJ S_13) R_18) H locs := hH
        refine W.eq (g2 := F0 m 99 ls [.ref q_13]) rfl ?_
        exact sx_aret (pc := 99) (r := (some q_13)) B hH hr (by simp) hlk (by rw [← hQQ]; exact ⟨_, rfl, hp⟩) (show _ ≤ bc by omega) (show _ ≤ bs by omega) dX1_made_99
      · have hp := hp.2 cc_12
        refine lv_aload_n (pc := 18) hx hb dX1_made_18 rfl (lv_at hl 0 rfl) ?_
        refine sx_getR (pc := 19) (j := 8) B hH hk_11 coX1 rfl w_265 rfl dX1_made_19 ?_
        refine W.eq (g2 := F0 m 22 ls [va_rf (gR S_9 th 8)]) rfl ?_
        obtain ⟨a_19, ha_19, hp⟩ := hp
        refine sx_nonnull (x := a_19) ha_19 ?_
        refine lv_iload_n (pc := 22) hx hb dX1_made_22 rfl (lv_at hl 2 rfl) ?_
        obtain ⟨hk_20, hp⟩ := hp
        obtain ⟨hn_21, hp⟩ := hp
        refine sx_aald (pc := 23) B hH hk_20 (by decide) (by decide) hn_21 dX1_made_23 ?_
        refine W.eq (g2 := F0 m 24 ls [va_rf (gR S_9 a_19 x2_8.toNatClampNeg)]) rfl ?_
        obtain ⟨a_22, ha_22, hp⟩ := hp
        refine sx_nonnull (x := a_22) ha_22 ?_
        refine lv_aload_n (pc := 24) hx hb dX1_made_24 rfl (lv_at hl 0 rfl) ?_
        refine sx_getR (pc := 25) (j := 9) B hH hk_11 coX1 rfl w_266 rfl dX1_made_25 ?_
        refine W.eq (g2 := F0 m 28 ls [va_rf (gR S_9 th 9), .ref a_22]) rfl ?_
        obtain ⟨a_23, ha_23, hp⟩ := hp
        refine sx_nonnull (x := a_23) ha_23 ?_
        refine lv_iload_n (pc := 28) hx hb dX1_made_28 rfl (lv_at hl 2 rfl) ?_
        obtain ⟨hk_24, hp⟩ := hp
        obtain ⟨hn_25, hp⟩ := hp
        refine sx_iald (pc := 29) B hH hk_24 hn_25 dX1_made_29 ?_
        refine W.eq (g2 := F0 m 30 ls [.int (gI S_9 a_23 x2_8.toNatClampNeg), .ref a_22]) rfl ?_
        obtain ⟨c_26, s_26, hb_26, hs_26, hp⟩ := hp
        refine sx_S (pc := 30) (As := [.ref a_22, .int (gI S_9 a_23 x2_8.toNatClampNeg)]) (rest := []) B hH hl.1 (C_J7_copyOf_59c91 G l a_22 (gI S_9 a_23 x2_8.toNatClampNeg) _ c_26 s_26 _ hp) mi_J7_copyOf_59c91 w_689 w_688 rfl rfl ⟨Nat.le_of_ble_eq_true rfl, Nat.le_of_ble_eq_true rfl⟩ (Nat.le_of_ble_eq_true rfl) ⟨(show _ + c_26 ≤ bc by omega), (show _ + s_26 ≤ bs by omega)⟩ dX1_made_30 (fun v S1 H locs hq hH => ?_)
        obtain ⟨r_27, rfl, hp⟩ := hq
        obtain ⟨S_27, eS_27⟩ : ∃ z : St, z = S1 := ⟨_, rfl⟩
        rw [← eS_27] at hp hH
        refine W.eq (g2 := F0 m 33 ls [va_rf r_27]) rfl ?_
        refine sx_astore_n (pc := 33) (r := r_27) (lv' := [(3, va_rf r_27), (0, .ref th), (1, .ref q_1), (2, .int x2_8)]) B dX1_made_33 rfl hl (by decide) rfl (fun ls hl => ?_)
        refine lv_aload_n (pc := 34) hx hb dX1_made_34 rfl (lv_at hl 2 rfl) ?_
        refine lv_iload_n (pc := 35) hx hb dX1_made_35 rfl (lv_at hl 3 rfl) ?_
        obtain ⟨hc_29, hp⟩ := hp
        obtain ⟨hc_30, hp⟩ := hp
        refine sx_new (pc := 36) (S := S_27) B hH coX3 dvX3 w_687 w_700 w_123 (show _ + 1 ≤ bc by omega) (show _ + 5 ≤ bs by omega) dX1_made_36 (fun q_28 H hq_28 hH => ?_)
        obtain ⟨S_28, eS_28⟩ : ∃ z : St, z = alo S_27 q_28 4 0 := ⟨_, rfl⟩
        have hp := hp q_28 hq_28 S_28 eS_28
        have hH : Hp G (FA S s.heap.size) s.heap S_28 H locs := by rw [eS_28]; exact hH
        have hk_28 : kd S_28 q_28 = 4 := by rw [eS_28]; exact kd_alo
        refine W.eq (g2 := F0 m 39 ls [.ref q_28, .int x2_8, .ref q_1]) rfl ?_
        refine lv_dup (pc := 39) hx hb dX1_made_39 rfl ?_
        refine lv_aload_n (pc := 40) hx hb dX1_made_40 rfl (lv_at hl 1 rfl) ?_
        obtain ⟨hk_31, hp⟩ := hp
        refine sx_getR (pc := 41) (j := 7) B hH hk_31 coX1 rfl w_264 rfl dX1_made_41 ?_
        refine W.eq (g2 := F0 m 44 ls [va_rf (gR S_28 th 7), .ref q_28, .ref q_28, .int x2_8, .ref q_1]) rfl ?_
        obtain ⟨a_32, ha_32, hp⟩ := hp
        refine sx_nonnull (x := a_32) ha_32 ?_
        refine lv_iload_n (pc := 44) hx hb dX1_made_44 rfl (lv_at hl 3 rfl) ?_
        obtain ⟨hk_33, hp⟩ := hp
        obtain ⟨hn_34, hp⟩ := hp
        refine sx_lald (pc := 45) B hH hk_33 hn_34 dX1_made_45 ?_
        refine W.eq (g2 := F0 m 46 ls [.long (gJ S_28 a_32 x2_8.toNatClampNeg), .ref q_28, .ref q_28, .int x2_8, .ref q_1]) rfl ?_
        refine lv_aload_n (pc := 46) hx hb dX1_made_46 rfl (lv_at hl 1 rfl) ?_
        refine sx_getI (pc := 47) (j := 1) B hH hk_31 coX1 rfl w_258 rfl dX1_made_47 ?_
        refine W.eq (g2 := F0 m 50 ls [.int (gI S_28 th 1), .long (gJ S_28 a_32 x2_8.toNatClampNeg), .ref q_28, .ref q_28, .int x2_8, .ref q_1]) rfl ?_
        refine sx_aload_n (pc := 50) (r := r_27) B dX1_made_50 rfl (lv_at hl 0 rfl) ?_
        obtain ⟨a_35, ha_35, hp⟩ := hp
        refine sx_nonnull (x := a_35) ha_35 ?_
        refine lv_aload_n (pc := 51) hx hb dX1_made_51 rfl (lv_at hl 1 rfl) ?_
        refine sx_getR (pc := 52) (j := 10) B hH hk_31 coX1 rfl w_267 rfl dX1_made_52 ?_
        refine W.eq (g2 := F0 m 55 ls [va_rf (gR S_28 th 10), .ref a_35, .int (gI S_28 th 1), .long (gJ S_28 a_32 x2_8.toNatClampNeg), .ref q_28, .ref q_28, .int x2_8, .ref q_1]) rfl ?_
        obtain ⟨a_36, ha_36, hp⟩ := hp
        refine sx_nonnull (x := a_36) ha_36 ?_
        refine lv_iload_n (pc := 55) hx hb dX1_made_55 rfl (lv_at hl 3 rfl) ?_
        obtain ⟨hk_37, hp⟩ := hp
        obtain ⟨hn_38, hp⟩ := hp
        refine sx_iald (pc := 56) B hH hk_37 hn_38 dX1_made_56 ?_
        refine W.eq (g2 := F0 m 57 ls [.int (gI S_28 a_36 x2_8.toNatClampNeg), .ref a_35, .int (gI S_28 th 1), .long (gJ S_28 a_32 x2_8.toNatClampNeg), .ref q_28, .ref q_28, .int x2_8, .ref q_1]) rfl ?_
        refine lv_aload_n (pc := 57) hx hb dX1_made_57 rfl (lv_at hl 1 rfl) ?_
        refine sx_getR (pc := 58) (j := 11) B hH hk_31 coX1 rfl w_268 rfl dX1_made_58 ?_
        refine W.eq (g2 := F0 m 61 ls [va_rf (gR S_28 th 11), .int (gI S_28 a_36 x2_8.toNatClampNeg), .ref a_35, .int (gI S_28 th 1), .long (gJ S_28 a_32 x2_8.toNatClampNeg), .ref q_28, .ref q_28, .int x2_8, .ref q_1]) rfl ?_
        obtain ⟨a_39, ha_39, hp⟩ := hp
        refine sx_nonnull (x := a_39) ha_39 ?_
        refine lv_iload_n (pc := 61) hx hb dX1_made_61 rfl (lv_at hl 3 rfl) ?_
        obtain ⟨hk_40, hp⟩ := hp
        obtain ⟨hn_41, hp⟩ := hp
        refine sx_iald (pc := 62) B hH hk_40 hn_41 dX1_made_62 ?_
        refine W.eq (g2 := F0 m 63 ls [.int (gI S_28 a_39 x2_8.toNatClampNeg), .int (gI S_28 a_36 x2_8.toNatClampNeg), .ref a_35, .int (gI S_28 th 1), .long (gJ S_28 a_32 x2_8.toNatClampNeg), .ref q_28, .ref q_28, .int x2_8, .ref q_1]) rfl ?_
        obtain ⟨c_42, s_42, hb_42, hs_42, hp⟩ := hp
        refine sx_I (pc := 63) (As := [.long (gJ S_28 a_32 x2_8.toNatClampNeg), .int (gI S_28 th 1), .ref a_35, .int (gI S_28 a_36 x2_8.toNatClampNeg), .int (gI S_28 a_39 x2_8.toNatClampNeg)]) (rest := [.ref q_28, .int x2_8, .ref q_1]) B hH hl.1 (C_X3_init G l q_28 (gJ S_28 a_32 x2_8.toNatClampNeg) (gI S_28 th 1) a_35 (gI S_28 a_36 x2_8.toNatClampNeg) (gI S_28 a_39 x2_8.toNatClampNeg) _ c_42 s_42 _ hp) mi_X3_init rfl w_702 w_701 rfl rfl ⟨Nat.le_of_ble_eq_true rfl, Nat.le_of_ble_eq_true rfl⟩ (Nat.le_of_ble_eq_true rfl) ⟨(show _ + c_42 ≤ bc by omega), (show _ + s_42 ≤ bs by omega)⟩ dX1_made_63 (fun v S1 H locs hq hH => ?_)
        obtain ⟨rfl, hp⟩ := hq
        obtain ⟨S_43, eS_43⟩ : ∃ z : St, z = S1 := ⟨_, rfl⟩
        rw [← eS_43] at hp hH
        refine W.eq (g2 := F0 m 66 ls [.ref q_28, .int x2_8, .ref q_1]) rfl ?_
        obtain ⟨hk_44, hp⟩ := hp
        obtain ⟨hn_45, hp⟩ := hp
        obtain ⟨hk_46, hp⟩ := hp
        obtain ⟨R_47, eR_47⟩ : ∃ z : Nat → Nat → Option Nat, z = upR (gR S_43) q_1 x2_8.toNatClampNeg (some q_28) := ⟨_, rfl⟩
        have hp := hp R_47 eR_47
        refine sx_aast (pc := 66) (r := (some q_28)) B hH hk_44 (by decide) rfl coX3 (fun v hv => by cases hv; exact hk_46) hn_45 dX1_made_66 (fun H locs hH => ?_)
        have hH : Hp G (FA S s.heap.size) s.heap (wA S_43 (gI S_43) (gJ S_43) R_47) H locs := by rw [eR_47]; exact hH
        obtain ⟨v_48, ev_48⟩ : ∃ y : Int32, y = x2_8 + 1 := ⟨_, rfl⟩
        have hp := hp v_48 ev_48
        refine lv_iinc (pc := 67) (v := v_48) (lv' := [(2, .int v_48), (3, va_rf r_27), (0, .ref th), (1, .ref q_1)]) hx hb dX1_made_67 hl (k := 3) rfl (by rw [ev_48]; rfl) (by decide) rfl (fun ls hl => ?_)
        refine lv_goto (pc := 70) (tgt := 10) hx hb dX1_made_70 (by decide) ?_
        obtain ⟨k9, hlt9, hp⟩ := hp
        exact ih_7 k9 hlt9 _ _ _ _ _ _ _ _ _ hp (show _ + (b_10 - c_26 - 1 - c_42) ≤ bc by omega) (show _ + (d_10 - s_26 - 5 - s_42) ≤ bs by omega) hH (lv_sub hl [2, 3, 0] rfl)
  exact kl_7 k0_7 _ _ _ _ _ _ _ _ _ h0_7 (show _ + (bc - 1) ≤ bc by omega) (show _ + (bs - v_2.toNatClampNeg) ≤ bs by omega) hH (lv_sub hl [2, 1, 0] rfl)
theorem dX9_addLine_0 : decode cX9_addLine 0 = .ok (.aload_n 0, 1) := by decide +kernel
theorem dX9_addLine_1 : decode cX9_addLine 1 = .ok (.getfield 18, 3) := by decide +kernel
theorem dX9_addLine_4 : decode cX9_addLine 4 = .ok (.bipush 60, 2) := by decide +kernel
theorem dX9_addLine_6 : decode cX9_addLine 6 = .ok (.if_icmp .ge 43, 3) := by decide +kernel
theorem dX9_addLine_9 : decode cX9_addLine 9 = .ok (.aload_n 0, 1) := by decide +kernel
theorem dX9_addLine_10 : decode cX9_addLine 10 = .ok (.getfield 21, 3) := by decide +kernel
theorem dX9_addLine_13 : decode cX9_addLine 13 = .ok (.aload_n 0, 1) := by decide +kernel
theorem dX9_addLine_14 : decode cX9_addLine 14 = .ok (.getfield 18, 3) := by decide +kernel
theorem dX9_addLine_17 : decode cX9_addLine 17 = .ok (.iload_n 1, 1) := by decide +kernel
theorem dX9_addLine_18 : decode cX9_addLine 18 = .ok (.iastore, 1) := by decide +kernel
theorem dX9_addLine_19 : decode cX9_addLine 19 = .ok (.aload_n 0, 1) := by decide +kernel
theorem dX9_addLine_20 : decode cX9_addLine 20 = .ok (.getfield 25, 3) := by decide +kernel
theorem dX9_addLine_23 : decode cX9_addLine 23 = .ok (.aload_n 0, 1) := by decide +kernel
theorem dX9_addLine_24 : decode cX9_addLine 24 = .ok (.getfield 18, 3) := by decide +kernel
theorem dX9_addLine_27 : decode cX9_addLine 27 = .ok (.iconst 0, 1) := by decide +kernel
theorem dX9_addLine_28 : decode cX9_addLine 28 = .ok (.iastore, 1) := by decide +kernel
theorem dX9_addLine_29 : decode cX9_addLine 29 = .ok (.aload_n 0, 1) := by decide +kernel
theorem dX9_addLine_30 : decode cX9_addLine 30 = .ok (.getfield 30, 3) := by decide +kernel
theorem dX9_addLine_33 : decode cX9_addLine 33 = .ok (.aload_n 0, 1) := by decide +kernel
theorem dX9_addLine_34 : decode cX9_addLine 34 = .ok (.getfield 18, 3) := by decide +kernel
theorem dX9_addLine_37 : decode cX9_addLine 37 = .ok (.aconst_null, 1) := by decide +kernel
theorem dX9_addLine_38 : decode cX9_addLine 38 = .ok (.aastore, 1) := by decide +kernel
theorem dX9_addLine_39 : decode cX9_addLine 39 = .ok (.aload_n 0, 1) := by decide +kernel
theorem dX9_addLine_40 : decode cX9_addLine 40 = .ok (.dup, 1) := by decide +kernel
theorem dX9_addLine_41 : decode cX9_addLine 41 = .ok (.getfield 18, 3) := by decide +kernel
theorem dX9_addLine_44 : decode cX9_addLine 44 = .ok (.iconst 1, 1) := by decide +kernel
theorem dX9_addLine_45 : decode cX9_addLine 45 = .ok (.iadd, 1) := by decide +kernel
theorem dX9_addLine_46 : decode cX9_addLine 46 = .ok (.putfield 18, 3) := by decide +kernel
theorem dX9_addLine_49 : decode cX9_addLine 49 = .ok (.return_, 1) := by decide +kernel
theorem mi_X9_addLine : MI yX9_addLine cX9_addLine 2 (none : Option Jvm.ClassFile.FieldType) 1 := ⟨w_760, w_112, by decide +kernel, by decide +kernel, by decide +kernel⟩
set_option maxRecDepth 100000 in
set_option maxHeartbeats 4000000 in
theorem C_X9_addLine (G : GG) (l : Launch) (th : Nat) (p0 : Int32) (S : St) (Q : (Nat → Nat → Int32) → (Nat → Nat → Option Nat) → Prop) (hp : P_X9_addLine th p0 S Q) : Ctr G l yX9_addLine cX9_addLine 2 (none : Option Jvm.ClassFile.FieldType) 0 0 0 0 [.ref th, .int p0] S (fun (v : Option Value) (S9 : St) => ∃ (I9 : Nat → Nat → Int32) (R9 : Nat → Nat → Option Nat), v = none ∧ S9 = wA S I9 (gJ S) R9 ∧ Q I9 R9) := by
  generalize hQQ : (fun (v : Option Value) (S9 : St) => ∃ (I9 : Nat → Nat → Int32) (R9 : Nat → Nat → Option Nat), v = none ∧ S9 = wA S I9 (gJ S) R9 ∧ Q I9 R9) = QQ
  unfold P_X9_addLine at hp
  refine Ctr.of (by decide) (Nat.le_of_ble_eq_true rfl) ?_
  intro p e s m args below meth c ls B hr hlk hin hl hH
  generalize hlocs0 : ([] : List Loc) = locs at hH ⊢
  have hx := B.1
  have hb := B.2.1
  have hl : lv_has ls 2 [(0, .ref th), (1, .int p0)] := hl
  obtain ⟨hk_th, hp⟩ := hp
  refine lv_aload_n (pc := 0) hx hb dX9_addLine_0 rfl (lv_at hl 0 rfl) ?_
  refine sx_getI (pc := 1) (j := 3) B hH hk_th coX9 rfl w_306 rfl dX9_addLine_1 ?_
  refine W.eq (g2 := F0 m 4 ls [.int (gI S th 3)]) rfl ?_
  refine lv_bipush (pc := 4) (v := 60) hx hb dX9_addLine_4 (by decide) ?_
  refine lv_icmp_ge (pc := 6) (tgt := 49) hx hb dX9_addLine_6 (by decide) (fun cc_1 => ?_) (fun cc_1 => ?_)
  · have hp := hp.1 cc_1
    exact sx_vret (pc := 49) B hH hr hlk (by rw [← hQQ]; exact ⟨(gI S), (gR S), rfl, rfl, hp⟩) (Nat.le_of_ble_eq_true rfl) (Nat.le_of_ble_eq_true rfl) dX9_addLine_49
  · have hp := hp.2 cc_1
    refine lv_aload_n (pc := 9) hx hb dX9_addLine_9 rfl (lv_at hl 0 rfl) ?_
    refine sx_getR (pc := 10) (j := 4) B hH hk_th coX9 rfl w_307 rfl dX9_addLine_10 ?_
    refine W.eq (g2 := F0 m 13 ls [va_rf (gR S th 4)]) rfl ?_
    obtain ⟨a_2, ha_2, hp⟩ := hp
    refine sx_nonnull (x := a_2) ha_2 ?_
    refine lv_aload_n (pc := 13) hx hb dX9_addLine_13 rfl (lv_at hl 0 rfl) ?_
    refine sx_getI (pc := 14) (j := 3) B hH hk_th coX9 rfl w_306 rfl dX9_addLine_14 ?_
    refine W.eq (g2 := F0 m 17 ls [.int (gI S th 3), .ref a_2]) rfl ?_
    refine lv_iload_n (pc := 17) hx hb dX9_addLine_17 rfl (lv_at hl 1 rfl) ?_
    obtain ⟨hk_3, hp⟩ := hp
    obtain ⟨hn_4, hp⟩ := hp
    obtain ⟨F_5, eF_5⟩ : ∃ z : Nat → Nat → Int32, z = upI (gI S) a_2 ((gI S th 3).toNatClampNeg) p0 := ⟨_, rfl⟩
    have hp := hp F_5 eF_5
    refine sx_iast (pc := 18) B hH hk_3 hn_4 dX9_addLine_18 (fun H locs hH => ?_)
    have hH : Hp G (FA S s.heap.size) s.heap (wI S F_5) H locs := by rw [eF_5]; exact hH
    refine lv_aload_n (pc := 19) hx hb dX9_addLine_19 rfl (lv_at hl 0 rfl) ?_
    refine sx_getR (pc := 20) (j := 5) B hH hk_th coX9 rfl w_308 rfl dX9_addLine_20 ?_
    refine W.eq (g2 := F0 m 23 ls [va_rf (gR S th 5)]) rfl ?_
    obtain ⟨a_6, ha_6, hp⟩ := hp
    refine sx_nonnull (x := a_6) ha_6 ?_
    refine lv_aload_n (pc := 23) hx hb dX9_addLine_23 rfl (lv_at hl 0 rfl) ?_
    refine sx_getI (pc := 24) (j := 3) B hH hk_th coX9 rfl w_306 rfl dX9_addLine_24 ?_
    refine W.eq (g2 := F0 m 27 ls [.int (F_5 th 3), .ref a_6]) rfl ?_
    refine lv_iconst (pc := 27) (v := 0) hx hb dX9_addLine_27 (by decide) ?_
    obtain ⟨hk_7, hp⟩ := hp
    obtain ⟨hn_8, hp⟩ := hp
    obtain ⟨F_9, eF_9⟩ : ∃ z : Nat → Nat → Int32, z = upI F_5 a_6 ((F_5 th 3).toNatClampNeg) 0 := ⟨_, rfl⟩
    have hp := hp F_9 eF_9
    refine sx_iast (pc := 28) B hH hk_7 hn_8 dX9_addLine_28 (fun H locs hH => ?_)
    have hH : Hp G (FA S s.heap.size) s.heap (wI S F_9) H locs := by rw [eF_9]; exact hH
    refine lv_aload_n (pc := 29) hx hb dX9_addLine_29 rfl (lv_at hl 0 rfl) ?_
    refine sx_getR (pc := 30) (j := 6) B hH hk_th coX9 rfl w_309 rfl dX9_addLine_30 ?_
    refine W.eq (g2 := F0 m 33 ls [va_rf (gR S th 6)]) rfl ?_
    obtain ⟨a_10, ha_10, hp⟩ := hp
    refine sx_nonnull (x := a_10) ha_10 ?_
    refine lv_aload_n (pc := 33) hx hb dX9_addLine_33 rfl (lv_at hl 0 rfl) ?_
    refine sx_getI (pc := 34) (j := 3) B hH hk_th coX9 rfl w_306 rfl dX9_addLine_34 ?_
    refine W.eq (g2 := F0 m 37 ls [.int (F_9 th 3), .ref a_10]) rfl ?_
    refine lv_null (pc := 37) hx hb dX9_addLine_37 ?_
    refine W.eq (g2 := F0 m 38 ls [va_rf none, .int (F_9 th 3), .ref a_10]) rfl ?_
    obtain ⟨hk_11, hp⟩ := hp
    obtain ⟨hn_12, hp⟩ := hp
    obtain ⟨R_13, eR_13⟩ : ∃ z : Nat → Nat → Option Nat, z = upR (gR S) a_10 ((F_9 th 3).toNatClampNeg) none := ⟨_, rfl⟩
    have hp := hp R_13 eR_13
    refine sx_aast (pc := 38) (r := none) B hH hk_11 (by decide) rfl coX3 (fun v hv => by cases hv) hn_12 dX9_addLine_38 (fun H locs hH => ?_)
    have hH : Hp G (FA S s.heap.size) s.heap (wA S F_9 (gJ S) R_13) H locs := by rw [eR_13]; exact hH
    refine lv_aload_n (pc := 39) hx hb dX9_addLine_39 rfl (lv_at hl 0 rfl) ?_
    refine lv_dup (pc := 40) hx hb dX9_addLine_40 rfl ?_
    refine sx_getI (pc := 41) (j := 3) B hH hk_th coX9 rfl w_306 rfl dX9_addLine_41 ?_
    refine W.eq (g2 := F0 m 44 ls [.int (F_9 th 3), .ref th]) rfl ?_
    refine lv_iconst (pc := 44) (v := 1) hx hb dX9_addLine_44 (by decide) ?_
    refine lv_iadd (pc := 45) hx hb dX9_addLine_45 ?_
    refine lv_topi (fun v_14 ev_14 => ?_)
    have hp := hp v_14 ev_14
    obtain ⟨F_15, eF_15⟩ : ∃ z : Nat → Nat → Int32, z = upI F_9 th 3 v_14 := ⟨_, rfl⟩
    have hp := hp F_15 eF_15
    refine sx_putI (pc := 46) (j := 3) B hH hk_th coX9 rfl w_306 rfl (Or.inl rfl) rfl dX9_addLine_46 (fun H locs hH => ?_)
    have hH : Hp G (FA S s.heap.size) s.heap (wA S F_15 (gJ S) R_13) H locs := by rw [eF_15]; exact hH
    exact sx_vret (pc := 49) B hH hr hlk (by rw [← hQQ]; exact ⟨F_15, R_13, rfl, rfl, hp⟩) (Nat.le_of_ble_eq_true rfl) (Nat.le_of_ble_eq_true rfl) dX9_addLine_49
theorem dX9_takesEnd_0 : decode cX9_takesEnd 0 = .ok (.aload_n 0, 1) := by decide +kernel
theorem dX9_takesEnd_1 : decode cX9_takesEnd 1 = .ok (.getfield 15, 3) := by decide +kernel
theorem dX9_takesEnd_4 : decode cX9_takesEnd 4 = .ok (.ifCond .ne 11, 3) := by decide +kernel
theorem dX9_takesEnd_7 : decode cX9_takesEnd 7 = .ok (.aload_n 0, 1) := by decide +kernel
theorem dX9_takesEnd_8 : decode cX9_takesEnd 8 = .ok (.getfield 46, 3) := by decide +kernel
theorem dX9_takesEnd_11 : decode cX9_takesEnd 11 = .ok (.invokevirtual 68, 3) := by decide +kernel
theorem dX9_takesEnd_14 : decode cX9_takesEnd 14 = .ok (.ireturn, 1) := by decide +kernel
theorem dX9_takesEnd_15 : decode cX9_takesEnd 15 = .ok (.aload_n 0, 1) := by decide +kernel
theorem dX9_takesEnd_16 : decode cX9_takesEnd 16 = .ok (.dup, 1) := by decide +kernel
theorem dX9_takesEnd_17 : decode cX9_takesEnd 17 = .ok (.getfield 15, 3) := by decide +kernel
theorem dX9_takesEnd_20 : decode cX9_takesEnd 20 = .ok (.iconst 1, 1) := by decide +kernel
theorem dX9_takesEnd_21 : decode cX9_takesEnd 21 = .ok (.isub, 1) := by decide +kernel
theorem dX9_takesEnd_22 : decode cX9_takesEnd 22 = .ok (.putfield 15, 3) := by decide +kernel
theorem dX9_takesEnd_25 : decode cX9_takesEnd 25 = .ok (.aload_n 0, 1) := by decide +kernel
theorem dX9_takesEnd_26 : decode cX9_takesEnd 26 = .ok (.bipush 16, 2) := by decide +kernel
theorem dX9_takesEnd_28 : decode cX9_takesEnd 28 = .ok (.invokevirtual 71, 3) := by decide +kernel
theorem dX9_takesEnd_31 : decode cX9_takesEnd 31 = .ok (.aload_n 0, 1) := by decide +kernel
theorem dX9_takesEnd_32 : decode cX9_takesEnd 32 = .ok (.getfield 46, 3) := by decide +kernel
theorem dX9_takesEnd_35 : decode cX9_takesEnd 35 = .ok (.invokevirtual 74, 3) := by decide +kernel
theorem dX9_takesEnd_38 : decode cX9_takesEnd 38 = .ok (.aload_n 0, 1) := by decide +kernel
theorem dX9_takesEnd_39 : decode cX9_takesEnd 39 = .ok (.getfield 46, 3) := by decide +kernel
theorem dX9_takesEnd_42 : decode cX9_takesEnd 42 = .ok (.iconst 2, 1) := by decide +kernel
theorem dX9_takesEnd_43 : decode cX9_takesEnd 43 = .ok (.invokevirtual 77, 3) := by decide +kernel
theorem dX9_takesEnd_46 : decode cX9_takesEnd 46 = .ok (.ireturn, 1) := by decide +kernel
theorem mi_X9_takesEnd : MI yX9_takesEnd cX9_takesEnd 1 (some FieldType.boolean) 0 := ⟨w_755, w_112, by decide +kernel, by decide +kernel, by decide +kernel⟩
set_option maxRecDepth 100000 in
set_option maxHeartbeats 4000000 in
theorem C_X9_takesEnd (G : GG) (l : Launch) (th : Nat) (S : St) (Q : Int32 → (Nat → Nat → Int32) → (Nat → Nat → Int64) → (Nat → Nat → Option Nat) → Prop) (hp : P_X9_takesEnd th S Q) : Ctr G l yX9_takesEnd cX9_takesEnd 1 (some FieldType.boolean) 4 83 0 0 [.ref th] S (fun (v : Option Value) (S9 : St) => ∃ (r : Int32) (I9 : Nat → Nat → Int32) (J9 : Nat → Nat → Int64) (R9 : Nat → Nat → Option Nat), v = some (.int r) ∧ S9 = wA S I9 J9 R9 ∧ Q r I9 J9 R9) := by
  generalize hQQ : (fun (v : Option Value) (S9 : St) => ∃ (r : Int32) (I9 : Nat → Nat → Int32) (J9 : Nat → Nat → Int64) (R9 : Nat → Nat → Option Nat), v = some (.int r) ∧ S9 = wA S I9 J9 R9 ∧ Q r I9 J9 R9) = QQ
  unfold P_X9_takesEnd at hp
  refine Ctr.of (by decide) (Nat.le_of_ble_eq_true rfl) ?_
  intro p e s m args below meth c ls B hr hlk hin hl hH
  generalize hlocs0 : ([] : List Loc) = locs at hH ⊢
  have hx := B.1
  have hb := B.2.1
  have hl : lv_has ls 1 [(0, .ref th)] := hl
  obtain ⟨hk_th, hp⟩ := hp
  refine lv_aload_n (pc := 0) hx hb dX9_takesEnd_0 rfl (lv_at hl 0 rfl) ?_
  refine sx_getI (pc := 1) (j := 2) B hH hk_th coX9 rfl w_305 rfl dX9_takesEnd_1 ?_
  refine W.eq (g2 := F0 m 4 ls [.int (gI S th 2)]) rfl ?_
  refine lv_if_ne (pc := 4) (tgt := 15) hx hb dX9_takesEnd_4 (by decide) (fun cc_1 => ?_) (fun cc_1 => ?_)
  · have hp := hp.1 cc_1
    refine lv_aload_n (pc := 15) hx hb dX9_takesEnd_15 rfl (lv_at hl 0 rfl) ?_
    refine lv_dup (pc := 16) hx hb dX9_takesEnd_16 rfl ?_
    refine sx_getI (pc := 17) (j := 2) B hH hk_th coX9 rfl w_305 rfl dX9_takesEnd_17 ?_
    refine W.eq (g2 := F0 m 20 ls [.int (gI S th 2), .ref th]) rfl ?_
    refine lv_iconst (pc := 20) (v := 1) hx hb dX9_takesEnd_20 (by decide) ?_
    refine lv_isub (pc := 21) hx hb dX9_takesEnd_21 ?_
    refine lv_topi (fun v_2 ev_2 => ?_)
    have hp := hp v_2 ev_2
    obtain ⟨F_3, eF_3⟩ : ∃ z : Nat → Nat → Int32, z = upI (gI S) th 2 v_2 := ⟨_, rfl⟩
    have hp := hp F_3 eF_3
    refine sx_putI (pc := 22) (j := 2) B hH hk_th coX9 rfl w_305 rfl (Or.inl rfl) rfl dX9_takesEnd_22 (fun H locs hH => ?_)
    have hH : Hp G (FA S s.heap.size) s.heap (wI S F_3) H locs := by rw [eF_3]; exact hH
    refine lv_aload_n (pc := 25) hx hb dX9_takesEnd_25 rfl (lv_at hl 0 rfl) ?_
    refine lv_bipush (pc := 26) (v := 16) hx hb dX9_takesEnd_26 (by decide) ?_
    refine sx_V (pc := 28) (As := [.int 16]) (rest := []) B hH hl.1 (C_X9_addLine G l th 16 _ _ hp) mi_X9_addLine coX9 hk_th w_759 w_18 w_757 rfl rfl ⟨Nat.le_of_ble_eq_true rfl, Nat.le_of_ble_eq_true rfl⟩ (Nat.le_of_ble_eq_true rfl) ⟨Nat.le_of_ble_eq_true rfl, Nat.le_of_ble_eq_true rfl⟩ dX9_takesEnd_28 (fun v S1 H locs hq hH => ?_)
    obtain ⟨F_4, R_4, rfl, e9, hp⟩ := hq
    rw [e9] at hH
    have hH : Hp G (FA S s.heap.size) s.heap (wA S F_4 (gJ S) R_4) H locs := hH
    refine W.eq (g2 := F0 m 31 ls []) rfl ?_
    refine lv_aload_n (pc := 31) hx hb dX9_takesEnd_31 rfl (lv_at hl 0 rfl) ?_
    refine sx_getR (pc := 32) (j := 0) B hH hk_th coX9 rfl w_303 rfl dX9_takesEnd_32 ?_
    refine W.eq (g2 := F0 m 35 ls [va_rf (R_4 th 0)]) rfl ?_
    obtain ⟨a_5, ha_5, hp⟩ := hp
    refine sx_nonnull (x := a_5) ha_5 ?_
    obtain ⟨hk_6, hp⟩ := hp
    refine sx_V (pc := 35) (As := []) (rest := []) B hH hl.1 (C_X7_next G l a_5 _ _ hp) mi_X7_next coX7 hk_6 w_603 w_604 w_761 rfl rfl ⟨Nat.le_of_ble_eq_true rfl, Nat.le_of_ble_eq_true rfl⟩ (Nat.le_of_ble_eq_true rfl) ⟨Nat.le_of_ble_eq_true rfl, Nat.le_of_ble_eq_true rfl⟩ dX9_takesEnd_35 (fun v S1 H locs hq hH => ?_)
    obtain ⟨F_7, J_7, rfl, e9, hp⟩ := hq
    rw [e9] at hH
    have hH : Hp G (FA S s.heap.size) s.heap (wA S F_7 J_7 R_4) H locs := hH
    refine W.eq (g2 := F0 m 38 ls []) rfl ?_
    refine lv_aload_n (pc := 38) hx hb dX9_takesEnd_38 rfl (lv_at hl 0 rfl) ?_
    refine sx_getR (pc := 39) (j := 0) B hH hk_th coX9 rfl w_303 rfl dX9_takesEnd_39 ?_
    refine W.eq (g2 := F0 m 42 ls [va_rf (R_4 th 0)]) rfl ?_
    refine sx_nonnull (x := a_5) ha_5 ?_
    refine lv_iconst (pc := 42) (v := 2) hx hb dX9_takesEnd_42 (by decide) ?_
    refine sx_V (pc := 43) (As := [.int 2]) (rest := []) B hH hl.1 (C_X7_take G l a_5 2 _ _ hp) mi_X7_take coX7 hk_6 w_627 w_628 w_762 rfl rfl ⟨Nat.le_of_ble_eq_true rfl, Nat.le_of_ble_eq_true rfl⟩ (Nat.le_of_ble_eq_true rfl) ⟨Nat.le_of_ble_eq_true rfl, Nat.le_of_ble_eq_true rfl⟩ dX9_takesEnd_43 (fun v S1 H locs hq hH => ?_)
    obtain ⟨r_8, F_8, J_8, rfl, e9, hp⟩ := hq
    rw [e9] at hH
    have hH : Hp G (FA S s.heap.size) s.heap (wA S F_8 J_8 R_4) H locs := hH
    refine W.eq (g2 := F0 m 46 ls [.int r_8]) rfl ?_
    obtain ⟨hz, hp⟩ := hp
    exact sx_zret (pc := 46) B hH hr hlk hz (by rw [← hQQ]; exact ⟨_, F_8, J_8, R_4, rfl, rfl, hp⟩) (Nat.le_of_ble_eq_true rfl) (Nat.le_of_ble_eq_true rfl) dX9_takesEnd_46
  · have hp := hp.2 cc_1
    refine lv_aload_n (pc := 7) hx hb dX9_takesEnd_7 rfl (lv_at hl 0 rfl) ?_
    refine sx_getR (pc := 8) (j := 0) B hH hk_th coX9 rfl w_303 rfl dX9_takesEnd_8 ?_
    refine W.eq (g2 := F0 m 11 ls [va_rf (gR S th 0)]) rfl ?_
    obtain ⟨a_9, ha_9, hp⟩ := hp
    refine sx_nonnull (x := a_9) ha_9 ?_
    obtain ⟨hk_10, hp⟩ := hp
    refine sx_V (pc := 11) (As := []) (rest := []) B hH hl.1 (C_X7_misplaced G l a_9 _ _ hp) mi_X7_misplaced coX7 hk_10 w_631 w_632 w_756 rfl rfl ⟨Nat.le_of_ble_eq_true rfl, Nat.le_of_ble_eq_true rfl⟩ (Nat.le_of_ble_eq_true rfl) ⟨Nat.le_of_ble_eq_true rfl, Nat.le_of_ble_eq_true rfl⟩ dX9_takesEnd_11 (fun v S1 H locs hq hH => ?_)
    obtain ⟨r_11, F_11, rfl, e9, hp⟩ := hq
    rw [e9] at hH
    have hH : Hp G (FA S s.heap.size) s.heap (wI S F_11) H locs := hH
    refine W.eq (g2 := F0 m 14 ls [.int r_11]) rfl ?_
    obtain ⟨hz, hp⟩ := hp
    exact sx_zret (pc := 14) B hH hr hlk hz (by rw [← hQQ]; exact ⟨_, F_11, (gJ S), (gR S), rfl, rfl, hp⟩) (Nat.le_of_ble_eq_true rfl) (Nat.le_of_ble_eq_true rfl) dX9_takesEnd_14
theorem dX9_isStep_0 : decode cX9_isStep 0 = .ok (.iload_n 0, 1) := by decide +kernel
theorem dX9_isStep_1 : decode cX9_isStep 1 = .ok (.tableswitch 49 10 17 #[47, 47, 49, 47, 47, 47, 49, 47], 47) := by decide +kernel
theorem dX9_isStep_48 : decode cX9_isStep 48 = .ok (.iconst 1, 1) := by decide +kernel
theorem dX9_isStep_49 : decode cX9_isStep 49 = .ok (.ireturn, 1) := by decide +kernel
theorem dX9_isStep_50 : decode cX9_isStep 50 = .ok (.iconst 0, 1) := by decide +kernel
theorem dX9_isStep_51 : decode cX9_isStep 51 = .ok (.ireturn, 1) := by decide +kernel
theorem mi_X9_isStep : MI yX9_isStep cX9_isStep 1 (some FieldType.boolean) 1 := ⟨w_769, w_112, by decide +kernel, by decide +kernel, by decide +kernel⟩
set_option maxRecDepth 100000 in
set_option maxHeartbeats 4000000 in
theorem C_X9_isStep (G : GG) (l : Launch) (p0 : Int32) (S : St) (Q : Int32 → Prop) (hp : P_X9_isStep p0 Q) : Ctr G l yX9_isStep cX9_isStep 1 (some FieldType.boolean) 0 0 0 0 [.int p0] S (fun (v : Option Value) (S9 : St) => ∃ (r : Int32), v = some (.int r) ∧ S9 = S ∧ Q r ) := by
  generalize hQQ : (fun (v : Option Value) (S9 : St) => ∃ (r : Int32), v = some (.int r) ∧ S9 = S ∧ Q r ) = QQ
  unfold P_X9_isStep at hp
  refine Ctr.of (by decide) (Nat.le_of_ble_eq_true rfl) ?_
  intro p e s m args below meth c ls B hr hlk hin hl hH
  generalize hlocs0 : ([] : List Loc) = locs at hH ⊢
  have hx := B.1
  have hb := B.2.1
  have hl : lv_has ls 1 [(0, .int p0)] := hl
  refine lv_iload_n (pc := 0) hx hb dX9_isStep_0 rfl (lv_at hl 0 rfl) ?_
  by_cases cs_1_0 : p0 = 10
  · have hp := hp.1 cs_1_0
    refine lv_tableIn (pc := 1) (tgt := 48) hx hb dX9_isStep_1 (by rw [cs_1_0]; decide) (by rw [cs_1_0]; decide) (by rw [cs_1_0]; rfl) (by decide) ?_
    refine lv_iconst (pc := 48) (v := 1) hx hb dX9_isStep_48 (by decide) ?_
    exact sx_zret (pc := 49) B hH hr hlk (Or.inr rfl) (by rw [← hQQ]; exact ⟨_, rfl, rfl, hp⟩) (Nat.le_of_ble_eq_true rfl) (Nat.le_of_ble_eq_true rfl) dX9_isStep_49
  · have hp := hp.2 cs_1_0
    by_cases cs_1_1 : p0 = 11
    · have hp := hp.1 cs_1_1
      refine lv_tableIn (pc := 1) (tgt := 48) hx hb dX9_isStep_1 (by rw [cs_1_1]; decide) (by rw [cs_1_1]; decide) (by rw [cs_1_1]; rfl) (by decide) ?_
      refine lv_iconst (pc := 48) (v := 1) hx hb dX9_isStep_48 (by decide) ?_
      exact sx_zret (pc := 49) B hH hr hlk (Or.inr rfl) (by rw [← hQQ]; exact ⟨_, rfl, rfl, hp⟩) (Nat.le_of_ble_eq_true rfl) (Nat.le_of_ble_eq_true rfl) dX9_isStep_49
    · have hp := hp.2 cs_1_1
      by_cases cs_1_2 : p0 = 12
      · have hp := hp.1 cs_1_2
        refine lv_tableIn (pc := 1) (tgt := 50) hx hb dX9_isStep_1 (by rw [cs_1_2]; decide) (by rw [cs_1_2]; decide) (by rw [cs_1_2]; rfl) (by decide) ?_
        refine lv_iconst (pc := 50) (v := 0) hx hb dX9_isStep_50 (by decide) ?_
        exact sx_zret (pc := 51) B hH hr hlk (Or.inl rfl) (by rw [← hQQ]; exact ⟨_, rfl, rfl, hp⟩) (Nat.le_of_ble_eq_true rfl) (Nat.le_of_ble_eq_true rfl) dX9_isStep_51
      · have hp := hp.2 cs_1_2
        by_cases cs_1_3 : p0 = 13
        · have hp := hp.1 cs_1_3
          refine lv_tableIn (pc := 1) (tgt := 48) hx hb dX9_isStep_1 (by rw [cs_1_3]; decide) (by rw [cs_1_3]; decide) (by rw [cs_1_3]; rfl) (by decide) ?_
          refine lv_iconst (pc := 48) (v := 1) hx hb dX9_isStep_48 (by decide) ?_
          exact sx_zret (pc := 49) B hH hr hlk (Or.inr rfl) (by rw [← hQQ]; exact ⟨_, rfl, rfl, hp⟩) (Nat.le_of_ble_eq_true rfl) (Nat.le_of_ble_eq_true rfl) dX9_isStep_49
        · have hp := hp.2 cs_1_3
          by_cases cs_1_4 : p0 = 14
          · have hp := hp.1 cs_1_4
            refine lv_tableIn (pc := 1) (tgt := 48) hx hb dX9_isStep_1 (by rw [cs_1_4]; decide) (by rw [cs_1_4]; decide) (by rw [cs_1_4]; rfl) (by decide) ?_
            refine lv_iconst (pc := 48) (v := 1) hx hb dX9_isStep_48 (by decide) ?_
            exact sx_zret (pc := 49) B hH hr hlk (Or.inr rfl) (by rw [← hQQ]; exact ⟨_, rfl, rfl, hp⟩) (Nat.le_of_ble_eq_true rfl) (Nat.le_of_ble_eq_true rfl) dX9_isStep_49
          · have hp := hp.2 cs_1_4
            by_cases cs_1_5 : p0 = 15
            · have hp := hp.1 cs_1_5
              refine lv_tableIn (pc := 1) (tgt := 48) hx hb dX9_isStep_1 (by rw [cs_1_5]; decide) (by rw [cs_1_5]; decide) (by rw [cs_1_5]; rfl) (by decide) ?_
              refine lv_iconst (pc := 48) (v := 1) hx hb dX9_isStep_48 (by decide) ?_
              exact sx_zret (pc := 49) B hH hr hlk (Or.inr rfl) (by rw [← hQQ]; exact ⟨_, rfl, rfl, hp⟩) (Nat.le_of_ble_eq_true rfl) (Nat.le_of_ble_eq_true rfl) dX9_isStep_49
            · have hp := hp.2 cs_1_5
              by_cases cs_1_6 : p0 = 16
              · have hp := hp.1 cs_1_6
                refine lv_tableIn (pc := 1) (tgt := 50) hx hb dX9_isStep_1 (by rw [cs_1_6]; decide) (by rw [cs_1_6]; decide) (by rw [cs_1_6]; rfl) (by decide) ?_
                refine lv_iconst (pc := 50) (v := 0) hx hb dX9_isStep_50 (by decide) ?_
                exact sx_zret (pc := 51) B hH hr hlk (Or.inl rfl) (by rw [← hQQ]; exact ⟨_, rfl, rfl, hp⟩) (Nat.le_of_ble_eq_true rfl) (Nat.le_of_ble_eq_true rfl) dX9_isStep_51
              · have hp := hp.2 cs_1_6
                by_cases cs_1_7 : p0 = 17
                · have hp := hp.1 cs_1_7
                  refine lv_tableIn (pc := 1) (tgt := 48) hx hb dX9_isStep_1 (by rw [cs_1_7]; decide) (by rw [cs_1_7]; decide) (by rw [cs_1_7]; rfl) (by decide) ?_
                  refine lv_iconst (pc := 48) (v := 1) hx hb dX9_isStep_48 (by decide) ?_
                  exact sx_zret (pc := 49) B hH hr hlk (Or.inr rfl) (by rw [← hQQ]; exact ⟨_, rfl, rfl, hp⟩) (Nat.le_of_ble_eq_true rfl) (Nat.le_of_ble_eq_true rfl) dX9_isStep_49
                · have hp := hp.2 cs_1_7
                  refine lv_tableOut (pc := 1) (tgt := 50) hx hb dX9_isStep_1 (sw_10_17 cs_1_0 cs_1_1 cs_1_2 cs_1_3 cs_1_4 cs_1_5 cs_1_6 cs_1_7) (by decide) ?_
                  refine lv_iconst (pc := 50) (v := 0) hx hb dX9_isStep_50 (by decide) ?_
                  exact sx_zret (pc := 51) B hH hr hlk (Or.inl rfl) (by rw [← hQQ]; exact ⟨_, rfl, rfl, hp⟩) (Nat.le_of_ble_eq_true rfl) (Nat.le_of_ble_eq_true rfl) dX9_isStep_51
theorem dX9_takesCount_0 : decode cX9_takesCount 0 = .ok (.aload_n 0, 1) := by decide +kernel
theorem dX9_takesCount_1 : decode cX9_takesCount 1 = .ok (.getfield 46, 3) := by decide +kernel
theorem dX9_takesCount_4 : decode cX9_takesCount 4 = .ok (.iconst 3, 1) := by decide +kernel
theorem dX9_takesCount_5 : decode cX9_takesCount 5 = .ok (.invokevirtual 56, 3) := by decide +kernel
theorem dX9_takesCount_8 : decode cX9_takesCount 8 = .ok (.ifCond .ne 11, 3) := by decide +kernel
theorem dX9_takesCount_11 : decode cX9_takesCount 11 = .ok (.aload_n 0, 1) := by decide +kernel
theorem dX9_takesCount_12 : decode cX9_takesCount 12 = .ok (.getfield 46, 3) := by decide +kernel
theorem dX9_takesCount_15 : decode cX9_takesCount 15 = .ok (.invokevirtual 68, 3) := by decide +kernel
theorem dX9_takesCount_18 : decode cX9_takesCount 18 = .ok (.ireturn, 1) := by decide +kernel
theorem dX9_takesCount_19 : decode cX9_takesCount 19 = .ok (.aload_n 0, 1) := by decide +kernel
theorem dX9_takesCount_20 : decode cX9_takesCount 20 = .ok (.getfield 46, 3) := by decide +kernel
theorem dX9_takesCount_23 : decode cX9_takesCount 23 = .ok (.getfield 112, 3) := by decide +kernel
theorem dX9_takesCount_26 : decode cX9_takesCount 26 = .ok (.iconst 1, 1) := by decide +kernel
theorem dX9_takesCount_27 : decode cX9_takesCount 27 = .ok (.if_icmp .lt 14, 3) := by decide +kernel
theorem dX9_takesCount_30 : decode cX9_takesCount 30 = .ok (.aload_n 0, 1) := by decide +kernel
theorem dX9_takesCount_31 : decode cX9_takesCount 31 = .ok (.getfield 46, 3) := by decide +kernel
theorem dX9_takesCount_34 : decode cX9_takesCount 34 = .ok (.getfield 112, 3) := by decide +kernel
theorem dX9_takesCount_37 : decode cX9_takesCount 37 = .ok (.iload_n 1, 1) := by decide +kernel
theorem dX9_takesCount_38 : decode cX9_takesCount 38 = .ok (.if_icmp .le 12, 3) := by decide +kernel
theorem dX9_takesCount_41 : decode cX9_takesCount 41 = .ok (.aload_n 0, 1) := by decide +kernel
theorem dX9_takesCount_42 : decode cX9_takesCount 42 = .ok (.getfield 46, 3) := by decide +kernel
theorem dX9_takesCount_45 : decode cX9_takesCount 45 = .ok (.iconst 4, 1) := by decide +kernel
theorem dX9_takesCount_46 : decode cX9_takesCount 46 = .ok (.invokevirtual 86, 3) := by decide +kernel
theorem dX9_takesCount_49 : decode cX9_takesCount 49 = .ok (.ireturn, 1) := by decide +kernel
theorem dX9_takesCount_50 : decode cX9_takesCount 50 = .ok (.aload_n 0, 1) := by decide +kernel
theorem dX9_takesCount_51 : decode cX9_takesCount 51 = .ok (.getfield 18, 3) := by decide +kernel
theorem dX9_takesCount_54 : decode cX9_takesCount 54 = .ok (.ifCond .le 21, 3) := by decide +kernel
theorem dX9_takesCount_57 : decode cX9_takesCount 57 = .ok (.aload_n 0, 1) := by decide +kernel
theorem dX9_takesCount_58 : decode cX9_takesCount 58 = .ok (.getfield 25, 3) := by decide +kernel
theorem dX9_takesCount_61 : decode cX9_takesCount 61 = .ok (.aload_n 0, 1) := by decide +kernel
theorem dX9_takesCount_62 : decode cX9_takesCount 62 = .ok (.getfield 18, 3) := by decide +kernel
theorem dX9_takesCount_65 : decode cX9_takesCount 65 = .ok (.iconst 1, 1) := by decide +kernel
theorem dX9_takesCount_66 : decode cX9_takesCount 66 = .ok (.isub, 1) := by decide +kernel
theorem dX9_takesCount_67 : decode cX9_takesCount 67 = .ok (.aload_n 0, 1) := by decide +kernel
theorem dX9_takesCount_68 : decode cX9_takesCount 68 = .ok (.getfield 46, 3) := by decide +kernel
theorem dX9_takesCount_71 : decode cX9_takesCount 71 = .ok (.getfield 112, 3) := by decide +kernel
theorem dX9_takesCount_74 : decode cX9_takesCount 74 = .ok (.iastore, 1) := by decide +kernel
theorem dX9_takesCount_75 : decode cX9_takesCount 75 = .ok (.aload_n 0, 1) := by decide +kernel
theorem dX9_takesCount_76 : decode cX9_takesCount 76 = .ok (.getfield 46, 3) := by decide +kernel
theorem dX9_takesCount_79 : decode cX9_takesCount 79 = .ok (.invokevirtual 74, 3) := by decide +kernel
theorem dX9_takesCount_82 : decode cX9_takesCount 82 = .ok (.iconst 1, 1) := by decide +kernel
theorem dX9_takesCount_83 : decode cX9_takesCount 83 = .ok (.ireturn, 1) := by decide +kernel
theorem mi_X9_takesCount : MI yX9_takesCount cX9_takesCount 2 (some FieldType.boolean) 1 := ⟨w_774, w_112, by decide +kernel, by decide +kernel, by decide +kernel⟩
set_option maxRecDepth 100000 in
set_option maxHeartbeats 4000000 in
theorem C_X9_takesCount (G : GG) (l : Launch) (th : Nat) (p0 : Int32) (S : St) (Q : Int32 → (Nat → Nat → Int32) → (Nat → Nat → Int64) → Prop) (hp : P_X9_takesCount th p0 S Q) : Ctr G l yX9_takesCount cX9_takesCount 2 (some FieldType.boolean) 3 62 0 0 [.ref th, .int p0] S (fun (v : Option Value) (S9 : St) => ∃ (r : Int32) (I9 : Nat → Nat → Int32) (J9 : Nat → Nat → Int64), v = some (.int r) ∧ S9 = wA S I9 J9 (gR S) ∧ Q r I9 J9) := by
  generalize hQQ : (fun (v : Option Value) (S9 : St) => ∃ (r : Int32) (I9 : Nat → Nat → Int32) (J9 : Nat → Nat → Int64), v = some (.int r) ∧ S9 = wA S I9 J9 (gR S) ∧ Q r I9 J9) = QQ
  unfold P_X9_takesCount at hp
  refine Ctr.of (by decide) (Nat.le_of_ble_eq_true rfl) ?_
  intro p e s m args below meth c ls B hr hlk hin hl hH
  generalize hlocs0 : ([] : List Loc) = locs at hH ⊢
  have hx := B.1
  have hb := B.2.1
  have hl : lv_has ls 2 [(0, .ref th), (1, .int p0)] := hl
  obtain ⟨hk_th, hp⟩ := hp
  refine lv_aload_n (pc := 0) hx hb dX9_takesCount_0 rfl (lv_at hl 0 rfl) ?_
  refine sx_getR (pc := 1) (j := 0) B hH hk_th coX9 rfl w_303 rfl dX9_takesCount_1 ?_
  refine W.eq (g2 := F0 m 4 ls [va_rf (gR S th 0)]) rfl ?_
  obtain ⟨a_1, ha_1, hp⟩ := hp
  refine sx_nonnull (x := a_1) ha_1 ?_
  refine lv_iconst (pc := 4) (v := 3) hx hb dX9_takesCount_4 (by decide) ?_
  obtain ⟨hk_2, hp⟩ := hp
  refine sx_V (pc := 5) (As := [.int 3]) (rest := []) B hH hl.1 (C_X7_isAt G l a_1 3 _ _ hp) mi_X7_isAt coX7 hk_2 w_639 w_640 w_751 rfl rfl ⟨Nat.le_of_ble_eq_true rfl, Nat.le_of_ble_eq_true rfl⟩ (Nat.le_of_ble_eq_true rfl) ⟨Nat.le_of_ble_eq_true rfl, Nat.le_of_ble_eq_true rfl⟩ dX9_takesCount_5 (fun v S1 H locs hq hH => ?_)
  obtain ⟨r_3, rfl, e9, hp⟩ := hq
  rw [e9] at hH
  refine W.eq (g2 := F0 m 8 ls [.int r_3]) rfl ?_
  refine lv_if_ne (pc := 8) (tgt := 19) hx hb dX9_takesCount_8 (by decide) (fun cc_4 => ?_) (fun cc_4 => ?_)
  · have hp := hp.1 cc_4
    refine lv_aload_n (pc := 19) hx hb dX9_takesCount_19 rfl (lv_at hl 0 rfl) ?_
    refine sx_getR (pc := 20) (j := 0) B hH hk_th coX9 rfl w_303 rfl dX9_takesCount_20 ?_
    refine W.eq (g2 := F0 m 23 ls [va_rf (gR S th 0)]) rfl ?_
    refine sx_nonnull (x := a_1) ha_1 ?_
    refine sx_getI (pc := 23) (j := 7) B hH hk_2 coX7 rfl w_216 rfl dX9_takesCount_23 ?_
    refine W.eq (g2 := F0 m 26 ls [.int (gI S a_1 7)]) rfl ?_
    refine lv_iconst (pc := 26) (v := 1) hx hb dX9_takesCount_26 (by decide) ?_
    obtain ⟨J_6, hj_6, hp⟩ := hp
    have kj_6 : ∀  (H : Heap) (locs : List Loc) (ls : Array Slot), J_6  → Hp G (FA S s.heap.size) s.heap S H locs → lv_has ls 2 [(0, .ref th)] → Wm G p l e { frames := 3, cells := 0, slots := 0, locals := 62 } s m args below meth c S QQ 0 0 H locs 0 0 (F0 m 41 ls []) := by
      intro  H locs ls hq9 hH hl
      have hp := hj_6  hq9
      refine lv_aload_n (pc := 41) hx hb dX9_takesCount_41 rfl (lv_at hl 0 rfl) ?_
      refine sx_getR (pc := 42) (j := 0) B hH hk_th coX9 rfl w_303 rfl dX9_takesCount_42 ?_
      refine W.eq (g2 := F0 m 45 ls [va_rf (gR S th 0)]) rfl ?_
      refine sx_nonnull (x := a_1) ha_1 ?_
      refine lv_iconst (pc := 45) (v := 4) hx hb dX9_takesCount_45 (by decide) ?_
      refine sx_V (pc := 46) (As := [.int 4]) (rest := []) B hH hl.1 (C_X7_wrong G l a_1 4 _ _ hp) mi_X7_wrong coX7 hk_2 w_635 w_636 w_770 rfl rfl ⟨Nat.le_of_ble_eq_true rfl, Nat.le_of_ble_eq_true rfl⟩ (Nat.le_of_ble_eq_true rfl) ⟨Nat.le_of_ble_eq_true rfl, Nat.le_of_ble_eq_true rfl⟩ dX9_takesCount_46 (fun v S1 H locs hq hH => ?_)
      obtain ⟨r_7, F_7, rfl, e9, hp⟩ := hq
      rw [e9] at hH
      have hH : Hp G (FA S s.heap.size) s.heap (wI S F_7) H locs := hH
      refine W.eq (g2 := F0 m 49 ls [.int r_7]) rfl ?_
      obtain ⟨hz, hp⟩ := hp
      exact sx_zret (pc := 49) B hH hr hlk hz (by rw [← hQQ]; exact ⟨_, F_7, (gJ S), rfl, rfl, hp⟩) (Nat.le_of_ble_eq_true rfl) (Nat.le_of_ble_eq_true rfl) dX9_takesCount_49
    refine lv_icmp_lt (pc := 27) (tgt := 41) hx hb dX9_takesCount_27 (by decide) (fun cc_5 => ?_) (fun cc_5 => ?_)
    · have hp := hp.1 cc_5
      exact kj_6  _ _ _ hp hH (lv_sub hl [0] rfl)
    · have hp := hp.2 cc_5
      refine lv_aload_n (pc := 30) hx hb dX9_takesCount_30 rfl (lv_at hl 0 rfl) ?_
      refine sx_getR (pc := 31) (j := 0) B hH hk_th coX9 rfl w_303 rfl dX9_takesCount_31 ?_
      refine W.eq (g2 := F0 m 34 ls [va_rf (gR S th 0)]) rfl ?_
      refine sx_nonnull (x := a_1) ha_1 ?_
      refine sx_getI (pc := 34) (j := 7) B hH hk_2 coX7 rfl w_216 rfl dX9_takesCount_34 ?_
      refine W.eq (g2 := F0 m 37 ls [.int (gI S a_1 7)]) rfl ?_
      refine lv_iload_n (pc := 37) hx hb dX9_takesCount_37 rfl (lv_at hl 1 rfl) ?_
      refine lv_icmp_le (pc := 38) (tgt := 50) hx hb dX9_takesCount_38 (by decide) (fun cc_8 => ?_) (fun cc_8 => ?_)
      · have hp := hp.1 cc_8
        refine lv_aload_n (pc := 50) hx hb dX9_takesCount_50 rfl (lv_at hl 0 rfl) ?_
        refine sx_getI (pc := 51) (j := 3) B hH hk_th coX9 rfl w_306 rfl dX9_takesCount_51 ?_
        refine W.eq (g2 := F0 m 54 ls [.int (gI S th 3)]) rfl ?_
        obtain ⟨J_10, hj_10, hp⟩ := hp
        have kj_10 : ∀ (F_11 : Nat → Nat → Int32) (H : Heap) (locs : List Loc) (ls : Array Slot), J_10 F_11 → Hp G (FA S s.heap.size) s.heap (wI S F_11) H locs → lv_has ls 2 [(0, .ref th)] → Wm G p l e { frames := 3, cells := 0, slots := 0, locals := 62 } s m args below meth c S QQ 0 0 H locs 0 0 (F0 m 75 ls []) := by
          intro F_11 H locs ls hq9 hH hl
          have hp := hj_10 F_11 hq9
          refine lv_aload_n (pc := 75) hx hb dX9_takesCount_75 rfl (lv_at hl 0 rfl) ?_
          refine sx_getR (pc := 76) (j := 0) B hH hk_th coX9 rfl w_303 rfl dX9_takesCount_76 ?_
          refine W.eq (g2 := F0 m 79 ls [va_rf (gR S th 0)]) rfl ?_
          refine sx_nonnull (x := a_1) ha_1 ?_
          refine sx_V (pc := 79) (As := []) (rest := []) B hH hl.1 (C_X7_next G l a_1 _ _ hp) mi_X7_next coX7 hk_2 w_603 w_604 w_761 rfl rfl ⟨Nat.le_of_ble_eq_true rfl, Nat.le_of_ble_eq_true rfl⟩ (Nat.le_of_ble_eq_true rfl) ⟨Nat.le_of_ble_eq_true rfl, Nat.le_of_ble_eq_true rfl⟩ dX9_takesCount_79 (fun v S1 H locs hq hH => ?_)
          obtain ⟨F_12, J_12, rfl, e9, hp⟩ := hq
          rw [e9] at hH
          have hH : Hp G (FA S s.heap.size) s.heap (wA S F_12 J_12 (gR S)) H locs := hH
          refine W.eq (g2 := F0 m 82 ls []) rfl ?_
          refine lv_iconst (pc := 82) (v := 1) hx hb dX9_takesCount_82 (by decide) ?_
          exact sx_zret (pc := 83) B hH hr hlk (Or.inr rfl) (by rw [← hQQ]; exact ⟨_, F_12, J_12, rfl, rfl, hp⟩) (Nat.le_of_ble_eq_true rfl) (Nat.le_of_ble_eq_true rfl) dX9_takesCount_83
        refine lv_if_le (pc := 54) (tgt := 75) hx hb dX9_takesCount_54 (by decide) (fun cc_9 => ?_) (fun cc_9 => ?_)
        · have hp := hp.1 cc_9
          exact kj_10 _ _ _ _ hp hH (lv_sub hl [0] rfl)
        · have hp := hp.2 cc_9
          refine lv_aload_n (pc := 57) hx hb dX9_takesCount_57 rfl (lv_at hl 0 rfl) ?_
          refine sx_getR (pc := 58) (j := 5) B hH hk_th coX9 rfl w_308 rfl dX9_takesCount_58 ?_
          refine W.eq (g2 := F0 m 61 ls [va_rf (gR S th 5)]) rfl ?_
          obtain ⟨a_13, ha_13, hp⟩ := hp
          refine sx_nonnull (x := a_13) ha_13 ?_
          refine lv_aload_n (pc := 61) hx hb dX9_takesCount_61 rfl (lv_at hl 0 rfl) ?_
          refine sx_getI (pc := 62) (j := 3) B hH hk_th coX9 rfl w_306 rfl dX9_takesCount_62 ?_
          refine W.eq (g2 := F0 m 65 ls [.int (gI S th 3), .ref a_13]) rfl ?_
          refine lv_iconst (pc := 65) (v := 1) hx hb dX9_takesCount_65 (by decide) ?_
          refine lv_isub (pc := 66) hx hb dX9_takesCount_66 ?_
          refine lv_aload_n (pc := 67) hx hb dX9_takesCount_67 rfl (lv_at hl 0 rfl) ?_
          refine sx_getR (pc := 68) (j := 0) B hH hk_th coX9 rfl w_303 rfl dX9_takesCount_68 ?_
          refine W.eq (g2 := F0 m 71 ls [va_rf (gR S th 0), .int ((gI S th 3) - 1), .ref a_13]) rfl ?_
          refine sx_nonnull (x := a_1) ha_1 ?_
          refine sx_getI (pc := 71) (j := 7) B hH hk_2 coX7 rfl w_216 rfl dX9_takesCount_71 ?_
          refine W.eq (g2 := F0 m 74 ls [.int (gI S a_1 7), .int ((gI S th 3) - 1), .ref a_13]) rfl ?_
          obtain ⟨hk_14, hp⟩ := hp
          obtain ⟨hn_15, hp⟩ := hp
          refine lv_topi (fun v_16 ev_16 => ?_)
          have hp := hp v_16 ev_16
          obtain ⟨F_17, eF_17⟩ : ∃ z : Nat → Nat → Int32, z = upI (gI S) a_13 (((gI S th 3) - 1).toNatClampNeg) v_16 := ⟨_, rfl⟩
          have hp := hp F_17 eF_17
          refine sx_iast (pc := 74) B hH hk_14 hn_15 dX9_takesCount_74 (fun H locs hH => ?_)
          have hH : Hp G (FA S s.heap.size) s.heap (wI S F_17) H locs := by rw [eF_17]; exact hH
          exact kj_10 _ _ _ _ hp hH (lv_sub hl [0] rfl)
      · have hp := hp.2 cc_8
        exact kj_6  _ _ _ hp hH (lv_sub hl [0] rfl)
  · have hp := hp.2 cc_4
    refine lv_aload_n (pc := 11) hx hb dX9_takesCount_11 rfl (lv_at hl 0 rfl) ?_
    refine sx_getR (pc := 12) (j := 0) B hH hk_th coX9 rfl w_303 rfl dX9_takesCount_12 ?_
    refine W.eq (g2 := F0 m 15 ls [va_rf (gR S th 0)]) rfl ?_
    refine sx_nonnull (x := a_1) ha_1 ?_
    refine sx_V (pc := 15) (As := []) (rest := []) B hH hl.1 (C_X7_misplaced G l a_1 _ _ hp) mi_X7_misplaced coX7 hk_2 w_631 w_632 w_756 rfl rfl ⟨Nat.le_of_ble_eq_true rfl, Nat.le_of_ble_eq_true rfl⟩ (Nat.le_of_ble_eq_true rfl) ⟨Nat.le_of_ble_eq_true rfl, Nat.le_of_ble_eq_true rfl⟩ dX9_takesCount_15 (fun v S1 H locs hq hH => ?_)
    obtain ⟨r_18, F_18, rfl, e9, hp⟩ := hq
    rw [e9] at hH
    have hH : Hp G (FA S s.heap.size) s.heap (wI S F_18) H locs := hH
    refine W.eq (g2 := F0 m 18 ls [.int r_18]) rfl ?_
    obtain ⟨hz, hp⟩ := hp
    exact sx_zret (pc := 18) B hH hr hlk hz (by rw [← hQQ]; exact ⟨_, F_18, (gJ S), rfl, rfl, hp⟩) (Nat.le_of_ble_eq_true rfl) (Nat.le_of_ble_eq_true rfl) dX9_takesCount_18
theorem dX9_takesMethodName_0 : decode cX9_takesMethodName 0 = .ok (.aload_n 0, 1) := by decide +kernel
theorem dX9_takesMethodName_1 : decode cX9_takesMethodName 1 = .ok (.getfield 46, 3) := by decide +kernel
theorem dX9_takesMethodName_4 : decode cX9_takesMethodName 4 = .ok (.iconst 4, 1) := by decide +kernel
theorem dX9_takesMethodName_5 : decode cX9_takesMethodName 5 = .ok (.invokevirtual 56, 3) := by decide +kernel
theorem dX9_takesMethodName_8 : decode cX9_takesMethodName 8 = .ok (.ifCond .ne 11, 3) := by decide +kernel
theorem dX9_takesMethodName_11 : decode cX9_takesMethodName 11 = .ok (.aload_n 0, 1) := by decide +kernel
theorem dX9_takesMethodName_12 : decode cX9_takesMethodName 12 = .ok (.getfield 46, 3) := by decide +kernel
theorem dX9_takesMethodName_15 : decode cX9_takesMethodName 15 = .ok (.invokevirtual 68, 3) := by decide +kernel
theorem dX9_takesMethodName_18 : decode cX9_takesMethodName 18 = .ok (.ireturn, 1) := by decide +kernel
theorem dX9_takesMethodName_19 : decode cX9_takesMethodName 19 = .ok (.aload_n 1, 1) := by decide +kernel
theorem dX9_takesMethodName_20 : decode cX9_takesMethodName 20 = .ok (.aload_n 0, 1) := by decide +kernel
theorem dX9_takesMethodName_21 : decode cX9_takesMethodName 21 = .ok (.getfield 46, 3) := by decide +kernel
theorem dX9_takesMethodName_24 : decode cX9_takesMethodName 24 = .ok (.getfield 99, 3) := by decide +kernel
theorem dX9_takesMethodName_27 : decode cX9_takesMethodName 27 = .ok (.invokevirtual 103, 3) := by decide +kernel
theorem dX9_takesMethodName_30 : decode cX9_takesMethodName 30 = .ok (.astore_n 2, 1) := by decide +kernel
theorem dX9_takesMethodName_31 : decode cX9_takesMethodName 31 = .ok (.aload_n 2, 1) := by decide +kernel
theorem dX9_takesMethodName_32 : decode cX9_takesMethodName 32 = .ok (.ifnonnull 12, 3) := by decide +kernel
theorem dX9_takesMethodName_35 : decode cX9_takesMethodName 35 = .ok (.aload_n 0, 1) := by decide +kernel
theorem dX9_takesMethodName_36 : decode cX9_takesMethodName 36 = .ok (.getfield 46, 3) := by decide +kernel
theorem dX9_takesMethodName_39 : decode cX9_takesMethodName 39 = .ok (.iconst 3, 1) := by decide +kernel
theorem dX9_takesMethodName_40 : decode cX9_takesMethodName 40 = .ok (.invokevirtual 86, 3) := by decide +kernel
theorem dX9_takesMethodName_43 : decode cX9_takesMethodName 43 = .ok (.ireturn, 1) := by decide +kernel
theorem dX9_takesMethodName_44 : decode cX9_takesMethodName 44 = .ok (.aload_n 0, 1) := by decide +kernel
theorem dX9_takesMethodName_45 : decode cX9_takesMethodName 45 = .ok (.getfield 18, 3) := by decide +kernel
theorem dX9_takesMethodName_48 : decode cX9_takesMethodName 48 = .ok (.ifCond .le 30, 3) := by decide +kernel
theorem dX9_takesMethodName_51 : decode cX9_takesMethodName 51 = .ok (.aload_n 0, 1) := by decide +kernel
theorem dX9_takesMethodName_52 : decode cX9_takesMethodName 52 = .ok (.getfield 30, 3) := by decide +kernel
theorem dX9_takesMethodName_55 : decode cX9_takesMethodName 55 = .ok (.aload_n 0, 1) := by decide +kernel
theorem dX9_takesMethodName_56 : decode cX9_takesMethodName 56 = .ok (.getfield 18, 3) := by decide +kernel
theorem dX9_takesMethodName_59 : decode cX9_takesMethodName 59 = .ok (.iconst 1, 1) := by decide +kernel
theorem dX9_takesMethodName_60 : decode cX9_takesMethodName 60 = .ok (.isub, 1) := by decide +kernel
theorem dX9_takesMethodName_61 : decode cX9_takesMethodName 61 = .ok (.aload_n 2, 1) := by decide +kernel
theorem dX9_takesMethodName_62 : decode cX9_takesMethodName 62 = .ok (.aastore, 1) := by decide +kernel
theorem dX9_takesMethodName_63 : decode cX9_takesMethodName 63 = .ok (.aload_n 0, 1) := by decide +kernel
theorem dX9_takesMethodName_64 : decode cX9_takesMethodName 64 = .ok (.getfield 25, 3) := by decide +kernel
theorem dX9_takesMethodName_67 : decode cX9_takesMethodName 67 = .ok (.aload_n 0, 1) := by decide +kernel
theorem dX9_takesMethodName_68 : decode cX9_takesMethodName 68 = .ok (.getfield 18, 3) := by decide +kernel
theorem dX9_takesMethodName_71 : decode cX9_takesMethodName 71 = .ok (.iconst 1, 1) := by decide +kernel
theorem dX9_takesMethodName_72 : decode cX9_takesMethodName 72 = .ok (.isub, 1) := by decide +kernel
theorem dX9_takesMethodName_73 : decode cX9_takesMethodName 73 = .ok (.aload_n 2, 1) := by decide +kernel
theorem dX9_takesMethodName_74 : decode cX9_takesMethodName 74 = .ok (.invokevirtual 109, 3) := by decide +kernel
theorem dX9_takesMethodName_77 : decode cX9_takesMethodName 77 = .ok (.iastore, 1) := by decide +kernel
theorem dX9_takesMethodName_78 : decode cX9_takesMethodName 78 = .ok (.aload_n 0, 1) := by decide +kernel
theorem dX9_takesMethodName_79 : decode cX9_takesMethodName 79 = .ok (.getfield 46, 3) := by decide +kernel
theorem dX9_takesMethodName_82 : decode cX9_takesMethodName 82 = .ok (.invokevirtual 74, 3) := by decide +kernel
theorem dX9_takesMethodName_85 : decode cX9_takesMethodName 85 = .ok (.iconst 1, 1) := by decide +kernel
theorem dX9_takesMethodName_86 : decode cX9_takesMethodName 86 = .ok (.ireturn, 1) := by decide +kernel
theorem mi_X9_takesMethodName : MI yX9_takesMethodName cX9_takesMethodName 3 (some FieldType.boolean) 1 := ⟨w_778, w_112, by decide +kernel, by decide +kernel, by decide +kernel⟩
set_option maxRecDepth 100000 in
set_option maxHeartbeats 4000000 in
theorem C_X9_takesMethodName (G : GG) (l : Launch) (th : Nat) (p0 : Nat) (S : St) (Q : Int32 → (Nat → Nat → Int32) → (Nat → Nat → Int64) → (Nat → Nat → Option Nat) → Prop) (hp : P_X9_takesMethodName th p0 S Q) : Ctr G l yX9_takesMethodName cX9_takesMethodName 3 (some FieldType.boolean) 3 62 0 0 [.ref th, .ref p0] S (fun (v : Option Value) (S9 : St) => ∃ (r : Int32) (I9 : Nat → Nat → Int32) (J9 : Nat → Nat → Int64) (R9 : Nat → Nat → Option Nat), v = some (.int r) ∧ S9 = wA S I9 J9 R9 ∧ Q r I9 J9 R9) := by
  generalize hQQ : (fun (v : Option Value) (S9 : St) => ∃ (r : Int32) (I9 : Nat → Nat → Int32) (J9 : Nat → Nat → Int64) (R9 : Nat → Nat → Option Nat), v = some (.int r) ∧ S9 = wA S I9 J9 R9 ∧ Q r I9 J9 R9) = QQ
  unfold P_X9_takesMethodName at hp
  refine Ctr.of (by decide) (Nat.le_of_ble_eq_true rfl) ?_
  intro p e s m args below meth c ls B hr hlk hin hl hH
  generalize hlocs0 : ([] : List Loc) = locs at hH ⊢
  have hx := B.1
  have hb := B.2.1
  have hl : lv_has ls 3 [(0, .ref th), (1, .ref p0)] := hl
  obtain ⟨hk_th, hp⟩ := hp
  refine lv_aload_n (pc := 0) hx hb dX9_takesMethodName_0 rfl (lv_at hl 0 rfl) ?_
  refine sx_getR (pc := 1) (j := 0) B hH hk_th coX9 rfl w_303 rfl dX9_takesMethodName_1 ?_
  refine W.eq (g2 := F0 m 4 ls [va_rf (gR S th 0)]) rfl ?_
  obtain ⟨a_1, ha_1, hp⟩ := hp
  refine sx_nonnull (x := a_1) ha_1 ?_
  refine lv_iconst (pc := 4) (v := 4) hx hb dX9_takesMethodName_4 (by decide) ?_
  obtain ⟨hk_2, hp⟩ := hp
  refine sx_V (pc := 5) (As := [.int 4]) (rest := []) B hH hl.1 (C_X7_isAt G l a_1 4 _ _ hp) mi_X7_isAt coX7 hk_2 w_639 w_640 w_751 rfl rfl ⟨Nat.le_of_ble_eq_true rfl, Nat.le_of_ble_eq_true rfl⟩ (Nat.le_of_ble_eq_true rfl) ⟨Nat.le_of_ble_eq_true rfl, Nat.le_of_ble_eq_true rfl⟩ dX9_takesMethodName_5 (fun v S1 H locs hq hH => ?_)
  obtain ⟨r_3, rfl, e9, hp⟩ := hq
  rw [e9] at hH
  refine W.eq (g2 := F0 m 8 ls [.int r_3]) rfl ?_
  refine lv_if_ne (pc := 8) (tgt := 19) hx hb dX9_takesMethodName_8 (by decide) (fun cc_4 => ?_) (fun cc_4 => ?_)
  · have hp := hp.1 cc_4
    refine lv_aload_n (pc := 19) hx hb dX9_takesMethodName_19 rfl (lv_at hl 1 rfl) ?_
    refine lv_aload_n (pc := 20) hx hb dX9_takesMethodName_20 rfl (lv_at hl 0 rfl) ?_
    refine sx_getR (pc := 21) (j := 0) B hH hk_th coX9 rfl w_303 rfl dX9_takesMethodName_21 ?_
    refine W.eq (g2 := F0 m 24 ls [va_rf (gR S th 0), .ref p0]) rfl ?_
    refine sx_nonnull (x := a_1) ha_1 ?_
    refine sx_getJ (pc := 24) (j := 8) B hH hk_2 coX7 rfl w_219 rfl dX9_takesMethodName_24 ?_
    refine W.eq (g2 := F0 m 27 ls [.long (gJ S a_1 8), .ref p0]) rfl ?_
    obtain ⟨hk_5, hp⟩ := hp
    refine sx_V (pc := 27) (As := [.long (gJ S a_1 8)]) (rest := []) B hH hl.1 (C_X0_methodNamed G l p0 (gJ S a_1 8) _ _ hp) mi_X0_methodNamed coX0 hk_5 w_780 w_781 w_779 rfl rfl ⟨Nat.le_of_ble_eq_true rfl, Nat.le_of_ble_eq_true rfl⟩ (Nat.le_of_ble_eq_true rfl) ⟨Nat.le_of_ble_eq_true rfl, Nat.le_of_ble_eq_true rfl⟩ dX9_takesMethodName_27 (fun v S1 H locs hq hH => ?_)
    obtain ⟨r_6, rfl, e9, hp⟩ := hq
    rw [e9] at hH
    refine W.eq (g2 := F0 m 30 ls [va_rf r_6]) rfl ?_
    refine sx_astore_n (pc := 30) (r := r_6) (lv' := [(2, va_rf r_6), (0, .ref th), (1, .ref p0)]) B dX9_takesMethodName_30 rfl hl (by decide) rfl (fun ls hl => ?_)
    refine sx_aload_n (pc := 31) (r := r_6) B dX9_takesMethodName_31 rfl (lv_at hl 0 rfl) ?_
    refine sx_ifnonnull (pc := 32) (r := r_6) (tgt := 44) B dX9_takesMethodName_32 (by decide) (fun cc_7 => ?_) (fun cc_7 => ?_)
    · have hp := hp.1 cc_7
      refine lv_aload_n (pc := 44) hx hb dX9_takesMethodName_44 rfl (lv_at hl 1 rfl) ?_
      refine sx_getI (pc := 45) (j := 3) B hH hk_th coX9 rfl w_306 rfl dX9_takesMethodName_45 ?_
      refine W.eq (g2 := F0 m 48 ls [.int (gI S th 3)]) rfl ?_
      obtain ⟨J_9, hj_9, hp⟩ := hp
      have kj_9 : ∀ (F_10 : Nat → Nat → Int32) (R_11 : Nat → Nat → Option Nat) (H : Heap) (locs : List Loc) (ls : Array Slot), J_9 F_10 R_11 → Hp G (FA S s.heap.size) s.heap (wA S F_10 (gJ S) R_11) H locs → lv_has ls 3 [(0, .ref th)] → Wm G p l e { frames := 3, cells := 0, slots := 0, locals := 62 } s m args below meth c S QQ 0 0 H locs 0 0 (F0 m 78 ls []) := by
        intro F_10 R_11 H locs ls hq9 hH hl
        have hp := hj_9 F_10 R_11 hq9
        refine lv_aload_n (pc := 78) hx hb dX9_takesMethodName_78 rfl (lv_at hl 0 rfl) ?_
        refine sx_getR (pc := 79) (j := 0) B hH hk_th coX9 rfl w_303 rfl dX9_takesMethodName_79 ?_
        refine W.eq (g2 := F0 m 82 ls [va_rf (R_11 th 0)]) rfl ?_
        obtain ⟨a_12, ha_12, hp⟩ := hp
        refine sx_nonnull (x := a_12) ha_12 ?_
        obtain ⟨hk_13, hp⟩ := hp
        refine sx_V (pc := 82) (As := []) (rest := []) B hH hl.1 (C_X7_next G l a_12 _ _ hp) mi_X7_next coX7 hk_13 w_603 w_604 w_761 rfl rfl ⟨Nat.le_of_ble_eq_true rfl, Nat.le_of_ble_eq_true rfl⟩ (Nat.le_of_ble_eq_true rfl) ⟨Nat.le_of_ble_eq_true rfl, Nat.le_of_ble_eq_true rfl⟩ dX9_takesMethodName_82 (fun v S1 H locs hq hH => ?_)
        obtain ⟨F_14, J_14, rfl, e9, hp⟩ := hq
        rw [e9] at hH
        have hH : Hp G (FA S s.heap.size) s.heap (wA S F_14 J_14 R_11) H locs := hH
        refine W.eq (g2 := F0 m 85 ls []) rfl ?_
        refine lv_iconst (pc := 85) (v := 1) hx hb dX9_takesMethodName_85 (by decide) ?_
        exact sx_zret (pc := 86) B hH hr hlk (Or.inr rfl) (by rw [← hQQ]; exact ⟨_, F_14, J_14, R_11, rfl, rfl, hp⟩) (Nat.le_of_ble_eq_true rfl) (Nat.le_of_ble_eq_true rfl) dX9_takesMethodName_86
      refine lv_if_le (pc := 48) (tgt := 78) hx hb dX9_takesMethodName_48 (by decide) (fun cc_8 => ?_) (fun cc_8 => ?_)
      · have hp := hp.1 cc_8
        exact kj_9 _ _ _ _ _ hp hH (lv_sub hl [1] rfl)
      · have hp := hp.2 cc_8
        refine lv_aload_n (pc := 51) hx hb dX9_takesMethodName_51 rfl (lv_at hl 1 rfl) ?_
        refine sx_getR (pc := 52) (j := 6) B hH hk_th coX9 rfl w_309 rfl dX9_takesMethodName_52 ?_
        refine W.eq (g2 := F0 m 55 ls [va_rf (gR S th 6)]) rfl ?_
        obtain ⟨a_15, ha_15, hp⟩ := hp
        refine sx_nonnull (x := a_15) ha_15 ?_
        refine lv_aload_n (pc := 55) hx hb dX9_takesMethodName_55 rfl (lv_at hl 1 rfl) ?_
        refine sx_getI (pc := 56) (j := 3) B hH hk_th coX9 rfl w_306 rfl dX9_takesMethodName_56 ?_
        refine W.eq (g2 := F0 m 59 ls [.int (gI S th 3), .ref a_15]) rfl ?_
        refine lv_iconst (pc := 59) (v := 1) hx hb dX9_takesMethodName_59 (by decide) ?_
        refine lv_isub (pc := 60) hx hb dX9_takesMethodName_60 ?_
        refine sx_aload_n (pc := 61) (r := r_6) B dX9_takesMethodName_61 rfl (lv_at hl 0 rfl) ?_
        obtain ⟨hk_16, hp⟩ := hp
        obtain ⟨hn_17, hp⟩ := hp
        obtain ⟨hc_18, hp⟩ := hp
        obtain ⟨R_19, eR_19⟩ : ∃ z : Nat → Nat → Option Nat, z = upR (gR S) a_15 (((gI S th 3) - 1).toNatClampNeg) r_6 := ⟨_, rfl⟩
        have hp := hp R_19 eR_19
        refine sx_aast (pc := 62) (r := r_6) B hH hk_16 (by decide) rfl coX3 hc_18 hn_17 dX9_takesMethodName_62 (fun H locs hH => ?_)
        have hH : Hp G (FA S s.heap.size) s.heap (wA S (gI S) (gJ S) R_19) H locs := by rw [eR_19]; exact hH
        refine lv_aload_n (pc := 63) hx hb dX9_takesMethodName_63 rfl (lv_at hl 1 rfl) ?_
        refine sx_getR (pc := 64) (j := 5) B hH hk_th coX9 rfl w_308 rfl dX9_takesMethodName_64 ?_
        refine W.eq (g2 := F0 m 67 ls [va_rf (R_19 th 5)]) rfl ?_
        obtain ⟨a_20, ha_20, hp⟩ := hp
        refine sx_nonnull (x := a_20) ha_20 ?_
        refine lv_aload_n (pc := 67) hx hb dX9_takesMethodName_67 rfl (lv_at hl 1 rfl) ?_
        refine sx_getI (pc := 68) (j := 3) B hH hk_th coX9 rfl w_306 rfl dX9_takesMethodName_68 ?_
        refine W.eq (g2 := F0 m 71 ls [.int (gI S th 3), .ref a_20]) rfl ?_
        refine lv_iconst (pc := 71) (v := 1) hx hb dX9_takesMethodName_71 (by decide) ?_
        refine lv_isub (pc := 72) hx hb dX9_takesMethodName_72 ?_
        refine sx_aload_n (pc := 73) (r := r_6) B dX9_takesMethodName_73 rfl (lv_at hl 0 rfl) ?_
        obtain ⟨a_21, ha_21, hp⟩ := hp
        refine sx_nonnull (x := a_21) ha_21 ?_
        obtain ⟨hk_22, hp⟩ := hp
        refine sx_V (pc := 74) (As := []) (rest := [.int ((gI S th 3) - 1), .ref a_20]) B hH hl.1 (C_X3_length G l a_21 _ _ hp) mi_X3_length coX3 hk_22 w_784 w_785 w_783 rfl rfl ⟨Nat.le_of_ble_eq_true rfl, Nat.le_of_ble_eq_true rfl⟩ (Nat.le_of_ble_eq_true rfl) ⟨Nat.le_of_ble_eq_true rfl, Nat.le_of_ble_eq_true rfl⟩ dX9_takesMethodName_74 (fun v S1 H locs hq hH => ?_)
        obtain ⟨r_23, rfl, e9, hp⟩ := hq
        rw [e9] at hH
        refine W.eq (g2 := F0 m 77 ls [.int r_23, .int ((gI S th 3) - 1), .ref a_20]) rfl ?_
        obtain ⟨hk_24, hp⟩ := hp
        obtain ⟨hn_25, hp⟩ := hp
        obtain ⟨F_26, eF_26⟩ : ∃ z : Nat → Nat → Int32, z = upI (gI S) a_20 (((gI S th 3) - 1).toNatClampNeg) r_23 := ⟨_, rfl⟩
        have hp := hp F_26 eF_26
        refine sx_iast (pc := 77) B hH hk_24 hn_25 dX9_takesMethodName_77 (fun H locs hH => ?_)
        have hH : Hp G (FA S s.heap.size) s.heap (wA S F_26 (gJ S) R_19) H locs := by rw [eF_26]; exact hH
        exact kj_9 _ _ _ _ _ hp hH (lv_sub hl [1] rfl)
    · have hp := hp.2 cc_7
      refine lv_aload_n (pc := 35) hx hb dX9_takesMethodName_35 rfl (lv_at hl 1 rfl) ?_
      refine sx_getR (pc := 36) (j := 0) B hH hk_th coX9 rfl w_303 rfl dX9_takesMethodName_36 ?_
      refine W.eq (g2 := F0 m 39 ls [va_rf (gR S th 0)]) rfl ?_
      refine sx_nonnull (x := a_1) ha_1 ?_
      refine lv_iconst (pc := 39) (v := 3) hx hb dX9_takesMethodName_39 (by decide) ?_
      refine sx_V (pc := 40) (As := [.int 3]) (rest := []) B hH hl.1 (C_X7_wrong G l a_1 3 _ _ hp) mi_X7_wrong coX7 hk_2 w_635 w_636 w_770 rfl rfl ⟨Nat.le_of_ble_eq_true rfl, Nat.le_of_ble_eq_true rfl⟩ (Nat.le_of_ble_eq_true rfl) ⟨Nat.le_of_ble_eq_true rfl, Nat.le_of_ble_eq_true rfl⟩ dX9_takesMethodName_40 (fun v S1 H locs hq hH => ?_)
      obtain ⟨r_27, F_27, rfl, e9, hp⟩ := hq
      rw [e9] at hH
      have hH : Hp G (FA S s.heap.size) s.heap (wI S F_27) H locs := hH
      refine W.eq (g2 := F0 m 43 ls [.int r_27]) rfl ?_
      obtain ⟨hz, hp⟩ := hp
      exact sx_zret (pc := 43) B hH hr hlk hz (by rw [← hQQ]; exact ⟨_, F_27, (gJ S), (gR S), rfl, rfl, hp⟩) (Nat.le_of_ble_eq_true rfl) (Nat.le_of_ble_eq_true rfl) dX9_takesMethodName_43
  · have hp := hp.2 cc_4
    refine lv_aload_n (pc := 11) hx hb dX9_takesMethodName_11 rfl (lv_at hl 0 rfl) ?_
    refine sx_getR (pc := 12) (j := 0) B hH hk_th coX9 rfl w_303 rfl dX9_takesMethodName_12 ?_
    refine W.eq (g2 := F0 m 15 ls [va_rf (gR S th 0)]) rfl ?_
    refine sx_nonnull (x := a_1) ha_1 ?_
    refine sx_V (pc := 15) (As := []) (rest := []) B hH hl.1 (C_X7_misplaced G l a_1 _ _ hp) mi_X7_misplaced coX7 hk_2 w_631 w_632 w_756 rfl rfl ⟨Nat.le_of_ble_eq_true rfl, Nat.le_of_ble_eq_true rfl⟩ (Nat.le_of_ble_eq_true rfl) ⟨Nat.le_of_ble_eq_true rfl, Nat.le_of_ble_eq_true rfl⟩ dX9_takesMethodName_15 (fun v S1 H locs hq hH => ?_)
    obtain ⟨r_28, F_28, rfl, e9, hp⟩ := hq
    rw [e9] at hH
    have hH : Hp G (FA S s.heap.size) s.heap (wI S F_28) H locs := hH
    refine W.eq (g2 := F0 m 18 ls [.int r_28]) rfl ?_
    obtain ⟨hz, hp⟩ := hp
    exact sx_zret (pc := 18) B hH hr hlk hz (by rw [← hQQ]; exact ⟨_, F_28, (gJ S), (gR S), rfl, rfl, hp⟩) (Nat.le_of_ble_eq_true rfl) (Nat.le_of_ble_eq_true rfl) dX9_takesMethodName_18
theorem dX9_lastCount_0 : decode cX9_lastCount 0 = .ok (.aload_n 0, 1) := by decide +kernel
theorem dX9_lastCount_1 : decode cX9_lastCount 1 = .ok (.getfield 18, 3) := by decide +kernel
theorem dX9_lastCount_4 : decode cX9_lastCount 4 = .ok (.ifCond .le 17, 3) := by decide +kernel
theorem dX9_lastCount_7 : decode cX9_lastCount 7 = .ok (.aload_n 0, 1) := by decide +kernel
theorem dX9_lastCount_8 : decode cX9_lastCount 8 = .ok (.getfield 25, 3) := by decide +kernel
theorem dX9_lastCount_11 : decode cX9_lastCount 11 = .ok (.aload_n 0, 1) := by decide +kernel
theorem dX9_lastCount_12 : decode cX9_lastCount 12 = .ok (.getfield 18, 3) := by decide +kernel
theorem dX9_lastCount_15 : decode cX9_lastCount 15 = .ok (.iconst 1, 1) := by decide +kernel
theorem dX9_lastCount_16 : decode cX9_lastCount 16 = .ok (.isub, 1) := by decide +kernel
theorem dX9_lastCount_17 : decode cX9_lastCount 17 = .ok (.iaload, 1) := by decide +kernel
theorem dX9_lastCount_18 : decode cX9_lastCount 18 = .ok (.goto 4, 3) := by decide +kernel
theorem dX9_lastCount_21 : decode cX9_lastCount 21 = .ok (.iconst 0, 1) := by decide +kernel
theorem dX9_lastCount_22 : decode cX9_lastCount 22 = .ok (.ireturn, 1) := by decide +kernel
theorem mi_X9_lastCount : MI yX9_lastCount cX9_lastCount 1 (some FieldType.int) 0 := ⟨w_790, w_112, by decide +kernel, by decide +kernel, by decide +kernel⟩
set_option maxRecDepth 100000 in
set_option maxHeartbeats 4000000 in
theorem C_X9_lastCount (G : GG) (l : Launch) (th : Nat) (S : St) (Q : Int32 → Prop) (hp : P_X9_lastCount th S Q) : Ctr G l yX9_lastCount cX9_lastCount 1 (some FieldType.int) 0 0 0 0 [.ref th] S (fun (v : Option Value) (S9 : St) => ∃ (r : Int32), v = some (.int r) ∧ S9 = S ∧ Q r ) := by
  generalize hQQ : (fun (v : Option Value) (S9 : St) => ∃ (r : Int32), v = some (.int r) ∧ S9 = S ∧ Q r ) = QQ
  unfold P_X9_lastCount at hp
  refine Ctr.of (by decide) (Nat.le_of_ble_eq_true rfl) ?_
  intro p e s m args below meth c ls B hr hlk hin hl hH
  generalize hlocs0 : ([] : List Loc) = locs at hH ⊢
  have hx := B.1
  have hb := B.2.1
  have hl : lv_has ls 1 [(0, .ref th)] := hl
  obtain ⟨hk_th, hp⟩ := hp
  refine lv_aload_n (pc := 0) hx hb dX9_lastCount_0 rfl (lv_at hl 0 rfl) ?_
  refine sx_getI (pc := 1) (j := 3) B hH hk_th coX9 rfl w_306 rfl dX9_lastCount_1 ?_
  refine W.eq (g2 := F0 m 4 ls [.int (gI S th 3)]) rfl ?_
  refine lv_if_le (pc := 4) (tgt := 21) hx hb dX9_lastCount_4 (by decide) (fun cc_1 => ?_) (fun cc_1 => ?_)
  · have hp := hp.1 cc_1
    refine lv_iconst (pc := 21) (v := 0) hx hb dX9_lastCount_21 (by decide) ?_
    exact sx_iret (pc := 22) B hH hr hlk (by rw [← hQQ]; exact ⟨_, rfl, rfl, hp⟩) (Nat.le_of_ble_eq_true rfl) (Nat.le_of_ble_eq_true rfl) dX9_lastCount_22
  · have hp := hp.2 cc_1
    refine lv_aload_n (pc := 7) hx hb dX9_lastCount_7 rfl (lv_at hl 0 rfl) ?_
    refine sx_getR (pc := 8) (j := 5) B hH hk_th coX9 rfl w_308 rfl dX9_lastCount_8 ?_
    refine W.eq (g2 := F0 m 11 ls [va_rf (gR S th 5)]) rfl ?_
    obtain ⟨a_2, ha_2, hp⟩ := hp
    refine sx_nonnull (x := a_2) ha_2 ?_
    refine lv_aload_n (pc := 11) hx hb dX9_lastCount_11 rfl (lv_at hl 0 rfl) ?_
    refine sx_getI (pc := 12) (j := 3) B hH hk_th coX9 rfl w_306 rfl dX9_lastCount_12 ?_
    refine W.eq (g2 := F0 m 15 ls [.int (gI S th 3), .ref a_2]) rfl ?_
    refine lv_iconst (pc := 15) (v := 1) hx hb dX9_lastCount_15 (by decide) ?_
    refine lv_isub (pc := 16) hx hb dX9_lastCount_16 ?_
    obtain ⟨hk_3, hp⟩ := hp
    obtain ⟨hn_4, hp⟩ := hp
    refine sx_iald (pc := 17) B hH hk_3 hn_4 dX9_lastCount_17 ?_
    refine W.eq (g2 := F0 m 18 ls [.int (gI S a_2 (((gI S th 3) - 1).toNatClampNeg))]) rfl ?_
    refine lv_goto (pc := 18) (tgt := 22) hx hb dX9_lastCount_18 (by decide) ?_
    exact sx_iret (pc := 22) B hH hr hlk (by rw [← hQQ]; exact ⟨_, rfl, rfl, hp⟩) (Nat.le_of_ble_eq_true rfl) (Nat.le_of_ble_eq_true rfl) dX9_lastCount_22
theorem dX9_takesStep_0 : decode cX9_takesStep 0 = .ok (.aload_n 0, 1) := by decide +kernel
theorem dX9_takesStep_1 : decode cX9_takesStep 1 = .ok (.getfield 46, 3) := by decide +kernel
theorem dX9_takesStep_4 : decode cX9_takesStep 4 = .ok (.getfield 80, 3) := by decide +kernel
theorem dX9_takesStep_7 : decode cX9_takesStep 7 = .ok (.istore_n 2, 1) := by decide +kernel
theorem dX9_takesStep_8 : decode cX9_takesStep 8 = .ok (.iload_n 2, 1) := by decide +kernel
theorem dX9_takesStep_9 : decode cX9_takesStep 9 = .ok (.invokestatic 83, 3) := by decide +kernel
theorem dX9_takesStep_12 : decode cX9_takesStep 12 = .ok (.ifCond .ne 11, 3) := by decide +kernel
theorem dX9_takesStep_15 : decode cX9_takesStep 15 = .ok (.aload_n 0, 1) := by decide +kernel
theorem dX9_takesStep_16 : decode cX9_takesStep 16 = .ok (.getfield 46, 3) := by decide +kernel
theorem dX9_takesStep_19 : decode cX9_takesStep 19 = .ok (.invokevirtual 68, 3) := by decide +kernel
theorem dX9_takesStep_22 : decode cX9_takesStep 22 = .ok (.ireturn, 1) := by decide +kernel
theorem dX9_takesStep_23 : decode cX9_takesStep 23 = .ok (.aload_n 0, 1) := by decide +kernel
theorem dX9_takesStep_24 : decode cX9_takesStep 24 = .ok (.getfield 9, 3) := by decide +kernel
theorem dX9_takesStep_27 : decode cX9_takesStep 27 = .ok (.bipush 30, 2) := by decide +kernel
theorem dX9_takesStep_29 : decode cX9_takesStep 29 = .ok (.if_icmp .lt 13, 3) := by decide +kernel
theorem dX9_takesStep_32 : decode cX9_takesStep 32 = .ok (.aload_n 0, 1) := by decide +kernel
theorem dX9_takesStep_33 : decode cX9_takesStep 33 = .ok (.getfield 46, 3) := by decide +kernel
theorem dX9_takesStep_36 : decode cX9_takesStep 36 = .ok (.bipush 6, 2) := by decide +kernel
theorem dX9_takesStep_38 : decode cX9_takesStep 38 = .ok (.invokevirtual 86, 3) := by decide +kernel
theorem dX9_takesStep_41 : decode cX9_takesStep 41 = .ok (.ireturn, 1) := by decide +kernel
theorem dX9_takesStep_42 : decode cX9_takesStep 42 = .ok (.iload_n 2, 1) := by decide +kernel
theorem dX9_takesStep_43 : decode cX9_takesStep 43 = .ok (.bipush 15, 2) := by decide +kernel
theorem dX9_takesStep_45 : decode cX9_takesStep 45 = .ok (.if_icmp .ne 21, 3) := by decide +kernel
theorem dX9_takesStep_48 : decode cX9_takesStep 48 = .ok (.aload_n 0, 1) := by decide +kernel
theorem dX9_takesStep_49 : decode cX9_takesStep 49 = .ok (.getfield 15, 3) := by decide +kernel
theorem dX9_takesStep_52 : decode cX9_takesStep 52 = .ok (.iconst 3, 1) := by decide +kernel
theorem dX9_takesStep_53 : decode cX9_takesStep 53 = .ok (.if_icmp .lt 13, 3) := by decide +kernel
theorem dX9_takesStep_56 : decode cX9_takesStep 56 = .ok (.aload_n 0, 1) := by decide +kernel
theorem dX9_takesStep_57 : decode cX9_takesStep 57 = .ok (.getfield 46, 3) := by decide +kernel
theorem dX9_takesStep_60 : decode cX9_takesStep 60 = .ok (.bipush 7, 2) := by decide +kernel
theorem dX9_takesStep_62 : decode cX9_takesStep 62 = .ok (.invokevirtual 86, 3) := by decide +kernel
theorem dX9_takesStep_65 : decode cX9_takesStep 65 = .ok (.ireturn, 1) := by decide +kernel
theorem dX9_takesStep_66 : decode cX9_takesStep 66 = .ok (.aload_n 0, 1) := by decide +kernel
theorem dX9_takesStep_67 : decode cX9_takesStep 67 = .ok (.dup, 1) := by decide +kernel
theorem dX9_takesStep_68 : decode cX9_takesStep 68 = .ok (.getfield 9, 3) := by decide +kernel
theorem dX9_takesStep_71 : decode cX9_takesStep 71 = .ok (.iconst 1, 1) := by decide +kernel
theorem dX9_takesStep_72 : decode cX9_takesStep 72 = .ok (.iadd, 1) := by decide +kernel
theorem dX9_takesStep_73 : decode cX9_takesStep 73 = .ok (.putfield 9, 3) := by decide +kernel
theorem dX9_takesStep_76 : decode cX9_takesStep 76 = .ok (.aload_n 0, 1) := by decide +kernel
theorem dX9_takesStep_77 : decode cX9_takesStep 77 = .ok (.iload_n 2, 1) := by decide +kernel
theorem dX9_takesStep_78 : decode cX9_takesStep 78 = .ok (.invokevirtual 71, 3) := by decide +kernel
theorem dX9_takesStep_81 : decode cX9_takesStep 81 = .ok (.aload_n 0, 1) := by decide +kernel
theorem dX9_takesStep_82 : decode cX9_takesStep 82 = .ok (.getfield 46, 3) := by decide +kernel
theorem dX9_takesStep_85 : decode cX9_takesStep 85 = .ok (.invokevirtual 74, 3) := by decide +kernel
theorem dX9_takesStep_88 : decode cX9_takesStep 88 = .ok (.iload_n 2, 1) := by decide +kernel
theorem dX9_takesStep_89 : decode cX9_takesStep 89 = .ok (.bipush 15, 2) := by decide +kernel
theorem dX9_takesStep_91 : decode cX9_takesStep 91 = .ok (.if_icmp .ne 39, 3) := by decide +kernel
theorem dX9_takesStep_94 : decode cX9_takesStep 94 = .ok (.aload_n 0, 1) := by decide +kernel
theorem dX9_takesStep_95 : decode cX9_takesStep 95 = .ok (.dup, 1) := by decide +kernel
theorem dX9_takesStep_96 : decode cX9_takesStep 96 = .ok (.getfield 15, 3) := by decide +kernel
theorem dX9_takesStep_99 : decode cX9_takesStep 99 = .ok (.iconst 1, 1) := by decide +kernel
theorem dX9_takesStep_100 : decode cX9_takesStep 100 = .ok (.iadd, 1) := by decide +kernel
theorem dX9_takesStep_101 : decode cX9_takesStep 101 = .ok (.putfield 15, 3) := by decide +kernel
theorem dX9_takesStep_104 : decode cX9_takesStep 104 = .ok (.aload_n 0, 1) := by decide +kernel
theorem dX9_takesStep_105 : decode cX9_takesStep 105 = .ok (.bipush 99, 2) := by decide +kernel
theorem dX9_takesStep_107 : decode cX9_takesStep 107 = .ok (.invokevirtual 89, 3) := by decide +kernel
theorem dX9_takesStep_110 : decode cX9_takesStep 110 = .ok (.ifCond .eq 18, 3) := by decide +kernel
theorem dX9_takesStep_113 : decode cX9_takesStep 113 = .ok (.aload_n 0, 1) := by decide +kernel
theorem dX9_takesStep_114 : decode cX9_takesStep 114 = .ok (.getfield 46, 3) := by decide +kernel
theorem dX9_takesStep_117 : decode cX9_takesStep 117 = .ok (.iconst 2, 1) := by decide +kernel
theorem dX9_takesStep_118 : decode cX9_takesStep 118 = .ok (.invokevirtual 77, 3) := by decide +kernel
theorem dX9_takesStep_121 : decode cX9_takesStep 121 = .ok (.ifCond .eq 7, 3) := by decide +kernel
theorem dX9_takesStep_124 : decode cX9_takesStep 124 = .ok (.iconst 1, 1) := by decide +kernel
theorem dX9_takesStep_125 : decode cX9_takesStep 125 = .ok (.goto 4, 3) := by decide +kernel
theorem dX9_takesStep_128 : decode cX9_takesStep 128 = .ok (.iconst 0, 1) := by decide +kernel
theorem dX9_takesStep_129 : decode cX9_takesStep 129 = .ok (.ireturn, 1) := by decide +kernel
theorem dX9_takesStep_130 : decode cX9_takesStep 130 = .ok (.iload_n 2, 1) := by decide +kernel
theorem dX9_takesStep_131 : decode cX9_takesStep 131 = .ok (.bipush 17, 2) := by decide +kernel
theorem dX9_takesStep_133 : decode cX9_takesStep 133 = .ok (.if_icmp .eq 13, 3) := by decide +kernel
theorem dX9_takesStep_136 : decode cX9_takesStep 136 = .ok (.aload_n 0, 1) := by decide +kernel
theorem dX9_takesStep_137 : decode cX9_takesStep 137 = .ok (.aload_n 1, 1) := by decide +kernel
theorem dX9_takesStep_138 : decode cX9_takesStep 138 = .ok (.invokevirtual 92, 3) := by decide +kernel
theorem dX9_takesStep_141 : decode cX9_takesStep 141 = .ok (.ifCond .ne 5, 3) := by decide +kernel
theorem dX9_takesStep_144 : decode cX9_takesStep 144 = .ok (.iconst 0, 1) := by decide +kernel
theorem dX9_takesStep_145 : decode cX9_takesStep 145 = .ok (.ireturn, 1) := by decide +kernel
theorem dX9_takesStep_146 : decode cX9_takesStep 146 = .ok (.iload_n 2, 1) := by decide +kernel
theorem dX9_takesStep_147 : decode cX9_takesStep 147 = .ok (.bipush 14, 2) := by decide +kernel
theorem dX9_takesStep_149 : decode cX9_takesStep 149 = .ok (.if_icmp .ne 16, 3) := by decide +kernel
theorem dX9_takesStep_152 : decode cX9_takesStep 152 = .ok (.aload_n 0, 1) := by decide +kernel
theorem dX9_takesStep_153 : decode cX9_takesStep 153 = .ok (.aload_n 0, 1) := by decide +kernel
theorem dX9_takesStep_154 : decode cX9_takesStep 154 = .ok (.invokevirtual 95, 3) := by decide +kernel
theorem dX9_takesStep_157 : decode cX9_takesStep 157 = .ok (.invokevirtual 89, 3) := by decide +kernel
theorem dX9_takesStep_160 : decode cX9_takesStep 160 = .ok (.ifCond .ne 5, 3) := by decide +kernel
theorem dX9_takesStep_163 : decode cX9_takesStep 163 = .ok (.iconst 0, 1) := by decide +kernel
theorem dX9_takesStep_164 : decode cX9_takesStep 164 = .ok (.ireturn, 1) := by decide +kernel
theorem dX9_takesStep_165 : decode cX9_takesStep 165 = .ok (.aload_n 0, 1) := by decide +kernel
theorem dX9_takesStep_166 : decode cX9_takesStep 166 = .ok (.getfield 46, 3) := by decide +kernel
theorem dX9_takesStep_169 : decode cX9_takesStep 169 = .ok (.iconst 2, 1) := by decide +kernel
theorem dX9_takesStep_170 : decode cX9_takesStep 170 = .ok (.invokevirtual 77, 3) := by decide +kernel
theorem dX9_takesStep_173 : decode cX9_takesStep 173 = .ok (.ireturn, 1) := by decide +kernel
theorem mi_X9_takesStep : MI yX9_takesStep cX9_takesStep 3 (some FieldType.boolean) 1 := ⟨w_766, w_112, by decide +kernel, by decide +kernel, by decide +kernel⟩
set_option maxRecDepth 100000 in
set_option maxHeartbeats 4000000 in
theorem C_X9_takesStep (G : GG) (l : Launch) (th : Nat) (p0 : Nat) (S : St) (Q : Int32 → (Nat → Nat → Int32) → (Nat → Nat → Int64) → (Nat → Nat → Option Nat) → Prop) (hp : P_X9_takesStep th p0 S Q) : Ctr G l yX9_takesStep cX9_takesStep 3 (some FieldType.boolean) 4 84 0 0 [.ref th, .ref p0] S (fun (v : Option Value) (S9 : St) => ∃ (r : Int32) (I9 : Nat → Nat → Int32) (J9 : Nat → Nat → Int64) (R9 : Nat → Nat → Option Nat), v = some (.int r) ∧ S9 = wA S I9 J9 R9 ∧ Q r I9 J9 R9) := by
  generalize hQQ : (fun (v : Option Value) (S9 : St) => ∃ (r : Int32) (I9 : Nat → Nat → Int32) (J9 : Nat → Nat → Int64) (R9 : Nat → Nat → Option Nat), v = some (.int r) ∧ S9 = wA S I9 J9 R9 ∧ Q r I9 J9 R9) = QQ
  unfold P_X9_takesStep at hp
  refine Ctr.of (by decide) (Nat.le_of_ble_eq_true rfl) ?_
  intro p e s m args below meth c ls B hr hlk hin hl hH
  generalize hlocs0 : ([] : List Loc) = locs at hH ⊢
  have hx := B.1
  have hb := B.2.1
  have hl : lv_has ls 3 [(0, .ref th), (1, .ref p0)] := hl
  obtain ⟨hk_th, hp⟩ := hp
  refine lv_aload_n (pc := 0) hx hb dX9_takesStep_0 rfl (lv_at hl 0 rfl) ?_
  refine sx_getR (pc := 1) (j := 0) B hH hk_th coX9 rfl w_303 rfl dX9_takesStep_1 ?_
  refine W.eq (g2 := F0 m 4 ls [va_rf (gR S th 0)]) rfl ?_
  obtain ⟨a_1, ha_1, hp⟩ := hp
  refine sx_nonnull (x := a_1) ha_1 ?_
  obtain ⟨hk_2, hp⟩ := hp
  refine sx_getI (pc := 4) (j := 6) B hH hk_2 coX7 rfl w_213 rfl dX9_takesStep_4 ?_
  refine W.eq (g2 := F0 m 7 ls [.int (gI S a_1 6)]) rfl ?_
  refine lv_topi (fun v_3 ev_3 => ?_)
  have hp := hp v_3 ev_3
  refine lv_istore_n (pc := 7) (lv' := [(2, .int v_3), (0, .ref th), (1, .ref p0)]) hx hb dX9_takesStep_7 rfl hl (by decide) rfl (fun ls hl => ?_)
  refine lv_iload_n (pc := 8) hx hb dX9_takesStep_8 rfl (lv_at hl 0 rfl) ?_
  refine sx_S (pc := 9) (As := [.int v_3]) (rest := []) B hH hl.1 (C_X9_isStep G l v_3 _ _ hp) mi_X9_isStep w_768 w_767 rfl rfl ⟨Nat.le_of_ble_eq_true rfl, Nat.le_of_ble_eq_true rfl⟩ (Nat.le_of_ble_eq_true rfl) ⟨Nat.le_of_ble_eq_true rfl, Nat.le_of_ble_eq_true rfl⟩ dX9_takesStep_9 (fun v S1 H locs hq hH => ?_)
  obtain ⟨r_4, rfl, e9, hp⟩ := hq
  rw [e9] at hH
  refine W.eq (g2 := F0 m 12 ls [.int r_4]) rfl ?_
  refine lv_if_ne (pc := 12) (tgt := 23) hx hb dX9_takesStep_12 (by decide) (fun cc_5 => ?_) (fun cc_5 => ?_)
  · have hp := hp.1 cc_5
    refine lv_aload_n (pc := 23) hx hb dX9_takesStep_23 rfl (lv_at hl 1 rfl) ?_
    refine sx_getI (pc := 24) (j := 1) B hH hk_th coX9 rfl w_304 rfl dX9_takesStep_24 ?_
    refine W.eq (g2 := F0 m 27 ls [.int (gI S th 1)]) rfl ?_
    refine lv_bipush (pc := 27) (v := 30) hx hb dX9_takesStep_27 (by decide) ?_
    refine lv_icmp_lt (pc := 29) (tgt := 42) hx hb dX9_takesStep_29 (by decide) (fun cc_6 => ?_) (fun cc_6 => ?_)
    · have hp := hp.1 cc_6
      refine lv_iload_n (pc := 42) hx hb dX9_takesStep_42 rfl (lv_at hl 0 rfl) ?_
      refine lv_bipush (pc := 43) (v := 15) hx hb dX9_takesStep_43 (by decide) ?_
      obtain ⟨J_8, hj_8, hp⟩ := hp
      have kj_8 : ∀  (H : Heap) (locs : List Loc) (ls : Array Slot), J_8  → Hp G (FA S s.heap.size) s.heap S H locs → lv_has ls 3 [(0, .ref th), (1, .ref p0), (2, .int v_3)] → Wm G p l e { frames := 4, cells := 0, slots := 0, locals := 84 } s m args below meth c S QQ 0 0 H locs 0 0 (F0 m 66 ls []) := by
        intro  H locs ls hq9 hH hl
        have hp := hj_8  hq9
        refine lv_aload_n (pc := 66) hx hb dX9_takesStep_66 rfl (lv_at hl 0 rfl) ?_
        refine lv_dup (pc := 67) hx hb dX9_takesStep_67 rfl ?_
        refine sx_getI (pc := 68) (j := 1) B hH hk_th coX9 rfl w_304 rfl dX9_takesStep_68 ?_
        refine W.eq (g2 := F0 m 71 ls [.int (gI S th 1), .ref th]) rfl ?_
        refine lv_iconst (pc := 71) (v := 1) hx hb dX9_takesStep_71 (by decide) ?_
        refine lv_iadd (pc := 72) hx hb dX9_takesStep_72 ?_
        refine lv_topi (fun v_9 ev_9 => ?_)
        have hp := hp v_9 ev_9
        obtain ⟨F_10, eF_10⟩ : ∃ z : Nat → Nat → Int32, z = upI (gI S) th 1 v_9 := ⟨_, rfl⟩
        have hp := hp F_10 eF_10
        refine sx_putI (pc := 73) (j := 1) B hH hk_th coX9 rfl w_304 rfl (Or.inl rfl) rfl dX9_takesStep_73 (fun H locs hH => ?_)
        have hH : Hp G (FA S s.heap.size) s.heap (wI S F_10) H locs := by rw [eF_10]; exact hH
        refine lv_aload_n (pc := 76) hx hb dX9_takesStep_76 rfl (lv_at hl 0 rfl) ?_
        refine lv_iload_n (pc := 77) hx hb dX9_takesStep_77 rfl (lv_at hl 2 rfl) ?_
        refine sx_V (pc := 78) (As := [.int v_3]) (rest := []) B hH hl.1 (C_X9_addLine G l th v_3 _ _ hp) mi_X9_addLine coX9 hk_th w_759 w_18 w_757 rfl rfl ⟨Nat.le_of_ble_eq_true rfl, Nat.le_of_ble_eq_true rfl⟩ (Nat.le_of_ble_eq_true rfl) ⟨Nat.le_of_ble_eq_true rfl, Nat.le_of_ble_eq_true rfl⟩ dX9_takesStep_78 (fun v S1 H locs hq hH => ?_)
        obtain ⟨F_11, R_11, rfl, e9, hp⟩ := hq
        rw [e9] at hH
        have hH : Hp G (FA S s.heap.size) s.heap (wA S F_11 (gJ S) R_11) H locs := hH
        refine W.eq (g2 := F0 m 81 ls []) rfl ?_
        refine lv_aload_n (pc := 81) hx hb dX9_takesStep_81 rfl (lv_at hl 0 rfl) ?_
        refine sx_getR (pc := 82) (j := 0) B hH hk_th coX9 rfl w_303 rfl dX9_takesStep_82 ?_
        refine W.eq (g2 := F0 m 85 ls [va_rf (R_11 th 0)]) rfl ?_
        obtain ⟨a_12, ha_12, hp⟩ := hp
        refine sx_nonnull (x := a_12) ha_12 ?_
        obtain ⟨hk_13, hp⟩ := hp
        refine sx_V (pc := 85) (As := []) (rest := []) B hH hl.1 (C_X7_next G l a_12 _ _ hp) mi_X7_next coX7 hk_13 w_603 w_604 w_761 rfl rfl ⟨Nat.le_of_ble_eq_true rfl, Nat.le_of_ble_eq_true rfl⟩ (Nat.le_of_ble_eq_true rfl) ⟨Nat.le_of_ble_eq_true rfl, Nat.le_of_ble_eq_true rfl⟩ dX9_takesStep_85 (fun v S1 H locs hq hH => ?_)
        obtain ⟨F_14, J_14, rfl, e9, hp⟩ := hq
        rw [e9] at hH
        have hH : Hp G (FA S s.heap.size) s.heap (wA S F_14 J_14 R_11) H locs := hH
        refine W.eq (g2 := F0 m 88 ls []) rfl ?_
        refine lv_iload_n (pc := 88) hx hb dX9_takesStep_88 rfl (lv_at hl 2 rfl) ?_
        refine lv_bipush (pc := 89) (v := 15) hx hb dX9_takesStep_89 (by decide) ?_
        refine lv_icmp_ne (pc := 91) (tgt := 130) hx hb dX9_takesStep_91 (by decide) (fun cc_15 => ?_) (fun cc_15 => ?_)
        · have hp := hp.1 cc_15
          refine lv_iload_n (pc := 130) hx hb dX9_takesStep_130 rfl (lv_at hl 2 rfl) ?_
          refine lv_bipush (pc := 131) (v := 17) hx hb dX9_takesStep_131 (by decide) ?_
          obtain ⟨J_17, hj_17, hp⟩ := hp
          have kj_17 : ∀ (F_18 : Nat → Nat → Int32) (J_19 : Nat → Nat → Int64) (R_20 : Nat → Nat → Option Nat) (H : Heap) (locs : List Loc) (ls : Array Slot), J_17 F_18 J_19 R_20 → Hp G (FA S s.heap.size) s.heap (wA S F_18 J_19 R_20) H locs → lv_has ls 3 [(0, .ref th), (2, .int v_3)] → Wm G p l e { frames := 4, cells := 0, slots := 0, locals := 84 } s m args below meth c S QQ 0 0 H locs 0 0 (F0 m 146 ls []) := by
            intro F_18 J_19 R_20 H locs ls hq9 hH hl
            have hp := hj_17 F_18 J_19 R_20 hq9
            refine lv_iload_n (pc := 146) hx hb dX9_takesStep_146 rfl (lv_at hl 1 rfl) ?_
            refine lv_bipush (pc := 147) (v := 14) hx hb dX9_takesStep_147 (by decide) ?_
            obtain ⟨J_22, hj_22, hp⟩ := hp
            have kj_22 : ∀ (F_23 : Nat → Nat → Int32) (J_24 : Nat → Nat → Int64) (H : Heap) (locs : List Loc) (ls : Array Slot), J_22 F_23 J_24 → Hp G (FA S s.heap.size) s.heap (wA S F_23 J_24 R_20) H locs → lv_has ls 3 [(0, .ref th)] → Wm G p l e { frames := 4, cells := 0, slots := 0, locals := 84 } s m args below meth c S QQ 0 0 H locs 0 0 (F0 m 165 ls []) := by
              intro F_23 J_24 H locs ls hq9 hH hl
              have hp := hj_22 F_23 J_24 hq9
              refine lv_aload_n (pc := 165) hx hb dX9_takesStep_165 rfl (lv_at hl 0 rfl) ?_
              refine sx_getR (pc := 166) (j := 0) B hH hk_th coX9 rfl w_303 rfl dX9_takesStep_166 ?_
              refine W.eq (g2 := F0 m 169 ls [va_rf (R_20 th 0)]) rfl ?_
              obtain ⟨a_25, ha_25, hp⟩ := hp
              refine sx_nonnull (x := a_25) ha_25 ?_
              refine lv_iconst (pc := 169) (v := 2) hx hb dX9_takesStep_169 (by decide) ?_
              obtain ⟨hk_26, hp⟩ := hp
              refine sx_V (pc := 170) (As := [.int 2]) (rest := []) B hH hl.1 (C_X7_take G l a_25 2 _ _ hp) mi_X7_take coX7 hk_26 w_627 w_628 w_762 rfl rfl ⟨Nat.le_of_ble_eq_true rfl, Nat.le_of_ble_eq_true rfl⟩ (Nat.le_of_ble_eq_true rfl) ⟨Nat.le_of_ble_eq_true rfl, Nat.le_of_ble_eq_true rfl⟩ dX9_takesStep_170 (fun v S1 H locs hq hH => ?_)
              obtain ⟨r_27, F_27, J_27, rfl, e9, hp⟩ := hq
              rw [e9] at hH
              have hH : Hp G (FA S s.heap.size) s.heap (wA S F_27 J_27 R_20) H locs := hH
              refine W.eq (g2 := F0 m 173 ls [.int r_27]) rfl ?_
              obtain ⟨hz, hp⟩ := hp
              exact sx_zret (pc := 173) B hH hr hlk hz (by rw [← hQQ]; exact ⟨_, F_27, J_27, R_20, rfl, rfl, hp⟩) (Nat.le_of_ble_eq_true rfl) (Nat.le_of_ble_eq_true rfl) dX9_takesStep_173
            refine lv_icmp_ne (pc := 149) (tgt := 165) hx hb dX9_takesStep_149 (by decide) (fun cc_21 => ?_) (fun cc_21 => ?_)
            · have hp := hp.1 cc_21
              exact kj_22 _ _ _ _ _ hp hH (lv_sub hl [0] rfl)
            · have hp := hp.2 cc_21
              refine lv_aload_n (pc := 152) hx hb dX9_takesStep_152 rfl (lv_at hl 0 rfl) ?_
              refine lv_aload_n (pc := 153) hx hb dX9_takesStep_153 rfl (lv_at hl 0 rfl) ?_
              refine sx_V (pc := 154) (As := []) (rest := [.ref th]) B hH hl.1 (C_X9_lastCount G l th _ _ hp) mi_X9_lastCount coX9 hk_th w_789 w_22 w_787 rfl rfl ⟨Nat.le_of_ble_eq_true rfl, Nat.le_of_ble_eq_true rfl⟩ (Nat.le_of_ble_eq_true rfl) ⟨Nat.le_of_ble_eq_true rfl, Nat.le_of_ble_eq_true rfl⟩ dX9_takesStep_154 (fun v S1 H locs hq hH => ?_)
              obtain ⟨r_28, rfl, e9, hp⟩ := hq
              rw [e9] at hH
              refine W.eq (g2 := F0 m 157 ls [.int r_28, .ref th]) rfl ?_
              refine sx_V (pc := 157) (As := [.int r_28]) (rest := []) B hH hl.1 (C_X9_takesCount G l th r_28 _ _ hp) mi_X9_takesCount coX9 hk_th w_773 w_20 w_771 rfl rfl ⟨Nat.le_of_ble_eq_true rfl, Nat.le_of_ble_eq_true rfl⟩ (Nat.le_of_ble_eq_true rfl) ⟨Nat.le_of_ble_eq_true rfl, Nat.le_of_ble_eq_true rfl⟩ dX9_takesStep_157 (fun v S1 H locs hq hH => ?_)
              obtain ⟨r_29, F_29, J_29, rfl, e9, hp⟩ := hq
              rw [e9] at hH
              have hH : Hp G (FA S s.heap.size) s.heap (wA S F_29 J_29 R_20) H locs := hH
              refine W.eq (g2 := F0 m 160 ls [.int r_29]) rfl ?_
              refine lv_if_ne (pc := 160) (tgt := 165) hx hb dX9_takesStep_160 (by decide) (fun cc_30 => ?_) (fun cc_30 => ?_)
              · have hp := hp.1 cc_30
                exact kj_22 _ _ _ _ _ hp hH (lv_sub hl [0] rfl)
              · have hp := hp.2 cc_30
                refine lv_iconst (pc := 163) (v := 0) hx hb dX9_takesStep_163 (by decide) ?_
                exact sx_zret (pc := 164) B hH hr hlk (Or.inl rfl) (by rw [← hQQ]; exact ⟨_, F_29, J_29, R_20, rfl, rfl, hp⟩) (Nat.le_of_ble_eq_true rfl) (Nat.le_of_ble_eq_true rfl) dX9_takesStep_164
          refine lv_icmp_eq (pc := 133) (tgt := 146) hx hb dX9_takesStep_133 (by decide) (fun cc_16 => ?_) (fun cc_16 => ?_)
          · have hp := hp.1 cc_16
            exact kj_17 _ _ _ _ _ _ hp hH (lv_sub hl [0, 2] rfl)
          · have hp := hp.2 cc_16
            refine lv_aload_n (pc := 136) hx hb dX9_takesStep_136 rfl (lv_at hl 0 rfl) ?_
            refine lv_aload_n (pc := 137) hx hb dX9_takesStep_137 rfl (lv_at hl 1 rfl) ?_
            refine sx_V (pc := 138) (As := [.ref p0]) (rest := []) B hH hl.1 (C_X9_takesMethodName G l th p0 _ _ hp) mi_X9_takesMethodName coX9 hk_th w_777 w_21 w_775 rfl rfl ⟨Nat.le_of_ble_eq_true rfl, Nat.le_of_ble_eq_true rfl⟩ (Nat.le_of_ble_eq_true rfl) ⟨Nat.le_of_ble_eq_true rfl, Nat.le_of_ble_eq_true rfl⟩ dX9_takesStep_138 (fun v S1 H locs hq hH => ?_)
            obtain ⟨r_31, F_31, J_31, R_31, rfl, e9, hp⟩ := hq
            rw [e9] at hH
            have hH : Hp G (FA S s.heap.size) s.heap (wA S F_31 J_31 R_31) H locs := hH
            refine W.eq (g2 := F0 m 141 ls [.int r_31]) rfl ?_
            refine lv_if_ne (pc := 141) (tgt := 146) hx hb dX9_takesStep_141 (by decide) (fun cc_32 => ?_) (fun cc_32 => ?_)
            · have hp := hp.1 cc_32
              exact kj_17 _ _ _ _ _ _ hp hH (lv_sub hl [0, 2] rfl)
            · have hp := hp.2 cc_32
              refine lv_iconst (pc := 144) (v := 0) hx hb dX9_takesStep_144 (by decide) ?_
              exact sx_zret (pc := 145) B hH hr hlk (Or.inl rfl) (by rw [← hQQ]; exact ⟨_, F_31, J_31, R_31, rfl, rfl, hp⟩) (Nat.le_of_ble_eq_true rfl) (Nat.le_of_ble_eq_true rfl) dX9_takesStep_145
        · have hp := hp.2 cc_15
          refine lv_aload_n (pc := 94) hx hb dX9_takesStep_94 rfl (lv_at hl 0 rfl) ?_
          refine lv_dup (pc := 95) hx hb dX9_takesStep_95 rfl ?_
          refine sx_getI (pc := 96) (j := 2) B hH hk_th coX9 rfl w_305 rfl dX9_takesStep_96 ?_
          refine W.eq (g2 := F0 m 99 ls [.int (F_14 th 2), .ref th]) rfl ?_
          refine lv_iconst (pc := 99) (v := 1) hx hb dX9_takesStep_99 (by decide) ?_
          refine lv_iadd (pc := 100) hx hb dX9_takesStep_100 ?_
          refine lv_topi (fun v_33 ev_33 => ?_)
          have hp := hp v_33 ev_33
          obtain ⟨F_34, eF_34⟩ : ∃ z : Nat → Nat → Int32, z = upI F_14 th 2 v_33 := ⟨_, rfl⟩
          have hp := hp F_34 eF_34
          refine sx_putI (pc := 101) (j := 2) B hH hk_th coX9 rfl w_305 rfl (Or.inl rfl) rfl dX9_takesStep_101 (fun H locs hH => ?_)
          have hH : Hp G (FA S s.heap.size) s.heap (wA S F_34 J_14 R_11) H locs := by rw [eF_34]; exact hH
          refine lv_aload_n (pc := 104) hx hb dX9_takesStep_104 rfl (lv_at hl 0 rfl) ?_
          refine lv_bipush (pc := 105) (v := 99) hx hb dX9_takesStep_105 (by decide) ?_
          refine sx_V (pc := 107) (As := [.int 99]) (rest := []) B hH hl.1 (C_X9_takesCount G l th 99 _ _ hp) mi_X9_takesCount coX9 hk_th w_773 w_20 w_771 rfl rfl ⟨Nat.le_of_ble_eq_true rfl, Nat.le_of_ble_eq_true rfl⟩ (Nat.le_of_ble_eq_true rfl) ⟨Nat.le_of_ble_eq_true rfl, Nat.le_of_ble_eq_true rfl⟩ dX9_takesStep_107 (fun v S1 H locs hq hH => ?_)
          obtain ⟨r_35, F_35, J_35, rfl, e9, hp⟩ := hq
          rw [e9] at hH
          have hH : Hp G (FA S s.heap.size) s.heap (wA S F_35 J_35 R_11) H locs := hH
          refine W.eq (g2 := F0 m 110 ls [.int r_35]) rfl ?_
          refine lv_if_eq (pc := 110) (tgt := 128) hx hb dX9_takesStep_110 (by decide) (fun cc_36 => ?_) (fun cc_36 => ?_)
          · have hp := hp.1 cc_36
            refine lv_iconst (pc := 128) (v := 0) hx hb dX9_takesStep_128 (by decide) ?_
            exact sx_zret (pc := 129) B hH hr hlk (Or.inl rfl) (by rw [← hQQ]; exact ⟨_, F_35, J_35, R_11, rfl, rfl, hp⟩) (Nat.le_of_ble_eq_true rfl) (Nat.le_of_ble_eq_true rfl) dX9_takesStep_129
          · have hp := hp.2 cc_36
            refine lv_aload_n (pc := 113) hx hb dX9_takesStep_113 rfl (lv_at hl 0 rfl) ?_
            refine sx_getR (pc := 114) (j := 0) B hH hk_th coX9 rfl w_303 rfl dX9_takesStep_114 ?_
            refine W.eq (g2 := F0 m 117 ls [va_rf (R_11 th 0)]) rfl ?_
            refine sx_nonnull (x := a_12) ha_12 ?_
            refine lv_iconst (pc := 117) (v := 2) hx hb dX9_takesStep_117 (by decide) ?_
            refine sx_V (pc := 118) (As := [.int 2]) (rest := []) B hH hl.1 (C_X7_take G l a_12 2 _ _ hp) mi_X7_take coX7 hk_13 w_627 w_628 w_762 rfl rfl ⟨Nat.le_of_ble_eq_true rfl, Nat.le_of_ble_eq_true rfl⟩ (Nat.le_of_ble_eq_true rfl) ⟨Nat.le_of_ble_eq_true rfl, Nat.le_of_ble_eq_true rfl⟩ dX9_takesStep_118 (fun v S1 H locs hq hH => ?_)
            obtain ⟨r_37, F_37, J_37, rfl, e9, hp⟩ := hq
            rw [e9] at hH
            have hH : Hp G (FA S s.heap.size) s.heap (wA S F_37 J_37 R_11) H locs := hH
            refine W.eq (g2 := F0 m 121 ls [.int r_37]) rfl ?_
            refine lv_if_eq (pc := 121) (tgt := 128) hx hb dX9_takesStep_121 (by decide) (fun cc_38 => ?_) (fun cc_38 => ?_)
            · have hp := hp.1 cc_38
              refine lv_iconst (pc := 128) (v := 0) hx hb dX9_takesStep_128 (by decide) ?_
              exact sx_zret (pc := 129) B hH hr hlk (Or.inl rfl) (by rw [← hQQ]; exact ⟨_, F_37, J_37, R_11, rfl, rfl, hp⟩) (Nat.le_of_ble_eq_true rfl) (Nat.le_of_ble_eq_true rfl) dX9_takesStep_129
            · have hp := hp.2 cc_38
              refine lv_iconst (pc := 124) (v := 1) hx hb dX9_takesStep_124 (by decide) ?_
              refine lv_goto (pc := 125) (tgt := 129) hx hb dX9_takesStep_125 (by decide) ?_
              exact sx_zret (pc := 129) B hH hr hlk (Or.inr rfl) (by rw [← hQQ]; exact ⟨_, F_37, J_37, R_11, rfl, rfl, hp⟩) (Nat.le_of_ble_eq_true rfl) (Nat.le_of_ble_eq_true rfl) dX9_takesStep_129
      refine lv_icmp_ne (pc := 45) (tgt := 66) hx hb dX9_takesStep_45 (by decide) (fun cc_7 => ?_) (fun cc_7 => ?_)
      · have hp := hp.1 cc_7
        exact kj_8  _ _ _ hp hH (lv_sub hl [1, 2, 0] rfl)
      · have hp := hp.2 cc_7
        refine lv_aload_n (pc := 48) hx hb dX9_takesStep_48 rfl (lv_at hl 1 rfl) ?_
        refine sx_getI (pc := 49) (j := 2) B hH hk_th coX9 rfl w_305 rfl dX9_takesStep_49 ?_
        refine W.eq (g2 := F0 m 52 ls [.int (gI S th 2)]) rfl ?_
        refine lv_iconst (pc := 52) (v := 3) hx hb dX9_takesStep_52 (by decide) ?_
        refine lv_icmp_lt (pc := 53) (tgt := 66) hx hb dX9_takesStep_53 (by decide) (fun cc_39 => ?_) (fun cc_39 => ?_)
        · have hp := hp.1 cc_39
          exact kj_8  _ _ _ hp hH (lv_sub hl [1, 2, 0] rfl)
        · have hp := hp.2 cc_39
          refine lv_aload_n (pc := 56) hx hb dX9_takesStep_56 rfl (lv_at hl 1 rfl) ?_
          refine sx_getR (pc := 57) (j := 0) B hH hk_th coX9 rfl w_303 rfl dX9_takesStep_57 ?_
          refine W.eq (g2 := F0 m 60 ls [va_rf (gR S th 0)]) rfl ?_
          refine sx_nonnull (x := a_1) ha_1 ?_
          refine lv_bipush (pc := 60) (v := 7) hx hb dX9_takesStep_60 (by decide) ?_
          refine sx_V (pc := 62) (As := [.int 7]) (rest := []) B hH hl.1 (C_X7_wrong G l a_1 7 _ _ hp) mi_X7_wrong coX7 hk_2 w_635 w_636 w_770 rfl rfl ⟨Nat.le_of_ble_eq_true rfl, Nat.le_of_ble_eq_true rfl⟩ (Nat.le_of_ble_eq_true rfl) ⟨Nat.le_of_ble_eq_true rfl, Nat.le_of_ble_eq_true rfl⟩ dX9_takesStep_62 (fun v S1 H locs hq hH => ?_)
          obtain ⟨r_40, F_40, rfl, e9, hp⟩ := hq
          rw [e9] at hH
          have hH : Hp G (FA S s.heap.size) s.heap (wI S F_40) H locs := hH
          refine W.eq (g2 := F0 m 65 ls [.int r_40]) rfl ?_
          obtain ⟨hz, hp⟩ := hp
          exact sx_zret (pc := 65) B hH hr hlk hz (by rw [← hQQ]; exact ⟨_, F_40, (gJ S), (gR S), rfl, rfl, hp⟩) (Nat.le_of_ble_eq_true rfl) (Nat.le_of_ble_eq_true rfl) dX9_takesStep_65
    · have hp := hp.2 cc_6
      refine lv_aload_n (pc := 32) hx hb dX9_takesStep_32 rfl (lv_at hl 1 rfl) ?_
      refine sx_getR (pc := 33) (j := 0) B hH hk_th coX9 rfl w_303 rfl dX9_takesStep_33 ?_
      refine W.eq (g2 := F0 m 36 ls [va_rf (gR S th 0)]) rfl ?_
      refine sx_nonnull (x := a_1) ha_1 ?_
      refine lv_bipush (pc := 36) (v := 6) hx hb dX9_takesStep_36 (by decide) ?_
      refine sx_V (pc := 38) (As := [.int 6]) (rest := []) B hH hl.1 (C_X7_wrong G l a_1 6 _ _ hp) mi_X7_wrong coX7 hk_2 w_635 w_636 w_770 rfl rfl ⟨Nat.le_of_ble_eq_true rfl, Nat.le_of_ble_eq_true rfl⟩ (Nat.le_of_ble_eq_true rfl) ⟨Nat.le_of_ble_eq_true rfl, Nat.le_of_ble_eq_true rfl⟩ dX9_takesStep_38 (fun v S1 H locs hq hH => ?_)
      obtain ⟨r_41, F_41, rfl, e9, hp⟩ := hq
      rw [e9] at hH
      have hH : Hp G (FA S s.heap.size) s.heap (wI S F_41) H locs := hH
      refine W.eq (g2 := F0 m 41 ls [.int r_41]) rfl ?_
      obtain ⟨hz, hp⟩ := hp
      exact sx_zret (pc := 41) B hH hr hlk hz (by rw [← hQQ]; exact ⟨_, F_41, (gJ S), (gR S), rfl, rfl, hp⟩) (Nat.le_of_ble_eq_true rfl) (Nat.le_of_ble_eq_true rfl) dX9_takesStep_41
  · have hp := hp.2 cc_5
    refine lv_aload_n (pc := 15) hx hb dX9_takesStep_15 rfl (lv_at hl 1 rfl) ?_
    refine sx_getR (pc := 16) (j := 0) B hH hk_th coX9 rfl w_303 rfl dX9_takesStep_16 ?_
    refine W.eq (g2 := F0 m 19 ls [va_rf (gR S th 0)]) rfl ?_
    refine sx_nonnull (x := a_1) ha_1 ?_
    refine sx_V (pc := 19) (As := []) (rest := []) B hH hl.1 (C_X7_misplaced G l a_1 _ _ hp) mi_X7_misplaced coX7 hk_2 w_631 w_632 w_756 rfl rfl ⟨Nat.le_of_ble_eq_true rfl, Nat.le_of_ble_eq_true rfl⟩ (Nat.le_of_ble_eq_true rfl) ⟨Nat.le_of_ble_eq_true rfl, Nat.le_of_ble_eq_true rfl⟩ dX9_takesStep_19 (fun v S1 H locs hq hH => ?_)
    obtain ⟨r_42, F_42, rfl, e9, hp⟩ := hq
    rw [e9] at hH
    have hH : Hp G (FA S s.heap.size) s.heap (wI S F_42) H locs := hH
    refine W.eq (g2 := F0 m 22 ls [.int r_42]) rfl ?_
    obtain ⟨hz, hp⟩ := hp
    exact sx_zret (pc := 22) B hH hr hlk hz (by rw [← hQQ]; exact ⟨_, F_42, (gJ S), (gR S), rfl, rfl, hp⟩) (Nat.le_of_ble_eq_true rfl) (Nat.le_of_ble_eq_true rfl) dX9_takesStep_22
theorem dX9_takes_0 : decode cX9_takes 0 = .ok (.aload_n 0, 1) := by decide +kernel
theorem dX9_takes_1 : decode cX9_takes 1 = .ok (.iconst 0, 1) := by decide +kernel
theorem dX9_takes_2 : decode cX9_takes 2 = .ok (.putfield 9, 3) := by decide +kernel
theorem dX9_takes_5 : decode cX9_takes 5 = .ok (.aload_n 0, 1) := by decide +kernel
theorem dX9_takes_6 : decode cX9_takes 6 = .ok (.iconst 0, 1) := by decide +kernel
theorem dX9_takes_7 : decode cX9_takes 7 = .ok (.putfield 15, 3) := by decide +kernel
theorem dX9_takes_10 : decode cX9_takes 10 = .ok (.aload_n 0, 1) := by decide +kernel
theorem dX9_takes_11 : decode cX9_takes 11 = .ok (.iconst 0, 1) := by decide +kernel
theorem dX9_takes_12 : decode cX9_takes 12 = .ok (.putfield 18, 3) := by decide +kernel
theorem dX9_takes_15 : decode cX9_takes 15 = .ok (.aload_n 0, 1) := by decide +kernel
theorem dX9_takes_16 : decode cX9_takes 16 = .ok (.getfield 46, 3) := by decide +kernel
theorem dX9_takes_19 : decode cX9_takes 19 = .ok (.iload_n 1, 1) := by decide +kernel
theorem dX9_takes_20 : decode cX9_takes 20 = .ok (.invokevirtual 50, 3) := by decide +kernel
theorem dX9_takes_23 : decode cX9_takes 23 = .ok (.iconst 0, 1) := by decide +kernel
theorem dX9_takes_24 : decode cX9_takes 24 = .ok (.istore_n 3, 1) := by decide +kernel
theorem dX9_takes_25 : decode cX9_takes 25 = .ok (.iload_n 3, 1) := by decide +kernel
theorem dX9_takes_26 : decode cX9_takes 26 = .ok (.sipush 300, 3) := by decide +kernel
theorem dX9_takes_29 : decode cX9_takes 29 = .ok (.if_icmp .gt 53, 3) := by decide +kernel
theorem dX9_takes_32 : decode cX9_takes 32 = .ok (.aload_n 0, 1) := by decide +kernel
theorem dX9_takes_33 : decode cX9_takes 33 = .ok (.getfield 46, 3) := by decide +kernel
theorem dX9_takes_36 : decode cX9_takes 36 = .ok (.iconst 1, 1) := by decide +kernel
theorem dX9_takes_37 : decode cX9_takes 37 = .ok (.invokevirtual 56, 3) := by decide +kernel
theorem dX9_takes_40 : decode cX9_takes 40 = .ok (.ifCond .ne 42, 3) := by decide +kernel
theorem dX9_takes_43 : decode cX9_takes 43 = .ok (.aload_n 0, 1) := by decide +kernel
theorem dX9_takes_44 : decode cX9_takes 44 = .ok (.getfield 46, 3) := by decide +kernel
theorem dX9_takes_47 : decode cX9_takes 47 = .ok (.bipush 16, 2) := by decide +kernel
theorem dX9_takes_49 : decode cX9_takes 49 = .ok (.invokevirtual 56, 3) := by decide +kernel
theorem dX9_takes_52 : decode cX9_takes 52 = .ok (.ifCond .eq 10, 3) := by decide +kernel
theorem dX9_takes_55 : decode cX9_takes 55 = .ok (.aload_n 0, 1) := by decide +kernel
theorem dX9_takes_56 : decode cX9_takes 56 = .ok (.invokevirtual 60, 3) := by decide +kernel
theorem dX9_takes_59 : decode cX9_takes 59 = .ok (.goto 8, 3) := by decide +kernel
theorem dX9_takes_62 : decode cX9_takes 62 = .ok (.aload_n 0, 1) := by decide +kernel
theorem dX9_takes_63 : decode cX9_takes 63 = .ok (.aload_n 2, 1) := by decide +kernel
theorem dX9_takes_64 : decode cX9_takes 64 = .ok (.invokevirtual 64, 3) := by decide +kernel
theorem dX9_takes_67 : decode cX9_takes 67 = .ok (.istore 4, 2) := by decide +kernel
theorem dX9_takes_69 : decode cX9_takes 69 = .ok (.iload 4, 2) := by decide +kernel
theorem dX9_takes_71 : decode cX9_takes 71 = .ok (.ifCond .ne 5, 3) := by decide +kernel
theorem dX9_takes_74 : decode cX9_takes 74 = .ok (.iconst 0, 1) := by decide +kernel
theorem dX9_takes_75 : decode cX9_takes 75 = .ok (.ireturn, 1) := by decide +kernel
theorem dX9_takes_76 : decode cX9_takes 76 = .ok (.iinc 3 1, 3) := by decide +kernel
theorem dX9_takes_79 : decode cX9_takes 79 = .ok (.goto (-54), 3) := by decide +kernel
theorem dX9_takes_82 : decode cX9_takes 82 = .ok (.aload_n 0, 1) := by decide +kernel
theorem dX9_takes_83 : decode cX9_takes 83 = .ok (.getfield 15, 3) := by decide +kernel
theorem dX9_takes_86 : decode cX9_takes 86 = .ok (.ifCond .eq 13, 3) := by decide +kernel
theorem dX9_takes_89 : decode cX9_takes 89 = .ok (.aload_n 0, 1) := by decide +kernel
theorem dX9_takes_90 : decode cX9_takes 90 = .ok (.getfield 46, 3) := by decide +kernel
theorem dX9_takes_93 : decode cX9_takes 93 = .ok (.invokevirtual 68, 3) := by decide +kernel
theorem dX9_takes_96 : decode cX9_takes 96 = .ok (.ifCond .eq 7, 3) := by decide +kernel
theorem dX9_takes_99 : decode cX9_takes 99 = .ok (.iconst 1, 1) := by decide +kernel
theorem dX9_takes_100 : decode cX9_takes 100 = .ok (.goto 4, 3) := by decide +kernel
theorem dX9_takes_103 : decode cX9_takes 103 = .ok (.iconst 0, 1) := by decide +kernel
theorem dX9_takes_104 : decode cX9_takes 104 = .ok (.ireturn, 1) := by decide +kernel
theorem mi_X9_takes : MI yX9_takes cX9_takes 5 (some FieldType.boolean) 2 := ⟨w_749, w_112, by decide +kernel, by decide +kernel, by decide +kernel⟩
set_option maxRecDepth 100000 in
set_option maxHeartbeats 4000000 in
theorem C_X9_takes (G : GG) (l : Launch) (th : Nat) (p0 : Int32) (p1 : Nat) (S : St) (Q : Int32 → (Nat → Nat → Int32) → (Nat → Nat → Int64) → (Nat → Nat → Option Nat) → Prop) (hp : P_X9_takes th p0 p1 S Q) : Ctr G l yX9_takes cX9_takes 5 (some FieldType.boolean) 5 106 0 0 [.ref th, .int p0, .ref p1] S (fun (v : Option Value) (S9 : St) => ∃ (r : Int32) (I9 : Nat → Nat → Int32) (J9 : Nat → Nat → Int64) (R9 : Nat → Nat → Option Nat), v = some (.int r) ∧ S9 = wA S I9 J9 R9 ∧ Q r I9 J9 R9) := by
  generalize hQQ : (fun (v : Option Value) (S9 : St) => ∃ (r : Int32) (I9 : Nat → Nat → Int32) (J9 : Nat → Nat → Int64) (R9 : Nat → Nat → Option Nat), v = some (.int r) ∧ S9 = wA S I9 J9 R9 ∧ Q r I9 J9 R9) = QQ
  unfold P_X9_takes at hp
  refine Ctr.of (by decide) (Nat.le_of_ble_eq_true rfl) ?_
  intro p e s m args below meth c ls B hr hlk hin hl hH
  generalize hlocs0 : ([] : List Loc) = locs at hH ⊢
  have hx := B.1
  have hb := B.2.1
  have hl : lv_has ls 5 [(0, .ref th), (1, .int p0), (2, .ref p1)] := hl
  obtain ⟨hk_th, hp⟩ := hp
  refine lv_aload_n (pc := 0) hx hb dX9_takes_0 rfl (lv_at hl 0 rfl) ?_
  refine lv_iconst (pc := 1) (v := 0) hx hb dX9_takes_1 (by decide) ?_
  obtain ⟨F_1, eF_1⟩ : ∃ z : Nat → Nat → Int32, z = upI (gI S) th 1 0 := ⟨_, rfl⟩
  have hp := hp F_1 eF_1
  refine sx_putI (pc := 2) (j := 1) B hH hk_th coX9 rfl w_304 rfl (Or.inl rfl) rfl dX9_takes_2 (fun H locs hH => ?_)
  have hH : Hp G (FA S s.heap.size) s.heap (wI S F_1) H locs := by rw [eF_1]; exact hH
  refine lv_aload_n (pc := 5) hx hb dX9_takes_5 rfl (lv_at hl 0 rfl) ?_
  refine lv_iconst (pc := 6) (v := 0) hx hb dX9_takes_6 (by decide) ?_
  obtain ⟨F_2, eF_2⟩ : ∃ z : Nat → Nat → Int32, z = upI F_1 th 2 0 := ⟨_, rfl⟩
  have hp := hp F_2 eF_2
  refine sx_putI (pc := 7) (j := 2) B hH hk_th coX9 rfl w_305 rfl (Or.inl rfl) rfl dX9_takes_7 (fun H locs hH => ?_)
  have hH : Hp G (FA S s.heap.size) s.heap (wI S F_2) H locs := by rw [eF_2]; exact hH
  refine lv_aload_n (pc := 10) hx hb dX9_takes_10 rfl (lv_at hl 0 rfl) ?_
  refine lv_iconst (pc := 11) (v := 0) hx hb dX9_takes_11 (by decide) ?_
  obtain ⟨F_3, eF_3⟩ : ∃ z : Nat → Nat → Int32, z = upI F_2 th 3 0 := ⟨_, rfl⟩
  have hp := hp F_3 eF_3
  refine sx_putI (pc := 12) (j := 3) B hH hk_th coX9 rfl w_306 rfl (Or.inl rfl) rfl dX9_takes_12 (fun H locs hH => ?_)
  have hH : Hp G (FA S s.heap.size) s.heap (wI S F_3) H locs := by rw [eF_3]; exact hH
  refine lv_aload_n (pc := 15) hx hb dX9_takes_15 rfl (lv_at hl 0 rfl) ?_
  refine sx_getR (pc := 16) (j := 0) B hH hk_th coX9 rfl w_303 rfl dX9_takes_16 ?_
  refine W.eq (g2 := F0 m 19 ls [va_rf (gR S th 0)]) rfl ?_
  obtain ⟨a_4, ha_4, hp⟩ := hp
  refine sx_nonnull (x := a_4) ha_4 ?_
  refine lv_iload_n (pc := 19) hx hb dX9_takes_19 rfl (lv_at hl 1 rfl) ?_
  obtain ⟨hk_5, hp⟩ := hp
  refine sx_V (pc := 20) (As := [.int p0]) (rest := []) B hH hl.1 (C_X7_open G l a_4 p0 _ _ hp) mi_X7_open coX7 hk_5 w_596 w_597 w_750 rfl rfl ⟨Nat.le_of_ble_eq_true rfl, Nat.le_of_ble_eq_true rfl⟩ (Nat.le_of_ble_eq_true rfl) ⟨Nat.le_of_ble_eq_true rfl, Nat.le_of_ble_eq_true rfl⟩ dX9_takes_20 (fun v S1 H locs hq hH => ?_)
  obtain ⟨F_6, J_6, rfl, e9, hp⟩ := hq
  rw [e9] at hH
  have hH : Hp G (FA S s.heap.size) s.heap (wA S F_6 J_6 (gR S)) H locs := hH
  refine W.eq (g2 := F0 m 23 ls []) rfl ?_
  refine lv_iconst (pc := 23) (v := 0) hx hb dX9_takes_23 (by decide) ?_
  refine lv_istore_n (pc := 24) (lv' := [(3, .int 0), (0, .ref th), (1, .int p0), (2, .ref p1)]) hx hb dX9_takes_24 rfl hl (by decide) rfl (fun ls hl => ?_)
  obtain ⟨I_7, ⟨k0_7, h0_7⟩, hst_7⟩ := hp
  have kl_7 : ∀ (n_7 : Nat) (x3_8 : Int32) (F_9 : Nat → Nat → Int32) (J_10 : Nat → Nat → Int64) (R_11 : Nat → Nat → Option Nat) (H : Heap) (locs : List Loc) (ls : Array Slot), I_7 n_7 x3_8 F_9 J_10 R_11 → Hp G (FA S s.heap.size) s.heap (wA S F_9 J_10 R_11) H locs → lv_has ls 5 [(0, .ref th), (2, .ref p1), (3, .int x3_8)] → Wm G p l e { frames := 5, cells := 0, slots := 0, locals := 106 } s m args below meth c S QQ 0 0 H locs 0 0 (F0 m 25 ls []) := by
    intro n_7
    induction n_7 using Nat.strongRecOn with
    | ind n_7 ih_7 =>
      intro x3_8 F_9 J_10 R_11 H locs ls hq9 hH hl
      have hp := hst_7 n_7 x3_8 F_9 J_10 R_11 hq9
      refine lv_iload_n (pc := 25) hx hb dX9_takes_25 rfl (lv_at hl 2 rfl) ?_
      refine lv_sipush (pc := 26) (v := 300) hx hb dX9_takes_26 (by decide) ?_
      obtain ⟨J_13, hj_13, hp⟩ := hp
      have kj_13 : ∀  (H : Heap) (locs : List Loc) (ls : Array Slot), J_13  → Hp G (FA S s.heap.size) s.heap (wA S F_9 J_10 R_11) H locs → lv_has ls 5 [(0, .ref th)] → Wm G p l e { frames := 5, cells := 0, slots := 0, locals := 106 } s m args below meth c S QQ 0 0 H locs 0 0 (F0 m 82 ls []) := by
        intro  H locs ls hq9 hH hl
        have hp := hj_13  hq9
        refine lv_aload_n (pc := 82) hx hb dX9_takes_82 rfl (lv_at hl 0 rfl) ?_
        refine sx_getI (pc := 83) (j := 2) B hH hk_th coX9 rfl w_305 rfl dX9_takes_83 ?_
        refine W.eq (g2 := F0 m 86 ls [.int (F_9 th 2)]) rfl ?_
        refine lv_if_eq (pc := 86) (tgt := 99) hx hb dX9_takes_86 (by decide) (fun cc_14 => ?_) (fun cc_14 => ?_)
        · have hp := hp.1 cc_14
          refine lv_iconst (pc := 99) (v := 1) hx hb dX9_takes_99 (by decide) ?_
          refine lv_goto (pc := 100) (tgt := 104) hx hb dX9_takes_100 (by decide) ?_
          exact sx_zret (pc := 104) B hH hr hlk (Or.inr rfl) (by rw [← hQQ]; exact ⟨_, F_9, J_10, R_11, rfl, rfl, hp⟩) (Nat.le_of_ble_eq_true rfl) (Nat.le_of_ble_eq_true rfl) dX9_takes_104
        · have hp := hp.2 cc_14
          refine lv_aload_n (pc := 89) hx hb dX9_takes_89 rfl (lv_at hl 0 rfl) ?_
          refine sx_getR (pc := 90) (j := 0) B hH hk_th coX9 rfl w_303 rfl dX9_takes_90 ?_
          refine W.eq (g2 := F0 m 93 ls [va_rf (R_11 th 0)]) rfl ?_
          obtain ⟨a_15, ha_15, hp⟩ := hp
          refine sx_nonnull (x := a_15) ha_15 ?_
          obtain ⟨hk_16, hp⟩ := hp
          refine sx_V (pc := 93) (As := []) (rest := []) B hH hl.1 (C_X7_misplaced G l a_15 _ _ hp) mi_X7_misplaced coX7 hk_16 w_631 w_632 w_756 rfl rfl ⟨Nat.le_of_ble_eq_true rfl, Nat.le_of_ble_eq_true rfl⟩ (Nat.le_of_ble_eq_true rfl) ⟨Nat.le_of_ble_eq_true rfl, Nat.le_of_ble_eq_true rfl⟩ dX9_takes_93 (fun v S1 H locs hq hH => ?_)
          obtain ⟨r_17, F_17, rfl, e9, hp⟩ := hq
          rw [e9] at hH
          have hH : Hp G (FA S s.heap.size) s.heap (wA S F_17 J_10 R_11) H locs := hH
          refine W.eq (g2 := F0 m 96 ls [.int r_17]) rfl ?_
          refine lv_if_eq (pc := 96) (tgt := 103) hx hb dX9_takes_96 (by decide) (fun cc_18 => ?_) (fun cc_18 => ?_)
          · have hp := hp.1 cc_18
            refine lv_iconst (pc := 103) (v := 0) hx hb dX9_takes_103 (by decide) ?_
            exact sx_zret (pc := 104) B hH hr hlk (Or.inl rfl) (by rw [← hQQ]; exact ⟨_, F_17, J_10, R_11, rfl, rfl, hp⟩) (Nat.le_of_ble_eq_true rfl) (Nat.le_of_ble_eq_true rfl) dX9_takes_104
          · have hp := hp.2 cc_18
            refine lv_iconst (pc := 99) (v := 1) hx hb dX9_takes_99 (by decide) ?_
            refine lv_goto (pc := 100) (tgt := 104) hx hb dX9_takes_100 (by decide) ?_
            exact sx_zret (pc := 104) B hH hr hlk (Or.inr rfl) (by rw [← hQQ]; exact ⟨_, F_17, J_10, R_11, rfl, rfl, hp⟩) (Nat.le_of_ble_eq_true rfl) (Nat.le_of_ble_eq_true rfl) dX9_takes_104
      refine lv_icmp_gt (pc := 29) (tgt := 82) hx hb dX9_takes_29 (by decide) (fun cc_12 => ?_) (fun cc_12 => ?_)
      · have hp := hp.1 cc_12
        exact kj_13  _ _ _ hp hH (lv_sub hl [0] rfl)
      · have hp := hp.2 cc_12
        refine lv_aload_n (pc := 32) hx hb dX9_takes_32 rfl (lv_at hl 0 rfl) ?_
        refine sx_getR (pc := 33) (j := 0) B hH hk_th coX9 rfl w_303 rfl dX9_takes_33 ?_
        refine W.eq (g2 := F0 m 36 ls [va_rf (R_11 th 0)]) rfl ?_
        obtain ⟨a_19, ha_19, hp⟩ := hp
        refine sx_nonnull (x := a_19) ha_19 ?_
        refine lv_iconst (pc := 36) (v := 1) hx hb dX9_takes_36 (by decide) ?_
        obtain ⟨hk_20, hp⟩ := hp
        refine sx_V (pc := 37) (As := [.int 1]) (rest := []) B hH hl.1 (C_X7_isAt G l a_19 1 _ _ hp) mi_X7_isAt coX7 hk_20 w_639 w_640 w_751 rfl rfl ⟨Nat.le_of_ble_eq_true rfl, Nat.le_of_ble_eq_true rfl⟩ (Nat.le_of_ble_eq_true rfl) ⟨Nat.le_of_ble_eq_true rfl, Nat.le_of_ble_eq_true rfl⟩ dX9_takes_37 (fun v S1 H locs hq hH => ?_)
        obtain ⟨r_21, rfl, e9, hp⟩ := hq
        rw [e9] at hH
        refine W.eq (g2 := F0 m 40 ls [.int r_21]) rfl ?_
        refine lv_if_ne (pc := 40) (tgt := 82) hx hb dX9_takes_40 (by decide) (fun cc_22 => ?_) (fun cc_22 => ?_)
        · have hp := hp.1 cc_22
          exact kj_13  _ _ _ hp hH (lv_sub hl [0] rfl)
        · have hp := hp.2 cc_22
          refine lv_aload_n (pc := 43) hx hb dX9_takes_43 rfl (lv_at hl 0 rfl) ?_
          refine sx_getR (pc := 44) (j := 0) B hH hk_th coX9 rfl w_303 rfl dX9_takes_44 ?_
          refine W.eq (g2 := F0 m 47 ls [va_rf (R_11 th 0)]) rfl ?_
          refine sx_nonnull (x := a_19) ha_19 ?_
          refine lv_bipush (pc := 47) (v := 16) hx hb dX9_takes_47 (by decide) ?_
          refine sx_V (pc := 49) (As := [.int 16]) (rest := []) B hH hl.1 (C_X7_isAt G l a_19 16 _ _ hp) mi_X7_isAt coX7 hk_20 w_639 w_640 w_751 rfl rfl ⟨Nat.le_of_ble_eq_true rfl, Nat.le_of_ble_eq_true rfl⟩ (Nat.le_of_ble_eq_true rfl) ⟨Nat.le_of_ble_eq_true rfl, Nat.le_of_ble_eq_true rfl⟩ dX9_takes_49 (fun v S1 H locs hq hH => ?_)
          obtain ⟨r_23, rfl, e9, hp⟩ := hq
          rw [e9] at hH
          refine W.eq (g2 := F0 m 52 ls [.int r_23]) rfl ?_
          obtain ⟨J_25, hj_25, hp⟩ := hp
          have kj_25 : ∀ (t_26 : Int32) (F_27 : Nat → Nat → Int32) (J_28 : Nat → Nat → Int64) (R_29 : Nat → Nat → Option Nat) (H : Heap) (locs : List Loc) (ls : Array Slot), J_25 t_26 F_27 J_28 R_29 → Hp G (FA S s.heap.size) s.heap (wA S F_27 J_28 R_29) H locs → lv_has ls 5 [(0, .ref th), (2, .ref p1), (3, .int x3_8)] → Wm G p l e { frames := 5, cells := 0, slots := 0, locals := 106 } s m args below meth c S QQ 0 0 H locs 0 0 (F0 m 67 ls [.int t_26]) := by
            intro t_26 F_27 J_28 R_29 H locs ls hq9 hH hl
            have hp := hj_25 t_26 F_27 J_28 R_29 hq9
            refine lv_istore (pc := 67) (lv' := [(4, .int t_26), (0, .ref th), (2, .ref p1), (3, .int x3_8)]) hx hb dX9_takes_67 hl (by decide) rfl (fun ls hl => ?_)
            refine lv_iload (pc := 69) hx hb dX9_takes_69 (lv_at hl 0 rfl) ?_
            refine lv_if_ne (pc := 71) (tgt := 76) hx hb dX9_takes_71 (by decide) (fun cc_30 => ?_) (fun cc_30 => ?_)
            · have hp := hp.1 cc_30
              obtain ⟨v_31, ev_31⟩ : ∃ y : Int32, y = x3_8 + 1 := ⟨_, rfl⟩
              have hp := hp v_31 ev_31
              refine lv_iinc (pc := 76) (v := v_31) (lv' := [(3, .int v_31), (4, .int t_26), (0, .ref th), (2, .ref p1)]) hx hb dX9_takes_76 hl (k := 3) rfl (by rw [ev_31]; rfl) (by decide) rfl (fun ls hl => ?_)
              refine lv_goto (pc := 79) (tgt := 25) hx hb dX9_takes_79 (by decide) ?_
              obtain ⟨k9, hlt9, hp⟩ := hp
              exact ih_7 k9 hlt9 _ _ _ _ _ _ _ hp hH (lv_sub hl [2, 3, 0] rfl)
            · have hp := hp.2 cc_30
              refine lv_iconst (pc := 74) (v := 0) hx hb dX9_takes_74 (by decide) ?_
              exact sx_zret (pc := 75) B hH hr hlk (Or.inl rfl) (by rw [← hQQ]; exact ⟨_, F_27, J_28, R_29, rfl, rfl, hp⟩) (Nat.le_of_ble_eq_true rfl) (Nat.le_of_ble_eq_true rfl) dX9_takes_75
          refine lv_if_eq (pc := 52) (tgt := 62) hx hb dX9_takes_52 (by decide) (fun cc_24 => ?_) (fun cc_24 => ?_)
          · have hp := hp.1 cc_24
            refine lv_aload_n (pc := 62) hx hb dX9_takes_62 rfl (lv_at hl 0 rfl) ?_
            refine lv_aload_n (pc := 63) hx hb dX9_takes_63 rfl (lv_at hl 1 rfl) ?_
            refine sx_V (pc := 64) (As := [.ref p1]) (rest := []) B hH hl.1 (C_X9_takesStep G l th p1 _ _ hp) mi_X9_takesStep coX9 hk_th w_765 w_19 w_763 rfl rfl ⟨Nat.le_of_ble_eq_true rfl, Nat.le_of_ble_eq_true rfl⟩ (Nat.le_of_ble_eq_true rfl) ⟨Nat.le_of_ble_eq_true rfl, Nat.le_of_ble_eq_true rfl⟩ dX9_takes_64 (fun v S1 H locs hq hH => ?_)
            obtain ⟨r_32, F_32, J_32, R_32, rfl, e9, hp⟩ := hq
            rw [e9] at hH
            have hH : Hp G (FA S s.heap.size) s.heap (wA S F_32 J_32 R_32) H locs := hH
            refine W.eq (g2 := F0 m 67 ls [.int r_32]) rfl ?_
            exact kj_25 _ _ _ _ _ _ _ hp hH (lv_sub hl [0, 1, 2] rfl)
          · have hp := hp.2 cc_24
            refine lv_aload_n (pc := 55) hx hb dX9_takes_55 rfl (lv_at hl 0 rfl) ?_
            refine sx_V (pc := 56) (As := []) (rest := []) B hH hl.1 (C_X9_takesEnd G l th _ _ hp) mi_X9_takesEnd coX9 hk_th w_754 w_17 w_752 rfl rfl ⟨Nat.le_of_ble_eq_true rfl, Nat.le_of_ble_eq_true rfl⟩ (Nat.le_of_ble_eq_true rfl) ⟨Nat.le_of_ble_eq_true rfl, Nat.le_of_ble_eq_true rfl⟩ dX9_takes_56 (fun v S1 H locs hq hH => ?_)
            obtain ⟨r_33, F_33, J_33, R_33, rfl, e9, hp⟩ := hq
            rw [e9] at hH
            have hH : Hp G (FA S s.heap.size) s.heap (wA S F_33 J_33 R_33) H locs := hH
            refine W.eq (g2 := F0 m 59 ls [.int r_33]) rfl ?_
            refine lv_goto (pc := 59) (tgt := 67) hx hb dX9_takes_59 (by decide) ?_
            exact kj_25 _ _ _ _ _ _ _ hp hH (lv_sub hl [0, 1, 2] rfl)
  exact kl_7 k0_7 _ _ _ _ _ _ _ h0_7 hH (lv_sub hl [1, 3, 0] rfl)
theorem dX9_behindEnd_0 : decode cX9_behindEnd 0 = .ok (.aload_n 0, 1) := by decide +kernel
theorem dX9_behindEnd_1 : decode cX9_behindEnd 1 = .ok (.getfield 15, 3) := by decide +kernel
theorem dX9_behindEnd_4 : decode cX9_behindEnd 4 = .ok (.ifCond .le 54, 3) := by decide +kernel
theorem dX9_behindEnd_7 : decode cX9_behindEnd 7 = .ok (.aload_n 0, 1) := by decide +kernel
theorem dX9_behindEnd_8 : decode cX9_behindEnd 8 = .ok (.getfield 37, 3) := by decide +kernel
theorem dX9_behindEnd_11 : decode cX9_behindEnd 11 = .ok (.aload_n 0, 1) := by decide +kernel
theorem dX9_behindEnd_12 : decode cX9_behindEnd 12 = .ok (.getfield 15, 3) := by decide +kernel
theorem dX9_behindEnd_15 : decode cX9_behindEnd 15 = .ok (.iconst 1, 1) := by decide +kernel
theorem dX9_behindEnd_16 : decode cX9_behindEnd 16 = .ok (.isub, 1) := by decide +kernel
theorem dX9_behindEnd_17 : decode cX9_behindEnd 17 = .ok (.dup2, 1) := by decide +kernel
theorem dX9_behindEnd_18 : decode cX9_behindEnd 18 = .ok (.iaload, 1) := by decide +kernel
theorem dX9_behindEnd_19 : decode cX9_behindEnd 19 = .ok (.iconst 1, 1) := by decide +kernel
theorem dX9_behindEnd_20 : decode cX9_behindEnd 20 = .ok (.isub, 1) := by decide +kernel
theorem dX9_behindEnd_21 : decode cX9_behindEnd 21 = .ok (.iastore, 1) := by decide +kernel
theorem dX9_behindEnd_22 : decode cX9_behindEnd 22 = .ok (.aload_n 0, 1) := by decide +kernel
theorem dX9_behindEnd_23 : decode cX9_behindEnd 23 = .ok (.getfield 37, 3) := by decide +kernel
theorem dX9_behindEnd_26 : decode cX9_behindEnd 26 = .ok (.aload_n 0, 1) := by decide +kernel
theorem dX9_behindEnd_27 : decode cX9_behindEnd 27 = .ok (.getfield 15, 3) := by decide +kernel
theorem dX9_behindEnd_30 : decode cX9_behindEnd 30 = .ok (.iconst 1, 1) := by decide +kernel
theorem dX9_behindEnd_31 : decode cX9_behindEnd 31 = .ok (.isub, 1) := by decide +kernel
theorem dX9_behindEnd_32 : decode cX9_behindEnd 32 = .ok (.iaload, 1) := by decide +kernel
theorem dX9_behindEnd_33 : decode cX9_behindEnd 33 = .ok (.ifCond .le 15, 3) := by decide +kernel
theorem dX9_behindEnd_36 : decode cX9_behindEnd 36 = .ok (.aload_n 0, 1) := by decide +kernel
theorem dX9_behindEnd_37 : decode cX9_behindEnd 37 = .ok (.getfield 34, 3) := by decide +kernel
theorem dX9_behindEnd_40 : decode cX9_behindEnd 40 = .ok (.aload_n 0, 1) := by decide +kernel
theorem dX9_behindEnd_41 : decode cX9_behindEnd 41 = .ok (.getfield 15, 3) := by decide +kernel
theorem dX9_behindEnd_44 : decode cX9_behindEnd 44 = .ok (.iconst 1, 1) := by decide +kernel
theorem dX9_behindEnd_45 : decode cX9_behindEnd 45 = .ok (.isub, 1) := by decide +kernel
theorem dX9_behindEnd_46 : decode cX9_behindEnd 46 = .ok (.iaload, 1) := by decide +kernel
theorem dX9_behindEnd_47 : decode cX9_behindEnd 47 = .ok (.ireturn, 1) := by decide +kernel
theorem dX9_behindEnd_48 : decode cX9_behindEnd 48 = .ok (.aload_n 0, 1) := by decide +kernel
theorem dX9_behindEnd_49 : decode cX9_behindEnd 49 = .ok (.dup, 1) := by decide +kernel
theorem dX9_behindEnd_50 : decode cX9_behindEnd 50 = .ok (.getfield 15, 3) := by decide +kernel
theorem dX9_behindEnd_53 : decode cX9_behindEnd 53 = .ok (.iconst 1, 1) := by decide +kernel
theorem dX9_behindEnd_54 : decode cX9_behindEnd 54 = .ok (.isub, 1) := by decide +kernel
theorem dX9_behindEnd_55 : decode cX9_behindEnd 55 = .ok (.putfield 15, 3) := by decide +kernel
theorem dX9_behindEnd_58 : decode cX9_behindEnd 58 = .ok (.iload_n 1, 1) := by decide +kernel
theorem dX9_behindEnd_59 : decode cX9_behindEnd 59 = .ok (.iconst 1, 1) := by decide +kernel
theorem dX9_behindEnd_60 : decode cX9_behindEnd 60 = .ok (.iadd, 1) := by decide +kernel
theorem dX9_behindEnd_61 : decode cX9_behindEnd 61 = .ok (.ireturn, 1) := by decide +kernel
theorem mi_X9_behindEnd : MI yX9_behindEnd cX9_behindEnd 2 (some FieldType.int) 1 := ⟨w_798, w_112, by decide +kernel, by decide +kernel, by decide +kernel⟩
set_option maxRecDepth 100000 in
set_option maxHeartbeats 4000000 in
theorem C_X9_behindEnd (G : GG) (l : Launch) (th : Nat) (p0 : Int32) (S : St) (Q : Int32 → (Nat → Nat → Int32) → Prop) (hp : P_X9_behindEnd th p0 S Q) : Ctr G l yX9_behindEnd cX9_behindEnd 2 (some FieldType.int) 0 0 0 0 [.ref th, .int p0] S (fun (v : Option Value) (S9 : St) => ∃ (r : Int32) (I9 : Nat → Nat → Int32), v = some (.int r) ∧ S9 = wI S I9 ∧ Q r I9) := by
  generalize hQQ : (fun (v : Option Value) (S9 : St) => ∃ (r : Int32) (I9 : Nat → Nat → Int32), v = some (.int r) ∧ S9 = wI S I9 ∧ Q r I9) = QQ
  unfold P_X9_behindEnd at hp
  refine Ctr.of (by decide) (Nat.le_of_ble_eq_true rfl) ?_
  intro p e s m args below meth c ls B hr hlk hin hl hH
  generalize hlocs0 : ([] : List Loc) = locs at hH ⊢
  have hx := B.1
  have hb := B.2.1
  have hl : lv_has ls 2 [(0, .ref th), (1, .int p0)] := hl
  obtain ⟨hk_th, hp⟩ := hp
  refine lv_aload_n (pc := 0) hx hb dX9_behindEnd_0 rfl (lv_at hl 0 rfl) ?_
  refine sx_getI (pc := 1) (j := 2) B hH hk_th coX9 rfl w_305 rfl dX9_behindEnd_1 ?_
  refine W.eq (g2 := F0 m 4 ls [.int (gI S th 2)]) rfl ?_
  refine lv_if_le (pc := 4) (tgt := 58) hx hb dX9_behindEnd_4 (by decide) (fun cc_1 => ?_) (fun cc_1 => ?_)
  · have hp := hp.1 cc_1
    refine lv_iload_n (pc := 58) hx hb dX9_behindEnd_58 rfl (lv_at hl 1 rfl) ?_
    refine lv_iconst (pc := 59) (v := 1) hx hb dX9_behindEnd_59 (by decide) ?_
    refine lv_iadd (pc := 60) hx hb dX9_behindEnd_60 ?_
    exact sx_iret (pc := 61) B hH hr hlk (by rw [← hQQ]; exact ⟨_, (gI S), rfl, rfl, hp⟩) (Nat.le_of_ble_eq_true rfl) (Nat.le_of_ble_eq_true rfl) dX9_behindEnd_61
  · have hp := hp.2 cc_1
    refine lv_aload_n (pc := 7) hx hb dX9_behindEnd_7 rfl (lv_at hl 0 rfl) ?_
    refine sx_getR (pc := 8) (j := 8) B hH hk_th coX9 rfl w_311 rfl dX9_behindEnd_8 ?_
    refine W.eq (g2 := F0 m 11 ls [va_rf (gR S th 8)]) rfl ?_
    obtain ⟨a_2, ha_2, hp⟩ := hp
    refine sx_nonnull (x := a_2) ha_2 ?_
    refine lv_aload_n (pc := 11) hx hb dX9_behindEnd_11 rfl (lv_at hl 0 rfl) ?_
    refine sx_getI (pc := 12) (j := 2) B hH hk_th coX9 rfl w_305 rfl dX9_behindEnd_12 ?_
    refine W.eq (g2 := F0 m 15 ls [.int (gI S th 2), .ref a_2]) rfl ?_
    refine lv_iconst (pc := 15) (v := 1) hx hb dX9_behindEnd_15 (by decide) ?_
    refine lv_isub (pc := 16) hx hb dX9_behindEnd_16 ?_
    refine lv_dup2_11 (pc := 17) hx hb dX9_behindEnd_17 rfl rfl ?_
    obtain ⟨hk_3, hp⟩ := hp
    obtain ⟨hn_4, hp⟩ := hp
    refine sx_iald (pc := 18) B hH hk_3 hn_4 dX9_behindEnd_18 ?_
    refine W.eq (g2 := F0 m 19 ls [.int (gI S a_2 (((gI S th 2) - 1).toNatClampNeg)), .int ((gI S th 2) - 1), .ref a_2]) rfl ?_
    refine lv_iconst (pc := 19) (v := 1) hx hb dX9_behindEnd_19 (by decide) ?_
    refine lv_isub (pc := 20) hx hb dX9_behindEnd_20 ?_
    refine lv_topi (fun v_5 ev_5 => ?_)
    have hp := hp v_5 ev_5
    obtain ⟨F_6, eF_6⟩ : ∃ z : Nat → Nat → Int32, z = upI (gI S) a_2 (((gI S th 2) - 1).toNatClampNeg) v_5 := ⟨_, rfl⟩
    have hp := hp F_6 eF_6
    refine sx_iast (pc := 21) B hH hk_3 hn_4 dX9_behindEnd_21 (fun H locs hH => ?_)
    have hH : Hp G (FA S s.heap.size) s.heap (wI S F_6) H locs := by rw [eF_6]; exact hH
    refine lv_aload_n (pc := 22) hx hb dX9_behindEnd_22 rfl (lv_at hl 0 rfl) ?_
    refine sx_getR (pc := 23) (j := 8) B hH hk_th coX9 rfl w_311 rfl dX9_behindEnd_23 ?_
    refine W.eq (g2 := F0 m 26 ls [va_rf (gR S th 8)]) rfl ?_
    refine sx_nonnull (x := a_2) ha_2 ?_
    refine lv_aload_n (pc := 26) hx hb dX9_behindEnd_26 rfl (lv_at hl 0 rfl) ?_
    refine sx_getI (pc := 27) (j := 2) B hH hk_th coX9 rfl w_305 rfl dX9_behindEnd_27 ?_
    refine W.eq (g2 := F0 m 30 ls [.int (F_6 th 2), .ref a_2]) rfl ?_
    refine lv_iconst (pc := 30) (v := 1) hx hb dX9_behindEnd_30 (by decide) ?_
    refine lv_isub (pc := 31) hx hb dX9_behindEnd_31 ?_
    obtain ⟨hn_7, hp⟩ := hp
    refine sx_iald (pc := 32) B hH hk_3 hn_7 dX9_behindEnd_32 ?_
    refine W.eq (g2 := F0 m 33 ls [.int (F_6 a_2 (((F_6 th 2) - 1).toNatClampNeg))]) rfl ?_
    refine lv_if_le (pc := 33) (tgt := 48) hx hb dX9_behindEnd_33 (by decide) (fun cc_8 => ?_) (fun cc_8 => ?_)
    · have hp := hp.1 cc_8
      refine lv_aload_n (pc := 48) hx hb dX9_behindEnd_48 rfl (lv_at hl 0 rfl) ?_
      refine lv_dup (pc := 49) hx hb dX9_behindEnd_49 rfl ?_
      refine sx_getI (pc := 50) (j := 2) B hH hk_th coX9 rfl w_305 rfl dX9_behindEnd_50 ?_
      refine W.eq (g2 := F0 m 53 ls [.int (F_6 th 2), .ref th]) rfl ?_
      refine lv_iconst (pc := 53) (v := 1) hx hb dX9_behindEnd_53 (by decide) ?_
      refine lv_isub (pc := 54) hx hb dX9_behindEnd_54 ?_
      refine lv_topi (fun v_9 ev_9 => ?_)
      have hp := hp v_9 ev_9
      obtain ⟨F_10, eF_10⟩ : ∃ z : Nat → Nat → Int32, z = upI F_6 th 2 v_9 := ⟨_, rfl⟩
      have hp := hp F_10 eF_10
      refine sx_putI (pc := 55) (j := 2) B hH hk_th coX9 rfl w_305 rfl (Or.inl rfl) rfl dX9_behindEnd_55 (fun H locs hH => ?_)
      have hH : Hp G (FA S s.heap.size) s.heap (wI S F_10) H locs := by rw [eF_10]; exact hH
      refine lv_iload_n (pc := 58) hx hb dX9_behindEnd_58 rfl (lv_at hl 1 rfl) ?_
      refine lv_iconst (pc := 59) (v := 1) hx hb dX9_behindEnd_59 (by decide) ?_
      refine lv_iadd (pc := 60) hx hb dX9_behindEnd_60 ?_
      exact sx_iret (pc := 61) B hH hr hlk (by rw [← hQQ]; exact ⟨_, F_10, rfl, rfl, hp⟩) (Nat.le_of_ble_eq_true rfl) (Nat.le_of_ble_eq_true rfl) dX9_behindEnd_61
    · have hp := hp.2 cc_8
      refine lv_aload_n (pc := 36) hx hb dX9_behindEnd_36 rfl (lv_at hl 0 rfl) ?_
      refine sx_getR (pc := 37) (j := 7) B hH hk_th coX9 rfl w_310 rfl dX9_behindEnd_37 ?_
      refine W.eq (g2 := F0 m 40 ls [va_rf (gR S th 7)]) rfl ?_
      obtain ⟨a_11, ha_11, hp⟩ := hp
      refine sx_nonnull (x := a_11) ha_11 ?_
      refine lv_aload_n (pc := 40) hx hb dX9_behindEnd_40 rfl (lv_at hl 0 rfl) ?_
      refine sx_getI (pc := 41) (j := 2) B hH hk_th coX9 rfl w_305 rfl dX9_behindEnd_41 ?_
      refine W.eq (g2 := F0 m 44 ls [.int (F_6 th 2), .ref a_11]) rfl ?_
      refine lv_iconst (pc := 44) (v := 1) hx hb dX9_behindEnd_44 (by decide) ?_
      refine lv_isub (pc := 45) hx hb dX9_behindEnd_45 ?_
      obtain ⟨hk_12, hp⟩ := hp
      obtain ⟨hn_13, hp⟩ := hp
      refine sx_iald (pc := 46) B hH hk_12 hn_13 dX9_behindEnd_46 ?_
      refine W.eq (g2 := F0 m 47 ls [.int (F_6 a_11 (((F_6 th 2) - 1).toNatClampNeg))]) rfl ?_
      exact sx_iret (pc := 47) B hH hr hlk (by rw [← hQQ]; exact ⟨_, F_6, rfl, rfl, hp⟩) (Nat.le_of_ble_eq_true rfl) (Nat.le_of_ble_eq_true rfl) dX9_behindEnd_47
theorem dX9_beginLoop_0 : decode cX9_beginLoop 0 = .ok (.aload_n 0, 1) := by decide +kernel
theorem dX9_beginLoop_1 : decode cX9_beginLoop 1 = .ok (.getfield 15, 3) := by decide +kernel
theorem dX9_beginLoop_4 : decode cX9_beginLoop 4 = .ok (.iconst 3, 1) := by decide +kernel
theorem dX9_beginLoop_5 : decode cX9_beginLoop 5 = .ok (.if_icmp .ge 40, 3) := by decide +kernel
theorem dX9_beginLoop_8 : decode cX9_beginLoop 8 = .ok (.aload_n 0, 1) := by decide +kernel
theorem dX9_beginLoop_9 : decode cX9_beginLoop 9 = .ok (.getfield 34, 3) := by decide +kernel
theorem dX9_beginLoop_12 : decode cX9_beginLoop 12 = .ok (.aload_n 0, 1) := by decide +kernel
theorem dX9_beginLoop_13 : decode cX9_beginLoop 13 = .ok (.getfield 15, 3) := by decide +kernel
theorem dX9_beginLoop_16 : decode cX9_beginLoop 16 = .ok (.iload_n 1, 1) := by decide +kernel
theorem dX9_beginLoop_17 : decode cX9_beginLoop 17 = .ok (.iconst 1, 1) := by decide +kernel
theorem dX9_beginLoop_18 : decode cX9_beginLoop 18 = .ok (.iadd, 1) := by decide +kernel
theorem dX9_beginLoop_19 : decode cX9_beginLoop 19 = .ok (.iastore, 1) := by decide +kernel
theorem dX9_beginLoop_20 : decode cX9_beginLoop 20 = .ok (.aload_n 0, 1) := by decide +kernel
theorem dX9_beginLoop_21 : decode cX9_beginLoop 21 = .ok (.getfield 37, 3) := by decide +kernel
theorem dX9_beginLoop_24 : decode cX9_beginLoop 24 = .ok (.aload_n 0, 1) := by decide +kernel
theorem dX9_beginLoop_25 : decode cX9_beginLoop 25 = .ok (.getfield 15, 3) := by decide +kernel
theorem dX9_beginLoop_28 : decode cX9_beginLoop 28 = .ok (.aload_n 0, 1) := by decide +kernel
theorem dX9_beginLoop_29 : decode cX9_beginLoop 29 = .ok (.getfield 25, 3) := by decide +kernel
theorem dX9_beginLoop_32 : decode cX9_beginLoop 32 = .ok (.iload_n 1, 1) := by decide +kernel
theorem dX9_beginLoop_33 : decode cX9_beginLoop 33 = .ok (.iaload, 1) := by decide +kernel
theorem dX9_beginLoop_34 : decode cX9_beginLoop 34 = .ok (.iastore, 1) := by decide +kernel
theorem dX9_beginLoop_35 : decode cX9_beginLoop 35 = .ok (.aload_n 0, 1) := by decide +kernel
theorem dX9_beginLoop_36 : decode cX9_beginLoop 36 = .ok (.dup, 1) := by decide +kernel
theorem dX9_beginLoop_37 : decode cX9_beginLoop 37 = .ok (.getfield 15, 3) := by decide +kernel
theorem dX9_beginLoop_40 : decode cX9_beginLoop 40 = .ok (.iconst 1, 1) := by decide +kernel
theorem dX9_beginLoop_41 : decode cX9_beginLoop 41 = .ok (.iadd, 1) := by decide +kernel
theorem dX9_beginLoop_42 : decode cX9_beginLoop 42 = .ok (.putfield 15, 3) := by decide +kernel
theorem dX9_beginLoop_45 : decode cX9_beginLoop 45 = .ok (.return_, 1) := by decide +kernel
theorem mi_X9_beginLoop : MI yX9_beginLoop cX9_beginLoop 2 (none : Option Jvm.ClassFile.FieldType) 1 := ⟨w_802, w_112, by decide +kernel, by decide +kernel, by decide +kernel⟩
set_option maxRecDepth 100000 in
set_option maxHeartbeats 4000000 in
theorem C_X9_beginLoop (G : GG) (l : Launch) (th : Nat) (p0 : Int32) (S : St) (Q : (Nat → Nat → Int32) → Prop) (hp : P_X9_beginLoop th p0 S Q) : Ctr G l yX9_beginLoop cX9_beginLoop 2 (none : Option Jvm.ClassFile.FieldType) 0 0 0 0 [.ref th, .int p0] S (fun (v : Option Value) (S9 : St) => ∃ (I9 : Nat → Nat → Int32), v = none ∧ S9 = wI S I9 ∧ Q I9) := by
  generalize hQQ : (fun (v : Option Value) (S9 : St) => ∃ (I9 : Nat → Nat → Int32), v = none ∧ S9 = wI S I9 ∧ Q I9) = QQ
  unfold P_X9_beginLoop at hp
  refine Ctr.of (by decide) (Nat.le_of_ble_eq_true rfl) ?_
  intro p e s m args below meth c ls B hr hlk hin hl hH
  generalize hlocs0 : ([] : List Loc) = locs at hH ⊢
  have hx := B.1
  have hb := B.2.1
  have hl : lv_has ls 2 [(0, .ref th), (1, .int p0)] := hl
  obtain ⟨hk_th, hp⟩ := hp
  refine lv_aload_n (pc := 0) hx hb dX9_beginLoop_0 rfl (lv_at hl 0 rfl) ?_
  refine sx_getI (pc := 1) (j := 2) B hH hk_th coX9 rfl w_305 rfl dX9_beginLoop_1 ?_
  refine W.eq (g2 := F0 m 4 ls [.int (gI S th 2)]) rfl ?_
  refine lv_iconst (pc := 4) (v := 3) hx hb dX9_beginLoop_4 (by decide) ?_
  refine lv_icmp_ge (pc := 5) (tgt := 45) hx hb dX9_beginLoop_5 (by decide) (fun cc_1 => ?_) (fun cc_1 => ?_)
  · have hp := hp.1 cc_1
    exact sx_vret (pc := 45) B hH hr hlk (by rw [← hQQ]; exact ⟨(gI S), rfl, rfl, hp⟩) (Nat.le_of_ble_eq_true rfl) (Nat.le_of_ble_eq_true rfl) dX9_beginLoop_45
  · have hp := hp.2 cc_1
    refine lv_aload_n (pc := 8) hx hb dX9_beginLoop_8 rfl (lv_at hl 0 rfl) ?_
    refine sx_getR (pc := 9) (j := 7) B hH hk_th coX9 rfl w_310 rfl dX9_beginLoop_9 ?_
    refine W.eq (g2 := F0 m 12 ls [va_rf (gR S th 7)]) rfl ?_
    obtain ⟨a_2, ha_2, hp⟩ := hp
    refine sx_nonnull (x := a_2) ha_2 ?_
    refine lv_aload_n (pc := 12) hx hb dX9_beginLoop_12 rfl (lv_at hl 0 rfl) ?_
    refine sx_getI (pc := 13) (j := 2) B hH hk_th coX9 rfl w_305 rfl dX9_beginLoop_13 ?_
    refine W.eq (g2 := F0 m 16 ls [.int (gI S th 2), .ref a_2]) rfl ?_
    refine lv_iload_n (pc := 16) hx hb dX9_beginLoop_16 rfl (lv_at hl 1 rfl) ?_
    refine lv_iconst (pc := 17) (v := 1) hx hb dX9_beginLoop_17 (by decide) ?_
    refine lv_iadd (pc := 18) hx hb dX9_beginLoop_18 ?_
    obtain ⟨hk_3, hp⟩ := hp
    obtain ⟨hn_4, hp⟩ := hp
    refine lv_topi (fun v_5 ev_5 => ?_)
    have hp := hp v_5 ev_5
    obtain ⟨F_6, eF_6⟩ : ∃ z : Nat → Nat → Int32, z = upI (gI S) a_2 ((gI S th 2).toNatClampNeg) v_5 := ⟨_, rfl⟩
    have hp := hp F_6 eF_6
    refine sx_iast (pc := 19) B hH hk_3 hn_4 dX9_beginLoop_19 (fun H locs hH => ?_)
    have hH : Hp G (FA S s.heap.size) s.heap (wI S F_6) H locs := by rw [eF_6]; exact hH
    refine lv_aload_n (pc := 20) hx hb dX9_beginLoop_20 rfl (lv_at hl 0 rfl) ?_
    refine sx_getR (pc := 21) (j := 8) B hH hk_th coX9 rfl w_311 rfl dX9_beginLoop_21 ?_
    refine W.eq (g2 := F0 m 24 ls [va_rf (gR S th 8)]) rfl ?_
    obtain ⟨a_7, ha_7, hp⟩ := hp
    refine sx_nonnull (x := a_7) ha_7 ?_
    refine lv_aload_n (pc := 24) hx hb dX9_beginLoop_24 rfl (lv_at hl 0 rfl) ?_
    refine sx_getI (pc := 25) (j := 2) B hH hk_th coX9 rfl w_305 rfl dX9_beginLoop_25 ?_
    refine W.eq (g2 := F0 m 28 ls [.int (F_6 th 2), .ref a_7]) rfl ?_
    refine lv_aload_n (pc := 28) hx hb dX9_beginLoop_28 rfl (lv_at hl 0 rfl) ?_
    refine sx_getR (pc := 29) (j := 5) B hH hk_th coX9 rfl w_308 rfl dX9_beginLoop_29 ?_
    refine W.eq (g2 := F0 m 32 ls [va_rf (gR S th 5), .int (F_6 th 2), .ref a_7]) rfl ?_
    obtain ⟨a_8, ha_8, hp⟩ := hp
    refine sx_nonnull (x := a_8) ha_8 ?_
    refine lv_iload_n (pc := 32) hx hb dX9_beginLoop_32 rfl (lv_at hl 1 rfl) ?_
    obtain ⟨hk_9, hp⟩ := hp
    obtain ⟨hn_10, hp⟩ := hp
    refine sx_iald (pc := 33) B hH hk_9 hn_10 dX9_beginLoop_33 ?_
    refine W.eq (g2 := F0 m 34 ls [.int (F_6 a_8 p0.toNatClampNeg), .int (F_6 th 2), .ref a_7]) rfl ?_
    obtain ⟨hk_11, hp⟩ := hp
    obtain ⟨hn_12, hp⟩ := hp
    refine lv_topi (fun v_13 ev_13 => ?_)
    have hp := hp v_13 ev_13
    obtain ⟨F_14, eF_14⟩ : ∃ z : Nat → Nat → Int32, z = upI F_6 a_7 ((F_6 th 2).toNatClampNeg) v_13 := ⟨_, rfl⟩
    have hp := hp F_14 eF_14
    refine sx_iast (pc := 34) B hH hk_11 hn_12 dX9_beginLoop_34 (fun H locs hH => ?_)
    have hH : Hp G (FA S s.heap.size) s.heap (wI S F_14) H locs := by rw [eF_14]; exact hH
    refine lv_aload_n (pc := 35) hx hb dX9_beginLoop_35 rfl (lv_at hl 0 rfl) ?_
    refine lv_dup (pc := 36) hx hb dX9_beginLoop_36 rfl ?_
    refine sx_getI (pc := 37) (j := 2) B hH hk_th coX9 rfl w_305 rfl dX9_beginLoop_37 ?_
    refine W.eq (g2 := F0 m 40 ls [.int (F_14 th 2), .ref th]) rfl ?_
    refine lv_iconst (pc := 40) (v := 1) hx hb dX9_beginLoop_40 (by decide) ?_
    refine lv_iadd (pc := 41) hx hb dX9_beginLoop_41 ?_
    refine lv_topi (fun v_15 ev_15 => ?_)
    have hp := hp v_15 ev_15
    obtain ⟨F_16, eF_16⟩ : ∃ z : Nat → Nat → Int32, z = upI F_14 th 2 v_15 := ⟨_, rfl⟩
    have hp := hp F_16 eF_16
    refine sx_putI (pc := 42) (j := 2) B hH hk_th coX9 rfl w_305 rfl (Or.inl rfl) rfl dX9_beginLoop_42 (fun H locs hH => ?_)
    have hH : Hp G (FA S s.heap.size) s.heap (wI S F_16) H locs := by rw [eF_16]; exact hH
    exact sx_vret (pc := 45) B hH hr hlk (by rw [← hQQ]; exact ⟨F_16, rfl, rfl, hp⟩) (Nat.le_of_ble_eq_true rfl) (Nat.le_of_ble_eq_true rfl) dX9_beginLoop_45
theorem dX9_ringLead_0 : decode cX9_ringLead 0 = .ok (.aload_n 0, 1) := by decide +kernel
theorem dX9_ringLead_1 : decode cX9_ringLead 1 = .ok (.getfield 30, 3) := by decide +kernel
theorem dX9_ringLead_4 : decode cX9_ringLead 4 = .ok (.iload_n 1, 1) := by decide +kernel
theorem dX9_ringLead_5 : decode cX9_ringLead 5 = .ok (.aaload, 1) := by decide +kernel
theorem dX9_ringLead_6 : decode cX9_ringLead 6 = .ok (.astore_n 2, 1) := by decide +kernel
theorem dX9_ringLead_7 : decode cX9_ringLead 7 = .ok (.aload_n 2, 1) := by decide +kernel
theorem dX9_ringLead_8 : decode cX9_ringLead 8 = .ok (.ifnonnull 4, 3) := by decide +kernel
theorem dX9_ringLead_11 : decode cX9_ringLead 11 = .ok (.return_, 1) := by decide +kernel
theorem dX9_ringLead_12 : decode cX9_ringLead 12 = .ok (.aload_n 0, 1) := by decide +kernel
theorem dX9_ringLead_13 : decode cX9_ringLead 13 = .ok (.getfield 21, 3) := by decide +kernel
theorem dX9_ringLead_16 : decode cX9_ringLead 16 = .ok (.iload_n 1, 1) := by decide +kernel
theorem dX9_ringLead_17 : decode cX9_ringLead 17 = .ok (.iaload, 1) := by decide +kernel
theorem dX9_ringLead_18 : decode cX9_ringLead 18 = .ok (.bipush 10, 2) := by decide +kernel
theorem dX9_ringLead_20 : decode cX9_ringLead 20 = .ok (.if_icmp .ne 7, 3) := by decide +kernel
theorem dX9_ringLead_23 : decode cX9_ringLead 23 = .ok (.iconst 1, 1) := by decide +kernel
theorem dX9_ringLead_24 : decode cX9_ringLead 24 = .ok (.goto 19, 3) := by decide +kernel
theorem dX9_ringLead_27 : decode cX9_ringLead 27 = .ok (.aload_n 0, 1) := by decide +kernel
theorem dX9_ringLead_28 : decode cX9_ringLead 28 = .ok (.getfield 21, 3) := by decide +kernel
theorem dX9_ringLead_31 : decode cX9_ringLead 31 = .ok (.iload_n 1, 1) := by decide +kernel
theorem dX9_ringLead_32 : decode cX9_ringLead 32 = .ok (.iaload, 1) := by decide +kernel
theorem dX9_ringLead_33 : decode cX9_ringLead 33 = .ok (.bipush 11, 2) := by decide +kernel
theorem dX9_ringLead_35 : decode cX9_ringLead 35 = .ok (.if_icmp .ne 7, 3) := by decide +kernel
theorem dX9_ringLead_38 : decode cX9_ringLead 38 = .ok (.iconst 2, 1) := by decide +kernel
theorem dX9_ringLead_39 : decode cX9_ringLead 39 = .ok (.goto 4, 3) := by decide +kernel
theorem dX9_ringLead_42 : decode cX9_ringLead 42 = .ok (.iconst 0, 1) := by decide +kernel
theorem dX9_ringLead_43 : decode cX9_ringLead 43 = .ok (.istore_n 3, 1) := by decide +kernel
theorem dX9_ringLead_44 : decode cX9_ringLead 44 = .ok (.aload_n 0, 1) := by decide +kernel
theorem dX9_ringLead_45 : decode cX9_ringLead 45 = .ok (.getfield 25, 3) := by decide +kernel
theorem dX9_ringLead_48 : decode cX9_ringLead 48 = .ok (.iload_n 1, 1) := by decide +kernel
theorem dX9_ringLead_49 : decode cX9_ringLead 49 = .ok (.iaload, 1) := by decide +kernel
theorem dX9_ringLead_50 : decode cX9_ringLead 50 = .ok (.aload_n 2, 1) := by decide +kernel
theorem dX9_ringLead_51 : decode cX9_ringLead 51 = .ok (.invokevirtual 109, 3) := by decide +kernel
theorem dX9_ringLead_54 : decode cX9_ringLead 54 = .ok (.sipush 2000, 3) := by decide +kernel
theorem dX9_ringLead_57 : decode cX9_ringLead 57 = .ok (.aload_n 0, 1) := by decide +kernel
theorem dX9_ringLead_58 : decode cX9_ringLead 58 = .ok (.getfield 43, 3) := by decide +kernel
theorem dX9_ringLead_61 : decode cX9_ringLead 61 = .ok (.isub, 1) := by decide +kernel
theorem dX9_ringLead_62 : decode cX9_ringLead 62 = .ok (.invokestatic 139, 3) := by decide +kernel
theorem dX9_ringLead_65 : decode cX9_ringLead 65 = .ok (.invokestatic 139, 3) := by decide +kernel
theorem dX9_ringLead_68 : decode cX9_ringLead 68 = .ok (.istore 4, 2) := by decide +kernel
theorem dX9_ringLead_70 : decode cX9_ringLead 70 = .ok (.iconst 0, 1) := by decide +kernel
theorem dX9_ringLead_71 : decode cX9_ringLead 71 = .ok (.istore 5, 2) := by decide +kernel
theorem dX9_ringLead_73 : decode cX9_ringLead 73 = .ok (.iload 5, 2) := by decide +kernel
theorem dX9_ringLead_75 : decode cX9_ringLead 75 = .ok (.iload 4, 2) := by decide +kernel
theorem dX9_ringLead_77 : decode cX9_ringLead 77 = .ok (.if_icmp .ge 35, 3) := by decide +kernel
theorem dX9_ringLead_80 : decode cX9_ringLead 80 = .ok (.aload_n 0, 1) := by decide +kernel
theorem dX9_ringLead_81 : decode cX9_ringLead 81 = .ok (.getfield 40, 3) := by decide +kernel
theorem dX9_ringLead_84 : decode cX9_ringLead 84 = .ok (.aload_n 0, 1) := by decide +kernel
theorem dX9_ringLead_85 : decode cX9_ringLead 85 = .ok (.getfield 43, 3) := by decide +kernel
theorem dX9_ringLead_88 : decode cX9_ringLead 88 = .ok (.aload_n 2, 1) := by decide +kernel
theorem dX9_ringLead_89 : decode cX9_ringLead 89 = .ok (.iload_n 3, 1) := by decide +kernel
theorem dX9_ringLead_90 : decode cX9_ringLead 90 = .ok (.iload 5, 2) := by decide +kernel
theorem dX9_ringLead_92 : decode cX9_ringLead 92 = .ok (.invokevirtual 145, 3) := by decide +kernel
theorem dX9_ringLead_95 : decode cX9_ringLead 95 = .ok (.iastore, 1) := by decide +kernel
theorem dX9_ringLead_96 : decode cX9_ringLead 96 = .ok (.aload_n 0, 1) := by decide +kernel
theorem dX9_ringLead_97 : decode cX9_ringLead 97 = .ok (.dup, 1) := by decide +kernel
theorem dX9_ringLead_98 : decode cX9_ringLead 98 = .ok (.getfield 43, 3) := by decide +kernel
theorem dX9_ringLead_101 : decode cX9_ringLead 101 = .ok (.iconst 1, 1) := by decide +kernel
theorem dX9_ringLead_102 : decode cX9_ringLead 102 = .ok (.iadd, 1) := by decide +kernel
theorem dX9_ringLead_103 : decode cX9_ringLead 103 = .ok (.putfield 43, 3) := by decide +kernel
theorem dX9_ringLead_106 : decode cX9_ringLead 106 = .ok (.iinc 5 1, 3) := by decide +kernel
theorem dX9_ringLead_109 : decode cX9_ringLead 109 = .ok (.goto (-36), 3) := by decide +kernel
theorem dX9_ringLead_112 : decode cX9_ringLead 112 = .ok (.return_, 1) := by decide +kernel
theorem mi_X9_ringLead : MI yX9_ringLead cX9_ringLead 6 (none : Option Jvm.ClassFile.FieldType) 1 := ⟨w_806, w_112, by decide +kernel, by decide +kernel, by decide +kernel⟩
set_option maxRecDepth 100000 in
set_option maxHeartbeats 4000000 in
theorem C_X9_ringLead (G : GG) (l : Launch) (th : Nat) (p0 : Int32) (S : St) (Q : (Nat → Nat → Int32) → Prop) (hp : P_X9_ringLead th p0 S Q) : Ctr G l yX9_ringLead cX9_ringLead 6 (none : Option Jvm.ClassFile.FieldType) 1 22 0 0 [.ref th, .int p0] S (fun (v : Option Value) (S9 : St) => ∃ (I9 : Nat → Nat → Int32), v = none ∧ S9 = wI S I9 ∧ Q I9) := by
  generalize hQQ : (fun (v : Option Value) (S9 : St) => ∃ (I9 : Nat → Nat → Int32), v = none ∧ S9 = wI S I9 ∧ Q I9) = QQ
  unfold P_X9_ringLead at hp
  refine Ctr.of (by decide) (Nat.le_of_ble_eq_true rfl) ?_
  intro p e s m args below meth c ls B hr hlk hin hl hH
  generalize hlocs0 : ([] : List Loc) = locs at hH ⊢
  have hx := B.1
  have hb := B.2.1
  have hl : lv_has ls 6 [(0, .ref th), (1, .int p0)] := hl
  obtain ⟨hk_th, hp⟩ := hp
  refine lv_aload_n (pc := 0) hx hb dX9_ringLead_0 rfl (lv_at hl 0 rfl) ?_
  refine sx_getR (pc := 1) (j := 6) B hH hk_th coX9 rfl w_309 rfl dX9_ringLead_1 ?_
  refine W.eq (g2 := F0 m 4 ls [va_rf (gR S th 6)]) rfl ?_
  obtain ⟨a_1, ha_1, hp⟩ := hp
  refine sx_nonnull (x := a_1) ha_1 ?_
  refine lv_iload_n (pc := 4) hx hb dX9_ringLead_4 rfl (lv_at hl 1 rfl) ?_
  obtain ⟨hk_2, hp⟩ := hp
  obtain ⟨hn_3, hp⟩ := hp
  refine sx_aald (pc := 5) B hH hk_2 (by decide) (by decide) hn_3 dX9_ringLead_5 ?_
  refine W.eq (g2 := F0 m 6 ls [va_rf (gR S a_1 p0.toNatClampNeg)]) rfl ?_
  refine sx_astore_n (pc := 6) (r := gR S a_1 p0.toNatClampNeg) (lv' := [(2, va_rf (gR S a_1 p0.toNatClampNeg)), (0, .ref th), (1, .int p0)]) B dX9_ringLead_6 rfl hl (by decide) rfl (fun ls hl => ?_)
  refine sx_aload_n (pc := 7) (r := gR S a_1 p0.toNatClampNeg) B dX9_ringLead_7 rfl (lv_at hl 0 rfl) ?_
  refine sx_ifnonnull (pc := 8) (r := gR S a_1 p0.toNatClampNeg) (tgt := 12) B dX9_ringLead_8 (by decide) (fun cc_4 => ?_) (fun cc_4 => ?_)
  · have hp := hp.1 cc_4
    refine lv_aload_n (pc := 12) hx hb dX9_ringLead_12 rfl (lv_at hl 1 rfl) ?_
    refine sx_getR (pc := 13) (j := 4) B hH hk_th coX9 rfl w_307 rfl dX9_ringLead_13 ?_
    refine W.eq (g2 := F0 m 16 ls [va_rf (gR S th 4)]) rfl ?_
    obtain ⟨a_5, ha_5, hp⟩ := hp
    refine sx_nonnull (x := a_5) ha_5 ?_
    refine lv_iload_n (pc := 16) hx hb dX9_ringLead_16 rfl (lv_at hl 2 rfl) ?_
    obtain ⟨hk_6, hp⟩ := hp
    obtain ⟨hn_7, hp⟩ := hp
    refine sx_iald (pc := 17) B hH hk_6 hn_7 dX9_ringLead_17 ?_
    refine W.eq (g2 := F0 m 18 ls [.int (gI S a_5 p0.toNatClampNeg)]) rfl ?_
    refine lv_bipush (pc := 18) (v := 10) hx hb dX9_ringLead_18 (by decide) ?_
    obtain ⟨J_9, hj_9, hp⟩ := hp
    have kj_9 : ∀ (t_10 : Int32) (H : Heap) (locs : List Loc) (ls : Array Slot), J_9 t_10 → Hp G (FA S s.heap.size) s.heap S H locs → lv_has ls 6 [(0, .ref th), (1, .int p0), (2, va_rf (gR S a_1 p0.toNatClampNeg))] → Wm G p l e { frames := 1, cells := 0, slots := 0, locals := 22 } s m args below meth c S QQ 0 0 H locs 0 0 (F0 m 43 ls [.int t_10]) := by
      intro t_10 H locs ls hq9 hH hl
      have hp := hj_9 t_10 hq9
      refine lv_istore_n (pc := 43) (lv' := [(3, .int t_10), (0, .ref th), (1, .int p0), (2, va_rf (gR S a_1 p0.toNatClampNeg))]) hx hb dX9_ringLead_43 rfl hl (by decide) (by cases (gR S a_1 p0.toNatClampNeg) <;> rfl) (fun ls hl => ?_)
      refine lv_aload_n (pc := 44) hx hb dX9_ringLead_44 rfl (lv_at hl 1 rfl) ?_
      refine sx_getR (pc := 45) (j := 5) B hH hk_th coX9 rfl w_308 rfl dX9_ringLead_45 ?_
      refine W.eq (g2 := F0 m 48 ls [va_rf (gR S th 5)]) rfl ?_
      obtain ⟨a_11, ha_11, hp⟩ := hp
      refine sx_nonnull (x := a_11) ha_11 ?_
      refine lv_iload_n (pc := 48) hx hb dX9_ringLead_48 rfl (lv_at hl 2 rfl) ?_
      obtain ⟨hk_12, hp⟩ := hp
      obtain ⟨hn_13, hp⟩ := hp
      refine sx_iald (pc := 49) B hH hk_12 hn_13 dX9_ringLead_49 ?_
      refine W.eq (g2 := F0 m 50 ls [.int (gI S a_11 p0.toNatClampNeg)]) rfl ?_
      refine sx_aload_n (pc := 50) (r := gR S a_1 p0.toNatClampNeg) B dX9_ringLead_50 rfl (lv_at hl 3 rfl) ?_
      obtain ⟨a_14, ha_14, hp⟩ := hp
      refine sx_nonnull (x := a_14) ha_14 ?_
      obtain ⟨hk_15, hp⟩ := hp
      refine sx_V (pc := 51) (As := []) (rest := [.int (gI S a_11 p0.toNatClampNeg)]) B hH hl.1 (C_X3_length G l a_14 _ _ hp) mi_X3_length coX3 hk_15 w_784 w_785 w_783 rfl rfl ⟨Nat.le_of_ble_eq_true rfl, Nat.le_of_ble_eq_true rfl⟩ (Nat.le_of_ble_eq_true rfl) ⟨Nat.le_of_ble_eq_true rfl, Nat.le_of_ble_eq_true rfl⟩ dX9_ringLead_51 (fun v S1 H locs hq hH => ?_)
      obtain ⟨r_16, rfl, e9, hp⟩ := hq
      rw [e9] at hH
      refine W.eq (g2 := F0 m 54 ls [.int r_16, .int (gI S a_11 p0.toNatClampNeg)]) rfl ?_
      refine lv_sipush (pc := 54) (v := 2000) hx hb dX9_ringLead_54 (by decide) ?_
      refine lv_aload_n (pc := 57) hx hb dX9_ringLead_57 rfl (lv_at hl 1 rfl) ?_
      refine sx_getI (pc := 58) (j := 10) B hH hk_th coX9 rfl w_313 rfl dX9_ringLead_58 ?_
      refine W.eq (g2 := F0 m 61 ls [.int (gI S th 10), .int 2000, .int r_16, .int (gI S a_11 p0.toNatClampNeg)]) rfl ?_
      refine lv_isub (pc := 61) hx hb dX9_ringLead_61 ?_
      refine sx_min (pc := 62) B hl.1 w_807 w_600 w_121 w_min (Nat.le_of_ble_eq_true rfl) (Nat.le_of_ble_eq_true rfl) (Nat.le_of_ble_eq_true rfl) (Nat.le_of_ble_eq_true rfl) dX9_ringLead_62 ?_
      refine W.eq (g2 := F0 m 65 ls [.int (imin r_16 (2000 - (gI S th 10))), .int (gI S a_11 p0.toNatClampNeg)]) rfl ?_
      refine sx_min (pc := 65) B hl.1 w_807 w_600 w_121 w_min (Nat.le_of_ble_eq_true rfl) (Nat.le_of_ble_eq_true rfl) (Nat.le_of_ble_eq_true rfl) (Nat.le_of_ble_eq_true rfl) dX9_ringLead_65 ?_
      refine W.eq (g2 := F0 m 68 ls [.int (imin (gI S a_11 p0.toNatClampNeg) (imin r_16 (2000 - (gI S th 10))))]) rfl ?_
      refine lv_topi (fun v_17 ev_17 => ?_)
      have hp := hp v_17 ev_17
      refine lv_istore (pc := 68) (lv' := [(4, .int v_17), (3, .int t_10), (0, .ref th), (1, .int p0), (2, va_rf (gR S a_1 p0.toNatClampNeg))]) hx hb dX9_ringLead_68 hl (by decide) rfl (fun ls hl => ?_)
      refine lv_iconst (pc := 70) (v := 0) hx hb dX9_ringLead_70 (by decide) ?_
      refine lv_istore (pc := 71) (lv' := [(5, .int 0), (4, .int v_17), (3, .int t_10), (0, .ref th), (1, .int p0), (2, va_rf (gR S a_1 p0.toNatClampNeg))]) hx hb dX9_ringLead_71 hl (by decide) rfl (fun ls hl => ?_)
      obtain ⟨I_18, ⟨k0_18, h0_18⟩, hst_18⟩ := hp
      have kl_18 : ∀ (n_18 : Nat) (x5_19 : Int32) (F_20 : Nat → Nat → Int32) (H : Heap) (locs : List Loc) (ls : Array Slot), I_18 n_18 x5_19 F_20 → Hp G (FA S s.heap.size) s.heap (wI S F_20) H locs → lv_has ls 6 [(0, .ref th), (2, va_rf (gR S a_1 p0.toNatClampNeg)), (3, .int t_10), (4, .int v_17), (5, .int x5_19)] → Wm G p l e { frames := 1, cells := 0, slots := 0, locals := 22 } s m args below meth c S QQ 0 0 H locs 0 0 (F0 m 73 ls []) := by
        intro n_18
        induction n_18 using Nat.strongRecOn with
        | ind n_18 ih_18 =>
          intro x5_19 F_20 H locs ls hq9 hH hl
          have hp := hst_18 n_18 x5_19 F_20 hq9
          refine lv_iload (pc := 73) hx hb dX9_ringLead_73 (lv_at hl 4 rfl) ?_
          refine lv_iload (pc := 75) hx hb dX9_ringLead_75 (lv_at hl 3 rfl) ?_
          refine lv_icmp_ge (pc := 77) (tgt := 112) hx hb dX9_ringLead_77 (by decide) (fun cc_21 => ?_) (fun cc_21 => ?_)
          · have hp := hp.1 cc_21
            exact sx_vret (pc := 112) B hH hr hlk (by rw [← hQQ]; exact ⟨F_20, rfl, rfl, hp⟩) (Nat.le_of_ble_eq_true rfl) (Nat.le_of_ble_eq_true rfl) dX9_ringLead_112
          · have hp := hp.2 cc_21
            refine lv_aload_n (pc := 80) hx hb dX9_ringLead_80 rfl (lv_at hl 0 rfl) ?_
            refine sx_getR (pc := 81) (j := 9) B hH hk_th coX9 rfl w_312 rfl dX9_ringLead_81 ?_
            refine W.eq (g2 := F0 m 84 ls [va_rf (gR S th 9)]) rfl ?_
            obtain ⟨a_22, ha_22, hp⟩ := hp
            refine sx_nonnull (x := a_22) ha_22 ?_
            refine lv_aload_n (pc := 84) hx hb dX9_ringLead_84 rfl (lv_at hl 0 rfl) ?_
            refine sx_getI (pc := 85) (j := 10) B hH hk_th coX9 rfl w_313 rfl dX9_ringLead_85 ?_
            refine W.eq (g2 := F0 m 88 ls [.int (F_20 th 10), .ref a_22]) rfl ?_
            refine sx_aload_n (pc := 88) (r := gR S a_1 p0.toNatClampNeg) B dX9_ringLead_88 rfl (lv_at hl 1 rfl) ?_
            refine sx_nonnull (x := a_14) ha_14 ?_
            refine lv_iload_n (pc := 89) hx hb dX9_ringLead_89 rfl (lv_at hl 2 rfl) ?_
            refine lv_iload (pc := 90) hx hb dX9_ringLead_90 (lv_at hl 4 rfl) ?_
            refine sx_V (pc := 92) (As := [.int t_10, .int x5_19]) (rest := [.int (F_20 th 10), .ref a_22]) B hH hl.1 (C_X3_moveAt G l a_14 t_10 x5_19 _ _ hp) mi_X3_moveAt coX3 hk_15 w_809 w_810 w_808 rfl rfl ⟨Nat.le_of_ble_eq_true rfl, Nat.le_of_ble_eq_true rfl⟩ (Nat.le_of_ble_eq_true rfl) ⟨Nat.le_of_ble_eq_true rfl, Nat.le_of_ble_eq_true rfl⟩ dX9_ringLead_92 (fun v S1 H locs hq hH => ?_)
            obtain ⟨r_23, rfl, e9, hp⟩ := hq
            rw [e9] at hH
            refine W.eq (g2 := F0 m 95 ls [.int r_23, .int (F_20 th 10), .ref a_22]) rfl ?_
            obtain ⟨hk_24, hp⟩ := hp
            obtain ⟨hn_25, hp⟩ := hp
            obtain ⟨F_26, eF_26⟩ : ∃ z : Nat → Nat → Int32, z = upI F_20 a_22 ((F_20 th 10).toNatClampNeg) r_23 := ⟨_, rfl⟩
            have hp := hp F_26 eF_26
            refine sx_iast (pc := 95) B hH hk_24 hn_25 dX9_ringLead_95 (fun H locs hH => ?_)
            have hH : Hp G (FA S s.heap.size) s.heap (wI S F_26) H locs := by rw [eF_26]; exact hH
            refine lv_aload_n (pc := 96) hx hb dX9_ringLead_96 rfl (lv_at hl 0 rfl) ?_
            refine lv_dup (pc := 97) hx hb dX9_ringLead_97 rfl ?_
            refine sx_getI (pc := 98) (j := 10) B hH hk_th coX9 rfl w_313 rfl dX9_ringLead_98 ?_
            refine W.eq (g2 := F0 m 101 ls [.int (F_26 th 10), .ref th]) rfl ?_
            refine lv_iconst (pc := 101) (v := 1) hx hb dX9_ringLead_101 (by decide) ?_
            refine lv_iadd (pc := 102) hx hb dX9_ringLead_102 ?_
            refine lv_topi (fun v_27 ev_27 => ?_)
            have hp := hp v_27 ev_27
            obtain ⟨F_28, eF_28⟩ : ∃ z : Nat → Nat → Int32, z = upI F_26 th 10 v_27 := ⟨_, rfl⟩
            have hp := hp F_28 eF_28
            refine sx_putI (pc := 103) (j := 10) B hH hk_th coX9 rfl w_313 rfl (Or.inl rfl) rfl dX9_ringLead_103 (fun H locs hH => ?_)
            have hH : Hp G (FA S s.heap.size) s.heap (wI S F_28) H locs := by rw [eF_28]; exact hH
            obtain ⟨v_29, ev_29⟩ : ∃ y : Int32, y = x5_19 + 1 := ⟨_, rfl⟩
            have hp := hp v_29 ev_29
            refine lv_iinc (pc := 106) (v := v_29) (lv' := [(5, .int v_29), (0, .ref th), (2, va_rf (gR S a_1 p0.toNatClampNeg)), (3, .int t_10), (4, .int v_17)]) hx hb dX9_ringLead_106 hl (k := 4) rfl (by rw [ev_29]; rfl) (by decide) rfl (fun ls hl => ?_)
            refine lv_goto (pc := 109) (tgt := 73) hx hb dX9_ringLead_109 (by decide) ?_
            obtain ⟨k9, hlt9, hp⟩ := hp
            exact ih_18 k9 hlt9 _ _ _ _ _ hp hH (lv_sub hl [1, 2, 3, 4, 0] rfl)
      exact kl_18 k0_18 _ _ _ _ _ h0_18 hH (lv_sub hl [3, 5, 2, 1, 0] rfl)
    refine lv_icmp_ne (pc := 20) (tgt := 27) hx hb dX9_ringLead_20 (by decide) (fun cc_8 => ?_) (fun cc_8 => ?_)
    · have hp := hp.1 cc_8
      refine lv_aload_n (pc := 27) hx hb dX9_ringLead_27 rfl (lv_at hl 1 rfl) ?_
      refine sx_getR (pc := 28) (j := 4) B hH hk_th coX9 rfl w_307 rfl dX9_ringLead_28 ?_
      refine W.eq (g2 := F0 m 31 ls [va_rf (gR S th 4)]) rfl ?_
      refine sx_nonnull (x := a_5) ha_5 ?_
      refine lv_iload_n (pc := 31) hx hb dX9_ringLead_31 rfl (lv_at hl 2 rfl) ?_
      refine sx_iald (pc := 32) B hH hk_6 hn_7 dX9_ringLead_32 ?_
      refine W.eq (g2 := F0 m 33 ls [.int (gI S a_5 p0.toNatClampNeg)]) rfl ?_
      refine lv_bipush (pc := 33) (v := 11) hx hb dX9_ringLead_33 (by decide) ?_
      refine lv_icmp_ne (pc := 35) (tgt := 42) hx hb dX9_ringLead_35 (by decide) (fun cc_30 => ?_) (fun cc_30 => ?_)
      · have hp := hp.1 cc_30
        refine lv_iconst (pc := 42) (v := 0) hx hb dX9_ringLead_42 (by decide) ?_
        exact kj_9 _ _ _ _ hp hH (lv_sub hl [1, 2, 0] rfl)
      · have hp := hp.2 cc_30
        refine lv_iconst (pc := 38) (v := 2) hx hb dX9_ringLead_38 (by decide) ?_
        refine lv_goto (pc := 39) (tgt := 43) hx hb dX9_ringLead_39 (by decide) ?_
        exact kj_9 _ _ _ _ hp hH (lv_sub hl [1, 2, 0] rfl)
    · have hp := hp.2 cc_8
      refine lv_iconst (pc := 23) (v := 1) hx hb dX9_ringLead_23 (by decide) ?_
      refine lv_goto (pc := 24) (tgt := 43) hx hb dX9_ringLead_24 (by decide) ?_
      exact kj_9 _ _ _ _ hp hH (lv_sub hl [1, 2, 0] rfl)
  · have hp := hp.2 cc_4
    exact sx_vret (pc := 11) B hH hr hlk (by rw [← hQQ]; exact ⟨(gI S), rfl, rfl, hp⟩) (Nat.le_of_ble_eq_true rfl) (Nat.le_of_ble_eq_true rfl) dX9_ringLead_11
theorem dX9_made_0 : decode cX9_made 0 = .ok (.aload_n 0, 1) := by decide +kernel
theorem dX9_made_1 : decode cX9_made 1 = .ok (.iconst 0, 1) := by decide +kernel
theorem dX9_made_2 : decode cX9_made 2 = .ok (.putfield 43, 3) := by decide +kernel
theorem dX9_made_5 : decode cX9_made 5 = .ok (.aload_n 0, 1) := by decide +kernel
theorem dX9_made_6 : decode cX9_made 6 = .ok (.iconst 0, 1) := by decide +kernel
theorem dX9_made_7 : decode cX9_made 7 = .ok (.putfield 15, 3) := by decide +kernel
theorem dX9_made_10 : decode cX9_made 10 = .ok (.iconst 0, 1) := by decide +kernel
theorem dX9_made_11 : decode cX9_made 11 = .ok (.istore_n 2, 1) := by decide +kernel
theorem dX9_made_12 : decode cX9_made 12 = .ok (.iconst 0, 1) := by decide +kernel
theorem dX9_made_13 : decode cX9_made 13 = .ok (.istore_n 3, 1) := by decide +kernel
theorem dX9_made_14 : decode cX9_made 14 = .ok (.iconst 0, 1) := by decide +kernel
theorem dX9_made_15 : decode cX9_made 15 = .ok (.istore 4, 2) := by decide +kernel
theorem dX9_made_17 : decode cX9_made 17 = .ok (.iload 4, 2) := by decide +kernel
theorem dX9_made_19 : decode cX9_made 19 = .ok (.sipush 30300, 3) := by decide +kernel
theorem dX9_made_22 : decode cX9_made 22 = .ok (.if_icmp .ge 84, 3) := by decide +kernel
theorem dX9_made_25 : decode cX9_made 25 = .ok (.iload_n 3, 1) := by decide +kernel
theorem dX9_made_26 : decode cX9_made 26 = .ok (.aload_n 0, 1) := by decide +kernel
theorem dX9_made_27 : decode cX9_made 27 = .ok (.getfield 18, 3) := by decide +kernel
theorem dX9_made_30 : decode cX9_made 30 = .ok (.if_icmp .ge 76, 3) := by decide +kernel
theorem dX9_made_33 : decode cX9_made 33 = .ok (.aload_n 0, 1) := by decide +kernel
theorem dX9_made_34 : decode cX9_made 34 = .ok (.getfield 21, 3) := by decide +kernel
theorem dX9_made_37 : decode cX9_made 37 = .ok (.iload_n 3, 1) := by decide +kernel
theorem dX9_made_38 : decode cX9_made 38 = .ok (.iaload, 1) := by decide +kernel
theorem dX9_made_39 : decode cX9_made 39 = .ok (.istore 5, 2) := by decide +kernel
theorem dX9_made_41 : decode cX9_made 41 = .ok (.iload 5, 2) := by decide +kernel
theorem dX9_made_43 : decode cX9_made 43 = .ok (.bipush 16, 2) := by decide +kernel
theorem dX9_made_45 : decode cX9_made 45 = .ok (.if_icmp .ne 12, 3) := by decide +kernel
theorem dX9_made_48 : decode cX9_made 48 = .ok (.aload_n 0, 1) := by decide +kernel
theorem dX9_made_49 : decode cX9_made 49 = .ok (.iload_n 3, 1) := by decide +kernel
theorem dX9_made_50 : decode cX9_made 50 = .ok (.invokevirtual 115, 3) := by decide +kernel
theorem dX9_made_53 : decode cX9_made 53 = .ok (.istore_n 3, 1) := by decide +kernel
theorem dX9_made_54 : decode cX9_made 54 = .ok (.goto 46, 3) := by decide +kernel
theorem dX9_made_57 : decode cX9_made 57 = .ok (.iload 5, 2) := by decide +kernel
theorem dX9_made_59 : decode cX9_made 59 = .ok (.bipush 17, 2) := by decide +kernel
theorem dX9_made_61 : decode cX9_made 61 = .ok (.if_icmp .eq 45, 3) := by decide +kernel
theorem dX9_made_64 : decode cX9_made 64 = .ok (.iload_n 2, 1) := by decide +kernel
theorem dX9_made_65 : decode cX9_made 65 = .ok (.sipush 300, 3) := by decide +kernel
theorem dX9_made_68 : decode cX9_made 68 = .ok (.if_icmp .lt 6, 3) := by decide +kernel
theorem dX9_made_71 : decode cX9_made 71 = .ok (.goto 35, 3) := by decide +kernel
theorem dX9_made_74 : decode cX9_made 74 = .ok (.iinc 2 1, 3) := by decide +kernel
theorem dX9_made_77 : decode cX9_made 77 = .ok (.iload 5, 2) := by decide +kernel
theorem dX9_made_79 : decode cX9_made 79 = .ok (.bipush 15, 2) := by decide +kernel
theorem dX9_made_81 : decode cX9_made 81 = .ok (.if_icmp .ne 11, 3) := by decide +kernel
theorem dX9_made_84 : decode cX9_made 84 = .ok (.aload_n 0, 1) := by decide +kernel
theorem dX9_made_85 : decode cX9_made 85 = .ok (.iload_n 3, 1) := by decide +kernel
theorem dX9_made_86 : decode cX9_made 86 = .ok (.invokevirtual 119, 3) := by decide +kernel
theorem dX9_made_89 : decode cX9_made 89 = .ok (.goto 8, 3) := by decide +kernel
theorem dX9_made_92 : decode cX9_made 92 = .ok (.aload_n 0, 1) := by decide +kernel
theorem dX9_made_93 : decode cX9_made 93 = .ok (.iload_n 3, 1) := by decide +kernel
theorem dX9_made_94 : decode cX9_made 94 = .ok (.invokevirtual 122, 3) := by decide +kernel
theorem dX9_made_97 : decode cX9_made 97 = .ok (.iinc 3 1, 3) := by decide +kernel
theorem dX9_made_100 : decode cX9_made 100 = .ok (.iinc 4 1, 3) := by decide +kernel
theorem dX9_made_103 : decode cX9_made 103 = .ok (.goto (-86), 3) := by decide +kernel
theorem dX9_made_106 : decode cX9_made 106 = .ok (.new 125, 3) := by decide +kernel
theorem dX9_made_109 : decode cX9_made 109 = .ok (.dup, 1) := by decide +kernel
theorem dX9_made_110 : decode cX9_made 110 = .ok (.aload_n 1, 1) := by decide +kernel
theorem dX9_made_111 : decode cX9_made 111 = .ok (.getfield 127, 3) := by decide +kernel
theorem dX9_made_114 : decode cX9_made 114 = .ok (.aload_n 0, 1) := by decide +kernel
theorem dX9_made_115 : decode cX9_made 115 = .ok (.getfield 9, 3) := by decide +kernel
theorem dX9_made_118 : decode cX9_made 118 = .ok (.aload_n 0, 1) := by decide +kernel
theorem dX9_made_119 : decode cX9_made 119 = .ok (.getfield 40, 3) := by decide +kernel
theorem dX9_made_122 : decode cX9_made 122 = .ok (.aload_n 0, 1) := by decide +kernel
theorem dX9_made_123 : decode cX9_made 123 = .ok (.getfield 43, 3) := by decide +kernel
theorem dX9_made_126 : decode cX9_made 126 = .ok (.invokestatic 130, 3) := by decide +kernel
theorem dX9_made_129 : decode cX9_made 129 = .ok (.invokespecial 136, 3) := by decide +kernel
theorem dX9_made_132 : decode cX9_made 132 = .ok (.areturn, 1) := by decide +kernel
theorem mi_X9_made : MI yX9_made cX9_made 6 (some (FieldType.object "RingChamber$Touch")) 1 := ⟨w_794, w_112, by decide +kernel, by decide +kernel, by decide +kernel⟩
set_option maxRecDepth 100000 in
set_option maxHeartbeats 4000000 in
theorem C_X9_made (G : GG) (l : Launch) (th : Nat) (p0 : Nat) (S : St) (bc bs : Nat) (Q : Option Nat → St → Prop) (hp : P_X9_made th p0 S bc bs Q) : Ctr G l yX9_made cX9_made 6 (some (FieldType.object "RingChamber$Touch")) 2 82 bc bs [.ref th, .ref p0] S (fun (v : Option Value) (S9 : St) => ∃ r : Option Nat, v = some (va_rf r) ∧ Q r S9) := by
  generalize hQQ : (fun (v : Option Value) (S9 : St) => ∃ r : Option Nat, v = some (va_rf r) ∧ Q r S9) = QQ
  unfold P_X9_made at hp
  refine Ctr.of (by decide) (Nat.le_of_ble_eq_true rfl) ?_
  intro p e s m args below meth c ls B hr hlk hin hl hH
  generalize hlocs0 : ([] : List Loc) = locs at hH ⊢
  have hx := B.1
  have hb := B.2.1
  have hl : lv_has ls 6 [(0, .ref th), (1, .ref p0)] := hl
  obtain ⟨hk_th, hp⟩ := hp
  refine lv_aload_n (pc := 0) hx hb dX9_made_0 rfl (lv_at hl 0 rfl) ?_
  refine lv_iconst (pc := 1) (v := 0) hx hb dX9_made_1 (by decide) ?_
  obtain ⟨F_1, eF_1⟩ : ∃ z : Nat → Nat → Int32, z = upI (gI S) th 10 0 := ⟨_, rfl⟩
  have hp := hp F_1 eF_1
  refine sx_putI (pc := 2) (j := 10) B hH hk_th coX9 rfl w_313 rfl (Or.inl rfl) rfl dX9_made_2 (fun H locs hH => ?_)
  have hH : Hp G (FA S s.heap.size) s.heap (wI S F_1) H locs := by rw [eF_1]; exact hH
  refine lv_aload_n (pc := 5) hx hb dX9_made_5 rfl (lv_at hl 0 rfl) ?_
  refine lv_iconst (pc := 6) (v := 0) hx hb dX9_made_6 (by decide) ?_
  obtain ⟨F_2, eF_2⟩ : ∃ z : Nat → Nat → Int32, z = upI F_1 th 2 0 := ⟨_, rfl⟩
  have hp := hp F_2 eF_2
  refine sx_putI (pc := 7) (j := 2) B hH hk_th coX9 rfl w_305 rfl (Or.inl rfl) rfl dX9_made_7 (fun H locs hH => ?_)
  have hH : Hp G (FA S s.heap.size) s.heap (wI S F_2) H locs := by rw [eF_2]; exact hH
  refine lv_iconst (pc := 10) (v := 0) hx hb dX9_made_10 (by decide) ?_
  refine lv_istore_n (pc := 11) (lv' := [(2, .int 0), (0, .ref th), (1, .ref p0)]) hx hb dX9_made_11 rfl hl (by decide) rfl (fun ls hl => ?_)
  refine lv_iconst (pc := 12) (v := 0) hx hb dX9_made_12 (by decide) ?_
  refine lv_istore_n (pc := 13) (lv' := [(3, .int 0), (2, .int 0), (0, .ref th), (1, .ref p0)]) hx hb dX9_made_13 rfl hl (by decide) rfl (fun ls hl => ?_)
  refine lv_iconst (pc := 14) (v := 0) hx hb dX9_made_14 (by decide) ?_
  refine lv_istore (pc := 15) (lv' := [(4, .int 0), (3, .int 0), (2, .int 0), (0, .ref th), (1, .ref p0)]) hx hb dX9_made_15 hl (by decide) rfl (fun ls hl => ?_)
  obtain ⟨I_3, ⟨k0_3, h0_3⟩, hst_3⟩ := hp
  have kl_3 : ∀ (n_3 : Nat) (x2_4 : Int32) (x3_5 : Int32) (x4_6 : Int32) (F_7 : Nat → Nat → Int32) (H : Heap) (locs : List Loc) (ls : Array Slot) (cells slots : Nat), I_3 n_3 x2_4 x3_5 x4_6 F_7 → cells + bc ≤ bc → slots + bs ≤ bs → Hp G (FA S s.heap.size) s.heap (wI S F_7) H locs → lv_has ls 6 [(0, .ref th), (1, .ref p0), (2, .int x2_4), (3, .int x3_5), (4, .int x4_6)] → Wm G p l e { frames := 2, cells := bc, slots := bs, locals := 82 } s m args below meth c S QQ bc bs H locs cells slots (F0 m 17 ls []) := by
    intro n_3
    induction n_3 using Nat.strongRecOn with
    | ind n_3 ih_3 =>
      intro x2_4 x3_5 x4_6 F_7 H locs ls cells slots hq9 hcc_3 hss_3 hH hl
      have hp := hst_3 n_3 x2_4 x3_5 x4_6 F_7 hq9
      refine lv_iload (pc := 17) hx hb dX9_made_17 (lv_at hl 4 rfl) ?_
      refine lv_sipush (pc := 19) (v := 30300) hx hb dX9_made_19 (by decide) ?_
      obtain ⟨J_9, hj_9, hp⟩ := hp
      have kj_9 : ∀  (H : Heap) (locs : List Loc) (ls : Array Slot) (cells slots : Nat), J_9  → cells + bc ≤ bc → slots + bs ≤ bs → Hp G (FA S s.heap.size) s.heap (wI S F_7) H locs → lv_has ls 6 [(0, .ref th), (1, .ref p0)] → Wm G p l e { frames := 2, cells := bc, slots := bs, locals := 82 } s m args below meth c S QQ bc bs H locs cells slots (F0 m 106 ls []) := by
        intro  H locs ls cells slots hq9 hcc_9 hss_9 hH hl
        have hp := hj_9  hq9
        obtain ⟨hc_11, hp⟩ := hp
        obtain ⟨hc_12, hp⟩ := hp
        refine sx_new (pc := 106) (S := (wI S F_7)) B hH coX8 dvX8 w_812 w_813 w_124 (show _ + 1 ≤ bc by omega) (show _ + 4 ≤ bs by omega) dX9_made_106 (fun q_10 H hq_10 hH => ?_)
        obtain ⟨S_10, eS_10⟩ : ∃ z : St, z = alo (wI S F_7) q_10 8 0 := ⟨_, rfl⟩
        have hp := hp q_10 hq_10 S_10 eS_10
        have hH : Hp G (FA S s.heap.size) s.heap S_10 H locs := by rw [eS_10]; exact hH
        have hk_10 : kd S_10 q_10 = 8 := by rw [eS_10]; exact kd_alo
        refine W.eq (g2 := F0 m 109 ls [.ref q_10]) rfl ?_
        refine lv_dup (pc := 109) hx hb dX9_made_109 rfl ?_
        refine lv_aload_n (pc := 110) hx hb dX9_made_110 rfl (lv_at hl 1 rfl) ?_
        obtain ⟨hk_13, hp⟩ := hp
        refine sx_getI (pc := 111) (j := 0) B hH hk_13 coX0 rfl w_356 rfl dX9_made_111 ?_
        refine W.eq (g2 := F0 m 114 ls [.int (gI S_10 p0 0), .ref q_10, .ref q_10]) rfl ?_
        refine lv_aload_n (pc := 114) hx hb dX9_made_114 rfl (lv_at hl 0 rfl) ?_
        obtain ⟨hk_14, hp⟩ := hp
        refine sx_getI (pc := 115) (j := 1) B hH hk_14 coX9 rfl w_304 rfl dX9_made_115 ?_
        refine W.eq (g2 := F0 m 118 ls [.int (gI S_10 th 1), .int (gI S_10 p0 0), .ref q_10, .ref q_10]) rfl ?_
        refine lv_aload_n (pc := 118) hx hb dX9_made_118 rfl (lv_at hl 0 rfl) ?_
        refine sx_getR (pc := 119) (j := 9) B hH hk_14 coX9 rfl w_312 rfl dX9_made_119 ?_
        refine W.eq (g2 := F0 m 122 ls [va_rf (gR S_10 th 9), .int (gI S_10 th 1), .int (gI S_10 p0 0), .ref q_10, .ref q_10]) rfl ?_
        obtain ⟨a_15, ha_15, hp⟩ := hp
        refine sx_nonnull (x := a_15) ha_15 ?_
        refine lv_aload_n (pc := 122) hx hb dX9_made_122 rfl (lv_at hl 0 rfl) ?_
        refine sx_getI (pc := 123) (j := 10) B hH hk_14 coX9 rfl w_313 rfl dX9_made_123 ?_
        refine W.eq (g2 := F0 m 126 ls [.int (gI S_10 th 10), .ref a_15, .int (gI S_10 th 1), .int (gI S_10 p0 0), .ref q_10, .ref q_10]) rfl ?_
        obtain ⟨c_16, s_16, hb_16, hs_16, hp⟩ := hp
        refine sx_S (pc := 126) (As := [.ref a_15, .int (gI S_10 th 10)]) (rest := [.int (gI S_10 th 1), .int (gI S_10 p0 0), .ref q_10, .ref q_10]) B hH hl.1 (C_J7_copyOf_59c91 G l a_15 (gI S_10 th 10) _ c_16 s_16 _ hp) mi_J7_copyOf_59c91 w_689 w_814 rfl rfl ⟨Nat.le_of_ble_eq_true rfl, Nat.le_of_ble_eq_true rfl⟩ (Nat.le_of_ble_eq_true rfl) ⟨(show _ + c_16 ≤ bc by omega), (show _ + s_16 ≤ bs by omega)⟩ dX9_made_126 (fun v S1 H locs hq hH => ?_)
        obtain ⟨r_17, rfl, hp⟩ := hq
        obtain ⟨S_17, eS_17⟩ : ∃ z : St, z = S1 := ⟨_, rfl⟩
        rw [← eS_17] at hp hH
        refine W.eq (g2 := F0 m 129 ls [va_rf r_17, .int (gI S_10 th 1), .int (gI S_10 p0 0), .ref q_10, .ref q_10]) rfl ?_
        obtain ⟨a_18, ha_18, hp⟩ := hp
        refine sx_nonnull (x := a_18) ha_18 ?_
        obtain ⟨c_19, s_19, hb_19, hs_19, hp⟩ := hp
        refine sx_I (pc := 129) (As := [.int (gI S_10 p0 0), .int (gI S_10 th 1), .ref a_18]) (rest := [.ref q_10]) B hH hl.1 (C_X8_init G l q_10 (gI S_10 p0 0) (gI S_10 th 1) a_18 _ c_19 s_19 _ hp) mi_X8_init rfl w_816 w_815 rfl rfl ⟨Nat.le_of_ble_eq_true rfl, Nat.le_of_ble_eq_true rfl⟩ (Nat.le_of_ble_eq_true rfl) ⟨(show _ + c_19 ≤ bc by omega), (show _ + s_19 ≤ bs by omega)⟩ dX9_made_129 (fun v S1 H locs hq hH => ?_)
        obtain ⟨rfl, hp⟩ := hq
        obtain ⟨S_20, eS_20⟩ : ∃ z : St, z = S1 := ⟨_, rfl⟩
        rw [← eS_20] at hp hH
        refine W.eq (g2 := F0 m 132 ls [.ref q_10]) rfl ?_
        exact sx_aret (pc := 132) (r := (some q_10)) B hH hr (by simp) hlk (by rw [← hQQ]; exact ⟨_, rfl, hp⟩) (show _ ≤ bc by omega) (show _ ≤ bs by omega) dX9_made_132
      refine lv_icmp_ge (pc := 22) (tgt := 106) hx hb dX9_made_22 (by decide) (fun cc_8 => ?_) (fun cc_8 => ?_)
      · have hp := hp.1 cc_8
        exact kj_9  _ _ _ _ _ hp (show _ + bc ≤ bc by omega) (show _ + bs ≤ bs by omega) hH (lv_sub hl [0, 1] rfl)
      · have hp := hp.2 cc_8
        refine lv_iload_n (pc := 25) hx hb dX9_made_25 rfl (lv_at hl 3 rfl) ?_
        refine lv_aload_n (pc := 26) hx hb dX9_made_26 rfl (lv_at hl 0 rfl) ?_
        refine sx_getI (pc := 27) (j := 3) B hH hk_th coX9 rfl w_306 rfl dX9_made_27 ?_
        refine W.eq (g2 := F0 m 30 ls [.int (F_7 th 3), .int x3_5]) rfl ?_
        refine lv_icmp_ge (pc := 30) (tgt := 106) hx hb dX9_made_30 (by decide) (fun cc_21 => ?_) (fun cc_21 => ?_)
        · have hp := hp.1 cc_21
          exact kj_9  _ _ _ _ _ hp (show _ + bc ≤ bc by omega) (show _ + bs ≤ bs by omega) hH (lv_sub hl [0, 1] rfl)
        · have hp := hp.2 cc_21
          refine lv_aload_n (pc := 33) hx hb dX9_made_33 rfl (lv_at hl 0 rfl) ?_
          refine sx_getR (pc := 34) (j := 4) B hH hk_th coX9 rfl w_307 rfl dX9_made_34 ?_
          refine W.eq (g2 := F0 m 37 ls [va_rf (gR S th 4)]) rfl ?_
          obtain ⟨a_22, ha_22, hp⟩ := hp
          refine sx_nonnull (x := a_22) ha_22 ?_
          refine lv_iload_n (pc := 37) hx hb dX9_made_37 rfl (lv_at hl 3 rfl) ?_
          obtain ⟨hk_23, hp⟩ := hp
          obtain ⟨hn_24, hp⟩ := hp
          refine sx_iald (pc := 38) B hH hk_23 hn_24 dX9_made_38 ?_
          refine W.eq (g2 := F0 m 39 ls [.int (F_7 a_22 x3_5.toNatClampNeg)]) rfl ?_
          refine lv_topi (fun v_25 ev_25 => ?_)
          have hp := hp v_25 ev_25
          refine lv_istore (pc := 39) (lv' := [(5, .int v_25), (0, .ref th), (1, .ref p0), (2, .int x2_4), (3, .int x3_5), (4, .int x4_6)]) hx hb dX9_made_39 hl (by decide) rfl (fun ls hl => ?_)
          refine lv_iload (pc := 41) hx hb dX9_made_41 (lv_at hl 0 rfl) ?_
          refine lv_bipush (pc := 43) (v := 16) hx hb dX9_made_43 (by decide) ?_
          refine lv_icmp_ne (pc := 45) (tgt := 57) hx hb dX9_made_45 (by decide) (fun cc_26 => ?_) (fun cc_26 => ?_)
          · have hp := hp.1 cc_26
            refine lv_iload (pc := 57) hx hb dX9_made_57 (lv_at hl 0 rfl) ?_
            refine lv_bipush (pc := 59) (v := 17) hx hb dX9_made_59 (by decide) ?_
            refine lv_icmp_eq (pc := 61) (tgt := 106) hx hb dX9_made_61 (by decide) (fun cc_27 => ?_) (fun cc_27 => ?_)
            · have hp := hp.1 cc_27
              exact kj_9  _ _ _ _ _ hp (show _ + bc ≤ bc by omega) (show _ + bs ≤ bs by omega) hH (lv_sub hl [1, 2] rfl)
            · have hp := hp.2 cc_27
              refine lv_iload_n (pc := 64) hx hb dX9_made_64 rfl (lv_at hl 3 rfl) ?_
              refine lv_sipush (pc := 65) (v := 300) hx hb dX9_made_65 (by decide) ?_
              refine lv_icmp_lt (pc := 68) (tgt := 74) hx hb dX9_made_68 (by decide) (fun cc_28 => ?_) (fun cc_28 => ?_)
              · have hp := hp.1 cc_28
                obtain ⟨v_29, ev_29⟩ : ∃ y : Int32, y = x2_4 + 1 := ⟨_, rfl⟩
                have hp := hp v_29 ev_29
                refine lv_iinc (pc := 74) (v := v_29) (lv' := [(2, .int v_29), (5, .int v_25), (0, .ref th), (1, .ref p0), (3, .int x3_5), (4, .int x4_6)]) hx hb dX9_made_74 hl (k := 3) rfl (by rw [ev_29]; rfl) (by decide) rfl (fun ls hl => ?_)
                refine lv_iload (pc := 77) hx hb dX9_made_77 (lv_at hl 1 rfl) ?_
                refine lv_bipush (pc := 79) (v := 15) hx hb dX9_made_79 (by decide) ?_
                refine lv_icmp_ne (pc := 81) (tgt := 92) hx hb dX9_made_81 (by decide) (fun cc_30 => ?_) (fun cc_30 => ?_)
                · have hp := hp.1 cc_30
                  refine lv_aload_n (pc := 92) hx hb dX9_made_92 rfl (lv_at hl 2 rfl) ?_
                  refine lv_iload_n (pc := 93) hx hb dX9_made_93 rfl (lv_at hl 4 rfl) ?_
                  refine sx_V (pc := 94) (As := [.int x3_5]) (rest := []) B hH hl.1 (C_X9_ringLead G l th x3_5 _ _ hp) mi_X9_ringLead coX9 hk_th w_805 w_25 w_803 rfl rfl ⟨Nat.le_of_ble_eq_true rfl, Nat.le_of_ble_eq_true rfl⟩ (Nat.le_of_ble_eq_true rfl) ⟨(show _ + 0 ≤ bc by omega), (show _ + 0 ≤ bs by omega)⟩ dX9_made_94 (fun v S1 H locs hq hH => ?_)
                  obtain ⟨F_31, rfl, e9, hp⟩ := hq
                  rw [e9] at hH
                  have hH : Hp G (FA S s.heap.size) s.heap (wI S F_31) H locs := hH
                  refine W.eq (g2 := F0 m 97 ls []) rfl ?_
                  obtain ⟨v_32, ev_32⟩ : ∃ y : Int32, y = x3_5 + 1 := ⟨_, rfl⟩
                  have hp := hp v_32 ev_32
                  refine lv_iinc (pc := 97) (v := v_32) (lv' := [(3, .int v_32), (2, .int v_29), (5, .int v_25), (0, .ref th), (1, .ref p0), (4, .int x4_6)]) hx hb dX9_made_97 hl (k := 4) rfl (by rw [ev_32]; rfl) (by decide) rfl (fun ls hl => ?_)
                  obtain ⟨v_33, ev_33⟩ : ∃ y : Int32, y = x4_6 + 1 := ⟨_, rfl⟩
                  have hp := hp v_33 ev_33
                  refine lv_iinc (pc := 100) (v := v_33) (lv' := [(4, .int v_33), (3, .int v_32), (2, .int v_29), (5, .int v_25), (0, .ref th), (1, .ref p0)]) hx hb dX9_made_100 hl (k := 5) rfl (by rw [ev_33]; rfl) (by decide) rfl (fun ls hl => ?_)
                  refine lv_goto (pc := 103) (tgt := 17) hx hb dX9_made_103 (by decide) ?_
                  obtain ⟨k9, hlt9, hp⟩ := hp
                  exact ih_3 k9 hlt9 _ _ _ _ _ _ _ _ _ hp (show _ + bc ≤ bc by omega) (show _ + bs ≤ bs by omega) hH (lv_sub hl [4, 5, 2, 1, 0] rfl)
                · have hp := hp.2 cc_30
                  refine lv_aload_n (pc := 84) hx hb dX9_made_84 rfl (lv_at hl 2 rfl) ?_
                  refine lv_iload_n (pc := 85) hx hb dX9_made_85 rfl (lv_at hl 4 rfl) ?_
                  refine sx_V (pc := 86) (As := [.int x3_5]) (rest := []) B hH hl.1 (C_X9_beginLoop G l th x3_5 _ _ hp) mi_X9_beginLoop coX9 hk_th w_801 w_24 w_799 rfl rfl ⟨Nat.le_of_ble_eq_true rfl, Nat.le_of_ble_eq_true rfl⟩ (Nat.le_of_ble_eq_true rfl) ⟨(show _ + 0 ≤ bc by omega), (show _ + 0 ≤ bs by omega)⟩ dX9_made_86 (fun v S1 H locs hq hH => ?_)
                  obtain ⟨F_34, rfl, e9, hp⟩ := hq
                  rw [e9] at hH
                  have hH : Hp G (FA S s.heap.size) s.heap (wI S F_34) H locs := hH
                  refine W.eq (g2 := F0 m 89 ls []) rfl ?_
                  refine lv_goto (pc := 89) (tgt := 97) hx hb dX9_made_89 (by decide) ?_
                  obtain ⟨v_35, ev_35⟩ : ∃ y : Int32, y = x3_5 + 1 := ⟨_, rfl⟩
                  have hp := hp v_35 ev_35
                  refine lv_iinc (pc := 97) (v := v_35) (lv' := [(3, .int v_35), (2, .int v_29), (5, .int v_25), (0, .ref th), (1, .ref p0), (4, .int x4_6)]) hx hb dX9_made_97 hl (k := 4) rfl (by rw [ev_35]; rfl) (by decide) rfl (fun ls hl => ?_)
                  obtain ⟨v_36, ev_36⟩ : ∃ y : Int32, y = x4_6 + 1 := ⟨_, rfl⟩
                  have hp := hp v_36 ev_36
                  refine lv_iinc (pc := 100) (v := v_36) (lv' := [(4, .int v_36), (3, .int v_35), (2, .int v_29), (5, .int v_25), (0, .ref th), (1, .ref p0)]) hx hb dX9_made_100 hl (k := 5) rfl (by rw [ev_36]; rfl) (by decide) rfl (fun ls hl => ?_)
                  refine lv_goto (pc := 103) (tgt := 17) hx hb dX9_made_103 (by decide) ?_
                  obtain ⟨k9, hlt9, hp⟩ := hp
                  exact ih_3 k9 hlt9 _ _ _ _ _ _ _ _ _ hp (show _ + bc ≤ bc by omega) (show _ + bs ≤ bs by omega) hH (lv_sub hl [4, 5, 2, 1, 0] rfl)
              · have hp := hp.2 cc_28
                refine lv_goto (pc := 71) (tgt := 106) hx hb dX9_made_71 (by decide) ?_
                exact kj_9  _ _ _ _ _ hp (show _ + bc ≤ bc by omega) (show _ + bs ≤ bs by omega) hH (lv_sub hl [1, 2] rfl)
          · have hp := hp.2 cc_26
            refine lv_aload_n (pc := 48) hx hb dX9_made_48 rfl (lv_at hl 1 rfl) ?_
            refine lv_iload_n (pc := 49) hx hb dX9_made_49 rfl (lv_at hl 4 rfl) ?_
            refine sx_V (pc := 50) (As := [.int x3_5]) (rest := []) B hH hl.1 (C_X9_behindEnd G l th x3_5 _ _ hp) mi_X9_behindEnd coX9 hk_th w_797 w_23 w_795 rfl rfl ⟨Nat.le_of_ble_eq_true rfl, Nat.le_of_ble_eq_true rfl⟩ (Nat.le_of_ble_eq_true rfl) ⟨(show _ + 0 ≤ bc by omega), (show _ + 0 ≤ bs by omega)⟩ dX9_made_50 (fun v S1 H locs hq hH => ?_)
            obtain ⟨r_37, F_37, rfl, e9, hp⟩ := hq
            rw [e9] at hH
            have hH : Hp G (FA S s.heap.size) s.heap (wI S F_37) H locs := hH
            refine W.eq (g2 := F0 m 53 ls [.int r_37]) rfl ?_
            refine lv_istore_n (pc := 53) (lv' := [(3, .int r_37), (5, .int v_25), (0, .ref th), (1, .ref p0), (2, .int x2_4), (4, .int x4_6)]) hx hb dX9_made_53 rfl hl (by decide) rfl (fun ls hl => ?_)
            refine lv_goto (pc := 54) (tgt := 100) hx hb dX9_made_54 (by decide) ?_
            obtain ⟨v_38, ev_38⟩ : ∃ y : Int32, y = x4_6 + 1 := ⟨_, rfl⟩
            have hp := hp v_38 ev_38
            refine lv_iinc (pc := 100) (v := v_38) (lv' := [(4, .int v_38), (3, .int r_37), (5, .int v_25), (0, .ref th), (1, .ref p0), (2, .int x2_4)]) hx hb dX9_made_100 hl (k := 5) rfl (by rw [ev_38]; rfl) (by decide) rfl (fun ls hl => ?_)
            refine lv_goto (pc := 103) (tgt := 17) hx hb dX9_made_103 (by decide) ?_
            obtain ⟨k9, hlt9, hp⟩ := hp
            exact ih_3 k9 hlt9 _ _ _ _ _ _ _ _ _ hp (show _ + bc ≤ bc by omega) (show _ + bs ≤ bs by omega) hH (lv_sub hl [3, 4, 5, 1, 0] rfl)
  exact kl_3 k0_3 _ _ _ _ _ _ _ _ _ h0_3 (show _ + bc ≤ bc by omega) (show _ + bs ≤ bs by omega) hH (lv_sub hl [3, 4, 2, 1, 0] rfl)
