theorem dX7_wordOf_0 : decode cX7_wordOf 0 = .ok (.lconst 0, 1) := by decide +kernel
theorem dX7_wordOf_1 : decode cX7_wordOf 1 = .ok (.lstore_n 1, 1) := by decide +kernel
theorem dX7_wordOf_2 : decode cX7_wordOf 2 = .ok (.iconst 0, 1) := by decide +kernel
theorem dX7_wordOf_3 : decode cX7_wordOf 3 = .ok (.istore_n 3, 1) := by decide +kernel
theorem dX7_wordOf_4 : decode cX7_wordOf 4 = .ok (.iload_n 3, 1) := by decide +kernel
theorem dX7_wordOf_5 : decode cX7_wordOf 5 = .ok (.aload_n 0, 1) := by decide +kernel
theorem dX7_wordOf_6 : decode cX7_wordOf 6 = .ok (.invokevirtual 99, 3) := by decide +kernel
theorem dX7_wordOf_9 : decode cX7_wordOf 9 = .ok (.if_icmp .ge 27, 3) := by decide +kernel
theorem dX7_wordOf_12 : decode cX7_wordOf 12 = .ok (.lload_n 1, 1) := by decide +kernel
theorem dX7_wordOf_13 : decode cX7_wordOf 13 = .ok (.ldc2_w 97, 3) := by decide +kernel
theorem dX7_wordOf_16 : decode cX7_wordOf 16 = .ok (.lmul, 1) := by decide +kernel
theorem dX7_wordOf_17 : decode cX7_wordOf 17 = .ok (.aload_n 0, 1) := by decide +kernel
theorem dX7_wordOf_18 : decode cX7_wordOf 18 = .ok (.iload_n 3, 1) := by decide +kernel
theorem dX7_wordOf_19 : decode cX7_wordOf 19 = .ok (.invokevirtual 104, 3) := by decide +kernel
theorem dX7_wordOf_22 : decode cX7_wordOf 22 = .ok (.bipush 97, 2) := by decide +kernel
theorem dX7_wordOf_24 : decode cX7_wordOf 24 = .ok (.isub, 1) := by decide +kernel
theorem dX7_wordOf_25 : decode cX7_wordOf 25 = .ok (.iconst 1, 1) := by decide +kernel
theorem dX7_wordOf_26 : decode cX7_wordOf 26 = .ok (.iadd, 1) := by decide +kernel
theorem dX7_wordOf_27 : decode cX7_wordOf 27 = .ok (.i2l, 1) := by decide +kernel
theorem dX7_wordOf_28 : decode cX7_wordOf 28 = .ok (.ladd, 1) := by decide +kernel
theorem dX7_wordOf_29 : decode cX7_wordOf 29 = .ok (.lstore_n 1, 1) := by decide +kernel
theorem dX7_wordOf_30 : decode cX7_wordOf 30 = .ok (.iinc 3 1, 3) := by decide +kernel
theorem dX7_wordOf_33 : decode cX7_wordOf 33 = .ok (.goto (-29), 3) := by decide +kernel
theorem dX7_wordOf_36 : decode cX7_wordOf 36 = .ok (.lload_n 1, 1) := by decide +kernel
theorem dX7_wordOf_37 : decode cX7_wordOf 37 = .ok (.lreturn, 1) := by decide +kernel
theorem mi_X7_wordOf : MI yX7_wordOf cX7_wordOf 4 (some FieldType.long) 1 := ⟨w_144, w_106, by decide +kernel, by decide +kernel, by decide +kernel⟩
set_option maxRecDepth 100000 in
set_option maxHeartbeats 4000000 in
theorem C_X7_wordOf (G : GG) (l : Launch) (p0 : Nat) (S : St) (Q : Int64 → Prop) (hp : P_X7_wordOf p0 Q) : Ctr G l yX7_wordOf cX7_wordOf 4 (some FieldType.long) 4 85 0 0 [.ref (G.2.2.1 p0)] S (fun (v : Option Value) (S9 : St) => ∃ (r : Int64), v = some (.long r) ∧ S9 = S ∧ Q r ) := by
  generalize hQQ : (fun (v : Option Value) (S9 : St) => ∃ (r : Int64), v = some (.long r) ∧ S9 = S ∧ Q r ) = QQ
  unfold P_X7_wordOf at hp
  refine Ctr.of (by decide) (Nat.le_of_ble_eq_true rfl) ?_
  intro p e s m args below meth c ls B hr hlk hin hl hH
  generalize hlocs0 : ([] : List Loc) = locs at hH ⊢
  have hx := B.1
  have hb := B.2.1
  have hl : lv_has ls 4 [(0, .ref (G.2.2.1 p0))] := hl
  refine lv_lconst (pc := 0) (v := 0) hx hb dX7_wordOf_0 (by decide) ?_
  refine lv_lstore_n (pc := 1) (lv' := [(1, .long 0), (0, .ref (G.2.2.1 p0))]) hx hb dX7_wordOf_1 rfl hl (by decide) rfl (fun ls hl => ?_)
  refine lv_iconst (pc := 2) (v := 0) hx hb dX7_wordOf_2 (by decide) ?_
  refine lv_istore_n (pc := 3) (lv' := [(3, .int 0), (1, .long 0), (0, .ref (G.2.2.1 p0))]) hx hb dX7_wordOf_3 rfl hl (by decide) rfl (fun ls hl => ?_)
  obtain ⟨I_1, ⟨k0_1, h0_1⟩, hst_1⟩ := hp
  have kl_1 : ∀ (n_1 : Nat) (x1_2 : Int64) (x3_3 : Int32) (H : Heap) (locs : List Loc) (ls : Array Slot), I_1 n_1 x1_2 x3_3 → Hp G (FA S s.heap.size) s.heap S H locs → lv_has ls 4 [(0, .ref (G.2.2.1 p0)), (1, .long x1_2), (3, .int x3_3)] → Wm G p l e { frames := 4, cells := 0, slots := 0, locals := 85 } s m args below meth c S QQ 0 0 H locs 0 0 (F0 m 4 ls []) := by
    intro n_1
    induction n_1 using Nat.strongRecOn with
    | ind n_1 ih_1 =>
      intro x1_2 x3_3 H locs ls hq9 hH hl
      have hp := hst_1 n_1 x1_2 x3_3 hq9
      refine lv_iload_n (pc := 4) hx hb dX7_wordOf_4 rfl (lv_at hl 2 rfl) ?_
      refine lv_aload_n (pc := 5) hx hb dX7_wordOf_5 rfl (lv_at hl 0 rfl) ?_
      obtain ⟨hc_4, hp⟩ := hp
      refine sx_slen (pc := 6) B hH hl.1 hc_4 w_145 ⟨Nat.le_of_ble_eq_true rfl, Nat.le_of_ble_eq_true rfl⟩ (Nat.le_of_ble_eq_true rfl) ⟨Nat.le_of_ble_eq_true rfl, Nat.le_of_ble_eq_true rfl⟩ dX7_wordOf_6 (fun H locs hH => ?_)
      refine W.eq (g2 := F0 m 9 ls [.int (nI (sLen.getD p0 0)), .int x3_3]) rfl ?_
      refine lv_icmp_ge (pc := 9) (tgt := 36) hx hb dX7_wordOf_9 (by decide) (fun cc_5 => ?_) (fun cc_5 => ?_)
      · have hp := hp.1 cc_5
        refine lv_lload_n (pc := 36) hx hb dX7_wordOf_36 rfl (lv_at hl 1 rfl) ?_
        exact sx_lret (pc := 37) B hH hr hlk (by rw [← hQQ]; exact ⟨_, rfl, rfl, hp⟩) (Nat.le_of_ble_eq_true rfl) (Nat.le_of_ble_eq_true rfl) dX7_wordOf_37
      · have hp := hp.2 cc_5
        refine lv_lload_n (pc := 12) hx hb dX7_wordOf_12 rfl (lv_at hl 1 rfl) ?_
        refine sx_ldc2 (pc := 13) (v := 27) B w_155 dX7_wordOf_13 ?_
        refine lv_lmul (pc := 16) hx hb dX7_wordOf_16 ?_
        refine lv_aload_n (pc := 17) hx hb dX7_wordOf_17 rfl (lv_at hl 0 rfl) ?_
        refine lv_iload_n (pc := 18) hx hb dX7_wordOf_18 rfl (lv_at hl 2 rfl) ?_
        obtain ⟨hc_6, hp⟩ := hp
        obtain ⟨hc_7, hp⟩ := hp
        refine sx_schr (pc := 19) B hH hl.1 hc_6 hc_7 w_156 ⟨Nat.le_of_ble_eq_true rfl, Nat.le_of_ble_eq_true rfl⟩ (Nat.le_of_ble_eq_true rfl) ⟨Nat.le_of_ble_eq_true rfl, Nat.le_of_ble_eq_true rfl⟩ dX7_wordOf_19 (fun H locs hH => ?_)
        refine W.eq (g2 := F0 m 22 ls [.int (sCh p0 x3_3), .long (x1_2 * 27)]) rfl ?_
        refine lv_bipush (pc := 22) (v := 97) hx hb dX7_wordOf_22 (by decide) ?_
        refine lv_isub (pc := 24) hx hb dX7_wordOf_24 ?_
        refine lv_iconst (pc := 25) (v := 1) hx hb dX7_wordOf_25 (by decide) ?_
        refine lv_iadd (pc := 26) hx hb dX7_wordOf_26 ?_
        refine lv_i2l (pc := 27) (v := (((sCh p0 x3_3) - 97) + 1).toInt64) hx hb dX7_wordOf_27 rfl ?_
        refine lv_ladd (pc := 28) hx hb dX7_wordOf_28 ?_
        refine lv_topl (fun v_8 ev_8 => ?_)
        have hp := hp v_8 ev_8
        refine lv_lstore_n (pc := 29) (lv' := [(1, .long v_8), (0, .ref (G.2.2.1 p0)), (3, .int x3_3)]) hx hb dX7_wordOf_29 rfl hl (by decide) rfl (fun ls hl => ?_)
        obtain ⟨v_9, ev_9⟩ : ∃ y : Int32, y = x3_3 + 1 := ⟨_, rfl⟩
        have hp := hp v_9 ev_9
        refine lv_iinc (pc := 30) (v := v_9) (lv' := [(3, .int v_9), (1, .long v_8), (0, .ref (G.2.2.1 p0))]) hx hb dX7_wordOf_30 hl (k := 2) rfl (by rw [ev_9]; rfl) (by decide) rfl (fun ls hl => ?_)
        refine lv_goto (pc := 33) (tgt := 4) hx hb dX7_wordOf_33 (by decide) ?_
        obtain ⟨k9, hlt9, hp⟩ := hp
        exact ih_1 k9 hlt9 _ _ _ _ _ hp hH (lv_sub hl [2, 1, 0] rfl)
  exact kl_1 k0_1 _ _ _ _ _ h0_1 hH (lv_sub hl [2, 1, 0] rfl)
theorem dX7_init_0 : decode cX7_init 0 = .ok (.aload_n 0, 1) := by decide +kernel
theorem dX7_init_1 : decode cX7_init 1 = .ok (.invokespecial 3, 3) := by decide +kernel
theorem dX7_init_4 : decode cX7_init 4 = .ok (.aload_n 0, 1) := by decide +kernel
theorem dX7_init_5 : decode cX7_init 5 = .ok (.sipush 900, 3) := by decide +kernel
theorem dX7_init_8 : decode cX7_init 8 = .ok (.newarray .byte, 2) := by decide +kernel
theorem dX7_init_10 : decode cX7_init 10 = .ok (.putfield 9, 3) := by decide +kernel
theorem dX7_init_13 : decode cX7_init 13 = .ok (.aload_n 0, 1) := by decide +kernel
theorem dX7_init_14 : decode cX7_init 14 = .ok (.iconst 0, 1) := by decide +kernel
theorem dX7_init_15 : decode cX7_init 15 = .ok (.putfield 15, 3) := by decide +kernel
theorem dX7_init_18 : decode cX7_init 18 = .ok (.aload_n 0, 1) := by decide +kernel
theorem dX7_init_19 : decode cX7_init 19 = .ok (.bipush 12, 2) := by decide +kernel
theorem dX7_init_21 : decode cX7_init 21 = .ok (.newarray .long, 2) := by decide +kernel
theorem dX7_init_23 : decode cX7_init 23 = .ok (.putfield 19, 3) := by decide +kernel
theorem dX7_init_26 : decode cX7_init 26 = .ok (.aload_n 0, 1) := by decide +kernel
theorem dX7_init_27 : decode cX7_init 27 = .ok (.iconst 0, 1) := by decide +kernel
theorem dX7_init_28 : decode cX7_init 28 = .ok (.putfield 23, 3) := by decide +kernel
theorem dX7_init_31 : decode cX7_init 31 = .ok (.aload_n 0, 1) := by decide +kernel
theorem dX7_init_32 : decode cX7_init 32 = .ok (.iconst 0, 1) := by decide +kernel
theorem dX7_init_33 : decode cX7_init 33 = .ok (.putfield 26, 3) := by decide +kernel
theorem dX7_init_36 : decode cX7_init 36 = .ok (.aload_n 0, 1) := by decide +kernel
theorem dX7_init_37 : decode cX7_init 37 = .ok (.iconst 0, 1) := by decide +kernel
theorem dX7_init_38 : decode cX7_init 38 = .ok (.putfield 29, 3) := by decide +kernel
theorem dX7_init_41 : decode cX7_init 41 = .ok (.aload_n 0, 1) := by decide +kernel
theorem dX7_init_42 : decode cX7_init 42 = .ok (.iconst 1, 1) := by decide +kernel
theorem dX7_init_43 : decode cX7_init 43 = .ok (.putfield 32, 3) := by decide +kernel
theorem dX7_init_46 : decode cX7_init 46 = .ok (.aload_n 0, 1) := by decide +kernel
theorem dX7_init_47 : decode cX7_init 47 = .ok (.iconst 0, 1) := by decide +kernel
theorem dX7_init_48 : decode cX7_init 48 = .ok (.putfield 35, 3) := by decide +kernel
theorem dX7_init_51 : decode cX7_init 51 = .ok (.aload_n 0, 1) := by decide +kernel
theorem dX7_init_52 : decode cX7_init 52 = .ok (.lconst 0, 1) := by decide +kernel
theorem dX7_init_53 : decode cX7_init 53 = .ok (.putfield 38, 3) := by decide +kernel
theorem dX7_init_56 : decode cX7_init 56 = .ok (.aload_n 0, 1) := by decide +kernel
theorem dX7_init_57 : decode cX7_init 57 = .ok (.iconst (-1), 1) := by decide +kernel
theorem dX7_init_58 : decode cX7_init 58 = .ok (.putfield 42, 3) := by decide +kernel
theorem dX7_init_61 : decode cX7_init 61 = .ok (.aload_n 0, 1) := by decide +kernel
theorem dX7_init_62 : decode cX7_init 62 = .ok (.iconst (-1), 1) := by decide +kernel
theorem dX7_init_63 : decode cX7_init 63 = .ok (.putfield 45, 3) := by decide +kernel
theorem dX7_init_66 : decode cX7_init 66 = .ok (.aload_n 0, 1) := by decide +kernel
theorem dX7_init_67 : decode cX7_init 67 = .ok (.getfield 19, 3) := by decide +kernel
theorem dX7_init_70 : decode cX7_init 70 = .ok (.iconst 0, 1) := by decide +kernel
theorem dX7_init_71 : decode cX7_init 71 = .ok (.ldc 48, 2) := by decide +kernel
theorem dX7_init_73 : decode cX7_init 73 = .ok (.invokestatic 50, 3) := by decide +kernel
theorem dX7_init_76 : decode cX7_init 76 = .ok (.lastore, 1) := by decide +kernel
theorem dX7_init_77 : decode cX7_init 77 = .ok (.aload_n 0, 1) := by decide +kernel
theorem dX7_init_78 : decode cX7_init 78 = .ok (.getfield 19, 3) := by decide +kernel
theorem dX7_init_81 : decode cX7_init 81 = .ok (.iconst 1, 1) := by decide +kernel
theorem dX7_init_82 : decode cX7_init 82 = .ok (.ldc 54, 2) := by decide +kernel
theorem dX7_init_84 : decode cX7_init 84 = .ok (.invokestatic 50, 3) := by decide +kernel
theorem dX7_init_87 : decode cX7_init 87 = .ok (.lastore, 1) := by decide +kernel
theorem dX7_init_88 : decode cX7_init 88 = .ok (.aload_n 0, 1) := by decide +kernel
theorem dX7_init_89 : decode cX7_init 89 = .ok (.getfield 19, 3) := by decide +kernel
theorem dX7_init_92 : decode cX7_init 92 = .ok (.iconst 2, 1) := by decide +kernel
theorem dX7_init_93 : decode cX7_init 93 = .ok (.ldc 56, 2) := by decide +kernel
theorem dX7_init_95 : decode cX7_init 95 = .ok (.invokestatic 50, 3) := by decide +kernel
theorem dX7_init_98 : decode cX7_init 98 = .ok (.lastore, 1) := by decide +kernel
theorem dX7_init_99 : decode cX7_init 99 = .ok (.aload_n 0, 1) := by decide +kernel
theorem dX7_init_100 : decode cX7_init 100 = .ok (.getfield 19, 3) := by decide +kernel
theorem dX7_init_103 : decode cX7_init 103 = .ok (.iconst 3, 1) := by decide +kernel
theorem dX7_init_104 : decode cX7_init 104 = .ok (.ldc 58, 2) := by decide +kernel
theorem dX7_init_106 : decode cX7_init 106 = .ok (.invokestatic 50, 3) := by decide +kernel
theorem dX7_init_109 : decode cX7_init 109 = .ok (.lastore, 1) := by decide +kernel
theorem dX7_init_110 : decode cX7_init 110 = .ok (.aload_n 0, 1) := by decide +kernel
theorem dX7_init_111 : decode cX7_init 111 = .ok (.getfield 19, 3) := by decide +kernel
theorem dX7_init_114 : decode cX7_init 114 = .ok (.iconst 4, 1) := by decide +kernel
theorem dX7_init_115 : decode cX7_init 115 = .ok (.ldc 60, 2) := by decide +kernel
theorem dX7_init_117 : decode cX7_init 117 = .ok (.invokestatic 50, 3) := by decide +kernel
theorem dX7_init_120 : decode cX7_init 120 = .ok (.lastore, 1) := by decide +kernel
theorem dX7_init_121 : decode cX7_init 121 = .ok (.aload_n 0, 1) := by decide +kernel
theorem dX7_init_122 : decode cX7_init 122 = .ok (.getfield 19, 3) := by decide +kernel
theorem dX7_init_125 : decode cX7_init 125 = .ok (.iconst 5, 1) := by decide +kernel
theorem dX7_init_126 : decode cX7_init 126 = .ok (.ldc 62, 2) := by decide +kernel
theorem dX7_init_128 : decode cX7_init 128 = .ok (.invokestatic 50, 3) := by decide +kernel
theorem dX7_init_131 : decode cX7_init 131 = .ok (.lastore, 1) := by decide +kernel
theorem dX7_init_132 : decode cX7_init 132 = .ok (.aload_n 0, 1) := by decide +kernel
theorem dX7_init_133 : decode cX7_init 133 = .ok (.getfield 19, 3) := by decide +kernel
theorem dX7_init_136 : decode cX7_init 136 = .ok (.bipush 6, 2) := by decide +kernel
theorem dX7_init_138 : decode cX7_init 138 = .ok (.ldc 64, 2) := by decide +kernel
theorem dX7_init_140 : decode cX7_init 140 = .ok (.invokestatic 50, 3) := by decide +kernel
theorem dX7_init_143 : decode cX7_init 143 = .ok (.lastore, 1) := by decide +kernel
theorem dX7_init_144 : decode cX7_init 144 = .ok (.aload_n 0, 1) := by decide +kernel
theorem dX7_init_145 : decode cX7_init 145 = .ok (.getfield 19, 3) := by decide +kernel
theorem dX7_init_148 : decode cX7_init 148 = .ok (.bipush 7, 2) := by decide +kernel
theorem dX7_init_150 : decode cX7_init 150 = .ok (.ldc 66, 2) := by decide +kernel
theorem dX7_init_152 : decode cX7_init 152 = .ok (.invokestatic 50, 3) := by decide +kernel
theorem dX7_init_155 : decode cX7_init 155 = .ok (.lastore, 1) := by decide +kernel
theorem dX7_init_156 : decode cX7_init 156 = .ok (.aload_n 0, 1) := by decide +kernel
theorem dX7_init_157 : decode cX7_init 157 = .ok (.getfield 19, 3) := by decide +kernel
theorem dX7_init_160 : decode cX7_init 160 = .ok (.bipush 8, 2) := by decide +kernel
theorem dX7_init_162 : decode cX7_init 162 = .ok (.ldc 68, 2) := by decide +kernel
theorem dX7_init_164 : decode cX7_init 164 = .ok (.invokestatic 50, 3) := by decide +kernel
theorem dX7_init_167 : decode cX7_init 167 = .ok (.lastore, 1) := by decide +kernel
theorem dX7_init_168 : decode cX7_init 168 = .ok (.aload_n 0, 1) := by decide +kernel
theorem dX7_init_169 : decode cX7_init 169 = .ok (.getfield 19, 3) := by decide +kernel
theorem dX7_init_172 : decode cX7_init 172 = .ok (.bipush 9, 2) := by decide +kernel
theorem dX7_init_174 : decode cX7_init 174 = .ok (.ldc 70, 2) := by decide +kernel
theorem dX7_init_176 : decode cX7_init 176 = .ok (.invokestatic 50, 3) := by decide +kernel
theorem dX7_init_179 : decode cX7_init 179 = .ok (.lastore, 1) := by decide +kernel
theorem dX7_init_180 : decode cX7_init 180 = .ok (.aload_n 0, 1) := by decide +kernel
theorem dX7_init_181 : decode cX7_init 181 = .ok (.getfield 19, 3) := by decide +kernel
theorem dX7_init_184 : decode cX7_init 184 = .ok (.bipush 10, 2) := by decide +kernel
theorem dX7_init_186 : decode cX7_init 186 = .ok (.ldc 72, 2) := by decide +kernel
theorem dX7_init_188 : decode cX7_init 188 = .ok (.invokestatic 50, 3) := by decide +kernel
theorem dX7_init_191 : decode cX7_init 191 = .ok (.lastore, 1) := by decide +kernel
theorem dX7_init_192 : decode cX7_init 192 = .ok (.aload_n 0, 1) := by decide +kernel
theorem dX7_init_193 : decode cX7_init 193 = .ok (.getfield 19, 3) := by decide +kernel
theorem dX7_init_196 : decode cX7_init 196 = .ok (.bipush 11, 2) := by decide +kernel
theorem dX7_init_198 : decode cX7_init 198 = .ok (.ldc 73, 2) := by decide +kernel
theorem dX7_init_200 : decode cX7_init 200 = .ok (.invokestatic 50, 3) := by decide +kernel
theorem dX7_init_203 : decode cX7_init 203 = .ok (.lastore, 1) := by decide +kernel
theorem dX7_init_204 : decode cX7_init 204 = .ok (.return_, 1) := by decide +kernel
theorem mi_X7_init : MI yX7_init cX7_init 1 (none : Option Jvm.ClassFile.FieldType) 0 := ⟨w_139, w_106, by decide +kernel, by decide +kernel, by decide +kernel⟩
set_option maxRecDepth 100000 in
set_option maxHeartbeats 4000000 in
theorem C_X7_init (G : GG) (l : Launch) (th : Nat) (S : St) (bc bs : Nat) (Q : St → Prop) (hp : P_X7_init th S bc bs Q) : Ctr G l yX7_init cX7_init 1 (none : Option Jvm.ClassFile.FieldType) 5 108 bc bs [.ref th] S (fun (v : Option Value) (S9 : St) => v = none ∧ Q S9) := by
  generalize hQQ : (fun (v : Option Value) (S9 : St) => v = none ∧ Q S9) = QQ
  unfold P_X7_init at hp
  refine Ctr.of (by decide) (Nat.le_of_ble_eq_true rfl) ?_
  intro p e s m args below meth c ls B hr hlk hin hl hH
  generalize hlocs0 : ([] : List Loc) = locs at hH ⊢
  have hx := B.1
  have hb := B.2.1
  have hl : lv_has ls 1 [(0, .ref th)] := hl
  obtain ⟨hk_th, hp⟩ := hp
  refine lv_aload_n (pc := 0) hx hb dX7_init_0 rfl (lv_at hl 0 rfl) ?_
  refine sx_objInit (pc := 1) (rest := []) B hl.1 w_140 w_131 w_obj (Nat.le_of_ble_eq_true rfl) (Nat.le_of_ble_eq_true rfl) dX7_init_1 ?_
  refine W.eq (g2 := F0 m 4 ls []) rfl ?_
  refine lv_aload_n (pc := 4) hx hb dX7_init_4 rfl (lv_at hl 0 rfl) ?_
  refine lv_sipush (pc := 5) (v := 900) hx hb dX7_init_5 (by decide) ?_
  obtain ⟨hc_2, hp⟩ := hp
  obtain ⟨hc_3, hp⟩ := hp
  refine sx_newb (pc := 8) (S := S) B hH w_247 (by decide) (by decide) (by decide) (show _ + 1 ≤ bc by omega) (show _ + 900 ≤ bs by first | omega | exact (by omega : _ + 900 ≤ bs)) dX7_init_8 (fun q_1 H hq_1 hH => ?_)
  obtain ⟨S_1, eS_1⟩ : ∃ z : St, z = alo S q_1 20 900 := ⟨_, rfl⟩
  have hp := hp q_1 hq_1 S_1 eS_1
  have hH : Hp G (FA S s.heap.size) s.heap S_1 H locs := by rw [eS_1]; exact hH
  have hk_1 : kd S_1 q_1 = 20 := by rw [eS_1]; exact kd_alo
  refine W.eq (g2 := F0 m 10 ls [.ref q_1, .ref th]) rfl ?_
  obtain ⟨hk_4, hp⟩ := hp
  obtain ⟨R_5, eR_5⟩ : ∃ z : Nat → Nat → Option Nat, z = upR (gR S_1) th 0 (some q_1) := ⟨_, rfl⟩
  have hp := hp R_5 eR_5
  refine sx_putR (pc := 10) (j := 0) (x := (some q_1)) B hH hk_4 coX7 rfl w_205 rfl (Or.inr ⟨rfl, hin, rfl⟩) rfl dX7_init_10 (fun H locs hH => ?_)
  have hH : Hp G (FA S s.heap.size) s.heap (wA S_1 (gI S_1) (gJ S_1) R_5) H locs := by rw [eR_5]; exact hH
  refine lv_aload_n (pc := 13) hx hb dX7_init_13 rfl (lv_at hl 0 rfl) ?_
  refine lv_iconst (pc := 14) (v := 0) hx hb dX7_init_14 (by decide) ?_
  obtain ⟨F_6, eF_6⟩ : ∃ z : Nat → Nat → Int32, z = upI (gI S_1) th 1 0 := ⟨_, rfl⟩
  have hp := hp F_6 eF_6
  refine sx_putI (pc := 15) (j := 1) B hH hk_4 coX7 rfl w_206 rfl (Or.inl rfl) rfl dX7_init_15 (fun H locs hH => ?_)
  have hH : Hp G (FA S s.heap.size) s.heap (wA S_1 F_6 (gJ S_1) R_5) H locs := by rw [eF_6]; exact hH
  refine lv_aload_n (pc := 18) hx hb dX7_init_18 rfl (lv_at hl 0 rfl) ?_
  refine lv_bipush (pc := 19) (v := 12) hx hb dX7_init_19 (by decide) ?_
  obtain ⟨hc_8, hp⟩ := hp
  obtain ⟨hc_9, hp⟩ := hp
  refine sx_newj (pc := 21) (S := (wA S_1 F_6 (gJ S_1) R_5)) B hH w_248 (by decide) (by decide) (by decide) (show _ + 1 ≤ bc by omega) (show _ + 12 ≤ bs by first | omega | exact (by omega : _ + 12 ≤ bs)) dX7_init_21 (fun q_7 H hq_7 hH => ?_)
  obtain ⟨S_7, eS_7⟩ : ∃ z : St, z = alo (wA S_1 F_6 (gJ S_1) R_5) q_7 22 12 := ⟨_, rfl⟩
  have hp := hp q_7 hq_7 S_7 eS_7
  have hH : Hp G (FA S s.heap.size) s.heap S_7 H locs := by rw [eS_7]; exact hH
  have hk_7 : kd S_7 q_7 = 22 := by rw [eS_7]; exact kd_alo
  refine W.eq (g2 := F0 m 23 ls [.ref q_7, .ref th]) rfl ?_
  obtain ⟨hk_10, hp⟩ := hp
  obtain ⟨R_11, eR_11⟩ : ∃ z : Nat → Nat → Option Nat, z = upR (gR S_7) th 2 (some q_7) := ⟨_, rfl⟩
  have hp := hp R_11 eR_11
  refine sx_putR (pc := 23) (j := 2) (x := (some q_7)) B hH hk_10 coX7 rfl w_208 rfl (Or.inr ⟨rfl, hin, rfl⟩) rfl dX7_init_23 (fun H locs hH => ?_)
  have hH : Hp G (FA S s.heap.size) s.heap (wA S_7 (gI S_7) (gJ S_7) R_11) H locs := by rw [eR_11]; exact hH
  refine lv_aload_n (pc := 26) hx hb dX7_init_26 rfl (lv_at hl 0 rfl) ?_
  refine lv_iconst (pc := 27) (v := 0) hx hb dX7_init_27 (by decide) ?_
  obtain ⟨F_12, eF_12⟩ : ∃ z : Nat → Nat → Int32, z = upI (gI S_7) th 3 0 := ⟨_, rfl⟩
  have hp := hp F_12 eF_12
  refine sx_putI (pc := 28) (j := 3) B hH hk_10 coX7 rfl w_209 rfl (Or.inl rfl) rfl dX7_init_28 (fun H locs hH => ?_)
  have hH : Hp G (FA S s.heap.size) s.heap (wA S_7 F_12 (gJ S_7) R_11) H locs := by rw [eF_12]; exact hH
  refine lv_aload_n (pc := 31) hx hb dX7_init_31 rfl (lv_at hl 0 rfl) ?_
  refine lv_iconst (pc := 32) (v := 0) hx hb dX7_init_32 (by decide) ?_
  obtain ⟨F_13, eF_13⟩ : ∃ z : Nat → Nat → Int32, z = upI F_12 th 4 0 := ⟨_, rfl⟩
  have hp := hp F_13 eF_13
  refine sx_putI (pc := 33) (j := 4) B hH hk_10 coX7 rfl w_210 rfl (Or.inl rfl) rfl dX7_init_33 (fun H locs hH => ?_)
  have hH : Hp G (FA S s.heap.size) s.heap (wA S_7 F_13 (gJ S_7) R_11) H locs := by rw [eF_13]; exact hH
  refine lv_aload_n (pc := 36) hx hb dX7_init_36 rfl (lv_at hl 0 rfl) ?_
  refine lv_iconst (pc := 37) (v := 0) hx hb dX7_init_37 (by decide) ?_
  obtain ⟨F_14, eF_14⟩ : ∃ z : Nat → Nat → Int32, z = upI F_13 th 5 0 := ⟨_, rfl⟩
  have hp := hp F_14 eF_14
  refine sx_putI (pc := 38) (j := 5) B hH hk_10 coX7 rfl w_211 rfl (Or.inl rfl) rfl dX7_init_38 (fun H locs hH => ?_)
  have hH : Hp G (FA S s.heap.size) s.heap (wA S_7 F_14 (gJ S_7) R_11) H locs := by rw [eF_14]; exact hH
  refine lv_aload_n (pc := 41) hx hb dX7_init_41 rfl (lv_at hl 0 rfl) ?_
  refine lv_iconst (pc := 42) (v := 1) hx hb dX7_init_42 (by decide) ?_
  obtain ⟨F_15, eF_15⟩ : ∃ z : Nat → Nat → Int32, z = upI F_14 th 6 1 := ⟨_, rfl⟩
  have hp := hp F_15 eF_15
  refine sx_putI (pc := 43) (j := 6) B hH hk_10 coX7 rfl w_212 rfl (Or.inl rfl) rfl dX7_init_43 (fun H locs hH => ?_)
  have hH : Hp G (FA S s.heap.size) s.heap (wA S_7 F_15 (gJ S_7) R_11) H locs := by rw [eF_15]; exact hH
  refine lv_aload_n (pc := 46) hx hb dX7_init_46 rfl (lv_at hl 0 rfl) ?_
  refine lv_iconst (pc := 47) (v := 0) hx hb dX7_init_47 (by decide) ?_
  obtain ⟨F_16, eF_16⟩ : ∃ z : Nat → Nat → Int32, z = upI F_15 th 7 0 := ⟨_, rfl⟩
  have hp := hp F_16 eF_16
  refine sx_putI (pc := 48) (j := 7) B hH hk_10 coX7 rfl w_214 rfl (Or.inl rfl) rfl dX7_init_48 (fun H locs hH => ?_)
  have hH : Hp G (FA S s.heap.size) s.heap (wA S_7 F_16 (gJ S_7) R_11) H locs := by rw [eF_16]; exact hH
  refine lv_aload_n (pc := 51) hx hb dX7_init_51 rfl (lv_at hl 0 rfl) ?_
  refine lv_lconst (pc := 52) (v := 0) hx hb dX7_init_52 (by decide) ?_
  obtain ⟨J_17, eJ_17⟩ : ∃ z : Nat → Nat → Int64, z = upJ (gJ S_7) th 8 0 := ⟨_, rfl⟩
  have hp := hp J_17 eJ_17
  refine sx_putJ (pc := 53) (j := 8) B hH hk_10 coX7 rfl w_217 rfl (Or.inl rfl) rfl dX7_init_53 (fun H locs hH => ?_)
  have hH : Hp G (FA S s.heap.size) s.heap (wA S_7 F_16 J_17 R_11) H locs := by rw [eJ_17]; exact hH
  refine lv_aload_n (pc := 56) hx hb dX7_init_56 rfl (lv_at hl 0 rfl) ?_
  refine lv_iconst (pc := 57) (v := (-1)) hx hb dX7_init_57 (by decide) ?_
  obtain ⟨F_18, eF_18⟩ : ∃ z : Nat → Nat → Int32, z = upI F_16 th 9 (-1) := ⟨_, rfl⟩
  have hp := hp F_18 eF_18
  refine sx_putI (pc := 58) (j := 9) B hH hk_10 coX7 rfl w_220 rfl (Or.inl rfl) rfl dX7_init_58 (fun H locs hH => ?_)
  have hH : Hp G (FA S s.heap.size) s.heap (wA S_7 F_18 J_17 R_11) H locs := by rw [eF_18]; exact hH
  refine lv_aload_n (pc := 61) hx hb dX7_init_61 rfl (lv_at hl 0 rfl) ?_
  refine lv_iconst (pc := 62) (v := (-1)) hx hb dX7_init_62 (by decide) ?_
  obtain ⟨F_19, eF_19⟩ : ∃ z : Nat → Nat → Int32, z = upI F_18 th 10 (-1) := ⟨_, rfl⟩
  have hp := hp F_19 eF_19
  refine sx_putI (pc := 63) (j := 10) B hH hk_10 coX7 rfl w_222 rfl (Or.inl rfl) rfl dX7_init_63 (fun H locs hH => ?_)
  have hH : Hp G (FA S s.heap.size) s.heap (wA S_7 F_19 J_17 R_11) H locs := by rw [eF_19]; exact hH
  refine lv_aload_n (pc := 66) hx hb dX7_init_66 rfl (lv_at hl 0 rfl) ?_
  refine sx_getR (pc := 67) (j := 2) B hH hk_10 coX7 rfl w_208 rfl dX7_init_67 ?_
  refine W.eq (g2 := F0 m 70 ls [va_rf (R_11 th 2)]) rfl ?_
  obtain ⟨a_20, ha_20, hp⟩ := hp
  refine sx_nonnull (x := a_20) ha_20 ?_
  refine lv_iconst (pc := 70) (v := 0) hx hb dX7_init_70 (by decide) ?_
  refine sx_ldcS (pc := 71) 0 B (by decide) rfl rfl dX7_init_71 ?_
  refine sx_S (pc := 73) (As := [.ref (G.2.2.1 0)]) (rest := [.int 0, .ref a_20]) B hH hl.1 (C_X7_wordOf G l 0 _ _ hp) mi_X7_wordOf w_143 w_142 rfl rfl ⟨Nat.le_of_ble_eq_true rfl, Nat.le_of_ble_eq_true rfl⟩ (Nat.le_of_ble_eq_true rfl) ⟨(show _ + 0 ≤ bc by omega), (show _ + 0 ≤ bs by omega)⟩ dX7_init_73 (fun v S1 H locs hq hH => ?_)
  obtain ⟨r_21, rfl, e9, hp⟩ := hq
  rw [e9] at hH
  refine W.eq (g2 := F0 m 76 ls [.long r_21, .int 0, .ref a_20]) rfl ?_
  obtain ⟨hk_22, hp⟩ := hp
  obtain ⟨hn_23, hp⟩ := hp
  obtain ⟨J_24, eJ_24⟩ : ∃ z : Nat → Nat → Int64, z = upJ J_17 a_20 0 r_21 := ⟨_, rfl⟩
  have hp := hp J_24 eJ_24
  refine sx_last (pc := 76) B hH hk_22 hn_23 dX7_init_76 (fun H locs hH => ?_)
  have hH : Hp G (FA S s.heap.size) s.heap (wA S_7 F_19 J_24 R_11) H locs := by rw [eJ_24]; exact hH
  refine lv_aload_n (pc := 77) hx hb dX7_init_77 rfl (lv_at hl 0 rfl) ?_
  refine sx_getR (pc := 78) (j := 2) B hH hk_10 coX7 rfl w_208 rfl dX7_init_78 ?_
  refine W.eq (g2 := F0 m 81 ls [va_rf (R_11 th 2)]) rfl ?_
  refine sx_nonnull (x := a_20) ha_20 ?_
  refine lv_iconst (pc := 81) (v := 1) hx hb dX7_init_81 (by decide) ?_
  refine sx_ldcS (pc := 82) 1 B (by decide) rfl rfl dX7_init_82 ?_
  refine sx_S (pc := 84) (As := [.ref (G.2.2.1 1)]) (rest := [.int 1, .ref a_20]) B hH hl.1 (C_X7_wordOf G l 1 _ _ hp) mi_X7_wordOf w_143 w_142 rfl rfl ⟨Nat.le_of_ble_eq_true rfl, Nat.le_of_ble_eq_true rfl⟩ (Nat.le_of_ble_eq_true rfl) ⟨(show _ + 0 ≤ bc by omega), (show _ + 0 ≤ bs by omega)⟩ dX7_init_84 (fun v S1 H locs hq hH => ?_)
  obtain ⟨r_25, rfl, e9, hp⟩ := hq
  rw [e9] at hH
  refine W.eq (g2 := F0 m 87 ls [.long r_25, .int 1, .ref a_20]) rfl ?_
  obtain ⟨hn_26, hp⟩ := hp
  obtain ⟨J_27, eJ_27⟩ : ∃ z : Nat → Nat → Int64, z = upJ J_24 a_20 1 r_25 := ⟨_, rfl⟩
  have hp := hp J_27 eJ_27
  refine sx_last (pc := 87) B hH hk_22 hn_26 dX7_init_87 (fun H locs hH => ?_)
  have hH : Hp G (FA S s.heap.size) s.heap (wA S_7 F_19 J_27 R_11) H locs := by rw [eJ_27]; exact hH
  refine lv_aload_n (pc := 88) hx hb dX7_init_88 rfl (lv_at hl 0 rfl) ?_
  refine sx_getR (pc := 89) (j := 2) B hH hk_10 coX7 rfl w_208 rfl dX7_init_89 ?_
  refine W.eq (g2 := F0 m 92 ls [va_rf (R_11 th 2)]) rfl ?_
  refine sx_nonnull (x := a_20) ha_20 ?_
  refine lv_iconst (pc := 92) (v := 2) hx hb dX7_init_92 (by decide) ?_
  refine sx_ldcS (pc := 93) 2 B (by decide) rfl rfl dX7_init_93 ?_
  refine sx_S (pc := 95) (As := [.ref (G.2.2.1 2)]) (rest := [.int 2, .ref a_20]) B hH hl.1 (C_X7_wordOf G l 2 _ _ hp) mi_X7_wordOf w_143 w_142 rfl rfl ⟨Nat.le_of_ble_eq_true rfl, Nat.le_of_ble_eq_true rfl⟩ (Nat.le_of_ble_eq_true rfl) ⟨(show _ + 0 ≤ bc by omega), (show _ + 0 ≤ bs by omega)⟩ dX7_init_95 (fun v S1 H locs hq hH => ?_)
  obtain ⟨r_28, rfl, e9, hp⟩ := hq
  rw [e9] at hH
  refine W.eq (g2 := F0 m 98 ls [.long r_28, .int 2, .ref a_20]) rfl ?_
  obtain ⟨hn_29, hp⟩ := hp
  obtain ⟨J_30, eJ_30⟩ : ∃ z : Nat → Nat → Int64, z = upJ J_27 a_20 2 r_28 := ⟨_, rfl⟩
  have hp := hp J_30 eJ_30
  refine sx_last (pc := 98) B hH hk_22 hn_29 dX7_init_98 (fun H locs hH => ?_)
  have hH : Hp G (FA S s.heap.size) s.heap (wA S_7 F_19 J_30 R_11) H locs := by rw [eJ_30]; exact hH
  refine lv_aload_n (pc := 99) hx hb dX7_init_99 rfl (lv_at hl 0 rfl) ?_
  refine sx_getR (pc := 100) (j := 2) B hH hk_10 coX7 rfl w_208 rfl dX7_init_100 ?_
  refine W.eq (g2 := F0 m 103 ls [va_rf (R_11 th 2)]) rfl ?_
  refine sx_nonnull (x := a_20) ha_20 ?_
  refine lv_iconst (pc := 103) (v := 3) hx hb dX7_init_103 (by decide) ?_
  refine sx_ldcS (pc := 104) 3 B (by decide) rfl rfl dX7_init_104 ?_
  refine sx_S (pc := 106) (As := [.ref (G.2.2.1 3)]) (rest := [.int 3, .ref a_20]) B hH hl.1 (C_X7_wordOf G l 3 _ _ hp) mi_X7_wordOf w_143 w_142 rfl rfl ⟨Nat.le_of_ble_eq_true rfl, Nat.le_of_ble_eq_true rfl⟩ (Nat.le_of_ble_eq_true rfl) ⟨(show _ + 0 ≤ bc by omega), (show _ + 0 ≤ bs by omega)⟩ dX7_init_106 (fun v S1 H locs hq hH => ?_)
  obtain ⟨r_31, rfl, e9, hp⟩ := hq
  rw [e9] at hH
  refine W.eq (g2 := F0 m 109 ls [.long r_31, .int 3, .ref a_20]) rfl ?_
  obtain ⟨hn_32, hp⟩ := hp
  obtain ⟨J_33, eJ_33⟩ : ∃ z : Nat → Nat → Int64, z = upJ J_30 a_20 3 r_31 := ⟨_, rfl⟩
  have hp := hp J_33 eJ_33
  refine sx_last (pc := 109) B hH hk_22 hn_32 dX7_init_109 (fun H locs hH => ?_)
  have hH : Hp G (FA S s.heap.size) s.heap (wA S_7 F_19 J_33 R_11) H locs := by rw [eJ_33]; exact hH
  refine lv_aload_n (pc := 110) hx hb dX7_init_110 rfl (lv_at hl 0 rfl) ?_
  refine sx_getR (pc := 111) (j := 2) B hH hk_10 coX7 rfl w_208 rfl dX7_init_111 ?_
  refine W.eq (g2 := F0 m 114 ls [va_rf (R_11 th 2)]) rfl ?_
  refine sx_nonnull (x := a_20) ha_20 ?_
  refine lv_iconst (pc := 114) (v := 4) hx hb dX7_init_114 (by decide) ?_
  refine sx_ldcS (pc := 115) 4 B (by decide) rfl rfl dX7_init_115 ?_
  refine sx_S (pc := 117) (As := [.ref (G.2.2.1 4)]) (rest := [.int 4, .ref a_20]) B hH hl.1 (C_X7_wordOf G l 4 _ _ hp) mi_X7_wordOf w_143 w_142 rfl rfl ⟨Nat.le_of_ble_eq_true rfl, Nat.le_of_ble_eq_true rfl⟩ (Nat.le_of_ble_eq_true rfl) ⟨(show _ + 0 ≤ bc by omega), (show _ + 0 ≤ bs by omega)⟩ dX7_init_117 (fun v S1 H locs hq hH => ?_)
  obtain ⟨r_34, rfl, e9, hp⟩ := hq
  rw [e9] at hH
  refine W.eq (g2 := F0 m 120 ls [.long r_34, .int 4, .ref a_20]) rfl ?_
  obtain ⟨hn_35, hp⟩ := hp
  obtain ⟨J_36, eJ_36⟩ : ∃ z : Nat → Nat → Int64, z = upJ J_33 a_20 4 r_34 := ⟨_, rfl⟩
  have hp := hp J_36 eJ_36
  refine sx_last (pc := 120) B hH hk_22 hn_35 dX7_init_120 (fun H locs hH => ?_)
  have hH : Hp G (FA S s.heap.size) s.heap (wA S_7 F_19 J_36 R_11) H locs := by rw [eJ_36]; exact hH
  refine lv_aload_n (pc := 121) hx hb dX7_init_121 rfl (lv_at hl 0 rfl) ?_
  refine sx_getR (pc := 122) (j := 2) B hH hk_10 coX7 rfl w_208 rfl dX7_init_122 ?_
  refine W.eq (g2 := F0 m 125 ls [va_rf (R_11 th 2)]) rfl ?_
  refine sx_nonnull (x := a_20) ha_20 ?_
  refine lv_iconst (pc := 125) (v := 5) hx hb dX7_init_125 (by decide) ?_
  refine sx_ldcS (pc := 126) 5 B (by decide) rfl rfl dX7_init_126 ?_
  refine sx_S (pc := 128) (As := [.ref (G.2.2.1 5)]) (rest := [.int 5, .ref a_20]) B hH hl.1 (C_X7_wordOf G l 5 _ _ hp) mi_X7_wordOf w_143 w_142 rfl rfl ⟨Nat.le_of_ble_eq_true rfl, Nat.le_of_ble_eq_true rfl⟩ (Nat.le_of_ble_eq_true rfl) ⟨(show _ + 0 ≤ bc by omega), (show _ + 0 ≤ bs by omega)⟩ dX7_init_128 (fun v S1 H locs hq hH => ?_)
  obtain ⟨r_37, rfl, e9, hp⟩ := hq
  rw [e9] at hH
  refine W.eq (g2 := F0 m 131 ls [.long r_37, .int 5, .ref a_20]) rfl ?_
  obtain ⟨hn_38, hp⟩ := hp
  obtain ⟨J_39, eJ_39⟩ : ∃ z : Nat → Nat → Int64, z = upJ J_36 a_20 5 r_37 := ⟨_, rfl⟩
  have hp := hp J_39 eJ_39
  refine sx_last (pc := 131) B hH hk_22 hn_38 dX7_init_131 (fun H locs hH => ?_)
  have hH : Hp G (FA S s.heap.size) s.heap (wA S_7 F_19 J_39 R_11) H locs := by rw [eJ_39]; exact hH
  refine lv_aload_n (pc := 132) hx hb dX7_init_132 rfl (lv_at hl 0 rfl) ?_
  refine sx_getR (pc := 133) (j := 2) B hH hk_10 coX7 rfl w_208 rfl dX7_init_133 ?_
  refine W.eq (g2 := F0 m 136 ls [va_rf (R_11 th 2)]) rfl ?_
  refine sx_nonnull (x := a_20) ha_20 ?_
  refine lv_bipush (pc := 136) (v := 6) hx hb dX7_init_136 (by decide) ?_
  refine sx_ldcS (pc := 138) 6 B (by decide) rfl rfl dX7_init_138 ?_
  refine sx_S (pc := 140) (As := [.ref (G.2.2.1 6)]) (rest := [.int 6, .ref a_20]) B hH hl.1 (C_X7_wordOf G l 6 _ _ hp) mi_X7_wordOf w_143 w_142 rfl rfl ⟨Nat.le_of_ble_eq_true rfl, Nat.le_of_ble_eq_true rfl⟩ (Nat.le_of_ble_eq_true rfl) ⟨(show _ + 0 ≤ bc by omega), (show _ + 0 ≤ bs by omega)⟩ dX7_init_140 (fun v S1 H locs hq hH => ?_)
  obtain ⟨r_40, rfl, e9, hp⟩ := hq
  rw [e9] at hH
  refine W.eq (g2 := F0 m 143 ls [.long r_40, .int 6, .ref a_20]) rfl ?_
  obtain ⟨hn_41, hp⟩ := hp
  obtain ⟨J_42, eJ_42⟩ : ∃ z : Nat → Nat → Int64, z = upJ J_39 a_20 6 r_40 := ⟨_, rfl⟩
  have hp := hp J_42 eJ_42
  refine sx_last (pc := 143) B hH hk_22 hn_41 dX7_init_143 (fun H locs hH => ?_)
  have hH : Hp G (FA S s.heap.size) s.heap (wA S_7 F_19 J_42 R_11) H locs := by rw [eJ_42]; exact hH
  refine lv_aload_n (pc := 144) hx hb dX7_init_144 rfl (lv_at hl 0 rfl) ?_
  refine sx_getR (pc := 145) (j := 2) B hH hk_10 coX7 rfl w_208 rfl dX7_init_145 ?_
  refine W.eq (g2 := F0 m 148 ls [va_rf (R_11 th 2)]) rfl ?_
  refine sx_nonnull (x := a_20) ha_20 ?_
  refine lv_bipush (pc := 148) (v := 7) hx hb dX7_init_148 (by decide) ?_
  refine sx_ldcS (pc := 150) 7 B (by decide) rfl rfl dX7_init_150 ?_
  refine sx_S (pc := 152) (As := [.ref (G.2.2.1 7)]) (rest := [.int 7, .ref a_20]) B hH hl.1 (C_X7_wordOf G l 7 _ _ hp) mi_X7_wordOf w_143 w_142 rfl rfl ⟨Nat.le_of_ble_eq_true rfl, Nat.le_of_ble_eq_true rfl⟩ (Nat.le_of_ble_eq_true rfl) ⟨(show _ + 0 ≤ bc by omega), (show _ + 0 ≤ bs by omega)⟩ dX7_init_152 (fun v S1 H locs hq hH => ?_)
  obtain ⟨r_43, rfl, e9, hp⟩ := hq
  rw [e9] at hH
  refine W.eq (g2 := F0 m 155 ls [.long r_43, .int 7, .ref a_20]) rfl ?_
  obtain ⟨hn_44, hp⟩ := hp
  obtain ⟨J_45, eJ_45⟩ : ∃ z : Nat → Nat → Int64, z = upJ J_42 a_20 7 r_43 := ⟨_, rfl⟩
  have hp := hp J_45 eJ_45
  refine sx_last (pc := 155) B hH hk_22 hn_44 dX7_init_155 (fun H locs hH => ?_)
  have hH : Hp G (FA S s.heap.size) s.heap (wA S_7 F_19 J_45 R_11) H locs := by rw [eJ_45]; exact hH
  refine lv_aload_n (pc := 156) hx hb dX7_init_156 rfl (lv_at hl 0 rfl) ?_
  refine sx_getR (pc := 157) (j := 2) B hH hk_10 coX7 rfl w_208 rfl dX7_init_157 ?_
  refine W.eq (g2 := F0 m 160 ls [va_rf (R_11 th 2)]) rfl ?_
  refine sx_nonnull (x := a_20) ha_20 ?_
  refine lv_bipush (pc := 160) (v := 8) hx hb dX7_init_160 (by decide) ?_
  refine sx_ldcS (pc := 162) 8 B (by decide) rfl rfl dX7_init_162 ?_
  refine sx_S (pc := 164) (As := [.ref (G.2.2.1 8)]) (rest := [.int 8, .ref a_20]) B hH hl.1 (C_X7_wordOf G l 8 _ _ hp) mi_X7_wordOf w_143 w_142 rfl rfl ⟨Nat.le_of_ble_eq_true rfl, Nat.le_of_ble_eq_true rfl⟩ (Nat.le_of_ble_eq_true rfl) ⟨(show _ + 0 ≤ bc by omega), (show _ + 0 ≤ bs by omega)⟩ dX7_init_164 (fun v S1 H locs hq hH => ?_)
  obtain ⟨r_46, rfl, e9, hp⟩ := hq
  rw [e9] at hH
  refine W.eq (g2 := F0 m 167 ls [.long r_46, .int 8, .ref a_20]) rfl ?_
  obtain ⟨hn_47, hp⟩ := hp
  obtain ⟨J_48, eJ_48⟩ : ∃ z : Nat → Nat → Int64, z = upJ J_45 a_20 8 r_46 := ⟨_, rfl⟩
  have hp := hp J_48 eJ_48
  refine sx_last (pc := 167) B hH hk_22 hn_47 dX7_init_167 (fun H locs hH => ?_)
  have hH : Hp G (FA S s.heap.size) s.heap (wA S_7 F_19 J_48 R_11) H locs := by rw [eJ_48]; exact hH
  refine lv_aload_n (pc := 168) hx hb dX7_init_168 rfl (lv_at hl 0 rfl) ?_
  refine sx_getR (pc := 169) (j := 2) B hH hk_10 coX7 rfl w_208 rfl dX7_init_169 ?_
  refine W.eq (g2 := F0 m 172 ls [va_rf (R_11 th 2)]) rfl ?_
  refine sx_nonnull (x := a_20) ha_20 ?_
  refine lv_bipush (pc := 172) (v := 9) hx hb dX7_init_172 (by decide) ?_
  refine sx_ldcS (pc := 174) 9 B (by decide) rfl rfl dX7_init_174 ?_
  refine sx_S (pc := 176) (As := [.ref (G.2.2.1 9)]) (rest := [.int 9, .ref a_20]) B hH hl.1 (C_X7_wordOf G l 9 _ _ hp) mi_X7_wordOf w_143 w_142 rfl rfl ⟨Nat.le_of_ble_eq_true rfl, Nat.le_of_ble_eq_true rfl⟩ (Nat.le_of_ble_eq_true rfl) ⟨(show _ + 0 ≤ bc by omega), (show _ + 0 ≤ bs by omega)⟩ dX7_init_176 (fun v S1 H locs hq hH => ?_)
  obtain ⟨r_49, rfl, e9, hp⟩ := hq
  rw [e9] at hH
  refine W.eq (g2 := F0 m 179 ls [.long r_49, .int 9, .ref a_20]) rfl ?_
  obtain ⟨hn_50, hp⟩ := hp
  obtain ⟨J_51, eJ_51⟩ : ∃ z : Nat → Nat → Int64, z = upJ J_48 a_20 9 r_49 := ⟨_, rfl⟩
  have hp := hp J_51 eJ_51
  refine sx_last (pc := 179) B hH hk_22 hn_50 dX7_init_179 (fun H locs hH => ?_)
  have hH : Hp G (FA S s.heap.size) s.heap (wA S_7 F_19 J_51 R_11) H locs := by rw [eJ_51]; exact hH
  refine lv_aload_n (pc := 180) hx hb dX7_init_180 rfl (lv_at hl 0 rfl) ?_
  refine sx_getR (pc := 181) (j := 2) B hH hk_10 coX7 rfl w_208 rfl dX7_init_181 ?_
  refine W.eq (g2 := F0 m 184 ls [va_rf (R_11 th 2)]) rfl ?_
  refine sx_nonnull (x := a_20) ha_20 ?_
  refine lv_bipush (pc := 184) (v := 10) hx hb dX7_init_184 (by decide) ?_
  refine sx_ldcS (pc := 186) 10 B (by decide) rfl rfl dX7_init_186 ?_
  refine sx_S (pc := 188) (As := [.ref (G.2.2.1 10)]) (rest := [.int 10, .ref a_20]) B hH hl.1 (C_X7_wordOf G l 10 _ _ hp) mi_X7_wordOf w_143 w_142 rfl rfl ⟨Nat.le_of_ble_eq_true rfl, Nat.le_of_ble_eq_true rfl⟩ (Nat.le_of_ble_eq_true rfl) ⟨(show _ + 0 ≤ bc by omega), (show _ + 0 ≤ bs by omega)⟩ dX7_init_188 (fun v S1 H locs hq hH => ?_)
  obtain ⟨r_52, rfl, e9, hp⟩ := hq
  rw [e9] at hH
  refine W.eq (g2 := F0 m 191 ls [.long r_52, .int 10, .ref a_20]) rfl ?_
  obtain ⟨hn_53, hp⟩ := hp
  obtain ⟨J_54, eJ_54⟩ : ∃ z : Nat → Nat → Int64, z = upJ J_51 a_20 10 r_52 := ⟨_, rfl⟩
  have hp := hp J_54 eJ_54
  refine sx_last (pc := 191) B hH hk_22 hn_53 dX7_init_191 (fun H locs hH => ?_)
  have hH : Hp G (FA S s.heap.size) s.heap (wA S_7 F_19 J_54 R_11) H locs := by rw [eJ_54]; exact hH
  refine lv_aload_n (pc := 192) hx hb dX7_init_192 rfl (lv_at hl 0 rfl) ?_
  refine sx_getR (pc := 193) (j := 2) B hH hk_10 coX7 rfl w_208 rfl dX7_init_193 ?_
  refine W.eq (g2 := F0 m 196 ls [va_rf (R_11 th 2)]) rfl ?_
  refine sx_nonnull (x := a_20) ha_20 ?_
  refine lv_bipush (pc := 196) (v := 11) hx hb dX7_init_196 (by decide) ?_
  refine sx_ldcS (pc := 198) 11 B (by decide) rfl rfl dX7_init_198 ?_
  refine sx_S (pc := 200) (As := [.ref (G.2.2.1 11)]) (rest := [.int 11, .ref a_20]) B hH hl.1 (C_X7_wordOf G l 11 _ _ hp) mi_X7_wordOf w_143 w_142 rfl rfl ⟨Nat.le_of_ble_eq_true rfl, Nat.le_of_ble_eq_true rfl⟩ (Nat.le_of_ble_eq_true rfl) ⟨(show _ + 0 ≤ bc by omega), (show _ + 0 ≤ bs by omega)⟩ dX7_init_200 (fun v S1 H locs hq hH => ?_)
  obtain ⟨r_55, rfl, e9, hp⟩ := hq
  rw [e9] at hH
  refine W.eq (g2 := F0 m 203 ls [.long r_55, .int 11, .ref a_20]) rfl ?_
  obtain ⟨hn_56, hp⟩ := hp
  obtain ⟨J_57, eJ_57⟩ : ∃ z : Nat → Nat → Int64, z = upJ J_54 a_20 11 r_55 := ⟨_, rfl⟩
  have hp := hp J_57 eJ_57
  refine sx_last (pc := 203) B hH hk_22 hn_56 dX7_init_203 (fun H locs hH => ?_)
  have hH : Hp G (FA S s.heap.size) s.heap (wA S_7 F_19 J_57 R_11) H locs := by rw [eJ_57]; exact hH
  exact sx_vret (pc := 204) B hH hr hlk (by rw [← hQQ]; exact ⟨rfl, hp⟩) (show _ ≤ bc by omega) (show _ ≤ bs by omega) dX7_init_204
theorem dX4_allBells_0 : decode cX4_allBells 0 = .ok (.iconst 1, 1) := by decide +kernel
theorem dX4_allBells_1 : decode cX4_allBells 1 = .ok (.iload_n 0, 1) := by decide +kernel
theorem dX4_allBells_2 : decode cX4_allBells 2 = .ok (.ishl, 1) := by decide +kernel
theorem dX4_allBells_3 : decode cX4_allBells 3 = .ok (.iconst 1, 1) := by decide +kernel
theorem dX4_allBells_4 : decode cX4_allBells 4 = .ok (.isub, 1) := by decide +kernel
theorem dX4_allBells_5 : decode cX4_allBells 5 = .ok (.ireturn, 1) := by decide +kernel
theorem mi_X4_allBells : MI yX4_allBells cX4_allBells 1 (some FieldType.int) 1 := ⟨w_341, w_114, by decide +kernel, by decide +kernel, by decide +kernel⟩
set_option maxRecDepth 100000 in
set_option maxHeartbeats 4000000 in
theorem C_X4_allBells (G : GG) (l : Launch) (p0 : Int32) (S : St) (Q : Int32 → Prop) (hp : P_X4_allBells p0 Q) : Ctr G l yX4_allBells cX4_allBells 1 (some FieldType.int) 0 0 0 0 [.int p0] S (fun (v : Option Value) (S9 : St) => ∃ (r : Int32), v = some (.int r) ∧ S9 = S ∧ Q r ) := by
  generalize hQQ : (fun (v : Option Value) (S9 : St) => ∃ (r : Int32), v = some (.int r) ∧ S9 = S ∧ Q r ) = QQ
  unfold P_X4_allBells at hp
  refine Ctr.of (by decide) (Nat.le_of_ble_eq_true rfl) ?_
  intro p e s m args below meth c ls B hr hlk hin hl hH
  generalize hlocs0 : ([] : List Loc) = locs at hH ⊢
  have hx := B.1
  have hb := B.2.1
  have hl : lv_has ls 1 [(0, .int p0)] := hl
  refine lv_iconst (pc := 0) (v := 1) hx hb dX4_allBells_0 (by decide) ?_
  refine lv_iload_n (pc := 1) hx hb dX4_allBells_1 rfl (lv_at hl 0 rfl) ?_
  refine lv_ishl (pc := 2) hx hb dX4_allBells_2 ?_
  refine W.eq (g2 := F0 m 3 ls [.int (shl 1 p0)]) rfl ?_
  refine lv_iconst (pc := 3) (v := 1) hx hb dX4_allBells_3 (by decide) ?_
  refine lv_isub (pc := 4) hx hb dX4_allBells_4 ?_
  exact sx_iret (pc := 5) B hH hr hlk (by rw [← hQQ]; exact ⟨_, rfl, rfl, hp⟩) (Nat.le_of_ble_eq_true rfl) (Nat.le_of_ble_eq_true rfl) dX4_allBells_5
theorem dX4_many_0 : decode cX4_many 0 = .ok (.iload_n 0, 1) := by decide +kernel
theorem dX4_many_1 : decode cX4_many 1 = .ok (.ifCond .lt 19, 3) := by decide +kernel
theorem dX4_many_4 : decode cX4_many 4 = .ok (.iload_n 0, 1) := by decide +kernel
theorem dX4_many_5 : decode cX4_many 5 = .ok (.getstatic 9, 3) := by decide +kernel
theorem dX4_many_8 : decode cX4_many 8 = .ok (.arraylength, 1) := by decide +kernel
theorem dX4_many_9 : decode cX4_many 9 = .ok (.if_icmp .ge 11, 3) := by decide +kernel
theorem dX4_many_12 : decode cX4_many 12 = .ok (.getstatic 9, 3) := by decide +kernel
theorem dX4_many_15 : decode cX4_many 15 = .ok (.iload_n 0, 1) := by decide +kernel
theorem dX4_many_16 : decode cX4_many 16 = .ok (.iaload, 1) := by decide +kernel
theorem dX4_many_17 : decode cX4_many 17 = .ok (.goto 4, 3) := by decide +kernel
theorem dX4_many_20 : decode cX4_many 20 = .ok (.iconst 0, 1) := by decide +kernel
theorem dX4_many_21 : decode cX4_many 21 = .ok (.ireturn, 1) := by decide +kernel
theorem mi_X4_many : MI yX4_many cX4_many 1 (some FieldType.int) 1 := ⟨w_349, w_114, by decide +kernel, by decide +kernel, by decide +kernel⟩
set_option maxRecDepth 100000 in
set_option maxHeartbeats 4000000 in
theorem C_X4_many (G : GG) (l : Launch) (p0 : Int32) (S : St) (Q : Int32 → Prop) (hp : P_X4_many p0 Q) : Ctr G l yX4_many cX4_many 1 (some FieldType.int) 0 0 0 0 [.int p0] S (fun (v : Option Value) (S9 : St) => ∃ (r : Int32), v = some (.int r) ∧ S9 = S ∧ Q r ) := by
  generalize hQQ : (fun (v : Option Value) (S9 : St) => ∃ (r : Int32), v = some (.int r) ∧ S9 = S ∧ Q r ) = QQ
  unfold P_X4_many at hp
  refine Ctr.of (by decide) (Nat.le_of_ble_eq_true rfl) ?_
  intro p e s m args below meth c ls B hr hlk hin hl hH
  generalize hlocs0 : ([] : List Loc) = locs at hH ⊢
  have hx := B.1
  have hb := B.2.1
  have hl : lv_has ls 1 [(0, .int p0)] := hl
  refine lv_iload_n (pc := 0) hx hb dX4_many_0 rfl (lv_at hl 0 rfl) ?_
  refine lv_if_lt (pc := 1) (tgt := 20) hx hb dX4_many_1 (by decide) (fun cc_1 => ?_) (fun cc_1 => ?_)
  · have hp := hp.1 cc_1
    refine lv_iconst (pc := 20) (v := 0) hx hb dX4_many_20 (by decide) ?_
    exact sx_iret (pc := 21) B hH hr hlk (by rw [← hQQ]; exact ⟨_, rfl, rfl, hp⟩) (Nat.le_of_ble_eq_true rfl) (Nat.le_of_ble_eq_true rfl) dX4_many_21
  · have hp := hp.2 cc_1
    refine lv_iload_n (pc := 4) hx hb dX4_many_4 rfl (lv_at hl 0 rfl) ?_
    refine sx_fac (pc := 5) B hH w_350 dX4_many_5 ?_
    refine sx_facLen (pc := 8) B hH dX4_many_8 ?_
    refine lv_icmp_ge (pc := 9) (tgt := 20) hx hb dX4_many_9 (by decide) (fun cc_2 => ?_) (fun cc_2 => ?_)
    · have hp := hp.1 cc_2
      refine lv_iconst (pc := 20) (v := 0) hx hb dX4_many_20 (by decide) ?_
      exact sx_iret (pc := 21) B hH hr hlk (by rw [← hQQ]; exact ⟨_, rfl, rfl, hp⟩) (Nat.le_of_ble_eq_true rfl) (Nat.le_of_ble_eq_true rfl) dX4_many_21
    · have hp := hp.2 cc_2
      refine sx_fac (pc := 12) B hH w_350 dX4_many_12 ?_
      refine lv_iload_n (pc := 15) hx hb dX4_many_15 rfl (lv_at hl 0 rfl) ?_
      obtain ⟨hc_3, hp⟩ := hp
      refine sx_facAt (pc := 16) B hH hc_3 dX4_many_16 ?_
      refine lv_goto (pc := 17) (tgt := 21) hx hb dX4_many_17 (by decide) ?_
      exact sx_iret (pc := 21) B hH hr hlk (by rw [← hQQ]; exact ⟨_, rfl, rfl, hp⟩) (Nat.le_of_ble_eq_true rfl) (Nat.le_of_ble_eq_true rfl) dX4_many_21
theorem dX10_init_0 : decode cX10_init 0 = .ok (.aload_n 0, 1) := by decide +kernel
theorem dX10_init_1 : decode cX10_init 1 = .ok (.invokespecial 1, 3) := by decide +kernel
theorem dX10_init_4 : decode cX10_init 4 = .ok (.aload_n 0, 1) := by decide +kernel
theorem dX10_init_5 : decode cX10_init 5 = .ok (.iload_n 1, 1) := by decide +kernel
theorem dX10_init_6 : decode cX10_init 6 = .ok (.putfield 7, 3) := by decide +kernel
theorem dX10_init_9 : decode cX10_init 9 = .ok (.aload_n 0, 1) := by decide +kernel
theorem dX10_init_10 : decode cX10_init 10 = .ok (.iload_n 2, 1) := by decide +kernel
theorem dX10_init_11 : decode cX10_init 11 = .ok (.newarray .long, 2) := by decide +kernel
theorem dX10_init_13 : decode cX10_init 13 = .ok (.putfield 13, 3) := by decide +kernel
theorem dX10_init_16 : decode cX10_init 16 = .ok (.return_, 1) := by decide +kernel
theorem mi_X10_init : MI yX10_init cX10_init 3 (none : Option Jvm.ClassFile.FieldType) 2 := ⟨w_534, w_119, by decide +kernel, by decide +kernel, by decide +kernel⟩
set_option maxRecDepth 100000 in
set_option maxHeartbeats 4000000 in
theorem C_X10_init (G : GG) (l : Launch) (th : Nat) (p0 : Int32) (p1 : Int32) (S : St) (bc bs : Nat) (Q : St → Prop) (hp : P_X10_init th p0 p1 S bc bs Q) : Ctr G l yX10_init cX10_init 3 (none : Option Jvm.ClassFile.FieldType) 1 20 bc bs [.ref th, .int p0, .int p1] S (fun (v : Option Value) (S9 : St) => v = none ∧ Q S9) := by
  generalize hQQ : (fun (v : Option Value) (S9 : St) => v = none ∧ Q S9) = QQ
  unfold P_X10_init at hp
  refine Ctr.of (by decide) (Nat.le_of_ble_eq_true rfl) ?_
  intro p e s m args below meth c ls B hr hlk hin hl hH
  generalize hlocs0 : ([] : List Loc) = locs at hH ⊢
  have hx := B.1
  have hb := B.2.1
  have hl : lv_has ls 3 [(0, .ref th), (1, .int p0), (2, .int p1)] := hl
  obtain ⟨hk_th, hp⟩ := hp
  refine lv_aload_n (pc := 0) hx hb dX10_init_0 rfl (lv_at hl 0 rfl) ?_
  refine sx_objInit (pc := 1) (rest := []) B hl.1 w_535 w_131 w_obj (Nat.le_of_ble_eq_true rfl) (Nat.le_of_ble_eq_true rfl) dX10_init_1 ?_
  refine W.eq (g2 := F0 m 4 ls []) rfl ?_
  refine lv_aload_n (pc := 4) hx hb dX10_init_4 rfl (lv_at hl 0 rfl) ?_
  refine lv_iload_n (pc := 5) hx hb dX10_init_5 rfl (lv_at hl 1 rfl) ?_
  obtain ⟨F_1, eF_1⟩ : ∃ z : Nat → Nat → Int32, z = upI (gI S) th 0 p0 := ⟨_, rfl⟩
  have hp := hp F_1 eF_1
  refine sx_putI (pc := 6) (j := 0) B hH hk_th coX10 rfl w_536 rfl (Or.inr ⟨rfl, hin, rfl⟩) rfl dX10_init_6 (fun H locs hH => ?_)
  have hH : Hp G (FA S s.heap.size) s.heap (wI S F_1) H locs := by rw [eF_1]; exact hH
  refine lv_aload_n (pc := 9) hx hb dX10_init_9 rfl (lv_at hl 0 rfl) ?_
  refine lv_iload_n (pc := 10) hx hb dX10_init_10 rfl (lv_at hl 2 rfl) ?_
  obtain ⟨hc_3, hp⟩ := hp
  obtain ⟨hc_4, hp⟩ := hp
  obtain ⟨hc_5, hp⟩ := hp
  obtain ⟨hc_6, hp⟩ := hp
  refine sx_newj (pc := 11) (S := (wI S F_1)) B hH w_248 rfl hc_3 hc_4 (show _ + 1 ≤ bc by omega) (show _ + p1.toNatClampNeg ≤ bs by first | omega | exact (by omega : _ + p1.toNatClampNeg ≤ bs)) dX10_init_11 (fun q_2 H hq_2 hH => ?_)
  obtain ⟨S_2, eS_2⟩ : ∃ z : St, z = alo (wI S F_1) q_2 22 p1.toNatClampNeg := ⟨_, rfl⟩
  have hp := hp q_2 hq_2 S_2 eS_2
  have hH : Hp G (FA S s.heap.size) s.heap S_2 H locs := by rw [eS_2]; exact hH
  have hk_2 : kd S_2 q_2 = 22 := by rw [eS_2]; exact kd_alo
  refine W.eq (g2 := F0 m 13 ls [.ref q_2, .ref th]) rfl ?_
  obtain ⟨hk_7, hp⟩ := hp
  obtain ⟨R_8, eR_8⟩ : ∃ z : Nat → Nat → Option Nat, z = upR (gR S_2) th 1 (some q_2) := ⟨_, rfl⟩
  have hp := hp R_8 eR_8
  refine sx_putR (pc := 13) (j := 1) (x := (some q_2)) B hH hk_7 coX10 rfl w_538 rfl (Or.inr ⟨rfl, hin, rfl⟩) rfl dX10_init_13 (fun H locs hH => ?_)
  have hH : Hp G (FA S s.heap.size) s.heap (wA S_2 (gI S_2) (gJ S_2) R_8) H locs := by rw [eR_8]; exact hH
  exact sx_vret (pc := 16) B hH hr hlk (by rw [← hQQ]; exact ⟨rfl, hp⟩) (show _ ≤ bc by omega) (show _ ≤ bs by omega) dX10_init_16
theorem dX10_has_0 : decode cX10_has 0 = .ok (.iload_n 1, 1) := by decide +kernel
theorem dX10_has_1 : decode cX10_has 1 = .ok (.ifCond .lt 27, 3) := by decide +kernel
theorem dX10_has_4 : decode cX10_has 4 = .ok (.iload_n 1, 1) := by decide +kernel
theorem dX10_has_5 : decode cX10_has 5 = .ok (.aload_n 0, 1) := by decide +kernel
theorem dX10_has_6 : decode cX10_has 6 = .ok (.getfield 13, 3) := by decide +kernel
theorem dX10_has_9 : decode cX10_has 9 = .ok (.arraylength, 1) := by decide +kernel
theorem dX10_has_10 : decode cX10_has 10 = .ok (.if_icmp .gt 18, 3) := by decide +kernel
theorem dX10_has_13 : decode cX10_has 13 = .ok (.iload_n 2, 1) := by decide +kernel
theorem dX10_has_14 : decode cX10_has 14 = .ok (.aload_n 0, 1) := by decide +kernel
theorem dX10_has_15 : decode cX10_has 15 = .ok (.getfield 13, 3) := by decide +kernel
theorem dX10_has_18 : decode cX10_has 18 = .ok (.arraylength, 1) := by decide +kernel
theorem dX10_has_19 : decode cX10_has 19 = .ok (.iload_n 1, 1) := by decide +kernel
theorem dX10_has_20 : decode cX10_has 20 = .ok (.isub, 1) := by decide +kernel
theorem dX10_has_21 : decode cX10_has 21 = .ok (.if_icmp .gt 7, 3) := by decide +kernel
theorem dX10_has_24 : decode cX10_has 24 = .ok (.iconst 1, 1) := by decide +kernel
theorem dX10_has_25 : decode cX10_has 25 = .ok (.goto 4, 3) := by decide +kernel
theorem dX10_has_28 : decode cX10_has 28 = .ok (.iconst 0, 1) := by decide +kernel
theorem dX10_has_29 : decode cX10_has 29 = .ok (.ireturn, 1) := by decide +kernel
theorem mi_X10_has : MI yX10_has cX10_has 3 (some FieldType.boolean) 2 := ⟨w_560, w_119, by decide +kernel, by decide +kernel, by decide +kernel⟩
set_option maxRecDepth 100000 in
set_option maxHeartbeats 4000000 in
theorem C_X10_has (G : GG) (l : Launch) (th : Nat) (p0 : Int32) (p1 : Int32) (S : St) (Q : Int32 → Prop) (hp : P_X10_has th p0 p1 S Q) : Ctr G l yX10_has cX10_has 3 (some FieldType.boolean) 0 0 0 0 [.ref th, .int p0, .int p1] S (fun (v : Option Value) (S9 : St) => ∃ (r : Int32), v = some (.int r) ∧ S9 = S ∧ Q r ) := by
  generalize hQQ : (fun (v : Option Value) (S9 : St) => ∃ (r : Int32), v = some (.int r) ∧ S9 = S ∧ Q r ) = QQ
  unfold P_X10_has at hp
  refine Ctr.of (by decide) (Nat.le_of_ble_eq_true rfl) ?_
  intro p e s m args below meth c ls B hr hlk hin hl hH
  generalize hlocs0 : ([] : List Loc) = locs at hH ⊢
  have hx := B.1
  have hb := B.2.1
  have hl : lv_has ls 3 [(0, .ref th), (1, .int p0), (2, .int p1)] := hl
  obtain ⟨hk_th, hp⟩ := hp
  refine lv_iload_n (pc := 0) hx hb dX10_has_0 rfl (lv_at hl 1 rfl) ?_
  refine lv_if_lt (pc := 1) (tgt := 28) hx hb dX10_has_1 (by decide) (fun cc_1 => ?_) (fun cc_1 => ?_)
  · have hp := hp.1 cc_1
    refine lv_iconst (pc := 28) (v := 0) hx hb dX10_has_28 (by decide) ?_
    exact sx_zret (pc := 29) B hH hr hlk (Or.inl rfl) (by rw [← hQQ]; exact ⟨_, rfl, rfl, hp⟩) (Nat.le_of_ble_eq_true rfl) (Nat.le_of_ble_eq_true rfl) dX10_has_29
  · have hp := hp.2 cc_1
    refine lv_iload_n (pc := 4) hx hb dX10_has_4 rfl (lv_at hl 1 rfl) ?_
    refine lv_aload_n (pc := 5) hx hb dX10_has_5 rfl (lv_at hl 0 rfl) ?_
    refine sx_getR (pc := 6) (j := 1) B hH hk_th coX10 rfl w_538 rfl dX10_has_6 ?_
    refine W.eq (g2 := F0 m 9 ls [va_rf (gR S th 1), .int p0]) rfl ?_
    obtain ⟨a_2, ha_2, hp⟩ := hp
    refine sx_nonnull (x := a_2) ha_2 ?_
    obtain ⟨hk_3, hp⟩ := hp
    refine sx_alen (pc := 9) B hH hk_3 (by decide) (by decide) dX10_has_9 ?_
    refine W.eq (g2 := F0 m 10 ls [.int (nI (ln S a_2)), .int p0]) rfl ?_
    refine lv_icmp_gt (pc := 10) (tgt := 28) hx hb dX10_has_10 (by decide) (fun cc_4 => ?_) (fun cc_4 => ?_)
    · have hp := hp.1 cc_4
      refine lv_iconst (pc := 28) (v := 0) hx hb dX10_has_28 (by decide) ?_
      exact sx_zret (pc := 29) B hH hr hlk (Or.inl rfl) (by rw [← hQQ]; exact ⟨_, rfl, rfl, hp⟩) (Nat.le_of_ble_eq_true rfl) (Nat.le_of_ble_eq_true rfl) dX10_has_29
    · have hp := hp.2 cc_4
      refine lv_iload_n (pc := 13) hx hb dX10_has_13 rfl (lv_at hl 2 rfl) ?_
      refine lv_aload_n (pc := 14) hx hb dX10_has_14 rfl (lv_at hl 0 rfl) ?_
      refine sx_getR (pc := 15) (j := 1) B hH hk_th coX10 rfl w_538 rfl dX10_has_15 ?_
      refine W.eq (g2 := F0 m 18 ls [va_rf (gR S th 1), .int p1]) rfl ?_
      refine sx_nonnull (x := a_2) ha_2 ?_
      refine sx_alen (pc := 18) B hH hk_3 (by decide) (by decide) dX10_has_18 ?_
      refine W.eq (g2 := F0 m 19 ls [.int (nI (ln S a_2)), .int p1]) rfl ?_
      refine lv_iload_n (pc := 19) hx hb dX10_has_19 rfl (lv_at hl 1 rfl) ?_
      refine lv_isub (pc := 20) hx hb dX10_has_20 ?_
      refine lv_icmp_gt (pc := 21) (tgt := 28) hx hb dX10_has_21 (by decide) (fun cc_5 => ?_) (fun cc_5 => ?_)
      · have hp := hp.1 cc_5
        refine lv_iconst (pc := 28) (v := 0) hx hb dX10_has_28 (by decide) ?_
        exact sx_zret (pc := 29) B hH hr hlk (Or.inl rfl) (by rw [← hQQ]; exact ⟨_, rfl, rfl, hp⟩) (Nat.le_of_ble_eq_true rfl) (Nat.le_of_ble_eq_true rfl) dX10_has_29
      · have hp := hp.2 cc_5
        refine lv_iconst (pc := 24) (v := 1) hx hb dX10_has_24 (by decide) ?_
        refine lv_goto (pc := 25) (tgt := 29) hx hb dX10_has_25 (by decide) ?_
        exact sx_zret (pc := 29) B hH hr hlk (Or.inr rfl) (by rw [← hQQ]; exact ⟨_, rfl, rfl, hp⟩) (Nat.le_of_ble_eq_true rfl) (Nat.le_of_ble_eq_true rfl) dX10_has_29
theorem dX10_cut_0 : decode cX10_cut 0 = .ok (.iload_n 2, 1) := by decide +kernel
theorem dX10_cut_1 : decode cX10_cut 1 = .ok (.tableswitch 41 0 2 #[27, 32, 37], 27) := by decide +kernel
theorem dX10_cut_28 : decode cX10_cut 28 = .ok (.lload_n 0, 1) := by decide +kernel
theorem dX10_cut_29 : decode cX10_cut 29 = .ok (.l2i, 1) := by decide +kernel
theorem dX10_cut_30 : decode cX10_cut 30 = .ok (.i2b, 1) := by decide +kernel
theorem dX10_cut_31 : decode cX10_cut 31 = .ok (.i2l, 1) := by decide +kernel
theorem dX10_cut_32 : decode cX10_cut 32 = .ok (.lreturn, 1) := by decide +kernel
theorem dX10_cut_33 : decode cX10_cut 33 = .ok (.lload_n 0, 1) := by decide +kernel
theorem dX10_cut_34 : decode cX10_cut 34 = .ok (.l2i, 1) := by decide +kernel
theorem dX10_cut_35 : decode cX10_cut 35 = .ok (.i2s, 1) := by decide +kernel
theorem dX10_cut_36 : decode cX10_cut 36 = .ok (.i2l, 1) := by decide +kernel
theorem dX10_cut_37 : decode cX10_cut 37 = .ok (.lreturn, 1) := by decide +kernel
theorem dX10_cut_38 : decode cX10_cut 38 = .ok (.lload_n 0, 1) := by decide +kernel
theorem dX10_cut_39 : decode cX10_cut 39 = .ok (.l2i, 1) := by decide +kernel
theorem dX10_cut_40 : decode cX10_cut 40 = .ok (.i2l, 1) := by decide +kernel
theorem dX10_cut_41 : decode cX10_cut 41 = .ok (.lreturn, 1) := by decide +kernel
theorem dX10_cut_42 : decode cX10_cut 42 = .ok (.lload_n 0, 1) := by decide +kernel
theorem dX10_cut_43 : decode cX10_cut 43 = .ok (.lreturn, 1) := by decide +kernel
theorem mi_X10_cut : MI yX10_cut cX10_cut 3 (some FieldType.long) 2 := ⟨w_563, w_119, by decide +kernel, by decide +kernel, by decide +kernel⟩
set_option maxRecDepth 100000 in
set_option maxHeartbeats 4000000 in
theorem C_X10_cut (G : GG) (l : Launch) (p0 : Int64) (p1 : Int32) (S : St) (Q : Int64 → Prop) (hp : P_X10_cut p0 p1 Q) : Ctr G l yX10_cut cX10_cut 3 (some FieldType.long) 0 0 0 0 [.long p0, .int p1] S (fun (v : Option Value) (S9 : St) => ∃ (r : Int64), v = some (.long r) ∧ S9 = S ∧ Q r ) := by
  generalize hQQ : (fun (v : Option Value) (S9 : St) => ∃ (r : Int64), v = some (.long r) ∧ S9 = S ∧ Q r ) = QQ
  unfold P_X10_cut at hp
  refine Ctr.of (by decide) (Nat.le_of_ble_eq_true rfl) ?_
  intro p e s m args below meth c ls B hr hlk hin hl hH
  generalize hlocs0 : ([] : List Loc) = locs at hH ⊢
  have hx := B.1
  have hb := B.2.1
  have hl : lv_has ls 3 [(0, .long p0), (2, .int p1)] := hl
  refine lv_iload_n (pc := 0) hx hb dX10_cut_0 rfl (lv_at hl 1 rfl) ?_
  by_cases cs_1_0 : p1 = 0
  · have hp := hp.1 cs_1_0
    refine lv_tableIn (pc := 1) (tgt := 28) hx hb dX10_cut_1 (by rw [cs_1_0]; decide) (by rw [cs_1_0]; decide) (by rw [cs_1_0]; rfl) (by decide) ?_
    refine lv_lload_n (pc := 28) hx hb dX10_cut_28 rfl (lv_at hl 0 rfl) ?_
    refine lv_l2i (pc := 29) (v := p0.toInt32) hx hb dX10_cut_29 rfl ?_
    refine lv_i2b (pc := 30) (v := p0.toInt32.toInt8.toInt32) hx hb dX10_cut_30 rfl ?_
    refine lv_i2l (pc := 31) (v := p0.toInt32.toInt8.toInt32.toInt64) hx hb dX10_cut_31 rfl ?_
    exact sx_lret (pc := 32) B hH hr hlk (by rw [← hQQ]; exact ⟨_, rfl, rfl, hp⟩) (Nat.le_of_ble_eq_true rfl) (Nat.le_of_ble_eq_true rfl) dX10_cut_32
  · have hp := hp.2 cs_1_0
    by_cases cs_1_1 : p1 = 1
    · have hp := hp.1 cs_1_1
      refine lv_tableIn (pc := 1) (tgt := 33) hx hb dX10_cut_1 (by rw [cs_1_1]; decide) (by rw [cs_1_1]; decide) (by rw [cs_1_1]; rfl) (by decide) ?_
      refine lv_lload_n (pc := 33) hx hb dX10_cut_33 rfl (lv_at hl 0 rfl) ?_
      refine lv_l2i (pc := 34) (v := p0.toInt32) hx hb dX10_cut_34 rfl ?_
      refine lv_i2s (pc := 35) (v := p0.toInt32.toInt16.toInt32) hx hb dX10_cut_35 rfl ?_
      refine lv_i2l (pc := 36) (v := p0.toInt32.toInt16.toInt32.toInt64) hx hb dX10_cut_36 rfl ?_
      exact sx_lret (pc := 37) B hH hr hlk (by rw [← hQQ]; exact ⟨_, rfl, rfl, hp⟩) (Nat.le_of_ble_eq_true rfl) (Nat.le_of_ble_eq_true rfl) dX10_cut_37
    · have hp := hp.2 cs_1_1
      by_cases cs_1_2 : p1 = 2
      · have hp := hp.1 cs_1_2
        refine lv_tableIn (pc := 1) (tgt := 38) hx hb dX10_cut_1 (by rw [cs_1_2]; decide) (by rw [cs_1_2]; decide) (by rw [cs_1_2]; rfl) (by decide) ?_
        refine lv_lload_n (pc := 38) hx hb dX10_cut_38 rfl (lv_at hl 0 rfl) ?_
        refine lv_l2i (pc := 39) (v := p0.toInt32) hx hb dX10_cut_39 rfl ?_
        refine lv_i2l (pc := 40) (v := p0.toInt32.toInt64) hx hb dX10_cut_40 rfl ?_
        exact sx_lret (pc := 41) B hH hr hlk (by rw [← hQQ]; exact ⟨_, rfl, rfl, hp⟩) (Nat.le_of_ble_eq_true rfl) (Nat.le_of_ble_eq_true rfl) dX10_cut_41
      · have hp := hp.2 cs_1_2
        refine lv_tableOut (pc := 1) (tgt := 42) hx hb dX10_cut_1 (sw_0_2 cs_1_0 cs_1_1 cs_1_2) (by decide) ?_
        refine lv_lload_n (pc := 42) hx hb dX10_cut_42 rfl (lv_at hl 0 rfl) ?_
        exact sx_lret (pc := 43) B hH hr hlk (by rw [← hQQ]; exact ⟨_, rfl, rfl, hp⟩) (Nat.le_of_ble_eq_true rfl) (Nat.le_of_ble_eq_true rfl) dX10_cut_43
theorem dX7_tapeInt_0 : decode cX7_tapeInt 0 = .ok (.bipush 24, 2) := by decide +kernel
theorem dX7_tapeInt_2 : decode cX7_tapeInt 2 = .ok (.istore_n 2, 1) := by decide +kernel
theorem dX7_tapeInt_3 : decode cX7_tapeInt 3 = .ok (.iload_n 2, 1) := by decide +kernel
theorem dX7_tapeInt_4 : decode cX7_tapeInt 4 = .ok (.ifCond .lt 44, 3) := by decide +kernel
theorem dX7_tapeInt_7 : decode cX7_tapeInt 7 = .ok (.aload_n 0, 1) := by decide +kernel
theorem dX7_tapeInt_8 : decode cX7_tapeInt 8 = .ok (.getfield 15, 3) := by decide +kernel
theorem dX7_tapeInt_11 : decode cX7_tapeInt 11 = .ok (.aload_n 0, 1) := by decide +kernel
theorem dX7_tapeInt_12 : decode cX7_tapeInt 12 = .ok (.getfield 9, 3) := by decide +kernel
theorem dX7_tapeInt_15 : decode cX7_tapeInt 15 = .ok (.arraylength, 1) := by decide +kernel
theorem dX7_tapeInt_16 : decode cX7_tapeInt 16 = .ok (.if_icmp .ge 32, 3) := by decide +kernel
theorem dX7_tapeInt_19 : decode cX7_tapeInt 19 = .ok (.aload_n 0, 1) := by decide +kernel
theorem dX7_tapeInt_20 : decode cX7_tapeInt 20 = .ok (.getfield 9, 3) := by decide +kernel
theorem dX7_tapeInt_23 : decode cX7_tapeInt 23 = .ok (.aload_n 0, 1) := by decide +kernel
theorem dX7_tapeInt_24 : decode cX7_tapeInt 24 = .ok (.getfield 15, 3) := by decide +kernel
theorem dX7_tapeInt_27 : decode cX7_tapeInt 27 = .ok (.iload_n 1, 1) := by decide +kernel
theorem dX7_tapeInt_28 : decode cX7_tapeInt 28 = .ok (.iload_n 2, 1) := by decide +kernel
theorem dX7_tapeInt_29 : decode cX7_tapeInt 29 = .ok (.iushr, 1) := by decide +kernel
theorem dX7_tapeInt_30 : decode cX7_tapeInt 30 = .ok (.i2b, 1) := by decide +kernel
theorem dX7_tapeInt_31 : decode cX7_tapeInt 31 = .ok (.bastore, 1) := by decide +kernel
theorem dX7_tapeInt_32 : decode cX7_tapeInt 32 = .ok (.aload_n 0, 1) := by decide +kernel
theorem dX7_tapeInt_33 : decode cX7_tapeInt 33 = .ok (.dup, 1) := by decide +kernel
theorem dX7_tapeInt_34 : decode cX7_tapeInt 34 = .ok (.getfield 15, 3) := by decide +kernel
theorem dX7_tapeInt_37 : decode cX7_tapeInt 37 = .ok (.iconst 1, 1) := by decide +kernel
theorem dX7_tapeInt_38 : decode cX7_tapeInt 38 = .ok (.iadd, 1) := by decide +kernel
theorem dX7_tapeInt_39 : decode cX7_tapeInt 39 = .ok (.putfield 15, 3) := by decide +kernel
theorem dX7_tapeInt_42 : decode cX7_tapeInt 42 = .ok (.iinc 2 (-8), 3) := by decide +kernel
theorem dX7_tapeInt_45 : decode cX7_tapeInt 45 = .ok (.goto (-42), 3) := by decide +kernel
theorem dX7_tapeInt_48 : decode cX7_tapeInt 48 = .ok (.return_, 1) := by decide +kernel
theorem mi_X7_tapeInt : MI yX7_tapeInt cX7_tapeInt 3 (none : Option Jvm.ClassFile.FieldType) 1 := ⟨w_586, w_106, by decide +kernel, by decide +kernel, by decide +kernel⟩
set_option maxRecDepth 100000 in
set_option maxHeartbeats 4000000 in
theorem C_X7_tapeInt (G : GG) (l : Launch) (th : Nat) (p0 : Int32) (S : St) (Q : (Nat → Nat → Int32) → Prop) (hp : P_X7_tapeInt th p0 S Q) : Ctr G l yX7_tapeInt cX7_tapeInt 3 (none : Option Jvm.ClassFile.FieldType) 0 0 0 0 [.ref th, .int p0] S (fun (v : Option Value) (S9 : St) => ∃ (I9 : Nat → Nat → Int32), v = none ∧ S9 = wI S I9 ∧ Q I9) := by
  generalize hQQ : (fun (v : Option Value) (S9 : St) => ∃ (I9 : Nat → Nat → Int32), v = none ∧ S9 = wI S I9 ∧ Q I9) = QQ
  unfold P_X7_tapeInt at hp
  refine Ctr.of (by decide) (Nat.le_of_ble_eq_true rfl) ?_
  intro p e s m args below meth c ls B hr hlk hin hl hH
  generalize hlocs0 : ([] : List Loc) = locs at hH ⊢
  have hx := B.1
  have hb := B.2.1
  have hl : lv_has ls 3 [(0, .ref th), (1, .int p0)] := hl
  obtain ⟨hk_th, hp⟩ := hp
  refine lv_bipush (pc := 0) (v := 24) hx hb dX7_tapeInt_0 (by decide) ?_
  refine lv_istore_n (pc := 2) (lv' := [(2, .int 24), (0, .ref th), (1, .int p0)]) hx hb dX7_tapeInt_2 rfl hl (by decide) rfl (fun ls hl => ?_)
  obtain ⟨I_1, ⟨k0_1, h0_1⟩, hst_1⟩ := hp
  have kl_1 : ∀ (n_1 : Nat) (x2_2 : Int32) (F_3 : Nat → Nat → Int32) (H : Heap) (locs : List Loc) (ls : Array Slot), I_1 n_1 x2_2 F_3 → Hp G (FA S s.heap.size) s.heap (wI S F_3) H locs → lv_has ls 3 [(0, .ref th), (1, .int p0), (2, .int x2_2)] → Wm G p l e { frames := 0, cells := 0, slots := 0, locals := 0 } s m args below meth c S QQ 0 0 H locs 0 0 (F0 m 3 ls []) := by
    intro n_1
    induction n_1 using Nat.strongRecOn with
    | ind n_1 ih_1 =>
      intro x2_2 F_3 H locs ls hq9 hH hl
      have hp := hst_1 n_1 x2_2 F_3 hq9
      refine lv_iload_n (pc := 3) hx hb dX7_tapeInt_3 rfl (lv_at hl 2 rfl) ?_
      refine lv_if_lt (pc := 4) (tgt := 48) hx hb dX7_tapeInt_4 (by decide) (fun cc_4 => ?_) (fun cc_4 => ?_)
      · have hp := hp.1 cc_4
        exact sx_vret (pc := 48) B hH hr hlk (by rw [← hQQ]; exact ⟨F_3, rfl, rfl, hp⟩) (Nat.le_of_ble_eq_true rfl) (Nat.le_of_ble_eq_true rfl) dX7_tapeInt_48
      · have hp := hp.2 cc_4
        refine lv_aload_n (pc := 7) hx hb dX7_tapeInt_7 rfl (lv_at hl 0 rfl) ?_
        refine sx_getI (pc := 8) (j := 1) B hH hk_th coX7 rfl w_206 rfl dX7_tapeInt_8 ?_
        refine W.eq (g2 := F0 m 11 ls [.int (F_3 th 1)]) rfl ?_
        refine lv_aload_n (pc := 11) hx hb dX7_tapeInt_11 rfl (lv_at hl 0 rfl) ?_
        refine sx_getR (pc := 12) (j := 0) B hH hk_th coX7 rfl w_205 rfl dX7_tapeInt_12 ?_
        refine W.eq (g2 := F0 m 15 ls [va_rf (gR S th 0), .int (F_3 th 1)]) rfl ?_
        obtain ⟨a_5, ha_5, hp⟩ := hp
        refine sx_nonnull (x := a_5) ha_5 ?_
        obtain ⟨hk_6, hp⟩ := hp
        refine sx_alen (pc := 15) B hH hk_6 (by decide) (by decide) dX7_tapeInt_15 ?_
        refine W.eq (g2 := F0 m 16 ls [.int (nI (ln S a_5)), .int (F_3 th 1)]) rfl ?_
        refine lv_icmp_ge (pc := 16) (tgt := 48) hx hb dX7_tapeInt_16 (by decide) (fun cc_7 => ?_) (fun cc_7 => ?_)
        · have hp := hp.1 cc_7
          exact sx_vret (pc := 48) B hH hr hlk (by rw [← hQQ]; exact ⟨F_3, rfl, rfl, hp⟩) (Nat.le_of_ble_eq_true rfl) (Nat.le_of_ble_eq_true rfl) dX7_tapeInt_48
        · have hp := hp.2 cc_7
          refine lv_aload_n (pc := 19) hx hb dX7_tapeInt_19 rfl (lv_at hl 0 rfl) ?_
          refine sx_getR (pc := 20) (j := 0) B hH hk_th coX7 rfl w_205 rfl dX7_tapeInt_20 ?_
          refine W.eq (g2 := F0 m 23 ls [va_rf (gR S th 0)]) rfl ?_
          refine sx_nonnull (x := a_5) ha_5 ?_
          refine lv_aload_n (pc := 23) hx hb dX7_tapeInt_23 rfl (lv_at hl 0 rfl) ?_
          refine sx_getI (pc := 24) (j := 1) B hH hk_th coX7 rfl w_206 rfl dX7_tapeInt_24 ?_
          refine W.eq (g2 := F0 m 27 ls [.int (F_3 th 1), .ref a_5]) rfl ?_
          refine lv_iload_n (pc := 27) hx hb dX7_tapeInt_27 rfl (lv_at hl 1 rfl) ?_
          refine lv_iload_n (pc := 28) hx hb dX7_tapeInt_28 rfl (lv_at hl 2 rfl) ?_
          refine lv_iushr (pc := 29) (v := ushr p0 x2_2) hx hb dX7_tapeInt_29 rfl ?_
          refine lv_i2b (pc := 30) (v := (ushr p0 x2_2).toInt8.toInt32) hx hb dX7_tapeInt_30 rfl ?_
          obtain ⟨hn_8, hp⟩ := hp
          refine lv_topi (fun v_9 ev_9 => ?_)
          have hp := hp v_9 ev_9
          obtain ⟨F_10, eF_10⟩ : ∃ z : Nat → Nat → Int32, z = upI F_3 a_5 ((F_3 th 1).toNatClampNeg) v_9.toInt8.toInt32 := ⟨_, rfl⟩
          have hp := hp F_10 eF_10
          refine sx_bast (pc := 31) B hH hk_6 hn_8 dX7_tapeInt_31 (fun H locs hH => ?_)
          have hH : Hp G (FA S s.heap.size) s.heap (wI S F_10) H locs := by rw [eF_10]; exact hH
          refine lv_aload_n (pc := 32) hx hb dX7_tapeInt_32 rfl (lv_at hl 0 rfl) ?_
          refine lv_dup (pc := 33) hx hb dX7_tapeInt_33 rfl ?_
          refine sx_getI (pc := 34) (j := 1) B hH hk_th coX7 rfl w_206 rfl dX7_tapeInt_34 ?_
          refine W.eq (g2 := F0 m 37 ls [.int (F_10 th 1), .ref th]) rfl ?_
          refine lv_iconst (pc := 37) (v := 1) hx hb dX7_tapeInt_37 (by decide) ?_
          refine lv_iadd (pc := 38) hx hb dX7_tapeInt_38 ?_
          refine lv_topi (fun v_11 ev_11 => ?_)
          have hp := hp v_11 ev_11
          obtain ⟨F_12, eF_12⟩ : ∃ z : Nat → Nat → Int32, z = upI F_10 th 1 v_11 := ⟨_, rfl⟩
          have hp := hp F_12 eF_12
          refine sx_putI (pc := 39) (j := 1) B hH hk_th coX7 rfl w_206 rfl (Or.inl rfl) rfl dX7_tapeInt_39 (fun H locs hH => ?_)
          have hH : Hp G (FA S s.heap.size) s.heap (wI S F_12) H locs := by rw [eF_12]; exact hH
          obtain ⟨v_13, ev_13⟩ : ∃ y : Int32, y = x2_2 + (-8) := ⟨_, rfl⟩
          have hp := hp v_13 ev_13
          refine lv_iinc (pc := 42) (v := v_13) (lv' := [(2, .int v_13), (0, .ref th), (1, .int p0)]) hx hb dX7_tapeInt_42 hl (k := 2) rfl (by rw [ev_13]; rfl) (by decide) rfl (fun ls hl => ?_)
          refine lv_goto (pc := 45) (tgt := 3) hx hb dX7_tapeInt_45 (by decide) ?_
          obtain ⟨k9, hlt9, hp⟩ := hp
          exact ih_1 k9 hlt9 _ _ _ _ _ hp hH (lv_sub hl [1, 2, 0] rfl)
  exact kl_1 k0_1 _ _ _ _ _ h0_1 hH (lv_sub hl [1, 2, 0] rfl)
theorem dX7_isLetter_0 : decode cX7_isLetter 0 = .ok (.aload_n 0, 1) := by decide +kernel
theorem dX7_isLetter_1 : decode cX7_isLetter 1 = .ok (.getfield 9, 3) := by decide +kernel
theorem dX7_isLetter_4 : decode cX7_isLetter 4 = .ok (.iload_n 1, 1) := by decide +kernel
theorem dX7_isLetter_5 : decode cX7_isLetter 5 = .ok (.baload, 1) := by decide +kernel
theorem dX7_isLetter_6 : decode cX7_isLetter 6 = .ok (.bipush 97, 2) := by decide +kernel
theorem dX7_isLetter_8 : decode cX7_isLetter 8 = .ok (.if_icmp .lt 18, 3) := by decide +kernel
theorem dX7_isLetter_11 : decode cX7_isLetter 11 = .ok (.aload_n 0, 1) := by decide +kernel
theorem dX7_isLetter_12 : decode cX7_isLetter 12 = .ok (.getfield 9, 3) := by decide +kernel
theorem dX7_isLetter_15 : decode cX7_isLetter 15 = .ok (.iload_n 1, 1) := by decide +kernel
theorem dX7_isLetter_16 : decode cX7_isLetter 16 = .ok (.baload, 1) := by decide +kernel
theorem dX7_isLetter_17 : decode cX7_isLetter 17 = .ok (.bipush 122, 2) := by decide +kernel
theorem dX7_isLetter_19 : decode cX7_isLetter 19 = .ok (.if_icmp .gt 7, 3) := by decide +kernel
theorem dX7_isLetter_22 : decode cX7_isLetter 22 = .ok (.iconst 1, 1) := by decide +kernel
theorem dX7_isLetter_23 : decode cX7_isLetter 23 = .ok (.goto 4, 3) := by decide +kernel
theorem dX7_isLetter_26 : decode cX7_isLetter 26 = .ok (.iconst 0, 1) := by decide +kernel
theorem dX7_isLetter_27 : decode cX7_isLetter 27 = .ok (.ireturn, 1) := by decide +kernel
theorem mi_X7_isLetter : MI yX7_isLetter cX7_isLetter 2 (some FieldType.boolean) 1 := ⟨w_609, w_106, by decide +kernel, by decide +kernel, by decide +kernel⟩
set_option maxRecDepth 100000 in
set_option maxHeartbeats 4000000 in
theorem C_X7_isLetter (G : GG) (l : Launch) (th : Nat) (p0 : Int32) (S : St) (Q : Int32 → Prop) (hp : P_X7_isLetter th p0 S Q) : Ctr G l yX7_isLetter cX7_isLetter 2 (some FieldType.boolean) 0 0 0 0 [.ref th, .int p0] S (fun (v : Option Value) (S9 : St) => ∃ (r : Int32), v = some (.int r) ∧ S9 = S ∧ Q r ) := by
  generalize hQQ : (fun (v : Option Value) (S9 : St) => ∃ (r : Int32), v = some (.int r) ∧ S9 = S ∧ Q r ) = QQ
  unfold P_X7_isLetter at hp
  refine Ctr.of (by decide) (Nat.le_of_ble_eq_true rfl) ?_
  intro p e s m args below meth c ls B hr hlk hin hl hH
  generalize hlocs0 : ([] : List Loc) = locs at hH ⊢
  have hx := B.1
  have hb := B.2.1
  have hl : lv_has ls 2 [(0, .ref th), (1, .int p0)] := hl
  obtain ⟨hk_th, hp⟩ := hp
  refine lv_aload_n (pc := 0) hx hb dX7_isLetter_0 rfl (lv_at hl 0 rfl) ?_
  refine sx_getR (pc := 1) (j := 0) B hH hk_th coX7 rfl w_205 rfl dX7_isLetter_1 ?_
  refine W.eq (g2 := F0 m 4 ls [va_rf (gR S th 0)]) rfl ?_
  obtain ⟨a_1, ha_1, hp⟩ := hp
  refine sx_nonnull (x := a_1) ha_1 ?_
  refine lv_iload_n (pc := 4) hx hb dX7_isLetter_4 rfl (lv_at hl 1 rfl) ?_
  obtain ⟨hk_2, hp⟩ := hp
  obtain ⟨hn_3, hp⟩ := hp
  refine sx_bald (pc := 5) B hH hk_2 hn_3 dX7_isLetter_5 ?_
  refine W.eq (g2 := F0 m 6 ls [.int (gI S a_1 p0.toNatClampNeg)]) rfl ?_
  refine lv_bipush (pc := 6) (v := 97) hx hb dX7_isLetter_6 (by decide) ?_
  refine lv_icmp_lt (pc := 8) (tgt := 26) hx hb dX7_isLetter_8 (by decide) (fun cc_4 => ?_) (fun cc_4 => ?_)
  · have hp := hp.1 cc_4
    refine lv_iconst (pc := 26) (v := 0) hx hb dX7_isLetter_26 (by decide) ?_
    exact sx_zret (pc := 27) B hH hr hlk (Or.inl rfl) (by rw [← hQQ]; exact ⟨_, rfl, rfl, hp⟩) (Nat.le_of_ble_eq_true rfl) (Nat.le_of_ble_eq_true rfl) dX7_isLetter_27
  · have hp := hp.2 cc_4
    refine lv_aload_n (pc := 11) hx hb dX7_isLetter_11 rfl (lv_at hl 0 rfl) ?_
    refine sx_getR (pc := 12) (j := 0) B hH hk_th coX7 rfl w_205 rfl dX7_isLetter_12 ?_
    refine W.eq (g2 := F0 m 15 ls [va_rf (gR S th 0)]) rfl ?_
    refine sx_nonnull (x := a_1) ha_1 ?_
    refine lv_iload_n (pc := 15) hx hb dX7_isLetter_15 rfl (lv_at hl 1 rfl) ?_
    refine sx_bald (pc := 16) B hH hk_2 hn_3 dX7_isLetter_16 ?_
    refine W.eq (g2 := F0 m 17 ls [.int (gI S a_1 p0.toNatClampNeg)]) rfl ?_
    refine lv_bipush (pc := 17) (v := 122) hx hb dX7_isLetter_17 (by decide) ?_
    refine lv_icmp_gt (pc := 19) (tgt := 26) hx hb dX7_isLetter_19 (by decide) (fun cc_5 => ?_) (fun cc_5 => ?_)
    · have hp := hp.1 cc_5
      refine lv_iconst (pc := 26) (v := 0) hx hb dX7_isLetter_26 (by decide) ?_
      exact sx_zret (pc := 27) B hH hr hlk (Or.inl rfl) (by rw [← hQQ]; exact ⟨_, rfl, rfl, hp⟩) (Nat.le_of_ble_eq_true rfl) (Nat.le_of_ble_eq_true rfl) dX7_isLetter_27
    · have hp := hp.2 cc_5
      refine lv_iconst (pc := 22) (v := 1) hx hb dX7_isLetter_22 (by decide) ?_
      refine lv_goto (pc := 23) (tgt := 27) hx hb dX7_isLetter_23 (by decide) ?_
      exact sx_zret (pc := 27) B hH hr hlk (Or.inr rfl) (by rw [← hQQ]; exact ⟨_, rfl, rfl, hp⟩) (Nat.le_of_ble_eq_true rfl) (Nat.le_of_ble_eq_true rfl) dX7_isLetter_27
theorem dX7_readWord_0 : decode cX7_readWord 0 = .ok (.aload_n 0, 1) := by decide +kernel
theorem dX7_readWord_1 : decode cX7_readWord 1 = .ok (.lconst 0, 1) := by decide +kernel
theorem dX7_readWord_2 : decode cX7_readWord 2 = .ok (.putfield 38, 3) := by decide +kernel
theorem dX7_readWord_5 : decode cX7_readWord 5 = .ok (.aload_n 0, 1) := by decide +kernel
theorem dX7_readWord_6 : decode cX7_readWord 6 = .ok (.getfield 29, 3) := by decide +kernel
theorem dX7_readWord_9 : decode cX7_readWord 9 = .ok (.aload_n 0, 1) := by decide +kernel
theorem dX7_readWord_10 : decode cX7_readWord 10 = .ok (.getfield 23, 3) := by decide +kernel
theorem dX7_readWord_13 : decode cX7_readWord 13 = .ok (.if_icmp .ge 55, 3) := by decide +kernel
theorem dX7_readWord_16 : decode cX7_readWord 16 = .ok (.aload_n 0, 1) := by decide +kernel
theorem dX7_readWord_17 : decode cX7_readWord 17 = .ok (.aload_n 0, 1) := by decide +kernel
theorem dX7_readWord_18 : decode cX7_readWord 18 = .ok (.getfield 29, 3) := by decide +kernel
theorem dX7_readWord_21 : decode cX7_readWord 21 = .ok (.invokevirtual 84, 3) := by decide +kernel
theorem dX7_readWord_24 : decode cX7_readWord 24 = .ok (.ifCond .eq 44, 3) := by decide +kernel
theorem dX7_readWord_27 : decode cX7_readWord 27 = .ok (.aload_n 0, 1) := by decide +kernel
theorem dX7_readWord_28 : decode cX7_readWord 28 = .ok (.aload_n 0, 1) := by decide +kernel
theorem dX7_readWord_29 : decode cX7_readWord 29 = .ok (.getfield 38, 3) := by decide +kernel
theorem dX7_readWord_32 : decode cX7_readWord 32 = .ok (.ldc2_w 97, 3) := by decide +kernel
theorem dX7_readWord_35 : decode cX7_readWord 35 = .ok (.lmul, 1) := by decide +kernel
theorem dX7_readWord_36 : decode cX7_readWord 36 = .ok (.aload_n 0, 1) := by decide +kernel
theorem dX7_readWord_37 : decode cX7_readWord 37 = .ok (.getfield 9, 3) := by decide +kernel
theorem dX7_readWord_40 : decode cX7_readWord 40 = .ok (.aload_n 0, 1) := by decide +kernel
theorem dX7_readWord_41 : decode cX7_readWord 41 = .ok (.getfield 29, 3) := by decide +kernel
theorem dX7_readWord_44 : decode cX7_readWord 44 = .ok (.baload, 1) := by decide +kernel
theorem dX7_readWord_45 : decode cX7_readWord 45 = .ok (.bipush 97, 2) := by decide +kernel
theorem dX7_readWord_47 : decode cX7_readWord 47 = .ok (.isub, 1) := by decide +kernel
theorem dX7_readWord_48 : decode cX7_readWord 48 = .ok (.iconst 1, 1) := by decide +kernel
theorem dX7_readWord_49 : decode cX7_readWord 49 = .ok (.iadd, 1) := by decide +kernel
theorem dX7_readWord_50 : decode cX7_readWord 50 = .ok (.i2l, 1) := by decide +kernel
theorem dX7_readWord_51 : decode cX7_readWord 51 = .ok (.ladd, 1) := by decide +kernel
theorem dX7_readWord_52 : decode cX7_readWord 52 = .ok (.putfield 38, 3) := by decide +kernel
theorem dX7_readWord_55 : decode cX7_readWord 55 = .ok (.aload_n 0, 1) := by decide +kernel
theorem dX7_readWord_56 : decode cX7_readWord 56 = .ok (.dup, 1) := by decide +kernel
theorem dX7_readWord_57 : decode cX7_readWord 57 = .ok (.getfield 29, 3) := by decide +kernel
theorem dX7_readWord_60 : decode cX7_readWord 60 = .ok (.iconst 1, 1) := by decide +kernel
theorem dX7_readWord_61 : decode cX7_readWord 61 = .ok (.iadd, 1) := by decide +kernel
theorem dX7_readWord_62 : decode cX7_readWord 62 = .ok (.putfield 29, 3) := by decide +kernel
theorem dX7_readWord_65 : decode cX7_readWord 65 = .ok (.goto (-60), 3) := by decide +kernel
theorem dX7_readWord_68 : decode cX7_readWord 68 = .ok (.aload_n 0, 1) := by decide +kernel
theorem dX7_readWord_69 : decode cX7_readWord 69 = .ok (.aload_n 0, 1) := by decide +kernel
theorem dX7_readWord_70 : decode cX7_readWord 70 = .ok (.getfield 29, 3) := by decide +kernel
theorem dX7_readWord_73 : decode cX7_readWord 73 = .ok (.aload_n 0, 1) := by decide +kernel
theorem dX7_readWord_74 : decode cX7_readWord 74 = .ok (.getfield 26, 3) := by decide +kernel
theorem dX7_readWord_77 : decode cX7_readWord 77 = .ok (.isub, 1) := by decide +kernel
theorem dX7_readWord_78 : decode cX7_readWord 78 = .ok (.bipush 8, 2) := by decide +kernel
theorem dX7_readWord_80 : decode cX7_readWord 80 = .ok (.if_icmp .le 7, 3) := by decide +kernel
theorem dX7_readWord_83 : decode cX7_readWord 83 = .ok (.iconst 5, 1) := by decide +kernel
theorem dX7_readWord_84 : decode cX7_readWord 84 = .ok (.goto 4, 3) := by decide +kernel
theorem dX7_readWord_87 : decode cX7_readWord 87 = .ok (.iconst 4, 1) := by decide +kernel
theorem dX7_readWord_88 : decode cX7_readWord 88 = .ok (.putfield 32, 3) := by decide +kernel
theorem dX7_readWord_91 : decode cX7_readWord 91 = .ok (.iconst 0, 1) := by decide +kernel
theorem dX7_readWord_92 : decode cX7_readWord 92 = .ok (.istore_n 1, 1) := by decide +kernel
theorem dX7_readWord_93 : decode cX7_readWord 93 = .ok (.iload_n 1, 1) := by decide +kernel
theorem dX7_readWord_94 : decode cX7_readWord 94 = .ok (.aload_n 0, 1) := by decide +kernel
theorem dX7_readWord_95 : decode cX7_readWord 95 = .ok (.getfield 19, 3) := by decide +kernel
theorem dX7_readWord_98 : decode cX7_readWord 98 = .ok (.arraylength, 1) := by decide +kernel
theorem dX7_readWord_99 : decode cX7_readWord 99 = .ok (.if_icmp .ge 39, 3) := by decide +kernel
theorem dX7_readWord_102 : decode cX7_readWord 102 = .ok (.aload_n 0, 1) := by decide +kernel
theorem dX7_readWord_103 : decode cX7_readWord 103 = .ok (.getfield 32, 3) := by decide +kernel
theorem dX7_readWord_106 : decode cX7_readWord 106 = .ok (.iconst 4, 1) := by decide +kernel
theorem dX7_readWord_107 : decode cX7_readWord 107 = .ok (.if_icmp .ne 31, 3) := by decide +kernel
theorem dX7_readWord_110 : decode cX7_readWord 110 = .ok (.aload_n 0, 1) := by decide +kernel
theorem dX7_readWord_111 : decode cX7_readWord 111 = .ok (.getfield 19, 3) := by decide +kernel
theorem dX7_readWord_114 : decode cX7_readWord 114 = .ok (.iload_n 1, 1) := by decide +kernel
theorem dX7_readWord_115 : decode cX7_readWord 115 = .ok (.laload, 1) := by decide +kernel
theorem dX7_readWord_116 : decode cX7_readWord 116 = .ok (.aload_n 0, 1) := by decide +kernel
theorem dX7_readWord_117 : decode cX7_readWord 117 = .ok (.getfield 38, 3) := by decide +kernel
theorem dX7_readWord_120 : decode cX7_readWord 120 = .ok (.lcmp, 1) := by decide +kernel
theorem dX7_readWord_121 : decode cX7_readWord 121 = .ok (.ifCond .ne 11, 3) := by decide +kernel
theorem dX7_readWord_124 : decode cX7_readWord 124 = .ok (.aload_n 0, 1) := by decide +kernel
theorem dX7_readWord_125 : decode cX7_readWord 125 = .ok (.bipush 6, 2) := by decide +kernel
theorem dX7_readWord_127 : decode cX7_readWord 127 = .ok (.iload_n 1, 1) := by decide +kernel
theorem dX7_readWord_128 : decode cX7_readWord 128 = .ok (.iadd, 1) := by decide +kernel
theorem dX7_readWord_129 : decode cX7_readWord 129 = .ok (.putfield 32, 3) := by decide +kernel
theorem dX7_readWord_132 : decode cX7_readWord 132 = .ok (.iinc 1 1, 3) := by decide +kernel
theorem dX7_readWord_135 : decode cX7_readWord 135 = .ok (.goto (-42), 3) := by decide +kernel
theorem dX7_readWord_138 : decode cX7_readWord 138 = .ok (.return_, 1) := by decide +kernel
theorem mi_X7_readWord : MI yX7_readWord cX7_readWord 2 (none : Option Jvm.ClassFile.FieldType) 0 := ⟨w_613, w_106, by decide +kernel, by decide +kernel, by decide +kernel⟩
set_option maxRecDepth 100000 in
set_option maxHeartbeats 4000000 in
theorem C_X7_readWord (G : GG) (l : Launch) (th : Nat) (S : St) (Q : (Nat → Nat → Int32) → (Nat → Nat → Int64) → Prop) (hp : P_X7_readWord th S Q) : Ctr G l yX7_readWord cX7_readWord 2 (none : Option Jvm.ClassFile.FieldType) 1 21 0 0 [.ref th] S (fun (v : Option Value) (S9 : St) => ∃ (I9 : Nat → Nat → Int32) (J9 : Nat → Nat → Int64), v = none ∧ S9 = wA S I9 J9 (gR S) ∧ Q I9 J9) := by
  generalize hQQ : (fun (v : Option Value) (S9 : St) => ∃ (I9 : Nat → Nat → Int32) (J9 : Nat → Nat → Int64), v = none ∧ S9 = wA S I9 J9 (gR S) ∧ Q I9 J9) = QQ
  unfold P_X7_readWord at hp
  refine Ctr.of (by decide) (Nat.le_of_ble_eq_true rfl) ?_
  intro p e s m args below meth c ls B hr hlk hin hl hH
  generalize hlocs0 : ([] : List Loc) = locs at hH ⊢
  have hx := B.1
  have hb := B.2.1
  have hl : lv_has ls 2 [(0, .ref th)] := hl
  obtain ⟨hk_th, hp⟩ := hp
  refine lv_aload_n (pc := 0) hx hb dX7_readWord_0 rfl (lv_at hl 0 rfl) ?_
  refine lv_lconst (pc := 1) (v := 0) hx hb dX7_readWord_1 (by decide) ?_
  obtain ⟨J_1, eJ_1⟩ : ∃ z : Nat → Nat → Int64, z = upJ (gJ S) th 8 0 := ⟨_, rfl⟩
  have hp := hp J_1 eJ_1
  refine sx_putJ (pc := 2) (j := 8) B hH hk_th coX7 rfl w_217 rfl (Or.inl rfl) rfl dX7_readWord_2 (fun H locs hH => ?_)
  have hH : Hp G (FA S s.heap.size) s.heap (wA S (gI S) J_1 (gR S)) H locs := by rw [eJ_1]; exact hH
  obtain ⟨I_2, ⟨k0_2, h0_2⟩, hst_2⟩ := hp
  have kl_2 : ∀ (n_2 : Nat) (F_3 : Nat → Nat → Int32) (J_4 : Nat → Nat → Int64) (H : Heap) (locs : List Loc) (ls : Array Slot), I_2 n_2 F_3 J_4 → Hp G (FA S s.heap.size) s.heap (wA S F_3 J_4 (gR S)) H locs → lv_has ls 2 [(0, .ref th)] → Wm G p l e { frames := 1, cells := 0, slots := 0, locals := 21 } s m args below meth c S QQ 0 0 H locs 0 0 (F0 m 5 ls []) := by
    intro n_2
    induction n_2 using Nat.strongRecOn with
    | ind n_2 ih_2 =>
      intro F_3 J_4 H locs ls hq9 hH hl
      have hp := hst_2 n_2 F_3 J_4 hq9
      refine lv_aload_n (pc := 5) hx hb dX7_readWord_5 rfl (lv_at hl 0 rfl) ?_
      refine sx_getI (pc := 6) (j := 5) B hH hk_th coX7 rfl w_211 rfl dX7_readWord_6 ?_
      refine W.eq (g2 := F0 m 9 ls [.int (F_3 th 5)]) rfl ?_
      refine lv_aload_n (pc := 9) hx hb dX7_readWord_9 rfl (lv_at hl 0 rfl) ?_
      refine sx_getI (pc := 10) (j := 3) B hH hk_th coX7 rfl w_209 rfl dX7_readWord_10 ?_
      refine W.eq (g2 := F0 m 13 ls [.int (F_3 th 3), .int (F_3 th 5)]) rfl ?_
      obtain ⟨J_6, hj_6, hp⟩ := hp
      have kj_6 : ∀  (H : Heap) (locs : List Loc) (ls : Array Slot), J_6  → Hp G (FA S s.heap.size) s.heap (wA S F_3 J_4 (gR S)) H locs → lv_has ls 2 [(0, .ref th)] → Wm G p l e { frames := 1, cells := 0, slots := 0, locals := 21 } s m args below meth c S QQ 0 0 H locs 0 0 (F0 m 68 ls []) := by
        intro  H locs ls hq9 hH hl
        have hp := hj_6  hq9
        refine lv_aload_n (pc := 68) hx hb dX7_readWord_68 rfl (lv_at hl 0 rfl) ?_
        refine lv_aload_n (pc := 69) hx hb dX7_readWord_69 rfl (lv_at hl 0 rfl) ?_
        refine sx_getI (pc := 70) (j := 5) B hH hk_th coX7 rfl w_211 rfl dX7_readWord_70 ?_
        refine W.eq (g2 := F0 m 73 ls [.int (F_3 th 5), .ref th]) rfl ?_
        refine lv_aload_n (pc := 73) hx hb dX7_readWord_73 rfl (lv_at hl 0 rfl) ?_
        refine sx_getI (pc := 74) (j := 4) B hH hk_th coX7 rfl w_210 rfl dX7_readWord_74 ?_
        refine W.eq (g2 := F0 m 77 ls [.int (F_3 th 4), .int (F_3 th 5), .ref th]) rfl ?_
        refine lv_isub (pc := 77) hx hb dX7_readWord_77 ?_
        refine lv_bipush (pc := 78) (v := 8) hx hb dX7_readWord_78 (by decide) ?_
        obtain ⟨J_8, hj_8, hp⟩ := hp
        have kj_8 : ∀ (t_9 : Int32) (H : Heap) (locs : List Loc) (ls : Array Slot), J_8 t_9 → Hp G (FA S s.heap.size) s.heap (wA S F_3 J_4 (gR S)) H locs → lv_has ls 2 [(0, .ref th)] → Wm G p l e { frames := 1, cells := 0, slots := 0, locals := 21 } s m args below meth c S QQ 0 0 H locs 0 0 (F0 m 88 ls [.int t_9, .ref th]) := by
          intro t_9 H locs ls hq9 hH hl
          have hp := hj_8 t_9 hq9
          obtain ⟨F_10, eF_10⟩ : ∃ z : Nat → Nat → Int32, z = upI F_3 th 6 t_9 := ⟨_, rfl⟩
          have hp := hp F_10 eF_10
          refine sx_putI (pc := 88) (j := 6) B hH hk_th coX7 rfl w_212 rfl (Or.inl rfl) rfl dX7_readWord_88 (fun H locs hH => ?_)
          have hH : Hp G (FA S s.heap.size) s.heap (wA S F_10 J_4 (gR S)) H locs := by rw [eF_10]; exact hH
          refine lv_iconst (pc := 91) (v := 0) hx hb dX7_readWord_91 (by decide) ?_
          refine lv_istore_n (pc := 92) (lv' := [(1, .int 0), (0, .ref th)]) hx hb dX7_readWord_92 rfl hl (by decide) rfl (fun ls hl => ?_)
          obtain ⟨I_11, ⟨k0_11, h0_11⟩, hst_11⟩ := hp
          have kl_11 : ∀ (n_11 : Nat) (x1_12 : Int32) (F_13 : Nat → Nat → Int32) (H : Heap) (locs : List Loc) (ls : Array Slot), I_11 n_11 x1_12 F_13 → Hp G (FA S s.heap.size) s.heap (wA S F_13 J_4 (gR S)) H locs → lv_has ls 2 [(0, .ref th), (1, .int x1_12)] → Wm G p l e { frames := 1, cells := 0, slots := 0, locals := 21 } s m args below meth c S QQ 0 0 H locs 0 0 (F0 m 93 ls []) := by
            intro n_11
            induction n_11 using Nat.strongRecOn with
            | ind n_11 ih_11 =>
              intro x1_12 F_13 H locs ls hq9 hH hl
              have hp := hst_11 n_11 x1_12 F_13 hq9
              refine lv_iload_n (pc := 93) hx hb dX7_readWord_93 rfl (lv_at hl 1 rfl) ?_
              refine lv_aload_n (pc := 94) hx hb dX7_readWord_94 rfl (lv_at hl 0 rfl) ?_
              refine sx_getR (pc := 95) (j := 2) B hH hk_th coX7 rfl w_208 rfl dX7_readWord_95 ?_
              refine W.eq (g2 := F0 m 98 ls [va_rf (gR S th 2), .int x1_12]) rfl ?_
              obtain ⟨a_14, ha_14, hp⟩ := hp
              refine sx_nonnull (x := a_14) ha_14 ?_
              obtain ⟨hk_15, hp⟩ := hp
              refine sx_alen (pc := 98) B hH hk_15 (by decide) (by decide) dX7_readWord_98 ?_
              refine W.eq (g2 := F0 m 99 ls [.int (nI (ln S a_14)), .int x1_12]) rfl ?_
              refine lv_icmp_ge (pc := 99) (tgt := 138) hx hb dX7_readWord_99 (by decide) (fun cc_16 => ?_) (fun cc_16 => ?_)
              · have hp := hp.1 cc_16
                exact sx_vret (pc := 138) B hH hr hlk (by rw [← hQQ]; exact ⟨F_13, J_4, rfl, rfl, hp⟩) (Nat.le_of_ble_eq_true rfl) (Nat.le_of_ble_eq_true rfl) dX7_readWord_138
              · have hp := hp.2 cc_16
                refine lv_aload_n (pc := 102) hx hb dX7_readWord_102 rfl (lv_at hl 0 rfl) ?_
                refine sx_getI (pc := 103) (j := 6) B hH hk_th coX7 rfl w_212 rfl dX7_readWord_103 ?_
                refine W.eq (g2 := F0 m 106 ls [.int (F_13 th 6)]) rfl ?_
                refine lv_iconst (pc := 106) (v := 4) hx hb dX7_readWord_106 (by decide) ?_
                refine lv_icmp_ne (pc := 107) (tgt := 138) hx hb dX7_readWord_107 (by decide) (fun cc_17 => ?_) (fun cc_17 => ?_)
                · have hp := hp.1 cc_17
                  exact sx_vret (pc := 138) B hH hr hlk (by rw [← hQQ]; exact ⟨F_13, J_4, rfl, rfl, hp⟩) (Nat.le_of_ble_eq_true rfl) (Nat.le_of_ble_eq_true rfl) dX7_readWord_138
                · have hp := hp.2 cc_17
                  refine lv_aload_n (pc := 110) hx hb dX7_readWord_110 rfl (lv_at hl 0 rfl) ?_
                  refine sx_getR (pc := 111) (j := 2) B hH hk_th coX7 rfl w_208 rfl dX7_readWord_111 ?_
                  refine W.eq (g2 := F0 m 114 ls [va_rf (gR S th 2)]) rfl ?_
                  refine sx_nonnull (x := a_14) ha_14 ?_
                  refine lv_iload_n (pc := 114) hx hb dX7_readWord_114 rfl (lv_at hl 1 rfl) ?_
                  obtain ⟨hn_18, hp⟩ := hp
                  refine sx_lald (pc := 115) B hH hk_15 hn_18 dX7_readWord_115 ?_
                  refine W.eq (g2 := F0 m 116 ls [.long (J_4 a_14 x1_12.toNatClampNeg)]) rfl ?_
                  refine lv_aload_n (pc := 116) hx hb dX7_readWord_116 rfl (lv_at hl 0 rfl) ?_
                  refine sx_getJ (pc := 117) (j := 8) B hH hk_th coX7 rfl w_217 rfl dX7_readWord_117 ?_
                  refine W.eq (g2 := F0 m 120 ls [.long (J_4 th 8), .long (J_4 a_14 x1_12.toNatClampNeg)]) rfl ?_
                  refine W.lcmp (pc := 120) hx hb dX7_readWord_120 ?_
                  refine lv_if_ne (pc := 121) (tgt := 132) hx hb dX7_readWord_121 (by decide) (fun cc_19 => ?_) (fun cc_19 => ?_)
                  · have hp := hp.1 cc_19
                    obtain ⟨v_20, ev_20⟩ : ∃ y : Int32, y = x1_12 + 1 := ⟨_, rfl⟩
                    have hp := hp v_20 ev_20
                    refine lv_iinc (pc := 132) (v := v_20) (lv' := [(1, .int v_20), (0, .ref th)]) hx hb dX7_readWord_132 hl (k := 1) rfl (by rw [ev_20]; rfl) (by decide) rfl (fun ls hl => ?_)
                    refine lv_goto (pc := 135) (tgt := 93) hx hb dX7_readWord_135 (by decide) ?_
                    obtain ⟨k9, hlt9, hp⟩ := hp
                    exact ih_11 k9 hlt9 _ _ _ _ _ hp hH (lv_sub hl [1, 0] rfl)
                  · have hp := hp.2 cc_19
                    refine lv_aload_n (pc := 124) hx hb dX7_readWord_124 rfl (lv_at hl 0 rfl) ?_
                    refine lv_bipush (pc := 125) (v := 6) hx hb dX7_readWord_125 (by decide) ?_
                    refine lv_iload_n (pc := 127) hx hb dX7_readWord_127 rfl (lv_at hl 1 rfl) ?_
                    refine lv_iadd (pc := 128) hx hb dX7_readWord_128 ?_
                    refine lv_topi (fun v_21 ev_21 => ?_)
                    have hp := hp v_21 ev_21
                    obtain ⟨F_22, eF_22⟩ : ∃ z : Nat → Nat → Int32, z = upI F_13 th 6 v_21 := ⟨_, rfl⟩
                    have hp := hp F_22 eF_22
                    refine sx_putI (pc := 129) (j := 6) B hH hk_th coX7 rfl w_212 rfl (Or.inl rfl) rfl dX7_readWord_129 (fun H locs hH => ?_)
                    have hH : Hp G (FA S s.heap.size) s.heap (wA S F_22 J_4 (gR S)) H locs := by rw [eF_22]; exact hH
                    obtain ⟨v_23, ev_23⟩ : ∃ y : Int32, y = x1_12 + 1 := ⟨_, rfl⟩
                    have hp := hp v_23 ev_23
                    refine lv_iinc (pc := 132) (v := v_23) (lv' := [(1, .int v_23), (0, .ref th)]) hx hb dX7_readWord_132 hl (k := 1) rfl (by rw [ev_23]; rfl) (by decide) rfl (fun ls hl => ?_)
                    refine lv_goto (pc := 135) (tgt := 93) hx hb dX7_readWord_135 (by decide) ?_
                    obtain ⟨k9, hlt9, hp⟩ := hp
                    exact ih_11 k9 hlt9 _ _ _ _ _ hp hH (lv_sub hl [1, 0] rfl)
          exact kl_11 k0_11 _ _ _ _ _ h0_11 hH (lv_sub hl [1, 0] rfl)
        refine lv_icmp_le (pc := 80) (tgt := 87) hx hb dX7_readWord_80 (by decide) (fun cc_7 => ?_) (fun cc_7 => ?_)
        · have hp := hp.1 cc_7
          refine lv_iconst (pc := 87) (v := 4) hx hb dX7_readWord_87 (by decide) ?_
          exact kj_8 _ _ _ _ hp hH (lv_sub hl [0] rfl)
        · have hp := hp.2 cc_7
          refine lv_iconst (pc := 83) (v := 5) hx hb dX7_readWord_83 (by decide) ?_
          refine lv_goto (pc := 84) (tgt := 88) hx hb dX7_readWord_84 (by decide) ?_
          exact kj_8 _ _ _ _ hp hH (lv_sub hl [0] rfl)
      refine lv_icmp_ge (pc := 13) (tgt := 68) hx hb dX7_readWord_13 (by decide) (fun cc_5 => ?_) (fun cc_5 => ?_)
      · have hp := hp.1 cc_5
        exact kj_6  _ _ _ hp hH (lv_sub hl [0] rfl)
      · have hp := hp.2 cc_5
        refine lv_aload_n (pc := 16) hx hb dX7_readWord_16 rfl (lv_at hl 0 rfl) ?_
        refine lv_aload_n (pc := 17) hx hb dX7_readWord_17 rfl (lv_at hl 0 rfl) ?_
        refine sx_getI (pc := 18) (j := 5) B hH hk_th coX7 rfl w_211 rfl dX7_readWord_18 ?_
        refine W.eq (g2 := F0 m 21 ls [.int (F_3 th 5), .ref th]) rfl ?_
        refine sx_V (pc := 21) (As := [.int (F_3 th 5)]) (rest := []) B hH hl.1 (C_X7_isLetter G l th (F_3 th 5) _ _ hp) mi_X7_isLetter coX7 hk_th w_608 w_4 w_606 rfl rfl ⟨Nat.le_of_ble_eq_true rfl, Nat.le_of_ble_eq_true rfl⟩ (Nat.le_of_ble_eq_true rfl) ⟨Nat.le_of_ble_eq_true rfl, Nat.le_of_ble_eq_true rfl⟩ dX7_readWord_21 (fun v S1 H locs hq hH => ?_)
        obtain ⟨r_24, rfl, e9, hp⟩ := hq
        rw [e9] at hH
        refine W.eq (g2 := F0 m 24 ls [.int r_24]) rfl ?_
        refine lv_if_eq (pc := 24) (tgt := 68) hx hb dX7_readWord_24 (by decide) (fun cc_25 => ?_) (fun cc_25 => ?_)
        · have hp := hp.1 cc_25
          exact kj_6  _ _ _ hp hH (lv_sub hl [0] rfl)
        · have hp := hp.2 cc_25
          refine lv_aload_n (pc := 27) hx hb dX7_readWord_27 rfl (lv_at hl 0 rfl) ?_
          refine lv_aload_n (pc := 28) hx hb dX7_readWord_28 rfl (lv_at hl 0 rfl) ?_
          refine sx_getJ (pc := 29) (j := 8) B hH hk_th coX7 rfl w_217 rfl dX7_readWord_29 ?_
          refine W.eq (g2 := F0 m 32 ls [.long (J_4 th 8), .ref th]) rfl ?_
          refine sx_ldc2 (pc := 32) (v := 27) B w_155 dX7_readWord_32 ?_
          refine lv_lmul (pc := 35) hx hb dX7_readWord_35 ?_
          refine lv_aload_n (pc := 36) hx hb dX7_readWord_36 rfl (lv_at hl 0 rfl) ?_
          refine sx_getR (pc := 37) (j := 0) B hH hk_th coX7 rfl w_205 rfl dX7_readWord_37 ?_
          refine W.eq (g2 := F0 m 40 ls [va_rf (gR S th 0), .long ((J_4 th 8) * 27), .ref th]) rfl ?_
          obtain ⟨a_26, ha_26, hp⟩ := hp
          refine sx_nonnull (x := a_26) ha_26 ?_
          refine lv_aload_n (pc := 40) hx hb dX7_readWord_40 rfl (lv_at hl 0 rfl) ?_
          refine sx_getI (pc := 41) (j := 5) B hH hk_th coX7 rfl w_211 rfl dX7_readWord_41 ?_
          refine W.eq (g2 := F0 m 44 ls [.int (F_3 th 5), .ref a_26, .long ((J_4 th 8) * 27), .ref th]) rfl ?_
          obtain ⟨hk_27, hp⟩ := hp
          obtain ⟨hn_28, hp⟩ := hp
          refine sx_bald (pc := 44) B hH hk_27 hn_28 dX7_readWord_44 ?_
          refine W.eq (g2 := F0 m 45 ls [.int (F_3 a_26 ((F_3 th 5).toNatClampNeg)), .long ((J_4 th 8) * 27), .ref th]) rfl ?_
          refine lv_bipush (pc := 45) (v := 97) hx hb dX7_readWord_45 (by decide) ?_
          refine lv_isub (pc := 47) hx hb dX7_readWord_47 ?_
          refine lv_iconst (pc := 48) (v := 1) hx hb dX7_readWord_48 (by decide) ?_
          refine lv_iadd (pc := 49) hx hb dX7_readWord_49 ?_
          refine lv_i2l (pc := 50) (v := (((F_3 a_26 ((F_3 th 5).toNatClampNeg)) - 97) + 1).toInt64) hx hb dX7_readWord_50 rfl ?_
          refine lv_ladd (pc := 51) hx hb dX7_readWord_51 ?_
          refine lv_topl (fun v_29 ev_29 => ?_)
          have hp := hp v_29 ev_29
          obtain ⟨J_30, eJ_30⟩ : ∃ z : Nat → Nat → Int64, z = upJ J_4 th 8 v_29 := ⟨_, rfl⟩
          have hp := hp J_30 eJ_30
          refine sx_putJ (pc := 52) (j := 8) B hH hk_th coX7 rfl w_217 rfl (Or.inl rfl) rfl dX7_readWord_52 (fun H locs hH => ?_)
          have hH : Hp G (FA S s.heap.size) s.heap (wA S F_3 J_30 (gR S)) H locs := by rw [eJ_30]; exact hH
          refine lv_aload_n (pc := 55) hx hb dX7_readWord_55 rfl (lv_at hl 0 rfl) ?_
          refine lv_dup (pc := 56) hx hb dX7_readWord_56 rfl ?_
          refine sx_getI (pc := 57) (j := 5) B hH hk_th coX7 rfl w_211 rfl dX7_readWord_57 ?_
          refine W.eq (g2 := F0 m 60 ls [.int (F_3 th 5), .ref th]) rfl ?_
          refine lv_iconst (pc := 60) (v := 1) hx hb dX7_readWord_60 (by decide) ?_
          refine lv_iadd (pc := 61) hx hb dX7_readWord_61 ?_
          refine lv_topi (fun v_31 ev_31 => ?_)
          have hp := hp v_31 ev_31
          obtain ⟨F_32, eF_32⟩ : ∃ z : Nat → Nat → Int32, z = upI F_3 th 5 v_31 := ⟨_, rfl⟩
          have hp := hp F_32 eF_32
          refine sx_putI (pc := 62) (j := 5) B hH hk_th coX7 rfl w_211 rfl (Or.inl rfl) rfl dX7_readWord_62 (fun H locs hH => ?_)
          have hH : Hp G (FA S s.heap.size) s.heap (wA S F_32 J_30 (gR S)) H locs := by rw [eF_32]; exact hH
          refine lv_goto (pc := 65) (tgt := 5) hx hb dX7_readWord_65 (by decide) ?_
          obtain ⟨k9, hlt9, hp⟩ := hp
          exact ih_2 k9 hlt9 _ _ _ _ _ hp hH (lv_sub hl [0] rfl)
  exact kl_2 k0_2 _ _ _ _ _ h0_2 hH (lv_sub hl [0] rfl)
theorem dX7_isDigit_0 : decode cX7_isDigit 0 = .ok (.aload_n 0, 1) := by decide +kernel
theorem dX7_isDigit_1 : decode cX7_isDigit 1 = .ok (.getfield 9, 3) := by decide +kernel
theorem dX7_isDigit_4 : decode cX7_isDigit 4 = .ok (.iload_n 1, 1) := by decide +kernel
theorem dX7_isDigit_5 : decode cX7_isDigit 5 = .ok (.baload, 1) := by decide +kernel
theorem dX7_isDigit_6 : decode cX7_isDigit 6 = .ok (.bipush 48, 2) := by decide +kernel
theorem dX7_isDigit_8 : decode cX7_isDigit 8 = .ok (.if_icmp .lt 18, 3) := by decide +kernel
theorem dX7_isDigit_11 : decode cX7_isDigit 11 = .ok (.aload_n 0, 1) := by decide +kernel
theorem dX7_isDigit_12 : decode cX7_isDigit 12 = .ok (.getfield 9, 3) := by decide +kernel
theorem dX7_isDigit_15 : decode cX7_isDigit 15 = .ok (.iload_n 1, 1) := by decide +kernel
theorem dX7_isDigit_16 : decode cX7_isDigit 16 = .ok (.baload, 1) := by decide +kernel
theorem dX7_isDigit_17 : decode cX7_isDigit 17 = .ok (.bipush 57, 2) := by decide +kernel
theorem dX7_isDigit_19 : decode cX7_isDigit 19 = .ok (.if_icmp .gt 7, 3) := by decide +kernel
theorem dX7_isDigit_22 : decode cX7_isDigit 22 = .ok (.iconst 1, 1) := by decide +kernel
theorem dX7_isDigit_23 : decode cX7_isDigit 23 = .ok (.goto 4, 3) := by decide +kernel
theorem dX7_isDigit_26 : decode cX7_isDigit 26 = .ok (.iconst 0, 1) := by decide +kernel
theorem dX7_isDigit_27 : decode cX7_isDigit 27 = .ok (.ireturn, 1) := by decide +kernel
theorem mi_X7_isDigit : MI yX7_isDigit cX7_isDigit 2 (some FieldType.boolean) 1 := ⟨w_617, w_106, by decide +kernel, by decide +kernel, by decide +kernel⟩
set_option maxRecDepth 100000 in
set_option maxHeartbeats 4000000 in
theorem C_X7_isDigit (G : GG) (l : Launch) (th : Nat) (p0 : Int32) (S : St) (Q : Int32 → Prop) (hp : P_X7_isDigit th p0 S Q) : Ctr G l yX7_isDigit cX7_isDigit 2 (some FieldType.boolean) 0 0 0 0 [.ref th, .int p0] S (fun (v : Option Value) (S9 : St) => ∃ (r : Int32), v = some (.int r) ∧ S9 = S ∧ Q r ) := by
  generalize hQQ : (fun (v : Option Value) (S9 : St) => ∃ (r : Int32), v = some (.int r) ∧ S9 = S ∧ Q r ) = QQ
  unfold P_X7_isDigit at hp
  refine Ctr.of (by decide) (Nat.le_of_ble_eq_true rfl) ?_
  intro p e s m args below meth c ls B hr hlk hin hl hH
  generalize hlocs0 : ([] : List Loc) = locs at hH ⊢
  have hx := B.1
  have hb := B.2.1
  have hl : lv_has ls 2 [(0, .ref th), (1, .int p0)] := hl
  obtain ⟨hk_th, hp⟩ := hp
  refine lv_aload_n (pc := 0) hx hb dX7_isDigit_0 rfl (lv_at hl 0 rfl) ?_
  refine sx_getR (pc := 1) (j := 0) B hH hk_th coX7 rfl w_205 rfl dX7_isDigit_1 ?_
  refine W.eq (g2 := F0 m 4 ls [va_rf (gR S th 0)]) rfl ?_
  obtain ⟨a_1, ha_1, hp⟩ := hp
  refine sx_nonnull (x := a_1) ha_1 ?_
  refine lv_iload_n (pc := 4) hx hb dX7_isDigit_4 rfl (lv_at hl 1 rfl) ?_
  obtain ⟨hk_2, hp⟩ := hp
  obtain ⟨hn_3, hp⟩ := hp
  refine sx_bald (pc := 5) B hH hk_2 hn_3 dX7_isDigit_5 ?_
  refine W.eq (g2 := F0 m 6 ls [.int (gI S a_1 p0.toNatClampNeg)]) rfl ?_
  refine lv_bipush (pc := 6) (v := 48) hx hb dX7_isDigit_6 (by decide) ?_
  refine lv_icmp_lt (pc := 8) (tgt := 26) hx hb dX7_isDigit_8 (by decide) (fun cc_4 => ?_) (fun cc_4 => ?_)
  · have hp := hp.1 cc_4
    refine lv_iconst (pc := 26) (v := 0) hx hb dX7_isDigit_26 (by decide) ?_
    exact sx_zret (pc := 27) B hH hr hlk (Or.inl rfl) (by rw [← hQQ]; exact ⟨_, rfl, rfl, hp⟩) (Nat.le_of_ble_eq_true rfl) (Nat.le_of_ble_eq_true rfl) dX7_isDigit_27
  · have hp := hp.2 cc_4
    refine lv_aload_n (pc := 11) hx hb dX7_isDigit_11 rfl (lv_at hl 0 rfl) ?_
    refine sx_getR (pc := 12) (j := 0) B hH hk_th coX7 rfl w_205 rfl dX7_isDigit_12 ?_
    refine W.eq (g2 := F0 m 15 ls [va_rf (gR S th 0)]) rfl ?_
    refine sx_nonnull (x := a_1) ha_1 ?_
    refine lv_iload_n (pc := 15) hx hb dX7_isDigit_15 rfl (lv_at hl 1 rfl) ?_
    refine sx_bald (pc := 16) B hH hk_2 hn_3 dX7_isDigit_16 ?_
    refine W.eq (g2 := F0 m 17 ls [.int (gI S a_1 p0.toNatClampNeg)]) rfl ?_
    refine lv_bipush (pc := 17) (v := 57) hx hb dX7_isDigit_17 (by decide) ?_
    refine lv_icmp_gt (pc := 19) (tgt := 26) hx hb dX7_isDigit_19 (by decide) (fun cc_5 => ?_) (fun cc_5 => ?_)
    · have hp := hp.1 cc_5
      refine lv_iconst (pc := 26) (v := 0) hx hb dX7_isDigit_26 (by decide) ?_
      exact sx_zret (pc := 27) B hH hr hlk (Or.inl rfl) (by rw [← hQQ]; exact ⟨_, rfl, rfl, hp⟩) (Nat.le_of_ble_eq_true rfl) (Nat.le_of_ble_eq_true rfl) dX7_isDigit_27
    · have hp := hp.2 cc_5
      refine lv_iconst (pc := 22) (v := 1) hx hb dX7_isDigit_22 (by decide) ?_
      refine lv_goto (pc := 23) (tgt := 27) hx hb dX7_isDigit_23 (by decide) ?_
      exact sx_zret (pc := 27) B hH hr hlk (Or.inr rfl) (by rw [← hQQ]; exact ⟨_, rfl, rfl, hp⟩) (Nat.le_of_ble_eq_true rfl) (Nat.le_of_ble_eq_true rfl) dX7_isDigit_27
theorem dX7_readNumber_0 : decode cX7_readNumber 0 = .ok (.aload_n 0, 1) := by decide +kernel
theorem dX7_readNumber_1 : decode cX7_readNumber 1 = .ok (.iconst 0, 1) := by decide +kernel
theorem dX7_readNumber_2 : decode cX7_readNumber 2 = .ok (.putfield 35, 3) := by decide +kernel
theorem dX7_readNumber_5 : decode cX7_readNumber 5 = .ok (.aload_n 0, 1) := by decide +kernel
theorem dX7_readNumber_6 : decode cX7_readNumber 6 = .ok (.getfield 29, 3) := by decide +kernel
theorem dX7_readNumber_9 : decode cX7_readNumber 9 = .ok (.aload_n 0, 1) := by decide +kernel
theorem dX7_readNumber_10 : decode cX7_readNumber 10 = .ok (.getfield 23, 3) := by decide +kernel
theorem dX7_readNumber_13 : decode cX7_readNumber 13 = .ok (.if_icmp .ge 51, 3) := by decide +kernel
theorem dX7_readNumber_16 : decode cX7_readNumber 16 = .ok (.aload_n 0, 1) := by decide +kernel
theorem dX7_readNumber_17 : decode cX7_readNumber 17 = .ok (.aload_n 0, 1) := by decide +kernel
theorem dX7_readNumber_18 : decode cX7_readNumber 18 = .ok (.getfield 29, 3) := by decide +kernel
theorem dX7_readNumber_21 : decode cX7_readNumber 21 = .ok (.invokevirtual 91, 3) := by decide +kernel
theorem dX7_readNumber_24 : decode cX7_readNumber 24 = .ok (.ifCond .eq 40, 3) := by decide +kernel
theorem dX7_readNumber_27 : decode cX7_readNumber 27 = .ok (.aload_n 0, 1) := by decide +kernel
theorem dX7_readNumber_28 : decode cX7_readNumber 28 = .ok (.aload_n 0, 1) := by decide +kernel
theorem dX7_readNumber_29 : decode cX7_readNumber 29 = .ok (.getfield 35, 3) := by decide +kernel
theorem dX7_readNumber_32 : decode cX7_readNumber 32 = .ok (.bipush 10, 2) := by decide +kernel
theorem dX7_readNumber_34 : decode cX7_readNumber 34 = .ok (.imul, 1) := by decide +kernel
theorem dX7_readNumber_35 : decode cX7_readNumber 35 = .ok (.aload_n 0, 1) := by decide +kernel
theorem dX7_readNumber_36 : decode cX7_readNumber 36 = .ok (.getfield 9, 3) := by decide +kernel
theorem dX7_readNumber_39 : decode cX7_readNumber 39 = .ok (.aload_n 0, 1) := by decide +kernel
theorem dX7_readNumber_40 : decode cX7_readNumber 40 = .ok (.getfield 29, 3) := by decide +kernel
theorem dX7_readNumber_43 : decode cX7_readNumber 43 = .ok (.baload, 1) := by decide +kernel
theorem dX7_readNumber_44 : decode cX7_readNumber 44 = .ok (.bipush 48, 2) := by decide +kernel
theorem dX7_readNumber_46 : decode cX7_readNumber 46 = .ok (.isub, 1) := by decide +kernel
theorem dX7_readNumber_47 : decode cX7_readNumber 47 = .ok (.iadd, 1) := by decide +kernel
theorem dX7_readNumber_48 : decode cX7_readNumber 48 = .ok (.putfield 35, 3) := by decide +kernel
theorem dX7_readNumber_51 : decode cX7_readNumber 51 = .ok (.aload_n 0, 1) := by decide +kernel
theorem dX7_readNumber_52 : decode cX7_readNumber 52 = .ok (.dup, 1) := by decide +kernel
theorem dX7_readNumber_53 : decode cX7_readNumber 53 = .ok (.getfield 29, 3) := by decide +kernel
theorem dX7_readNumber_56 : decode cX7_readNumber 56 = .ok (.iconst 1, 1) := by decide +kernel
theorem dX7_readNumber_57 : decode cX7_readNumber 57 = .ok (.iadd, 1) := by decide +kernel
theorem dX7_readNumber_58 : decode cX7_readNumber 58 = .ok (.putfield 29, 3) := by decide +kernel
theorem dX7_readNumber_61 : decode cX7_readNumber 61 = .ok (.goto (-56), 3) := by decide +kernel
theorem dX7_readNumber_64 : decode cX7_readNumber 64 = .ok (.aload_n 0, 1) := by decide +kernel
theorem dX7_readNumber_65 : decode cX7_readNumber 65 = .ok (.aload_n 0, 1) := by decide +kernel
theorem dX7_readNumber_66 : decode cX7_readNumber 66 = .ok (.getfield 29, 3) := by decide +kernel
theorem dX7_readNumber_69 : decode cX7_readNumber 69 = .ok (.aload_n 0, 1) := by decide +kernel
theorem dX7_readNumber_70 : decode cX7_readNumber 70 = .ok (.getfield 26, 3) := by decide +kernel
theorem dX7_readNumber_73 : decode cX7_readNumber 73 = .ok (.isub, 1) := by decide +kernel
theorem dX7_readNumber_74 : decode cX7_readNumber 74 = .ok (.bipush 8, 2) := by decide +kernel
theorem dX7_readNumber_76 : decode cX7_readNumber 76 = .ok (.if_icmp .le 7, 3) := by decide +kernel
theorem dX7_readNumber_79 : decode cX7_readNumber 79 = .ok (.iconst 0, 1) := by decide +kernel
theorem dX7_readNumber_80 : decode cX7_readNumber 80 = .ok (.goto 4, 3) := by decide +kernel
theorem dX7_readNumber_83 : decode cX7_readNumber 83 = .ok (.iconst 3, 1) := by decide +kernel
theorem dX7_readNumber_84 : decode cX7_readNumber 84 = .ok (.putfield 32, 3) := by decide +kernel
theorem dX7_readNumber_87 : decode cX7_readNumber 87 = .ok (.return_, 1) := by decide +kernel
theorem mi_X7_readNumber : MI yX7_readNumber cX7_readNumber 1 (none : Option Jvm.ClassFile.FieldType) 0 := ⟨w_621, w_106, by decide +kernel, by decide +kernel, by decide +kernel⟩
set_option maxRecDepth 100000 in
set_option maxHeartbeats 4000000 in
theorem C_X7_readNumber (G : GG) (l : Launch) (th : Nat) (S : St) (Q : (Nat → Nat → Int32) → Prop) (hp : P_X7_readNumber th S Q) : Ctr G l yX7_readNumber cX7_readNumber 1 (none : Option Jvm.ClassFile.FieldType) 1 21 0 0 [.ref th] S (fun (v : Option Value) (S9 : St) => ∃ (I9 : Nat → Nat → Int32), v = none ∧ S9 = wI S I9 ∧ Q I9) := by
  generalize hQQ : (fun (v : Option Value) (S9 : St) => ∃ (I9 : Nat → Nat → Int32), v = none ∧ S9 = wI S I9 ∧ Q I9) = QQ
  unfold P_X7_readNumber at hp
  refine Ctr.of (by decide) (Nat.le_of_ble_eq_true rfl) ?_
  intro p e s m args below meth c ls B hr hlk hin hl hH
  generalize hlocs0 : ([] : List Loc) = locs at hH ⊢
  have hx := B.1
  have hb := B.2.1
  have hl : lv_has ls 1 [(0, .ref th)] := hl
  obtain ⟨hk_th, hp⟩ := hp
  refine lv_aload_n (pc := 0) hx hb dX7_readNumber_0 rfl (lv_at hl 0 rfl) ?_
  refine lv_iconst (pc := 1) (v := 0) hx hb dX7_readNumber_1 (by decide) ?_
  obtain ⟨F_1, eF_1⟩ : ∃ z : Nat → Nat → Int32, z = upI (gI S) th 7 0 := ⟨_, rfl⟩
  have hp := hp F_1 eF_1
  refine sx_putI (pc := 2) (j := 7) B hH hk_th coX7 rfl w_214 rfl (Or.inl rfl) rfl dX7_readNumber_2 (fun H locs hH => ?_)
  have hH : Hp G (FA S s.heap.size) s.heap (wI S F_1) H locs := by rw [eF_1]; exact hH
  obtain ⟨I_2, ⟨k0_2, h0_2⟩, hst_2⟩ := hp
  have kl_2 : ∀ (n_2 : Nat) (F_3 : Nat → Nat → Int32) (H : Heap) (locs : List Loc) (ls : Array Slot), I_2 n_2 F_3 → Hp G (FA S s.heap.size) s.heap (wI S F_3) H locs → lv_has ls 1 [(0, .ref th)] → Wm G p l e { frames := 1, cells := 0, slots := 0, locals := 21 } s m args below meth c S QQ 0 0 H locs 0 0 (F0 m 5 ls []) := by
    intro n_2
    induction n_2 using Nat.strongRecOn with
    | ind n_2 ih_2 =>
      intro F_3 H locs ls hq9 hH hl
      have hp := hst_2 n_2 F_3 hq9
      refine lv_aload_n (pc := 5) hx hb dX7_readNumber_5 rfl (lv_at hl 0 rfl) ?_
      refine sx_getI (pc := 6) (j := 5) B hH hk_th coX7 rfl w_211 rfl dX7_readNumber_6 ?_
      refine W.eq (g2 := F0 m 9 ls [.int (F_3 th 5)]) rfl ?_
      refine lv_aload_n (pc := 9) hx hb dX7_readNumber_9 rfl (lv_at hl 0 rfl) ?_
      refine sx_getI (pc := 10) (j := 3) B hH hk_th coX7 rfl w_209 rfl dX7_readNumber_10 ?_
      refine W.eq (g2 := F0 m 13 ls [.int (F_3 th 3), .int (F_3 th 5)]) rfl ?_
      obtain ⟨J_5, hj_5, hp⟩ := hp
      have kj_5 : ∀  (H : Heap) (locs : List Loc) (ls : Array Slot), J_5  → Hp G (FA S s.heap.size) s.heap (wI S F_3) H locs → lv_has ls 1 [(0, .ref th)] → Wm G p l e { frames := 1, cells := 0, slots := 0, locals := 21 } s m args below meth c S QQ 0 0 H locs 0 0 (F0 m 64 ls []) := by
        intro  H locs ls hq9 hH hl
        have hp := hj_5  hq9
        refine lv_aload_n (pc := 64) hx hb dX7_readNumber_64 rfl (lv_at hl 0 rfl) ?_
        refine lv_aload_n (pc := 65) hx hb dX7_readNumber_65 rfl (lv_at hl 0 rfl) ?_
        refine sx_getI (pc := 66) (j := 5) B hH hk_th coX7 rfl w_211 rfl dX7_readNumber_66 ?_
        refine W.eq (g2 := F0 m 69 ls [.int (F_3 th 5), .ref th]) rfl ?_
        refine lv_aload_n (pc := 69) hx hb dX7_readNumber_69 rfl (lv_at hl 0 rfl) ?_
        refine sx_getI (pc := 70) (j := 4) B hH hk_th coX7 rfl w_210 rfl dX7_readNumber_70 ?_
        refine W.eq (g2 := F0 m 73 ls [.int (F_3 th 4), .int (F_3 th 5), .ref th]) rfl ?_
        refine lv_isub (pc := 73) hx hb dX7_readNumber_73 ?_
        refine lv_bipush (pc := 74) (v := 8) hx hb dX7_readNumber_74 (by decide) ?_
        obtain ⟨J_7, hj_7, hp⟩ := hp
        have kj_7 : ∀ (t_8 : Int32) (H : Heap) (locs : List Loc) (ls : Array Slot), J_7 t_8 → Hp G (FA S s.heap.size) s.heap (wI S F_3) H locs → lv_has ls 1 [] → Wm G p l e { frames := 1, cells := 0, slots := 0, locals := 21 } s m args below meth c S QQ 0 0 H locs 0 0 (F0 m 84 ls [.int t_8, .ref th]) := by
          intro t_8 H locs ls hq9 hH hl
          have hp := hj_7 t_8 hq9
          obtain ⟨F_9, eF_9⟩ : ∃ z : Nat → Nat → Int32, z = upI F_3 th 6 t_8 := ⟨_, rfl⟩
          have hp := hp F_9 eF_9
          refine sx_putI (pc := 84) (j := 6) B hH hk_th coX7 rfl w_212 rfl (Or.inl rfl) rfl dX7_readNumber_84 (fun H locs hH => ?_)
          have hH : Hp G (FA S s.heap.size) s.heap (wI S F_9) H locs := by rw [eF_9]; exact hH
          exact sx_vret (pc := 87) B hH hr hlk (by rw [← hQQ]; exact ⟨F_9, rfl, rfl, hp⟩) (Nat.le_of_ble_eq_true rfl) (Nat.le_of_ble_eq_true rfl) dX7_readNumber_87
        refine lv_icmp_le (pc := 76) (tgt := 83) hx hb dX7_readNumber_76 (by decide) (fun cc_6 => ?_) (fun cc_6 => ?_)
        · have hp := hp.1 cc_6
          refine lv_iconst (pc := 83) (v := 3) hx hb dX7_readNumber_83 (by decide) ?_
          exact kj_7 _ _ _ _ hp hH (lv_sub hl [] rfl)
        · have hp := hp.2 cc_6
          refine lv_iconst (pc := 79) (v := 0) hx hb dX7_readNumber_79 (by decide) ?_
          refine lv_goto (pc := 80) (tgt := 84) hx hb dX7_readNumber_80 (by decide) ?_
          exact kj_7 _ _ _ _ hp hH (lv_sub hl [] rfl)
      refine lv_icmp_ge (pc := 13) (tgt := 64) hx hb dX7_readNumber_13 (by decide) (fun cc_4 => ?_) (fun cc_4 => ?_)
      · have hp := hp.1 cc_4
        exact kj_5  _ _ _ hp hH (lv_sub hl [0] rfl)
      · have hp := hp.2 cc_4
        refine lv_aload_n (pc := 16) hx hb dX7_readNumber_16 rfl (lv_at hl 0 rfl) ?_
        refine lv_aload_n (pc := 17) hx hb dX7_readNumber_17 rfl (lv_at hl 0 rfl) ?_
        refine sx_getI (pc := 18) (j := 5) B hH hk_th coX7 rfl w_211 rfl dX7_readNumber_18 ?_
        refine W.eq (g2 := F0 m 21 ls [.int (F_3 th 5), .ref th]) rfl ?_
        refine sx_V (pc := 21) (As := [.int (F_3 th 5)]) (rest := []) B hH hl.1 (C_X7_isDigit G l th (F_3 th 5) _ _ hp) mi_X7_isDigit coX7 hk_th w_616 w_6 w_614 rfl rfl ⟨Nat.le_of_ble_eq_true rfl, Nat.le_of_ble_eq_true rfl⟩ (Nat.le_of_ble_eq_true rfl) ⟨Nat.le_of_ble_eq_true rfl, Nat.le_of_ble_eq_true rfl⟩ dX7_readNumber_21 (fun v S1 H locs hq hH => ?_)
        obtain ⟨r_10, rfl, e9, hp⟩ := hq
        rw [e9] at hH
        refine W.eq (g2 := F0 m 24 ls [.int r_10]) rfl ?_
        refine lv_if_eq (pc := 24) (tgt := 64) hx hb dX7_readNumber_24 (by decide) (fun cc_11 => ?_) (fun cc_11 => ?_)
        · have hp := hp.1 cc_11
          exact kj_5  _ _ _ hp hH (lv_sub hl [0] rfl)
        · have hp := hp.2 cc_11
          refine lv_aload_n (pc := 27) hx hb dX7_readNumber_27 rfl (lv_at hl 0 rfl) ?_
          refine lv_aload_n (pc := 28) hx hb dX7_readNumber_28 rfl (lv_at hl 0 rfl) ?_
          refine sx_getI (pc := 29) (j := 7) B hH hk_th coX7 rfl w_214 rfl dX7_readNumber_29 ?_
          refine W.eq (g2 := F0 m 32 ls [.int (F_3 th 7), .ref th]) rfl ?_
          refine lv_bipush (pc := 32) (v := 10) hx hb dX7_readNumber_32 (by decide) ?_
          refine lv_imul (pc := 34) hx hb dX7_readNumber_34 ?_
          refine lv_aload_n (pc := 35) hx hb dX7_readNumber_35 rfl (lv_at hl 0 rfl) ?_
          refine sx_getR (pc := 36) (j := 0) B hH hk_th coX7 rfl w_205 rfl dX7_readNumber_36 ?_
          refine W.eq (g2 := F0 m 39 ls [va_rf (gR S th 0), .int ((F_3 th 7) * 10), .ref th]) rfl ?_
          obtain ⟨a_12, ha_12, hp⟩ := hp
          refine sx_nonnull (x := a_12) ha_12 ?_
          refine lv_aload_n (pc := 39) hx hb dX7_readNumber_39 rfl (lv_at hl 0 rfl) ?_
          refine sx_getI (pc := 40) (j := 5) B hH hk_th coX7 rfl w_211 rfl dX7_readNumber_40 ?_
          refine W.eq (g2 := F0 m 43 ls [.int (F_3 th 5), .ref a_12, .int ((F_3 th 7) * 10), .ref th]) rfl ?_
          obtain ⟨hk_13, hp⟩ := hp
          obtain ⟨hn_14, hp⟩ := hp
          refine sx_bald (pc := 43) B hH hk_13 hn_14 dX7_readNumber_43 ?_
          refine W.eq (g2 := F0 m 44 ls [.int (F_3 a_12 ((F_3 th 5).toNatClampNeg)), .int ((F_3 th 7) * 10), .ref th]) rfl ?_
          refine lv_bipush (pc := 44) (v := 48) hx hb dX7_readNumber_44 (by decide) ?_
          refine lv_isub (pc := 46) hx hb dX7_readNumber_46 ?_
          refine lv_iadd (pc := 47) hx hb dX7_readNumber_47 ?_
          refine lv_topi (fun v_15 ev_15 => ?_)
          have hp := hp v_15 ev_15
          obtain ⟨F_16, eF_16⟩ : ∃ z : Nat → Nat → Int32, z = upI F_3 th 7 v_15 := ⟨_, rfl⟩
          have hp := hp F_16 eF_16
          refine sx_putI (pc := 48) (j := 7) B hH hk_th coX7 rfl w_214 rfl (Or.inl rfl) rfl dX7_readNumber_48 (fun H locs hH => ?_)
          have hH : Hp G (FA S s.heap.size) s.heap (wI S F_16) H locs := by rw [eF_16]; exact hH
          refine lv_aload_n (pc := 51) hx hb dX7_readNumber_51 rfl (lv_at hl 0 rfl) ?_
          refine lv_dup (pc := 52) hx hb dX7_readNumber_52 rfl ?_
          refine sx_getI (pc := 53) (j := 5) B hH hk_th coX7 rfl w_211 rfl dX7_readNumber_53 ?_
          refine W.eq (g2 := F0 m 56 ls [.int (F_16 th 5), .ref th]) rfl ?_
          refine lv_iconst (pc := 56) (v := 1) hx hb dX7_readNumber_56 (by decide) ?_
          refine lv_iadd (pc := 57) hx hb dX7_readNumber_57 ?_
          refine lv_topi (fun v_17 ev_17 => ?_)
          have hp := hp v_17 ev_17
          obtain ⟨F_18, eF_18⟩ : ∃ z : Nat → Nat → Int32, z = upI F_16 th 5 v_17 := ⟨_, rfl⟩
          have hp := hp F_18 eF_18
          refine sx_putI (pc := 58) (j := 5) B hH hk_th coX7 rfl w_211 rfl (Or.inl rfl) rfl dX7_readNumber_58 (fun H locs hH => ?_)
          have hH : Hp G (FA S s.heap.size) s.heap (wI S F_18) H locs := by rw [eF_18]; exact hH
          refine lv_goto (pc := 61) (tgt := 5) hx hb dX7_readNumber_61 (by decide) ?_
          obtain ⟨k9, hlt9, hp⟩ := hp
          exact ih_2 k9 hlt9 _ _ _ _ hp hH (lv_sub hl [0] rfl)
  exact kl_2 k0_2 _ _ _ _ h0_2 hH (lv_sub hl [0] rfl)
theorem dX7_next_0 : decode cX7_next 0 = .ok (.aload_n 0, 1) := by decide +kernel
theorem dX7_next_1 : decode cX7_next 1 = .ok (.aload_n 0, 1) := by decide +kernel
theorem dX7_next_2 : decode cX7_next 2 = .ok (.getfield 29, 3) := by decide +kernel
theorem dX7_next_5 : decode cX7_next 5 = .ok (.putfield 26, 3) := by decide +kernel
theorem dX7_next_8 : decode cX7_next 8 = .ok (.aload_n 0, 1) := by decide +kernel
theorem dX7_next_9 : decode cX7_next 9 = .ok (.getfield 26, 3) := by decide +kernel
theorem dX7_next_12 : decode cX7_next 12 = .ok (.aload_n 0, 1) := by decide +kernel
theorem dX7_next_13 : decode cX7_next 13 = .ok (.getfield 23, 3) := by decide +kernel
theorem dX7_next_16 : decode cX7_next 16 = .ok (.if_icmp .ge 44, 3) := by decide +kernel
theorem dX7_next_19 : decode cX7_next 19 = .ok (.aload_n 0, 1) := by decide +kernel
theorem dX7_next_20 : decode cX7_next 20 = .ok (.getfield 9, 3) := by decide +kernel
theorem dX7_next_23 : decode cX7_next 23 = .ok (.aload_n 0, 1) := by decide +kernel
theorem dX7_next_24 : decode cX7_next 24 = .ok (.getfield 26, 3) := by decide +kernel
theorem dX7_next_27 : decode cX7_next 27 = .ok (.baload, 1) := by decide +kernel
theorem dX7_next_28 : decode cX7_next 28 = .ok (.bipush 32, 2) := by decide +kernel
theorem dX7_next_30 : decode cX7_next 30 = .ok (.if_icmp .eq 17, 3) := by decide +kernel
theorem dX7_next_33 : decode cX7_next 33 = .ok (.aload_n 0, 1) := by decide +kernel
theorem dX7_next_34 : decode cX7_next 34 = .ok (.getfield 9, 3) := by decide +kernel
theorem dX7_next_37 : decode cX7_next 37 = .ok (.aload_n 0, 1) := by decide +kernel
theorem dX7_next_38 : decode cX7_next 38 = .ok (.getfield 26, 3) := by decide +kernel
theorem dX7_next_41 : decode cX7_next 41 = .ok (.baload, 1) := by decide +kernel
theorem dX7_next_42 : decode cX7_next 42 = .ok (.bipush 10, 2) := by decide +kernel
theorem dX7_next_44 : decode cX7_next 44 = .ok (.if_icmp .ne 16, 3) := by decide +kernel
theorem dX7_next_47 : decode cX7_next 47 = .ok (.aload_n 0, 1) := by decide +kernel
theorem dX7_next_48 : decode cX7_next 48 = .ok (.dup, 1) := by decide +kernel
theorem dX7_next_49 : decode cX7_next 49 = .ok (.getfield 26, 3) := by decide +kernel
theorem dX7_next_52 : decode cX7_next 52 = .ok (.iconst 1, 1) := by decide +kernel
theorem dX7_next_53 : decode cX7_next 53 = .ok (.iadd, 1) := by decide +kernel
theorem dX7_next_54 : decode cX7_next 54 = .ok (.putfield 26, 3) := by decide +kernel
theorem dX7_next_57 : decode cX7_next 57 = .ok (.goto (-49), 3) := by decide +kernel
theorem dX7_next_60 : decode cX7_next 60 = .ok (.aload_n 0, 1) := by decide +kernel
theorem dX7_next_61 : decode cX7_next 61 = .ok (.aload_n 0, 1) := by decide +kernel
theorem dX7_next_62 : decode cX7_next 62 = .ok (.getfield 26, 3) := by decide +kernel
theorem dX7_next_65 : decode cX7_next 65 = .ok (.putfield 29, 3) := by decide +kernel
theorem dX7_next_68 : decode cX7_next 68 = .ok (.aload_n 0, 1) := by decide +kernel
theorem dX7_next_69 : decode cX7_next 69 = .ok (.getfield 26, 3) := by decide +kernel
theorem dX7_next_72 : decode cX7_next 72 = .ok (.aload_n 0, 1) := by decide +kernel
theorem dX7_next_73 : decode cX7_next 73 = .ok (.getfield 23, 3) := by decide +kernel
theorem dX7_next_76 : decode cX7_next 76 = .ok (.if_icmp .lt 11, 3) := by decide +kernel
theorem dX7_next_79 : decode cX7_next 79 = .ok (.aload_n 0, 1) := by decide +kernel
theorem dX7_next_80 : decode cX7_next 80 = .ok (.iconst 1, 1) := by decide +kernel
theorem dX7_next_81 : decode cX7_next 81 = .ok (.putfield 32, 3) := by decide +kernel
theorem dX7_next_84 : decode cX7_next 84 = .ok (.goto 72, 3) := by decide +kernel
theorem dX7_next_87 : decode cX7_next 87 = .ok (.aload_n 0, 1) := by decide +kernel
theorem dX7_next_88 : decode cX7_next 88 = .ok (.aload_n 0, 1) := by decide +kernel
theorem dX7_next_89 : decode cX7_next 89 = .ok (.getfield 26, 3) := by decide +kernel
theorem dX7_next_92 : decode cX7_next 92 = .ok (.invokevirtual 84, 3) := by decide +kernel
theorem dX7_next_95 : decode cX7_next 95 = .ok (.ifCond .eq 10, 3) := by decide +kernel
theorem dX7_next_98 : decode cX7_next 98 = .ok (.aload_n 0, 1) := by decide +kernel
theorem dX7_next_99 : decode cX7_next 99 = .ok (.invokevirtual 88, 3) := by decide +kernel
theorem dX7_next_102 : decode cX7_next 102 = .ok (.goto 54, 3) := by decide +kernel
theorem dX7_next_105 : decode cX7_next 105 = .ok (.aload_n 0, 1) := by decide +kernel
theorem dX7_next_106 : decode cX7_next 106 = .ok (.aload_n 0, 1) := by decide +kernel
theorem dX7_next_107 : decode cX7_next 107 = .ok (.getfield 26, 3) := by decide +kernel
theorem dX7_next_110 : decode cX7_next 110 = .ok (.invokevirtual 91, 3) := by decide +kernel
theorem dX7_next_113 : decode cX7_next 113 = .ok (.ifCond .eq 10, 3) := by decide +kernel
theorem dX7_next_116 : decode cX7_next 116 = .ok (.aload_n 0, 1) := by decide +kernel
theorem dX7_next_117 : decode cX7_next 117 = .ok (.invokevirtual 94, 3) := by decide +kernel
theorem dX7_next_120 : decode cX7_next 120 = .ok (.goto 36, 3) := by decide +kernel
theorem dX7_next_123 : decode cX7_next 123 = .ok (.aload_n 0, 1) := by decide +kernel
theorem dX7_next_124 : decode cX7_next 124 = .ok (.aload_n 0, 1) := by decide +kernel
theorem dX7_next_125 : decode cX7_next 125 = .ok (.getfield 9, 3) := by decide +kernel
theorem dX7_next_128 : decode cX7_next 128 = .ok (.aload_n 0, 1) := by decide +kernel
theorem dX7_next_129 : decode cX7_next 129 = .ok (.getfield 26, 3) := by decide +kernel
theorem dX7_next_132 : decode cX7_next 132 = .ok (.baload, 1) := by decide +kernel
theorem dX7_next_133 : decode cX7_next 133 = .ok (.bipush 59, 2) := by decide +kernel
theorem dX7_next_135 : decode cX7_next 135 = .ok (.if_icmp .ne 7, 3) := by decide +kernel
theorem dX7_next_138 : decode cX7_next 138 = .ok (.iconst 2, 1) := by decide +kernel
theorem dX7_next_139 : decode cX7_next 139 = .ok (.goto 4, 3) := by decide +kernel
theorem dX7_next_142 : decode cX7_next 142 = .ok (.iconst 0, 1) := by decide +kernel
theorem dX7_next_143 : decode cX7_next 143 = .ok (.putfield 32, 3) := by decide +kernel
theorem dX7_next_146 : decode cX7_next 146 = .ok (.aload_n 0, 1) := by decide +kernel
theorem dX7_next_147 : decode cX7_next 147 = .ok (.dup, 1) := by decide +kernel
theorem dX7_next_148 : decode cX7_next 148 = .ok (.getfield 29, 3) := by decide +kernel
theorem dX7_next_151 : decode cX7_next 151 = .ok (.iconst 1, 1) := by decide +kernel
theorem dX7_next_152 : decode cX7_next 152 = .ok (.iadd, 1) := by decide +kernel
theorem dX7_next_153 : decode cX7_next 153 = .ok (.putfield 29, 3) := by decide +kernel
theorem dX7_next_156 : decode cX7_next 156 = .ok (.return_, 1) := by decide +kernel
theorem mi_X7_next : MI yX7_next cX7_next 1 (none : Option Jvm.ClassFile.FieldType) 0 := ⟨w_605, w_106, by decide +kernel, by decide +kernel, by decide +kernel⟩
set_option maxRecDepth 100000 in
set_option maxHeartbeats 4000000 in
theorem C_X7_next (G : GG) (l : Launch) (th : Nat) (S : St) (Q : (Nat → Nat → Int32) → (Nat → Nat → Int64) → Prop) (hp : P_X7_next th S Q) : Ctr G l yX7_next cX7_next 1 (none : Option Jvm.ClassFile.FieldType) 2 42 0 0 [.ref th] S (fun (v : Option Value) (S9 : St) => ∃ (I9 : Nat → Nat → Int32) (J9 : Nat → Nat → Int64), v = none ∧ S9 = wA S I9 J9 (gR S) ∧ Q I9 J9) := by
  generalize hQQ : (fun (v : Option Value) (S9 : St) => ∃ (I9 : Nat → Nat → Int32) (J9 : Nat → Nat → Int64), v = none ∧ S9 = wA S I9 J9 (gR S) ∧ Q I9 J9) = QQ
  unfold P_X7_next at hp
  refine Ctr.of (by decide) (Nat.le_of_ble_eq_true rfl) ?_
  intro p e s m args below meth c ls B hr hlk hin hl hH
  generalize hlocs0 : ([] : List Loc) = locs at hH ⊢
  have hx := B.1
  have hb := B.2.1
  have hl : lv_has ls 1 [(0, .ref th)] := hl
  obtain ⟨hk_th, hp⟩ := hp
  refine lv_aload_n (pc := 0) hx hb dX7_next_0 rfl (lv_at hl 0 rfl) ?_
  refine lv_aload_n (pc := 1) hx hb dX7_next_1 rfl (lv_at hl 0 rfl) ?_
  refine sx_getI (pc := 2) (j := 5) B hH hk_th coX7 rfl w_211 rfl dX7_next_2 ?_
  refine W.eq (g2 := F0 m 5 ls [.int (gI S th 5), .ref th]) rfl ?_
  refine lv_topi (fun v_1 ev_1 => ?_)
  have hp := hp v_1 ev_1
  obtain ⟨F_2, eF_2⟩ : ∃ z : Nat → Nat → Int32, z = upI (gI S) th 4 v_1 := ⟨_, rfl⟩
  have hp := hp F_2 eF_2
  refine sx_putI (pc := 5) (j := 4) B hH hk_th coX7 rfl w_210 rfl (Or.inl rfl) rfl dX7_next_5 (fun H locs hH => ?_)
  have hH : Hp G (FA S s.heap.size) s.heap (wI S F_2) H locs := by rw [eF_2]; exact hH
  obtain ⟨I_3, ⟨k0_3, h0_3⟩, hst_3⟩ := hp
  have kl_3 : ∀ (n_3 : Nat) (F_4 : Nat → Nat → Int32) (H : Heap) (locs : List Loc) (ls : Array Slot), I_3 n_3 F_4 → Hp G (FA S s.heap.size) s.heap (wI S F_4) H locs → lv_has ls 1 [(0, .ref th)] → Wm G p l e { frames := 2, cells := 0, slots := 0, locals := 42 } s m args below meth c S QQ 0 0 H locs 0 0 (F0 m 8 ls []) := by
    intro n_3
    induction n_3 using Nat.strongRecOn with
    | ind n_3 ih_3 =>
      intro F_4 H locs ls hq9 hH hl
      have hp := hst_3 n_3 F_4 hq9
      refine lv_aload_n (pc := 8) hx hb dX7_next_8 rfl (lv_at hl 0 rfl) ?_
      refine sx_getI (pc := 9) (j := 4) B hH hk_th coX7 rfl w_210 rfl dX7_next_9 ?_
      refine W.eq (g2 := F0 m 12 ls [.int (F_4 th 4)]) rfl ?_
      refine lv_aload_n (pc := 12) hx hb dX7_next_12 rfl (lv_at hl 0 rfl) ?_
      refine sx_getI (pc := 13) (j := 3) B hH hk_th coX7 rfl w_209 rfl dX7_next_13 ?_
      refine W.eq (g2 := F0 m 16 ls [.int (F_4 th 3), .int (F_4 th 4)]) rfl ?_
      obtain ⟨J_6, hj_6, hp⟩ := hp
      have kj_6 : ∀  (H : Heap) (locs : List Loc) (ls : Array Slot), J_6  → Hp G (FA S s.heap.size) s.heap (wI S F_4) H locs → lv_has ls 1 [(0, .ref th)] → Wm G p l e { frames := 2, cells := 0, slots := 0, locals := 42 } s m args below meth c S QQ 0 0 H locs 0 0 (F0 m 60 ls []) := by
        intro  H locs ls hq9 hH hl
        have hp := hj_6  hq9
        refine lv_aload_n (pc := 60) hx hb dX7_next_60 rfl (lv_at hl 0 rfl) ?_
        refine lv_aload_n (pc := 61) hx hb dX7_next_61 rfl (lv_at hl 0 rfl) ?_
        refine sx_getI (pc := 62) (j := 4) B hH hk_th coX7 rfl w_210 rfl dX7_next_62 ?_
        refine W.eq (g2 := F0 m 65 ls [.int (F_4 th 4), .ref th]) rfl ?_
        refine lv_topi (fun v_7 ev_7 => ?_)
        have hp := hp v_7 ev_7
        obtain ⟨F_8, eF_8⟩ : ∃ z : Nat → Nat → Int32, z = upI F_4 th 5 v_7 := ⟨_, rfl⟩
        have hp := hp F_8 eF_8
        refine sx_putI (pc := 65) (j := 5) B hH hk_th coX7 rfl w_211 rfl (Or.inl rfl) rfl dX7_next_65 (fun H locs hH => ?_)
        have hH : Hp G (FA S s.heap.size) s.heap (wI S F_8) H locs := by rw [eF_8]; exact hH
        refine lv_aload_n (pc := 68) hx hb dX7_next_68 rfl (lv_at hl 0 rfl) ?_
        refine sx_getI (pc := 69) (j := 4) B hH hk_th coX7 rfl w_210 rfl dX7_next_69 ?_
        refine W.eq (g2 := F0 m 72 ls [.int (F_8 th 4)]) rfl ?_
        refine lv_aload_n (pc := 72) hx hb dX7_next_72 rfl (lv_at hl 0 rfl) ?_
        refine sx_getI (pc := 73) (j := 3) B hH hk_th coX7 rfl w_209 rfl dX7_next_73 ?_
        refine W.eq (g2 := F0 m 76 ls [.int (F_8 th 3), .int (F_8 th 4)]) rfl ?_
        refine lv_icmp_lt (pc := 76) (tgt := 87) hx hb dX7_next_76 (by decide) (fun cc_9 => ?_) (fun cc_9 => ?_)
        · have hp := hp.1 cc_9
          refine lv_aload_n (pc := 87) hx hb dX7_next_87 rfl (lv_at hl 0 rfl) ?_
          refine lv_aload_n (pc := 88) hx hb dX7_next_88 rfl (lv_at hl 0 rfl) ?_
          refine sx_getI (pc := 89) (j := 4) B hH hk_th coX7 rfl w_210 rfl dX7_next_89 ?_
          refine W.eq (g2 := F0 m 92 ls [.int (F_8 th 4), .ref th]) rfl ?_
          refine sx_V (pc := 92) (As := [.int (F_8 th 4)]) (rest := []) B hH hl.1 (C_X7_isLetter G l th (F_8 th 4) _ _ hp) mi_X7_isLetter coX7 hk_th w_608 w_4 w_606 rfl rfl ⟨Nat.le_of_ble_eq_true rfl, Nat.le_of_ble_eq_true rfl⟩ (Nat.le_of_ble_eq_true rfl) ⟨Nat.le_of_ble_eq_true rfl, Nat.le_of_ble_eq_true rfl⟩ dX7_next_92 (fun v S1 H locs hq hH => ?_)
          obtain ⟨r_10, rfl, e9, hp⟩ := hq
          rw [e9] at hH
          refine W.eq (g2 := F0 m 95 ls [.int r_10]) rfl ?_
          refine lv_if_eq (pc := 95) (tgt := 105) hx hb dX7_next_95 (by decide) (fun cc_11 => ?_) (fun cc_11 => ?_)
          · have hp := hp.1 cc_11
            refine lv_aload_n (pc := 105) hx hb dX7_next_105 rfl (lv_at hl 0 rfl) ?_
            refine lv_aload_n (pc := 106) hx hb dX7_next_106 rfl (lv_at hl 0 rfl) ?_
            refine sx_getI (pc := 107) (j := 4) B hH hk_th coX7 rfl w_210 rfl dX7_next_107 ?_
            refine W.eq (g2 := F0 m 110 ls [.int (F_8 th 4), .ref th]) rfl ?_
            refine sx_V (pc := 110) (As := [.int (F_8 th 4)]) (rest := []) B hH hl.1 (C_X7_isDigit G l th (F_8 th 4) _ _ hp) mi_X7_isDigit coX7 hk_th w_616 w_6 w_614 rfl rfl ⟨Nat.le_of_ble_eq_true rfl, Nat.le_of_ble_eq_true rfl⟩ (Nat.le_of_ble_eq_true rfl) ⟨Nat.le_of_ble_eq_true rfl, Nat.le_of_ble_eq_true rfl⟩ dX7_next_110 (fun v S1 H locs hq hH => ?_)
            obtain ⟨r_12, rfl, e9, hp⟩ := hq
            rw [e9] at hH
            refine W.eq (g2 := F0 m 113 ls [.int r_12]) rfl ?_
            refine lv_if_eq (pc := 113) (tgt := 123) hx hb dX7_next_113 (by decide) (fun cc_13 => ?_) (fun cc_13 => ?_)
            · have hp := hp.1 cc_13
              refine lv_aload_n (pc := 123) hx hb dX7_next_123 rfl (lv_at hl 0 rfl) ?_
              refine lv_aload_n (pc := 124) hx hb dX7_next_124 rfl (lv_at hl 0 rfl) ?_
              refine sx_getR (pc := 125) (j := 0) B hH hk_th coX7 rfl w_205 rfl dX7_next_125 ?_
              refine W.eq (g2 := F0 m 128 ls [va_rf (gR S th 0), .ref th]) rfl ?_
              obtain ⟨a_14, ha_14, hp⟩ := hp
              refine sx_nonnull (x := a_14) ha_14 ?_
              refine lv_aload_n (pc := 128) hx hb dX7_next_128 rfl (lv_at hl 0 rfl) ?_
              refine sx_getI (pc := 129) (j := 4) B hH hk_th coX7 rfl w_210 rfl dX7_next_129 ?_
              refine W.eq (g2 := F0 m 132 ls [.int (F_8 th 4), .ref a_14, .ref th]) rfl ?_
              obtain ⟨hk_15, hp⟩ := hp
              obtain ⟨hn_16, hp⟩ := hp
              refine sx_bald (pc := 132) B hH hk_15 hn_16 dX7_next_132 ?_
              refine W.eq (g2 := F0 m 133 ls [.int (F_8 a_14 ((F_8 th 4).toNatClampNeg)), .ref th]) rfl ?_
              refine lv_bipush (pc := 133) (v := 59) hx hb dX7_next_133 (by decide) ?_
              obtain ⟨J_18, hj_18, hp⟩ := hp
              have kj_18 : ∀ (t_19 : Int32) (H : Heap) (locs : List Loc) (ls : Array Slot), J_18 t_19 → Hp G (FA S s.heap.size) s.heap (wI S F_8) H locs → lv_has ls 1 [(0, .ref th)] → Wm G p l e { frames := 2, cells := 0, slots := 0, locals := 42 } s m args below meth c S QQ 0 0 H locs 0 0 (F0 m 143 ls [.int t_19, .ref th]) := by
                intro t_19 H locs ls hq9 hH hl
                have hp := hj_18 t_19 hq9
                obtain ⟨F_20, eF_20⟩ : ∃ z : Nat → Nat → Int32, z = upI F_8 th 6 t_19 := ⟨_, rfl⟩
                have hp := hp F_20 eF_20
                refine sx_putI (pc := 143) (j := 6) B hH hk_th coX7 rfl w_212 rfl (Or.inl rfl) rfl dX7_next_143 (fun H locs hH => ?_)
                have hH : Hp G (FA S s.heap.size) s.heap (wI S F_20) H locs := by rw [eF_20]; exact hH
                refine lv_aload_n (pc := 146) hx hb dX7_next_146 rfl (lv_at hl 0 rfl) ?_
                refine lv_dup (pc := 147) hx hb dX7_next_147 rfl ?_
                refine sx_getI (pc := 148) (j := 5) B hH hk_th coX7 rfl w_211 rfl dX7_next_148 ?_
                refine W.eq (g2 := F0 m 151 ls [.int (F_20 th 5), .ref th]) rfl ?_
                refine lv_iconst (pc := 151) (v := 1) hx hb dX7_next_151 (by decide) ?_
                refine lv_iadd (pc := 152) hx hb dX7_next_152 ?_
                refine lv_topi (fun v_21 ev_21 => ?_)
                have hp := hp v_21 ev_21
                obtain ⟨F_22, eF_22⟩ : ∃ z : Nat → Nat → Int32, z = upI F_20 th 5 v_21 := ⟨_, rfl⟩
                have hp := hp F_22 eF_22
                refine sx_putI (pc := 153) (j := 5) B hH hk_th coX7 rfl w_211 rfl (Or.inl rfl) rfl dX7_next_153 (fun H locs hH => ?_)
                have hH : Hp G (FA S s.heap.size) s.heap (wI S F_22) H locs := by rw [eF_22]; exact hH
                exact sx_vret (pc := 156) B hH hr hlk (by rw [← hQQ]; exact ⟨F_22, (gJ S), rfl, rfl, hp⟩) (Nat.le_of_ble_eq_true rfl) (Nat.le_of_ble_eq_true rfl) dX7_next_156
              refine lv_icmp_ne (pc := 135) (tgt := 142) hx hb dX7_next_135 (by decide) (fun cc_17 => ?_) (fun cc_17 => ?_)
              · have hp := hp.1 cc_17
                refine lv_iconst (pc := 142) (v := 0) hx hb dX7_next_142 (by decide) ?_
                exact kj_18 _ _ _ _ hp hH (lv_sub hl [0] rfl)
              · have hp := hp.2 cc_17
                refine lv_iconst (pc := 138) (v := 2) hx hb dX7_next_138 (by decide) ?_
                refine lv_goto (pc := 139) (tgt := 143) hx hb dX7_next_139 (by decide) ?_
                exact kj_18 _ _ _ _ hp hH (lv_sub hl [0] rfl)
            · have hp := hp.2 cc_13
              refine lv_aload_n (pc := 116) hx hb dX7_next_116 rfl (lv_at hl 0 rfl) ?_
              refine sx_V (pc := 117) (As := []) (rest := []) B hH hl.1 (C_X7_readNumber G l th _ _ hp) mi_X7_readNumber coX7 hk_th w_620 w_7 w_618 rfl rfl ⟨Nat.le_of_ble_eq_true rfl, Nat.le_of_ble_eq_true rfl⟩ (Nat.le_of_ble_eq_true rfl) ⟨Nat.le_of_ble_eq_true rfl, Nat.le_of_ble_eq_true rfl⟩ dX7_next_117 (fun v S1 H locs hq hH => ?_)
              obtain ⟨F_23, rfl, e9, hp⟩ := hq
              rw [e9] at hH
              have hH : Hp G (FA S s.heap.size) s.heap (wI S F_23) H locs := hH
              refine W.eq (g2 := F0 m 120 ls []) rfl ?_
              refine lv_goto (pc := 120) (tgt := 156) hx hb dX7_next_120 (by decide) ?_
              exact sx_vret (pc := 156) B hH hr hlk (by rw [← hQQ]; exact ⟨F_23, (gJ S), rfl, rfl, hp⟩) (Nat.le_of_ble_eq_true rfl) (Nat.le_of_ble_eq_true rfl) dX7_next_156
          · have hp := hp.2 cc_11
            refine lv_aload_n (pc := 98) hx hb dX7_next_98 rfl (lv_at hl 0 rfl) ?_
            refine sx_V (pc := 99) (As := []) (rest := []) B hH hl.1 (C_X7_readWord G l th _ _ hp) mi_X7_readWord coX7 hk_th w_612 w_5 w_610 rfl rfl ⟨Nat.le_of_ble_eq_true rfl, Nat.le_of_ble_eq_true rfl⟩ (Nat.le_of_ble_eq_true rfl) ⟨Nat.le_of_ble_eq_true rfl, Nat.le_of_ble_eq_true rfl⟩ dX7_next_99 (fun v S1 H locs hq hH => ?_)
            obtain ⟨F_24, J_24, rfl, e9, hp⟩ := hq
            rw [e9] at hH
            have hH : Hp G (FA S s.heap.size) s.heap (wA S F_24 J_24 (gR S)) H locs := hH
            refine W.eq (g2 := F0 m 102 ls []) rfl ?_
            refine lv_goto (pc := 102) (tgt := 156) hx hb dX7_next_102 (by decide) ?_
            exact sx_vret (pc := 156) B hH hr hlk (by rw [← hQQ]; exact ⟨F_24, J_24, rfl, rfl, hp⟩) (Nat.le_of_ble_eq_true rfl) (Nat.le_of_ble_eq_true rfl) dX7_next_156
        · have hp := hp.2 cc_9
          refine lv_aload_n (pc := 79) hx hb dX7_next_79 rfl (lv_at hl 0 rfl) ?_
          refine lv_iconst (pc := 80) (v := 1) hx hb dX7_next_80 (by decide) ?_
          obtain ⟨F_25, eF_25⟩ : ∃ z : Nat → Nat → Int32, z = upI F_8 th 6 1 := ⟨_, rfl⟩
          have hp := hp F_25 eF_25
          refine sx_putI (pc := 81) (j := 6) B hH hk_th coX7 rfl w_212 rfl (Or.inl rfl) rfl dX7_next_81 (fun H locs hH => ?_)
          have hH : Hp G (FA S s.heap.size) s.heap (wI S F_25) H locs := by rw [eF_25]; exact hH
          refine lv_goto (pc := 84) (tgt := 156) hx hb dX7_next_84 (by decide) ?_
          exact sx_vret (pc := 156) B hH hr hlk (by rw [← hQQ]; exact ⟨F_25, (gJ S), rfl, rfl, hp⟩) (Nat.le_of_ble_eq_true rfl) (Nat.le_of_ble_eq_true rfl) dX7_next_156
      refine lv_icmp_ge (pc := 16) (tgt := 60) hx hb dX7_next_16 (by decide) (fun cc_5 => ?_) (fun cc_5 => ?_)
      · have hp := hp.1 cc_5
        exact kj_6  _ _ _ hp hH (lv_sub hl [0] rfl)
      · have hp := hp.2 cc_5
        refine lv_aload_n (pc := 19) hx hb dX7_next_19 rfl (lv_at hl 0 rfl) ?_
        refine sx_getR (pc := 20) (j := 0) B hH hk_th coX7 rfl w_205 rfl dX7_next_20 ?_
        refine W.eq (g2 := F0 m 23 ls [va_rf (gR S th 0)]) rfl ?_
        obtain ⟨a_26, ha_26, hp⟩ := hp
        refine sx_nonnull (x := a_26) ha_26 ?_
        refine lv_aload_n (pc := 23) hx hb dX7_next_23 rfl (lv_at hl 0 rfl) ?_
        refine sx_getI (pc := 24) (j := 4) B hH hk_th coX7 rfl w_210 rfl dX7_next_24 ?_
        refine W.eq (g2 := F0 m 27 ls [.int (F_4 th 4), .ref a_26]) rfl ?_
        obtain ⟨hk_27, hp⟩ := hp
        obtain ⟨hn_28, hp⟩ := hp
        refine sx_bald (pc := 27) B hH hk_27 hn_28 dX7_next_27 ?_
        refine W.eq (g2 := F0 m 28 ls [.int (F_4 a_26 ((F_4 th 4).toNatClampNeg))]) rfl ?_
        refine lv_bipush (pc := 28) (v := 32) hx hb dX7_next_28 (by decide) ?_
        obtain ⟨J_30, hj_30, hp⟩ := hp
        have kj_30 : ∀  (H : Heap) (locs : List Loc) (ls : Array Slot), J_30  → Hp G (FA S s.heap.size) s.heap (wI S F_4) H locs → lv_has ls 1 [(0, .ref th)] → Wm G p l e { frames := 2, cells := 0, slots := 0, locals := 42 } s m args below meth c S QQ 0 0 H locs 0 0 (F0 m 47 ls []) := by
          intro  H locs ls hq9 hH hl
          have hp := hj_30  hq9
          refine lv_aload_n (pc := 47) hx hb dX7_next_47 rfl (lv_at hl 0 rfl) ?_
          refine lv_dup (pc := 48) hx hb dX7_next_48 rfl ?_
          refine sx_getI (pc := 49) (j := 4) B hH hk_th coX7 rfl w_210 rfl dX7_next_49 ?_
          refine W.eq (g2 := F0 m 52 ls [.int (F_4 th 4), .ref th]) rfl ?_
          refine lv_iconst (pc := 52) (v := 1) hx hb dX7_next_52 (by decide) ?_
          refine lv_iadd (pc := 53) hx hb dX7_next_53 ?_
          refine lv_topi (fun v_31 ev_31 => ?_)
          have hp := hp v_31 ev_31
          obtain ⟨F_32, eF_32⟩ : ∃ z : Nat → Nat → Int32, z = upI F_4 th 4 v_31 := ⟨_, rfl⟩
          have hp := hp F_32 eF_32
          refine sx_putI (pc := 54) (j := 4) B hH hk_th coX7 rfl w_210 rfl (Or.inl rfl) rfl dX7_next_54 (fun H locs hH => ?_)
          have hH : Hp G (FA S s.heap.size) s.heap (wI S F_32) H locs := by rw [eF_32]; exact hH
          refine lv_goto (pc := 57) (tgt := 8) hx hb dX7_next_57 (by decide) ?_
          obtain ⟨k9, hlt9, hp⟩ := hp
          exact ih_3 k9 hlt9 _ _ _ _ hp hH (lv_sub hl [0] rfl)
        refine lv_icmp_eq (pc := 30) (tgt := 47) hx hb dX7_next_30 (by decide) (fun cc_29 => ?_) (fun cc_29 => ?_)
        · have hp := hp.1 cc_29
          exact kj_30  _ _ _ hp hH (lv_sub hl [0] rfl)
        · have hp := hp.2 cc_29
          refine lv_aload_n (pc := 33) hx hb dX7_next_33 rfl (lv_at hl 0 rfl) ?_
          refine sx_getR (pc := 34) (j := 0) B hH hk_th coX7 rfl w_205 rfl dX7_next_34 ?_
          refine W.eq (g2 := F0 m 37 ls [va_rf (gR S th 0)]) rfl ?_
          refine sx_nonnull (x := a_26) ha_26 ?_
          refine lv_aload_n (pc := 37) hx hb dX7_next_37 rfl (lv_at hl 0 rfl) ?_
          refine sx_getI (pc := 38) (j := 4) B hH hk_th coX7 rfl w_210 rfl dX7_next_38 ?_
          refine W.eq (g2 := F0 m 41 ls [.int (F_4 th 4), .ref a_26]) rfl ?_
          refine sx_bald (pc := 41) B hH hk_27 hn_28 dX7_next_41 ?_
          refine W.eq (g2 := F0 m 42 ls [.int (F_4 a_26 ((F_4 th 4).toNatClampNeg))]) rfl ?_
          refine lv_bipush (pc := 42) (v := 10) hx hb dX7_next_42 (by decide) ?_
          refine lv_icmp_ne (pc := 44) (tgt := 60) hx hb dX7_next_44 (by decide) (fun cc_33 => ?_) (fun cc_33 => ?_)
          · have hp := hp.1 cc_33
            exact kj_6  _ _ _ hp hH (lv_sub hl [0] rfl)
          · have hp := hp.2 cc_33
            exact kj_30  _ _ _ hp hH (lv_sub hl [0] rfl)
  exact kl_3 k0_3 _ _ _ _ h0_3 hH (lv_sub hl [0] rfl)
theorem dX7_open_0 : decode cX7_open 0 = .ok (.aload_n 0, 1) := by decide +kernel
theorem dX7_open_1 : decode cX7_open 1 = .ok (.iload_n 1, 1) := by decide +kernel
theorem dX7_open_2 : decode cX7_open 2 = .ok (.aload_n 0, 1) := by decide +kernel
theorem dX7_open_3 : decode cX7_open 3 = .ok (.getfield 9, 3) := by decide +kernel
theorem dX7_open_6 : decode cX7_open 6 = .ok (.arraylength, 1) := by decide +kernel
theorem dX7_open_7 : decode cX7_open 7 = .ok (.invokestatic 75, 3) := by decide +kernel
theorem dX7_open_10 : decode cX7_open 10 = .ok (.putfield 23, 3) := by decide +kernel
theorem dX7_open_13 : decode cX7_open 13 = .ok (.aload_n 0, 1) := by decide +kernel
theorem dX7_open_14 : decode cX7_open 14 = .ok (.iconst 0, 1) := by decide +kernel
theorem dX7_open_15 : decode cX7_open 15 = .ok (.putfield 15, 3) := by decide +kernel
theorem dX7_open_18 : decode cX7_open 18 = .ok (.aload_n 0, 1) := by decide +kernel
theorem dX7_open_19 : decode cX7_open 19 = .ok (.iconst 0, 1) := by decide +kernel
theorem dX7_open_20 : decode cX7_open 20 = .ok (.putfield 29, 3) := by decide +kernel
theorem dX7_open_23 : decode cX7_open 23 = .ok (.aload_n 0, 1) := by decide +kernel
theorem dX7_open_24 : decode cX7_open 24 = .ok (.iconst 0, 1) := by decide +kernel
theorem dX7_open_25 : decode cX7_open 25 = .ok (.putfield 42, 3) := by decide +kernel
theorem dX7_open_28 : decode cX7_open 28 = .ok (.aload_n 0, 1) := by decide +kernel
theorem dX7_open_29 : decode cX7_open 29 = .ok (.iconst (-1), 1) := by decide +kernel
theorem dX7_open_30 : decode cX7_open 30 = .ok (.putfield 45, 3) := by decide +kernel
theorem dX7_open_33 : decode cX7_open 33 = .ok (.aload_n 0, 1) := by decide +kernel
theorem dX7_open_34 : decode cX7_open 34 = .ok (.invokevirtual 81, 3) := by decide +kernel
theorem dX7_open_37 : decode cX7_open 37 = .ok (.return_, 1) := by decide +kernel
theorem mi_X7_open : MI yX7_open cX7_open 2 (none : Option Jvm.ClassFile.FieldType) 1 := ⟨w_598, w_106, by decide +kernel, by decide +kernel, by decide +kernel⟩
set_option maxRecDepth 100000 in
set_option maxHeartbeats 4000000 in
theorem C_X7_open (G : GG) (l : Launch) (th : Nat) (p0 : Int32) (S : St) (Q : (Nat → Nat → Int32) → (Nat → Nat → Int64) → Prop) (hp : P_X7_open th p0 S Q) : Ctr G l yX7_open cX7_open 2 (none : Option Jvm.ClassFile.FieldType) 3 62 0 0 [.ref th, .int p0] S (fun (v : Option Value) (S9 : St) => ∃ (I9 : Nat → Nat → Int32) (J9 : Nat → Nat → Int64), v = none ∧ S9 = wA S I9 J9 (gR S) ∧ Q I9 J9) := by
  generalize hQQ : (fun (v : Option Value) (S9 : St) => ∃ (I9 : Nat → Nat → Int32) (J9 : Nat → Nat → Int64), v = none ∧ S9 = wA S I9 J9 (gR S) ∧ Q I9 J9) = QQ
  unfold P_X7_open at hp
  refine Ctr.of (by decide) (Nat.le_of_ble_eq_true rfl) ?_
  intro p e s m args below meth c ls B hr hlk hin hl hH
  generalize hlocs0 : ([] : List Loc) = locs at hH ⊢
  have hx := B.1
  have hb := B.2.1
  have hl : lv_has ls 2 [(0, .ref th), (1, .int p0)] := hl
  obtain ⟨hk_th, hp⟩ := hp
  refine lv_aload_n (pc := 0) hx hb dX7_open_0 rfl (lv_at hl 0 rfl) ?_
  refine lv_iload_n (pc := 1) hx hb dX7_open_1 rfl (lv_at hl 1 rfl) ?_
  refine lv_aload_n (pc := 2) hx hb dX7_open_2 rfl (lv_at hl 0 rfl) ?_
  refine sx_getR (pc := 3) (j := 0) B hH hk_th coX7 rfl w_205 rfl dX7_open_3 ?_
  refine W.eq (g2 := F0 m 6 ls [va_rf (gR S th 0), .int p0, .ref th]) rfl ?_
  obtain ⟨a_1, ha_1, hp⟩ := hp
  refine sx_nonnull (x := a_1) ha_1 ?_
  obtain ⟨hk_2, hp⟩ := hp
  refine sx_alen (pc := 6) B hH hk_2 (by decide) (by decide) dX7_open_6 ?_
  refine W.eq (g2 := F0 m 7 ls [.int (nI (ln S a_1)), .int p0, .ref th]) rfl ?_
  refine sx_min (pc := 7) B hl.1 w_599 w_600 w_121 w_min (Nat.le_of_ble_eq_true rfl) (Nat.le_of_ble_eq_true rfl) (Nat.le_of_ble_eq_true rfl) (Nat.le_of_ble_eq_true rfl) dX7_open_7 ?_
  refine W.eq (g2 := F0 m 10 ls [.int (imin p0 (nI (ln S a_1))), .ref th]) rfl ?_
  refine lv_topi (fun v_3 ev_3 => ?_)
  have hp := hp v_3 ev_3
  obtain ⟨F_4, eF_4⟩ : ∃ z : Nat → Nat → Int32, z = upI (gI S) th 3 v_3 := ⟨_, rfl⟩
  have hp := hp F_4 eF_4
  refine sx_putI (pc := 10) (j := 3) B hH hk_th coX7 rfl w_209 rfl (Or.inl rfl) rfl dX7_open_10 (fun H locs hH => ?_)
  have hH : Hp G (FA S s.heap.size) s.heap (wI S F_4) H locs := by rw [eF_4]; exact hH
  refine lv_aload_n (pc := 13) hx hb dX7_open_13 rfl (lv_at hl 0 rfl) ?_
  refine lv_iconst (pc := 14) (v := 0) hx hb dX7_open_14 (by decide) ?_
  obtain ⟨F_5, eF_5⟩ : ∃ z : Nat → Nat → Int32, z = upI F_4 th 1 0 := ⟨_, rfl⟩
  have hp := hp F_5 eF_5
  refine sx_putI (pc := 15) (j := 1) B hH hk_th coX7 rfl w_206 rfl (Or.inl rfl) rfl dX7_open_15 (fun H locs hH => ?_)
  have hH : Hp G (FA S s.heap.size) s.heap (wI S F_5) H locs := by rw [eF_5]; exact hH
  refine lv_aload_n (pc := 18) hx hb dX7_open_18 rfl (lv_at hl 0 rfl) ?_
  refine lv_iconst (pc := 19) (v := 0) hx hb dX7_open_19 (by decide) ?_
  obtain ⟨F_6, eF_6⟩ : ∃ z : Nat → Nat → Int32, z = upI F_5 th 5 0 := ⟨_, rfl⟩
  have hp := hp F_6 eF_6
  refine sx_putI (pc := 20) (j := 5) B hH hk_th coX7 rfl w_211 rfl (Or.inl rfl) rfl dX7_open_20 (fun H locs hH => ?_)
  have hH : Hp G (FA S s.heap.size) s.heap (wI S F_6) H locs := by rw [eF_6]; exact hH
  refine lv_aload_n (pc := 23) hx hb dX7_open_23 rfl (lv_at hl 0 rfl) ?_
  refine lv_iconst (pc := 24) (v := 0) hx hb dX7_open_24 (by decide) ?_
  obtain ⟨F_7, eF_7⟩ : ∃ z : Nat → Nat → Int32, z = upI F_6 th 9 0 := ⟨_, rfl⟩
  have hp := hp F_7 eF_7
  refine sx_putI (pc := 25) (j := 9) B hH hk_th coX7 rfl w_220 rfl (Or.inl rfl) rfl dX7_open_25 (fun H locs hH => ?_)
  have hH : Hp G (FA S s.heap.size) s.heap (wI S F_7) H locs := by rw [eF_7]; exact hH
  refine lv_aload_n (pc := 28) hx hb dX7_open_28 rfl (lv_at hl 0 rfl) ?_
  refine lv_iconst (pc := 29) (v := (-1)) hx hb dX7_open_29 (by decide) ?_
  obtain ⟨F_8, eF_8⟩ : ∃ z : Nat → Nat → Int32, z = upI F_7 th 10 (-1) := ⟨_, rfl⟩
  have hp := hp F_8 eF_8
  refine sx_putI (pc := 30) (j := 10) B hH hk_th coX7 rfl w_222 rfl (Or.inl rfl) rfl dX7_open_30 (fun H locs hH => ?_)
  have hH : Hp G (FA S s.heap.size) s.heap (wI S F_8) H locs := by rw [eF_8]; exact hH
  refine lv_aload_n (pc := 33) hx hb dX7_open_33 rfl (lv_at hl 0 rfl) ?_
  refine sx_V (pc := 34) (As := []) (rest := []) B hH hl.1 (C_X7_next G l th _ _ hp) mi_X7_next coX7 hk_th w_603 w_604 w_602 rfl rfl ⟨Nat.le_of_ble_eq_true rfl, Nat.le_of_ble_eq_true rfl⟩ (Nat.le_of_ble_eq_true rfl) ⟨Nat.le_of_ble_eq_true rfl, Nat.le_of_ble_eq_true rfl⟩ dX7_open_34 (fun v S1 H locs hq hH => ?_)
  obtain ⟨F_9, J_9, rfl, e9, hp⟩ := hq
  rw [e9] at hH
  have hH : Hp G (FA S s.heap.size) s.heap (wA S F_9 J_9 (gR S)) H locs := hH
  refine W.eq (g2 := F0 m 37 ls []) rfl ?_
  exact sx_vret (pc := 37) B hH hr hlk (by rw [← hQQ]; exact ⟨F_9, J_9, rfl, rfl, hp⟩) (Nat.le_of_ble_eq_true rfl) (Nat.le_of_ble_eq_true rfl) dX7_open_37
theorem dX7_wrong_0 : decode cX7_wrong 0 = .ok (.aload_n 0, 1) := by decide +kernel
theorem dX7_wrong_1 : decode cX7_wrong 1 = .ok (.iload_n 1, 1) := by decide +kernel
theorem dX7_wrong_2 : decode cX7_wrong 2 = .ok (.putfield 42, 3) := by decide +kernel
theorem dX7_wrong_5 : decode cX7_wrong 5 = .ok (.aload_n 0, 1) := by decide +kernel
theorem dX7_wrong_6 : decode cX7_wrong 6 = .ok (.aload_n 0, 1) := by decide +kernel
theorem dX7_wrong_7 : decode cX7_wrong 7 = .ok (.getfield 26, 3) := by decide +kernel
theorem dX7_wrong_10 : decode cX7_wrong 10 = .ok (.putfield 45, 3) := by decide +kernel
theorem dX7_wrong_13 : decode cX7_wrong 13 = .ok (.iconst 0, 1) := by decide +kernel
theorem dX7_wrong_14 : decode cX7_wrong 14 = .ok (.ireturn, 1) := by decide +kernel
theorem mi_X7_wrong : MI yX7_wrong cX7_wrong 2 (some FieldType.boolean) 1 := ⟨w_637, w_106, by decide +kernel, by decide +kernel, by decide +kernel⟩
set_option maxRecDepth 100000 in
set_option maxHeartbeats 4000000 in
theorem C_X7_wrong (G : GG) (l : Launch) (th : Nat) (p0 : Int32) (S : St) (Q : Int32 → (Nat → Nat → Int32) → Prop) (hp : P_X7_wrong th p0 S Q) : Ctr G l yX7_wrong cX7_wrong 2 (some FieldType.boolean) 0 0 0 0 [.ref th, .int p0] S (fun (v : Option Value) (S9 : St) => ∃ (r : Int32) (I9 : Nat → Nat → Int32), v = some (.int r) ∧ S9 = wI S I9 ∧ Q r I9) := by
  generalize hQQ : (fun (v : Option Value) (S9 : St) => ∃ (r : Int32) (I9 : Nat → Nat → Int32), v = some (.int r) ∧ S9 = wI S I9 ∧ Q r I9) = QQ
  unfold P_X7_wrong at hp
  refine Ctr.of (by decide) (Nat.le_of_ble_eq_true rfl) ?_
  intro p e s m args below meth c ls B hr hlk hin hl hH
  generalize hlocs0 : ([] : List Loc) = locs at hH ⊢
  have hx := B.1
  have hb := B.2.1
  have hl : lv_has ls 2 [(0, .ref th), (1, .int p0)] := hl
  obtain ⟨hk_th, hp⟩ := hp
  refine lv_aload_n (pc := 0) hx hb dX7_wrong_0 rfl (lv_at hl 0 rfl) ?_
  refine lv_iload_n (pc := 1) hx hb dX7_wrong_1 rfl (lv_at hl 1 rfl) ?_
  obtain ⟨F_1, eF_1⟩ : ∃ z : Nat → Nat → Int32, z = upI (gI S) th 9 p0 := ⟨_, rfl⟩
  have hp := hp F_1 eF_1
  refine sx_putI (pc := 2) (j := 9) B hH hk_th coX7 rfl w_220 rfl (Or.inl rfl) rfl dX7_wrong_2 (fun H locs hH => ?_)
  have hH : Hp G (FA S s.heap.size) s.heap (wI S F_1) H locs := by rw [eF_1]; exact hH
  refine lv_aload_n (pc := 5) hx hb dX7_wrong_5 rfl (lv_at hl 0 rfl) ?_
  refine lv_aload_n (pc := 6) hx hb dX7_wrong_6 rfl (lv_at hl 0 rfl) ?_
  refine sx_getI (pc := 7) (j := 4) B hH hk_th coX7 rfl w_210 rfl dX7_wrong_7 ?_
  refine W.eq (g2 := F0 m 10 ls [.int (F_1 th 4), .ref th]) rfl ?_
  refine lv_topi (fun v_2 ev_2 => ?_)
  have hp := hp v_2 ev_2
  obtain ⟨F_3, eF_3⟩ : ∃ z : Nat → Nat → Int32, z = upI F_1 th 10 v_2 := ⟨_, rfl⟩
  have hp := hp F_3 eF_3
  refine sx_putI (pc := 10) (j := 10) B hH hk_th coX7 rfl w_222 rfl (Or.inl rfl) rfl dX7_wrong_10 (fun H locs hH => ?_)
  have hH : Hp G (FA S s.heap.size) s.heap (wI S F_3) H locs := by rw [eF_3]; exact hH
  refine lv_iconst (pc := 13) (v := 0) hx hb dX7_wrong_13 (by decide) ?_
  exact sx_zret (pc := 14) B hH hr hlk (Or.inl rfl) (by rw [← hQQ]; exact ⟨_, F_3, rfl, rfl, hp⟩) (Nat.le_of_ble_eq_true rfl) (Nat.le_of_ble_eq_true rfl) dX7_wrong_14
theorem dX7_misplaced_0 : decode cX7_misplaced 0 = .ok (.aload_n 0, 1) := by decide +kernel
theorem dX7_misplaced_1 : decode cX7_misplaced 1 = .ok (.aload_n 0, 1) := by decide +kernel
theorem dX7_misplaced_2 : decode cX7_misplaced 2 = .ok (.getfield 32, 3) := by decide +kernel
theorem dX7_misplaced_5 : decode cX7_misplaced 5 = .ok (.ifCond .ne 7, 3) := by decide +kernel
theorem dX7_misplaced_8 : decode cX7_misplaced 8 = .ok (.iconst 1, 1) := by decide +kernel
theorem dX7_misplaced_9 : decode cX7_misplaced 9 = .ok (.goto 4, 3) := by decide +kernel
theorem dX7_misplaced_12 : decode cX7_misplaced 12 = .ok (.iconst 2, 1) := by decide +kernel
theorem dX7_misplaced_13 : decode cX7_misplaced 13 = .ok (.invokevirtual 112, 3) := by decide +kernel
theorem dX7_misplaced_16 : decode cX7_misplaced 16 = .ok (.ireturn, 1) := by decide +kernel
theorem mi_X7_misplaced : MI yX7_misplaced cX7_misplaced 1 (some FieldType.boolean) 0 := ⟨w_633, w_106, by decide +kernel, by decide +kernel, by decide +kernel⟩
set_option maxRecDepth 100000 in
set_option maxHeartbeats 4000000 in
theorem C_X7_misplaced (G : GG) (l : Launch) (th : Nat) (S : St) (Q : Int32 → (Nat → Nat → Int32) → Prop) (hp : P_X7_misplaced th S Q) : Ctr G l yX7_misplaced cX7_misplaced 1 (some FieldType.boolean) 1 21 0 0 [.ref th] S (fun (v : Option Value) (S9 : St) => ∃ (r : Int32) (I9 : Nat → Nat → Int32), v = some (.int r) ∧ S9 = wI S I9 ∧ Q r I9) := by
  generalize hQQ : (fun (v : Option Value) (S9 : St) => ∃ (r : Int32) (I9 : Nat → Nat → Int32), v = some (.int r) ∧ S9 = wI S I9 ∧ Q r I9) = QQ
  unfold P_X7_misplaced at hp
  refine Ctr.of (by decide) (Nat.le_of_ble_eq_true rfl) ?_
  intro p e s m args below meth c ls B hr hlk hin hl hH
  generalize hlocs0 : ([] : List Loc) = locs at hH ⊢
  have hx := B.1
  have hb := B.2.1
  have hl : lv_has ls 1 [(0, .ref th)] := hl
  obtain ⟨hk_th, hp⟩ := hp
  refine lv_aload_n (pc := 0) hx hb dX7_misplaced_0 rfl (lv_at hl 0 rfl) ?_
  refine lv_aload_n (pc := 1) hx hb dX7_misplaced_1 rfl (lv_at hl 0 rfl) ?_
  refine sx_getI (pc := 2) (j := 6) B hH hk_th coX7 rfl w_212 rfl dX7_misplaced_2 ?_
  refine W.eq (g2 := F0 m 5 ls [.int (gI S th 6), .ref th]) rfl ?_
  obtain ⟨J_2, hj_2, hp⟩ := hp
  have kj_2 : ∀ (t_3 : Int32) (H : Heap) (locs : List Loc) (ls : Array Slot), J_2 t_3 → Hp G (FA S s.heap.size) s.heap S H locs → lv_has ls 1 [] → Wm G p l e { frames := 1, cells := 0, slots := 0, locals := 21 } s m args below meth c S QQ 0 0 H locs 0 0 (F0 m 13 ls [.int t_3, .ref th]) := by
    intro t_3 H locs ls hq9 hH hl
    have hp := hj_2 t_3 hq9
    refine sx_V (pc := 13) (As := [.int t_3]) (rest := []) B hH hl.1 (C_X7_wrong G l th t_3 _ _ hp) mi_X7_wrong coX7 hk_th w_635 w_636 w_634 rfl rfl ⟨Nat.le_of_ble_eq_true rfl, Nat.le_of_ble_eq_true rfl⟩ (Nat.le_of_ble_eq_true rfl) ⟨Nat.le_of_ble_eq_true rfl, Nat.le_of_ble_eq_true rfl⟩ dX7_misplaced_13 (fun v S1 H locs hq hH => ?_)
    obtain ⟨r_4, F_4, rfl, e9, hp⟩ := hq
    rw [e9] at hH
    have hH : Hp G (FA S s.heap.size) s.heap (wI S F_4) H locs := hH
    refine W.eq (g2 := F0 m 16 ls [.int r_4]) rfl ?_
    obtain ⟨hz, hp⟩ := hp
    exact sx_zret (pc := 16) B hH hr hlk hz (by rw [← hQQ]; exact ⟨_, F_4, rfl, rfl, hp⟩) (Nat.le_of_ble_eq_true rfl) (Nat.le_of_ble_eq_true rfl) dX7_misplaced_16
  refine lv_if_ne (pc := 5) (tgt := 12) hx hb dX7_misplaced_5 (by decide) (fun cc_1 => ?_) (fun cc_1 => ?_)
  · have hp := hp.1 cc_1
    refine lv_iconst (pc := 12) (v := 2) hx hb dX7_misplaced_12 (by decide) ?_
    exact kj_2 _ _ _ _ hp hH (lv_sub hl [] rfl)
  · have hp := hp.2 cc_1
    refine lv_iconst (pc := 8) (v := 1) hx hb dX7_misplaced_8 (by decide) ?_
    refine lv_goto (pc := 9) (tgt := 13) hx hb dX7_misplaced_9 (by decide) ?_
    exact kj_2 _ _ _ _ hp hH (lv_sub hl [] rfl)
theorem dX7_take_0 : decode cX7_take 0 = .ok (.aload_n 0, 1) := by decide +kernel
theorem dX7_take_1 : decode cX7_take 1 = .ok (.getfield 32, 3) := by decide +kernel
theorem dX7_take_4 : decode cX7_take 4 = .ok (.iload_n 1, 1) := by decide +kernel
theorem dX7_take_5 : decode cX7_take 5 = .ok (.if_icmp .eq 8, 3) := by decide +kernel
theorem dX7_take_8 : decode cX7_take 8 = .ok (.aload_n 0, 1) := by decide +kernel
theorem dX7_take_9 : decode cX7_take 9 = .ok (.invokevirtual 108, 3) := by decide +kernel
theorem dX7_take_12 : decode cX7_take 12 = .ok (.ireturn, 1) := by decide +kernel
theorem dX7_take_13 : decode cX7_take 13 = .ok (.aload_n 0, 1) := by decide +kernel
theorem dX7_take_14 : decode cX7_take 14 = .ok (.invokevirtual 81, 3) := by decide +kernel
theorem dX7_take_17 : decode cX7_take 17 = .ok (.iconst 1, 1) := by decide +kernel
theorem dX7_take_18 : decode cX7_take 18 = .ok (.ireturn, 1) := by decide +kernel
theorem mi_X7_take : MI yX7_take cX7_take 2 (some FieldType.boolean) 1 := ⟨w_629, w_106, by decide +kernel, by decide +kernel, by decide +kernel⟩
set_option maxRecDepth 100000 in
set_option maxHeartbeats 4000000 in
theorem C_X7_take (G : GG) (l : Launch) (th : Nat) (p0 : Int32) (S : St) (Q : Int32 → (Nat → Nat → Int32) → (Nat → Nat → Int64) → Prop) (hp : P_X7_take th p0 S Q) : Ctr G l yX7_take cX7_take 2 (some FieldType.boolean) 3 62 0 0 [.ref th, .int p0] S (fun (v : Option Value) (S9 : St) => ∃ (r : Int32) (I9 : Nat → Nat → Int32) (J9 : Nat → Nat → Int64), v = some (.int r) ∧ S9 = wA S I9 J9 (gR S) ∧ Q r I9 J9) := by
  generalize hQQ : (fun (v : Option Value) (S9 : St) => ∃ (r : Int32) (I9 : Nat → Nat → Int32) (J9 : Nat → Nat → Int64), v = some (.int r) ∧ S9 = wA S I9 J9 (gR S) ∧ Q r I9 J9) = QQ
  unfold P_X7_take at hp
  refine Ctr.of (by decide) (Nat.le_of_ble_eq_true rfl) ?_
  intro p e s m args below meth c ls B hr hlk hin hl hH
  generalize hlocs0 : ([] : List Loc) = locs at hH ⊢
  have hx := B.1
  have hb := B.2.1
  have hl : lv_has ls 2 [(0, .ref th), (1, .int p0)] := hl
  obtain ⟨hk_th, hp⟩ := hp
  refine lv_aload_n (pc := 0) hx hb dX7_take_0 rfl (lv_at hl 0 rfl) ?_
  refine sx_getI (pc := 1) (j := 6) B hH hk_th coX7 rfl w_212 rfl dX7_take_1 ?_
  refine W.eq (g2 := F0 m 4 ls [.int (gI S th 6)]) rfl ?_
  refine lv_iload_n (pc := 4) hx hb dX7_take_4 rfl (lv_at hl 1 rfl) ?_
  refine lv_icmp_eq (pc := 5) (tgt := 13) hx hb dX7_take_5 (by decide) (fun cc_1 => ?_) (fun cc_1 => ?_)
  · have hp := hp.1 cc_1
    refine lv_aload_n (pc := 13) hx hb dX7_take_13 rfl (lv_at hl 0 rfl) ?_
    refine sx_V (pc := 14) (As := []) (rest := []) B hH hl.1 (C_X7_next G l th _ _ hp) mi_X7_next coX7 hk_th w_603 w_604 w_602 rfl rfl ⟨Nat.le_of_ble_eq_true rfl, Nat.le_of_ble_eq_true rfl⟩ (Nat.le_of_ble_eq_true rfl) ⟨Nat.le_of_ble_eq_true rfl, Nat.le_of_ble_eq_true rfl⟩ dX7_take_14 (fun v S1 H locs hq hH => ?_)
    obtain ⟨F_2, J_2, rfl, e9, hp⟩ := hq
    rw [e9] at hH
    have hH : Hp G (FA S s.heap.size) s.heap (wA S F_2 J_2 (gR S)) H locs := hH
    refine W.eq (g2 := F0 m 17 ls []) rfl ?_
    refine lv_iconst (pc := 17) (v := 1) hx hb dX7_take_17 (by decide) ?_
    exact sx_zret (pc := 18) B hH hr hlk (Or.inr rfl) (by rw [← hQQ]; exact ⟨_, F_2, J_2, rfl, rfl, hp⟩) (Nat.le_of_ble_eq_true rfl) (Nat.le_of_ble_eq_true rfl) dX7_take_18
  · have hp := hp.2 cc_1
    refine lv_aload_n (pc := 8) hx hb dX7_take_8 rfl (lv_at hl 0 rfl) ?_
    refine sx_V (pc := 9) (As := []) (rest := []) B hH hl.1 (C_X7_misplaced G l th _ _ hp) mi_X7_misplaced coX7 hk_th w_631 w_632 w_630 rfl rfl ⟨Nat.le_of_ble_eq_true rfl, Nat.le_of_ble_eq_true rfl⟩ (Nat.le_of_ble_eq_true rfl) ⟨Nat.le_of_ble_eq_true rfl, Nat.le_of_ble_eq_true rfl⟩ dX7_take_9 (fun v S1 H locs hq hH => ?_)
    obtain ⟨r_3, F_3, rfl, e9, hp⟩ := hq
    rw [e9] at hH
    have hH : Hp G (FA S s.heap.size) s.heap (wI S F_3) H locs := hH
    refine W.eq (g2 := F0 m 12 ls [.int r_3]) rfl ?_
    obtain ⟨hz, hp⟩ := hp
    exact sx_zret (pc := 12) B hH hr hlk hz (by rw [← hQQ]; exact ⟨_, F_3, (gJ S), rfl, rfl, hp⟩) (Nat.le_of_ble_eq_true rfl) (Nat.le_of_ble_eq_true rfl) dX7_take_12
theorem dX7_isAt_0 : decode cX7_isAt 0 = .ok (.aload_n 0, 1) := by decide +kernel
theorem dX7_isAt_1 : decode cX7_isAt 1 = .ok (.getfield 32, 3) := by decide +kernel
theorem dX7_isAt_4 : decode cX7_isAt 4 = .ok (.iload_n 1, 1) := by decide +kernel
theorem dX7_isAt_5 : decode cX7_isAt 5 = .ok (.if_icmp .ne 7, 3) := by decide +kernel
theorem dX7_isAt_8 : decode cX7_isAt 8 = .ok (.iconst 1, 1) := by decide +kernel
theorem dX7_isAt_9 : decode cX7_isAt 9 = .ok (.goto 4, 3) := by decide +kernel
theorem dX7_isAt_12 : decode cX7_isAt 12 = .ok (.iconst 0, 1) := by decide +kernel
theorem dX7_isAt_13 : decode cX7_isAt 13 = .ok (.ireturn, 1) := by decide +kernel
theorem mi_X7_isAt : MI yX7_isAt cX7_isAt 2 (some FieldType.boolean) 1 := ⟨w_641, w_106, by decide +kernel, by decide +kernel, by decide +kernel⟩
set_option maxRecDepth 100000 in
set_option maxHeartbeats 4000000 in
theorem C_X7_isAt (G : GG) (l : Launch) (th : Nat) (p0 : Int32) (S : St) (Q : Int32 → Prop) (hp : P_X7_isAt th p0 S Q) : Ctr G l yX7_isAt cX7_isAt 2 (some FieldType.boolean) 0 0 0 0 [.ref th, .int p0] S (fun (v : Option Value) (S9 : St) => ∃ (r : Int32), v = some (.int r) ∧ S9 = S ∧ Q r ) := by
  generalize hQQ : (fun (v : Option Value) (S9 : St) => ∃ (r : Int32), v = some (.int r) ∧ S9 = S ∧ Q r ) = QQ
  unfold P_X7_isAt at hp
  refine Ctr.of (by decide) (Nat.le_of_ble_eq_true rfl) ?_
  intro p e s m args below meth c ls B hr hlk hin hl hH
  generalize hlocs0 : ([] : List Loc) = locs at hH ⊢
  have hx := B.1
  have hb := B.2.1
  have hl : lv_has ls 2 [(0, .ref th), (1, .int p0)] := hl
  obtain ⟨hk_th, hp⟩ := hp
  refine lv_aload_n (pc := 0) hx hb dX7_isAt_0 rfl (lv_at hl 0 rfl) ?_
  refine sx_getI (pc := 1) (j := 6) B hH hk_th coX7 rfl w_212 rfl dX7_isAt_1 ?_
  refine W.eq (g2 := F0 m 4 ls [.int (gI S th 6)]) rfl ?_
  refine lv_iload_n (pc := 4) hx hb dX7_isAt_4 rfl (lv_at hl 1 rfl) ?_
  refine lv_icmp_ne (pc := 5) (tgt := 12) hx hb dX7_isAt_5 (by decide) (fun cc_1 => ?_) (fun cc_1 => ?_)
  · have hp := hp.1 cc_1
    refine lv_iconst (pc := 12) (v := 0) hx hb dX7_isAt_12 (by decide) ?_
    exact sx_zret (pc := 13) B hH hr hlk (Or.inl rfl) (by rw [← hQQ]; exact ⟨_, rfl, rfl, hp⟩) (Nat.le_of_ble_eq_true rfl) (Nat.le_of_ble_eq_true rfl) dX7_isAt_13
  · have hp := hp.2 cc_1
    refine lv_iconst (pc := 8) (v := 1) hx hb dX7_isAt_8 (by decide) ?_
    refine lv_goto (pc := 9) (tgt := 13) hx hb dX7_isAt_9 (by decide) ?_
    exact sx_zret (pc := 13) B hH hr hlk (Or.inr rfl) (by rw [← hQQ]; exact ⟨_, rfl, rfl, hp⟩) (Nat.le_of_ble_eq_true rfl) (Nat.le_of_ble_eq_true rfl) dX7_isAt_13
theorem dX4_moveAround_0 : decode cX4_moveAround 0 = .ok (.iconst 0, 1) := by decide +kernel
theorem dX4_moveAround_1 : decode cX4_moveAround 1 = .ok (.istore_n 2, 1) := by decide +kernel
theorem dX4_moveAround_2 : decode cX4_moveAround 2 = .ok (.iconst 0, 1) := by decide +kernel
theorem dX4_moveAround_3 : decode cX4_moveAround 3 = .ok (.istore_n 3, 1) := by decide +kernel
theorem dX4_moveAround_4 : decode cX4_moveAround 4 = .ok (.iload_n 3, 1) := by decide +kernel
theorem dX4_moveAround_5 : decode cX4_moveAround 5 = .ok (.iload_n 1, 1) := by decide +kernel
theorem dX4_moveAround_6 : decode cX4_moveAround 6 = .ok (.if_icmp .ge 48, 3) := by decide +kernel
theorem dX4_moveAround_9 : decode cX4_moveAround 9 = .ok (.iload_n 0, 1) := by decide +kernel
theorem dX4_moveAround_10 : decode cX4_moveAround 10 = .ok (.iconst 1, 1) := by decide +kernel
theorem dX4_moveAround_11 : decode cX4_moveAround 11 = .ok (.iload_n 3, 1) := by decide +kernel
theorem dX4_moveAround_12 : decode cX4_moveAround 12 = .ok (.ishl, 1) := by decide +kernel
theorem dX4_moveAround_13 : decode cX4_moveAround 13 = .ok (.iand, 1) := by decide +kernel
theorem dX4_moveAround_14 : decode cX4_moveAround 14 = .ok (.ifCond .ne 34, 3) := by decide +kernel
theorem dX4_moveAround_17 : decode cX4_moveAround 17 = .ok (.iload_n 3, 1) := by decide +kernel
theorem dX4_moveAround_18 : decode cX4_moveAround 18 = .ok (.iconst 1, 1) := by decide +kernel
theorem dX4_moveAround_19 : decode cX4_moveAround 19 = .ok (.iadd, 1) := by decide +kernel
theorem dX4_moveAround_20 : decode cX4_moveAround 20 = .ok (.iload_n 1, 1) := by decide +kernel
theorem dX4_moveAround_21 : decode cX4_moveAround 21 = .ok (.if_icmp .eq 13, 3) := by decide +kernel
theorem dX4_moveAround_24 : decode cX4_moveAround 24 = .ok (.iload_n 0, 1) := by decide +kernel
theorem dX4_moveAround_25 : decode cX4_moveAround 25 = .ok (.iconst 1, 1) := by decide +kernel
theorem dX4_moveAround_26 : decode cX4_moveAround 26 = .ok (.iload_n 3, 1) := by decide +kernel
theorem dX4_moveAround_27 : decode cX4_moveAround 27 = .ok (.iconst 1, 1) := by decide +kernel
theorem dX4_moveAround_28 : decode cX4_moveAround 28 = .ok (.iadd, 1) := by decide +kernel
theorem dX4_moveAround_29 : decode cX4_moveAround 29 = .ok (.ishl, 1) := by decide +kernel
theorem dX4_moveAround_30 : decode cX4_moveAround 30 = .ok (.iand, 1) := by decide +kernel
theorem dX4_moveAround_31 : decode cX4_moveAround 31 = .ok (.ifCond .eq 5, 3) := by decide +kernel
theorem dX4_moveAround_34 : decode cX4_moveAround 34 = .ok (.iconst (-1), 1) := by decide +kernel
theorem dX4_moveAround_35 : decode cX4_moveAround 35 = .ok (.ireturn, 1) := by decide +kernel
theorem dX4_moveAround_36 : decode cX4_moveAround 36 = .ok (.iload_n 2, 1) := by decide +kernel
theorem dX4_moveAround_37 : decode cX4_moveAround 37 = .ok (.bipush 15, 2) := by decide +kernel
theorem dX4_moveAround_39 : decode cX4_moveAround 39 = .ok (.iconst 4, 1) := by decide +kernel
theorem dX4_moveAround_40 : decode cX4_moveAround 40 = .ok (.iload_n 3, 1) := by decide +kernel
theorem dX4_moveAround_41 : decode cX4_moveAround 41 = .ok (.imul, 1) := by decide +kernel
theorem dX4_moveAround_42 : decode cX4_moveAround 42 = .ok (.ishl, 1) := by decide +kernel
theorem dX4_moveAround_43 : decode cX4_moveAround 43 = .ok (.ior, 1) := by decide +kernel
theorem dX4_moveAround_44 : decode cX4_moveAround 44 = .ok (.istore_n 2, 1) := by decide +kernel
theorem dX4_moveAround_45 : decode cX4_moveAround 45 = .ok (.iinc 3 1, 3) := by decide +kernel
theorem dX4_moveAround_48 : decode cX4_moveAround 48 = .ok (.iinc 3 1, 3) := by decide +kernel
theorem dX4_moveAround_51 : decode cX4_moveAround 51 = .ok (.goto (-47), 3) := by decide +kernel
theorem dX4_moveAround_54 : decode cX4_moveAround 54 = .ok (.iload_n 2, 1) := by decide +kernel
theorem dX4_moveAround_55 : decode cX4_moveAround 55 = .ok (.ireturn, 1) := by decide +kernel
theorem mi_X4_moveAround : MI yX4_moveAround cX4_moveAround 4 (some FieldType.int) 2 := ⟨w_666, w_114, by decide +kernel, by decide +kernel, by decide +kernel⟩
set_option maxRecDepth 100000 in
set_option maxHeartbeats 4000000 in
theorem C_X4_moveAround (G : GG) (l : Launch) (p0 : Int32) (p1 : Int32) (S : St) (Q : Int32 → Prop) (hp : P_X4_moveAround p0 p1 Q) : Ctr G l yX4_moveAround cX4_moveAround 4 (some FieldType.int) 0 0 0 0 [.int p0, .int p1] S (fun (v : Option Value) (S9 : St) => ∃ (r : Int32), v = some (.int r) ∧ S9 = S ∧ Q r ) := by
  generalize hQQ : (fun (v : Option Value) (S9 : St) => ∃ (r : Int32), v = some (.int r) ∧ S9 = S ∧ Q r ) = QQ
  unfold P_X4_moveAround at hp
  refine Ctr.of (by decide) (Nat.le_of_ble_eq_true rfl) ?_
  intro p e s m args below meth c ls B hr hlk hin hl hH
  generalize hlocs0 : ([] : List Loc) = locs at hH ⊢
  have hx := B.1
  have hb := B.2.1
  have hl : lv_has ls 4 [(0, .int p0), (1, .int p1)] := hl
  refine lv_iconst (pc := 0) (v := 0) hx hb dX4_moveAround_0 (by decide) ?_
  refine lv_istore_n (pc := 1) (lv' := [(2, .int 0), (0, .int p0), (1, .int p1)]) hx hb dX4_moveAround_1 rfl hl (by decide) rfl (fun ls hl => ?_)
  refine lv_iconst (pc := 2) (v := 0) hx hb dX4_moveAround_2 (by decide) ?_
  refine lv_istore_n (pc := 3) (lv' := [(3, .int 0), (2, .int 0), (0, .int p0), (1, .int p1)]) hx hb dX4_moveAround_3 rfl hl (by decide) rfl (fun ls hl => ?_)
  obtain ⟨I_1, ⟨k0_1, h0_1⟩, hst_1⟩ := hp
  have kl_1 : ∀ (n_1 : Nat) (x2_2 : Int32) (x3_3 : Int32) (H : Heap) (locs : List Loc) (ls : Array Slot), I_1 n_1 x2_2 x3_3 → Hp G (FA S s.heap.size) s.heap S H locs → lv_has ls 4 [(0, .int p0), (1, .int p1), (2, .int x2_2), (3, .int x3_3)] → Wm G p l e { frames := 0, cells := 0, slots := 0, locals := 0 } s m args below meth c S QQ 0 0 H locs 0 0 (F0 m 4 ls []) := by
    intro n_1
    induction n_1 using Nat.strongRecOn with
    | ind n_1 ih_1 =>
      intro x2_2 x3_3 H locs ls hq9 hH hl
      have hp := hst_1 n_1 x2_2 x3_3 hq9
      refine lv_iload_n (pc := 4) hx hb dX4_moveAround_4 rfl (lv_at hl 3 rfl) ?_
      refine lv_iload_n (pc := 5) hx hb dX4_moveAround_5 rfl (lv_at hl 1 rfl) ?_
      refine lv_icmp_ge (pc := 6) (tgt := 54) hx hb dX4_moveAround_6 (by decide) (fun cc_4 => ?_) (fun cc_4 => ?_)
      · have hp := hp.1 cc_4
        refine lv_iload_n (pc := 54) hx hb dX4_moveAround_54 rfl (lv_at hl 2 rfl) ?_
        exact sx_iret (pc := 55) B hH hr hlk (by rw [← hQQ]; exact ⟨_, rfl, rfl, hp⟩) (Nat.le_of_ble_eq_true rfl) (Nat.le_of_ble_eq_true rfl) dX4_moveAround_55
      · have hp := hp.2 cc_4
        refine lv_iload_n (pc := 9) hx hb dX4_moveAround_9 rfl (lv_at hl 0 rfl) ?_
        refine lv_iconst (pc := 10) (v := 1) hx hb dX4_moveAround_10 (by decide) ?_
        refine lv_iload_n (pc := 11) hx hb dX4_moveAround_11 rfl (lv_at hl 3 rfl) ?_
        refine lv_ishl (pc := 12) hx hb dX4_moveAround_12 ?_
        refine W.eq (g2 := F0 m 13 ls [.int (shl 1 x3_3), .int p0]) rfl ?_
        refine lv_iand (pc := 13) hx hb dX4_moveAround_13 ?_
        refine lv_if_ne (pc := 14) (tgt := 48) hx hb dX4_moveAround_14 (by decide) (fun cc_5 => ?_) (fun cc_5 => ?_)
        · have hp := hp.1 cc_5
          obtain ⟨v_6, ev_6⟩ : ∃ y : Int32, y = x3_3 + 1 := ⟨_, rfl⟩
          have hp := hp v_6 ev_6
          refine lv_iinc (pc := 48) (v := v_6) (lv' := [(3, .int v_6), (0, .int p0), (1, .int p1), (2, .int x2_2)]) hx hb dX4_moveAround_48 hl (k := 3) rfl (by rw [ev_6]; rfl) (by decide) rfl (fun ls hl => ?_)
          refine lv_goto (pc := 51) (tgt := 4) hx hb dX4_moveAround_51 (by decide) ?_
          obtain ⟨k9, hlt9, hp⟩ := hp
          exact ih_1 k9 hlt9 _ _ _ _ _ hp hH (lv_sub hl [1, 2, 3, 0] rfl)
        · have hp := hp.2 cc_5
          refine lv_iload_n (pc := 17) hx hb dX4_moveAround_17 rfl (lv_at hl 3 rfl) ?_
          refine lv_iconst (pc := 18) (v := 1) hx hb dX4_moveAround_18 (by decide) ?_
          refine lv_iadd (pc := 19) hx hb dX4_moveAround_19 ?_
          refine lv_iload_n (pc := 20) hx hb dX4_moveAround_20 rfl (lv_at hl 1 rfl) ?_
          refine lv_icmp_eq (pc := 21) (tgt := 34) hx hb dX4_moveAround_21 (by decide) (fun cc_7 => ?_) (fun cc_7 => ?_)
          · have hp := hp.1 cc_7
            refine lv_iconst (pc := 34) (v := (-1)) hx hb dX4_moveAround_34 (by decide) ?_
            exact sx_iret (pc := 35) B hH hr hlk (by rw [← hQQ]; exact ⟨_, rfl, rfl, hp⟩) (Nat.le_of_ble_eq_true rfl) (Nat.le_of_ble_eq_true rfl) dX4_moveAround_35
          · have hp := hp.2 cc_7
            refine lv_iload_n (pc := 24) hx hb dX4_moveAround_24 rfl (lv_at hl 0 rfl) ?_
            refine lv_iconst (pc := 25) (v := 1) hx hb dX4_moveAround_25 (by decide) ?_
            refine lv_iload_n (pc := 26) hx hb dX4_moveAround_26 rfl (lv_at hl 3 rfl) ?_
            refine lv_iconst (pc := 27) (v := 1) hx hb dX4_moveAround_27 (by decide) ?_
            refine lv_iadd (pc := 28) hx hb dX4_moveAround_28 ?_
            refine lv_ishl (pc := 29) hx hb dX4_moveAround_29 ?_
            refine W.eq (g2 := F0 m 30 ls [.int (shl 1 (x3_3 + 1)), .int p0]) rfl ?_
            refine lv_iand (pc := 30) hx hb dX4_moveAround_30 ?_
            refine lv_if_eq (pc := 31) (tgt := 36) hx hb dX4_moveAround_31 (by decide) (fun cc_8 => ?_) (fun cc_8 => ?_)
            · have hp := hp.1 cc_8
              refine lv_iload_n (pc := 36) hx hb dX4_moveAround_36 rfl (lv_at hl 2 rfl) ?_
              refine lv_bipush (pc := 37) (v := 15) hx hb dX4_moveAround_37 (by decide) ?_
              refine lv_iconst (pc := 39) (v := 4) hx hb dX4_moveAround_39 (by decide) ?_
              refine lv_iload_n (pc := 40) hx hb dX4_moveAround_40 rfl (lv_at hl 3 rfl) ?_
              refine lv_imul (pc := 41) hx hb dX4_moveAround_41 ?_
              refine lv_ishl (pc := 42) hx hb dX4_moveAround_42 ?_
              refine W.eq (g2 := F0 m 43 ls [.int (shl 15 (4 * x3_3)), .int x2_2]) rfl ?_
              refine lv_ior (pc := 43) hx hb dX4_moveAround_43 ?_
              refine lv_topi (fun v_9 ev_9 => ?_)
              have hp := hp v_9 ev_9
              refine lv_istore_n (pc := 44) (lv' := [(2, .int v_9), (0, .int p0), (1, .int p1), (3, .int x3_3)]) hx hb dX4_moveAround_44 rfl hl (by decide) rfl (fun ls hl => ?_)
              obtain ⟨v_10, ev_10⟩ : ∃ y : Int32, y = x3_3 + 1 := ⟨_, rfl⟩
              have hp := hp v_10 ev_10
              refine lv_iinc (pc := 45) (v := v_10) (lv' := [(3, .int v_10), (2, .int v_9), (0, .int p0), (1, .int p1)]) hx hb dX4_moveAround_45 hl (k := 3) rfl (by rw [ev_10]; rfl) (by decide) rfl (fun ls hl => ?_)
              obtain ⟨v_11, ev_11⟩ : ∃ y : Int32, y = v_10 + 1 := ⟨_, rfl⟩
              have hp := hp v_11 ev_11
              refine lv_iinc (pc := 48) (v := v_11) (lv' := [(3, .int v_11), (2, .int v_9), (0, .int p0), (1, .int p1)]) hx hb dX4_moveAround_48 hl (k := 0) rfl (by rw [ev_11]; rfl) (by decide) rfl (fun ls hl => ?_)
              refine lv_goto (pc := 51) (tgt := 4) hx hb dX4_moveAround_51 (by decide) ?_
              obtain ⟨k9, hlt9, hp⟩ := hp
              exact ih_1 k9 hlt9 _ _ _ _ _ hp hH (lv_sub hl [2, 3, 1, 0] rfl)
            · have hp := hp.2 cc_8
              refine lv_iconst (pc := 34) (v := (-1)) hx hb dX4_moveAround_34 (by decide) ?_
              exact sx_iret (pc := 35) B hH hr hlk (by rw [← hQQ]; exact ⟨_, rfl, rfl, hp⟩) (Nat.le_of_ble_eq_true rfl) (Nat.le_of_ble_eq_true rfl) dX4_moveAround_35
  exact kl_1 k0_1 _ _ _ _ _ h0_1 hH (lv_sub hl [2, 3, 1, 0] rfl)
theorem dX4_moveOf_0 : decode cX4_moveOf 0 = .ok (.iload_n 0, 1) := by decide +kernel
theorem dX4_moveOf_1 : decode cX4_moveOf 1 = .ok (.ifCond .ge 5, 3) := by decide +kernel
theorem dX4_moveOf_4 : decode cX4_moveOf 4 = .ok (.iconst (-1), 1) := by decide +kernel
theorem dX4_moveOf_5 : decode cX4_moveOf 5 = .ok (.ireturn, 1) := by decide +kernel
theorem dX4_moveOf_6 : decode cX4_moveOf 6 = .ok (.iconst 0, 1) := by decide +kernel
theorem dX4_moveOf_7 : decode cX4_moveOf 7 = .ok (.istore_n 2, 1) := by decide +kernel
theorem dX4_moveOf_8 : decode cX4_moveOf 8 = .ok (.iload_n 1, 1) := by decide +kernel
theorem dX4_moveOf_9 : decode cX4_moveOf 9 = .ok (.iconst 1, 1) := by decide +kernel
theorem dX4_moveOf_10 : decode cX4_moveOf 10 = .ok (.iadd, 1) := by decide +kernel
theorem dX4_moveOf_11 : decode cX4_moveOf 11 = .ok (.istore_n 3, 1) := by decide +kernel
theorem dX4_moveOf_12 : decode cX4_moveOf 12 = .ok (.iload_n 0, 1) := by decide +kernel
theorem dX4_moveOf_13 : decode cX4_moveOf 13 = .ok (.istore 4, 2) := by decide +kernel
theorem dX4_moveOf_15 : decode cX4_moveOf 15 = .ok (.iload 4, 2) := by decide +kernel
theorem dX4_moveOf_17 : decode cX4_moveOf 17 = .ok (.ifCond .le 46, 3) := by decide +kernel
theorem dX4_moveOf_20 : decode cX4_moveOf 20 = .ok (.iload 4, 2) := by decide +kernel
theorem dX4_moveOf_22 : decode cX4_moveOf 22 = .ok (.bipush 10, 2) := by decide +kernel
theorem dX4_moveOf_24 : decode cX4_moveOf 24 = .ok (.irem, 1) := by decide +kernel
theorem dX4_moveOf_25 : decode cX4_moveOf 25 = .ok (.istore 5, 2) := by decide +kernel
theorem dX4_moveOf_27 : decode cX4_moveOf 27 = .ok (.iload 5, 2) := by decide +kernel
theorem dX4_moveOf_29 : decode cX4_moveOf 29 = .ok (.iconst 1, 1) := by decide +kernel
theorem dX4_moveOf_30 : decode cX4_moveOf 30 = .ok (.if_icmp .lt 9, 3) := by decide +kernel
theorem dX4_moveOf_33 : decode cX4_moveOf 33 = .ok (.iload 5, 2) := by decide +kernel
theorem dX4_moveOf_35 : decode cX4_moveOf 35 = .ok (.iload_n 3, 1) := by decide +kernel
theorem dX4_moveOf_36 : decode cX4_moveOf 36 = .ok (.if_icmp .lt 5, 3) := by decide +kernel
theorem dX4_moveOf_39 : decode cX4_moveOf 39 = .ok (.iconst (-1), 1) := by decide +kernel
theorem dX4_moveOf_40 : decode cX4_moveOf 40 = .ok (.ireturn, 1) := by decide +kernel
theorem dX4_moveOf_41 : decode cX4_moveOf 41 = .ok (.iload_n 2, 1) := by decide +kernel
theorem dX4_moveOf_42 : decode cX4_moveOf 42 = .ok (.iconst 1, 1) := by decide +kernel
theorem dX4_moveOf_43 : decode cX4_moveOf 43 = .ok (.iload 5, 2) := by decide +kernel
theorem dX4_moveOf_45 : decode cX4_moveOf 45 = .ok (.iconst 1, 1) := by decide +kernel
theorem dX4_moveOf_46 : decode cX4_moveOf 46 = .ok (.isub, 1) := by decide +kernel
theorem dX4_moveOf_47 : decode cX4_moveOf 47 = .ok (.ishl, 1) := by decide +kernel
theorem dX4_moveOf_48 : decode cX4_moveOf 48 = .ok (.ior, 1) := by decide +kernel
theorem dX4_moveOf_49 : decode cX4_moveOf 49 = .ok (.istore_n 2, 1) := by decide +kernel
theorem dX4_moveOf_50 : decode cX4_moveOf 50 = .ok (.iload 5, 2) := by decide +kernel
theorem dX4_moveOf_52 : decode cX4_moveOf 52 = .ok (.istore_n 3, 1) := by decide +kernel
theorem dX4_moveOf_53 : decode cX4_moveOf 53 = .ok (.iload 4, 2) := by decide +kernel
theorem dX4_moveOf_55 : decode cX4_moveOf 55 = .ok (.bipush 10, 2) := by decide +kernel
theorem dX4_moveOf_57 : decode cX4_moveOf 57 = .ok (.idiv, 1) := by decide +kernel
theorem dX4_moveOf_58 : decode cX4_moveOf 58 = .ok (.istore 4, 2) := by decide +kernel
theorem dX4_moveOf_60 : decode cX4_moveOf 60 = .ok (.goto (-45), 3) := by decide +kernel
theorem dX4_moveOf_63 : decode cX4_moveOf 63 = .ok (.iload_n 2, 1) := by decide +kernel
theorem dX4_moveOf_64 : decode cX4_moveOf 64 = .ok (.iload_n 1, 1) := by decide +kernel
theorem dX4_moveOf_65 : decode cX4_moveOf 65 = .ok (.invokestatic 40, 3) := by decide +kernel
theorem dX4_moveOf_68 : decode cX4_moveOf 68 = .ok (.ireturn, 1) := by decide +kernel
theorem mi_X4_moveOf : MI yX4_moveOf cX4_moveOf 6 (some FieldType.int) 2 := ⟨w_663, w_114, by decide +kernel, by decide +kernel, by decide +kernel⟩
set_option maxRecDepth 100000 in
set_option maxHeartbeats 4000000 in
theorem C_X4_moveOf (G : GG) (l : Launch) (p0 : Int32) (p1 : Int32) (S : St) (Q : Int32 → Prop) (hp : P_X4_moveOf p0 p1 Q) : Ctr G l yX4_moveOf cX4_moveOf 6 (some FieldType.int) 1 23 0 0 [.int p0, .int p1] S (fun (v : Option Value) (S9 : St) => ∃ (r : Int32), v = some (.int r) ∧ S9 = S ∧ Q r ) := by
  generalize hQQ : (fun (v : Option Value) (S9 : St) => ∃ (r : Int32), v = some (.int r) ∧ S9 = S ∧ Q r ) = QQ
  unfold P_X4_moveOf at hp
  refine Ctr.of (by decide) (Nat.le_of_ble_eq_true rfl) ?_
  intro p e s m args below meth c ls B hr hlk hin hl hH
  generalize hlocs0 : ([] : List Loc) = locs at hH ⊢
  have hx := B.1
  have hb := B.2.1
  have hl : lv_has ls 6 [(0, .int p0), (1, .int p1)] := hl
  refine lv_iload_n (pc := 0) hx hb dX4_moveOf_0 rfl (lv_at hl 0 rfl) ?_
  refine lv_if_ge (pc := 1) (tgt := 6) hx hb dX4_moveOf_1 (by decide) (fun cc_1 => ?_) (fun cc_1 => ?_)
  · have hp := hp.1 cc_1
    refine lv_iconst (pc := 6) (v := 0) hx hb dX4_moveOf_6 (by decide) ?_
    refine lv_istore_n (pc := 7) (lv' := [(2, .int 0), (0, .int p0), (1, .int p1)]) hx hb dX4_moveOf_7 rfl hl (by decide) rfl (fun ls hl => ?_)
    refine lv_iload_n (pc := 8) hx hb dX4_moveOf_8 rfl (lv_at hl 2 rfl) ?_
    refine lv_iconst (pc := 9) (v := 1) hx hb dX4_moveOf_9 (by decide) ?_
    refine lv_iadd (pc := 10) hx hb dX4_moveOf_10 ?_
    refine lv_topi (fun v_2 ev_2 => ?_)
    have hp := hp v_2 ev_2
    refine lv_istore_n (pc := 11) (lv' := [(3, .int v_2), (2, .int 0), (0, .int p0), (1, .int p1)]) hx hb dX4_moveOf_11 rfl hl (by decide) rfl (fun ls hl => ?_)
    refine lv_iload_n (pc := 12) hx hb dX4_moveOf_12 rfl (lv_at hl 2 rfl) ?_
    refine lv_istore (pc := 13) (lv' := [(4, .int p0), (3, .int v_2), (2, .int 0), (0, .int p0), (1, .int p1)]) hx hb dX4_moveOf_13 hl (by decide) rfl (fun ls hl => ?_)
    obtain ⟨I_3, ⟨k0_3, h0_3⟩, hst_3⟩ := hp
    have kl_3 : ∀ (n_3 : Nat) (x2_4 : Int32) (x3_5 : Int32) (x4_6 : Int32) (H : Heap) (locs : List Loc) (ls : Array Slot), I_3 n_3 x2_4 x3_5 x4_6 → Hp G (FA S s.heap.size) s.heap S H locs → lv_has ls 6 [(1, .int p1), (2, .int x2_4), (3, .int x3_5), (4, .int x4_6)] → Wm G p l e { frames := 1, cells := 0, slots := 0, locals := 23 } s m args below meth c S QQ 0 0 H locs 0 0 (F0 m 15 ls []) := by
      intro n_3
      induction n_3 using Nat.strongRecOn with
      | ind n_3 ih_3 =>
        intro x2_4 x3_5 x4_6 H locs ls hq9 hH hl
        have hp := hst_3 n_3 x2_4 x3_5 x4_6 hq9
        refine lv_iload (pc := 15) hx hb dX4_moveOf_15 (lv_at hl 3 rfl) ?_
        refine lv_if_le (pc := 17) (tgt := 63) hx hb dX4_moveOf_17 (by decide) (fun cc_7 => ?_) (fun cc_7 => ?_)
        · have hp := hp.1 cc_7
          refine lv_iload_n (pc := 63) hx hb dX4_moveOf_63 rfl (lv_at hl 1 rfl) ?_
          refine lv_iload_n (pc := 64) hx hb dX4_moveOf_64 rfl (lv_at hl 0 rfl) ?_
          refine sx_S (pc := 65) (As := [.int x2_4, .int p1]) (rest := []) B hH hl.1 (C_X4_moveAround G l x2_4 p1 _ _ hp) mi_X4_moveAround w_665 w_664 rfl rfl ⟨Nat.le_of_ble_eq_true rfl, Nat.le_of_ble_eq_true rfl⟩ (Nat.le_of_ble_eq_true rfl) ⟨Nat.le_of_ble_eq_true rfl, Nat.le_of_ble_eq_true rfl⟩ dX4_moveOf_65 (fun v S1 H locs hq hH => ?_)
          obtain ⟨r_8, rfl, e9, hp⟩ := hq
          rw [e9] at hH
          refine W.eq (g2 := F0 m 68 ls [.int r_8]) rfl ?_
          exact sx_iret (pc := 68) B hH hr hlk (by rw [← hQQ]; exact ⟨_, rfl, rfl, hp⟩) (Nat.le_of_ble_eq_true rfl) (Nat.le_of_ble_eq_true rfl) dX4_moveOf_68
        · have hp := hp.2 cc_7
          refine lv_iload (pc := 20) hx hb dX4_moveOf_20 (lv_at hl 3 rfl) ?_
          refine lv_bipush (pc := 22) (v := 10) hx hb dX4_moveOf_22 (by decide) ?_
          refine lv_irem (pc := 24) hx hb dX4_moveOf_24 (by decide) ?_
          refine W.eq (g2 := F0 m 25 ls [.int (irm x4_6 10)]) rfl ?_
          refine lv_topi (fun v_9 ev_9 => ?_)
          have hp := hp v_9 ev_9
          refine lv_istore (pc := 25) (lv' := [(5, .int v_9), (1, .int p1), (2, .int x2_4), (3, .int x3_5), (4, .int x4_6)]) hx hb dX4_moveOf_25 hl (by decide) rfl (fun ls hl => ?_)
          refine lv_iload (pc := 27) hx hb dX4_moveOf_27 (lv_at hl 0 rfl) ?_
          refine lv_iconst (pc := 29) (v := 1) hx hb dX4_moveOf_29 (by decide) ?_
          refine lv_icmp_lt (pc := 30) (tgt := 39) hx hb dX4_moveOf_30 (by decide) (fun cc_10 => ?_) (fun cc_10 => ?_)
          · have hp := hp.1 cc_10
            refine lv_iconst (pc := 39) (v := (-1)) hx hb dX4_moveOf_39 (by decide) ?_
            exact sx_iret (pc := 40) B hH hr hlk (by rw [← hQQ]; exact ⟨_, rfl, rfl, hp⟩) (Nat.le_of_ble_eq_true rfl) (Nat.le_of_ble_eq_true rfl) dX4_moveOf_40
          · have hp := hp.2 cc_10
            refine lv_iload (pc := 33) hx hb dX4_moveOf_33 (lv_at hl 0 rfl) ?_
            refine lv_iload_n (pc := 35) hx hb dX4_moveOf_35 rfl (lv_at hl 3 rfl) ?_
            refine lv_icmp_lt (pc := 36) (tgt := 41) hx hb dX4_moveOf_36 (by decide) (fun cc_11 => ?_) (fun cc_11 => ?_)
            · have hp := hp.1 cc_11
              refine lv_iload_n (pc := 41) hx hb dX4_moveOf_41 rfl (lv_at hl 2 rfl) ?_
              refine lv_iconst (pc := 42) (v := 1) hx hb dX4_moveOf_42 (by decide) ?_
              refine lv_iload (pc := 43) hx hb dX4_moveOf_43 (lv_at hl 0 rfl) ?_
              refine lv_iconst (pc := 45) (v := 1) hx hb dX4_moveOf_45 (by decide) ?_
              refine lv_isub (pc := 46) hx hb dX4_moveOf_46 ?_
              refine lv_ishl (pc := 47) hx hb dX4_moveOf_47 ?_
              refine W.eq (g2 := F0 m 48 ls [.int (shl 1 (v_9 - 1)), .int x2_4]) rfl ?_
              refine lv_ior (pc := 48) hx hb dX4_moveOf_48 ?_
              refine lv_topi (fun v_12 ev_12 => ?_)
              have hp := hp v_12 ev_12
              refine lv_istore_n (pc := 49) (lv' := [(2, .int v_12), (5, .int v_9), (1, .int p1), (3, .int x3_5), (4, .int x4_6)]) hx hb dX4_moveOf_49 rfl hl (by decide) rfl (fun ls hl => ?_)
              refine lv_iload (pc := 50) hx hb dX4_moveOf_50 (lv_at hl 1 rfl) ?_
              refine lv_istore_n (pc := 52) (lv' := [(3, .int v_9), (2, .int v_12), (5, .int v_9), (1, .int p1), (4, .int x4_6)]) hx hb dX4_moveOf_52 rfl hl (by decide) rfl (fun ls hl => ?_)
              refine lv_iload (pc := 53) hx hb dX4_moveOf_53 (lv_at hl 4 rfl) ?_
              refine lv_bipush (pc := 55) (v := 10) hx hb dX4_moveOf_55 (by decide) ?_
              refine lv_idiv (pc := 57) hx hb dX4_moveOf_57 (by decide) ?_
              refine lv_topi (fun v_13 ev_13 => ?_)
              have hp := hp v_13 ev_13
              refine lv_istore (pc := 58) (lv' := [(4, .int v_13), (3, .int v_9), (2, .int v_12), (5, .int v_9), (1, .int p1)]) hx hb dX4_moveOf_58 hl (by decide) rfl (fun ls hl => ?_)
              refine lv_goto (pc := 60) (tgt := 15) hx hb dX4_moveOf_60 (by decide) ?_
              obtain ⟨k9, hlt9, hp⟩ := hp
              exact ih_3 k9 hlt9 _ _ _ _ _ _ hp hH (lv_sub hl [4, 2, 1, 0] rfl)
            · have hp := hp.2 cc_11
              refine lv_iconst (pc := 39) (v := (-1)) hx hb dX4_moveOf_39 (by decide) ?_
              exact sx_iret (pc := 40) B hH hr hlk (by rw [← hQQ]; exact ⟨_, rfl, rfl, hp⟩) (Nat.le_of_ble_eq_true rfl) (Nat.le_of_ble_eq_true rfl) dX4_moveOf_40
    exact kl_3 k0_3 _ _ _ _ _ _ h0_3 hH (lv_sub hl [4, 2, 1, 0] rfl)
  · have hp := hp.2 cc_1
    refine lv_iconst (pc := 4) (v := (-1)) hx hb dX4_moveOf_4 (by decide) ?_
    exact sx_iret (pc := 5) B hH hr hlk (by rw [← hQQ]; exact ⟨_, rfl, rfl, hp⟩) (Nat.le_of_ble_eq_true rfl) (Nat.le_of_ble_eq_true rfl) dX4_moveOf_5
theorem dX7_beginsWithZero_0 : decode cX7_beginsWithZero 0 = .ok (.aload_n 0, 1) := by decide +kernel
theorem dX7_beginsWithZero_1 : decode cX7_beginsWithZero 1 = .ok (.getfield 26, 3) := by decide +kernel
theorem dX7_beginsWithZero_4 : decode cX7_beginsWithZero 4 = .ok (.aload_n 0, 1) := by decide +kernel
theorem dX7_beginsWithZero_5 : decode cX7_beginsWithZero 5 = .ok (.getfield 23, 3) := by decide +kernel
theorem dX7_beginsWithZero_8 : decode cX7_beginsWithZero 8 = .ok (.if_icmp .ge 21, 3) := by decide +kernel
theorem dX7_beginsWithZero_11 : decode cX7_beginsWithZero 11 = .ok (.aload_n 0, 1) := by decide +kernel
theorem dX7_beginsWithZero_12 : decode cX7_beginsWithZero 12 = .ok (.getfield 9, 3) := by decide +kernel
theorem dX7_beginsWithZero_15 : decode cX7_beginsWithZero 15 = .ok (.aload_n 0, 1) := by decide +kernel
theorem dX7_beginsWithZero_16 : decode cX7_beginsWithZero 16 = .ok (.getfield 26, 3) := by decide +kernel
theorem dX7_beginsWithZero_19 : decode cX7_beginsWithZero 19 = .ok (.baload, 1) := by decide +kernel
theorem dX7_beginsWithZero_20 : decode cX7_beginsWithZero 20 = .ok (.bipush 48, 2) := by decide +kernel
theorem dX7_beginsWithZero_22 : decode cX7_beginsWithZero 22 = .ok (.if_icmp .ne 7, 3) := by decide +kernel
theorem dX7_beginsWithZero_25 : decode cX7_beginsWithZero 25 = .ok (.iconst 1, 1) := by decide +kernel
theorem dX7_beginsWithZero_26 : decode cX7_beginsWithZero 26 = .ok (.goto 4, 3) := by decide +kernel
theorem dX7_beginsWithZero_29 : decode cX7_beginsWithZero 29 = .ok (.iconst 0, 1) := by decide +kernel
theorem dX7_beginsWithZero_30 : decode cX7_beginsWithZero 30 = .ok (.ireturn, 1) := by decide +kernel
theorem mi_X7_beginsWithZero : MI yX7_beginsWithZero cX7_beginsWithZero 1 (some FieldType.boolean) 0 := ⟨w_670, w_106, by decide +kernel, by decide +kernel, by decide +kernel⟩
set_option maxRecDepth 100000 in
set_option maxHeartbeats 4000000 in
theorem C_X7_beginsWithZero (G : GG) (l : Launch) (th : Nat) (S : St) (Q : Int32 → Prop) (hp : P_X7_beginsWithZero th S Q) : Ctr G l yX7_beginsWithZero cX7_beginsWithZero 1 (some FieldType.boolean) 0 0 0 0 [.ref th] S (fun (v : Option Value) (S9 : St) => ∃ (r : Int32), v = some (.int r) ∧ S9 = S ∧ Q r ) := by
  generalize hQQ : (fun (v : Option Value) (S9 : St) => ∃ (r : Int32), v = some (.int r) ∧ S9 = S ∧ Q r ) = QQ
  unfold P_X7_beginsWithZero at hp
  refine Ctr.of (by decide) (Nat.le_of_ble_eq_true rfl) ?_
  intro p e s m args below meth c ls B hr hlk hin hl hH
  generalize hlocs0 : ([] : List Loc) = locs at hH ⊢
  have hx := B.1
  have hb := B.2.1
  have hl : lv_has ls 1 [(0, .ref th)] := hl
  obtain ⟨hk_th, hp⟩ := hp
  refine lv_aload_n (pc := 0) hx hb dX7_beginsWithZero_0 rfl (lv_at hl 0 rfl) ?_
  refine sx_getI (pc := 1) (j := 4) B hH hk_th coX7 rfl w_210 rfl dX7_beginsWithZero_1 ?_
  refine W.eq (g2 := F0 m 4 ls [.int (gI S th 4)]) rfl ?_
  refine lv_aload_n (pc := 4) hx hb dX7_beginsWithZero_4 rfl (lv_at hl 0 rfl) ?_
  refine sx_getI (pc := 5) (j := 3) B hH hk_th coX7 rfl w_209 rfl dX7_beginsWithZero_5 ?_
  refine W.eq (g2 := F0 m 8 ls [.int (gI S th 3), .int (gI S th 4)]) rfl ?_
  refine lv_icmp_ge (pc := 8) (tgt := 29) hx hb dX7_beginsWithZero_8 (by decide) (fun cc_1 => ?_) (fun cc_1 => ?_)
  · have hp := hp.1 cc_1
    refine lv_iconst (pc := 29) (v := 0) hx hb dX7_beginsWithZero_29 (by decide) ?_
    exact sx_zret (pc := 30) B hH hr hlk (Or.inl rfl) (by rw [← hQQ]; exact ⟨_, rfl, rfl, hp⟩) (Nat.le_of_ble_eq_true rfl) (Nat.le_of_ble_eq_true rfl) dX7_beginsWithZero_30
  · have hp := hp.2 cc_1
    refine lv_aload_n (pc := 11) hx hb dX7_beginsWithZero_11 rfl (lv_at hl 0 rfl) ?_
    refine sx_getR (pc := 12) (j := 0) B hH hk_th coX7 rfl w_205 rfl dX7_beginsWithZero_12 ?_
    refine W.eq (g2 := F0 m 15 ls [va_rf (gR S th 0)]) rfl ?_
    obtain ⟨a_2, ha_2, hp⟩ := hp
    refine sx_nonnull (x := a_2) ha_2 ?_
    refine lv_aload_n (pc := 15) hx hb dX7_beginsWithZero_15 rfl (lv_at hl 0 rfl) ?_
    refine sx_getI (pc := 16) (j := 4) B hH hk_th coX7 rfl w_210 rfl dX7_beginsWithZero_16 ?_
    refine W.eq (g2 := F0 m 19 ls [.int (gI S th 4), .ref a_2]) rfl ?_
    obtain ⟨hk_3, hp⟩ := hp
    obtain ⟨hn_4, hp⟩ := hp
    refine sx_bald (pc := 19) B hH hk_3 hn_4 dX7_beginsWithZero_19 ?_
    refine W.eq (g2 := F0 m 20 ls [.int (gI S a_2 ((gI S th 4).toNatClampNeg))]) rfl ?_
    refine lv_bipush (pc := 20) (v := 48) hx hb dX7_beginsWithZero_20 (by decide) ?_
    refine lv_icmp_ne (pc := 22) (tgt := 29) hx hb dX7_beginsWithZero_22 (by decide) (fun cc_5 => ?_) (fun cc_5 => ?_)
    · have hp := hp.1 cc_5
      refine lv_iconst (pc := 29) (v := 0) hx hb dX7_beginsWithZero_29 (by decide) ?_
      exact sx_zret (pc := 30) B hH hr hlk (Or.inl rfl) (by rw [← hQQ]; exact ⟨_, rfl, rfl, hp⟩) (Nat.le_of_ble_eq_true rfl) (Nat.le_of_ble_eq_true rfl) dX7_beginsWithZero_30
    · have hp := hp.2 cc_5
      refine lv_iconst (pc := 25) (v := 1) hx hb dX7_beginsWithZero_25 (by decide) ?_
      refine lv_goto (pc := 26) (tgt := 30) hx hb dX7_beginsWithZero_26 (by decide) ?_
      exact sx_zret (pc := 30) B hH hr hlk (Or.inr rfl) (by rw [← hQQ]; exact ⟨_, rfl, rfl, hp⟩) (Nat.le_of_ble_eq_true rfl) (Nat.le_of_ble_eq_true rfl) dX7_beginsWithZero_30
theorem dX4_roundsOf_0 : decode cX4_roundsOf 0 = .ok (.ldc 15, 2) := by decide +kernel
theorem dX4_roundsOf_2 : decode cX4_roundsOf 2 = .ok (.lconst 1, 1) := by decide +kernel
theorem dX4_roundsOf_3 : decode cX4_roundsOf 3 = .ok (.iconst 4, 1) := by decide +kernel
theorem dX4_roundsOf_4 : decode cX4_roundsOf 4 = .ok (.iload_n 0, 1) := by decide +kernel
theorem dX4_roundsOf_5 : decode cX4_roundsOf 5 = .ok (.imul, 1) := by decide +kernel
theorem dX4_roundsOf_6 : decode cX4_roundsOf 6 = .ok (.lshl, 1) := by decide +kernel
theorem dX4_roundsOf_7 : decode cX4_roundsOf 7 = .ok (.lconst 1, 1) := by decide +kernel
theorem dX4_roundsOf_8 : decode cX4_roundsOf 8 = .ok (.lsub, 1) := by decide +kernel
theorem dX4_roundsOf_9 : decode cX4_roundsOf 9 = .ok (.l2i, 1) := by decide +kernel
theorem dX4_roundsOf_10 : decode cX4_roundsOf 10 = .ok (.iand, 1) := by decide +kernel
theorem dX4_roundsOf_11 : decode cX4_roundsOf 11 = .ok (.ireturn, 1) := by decide +kernel
theorem mi_X4_roundsOf : MI yX4_roundsOf cX4_roundsOf 1 (some FieldType.int) 1 := ⟨w_707, w_114, by decide +kernel, by decide +kernel, by decide +kernel⟩
set_option maxRecDepth 100000 in
set_option maxHeartbeats 4000000 in
theorem C_X4_roundsOf (G : GG) (l : Launch) (p0 : Int32) (S : St) (Q : Int32 → Prop) (hp : P_X4_roundsOf p0 Q) : Ctr G l yX4_roundsOf cX4_roundsOf 1 (some FieldType.int) 0 0 0 0 [.int p0] S (fun (v : Option Value) (S9 : St) => ∃ (r : Int32), v = some (.int r) ∧ S9 = S ∧ Q r ) := by
  generalize hQQ : (fun (v : Option Value) (S9 : St) => ∃ (r : Int32), v = some (.int r) ∧ S9 = S ∧ Q r ) = QQ
  unfold P_X4_roundsOf at hp
  refine Ctr.of (by decide) (Nat.le_of_ble_eq_true rfl) ?_
  intro p e s m args below meth c ls B hr hlk hin hl hH
  generalize hlocs0 : ([] : List Loc) = locs at hH ⊢
  have hx := B.1
  have hb := B.2.1
  have hl : lv_has ls 1 [(0, .int p0)] := hl
  refine sx_ldc (pc := 0) (v := 1985229328) B w_708 dX4_roundsOf_0 ?_
  refine lv_lconst (pc := 2) (v := 1) hx hb dX4_roundsOf_2 (by decide) ?_
  refine lv_iconst (pc := 3) (v := 4) hx hb dX4_roundsOf_3 (by decide) ?_
  refine lv_iload_n (pc := 4) hx hb dX4_roundsOf_4 rfl (lv_at hl 0 rfl) ?_
  refine lv_imul (pc := 5) hx hb dX4_roundsOf_5 ?_
  refine lv_lshl (pc := 6) (v := lshl 1 (4 * p0)) hx hb dX4_roundsOf_6 rfl ?_
  refine lv_lconst (pc := 7) (v := 1) hx hb dX4_roundsOf_7 (by decide) ?_
  refine lv_lsub (pc := 8) hx hb dX4_roundsOf_8 ?_
  refine lv_l2i (pc := 9) (v := ((lshl 1 (4 * p0)) - 1).toInt32) hx hb dX4_roundsOf_9 rfl ?_
  refine lv_iand (pc := 10) hx hb dX4_roundsOf_10 ?_
  exact sx_iret (pc := 11) B hH hr hlk (by rw [← hQQ]; exact ⟨_, rfl, rfl, hp⟩) (Nat.le_of_ble_eq_true rfl) (Nat.le_of_ble_eq_true rfl) dX4_roundsOf_11
theorem dX4_moved_0 : decode cX4_moved 0 = .ok (.iload_n 0, 1) := by decide +kernel
theorem dX4_moved_1 : decode cX4_moved 1 = .ok (.iload_n 1, 1) := by decide +kernel
theorem dX4_moved_2 : decode cX4_moved 2 = .ok (.iload_n 1, 1) := by decide +kernel
theorem dX4_moved_3 : decode cX4_moved 3 = .ok (.iconst 4, 1) := by decide +kernel
theorem dX4_moved_4 : decode cX4_moved 4 = .ok (.ishl, 1) := by decide +kernel
theorem dX4_moved_5 : decode cX4_moved 5 = .ok (.ior, 1) := by decide +kernel
theorem dX4_moved_6 : decode cX4_moved 6 = .ok (.iconst (-1), 1) := by decide +kernel
theorem dX4_moved_7 : decode cX4_moved 7 = .ok (.ixor, 1) := by decide +kernel
theorem dX4_moved_8 : decode cX4_moved 8 = .ok (.iand, 1) := by decide +kernel
theorem dX4_moved_9 : decode cX4_moved 9 = .ok (.iload_n 0, 1) := by decide +kernel
theorem dX4_moved_10 : decode cX4_moved 10 = .ok (.iload_n 1, 1) := by decide +kernel
theorem dX4_moved_11 : decode cX4_moved 11 = .ok (.iand, 1) := by decide +kernel
theorem dX4_moved_12 : decode cX4_moved 12 = .ok (.iconst 4, 1) := by decide +kernel
theorem dX4_moved_13 : decode cX4_moved 13 = .ok (.ishl, 1) := by decide +kernel
theorem dX4_moved_14 : decode cX4_moved 14 = .ok (.ior, 1) := by decide +kernel
theorem dX4_moved_15 : decode cX4_moved 15 = .ok (.iload_n 0, 1) := by decide +kernel
theorem dX4_moved_16 : decode cX4_moved 16 = .ok (.iconst 4, 1) := by decide +kernel
theorem dX4_moved_17 : decode cX4_moved 17 = .ok (.iushr, 1) := by decide +kernel
theorem dX4_moved_18 : decode cX4_moved 18 = .ok (.iload_n 1, 1) := by decide +kernel
theorem dX4_moved_19 : decode cX4_moved 19 = .ok (.iand, 1) := by decide +kernel
theorem dX4_moved_20 : decode cX4_moved 20 = .ok (.ior, 1) := by decide +kernel
theorem dX4_moved_21 : decode cX4_moved 21 = .ok (.ireturn, 1) := by decide +kernel
theorem mi_X4_moved : MI yX4_moved cX4_moved 2 (some FieldType.int) 2 := ⟨w_711, w_114, by decide +kernel, by decide +kernel, by decide +kernel⟩
set_option maxRecDepth 100000 in
set_option maxHeartbeats 4000000 in
theorem C_X4_moved (G : GG) (l : Launch) (p0 : Int32) (p1 : Int32) (S : St) (Q : Int32 → Prop) (hp : P_X4_moved p0 p1 Q) : Ctr G l yX4_moved cX4_moved 2 (some FieldType.int) 0 0 0 0 [.int p0, .int p1] S (fun (v : Option Value) (S9 : St) => ∃ (r : Int32), v = some (.int r) ∧ S9 = S ∧ Q r ) := by
  generalize hQQ : (fun (v : Option Value) (S9 : St) => ∃ (r : Int32), v = some (.int r) ∧ S9 = S ∧ Q r ) = QQ
  unfold P_X4_moved at hp
  refine Ctr.of (by decide) (Nat.le_of_ble_eq_true rfl) ?_
  intro p e s m args below meth c ls B hr hlk hin hl hH
  generalize hlocs0 : ([] : List Loc) = locs at hH ⊢
  have hx := B.1
  have hb := B.2.1
  have hl : lv_has ls 2 [(0, .int p0), (1, .int p1)] := hl
  refine lv_iload_n (pc := 0) hx hb dX4_moved_0 rfl (lv_at hl 0 rfl) ?_
  refine lv_iload_n (pc := 1) hx hb dX4_moved_1 rfl (lv_at hl 1 rfl) ?_
  refine lv_iload_n (pc := 2) hx hb dX4_moved_2 rfl (lv_at hl 1 rfl) ?_
  refine lv_iconst (pc := 3) (v := 4) hx hb dX4_moved_3 (by decide) ?_
  refine lv_ishl (pc := 4) hx hb dX4_moved_4 ?_
  refine W.eq (g2 := F0 m 5 ls [.int (shl p1 4), .int p1, .int p0]) rfl ?_
  refine lv_ior (pc := 5) hx hb dX4_moved_5 ?_
  refine lv_iconst (pc := 6) (v := (-1)) hx hb dX4_moved_6 (by decide) ?_
  refine lv_ixor (pc := 7) hx hb dX4_moved_7 ?_
  refine lv_iand (pc := 8) hx hb dX4_moved_8 ?_
  refine lv_iload_n (pc := 9) hx hb dX4_moved_9 rfl (lv_at hl 0 rfl) ?_
  refine lv_iload_n (pc := 10) hx hb dX4_moved_10 rfl (lv_at hl 1 rfl) ?_
  refine lv_iand (pc := 11) hx hb dX4_moved_11 ?_
  refine lv_iconst (pc := 12) (v := 4) hx hb dX4_moved_12 (by decide) ?_
  refine lv_ishl (pc := 13) hx hb dX4_moved_13 ?_
  refine W.eq (g2 := F0 m 14 ls [.int (shl (p0 &&& p1) 4), .int (p0 &&& ((p1 ||| (shl p1 4)) ^^^ (-1)))]) rfl ?_
  refine lv_ior (pc := 14) hx hb dX4_moved_14 ?_
  refine lv_iload_n (pc := 15) hx hb dX4_moved_15 rfl (lv_at hl 0 rfl) ?_
  refine lv_iconst (pc := 16) (v := 4) hx hb dX4_moved_16 (by decide) ?_
  refine lv_iushr (pc := 17) (v := ushr p0 4) hx hb dX4_moved_17 rfl ?_
  refine lv_iload_n (pc := 18) hx hb dX4_moved_18 rfl (lv_at hl 1 rfl) ?_
  refine lv_iand (pc := 19) hx hb dX4_moved_19 ?_
  refine lv_ior (pc := 20) hx hb dX4_moved_20 ?_
  exact sx_iret (pc := 21) B hH hr hlk (by rw [← hQQ]; exact ⟨_, rfl, rfl, hp⟩) (Nat.le_of_ble_eq_true rfl) (Nat.le_of_ble_eq_true rfl) dX4_moved_21
theorem dX4_unrank_0 : decode cX4_unrank 0 = .ok (.ldc 15, 2) := by decide +kernel
theorem dX4_unrank_2 : decode cX4_unrank 2 = .ok (.istore_n 2, 1) := by decide +kernel
theorem dX4_unrank_3 : decode cX4_unrank 3 = .ok (.iload_n 0, 1) := by decide +kernel
theorem dX4_unrank_4 : decode cX4_unrank 4 = .ok (.istore_n 3, 1) := by decide +kernel
theorem dX4_unrank_5 : decode cX4_unrank 5 = .ok (.iconst 0, 1) := by decide +kernel
theorem dX4_unrank_6 : decode cX4_unrank 6 = .ok (.istore 4, 2) := by decide +kernel
theorem dX4_unrank_8 : decode cX4_unrank 8 = .ok (.iconst 0, 1) := by decide +kernel
theorem dX4_unrank_9 : decode cX4_unrank 9 = .ok (.istore 5, 2) := by decide +kernel
theorem dX4_unrank_11 : decode cX4_unrank 11 = .ok (.iload 5, 2) := by decide +kernel
theorem dX4_unrank_13 : decode cX4_unrank 13 = .ok (.iload_n 1, 1) := by decide +kernel
theorem dX4_unrank_14 : decode cX4_unrank 14 = .ok (.if_icmp .ge 76, 3) := by decide +kernel
theorem dX4_unrank_17 : decode cX4_unrank 17 = .ok (.iconst 1, 1) := by decide +kernel
theorem dX4_unrank_18 : decode cX4_unrank 18 = .ok (.iload_n 1, 1) := by decide +kernel
theorem dX4_unrank_19 : decode cX4_unrank 19 = .ok (.iconst 1, 1) := by decide +kernel
theorem dX4_unrank_20 : decode cX4_unrank 20 = .ok (.isub, 1) := by decide +kernel
theorem dX4_unrank_21 : decode cX4_unrank 21 = .ok (.iload 5, 2) := by decide +kernel
theorem dX4_unrank_23 : decode cX4_unrank 23 = .ok (.isub, 1) := by decide +kernel
theorem dX4_unrank_24 : decode cX4_unrank 24 = .ok (.invokestatic 17, 3) := by decide +kernel
theorem dX4_unrank_27 : decode cX4_unrank 27 = .ok (.invokestatic 21, 3) := by decide +kernel
theorem dX4_unrank_30 : decode cX4_unrank 30 = .ok (.istore 6, 2) := by decide +kernel
theorem dX4_unrank_32 : decode cX4_unrank 32 = .ok (.iload_n 3, 1) := by decide +kernel
theorem dX4_unrank_33 : decode cX4_unrank 33 = .ok (.iload 6, 2) := by decide +kernel
theorem dX4_unrank_35 : decode cX4_unrank 35 = .ok (.idiv, 1) := by decide +kernel
theorem dX4_unrank_36 : decode cX4_unrank 36 = .ok (.iconst 2, 1) := by decide +kernel
theorem dX4_unrank_37 : decode cX4_unrank 37 = .ok (.ishl, 1) := by decide +kernel
theorem dX4_unrank_38 : decode cX4_unrank 38 = .ok (.istore 7, 2) := by decide +kernel
theorem dX4_unrank_40 : decode cX4_unrank 40 = .ok (.iload_n 3, 1) := by decide +kernel
theorem dX4_unrank_41 : decode cX4_unrank 41 = .ok (.iload 6, 2) := by decide +kernel
theorem dX4_unrank_43 : decode cX4_unrank 43 = .ok (.irem, 1) := by decide +kernel
theorem dX4_unrank_44 : decode cX4_unrank 44 = .ok (.istore_n 3, 1) := by decide +kernel
theorem dX4_unrank_45 : decode cX4_unrank 45 = .ok (.iload 4, 2) := by decide +kernel
theorem dX4_unrank_47 : decode cX4_unrank 47 = .ok (.iload_n 2, 1) := by decide +kernel
theorem dX4_unrank_48 : decode cX4_unrank 48 = .ok (.iload 7, 2) := by decide +kernel
theorem dX4_unrank_50 : decode cX4_unrank 50 = .ok (.iushr, 1) := by decide +kernel
theorem dX4_unrank_51 : decode cX4_unrank 51 = .ok (.bipush 7, 2) := by decide +kernel
theorem dX4_unrank_53 : decode cX4_unrank 53 = .ok (.iand, 1) := by decide +kernel
theorem dX4_unrank_54 : decode cX4_unrank 54 = .ok (.iconst 4, 1) := by decide +kernel
theorem dX4_unrank_55 : decode cX4_unrank 55 = .ok (.iload 5, 2) := by decide +kernel
theorem dX4_unrank_57 : decode cX4_unrank 57 = .ok (.imul, 1) := by decide +kernel
theorem dX4_unrank_58 : decode cX4_unrank 58 = .ok (.ishl, 1) := by decide +kernel
theorem dX4_unrank_59 : decode cX4_unrank 59 = .ok (.ior, 1) := by decide +kernel
theorem dX4_unrank_60 : decode cX4_unrank 60 = .ok (.istore 4, 2) := by decide +kernel
theorem dX4_unrank_62 : decode cX4_unrank 62 = .ok (.iconst 1, 1) := by decide +kernel
theorem dX4_unrank_63 : decode cX4_unrank 63 = .ok (.iload 7, 2) := by decide +kernel
theorem dX4_unrank_65 : decode cX4_unrank 65 = .ok (.ishl, 1) := by decide +kernel
theorem dX4_unrank_66 : decode cX4_unrank 66 = .ok (.iconst 1, 1) := by decide +kernel
theorem dX4_unrank_67 : decode cX4_unrank 67 = .ok (.isub, 1) := by decide +kernel
theorem dX4_unrank_68 : decode cX4_unrank 68 = .ok (.istore 8, 2) := by decide +kernel
theorem dX4_unrank_70 : decode cX4_unrank 70 = .ok (.iload_n 2, 1) := by decide +kernel
theorem dX4_unrank_71 : decode cX4_unrank 71 = .ok (.iload 8, 2) := by decide +kernel
theorem dX4_unrank_73 : decode cX4_unrank 73 = .ok (.iand, 1) := by decide +kernel
theorem dX4_unrank_74 : decode cX4_unrank 74 = .ok (.iload_n 2, 1) := by decide +kernel
theorem dX4_unrank_75 : decode cX4_unrank 75 = .ok (.iconst 4, 1) := by decide +kernel
theorem dX4_unrank_76 : decode cX4_unrank 76 = .ok (.iushr, 1) := by decide +kernel
theorem dX4_unrank_77 : decode cX4_unrank 77 = .ok (.iload 8, 2) := by decide +kernel
theorem dX4_unrank_79 : decode cX4_unrank 79 = .ok (.iconst (-1), 1) := by decide +kernel
theorem dX4_unrank_80 : decode cX4_unrank 80 = .ok (.ixor, 1) := by decide +kernel
theorem dX4_unrank_81 : decode cX4_unrank 81 = .ok (.iand, 1) := by decide +kernel
theorem dX4_unrank_82 : decode cX4_unrank 82 = .ok (.ior, 1) := by decide +kernel
theorem dX4_unrank_83 : decode cX4_unrank 83 = .ok (.istore_n 2, 1) := by decide +kernel
theorem dX4_unrank_84 : decode cX4_unrank 84 = .ok (.iinc 5 1, 3) := by decide +kernel
theorem dX4_unrank_87 : decode cX4_unrank 87 = .ok (.goto (-76), 3) := by decide +kernel
theorem dX4_unrank_90 : decode cX4_unrank 90 = .ok (.iload 4, 2) := by decide +kernel
theorem dX4_unrank_92 : decode cX4_unrank 92 = .ok (.ireturn, 1) := by decide +kernel
theorem mi_X4_unrank : MI yX4_unrank cX4_unrank 9 (some FieldType.int) 2 := ⟨w_867, w_114, by decide +kernel, by decide +kernel, by decide +kernel⟩
set_option maxRecDepth 100000 in
set_option maxHeartbeats 4000000 in
theorem C_X4_unrank (G : GG) (l : Launch) (p0 : Int32) (p1 : Int32) (S : St) (Q : Int32 → Prop) (hp : P_X4_unrank p0 p1 S Q) : Ctr G l yX4_unrank cX4_unrank 9 (some FieldType.int) 1 21 0 0 [.int p0, .int p1] S (fun (v : Option Value) (S9 : St) => ∃ (r : Int32), v = some (.int r) ∧ S9 = S ∧ Q r ) := by
  generalize hQQ : (fun (v : Option Value) (S9 : St) => ∃ (r : Int32), v = some (.int r) ∧ S9 = S ∧ Q r ) = QQ
  unfold P_X4_unrank at hp
  refine Ctr.of (by decide) (Nat.le_of_ble_eq_true rfl) ?_
  intro p e s m args below meth c ls B hr hlk hin hl hH
  generalize hlocs0 : ([] : List Loc) = locs at hH ⊢
  have hx := B.1
  have hb := B.2.1
  have hl : lv_has ls 9 [(0, .int p0), (1, .int p1)] := hl
  refine sx_ldc (pc := 0) (v := 1985229328) B w_708 dX4_unrank_0 ?_
  refine lv_istore_n (pc := 2) (lv' := [(2, .int 1985229328), (0, .int p0), (1, .int p1)]) hx hb dX4_unrank_2 rfl hl (by decide) rfl (fun ls hl => ?_)
  refine lv_iload_n (pc := 3) hx hb dX4_unrank_3 rfl (lv_at hl 1 rfl) ?_
  refine lv_istore_n (pc := 4) (lv' := [(3, .int p0), (2, .int 1985229328), (0, .int p0), (1, .int p1)]) hx hb dX4_unrank_4 rfl hl (by decide) rfl (fun ls hl => ?_)
  refine lv_iconst (pc := 5) (v := 0) hx hb dX4_unrank_5 (by decide) ?_
  refine lv_istore (pc := 6) (lv' := [(4, .int 0), (3, .int p0), (2, .int 1985229328), (0, .int p0), (1, .int p1)]) hx hb dX4_unrank_6 hl (by decide) rfl (fun ls hl => ?_)
  refine lv_iconst (pc := 8) (v := 0) hx hb dX4_unrank_8 (by decide) ?_
  refine lv_istore (pc := 9) (lv' := [(5, .int 0), (4, .int 0), (3, .int p0), (2, .int 1985229328), (0, .int p0), (1, .int p1)]) hx hb dX4_unrank_9 hl (by decide) rfl (fun ls hl => ?_)
  obtain ⟨I_1, ⟨k0_1, h0_1⟩, hst_1⟩ := hp
  have kl_1 : ∀ (n_1 : Nat) (x2_2 : Int32) (x3_3 : Int32) (x4_4 : Int32) (x5_5 : Int32) (H : Heap) (locs : List Loc) (ls : Array Slot), I_1 n_1 x2_2 x3_3 x4_4 x5_5 → Hp G (FA S s.heap.size) s.heap S H locs → lv_has ls 9 [(1, .int p1), (2, .int x2_2), (3, .int x3_3), (4, .int x4_4), (5, .int x5_5)] → Wm G p l e { frames := 1, cells := 0, slots := 0, locals := 21 } s m args below meth c S QQ 0 0 H locs 0 0 (F0 m 11 ls []) := by
    intro n_1
    induction n_1 using Nat.strongRecOn with
    | ind n_1 ih_1 =>
      intro x2_2 x3_3 x4_4 x5_5 H locs ls hq9 hH hl
      have hp := hst_1 n_1 x2_2 x3_3 x4_4 x5_5 hq9
      refine lv_iload (pc := 11) hx hb dX4_unrank_11 (lv_at hl 4 rfl) ?_
      refine lv_iload_n (pc := 13) hx hb dX4_unrank_13 rfl (lv_at hl 0 rfl) ?_
      refine lv_icmp_ge (pc := 14) (tgt := 90) hx hb dX4_unrank_14 (by decide) (fun cc_6 => ?_) (fun cc_6 => ?_)
      · have hp := hp.1 cc_6
        refine lv_iload (pc := 90) hx hb dX4_unrank_90 (lv_at hl 3 rfl) ?_
        exact sx_iret (pc := 92) B hH hr hlk (by rw [← hQQ]; exact ⟨_, rfl, rfl, hp⟩) (Nat.le_of_ble_eq_true rfl) (Nat.le_of_ble_eq_true rfl) dX4_unrank_92
      · have hp := hp.2 cc_6
        refine lv_iconst (pc := 17) (v := 1) hx hb dX4_unrank_17 (by decide) ?_
        refine lv_iload_n (pc := 18) hx hb dX4_unrank_18 rfl (lv_at hl 0 rfl) ?_
        refine lv_iconst (pc := 19) (v := 1) hx hb dX4_unrank_19 (by decide) ?_
        refine lv_isub (pc := 20) hx hb dX4_unrank_20 ?_
        refine lv_iload (pc := 21) hx hb dX4_unrank_21 (lv_at hl 4 rfl) ?_
        refine lv_isub (pc := 23) hx hb dX4_unrank_23 ?_
        refine sx_S (pc := 24) (As := [.int ((p1 - 1) - x5_5)]) (rest := [.int 1]) B hH hl.1 (C_X4_many G l ((p1 - 1) - x5_5) _ _ hp) mi_X4_many w_348 w_868 rfl rfl ⟨Nat.le_of_ble_eq_true rfl, Nat.le_of_ble_eq_true rfl⟩ (Nat.le_of_ble_eq_true rfl) ⟨Nat.le_of_ble_eq_true rfl, Nat.le_of_ble_eq_true rfl⟩ dX4_unrank_24 (fun v S1 H locs hq hH => ?_)
        obtain ⟨r_7, rfl, e9, hp⟩ := hq
        rw [e9] at hH
        refine W.eq (g2 := F0 m 27 ls [.int r_7, .int 1]) rfl ?_
        refine sx_max (pc := 27) B hl.1 w_869 w_870 w_121 w_max (Nat.le_of_ble_eq_true rfl) (Nat.le_of_ble_eq_true rfl) (Nat.le_of_ble_eq_true rfl) (Nat.le_of_ble_eq_true rfl) dX4_unrank_27 ?_
        refine W.eq (g2 := F0 m 30 ls [.int (imax 1 r_7)]) rfl ?_
        refine lv_topi (fun v_8 ev_8 => ?_)
        have hp := hp v_8 ev_8
        refine lv_istore (pc := 30) (lv' := [(6, .int v_8), (1, .int p1), (2, .int x2_2), (3, .int x3_3), (4, .int x4_4), (5, .int x5_5)]) hx hb dX4_unrank_30 hl (by decide) rfl (fun ls hl => ?_)
        refine lv_iload_n (pc := 32) hx hb dX4_unrank_32 rfl (lv_at hl 3 rfl) ?_
        refine lv_iload (pc := 33) hx hb dX4_unrank_33 (lv_at hl 0 rfl) ?_
        obtain ⟨hc_9, hp⟩ := hp
        refine lv_idiv (pc := 35) hx hb dX4_unrank_35 hc_9 ?_
        refine lv_iconst (pc := 36) (v := 2) hx hb dX4_unrank_36 (by decide) ?_
        refine lv_ishl (pc := 37) hx hb dX4_unrank_37 ?_
        refine W.eq (g2 := F0 m 38 ls [.int (shl (x3_3 / v_8) 2)]) rfl ?_
        refine lv_topi (fun v_10 ev_10 => ?_)
        have hp := hp v_10 ev_10
        refine lv_istore (pc := 38) (lv' := [(7, .int v_10), (6, .int v_8), (1, .int p1), (2, .int x2_2), (3, .int x3_3), (4, .int x4_4), (5, .int x5_5)]) hx hb dX4_unrank_38 hl (by decide) rfl (fun ls hl => ?_)
        refine lv_iload_n (pc := 40) hx hb dX4_unrank_40 rfl (lv_at hl 4 rfl) ?_
        refine lv_iload (pc := 41) hx hb dX4_unrank_41 (lv_at hl 1 rfl) ?_
        obtain ⟨hc_11, hp⟩ := hp
        refine lv_irem (pc := 43) hx hb dX4_unrank_43 hc_11 ?_
        refine W.eq (g2 := F0 m 44 ls [.int (irm x3_3 v_8)]) rfl ?_
        refine lv_topi (fun v_12 ev_12 => ?_)
        have hp := hp v_12 ev_12
        refine lv_istore_n (pc := 44) (lv' := [(3, .int v_12), (7, .int v_10), (6, .int v_8), (1, .int p1), (2, .int x2_2), (4, .int x4_4), (5, .int x5_5)]) hx hb dX4_unrank_44 rfl hl (by decide) rfl (fun ls hl => ?_)
        refine lv_iload (pc := 45) hx hb dX4_unrank_45 (lv_at hl 5 rfl) ?_
        refine lv_iload_n (pc := 47) hx hb dX4_unrank_47 rfl (lv_at hl 4 rfl) ?_
        refine lv_iload (pc := 48) hx hb dX4_unrank_48 (lv_at hl 1 rfl) ?_
        refine lv_iushr (pc := 50) (v := ushr x2_2 v_10) hx hb dX4_unrank_50 rfl ?_
        refine lv_bipush (pc := 51) (v := 7) hx hb dX4_unrank_51 (by decide) ?_
        refine lv_iand (pc := 53) hx hb dX4_unrank_53 ?_
        refine lv_iconst (pc := 54) (v := 4) hx hb dX4_unrank_54 (by decide) ?_
        refine lv_iload (pc := 55) hx hb dX4_unrank_55 (lv_at hl 6 rfl) ?_
        refine lv_imul (pc := 57) hx hb dX4_unrank_57 ?_
        refine lv_ishl (pc := 58) hx hb dX4_unrank_58 ?_
        refine W.eq (g2 := F0 m 59 ls [.int (shl ((ushr x2_2 v_10) &&& 7) (4 * x5_5)), .int x4_4]) rfl ?_
        refine lv_ior (pc := 59) hx hb dX4_unrank_59 ?_
        refine lv_topi (fun v_13 ev_13 => ?_)
        have hp := hp v_13 ev_13
        refine lv_istore (pc := 60) (lv' := [(4, .int v_13), (3, .int v_12), (7, .int v_10), (6, .int v_8), (1, .int p1), (2, .int x2_2), (5, .int x5_5)]) hx hb dX4_unrank_60 hl (by decide) rfl (fun ls hl => ?_)
        refine lv_iconst (pc := 62) (v := 1) hx hb dX4_unrank_62 (by decide) ?_
        refine lv_iload (pc := 63) hx hb dX4_unrank_63 (lv_at hl 2 rfl) ?_
        refine lv_ishl (pc := 65) hx hb dX4_unrank_65 ?_
        refine W.eq (g2 := F0 m 66 ls [.int (shl 1 v_10)]) rfl ?_
        refine lv_iconst (pc := 66) (v := 1) hx hb dX4_unrank_66 (by decide) ?_
        refine lv_isub (pc := 67) hx hb dX4_unrank_67 ?_
        refine lv_topi (fun v_14 ev_14 => ?_)
        have hp := hp v_14 ev_14
        refine lv_istore (pc := 68) (lv' := [(8, .int v_14), (4, .int v_13), (3, .int v_12), (7, .int v_10), (6, .int v_8), (1, .int p1), (2, .int x2_2), (5, .int x5_5)]) hx hb dX4_unrank_68 hl (by decide) rfl (fun ls hl => ?_)
        refine lv_iload_n (pc := 70) hx hb dX4_unrank_70 rfl (lv_at hl 6 rfl) ?_
        refine lv_iload (pc := 71) hx hb dX4_unrank_71 (lv_at hl 0 rfl) ?_
        refine lv_iand (pc := 73) hx hb dX4_unrank_73 ?_
        refine lv_iload_n (pc := 74) hx hb dX4_unrank_74 rfl (lv_at hl 6 rfl) ?_
        refine lv_iconst (pc := 75) (v := 4) hx hb dX4_unrank_75 (by decide) ?_
        refine lv_iushr (pc := 76) (v := ushr x2_2 4) hx hb dX4_unrank_76 rfl ?_
        refine lv_iload (pc := 77) hx hb dX4_unrank_77 (lv_at hl 0 rfl) ?_
        refine lv_iconst (pc := 79) (v := (-1)) hx hb dX4_unrank_79 (by decide) ?_
        refine lv_ixor (pc := 80) hx hb dX4_unrank_80 ?_
        refine lv_iand (pc := 81) hx hb dX4_unrank_81 ?_
        refine lv_ior (pc := 82) hx hb dX4_unrank_82 ?_
        refine lv_topi (fun v_15 ev_15 => ?_)
        have hp := hp v_15 ev_15
        refine lv_istore_n (pc := 83) (lv' := [(2, .int v_15), (8, .int v_14), (4, .int v_13), (3, .int v_12), (7, .int v_10), (6, .int v_8), (1, .int p1), (5, .int x5_5)]) hx hb dX4_unrank_83 rfl hl (by decide) rfl (fun ls hl => ?_)
        obtain ⟨v_16, ev_16⟩ : ∃ y : Int32, y = x5_5 + 1 := ⟨_, rfl⟩
        have hp := hp v_16 ev_16
        refine lv_iinc (pc := 84) (v := v_16) (lv' := [(5, .int v_16), (2, .int v_15), (8, .int v_14), (4, .int v_13), (3, .int v_12), (7, .int v_10), (6, .int v_8), (1, .int p1)]) hx hb dX4_unrank_84 hl (k := 7) rfl (by rw [ev_16]; rfl) (by decide) rfl (fun ls hl => ?_)
        refine lv_goto (pc := 87) (tgt := 11) hx hb dX4_unrank_87 (by decide) ?_
        obtain ⟨k9, hlt9, hp⟩ := hp
        exact ih_1 k9 hlt9 _ _ _ _ _ _ _ hp hH (lv_sub hl [7, 1, 4, 3, 0] rfl)
  exact kl_1 k0_1 _ _ _ _ _ _ _ h0_1 hH (lv_sub hl [5, 3, 2, 1, 0] rfl)
theorem dX4_bellAt_0 : decode cX4_bellAt 0 = .ok (.iload_n 0, 1) := by decide +kernel
theorem dX4_bellAt_1 : decode cX4_bellAt 1 = .ok (.iconst 4, 1) := by decide +kernel
theorem dX4_bellAt_2 : decode cX4_bellAt 2 = .ok (.iload_n 1, 1) := by decide +kernel
theorem dX4_bellAt_3 : decode cX4_bellAt 3 = .ok (.imul, 1) := by decide +kernel
theorem dX4_bellAt_4 : decode cX4_bellAt 4 = .ok (.iushr, 1) := by decide +kernel
theorem dX4_bellAt_5 : decode cX4_bellAt 5 = .ok (.bipush 7, 2) := by decide +kernel
theorem dX4_bellAt_7 : decode cX4_bellAt 7 = .ok (.iand, 1) := by decide +kernel
theorem dX4_bellAt_8 : decode cX4_bellAt 8 = .ok (.ireturn, 1) := by decide +kernel
theorem mi_X4_bellAt : MI yX4_bellAt cX4_bellAt 2 (some FieldType.int) 2 := ⟨w_874, w_114, by decide +kernel, by decide +kernel, by decide +kernel⟩
set_option maxRecDepth 100000 in
set_option maxHeartbeats 4000000 in
theorem C_X4_bellAt (G : GG) (l : Launch) (p0 : Int32) (p1 : Int32) (S : St) (Q : Int32 → Prop) (hp : P_X4_bellAt p0 p1 Q) : Ctr G l yX4_bellAt cX4_bellAt 2 (some FieldType.int) 0 0 0 0 [.int p0, .int p1] S (fun (v : Option Value) (S9 : St) => ∃ (r : Int32), v = some (.int r) ∧ S9 = S ∧ Q r ) := by
  generalize hQQ : (fun (v : Option Value) (S9 : St) => ∃ (r : Int32), v = some (.int r) ∧ S9 = S ∧ Q r ) = QQ
  unfold P_X4_bellAt at hp
  refine Ctr.of (by decide) (Nat.le_of_ble_eq_true rfl) ?_
  intro p e s m args below meth c ls B hr hlk hin hl hH
  generalize hlocs0 : ([] : List Loc) = locs at hH ⊢
  have hx := B.1
  have hb := B.2.1
  have hl : lv_has ls 2 [(0, .int p0), (1, .int p1)] := hl
  refine lv_iload_n (pc := 0) hx hb dX4_bellAt_0 rfl (lv_at hl 0 rfl) ?_
  refine lv_iconst (pc := 1) (v := 4) hx hb dX4_bellAt_1 (by decide) ?_
  refine lv_iload_n (pc := 2) hx hb dX4_bellAt_2 rfl (lv_at hl 1 rfl) ?_
  refine lv_imul (pc := 3) hx hb dX4_bellAt_3 ?_
  refine lv_iushr (pc := 4) (v := ushr p0 (4 * p1)) hx hb dX4_bellAt_4 rfl ?_
  refine lv_bipush (pc := 5) (v := 7) hx hb dX4_bellAt_5 (by decide) ?_
  refine lv_iand (pc := 7) hx hb dX4_bellAt_7 ?_
  exact sx_iret (pc := 8) B hH hr hlk (by rw [← hQQ]; exact ⟨_, rfl, rfl, hp⟩) (Nat.le_of_ble_eq_true rfl) (Nat.le_of_ble_eq_true rfl) dX4_bellAt_8
theorem dX4_rank_0 : decode cX4_rank 0 = .ok (.ldc 15, 2) := by decide +kernel
theorem dX4_rank_2 : decode cX4_rank 2 = .ok (.istore_n 2, 1) := by decide +kernel
theorem dX4_rank_3 : decode cX4_rank 3 = .ok (.iconst 0, 1) := by decide +kernel
theorem dX4_rank_4 : decode cX4_rank 4 = .ok (.istore_n 3, 1) := by decide +kernel
theorem dX4_rank_5 : decode cX4_rank 5 = .ok (.iconst 0, 1) := by decide +kernel
theorem dX4_rank_6 : decode cX4_rank 6 = .ok (.istore 4, 2) := by decide +kernel
theorem dX4_rank_8 : decode cX4_rank 8 = .ok (.iload 4, 2) := by decide +kernel
theorem dX4_rank_10 : decode cX4_rank 10 = .ok (.iload_n 1, 1) := by decide +kernel
theorem dX4_rank_11 : decode cX4_rank 11 = .ok (.if_icmp .ge 45, 3) := by decide +kernel
theorem dX4_rank_14 : decode cX4_rank 14 = .ok (.iload_n 0, 1) := by decide +kernel
theorem dX4_rank_15 : decode cX4_rank 15 = .ok (.iconst 4, 1) := by decide +kernel
theorem dX4_rank_16 : decode cX4_rank 16 = .ok (.iload 4, 2) := by decide +kernel
theorem dX4_rank_18 : decode cX4_rank 18 = .ok (.imul, 1) := by decide +kernel
theorem dX4_rank_19 : decode cX4_rank 19 = .ok (.iushr, 1) := by decide +kernel
theorem dX4_rank_20 : decode cX4_rank 20 = .ok (.bipush 7, 2) := by decide +kernel
theorem dX4_rank_22 : decode cX4_rank 22 = .ok (.iand, 1) := by decide +kernel
theorem dX4_rank_23 : decode cX4_rank 23 = .ok (.iconst 2, 1) := by decide +kernel
theorem dX4_rank_24 : decode cX4_rank 24 = .ok (.ishl, 1) := by decide +kernel
theorem dX4_rank_25 : decode cX4_rank 25 = .ok (.istore 5, 2) := by decide +kernel
theorem dX4_rank_27 : decode cX4_rank 27 = .ok (.iload_n 3, 1) := by decide +kernel
theorem dX4_rank_28 : decode cX4_rank 28 = .ok (.iload_n 1, 1) := by decide +kernel
theorem dX4_rank_29 : decode cX4_rank 29 = .ok (.iload 4, 2) := by decide +kernel
theorem dX4_rank_31 : decode cX4_rank 31 = .ok (.isub, 1) := by decide +kernel
theorem dX4_rank_32 : decode cX4_rank 32 = .ok (.imul, 1) := by decide +kernel
theorem dX4_rank_33 : decode cX4_rank 33 = .ok (.iload_n 2, 1) := by decide +kernel
theorem dX4_rank_34 : decode cX4_rank 34 = .ok (.iload 5, 2) := by decide +kernel
theorem dX4_rank_36 : decode cX4_rank 36 = .ok (.iushr, 1) := by decide +kernel
theorem dX4_rank_37 : decode cX4_rank 37 = .ok (.bipush 7, 2) := by decide +kernel
theorem dX4_rank_39 : decode cX4_rank 39 = .ok (.iand, 1) := by decide +kernel
theorem dX4_rank_40 : decode cX4_rank 40 = .ok (.iadd, 1) := by decide +kernel
theorem dX4_rank_41 : decode cX4_rank 41 = .ok (.istore_n 3, 1) := by decide +kernel
theorem dX4_rank_42 : decode cX4_rank 42 = .ok (.iload_n 2, 1) := by decide +kernel
theorem dX4_rank_43 : decode cX4_rank 43 = .ok (.ldc 16, 2) := by decide +kernel
theorem dX4_rank_45 : decode cX4_rank 45 = .ok (.iload 5, 2) := by decide +kernel
theorem dX4_rank_47 : decode cX4_rank 47 = .ok (.ishl, 1) := by decide +kernel
theorem dX4_rank_48 : decode cX4_rank 48 = .ok (.isub, 1) := by decide +kernel
theorem dX4_rank_49 : decode cX4_rank 49 = .ok (.istore_n 2, 1) := by decide +kernel
theorem dX4_rank_50 : decode cX4_rank 50 = .ok (.iinc 4 1, 3) := by decide +kernel
theorem dX4_rank_53 : decode cX4_rank 53 = .ok (.goto (-45), 3) := by decide +kernel
theorem dX4_rank_56 : decode cX4_rank 56 = .ok (.iload_n 3, 1) := by decide +kernel
theorem dX4_rank_57 : decode cX4_rank 57 = .ok (.ireturn, 1) := by decide +kernel
theorem mi_X4_rank : MI yX4_rank cX4_rank 6 (some FieldType.int) 2 := ⟨w_889, w_114, by decide +kernel, by decide +kernel, by decide +kernel⟩
set_option maxRecDepth 100000 in
set_option maxHeartbeats 4000000 in
theorem C_X4_rank (G : GG) (l : Launch) (p0 : Int32) (p1 : Int32) (S : St) (Q : Int32 → Prop) (hp : P_X4_rank p0 p1 Q) : Ctr G l yX4_rank cX4_rank 6 (some FieldType.int) 0 0 0 0 [.int p0, .int p1] S (fun (v : Option Value) (S9 : St) => ∃ (r : Int32), v = some (.int r) ∧ S9 = S ∧ Q r ) := by
  generalize hQQ : (fun (v : Option Value) (S9 : St) => ∃ (r : Int32), v = some (.int r) ∧ S9 = S ∧ Q r ) = QQ
  unfold P_X4_rank at hp
  refine Ctr.of (by decide) (Nat.le_of_ble_eq_true rfl) ?_
  intro p e s m args below meth c ls B hr hlk hin hl hH
  generalize hlocs0 : ([] : List Loc) = locs at hH ⊢
  have hx := B.1
  have hb := B.2.1
  have hl : lv_has ls 6 [(0, .int p0), (1, .int p1)] := hl
  refine sx_ldc (pc := 0) (v := 1985229328) B w_708 dX4_rank_0 ?_
  refine lv_istore_n (pc := 2) (lv' := [(2, .int 1985229328), (0, .int p0), (1, .int p1)]) hx hb dX4_rank_2 rfl hl (by decide) rfl (fun ls hl => ?_)
  refine lv_iconst (pc := 3) (v := 0) hx hb dX4_rank_3 (by decide) ?_
  refine lv_istore_n (pc := 4) (lv' := [(3, .int 0), (2, .int 1985229328), (0, .int p0), (1, .int p1)]) hx hb dX4_rank_4 rfl hl (by decide) rfl (fun ls hl => ?_)
  refine lv_iconst (pc := 5) (v := 0) hx hb dX4_rank_5 (by decide) ?_
  refine lv_istore (pc := 6) (lv' := [(4, .int 0), (3, .int 0), (2, .int 1985229328), (0, .int p0), (1, .int p1)]) hx hb dX4_rank_6 hl (by decide) rfl (fun ls hl => ?_)
  obtain ⟨I_1, ⟨k0_1, h0_1⟩, hst_1⟩ := hp
  have kl_1 : ∀ (n_1 : Nat) (x2_2 : Int32) (x3_3 : Int32) (x4_4 : Int32) (H : Heap) (locs : List Loc) (ls : Array Slot), I_1 n_1 x2_2 x3_3 x4_4 → Hp G (FA S s.heap.size) s.heap S H locs → lv_has ls 6 [(0, .int p0), (1, .int p1), (2, .int x2_2), (3, .int x3_3), (4, .int x4_4)] → Wm G p l e { frames := 0, cells := 0, slots := 0, locals := 0 } s m args below meth c S QQ 0 0 H locs 0 0 (F0 m 8 ls []) := by
    intro n_1
    induction n_1 using Nat.strongRecOn with
    | ind n_1 ih_1 =>
      intro x2_2 x3_3 x4_4 H locs ls hq9 hH hl
      have hp := hst_1 n_1 x2_2 x3_3 x4_4 hq9
      refine lv_iload (pc := 8) hx hb dX4_rank_8 (lv_at hl 4 rfl) ?_
      refine lv_iload_n (pc := 10) hx hb dX4_rank_10 rfl (lv_at hl 1 rfl) ?_
      refine lv_icmp_ge (pc := 11) (tgt := 56) hx hb dX4_rank_11 (by decide) (fun cc_5 => ?_) (fun cc_5 => ?_)
      · have hp := hp.1 cc_5
        refine lv_iload_n (pc := 56) hx hb dX4_rank_56 rfl (lv_at hl 3 rfl) ?_
        exact sx_iret (pc := 57) B hH hr hlk (by rw [← hQQ]; exact ⟨_, rfl, rfl, hp⟩) (Nat.le_of_ble_eq_true rfl) (Nat.le_of_ble_eq_true rfl) dX4_rank_57
      · have hp := hp.2 cc_5
        refine lv_iload_n (pc := 14) hx hb dX4_rank_14 rfl (lv_at hl 0 rfl) ?_
        refine lv_iconst (pc := 15) (v := 4) hx hb dX4_rank_15 (by decide) ?_
        refine lv_iload (pc := 16) hx hb dX4_rank_16 (lv_at hl 4 rfl) ?_
        refine lv_imul (pc := 18) hx hb dX4_rank_18 ?_
        refine lv_iushr (pc := 19) (v := ushr p0 (4 * x4_4)) hx hb dX4_rank_19 rfl ?_
        refine lv_bipush (pc := 20) (v := 7) hx hb dX4_rank_20 (by decide) ?_
        refine lv_iand (pc := 22) hx hb dX4_rank_22 ?_
        refine lv_iconst (pc := 23) (v := 2) hx hb dX4_rank_23 (by decide) ?_
        refine lv_ishl (pc := 24) hx hb dX4_rank_24 ?_
        refine W.eq (g2 := F0 m 25 ls [.int (shl ((ushr p0 (4 * x4_4)) &&& 7) 2)]) rfl ?_
        refine lv_topi (fun v_6 ev_6 => ?_)
        have hp := hp v_6 ev_6
        refine lv_istore (pc := 25) (lv' := [(5, .int v_6), (0, .int p0), (1, .int p1), (2, .int x2_2), (3, .int x3_3), (4, .int x4_4)]) hx hb dX4_rank_25 hl (by decide) rfl (fun ls hl => ?_)
        refine lv_iload_n (pc := 27) hx hb dX4_rank_27 rfl (lv_at hl 4 rfl) ?_
        refine lv_iload_n (pc := 28) hx hb dX4_rank_28 rfl (lv_at hl 2 rfl) ?_
        refine lv_iload (pc := 29) hx hb dX4_rank_29 (lv_at hl 5 rfl) ?_
        refine lv_isub (pc := 31) hx hb dX4_rank_31 ?_
        refine lv_imul (pc := 32) hx hb dX4_rank_32 ?_
        refine lv_iload_n (pc := 33) hx hb dX4_rank_33 rfl (lv_at hl 3 rfl) ?_
        refine lv_iload (pc := 34) hx hb dX4_rank_34 (lv_at hl 0 rfl) ?_
        refine lv_iushr (pc := 36) (v := ushr x2_2 v_6) hx hb dX4_rank_36 rfl ?_
        refine lv_bipush (pc := 37) (v := 7) hx hb dX4_rank_37 (by decide) ?_
        refine lv_iand (pc := 39) hx hb dX4_rank_39 ?_
        refine lv_iadd (pc := 40) hx hb dX4_rank_40 ?_
        refine lv_topi (fun v_7 ev_7 => ?_)
        have hp := hp v_7 ev_7
        refine lv_istore_n (pc := 41) (lv' := [(3, .int v_7), (5, .int v_6), (0, .int p0), (1, .int p1), (2, .int x2_2), (4, .int x4_4)]) hx hb dX4_rank_41 rfl hl (by decide) rfl (fun ls hl => ?_)
        refine lv_iload_n (pc := 42) hx hb dX4_rank_42 rfl (lv_at hl 4 rfl) ?_
        refine sx_ldc (pc := 43) (v := 286331152) B w_890 dX4_rank_43 ?_
        refine lv_iload (pc := 45) hx hb dX4_rank_45 (lv_at hl 1 rfl) ?_
        refine lv_ishl (pc := 47) hx hb dX4_rank_47 ?_
        refine W.eq (g2 := F0 m 48 ls [.int (shl 286331152 v_6), .int x2_2]) rfl ?_
        refine lv_isub (pc := 48) hx hb dX4_rank_48 ?_
        refine lv_topi (fun v_8 ev_8 => ?_)
        have hp := hp v_8 ev_8
        refine lv_istore_n (pc := 49) (lv' := [(2, .int v_8), (3, .int v_7), (5, .int v_6), (0, .int p0), (1, .int p1), (4, .int x4_4)]) hx hb dX4_rank_49 rfl hl (by decide) rfl (fun ls hl => ?_)
        obtain ⟨v_9, ev_9⟩ : ∃ y : Int32, y = x4_4 + 1 := ⟨_, rfl⟩
        have hp := hp v_9 ev_9
        refine lv_iinc (pc := 50) (v := v_9) (lv' := [(4, .int v_9), (2, .int v_8), (3, .int v_7), (5, .int v_6), (0, .int p0), (1, .int p1)]) hx hb dX4_rank_50 hl (k := 5) rfl (by rw [ev_9]; rfl) (by decide) rfl (fun ls hl => ?_)
        refine lv_goto (pc := 53) (tgt := 8) hx hb dX4_rank_53 (by decide) ?_
        obtain ⟨k9, hlt9, hp⟩ := hp
        exact ih_1 k9 hlt9 _ _ _ _ _ _ hp hH (lv_sub hl [4, 5, 1, 2, 0] rfl)
  exact kl_1 k0_1 _ _ _ _ _ _ h0_1 hH (lv_sub hl [3, 4, 2, 1, 0] rfl)
theorem dX4_rankMultiplied_0 : decode cX4_rankMultiplied 0 = .ok (.ldc 15, 2) := by decide +kernel
theorem dX4_rankMultiplied_2 : decode cX4_rankMultiplied 2 = .ok (.istore_n 3, 1) := by decide +kernel
theorem dX4_rankMultiplied_3 : decode cX4_rankMultiplied 3 = .ok (.iconst 0, 1) := by decide +kernel
theorem dX4_rankMultiplied_4 : decode cX4_rankMultiplied 4 = .ok (.istore 4, 2) := by decide +kernel
theorem dX4_rankMultiplied_6 : decode cX4_rankMultiplied 6 = .ok (.iconst 0, 1) := by decide +kernel
theorem dX4_rankMultiplied_7 : decode cX4_rankMultiplied 7 = .ok (.istore 5, 2) := by decide +kernel
theorem dX4_rankMultiplied_9 : decode cX4_rankMultiplied 9 = .ok (.iload 5, 2) := by decide +kernel
theorem dX4_rankMultiplied_11 : decode cX4_rankMultiplied 11 = .ok (.iload_n 2, 1) := by decide +kernel
theorem dX4_rankMultiplied_12 : decode cX4_rankMultiplied 12 = .ok (.if_icmp .ge 54, 3) := by decide +kernel
theorem dX4_rankMultiplied_15 : decode cX4_rankMultiplied 15 = .ok (.iload_n 0, 1) := by decide +kernel
theorem dX4_rankMultiplied_16 : decode cX4_rankMultiplied 16 = .ok (.iload_n 1, 1) := by decide +kernel
theorem dX4_rankMultiplied_17 : decode cX4_rankMultiplied 17 = .ok (.iconst 4, 1) := by decide +kernel
theorem dX4_rankMultiplied_18 : decode cX4_rankMultiplied 18 = .ok (.iload 5, 2) := by decide +kernel
theorem dX4_rankMultiplied_20 : decode cX4_rankMultiplied 20 = .ok (.imul, 1) := by decide +kernel
theorem dX4_rankMultiplied_21 : decode cX4_rankMultiplied 21 = .ok (.iushr, 1) := by decide +kernel
theorem dX4_rankMultiplied_22 : decode cX4_rankMultiplied 22 = .ok (.bipush 7, 2) := by decide +kernel
theorem dX4_rankMultiplied_24 : decode cX4_rankMultiplied 24 = .ok (.iand, 1) := by decide +kernel
theorem dX4_rankMultiplied_25 : decode cX4_rankMultiplied 25 = .ok (.iconst 2, 1) := by decide +kernel
theorem dX4_rankMultiplied_26 : decode cX4_rankMultiplied 26 = .ok (.ishl, 1) := by decide +kernel
theorem dX4_rankMultiplied_27 : decode cX4_rankMultiplied 27 = .ok (.iushr, 1) := by decide +kernel
theorem dX4_rankMultiplied_28 : decode cX4_rankMultiplied 28 = .ok (.bipush 7, 2) := by decide +kernel
theorem dX4_rankMultiplied_30 : decode cX4_rankMultiplied 30 = .ok (.iand, 1) := by decide +kernel
theorem dX4_rankMultiplied_31 : decode cX4_rankMultiplied 31 = .ok (.iconst 2, 1) := by decide +kernel
theorem dX4_rankMultiplied_32 : decode cX4_rankMultiplied 32 = .ok (.ishl, 1) := by decide +kernel
theorem dX4_rankMultiplied_33 : decode cX4_rankMultiplied 33 = .ok (.istore 6, 2) := by decide +kernel
theorem dX4_rankMultiplied_35 : decode cX4_rankMultiplied 35 = .ok (.iload 4, 2) := by decide +kernel
theorem dX4_rankMultiplied_37 : decode cX4_rankMultiplied 37 = .ok (.iload_n 2, 1) := by decide +kernel
theorem dX4_rankMultiplied_38 : decode cX4_rankMultiplied 38 = .ok (.iload 5, 2) := by decide +kernel
theorem dX4_rankMultiplied_40 : decode cX4_rankMultiplied 40 = .ok (.isub, 1) := by decide +kernel
theorem dX4_rankMultiplied_41 : decode cX4_rankMultiplied 41 = .ok (.imul, 1) := by decide +kernel
theorem dX4_rankMultiplied_42 : decode cX4_rankMultiplied 42 = .ok (.iload_n 3, 1) := by decide +kernel
theorem dX4_rankMultiplied_43 : decode cX4_rankMultiplied 43 = .ok (.iload 6, 2) := by decide +kernel
theorem dX4_rankMultiplied_45 : decode cX4_rankMultiplied 45 = .ok (.iushr, 1) := by decide +kernel
theorem dX4_rankMultiplied_46 : decode cX4_rankMultiplied 46 = .ok (.bipush 7, 2) := by decide +kernel
theorem dX4_rankMultiplied_48 : decode cX4_rankMultiplied 48 = .ok (.iand, 1) := by decide +kernel
theorem dX4_rankMultiplied_49 : decode cX4_rankMultiplied 49 = .ok (.iadd, 1) := by decide +kernel
theorem dX4_rankMultiplied_50 : decode cX4_rankMultiplied 50 = .ok (.istore 4, 2) := by decide +kernel
theorem dX4_rankMultiplied_52 : decode cX4_rankMultiplied 52 = .ok (.iload_n 3, 1) := by decide +kernel
theorem dX4_rankMultiplied_53 : decode cX4_rankMultiplied 53 = .ok (.ldc 16, 2) := by decide +kernel
theorem dX4_rankMultiplied_55 : decode cX4_rankMultiplied 55 = .ok (.iload 6, 2) := by decide +kernel
theorem dX4_rankMultiplied_57 : decode cX4_rankMultiplied 57 = .ok (.ishl, 1) := by decide +kernel
theorem dX4_rankMultiplied_58 : decode cX4_rankMultiplied 58 = .ok (.isub, 1) := by decide +kernel
theorem dX4_rankMultiplied_59 : decode cX4_rankMultiplied 59 = .ok (.istore_n 3, 1) := by decide +kernel
theorem dX4_rankMultiplied_60 : decode cX4_rankMultiplied 60 = .ok (.iinc 5 1, 3) := by decide +kernel
theorem dX4_rankMultiplied_63 : decode cX4_rankMultiplied 63 = .ok (.goto (-54), 3) := by decide +kernel
theorem dX4_rankMultiplied_66 : decode cX4_rankMultiplied 66 = .ok (.iload 4, 2) := by decide +kernel
theorem dX4_rankMultiplied_68 : decode cX4_rankMultiplied 68 = .ok (.ireturn, 1) := by decide +kernel
theorem mi_X4_rankMultiplied : MI yX4_rankMultiplied cX4_rankMultiplied 7 (some FieldType.int) 3 := ⟨w_897, w_114, by decide +kernel, by decide +kernel, by decide +kernel⟩
set_option maxRecDepth 100000 in
set_option maxHeartbeats 4000000 in
theorem C_X4_rankMultiplied (G : GG) (l : Launch) (p0 : Int32) (p1 : Int32) (p2 : Int32) (S : St) (Q : Int32 → Prop) (hp : P_X4_rankMultiplied p0 p1 p2 Q) : Ctr G l yX4_rankMultiplied cX4_rankMultiplied 7 (some FieldType.int) 0 0 0 0 [.int p0, .int p1, .int p2] S (fun (v : Option Value) (S9 : St) => ∃ (r : Int32), v = some (.int r) ∧ S9 = S ∧ Q r ) := by
  generalize hQQ : (fun (v : Option Value) (S9 : St) => ∃ (r : Int32), v = some (.int r) ∧ S9 = S ∧ Q r ) = QQ
  unfold P_X4_rankMultiplied at hp
  refine Ctr.of (by decide) (Nat.le_of_ble_eq_true rfl) ?_
  intro p e s m args below meth c ls B hr hlk hin hl hH
  generalize hlocs0 : ([] : List Loc) = locs at hH ⊢
  have hx := B.1
  have hb := B.2.1
  have hl : lv_has ls 7 [(0, .int p0), (1, .int p1), (2, .int p2)] := hl
  refine sx_ldc (pc := 0) (v := 1985229328) B w_708 dX4_rankMultiplied_0 ?_
  refine lv_istore_n (pc := 2) (lv' := [(3, .int 1985229328), (0, .int p0), (1, .int p1), (2, .int p2)]) hx hb dX4_rankMultiplied_2 rfl hl (by decide) rfl (fun ls hl => ?_)
  refine lv_iconst (pc := 3) (v := 0) hx hb dX4_rankMultiplied_3 (by decide) ?_
  refine lv_istore (pc := 4) (lv' := [(4, .int 0), (3, .int 1985229328), (0, .int p0), (1, .int p1), (2, .int p2)]) hx hb dX4_rankMultiplied_4 hl (by decide) rfl (fun ls hl => ?_)
  refine lv_iconst (pc := 6) (v := 0) hx hb dX4_rankMultiplied_6 (by decide) ?_
  refine lv_istore (pc := 7) (lv' := [(5, .int 0), (4, .int 0), (3, .int 1985229328), (0, .int p0), (1, .int p1), (2, .int p2)]) hx hb dX4_rankMultiplied_7 hl (by decide) rfl (fun ls hl => ?_)
  obtain ⟨I_1, ⟨k0_1, h0_1⟩, hst_1⟩ := hp
  have kl_1 : ∀ (n_1 : Nat) (x3_2 : Int32) (x4_3 : Int32) (x5_4 : Int32) (H : Heap) (locs : List Loc) (ls : Array Slot), I_1 n_1 x3_2 x4_3 x5_4 → Hp G (FA S s.heap.size) s.heap S H locs → lv_has ls 7 [(0, .int p0), (1, .int p1), (2, .int p2), (3, .int x3_2), (4, .int x4_3), (5, .int x5_4)] → Wm G p l e { frames := 0, cells := 0, slots := 0, locals := 0 } s m args below meth c S QQ 0 0 H locs 0 0 (F0 m 9 ls []) := by
    intro n_1
    induction n_1 using Nat.strongRecOn with
    | ind n_1 ih_1 =>
      intro x3_2 x4_3 x5_4 H locs ls hq9 hH hl
      have hp := hst_1 n_1 x3_2 x4_3 x5_4 hq9
      refine lv_iload (pc := 9) hx hb dX4_rankMultiplied_9 (lv_at hl 5 rfl) ?_
      refine lv_iload_n (pc := 11) hx hb dX4_rankMultiplied_11 rfl (lv_at hl 2 rfl) ?_
      refine lv_icmp_ge (pc := 12) (tgt := 66) hx hb dX4_rankMultiplied_12 (by decide) (fun cc_5 => ?_) (fun cc_5 => ?_)
      · have hp := hp.1 cc_5
        refine lv_iload (pc := 66) hx hb dX4_rankMultiplied_66 (lv_at hl 4 rfl) ?_
        exact sx_iret (pc := 68) B hH hr hlk (by rw [← hQQ]; exact ⟨_, rfl, rfl, hp⟩) (Nat.le_of_ble_eq_true rfl) (Nat.le_of_ble_eq_true rfl) dX4_rankMultiplied_68
      · have hp := hp.2 cc_5
        refine lv_iload_n (pc := 15) hx hb dX4_rankMultiplied_15 rfl (lv_at hl 0 rfl) ?_
        refine lv_iload_n (pc := 16) hx hb dX4_rankMultiplied_16 rfl (lv_at hl 1 rfl) ?_
        refine lv_iconst (pc := 17) (v := 4) hx hb dX4_rankMultiplied_17 (by decide) ?_
        refine lv_iload (pc := 18) hx hb dX4_rankMultiplied_18 (lv_at hl 5 rfl) ?_
        refine lv_imul (pc := 20) hx hb dX4_rankMultiplied_20 ?_
        refine lv_iushr (pc := 21) (v := ushr p1 (4 * x5_4)) hx hb dX4_rankMultiplied_21 rfl ?_
        refine lv_bipush (pc := 22) (v := 7) hx hb dX4_rankMultiplied_22 (by decide) ?_
        refine lv_iand (pc := 24) hx hb dX4_rankMultiplied_24 ?_
        refine lv_iconst (pc := 25) (v := 2) hx hb dX4_rankMultiplied_25 (by decide) ?_
        refine lv_ishl (pc := 26) hx hb dX4_rankMultiplied_26 ?_
        refine W.eq (g2 := F0 m 27 ls [.int (shl ((ushr p1 (4 * x5_4)) &&& 7) 2), .int p0]) rfl ?_
        refine lv_iushr (pc := 27) (v := ushr p0 (shl ((ushr p1 (4 * x5_4)) &&& 7) 2)) hx hb dX4_rankMultiplied_27 rfl ?_
        refine lv_bipush (pc := 28) (v := 7) hx hb dX4_rankMultiplied_28 (by decide) ?_
        refine lv_iand (pc := 30) hx hb dX4_rankMultiplied_30 ?_
        refine lv_iconst (pc := 31) (v := 2) hx hb dX4_rankMultiplied_31 (by decide) ?_
        refine lv_ishl (pc := 32) hx hb dX4_rankMultiplied_32 ?_
        refine W.eq (g2 := F0 m 33 ls [.int (shl ((ushr p0 (shl ((ushr p1 (4 * x5_4)) &&& 7) 2)) &&& 7) 2)]) rfl ?_
        refine lv_topi (fun v_6 ev_6 => ?_)
        have hp := hp v_6 ev_6
        refine lv_istore (pc := 33) (lv' := [(6, .int v_6), (0, .int p0), (1, .int p1), (2, .int p2), (3, .int x3_2), (4, .int x4_3), (5, .int x5_4)]) hx hb dX4_rankMultiplied_33 hl (by decide) rfl (fun ls hl => ?_)
        refine lv_iload (pc := 35) hx hb dX4_rankMultiplied_35 (lv_at hl 5 rfl) ?_
        refine lv_iload_n (pc := 37) hx hb dX4_rankMultiplied_37 rfl (lv_at hl 3 rfl) ?_
        refine lv_iload (pc := 38) hx hb dX4_rankMultiplied_38 (lv_at hl 6 rfl) ?_
        refine lv_isub (pc := 40) hx hb dX4_rankMultiplied_40 ?_
        refine lv_imul (pc := 41) hx hb dX4_rankMultiplied_41 ?_
        refine lv_iload_n (pc := 42) hx hb dX4_rankMultiplied_42 rfl (lv_at hl 4 rfl) ?_
        refine lv_iload (pc := 43) hx hb dX4_rankMultiplied_43 (lv_at hl 0 rfl) ?_
        refine lv_iushr (pc := 45) (v := ushr x3_2 v_6) hx hb dX4_rankMultiplied_45 rfl ?_
        refine lv_bipush (pc := 46) (v := 7) hx hb dX4_rankMultiplied_46 (by decide) ?_
        refine lv_iand (pc := 48) hx hb dX4_rankMultiplied_48 ?_
        refine lv_iadd (pc := 49) hx hb dX4_rankMultiplied_49 ?_
        refine lv_topi (fun v_7 ev_7 => ?_)
        have hp := hp v_7 ev_7
        refine lv_istore (pc := 50) (lv' := [(4, .int v_7), (6, .int v_6), (0, .int p0), (1, .int p1), (2, .int p2), (3, .int x3_2), (5, .int x5_4)]) hx hb dX4_rankMultiplied_50 hl (by decide) rfl (fun ls hl => ?_)
        refine lv_iload_n (pc := 52) hx hb dX4_rankMultiplied_52 rfl (lv_at hl 5 rfl) ?_
        refine sx_ldc (pc := 53) (v := 286331152) B w_890 dX4_rankMultiplied_53 ?_
        refine lv_iload (pc := 55) hx hb dX4_rankMultiplied_55 (lv_at hl 1 rfl) ?_
        refine lv_ishl (pc := 57) hx hb dX4_rankMultiplied_57 ?_
        refine W.eq (g2 := F0 m 58 ls [.int (shl 286331152 v_6), .int x3_2]) rfl ?_
        refine lv_isub (pc := 58) hx hb dX4_rankMultiplied_58 ?_
        refine lv_topi (fun v_8 ev_8 => ?_)
        have hp := hp v_8 ev_8
        refine lv_istore_n (pc := 59) (lv' := [(3, .int v_8), (4, .int v_7), (6, .int v_6), (0, .int p0), (1, .int p1), (2, .int p2), (5, .int x5_4)]) hx hb dX4_rankMultiplied_59 rfl hl (by decide) rfl (fun ls hl => ?_)
        obtain ⟨v_9, ev_9⟩ : ∃ y : Int32, y = x5_4 + 1 := ⟨_, rfl⟩
        have hp := hp v_9 ev_9
        refine lv_iinc (pc := 60) (v := v_9) (lv' := [(5, .int v_9), (3, .int v_8), (4, .int v_7), (6, .int v_6), (0, .int p0), (1, .int p1), (2, .int p2)]) hx hb dX4_rankMultiplied_60 hl (k := 6) rfl (by rw [ev_9]; rfl) (by decide) rfl (fun ls hl => ?_)
        refine lv_goto (pc := 63) (tgt := 9) hx hb dX4_rankMultiplied_63 (by decide) ?_
        obtain ⟨k9, hlt9, hp⟩ := hp
        exact ih_1 k9 hlt9 _ _ _ _ _ _ hp hH (lv_sub hl [4, 5, 6, 1, 2, 0] rfl)
  exact kl_1 k0_1 _ _ _ _ _ _ h0_1 hH (lv_sub hl [3, 4, 5, 2, 1, 0] rfl)
theorem dX4_invert_0 : decode cX4_invert 0 = .ok (.iconst 0, 1) := by decide +kernel
theorem dX4_invert_1 : decode cX4_invert 1 = .ok (.istore_n 2, 1) := by decide +kernel
theorem dX4_invert_2 : decode cX4_invert 2 = .ok (.iconst 0, 1) := by decide +kernel
theorem dX4_invert_3 : decode cX4_invert 3 = .ok (.istore_n 3, 1) := by decide +kernel
theorem dX4_invert_4 : decode cX4_invert 4 = .ok (.iload_n 3, 1) := by decide +kernel
theorem dX4_invert_5 : decode cX4_invert 5 = .ok (.iload_n 1, 1) := by decide +kernel
theorem dX4_invert_6 : decode cX4_invert 6 = .ok (.if_icmp .ge 24, 3) := by decide +kernel
theorem dX4_invert_9 : decode cX4_invert 9 = .ok (.iload_n 2, 1) := by decide +kernel
theorem dX4_invert_10 : decode cX4_invert 10 = .ok (.iload_n 3, 1) := by decide +kernel
theorem dX4_invert_11 : decode cX4_invert 11 = .ok (.iload_n 0, 1) := by decide +kernel
theorem dX4_invert_12 : decode cX4_invert 12 = .ok (.iconst 4, 1) := by decide +kernel
theorem dX4_invert_13 : decode cX4_invert 13 = .ok (.iload_n 3, 1) := by decide +kernel
theorem dX4_invert_14 : decode cX4_invert 14 = .ok (.imul, 1) := by decide +kernel
theorem dX4_invert_15 : decode cX4_invert 15 = .ok (.iushr, 1) := by decide +kernel
theorem dX4_invert_16 : decode cX4_invert 16 = .ok (.bipush 7, 2) := by decide +kernel
theorem dX4_invert_18 : decode cX4_invert 18 = .ok (.iand, 1) := by decide +kernel
theorem dX4_invert_19 : decode cX4_invert 19 = .ok (.iconst 2, 1) := by decide +kernel
theorem dX4_invert_20 : decode cX4_invert 20 = .ok (.ishl, 1) := by decide +kernel
theorem dX4_invert_21 : decode cX4_invert 21 = .ok (.ishl, 1) := by decide +kernel
theorem dX4_invert_22 : decode cX4_invert 22 = .ok (.ior, 1) := by decide +kernel
theorem dX4_invert_23 : decode cX4_invert 23 = .ok (.istore_n 2, 1) := by decide +kernel
theorem dX4_invert_24 : decode cX4_invert 24 = .ok (.iinc 3 1, 3) := by decide +kernel
theorem dX4_invert_27 : decode cX4_invert 27 = .ok (.goto (-23), 3) := by decide +kernel
theorem dX4_invert_30 : decode cX4_invert 30 = .ok (.iload_n 2, 1) := by decide +kernel
theorem dX4_invert_31 : decode cX4_invert 31 = .ok (.ireturn, 1) := by decide +kernel
theorem mi_X4_invert : MI yX4_invert cX4_invert 4 (some FieldType.int) 2 := ⟨w_904, w_114, by decide +kernel, by decide +kernel, by decide +kernel⟩
set_option maxRecDepth 100000 in
set_option maxHeartbeats 4000000 in
theorem C_X4_invert (G : GG) (l : Launch) (p0 : Int32) (p1 : Int32) (S : St) (Q : Int32 → Prop) (hp : P_X4_invert p0 p1 Q) : Ctr G l yX4_invert cX4_invert 4 (some FieldType.int) 0 0 0 0 [.int p0, .int p1] S (fun (v : Option Value) (S9 : St) => ∃ (r : Int32), v = some (.int r) ∧ S9 = S ∧ Q r ) := by
  generalize hQQ : (fun (v : Option Value) (S9 : St) => ∃ (r : Int32), v = some (.int r) ∧ S9 = S ∧ Q r ) = QQ
  unfold P_X4_invert at hp
  refine Ctr.of (by decide) (Nat.le_of_ble_eq_true rfl) ?_
  intro p e s m args below meth c ls B hr hlk hin hl hH
  generalize hlocs0 : ([] : List Loc) = locs at hH ⊢
  have hx := B.1
  have hb := B.2.1
  have hl : lv_has ls 4 [(0, .int p0), (1, .int p1)] := hl
  refine lv_iconst (pc := 0) (v := 0) hx hb dX4_invert_0 (by decide) ?_
  refine lv_istore_n (pc := 1) (lv' := [(2, .int 0), (0, .int p0), (1, .int p1)]) hx hb dX4_invert_1 rfl hl (by decide) rfl (fun ls hl => ?_)
  refine lv_iconst (pc := 2) (v := 0) hx hb dX4_invert_2 (by decide) ?_
  refine lv_istore_n (pc := 3) (lv' := [(3, .int 0), (2, .int 0), (0, .int p0), (1, .int p1)]) hx hb dX4_invert_3 rfl hl (by decide) rfl (fun ls hl => ?_)
  obtain ⟨I_1, ⟨k0_1, h0_1⟩, hst_1⟩ := hp
  have kl_1 : ∀ (n_1 : Nat) (x2_2 : Int32) (x3_3 : Int32) (H : Heap) (locs : List Loc) (ls : Array Slot), I_1 n_1 x2_2 x3_3 → Hp G (FA S s.heap.size) s.heap S H locs → lv_has ls 4 [(0, .int p0), (1, .int p1), (2, .int x2_2), (3, .int x3_3)] → Wm G p l e { frames := 0, cells := 0, slots := 0, locals := 0 } s m args below meth c S QQ 0 0 H locs 0 0 (F0 m 4 ls []) := by
    intro n_1
    induction n_1 using Nat.strongRecOn with
    | ind n_1 ih_1 =>
      intro x2_2 x3_3 H locs ls hq9 hH hl
      have hp := hst_1 n_1 x2_2 x3_3 hq9
      refine lv_iload_n (pc := 4) hx hb dX4_invert_4 rfl (lv_at hl 3 rfl) ?_
      refine lv_iload_n (pc := 5) hx hb dX4_invert_5 rfl (lv_at hl 1 rfl) ?_
      refine lv_icmp_ge (pc := 6) (tgt := 30) hx hb dX4_invert_6 (by decide) (fun cc_4 => ?_) (fun cc_4 => ?_)
      · have hp := hp.1 cc_4
        refine lv_iload_n (pc := 30) hx hb dX4_invert_30 rfl (lv_at hl 2 rfl) ?_
        exact sx_iret (pc := 31) B hH hr hlk (by rw [← hQQ]; exact ⟨_, rfl, rfl, hp⟩) (Nat.le_of_ble_eq_true rfl) (Nat.le_of_ble_eq_true rfl) dX4_invert_31
      · have hp := hp.2 cc_4
        refine lv_iload_n (pc := 9) hx hb dX4_invert_9 rfl (lv_at hl 2 rfl) ?_
        refine lv_iload_n (pc := 10) hx hb dX4_invert_10 rfl (lv_at hl 3 rfl) ?_
        refine lv_iload_n (pc := 11) hx hb dX4_invert_11 rfl (lv_at hl 0 rfl) ?_
        refine lv_iconst (pc := 12) (v := 4) hx hb dX4_invert_12 (by decide) ?_
        refine lv_iload_n (pc := 13) hx hb dX4_invert_13 rfl (lv_at hl 3 rfl) ?_
        refine lv_imul (pc := 14) hx hb dX4_invert_14 ?_
        refine lv_iushr (pc := 15) (v := ushr p0 (4 * x3_3)) hx hb dX4_invert_15 rfl ?_
        refine lv_bipush (pc := 16) (v := 7) hx hb dX4_invert_16 (by decide) ?_
        refine lv_iand (pc := 18) hx hb dX4_invert_18 ?_
        refine lv_iconst (pc := 19) (v := 2) hx hb dX4_invert_19 (by decide) ?_
        refine lv_ishl (pc := 20) hx hb dX4_invert_20 ?_
        refine W.eq (g2 := F0 m 21 ls [.int (shl ((ushr p0 (4 * x3_3)) &&& 7) 2), .int x3_3, .int x2_2]) rfl ?_
        refine lv_ishl (pc := 21) hx hb dX4_invert_21 ?_
        refine W.eq (g2 := F0 m 22 ls [.int (shl x3_3 (shl ((ushr p0 (4 * x3_3)) &&& 7) 2)), .int x2_2]) rfl ?_
        refine lv_ior (pc := 22) hx hb dX4_invert_22 ?_
        refine lv_topi (fun v_5 ev_5 => ?_)
        have hp := hp v_5 ev_5
        refine lv_istore_n (pc := 23) (lv' := [(2, .int v_5), (0, .int p0), (1, .int p1), (3, .int x3_3)]) hx hb dX4_invert_23 rfl hl (by decide) rfl (fun ls hl => ?_)
        obtain ⟨v_6, ev_6⟩ : ∃ y : Int32, y = x3_3 + 1 := ⟨_, rfl⟩
        have hp := hp v_6 ev_6
        refine lv_iinc (pc := 24) (v := v_6) (lv' := [(3, .int v_6), (2, .int v_5), (0, .int p0), (1, .int p1)]) hx hb dX4_invert_24 hl (k := 3) rfl (by rw [ev_6]; rfl) (by decide) rfl (fun ls hl => ?_)
        refine lv_goto (pc := 27) (tgt := 4) hx hb dX4_invert_27 (by decide) ?_
        obtain ⟨k9, hlt9, hp⟩ := hp
        exact ih_1 k9 hlt9 _ _ _ _ _ hp hH (lv_sub hl [2, 3, 1, 0] rfl)
  exact kl_1 k0_1 _ _ _ _ _ h0_1 hH (lv_sub hl [2, 3, 1, 0] rfl)
theorem dX4_multiply_0 : decode cX4_multiply 0 = .ok (.iconst 0, 1) := by decide +kernel
theorem dX4_multiply_1 : decode cX4_multiply 1 = .ok (.istore_n 3, 1) := by decide +kernel
theorem dX4_multiply_2 : decode cX4_multiply 2 = .ok (.iconst 0, 1) := by decide +kernel
theorem dX4_multiply_3 : decode cX4_multiply 3 = .ok (.istore 4, 2) := by decide +kernel
theorem dX4_multiply_5 : decode cX4_multiply 5 = .ok (.iload 4, 2) := by decide +kernel
theorem dX4_multiply_7 : decode cX4_multiply 7 = .ok (.iload_n 2, 1) := by decide +kernel
theorem dX4_multiply_8 : decode cX4_multiply 8 = .ok (.if_icmp .ge 33, 3) := by decide +kernel
theorem dX4_multiply_11 : decode cX4_multiply 11 = .ok (.iload_n 3, 1) := by decide +kernel
theorem dX4_multiply_12 : decode cX4_multiply 12 = .ok (.iload_n 0, 1) := by decide +kernel
theorem dX4_multiply_13 : decode cX4_multiply 13 = .ok (.iload_n 1, 1) := by decide +kernel
theorem dX4_multiply_14 : decode cX4_multiply 14 = .ok (.iconst 4, 1) := by decide +kernel
theorem dX4_multiply_15 : decode cX4_multiply 15 = .ok (.iload 4, 2) := by decide +kernel
theorem dX4_multiply_17 : decode cX4_multiply 17 = .ok (.imul, 1) := by decide +kernel
theorem dX4_multiply_18 : decode cX4_multiply 18 = .ok (.iushr, 1) := by decide +kernel
theorem dX4_multiply_19 : decode cX4_multiply 19 = .ok (.bipush 7, 2) := by decide +kernel
theorem dX4_multiply_21 : decode cX4_multiply 21 = .ok (.iand, 1) := by decide +kernel
theorem dX4_multiply_22 : decode cX4_multiply 22 = .ok (.iconst 2, 1) := by decide +kernel
theorem dX4_multiply_23 : decode cX4_multiply 23 = .ok (.ishl, 1) := by decide +kernel
theorem dX4_multiply_24 : decode cX4_multiply 24 = .ok (.iushr, 1) := by decide +kernel
theorem dX4_multiply_25 : decode cX4_multiply 25 = .ok (.bipush 7, 2) := by decide +kernel
theorem dX4_multiply_27 : decode cX4_multiply 27 = .ok (.iand, 1) := by decide +kernel
theorem dX4_multiply_28 : decode cX4_multiply 28 = .ok (.iconst 4, 1) := by decide +kernel
theorem dX4_multiply_29 : decode cX4_multiply 29 = .ok (.iload 4, 2) := by decide +kernel
theorem dX4_multiply_31 : decode cX4_multiply 31 = .ok (.imul, 1) := by decide +kernel
theorem dX4_multiply_32 : decode cX4_multiply 32 = .ok (.ishl, 1) := by decide +kernel
theorem dX4_multiply_33 : decode cX4_multiply 33 = .ok (.ior, 1) := by decide +kernel
theorem dX4_multiply_34 : decode cX4_multiply 34 = .ok (.istore_n 3, 1) := by decide +kernel
theorem dX4_multiply_35 : decode cX4_multiply 35 = .ok (.iinc 4 1, 3) := by decide +kernel
theorem dX4_multiply_38 : decode cX4_multiply 38 = .ok (.goto (-33), 3) := by decide +kernel
theorem dX4_multiply_41 : decode cX4_multiply 41 = .ok (.iload_n 3, 1) := by decide +kernel
theorem dX4_multiply_42 : decode cX4_multiply 42 = .ok (.ireturn, 1) := by decide +kernel
theorem mi_X4_multiply : MI yX4_multiply cX4_multiply 5 (some FieldType.int) 3 := ⟨w_915, w_114, by decide +kernel, by decide +kernel, by decide +kernel⟩
set_option maxRecDepth 100000 in
set_option maxHeartbeats 4000000 in
theorem C_X4_multiply (G : GG) (l : Launch) (p0 : Int32) (p1 : Int32) (p2 : Int32) (S : St) (Q : Int32 → Prop) (hp : P_X4_multiply p0 p1 p2 Q) : Ctr G l yX4_multiply cX4_multiply 5 (some FieldType.int) 0 0 0 0 [.int p0, .int p1, .int p2] S (fun (v : Option Value) (S9 : St) => ∃ (r : Int32), v = some (.int r) ∧ S9 = S ∧ Q r ) := by
  generalize hQQ : (fun (v : Option Value) (S9 : St) => ∃ (r : Int32), v = some (.int r) ∧ S9 = S ∧ Q r ) = QQ
  unfold P_X4_multiply at hp
  refine Ctr.of (by decide) (Nat.le_of_ble_eq_true rfl) ?_
  intro p e s m args below meth c ls B hr hlk hin hl hH
  generalize hlocs0 : ([] : List Loc) = locs at hH ⊢
  have hx := B.1
  have hb := B.2.1
  have hl : lv_has ls 5 [(0, .int p0), (1, .int p1), (2, .int p2)] := hl
  refine lv_iconst (pc := 0) (v := 0) hx hb dX4_multiply_0 (by decide) ?_
  refine lv_istore_n (pc := 1) (lv' := [(3, .int 0), (0, .int p0), (1, .int p1), (2, .int p2)]) hx hb dX4_multiply_1 rfl hl (by decide) rfl (fun ls hl => ?_)
  refine lv_iconst (pc := 2) (v := 0) hx hb dX4_multiply_2 (by decide) ?_
  refine lv_istore (pc := 3) (lv' := [(4, .int 0), (3, .int 0), (0, .int p0), (1, .int p1), (2, .int p2)]) hx hb dX4_multiply_3 hl (by decide) rfl (fun ls hl => ?_)
  obtain ⟨I_1, ⟨k0_1, h0_1⟩, hst_1⟩ := hp
  have kl_1 : ∀ (n_1 : Nat) (x3_2 : Int32) (x4_3 : Int32) (H : Heap) (locs : List Loc) (ls : Array Slot), I_1 n_1 x3_2 x4_3 → Hp G (FA S s.heap.size) s.heap S H locs → lv_has ls 5 [(0, .int p0), (1, .int p1), (2, .int p2), (3, .int x3_2), (4, .int x4_3)] → Wm G p l e { frames := 0, cells := 0, slots := 0, locals := 0 } s m args below meth c S QQ 0 0 H locs 0 0 (F0 m 5 ls []) := by
    intro n_1
    induction n_1 using Nat.strongRecOn with
    | ind n_1 ih_1 =>
      intro x3_2 x4_3 H locs ls hq9 hH hl
      have hp := hst_1 n_1 x3_2 x4_3 hq9
      refine lv_iload (pc := 5) hx hb dX4_multiply_5 (lv_at hl 4 rfl) ?_
      refine lv_iload_n (pc := 7) hx hb dX4_multiply_7 rfl (lv_at hl 2 rfl) ?_
      refine lv_icmp_ge (pc := 8) (tgt := 41) hx hb dX4_multiply_8 (by decide) (fun cc_4 => ?_) (fun cc_4 => ?_)
      · have hp := hp.1 cc_4
        refine lv_iload_n (pc := 41) hx hb dX4_multiply_41 rfl (lv_at hl 3 rfl) ?_
        exact sx_iret (pc := 42) B hH hr hlk (by rw [← hQQ]; exact ⟨_, rfl, rfl, hp⟩) (Nat.le_of_ble_eq_true rfl) (Nat.le_of_ble_eq_true rfl) dX4_multiply_42
      · have hp := hp.2 cc_4
        refine lv_iload_n (pc := 11) hx hb dX4_multiply_11 rfl (lv_at hl 3 rfl) ?_
        refine lv_iload_n (pc := 12) hx hb dX4_multiply_12 rfl (lv_at hl 0 rfl) ?_
        refine lv_iload_n (pc := 13) hx hb dX4_multiply_13 rfl (lv_at hl 1 rfl) ?_
        refine lv_iconst (pc := 14) (v := 4) hx hb dX4_multiply_14 (by decide) ?_
        refine lv_iload (pc := 15) hx hb dX4_multiply_15 (lv_at hl 4 rfl) ?_
        refine lv_imul (pc := 17) hx hb dX4_multiply_17 ?_
        refine lv_iushr (pc := 18) (v := ushr p1 (4 * x4_3)) hx hb dX4_multiply_18 rfl ?_
        refine lv_bipush (pc := 19) (v := 7) hx hb dX4_multiply_19 (by decide) ?_
        refine lv_iand (pc := 21) hx hb dX4_multiply_21 ?_
        refine lv_iconst (pc := 22) (v := 2) hx hb dX4_multiply_22 (by decide) ?_
        refine lv_ishl (pc := 23) hx hb dX4_multiply_23 ?_
        refine W.eq (g2 := F0 m 24 ls [.int (shl ((ushr p1 (4 * x4_3)) &&& 7) 2), .int p0, .int x3_2]) rfl ?_
        refine lv_iushr (pc := 24) (v := ushr p0 (shl ((ushr p1 (4 * x4_3)) &&& 7) 2)) hx hb dX4_multiply_24 rfl ?_
        refine lv_bipush (pc := 25) (v := 7) hx hb dX4_multiply_25 (by decide) ?_
        refine lv_iand (pc := 27) hx hb dX4_multiply_27 ?_
        refine lv_iconst (pc := 28) (v := 4) hx hb dX4_multiply_28 (by decide) ?_
        refine lv_iload (pc := 29) hx hb dX4_multiply_29 (lv_at hl 4 rfl) ?_
        refine lv_imul (pc := 31) hx hb dX4_multiply_31 ?_
        refine lv_ishl (pc := 32) hx hb dX4_multiply_32 ?_
        refine W.eq (g2 := F0 m 33 ls [.int (shl ((ushr p0 (shl ((ushr p1 (4 * x4_3)) &&& 7) 2)) &&& 7) (4 * x4_3)), .int x3_2]) rfl ?_
        refine lv_ior (pc := 33) hx hb dX4_multiply_33 ?_
        refine lv_topi (fun v_5 ev_5 => ?_)
        have hp := hp v_5 ev_5
        refine lv_istore_n (pc := 34) (lv' := [(3, .int v_5), (0, .int p0), (1, .int p1), (2, .int p2), (4, .int x4_3)]) hx hb dX4_multiply_34 rfl hl (by decide) rfl (fun ls hl => ?_)
        obtain ⟨v_6, ev_6⟩ : ∃ y : Int32, y = x4_3 + 1 := ⟨_, rfl⟩
        have hp := hp v_6 ev_6
        refine lv_iinc (pc := 35) (v := v_6) (lv' := [(4, .int v_6), (3, .int v_5), (0, .int p0), (1, .int p1), (2, .int p2)]) hx hb dX4_multiply_35 hl (k := 4) rfl (by rw [ev_6]; rfl) (by decide) rfl (fun ls hl => ?_)
        refine lv_goto (pc := 38) (tgt := 5) hx hb dX4_multiply_38 (by decide) ?_
        obtain ⟨k9, hlt9, hp⟩ := hp
        exact ih_1 k9 hlt9 _ _ _ _ _ hp hH (lv_sub hl [2, 3, 4, 1, 0] rfl)
  exact kl_1 k0_1 _ _ _ _ _ h0_1 hH (lv_sub hl [2, 3, 4, 1, 0] rfl)
theorem dX4_orderOf_0 : decode cX4_orderOf 0 = .ok (.iload_n 1, 1) := by decide +kernel
theorem dX4_orderOf_1 : decode cX4_orderOf 1 = .ok (.invokestatic 27, 3) := by decide +kernel
theorem dX4_orderOf_4 : decode cX4_orderOf 4 = .ok (.istore_n 2, 1) := by decide +kernel
theorem dX4_orderOf_5 : decode cX4_orderOf 5 = .ok (.iload_n 0, 1) := by decide +kernel
theorem dX4_orderOf_6 : decode cX4_orderOf 6 = .ok (.istore_n 3, 1) := by decide +kernel
theorem dX4_orderOf_7 : decode cX4_orderOf 7 = .ok (.iconst 1, 1) := by decide +kernel
theorem dX4_orderOf_8 : decode cX4_orderOf 8 = .ok (.istore 4, 2) := by decide +kernel
theorem dX4_orderOf_10 : decode cX4_orderOf 10 = .ok (.iload_n 3, 1) := by decide +kernel
theorem dX4_orderOf_11 : decode cX4_orderOf 11 = .ok (.iload_n 2, 1) := by decide +kernel
theorem dX4_orderOf_12 : decode cX4_orderOf 12 = .ok (.if_icmp .eq 24, 3) := by decide +kernel
theorem dX4_orderOf_15 : decode cX4_orderOf 15 = .ok (.iload 4, 2) := by decide +kernel
theorem dX4_orderOf_17 : decode cX4_orderOf 17 = .ok (.sipush 840, 3) := by decide +kernel
theorem dX4_orderOf_20 : decode cX4_orderOf 20 = .ok (.if_icmp .ge 16, 3) := by decide +kernel
theorem dX4_orderOf_23 : decode cX4_orderOf 23 = .ok (.iload_n 3, 1) := by decide +kernel
theorem dX4_orderOf_24 : decode cX4_orderOf 24 = .ok (.iload_n 0, 1) := by decide +kernel
theorem dX4_orderOf_25 : decode cX4_orderOf 25 = .ok (.iload_n 1, 1) := by decide +kernel
theorem dX4_orderOf_26 : decode cX4_orderOf 26 = .ok (.invokestatic 30, 3) := by decide +kernel
theorem dX4_orderOf_29 : decode cX4_orderOf 29 = .ok (.istore_n 3, 1) := by decide +kernel
theorem dX4_orderOf_30 : decode cX4_orderOf 30 = .ok (.iinc 4 1, 3) := by decide +kernel
theorem dX4_orderOf_33 : decode cX4_orderOf 33 = .ok (.goto (-23), 3) := by decide +kernel
theorem dX4_orderOf_36 : decode cX4_orderOf 36 = .ok (.iload 4, 2) := by decide +kernel
theorem dX4_orderOf_38 : decode cX4_orderOf 38 = .ok (.ireturn, 1) := by decide +kernel
theorem mi_X4_orderOf : MI yX4_orderOf cX4_orderOf 5 (some FieldType.int) 2 := ⟨w_911, w_114, by decide +kernel, by decide +kernel, by decide +kernel⟩
set_option maxRecDepth 100000 in
set_option maxHeartbeats 4000000 in
theorem C_X4_orderOf (G : GG) (l : Launch) (p0 : Int32) (p1 : Int32) (S : St) (Q : Int32 → Prop) (hp : P_X4_orderOf p0 p1 Q) : Ctr G l yX4_orderOf cX4_orderOf 5 (some FieldType.int) 1 24 0 0 [.int p0, .int p1] S (fun (v : Option Value) (S9 : St) => ∃ (r : Int32), v = some (.int r) ∧ S9 = S ∧ Q r ) := by
  generalize hQQ : (fun (v : Option Value) (S9 : St) => ∃ (r : Int32), v = some (.int r) ∧ S9 = S ∧ Q r ) = QQ
  unfold P_X4_orderOf at hp
  refine Ctr.of (by decide) (Nat.le_of_ble_eq_true rfl) ?_
  intro p e s m args below meth c ls B hr hlk hin hl hH
  generalize hlocs0 : ([] : List Loc) = locs at hH ⊢
  have hx := B.1
  have hb := B.2.1
  have hl : lv_has ls 5 [(0, .int p0), (1, .int p1)] := hl
  refine lv_iload_n (pc := 0) hx hb dX4_orderOf_0 rfl (lv_at hl 1 rfl) ?_
  refine sx_S (pc := 1) (As := [.int p1]) (rest := []) B hH hl.1 (C_X4_roundsOf G l p1 _ _ hp) mi_X4_roundsOf w_706 w_912 rfl rfl ⟨Nat.le_of_ble_eq_true rfl, Nat.le_of_ble_eq_true rfl⟩ (Nat.le_of_ble_eq_true rfl) ⟨Nat.le_of_ble_eq_true rfl, Nat.le_of_ble_eq_true rfl⟩ dX4_orderOf_1 (fun v S1 H locs hq hH => ?_)
  obtain ⟨r_1, rfl, e9, hp⟩ := hq
  rw [e9] at hH
  refine W.eq (g2 := F0 m 4 ls [.int r_1]) rfl ?_
  refine lv_istore_n (pc := 4) (lv' := [(2, .int r_1), (0, .int p0), (1, .int p1)]) hx hb dX4_orderOf_4 rfl hl (by decide) rfl (fun ls hl => ?_)
  refine lv_iload_n (pc := 5) hx hb dX4_orderOf_5 rfl (lv_at hl 1 rfl) ?_
  refine lv_istore_n (pc := 6) (lv' := [(3, .int p0), (2, .int r_1), (0, .int p0), (1, .int p1)]) hx hb dX4_orderOf_6 rfl hl (by decide) rfl (fun ls hl => ?_)
  refine lv_iconst (pc := 7) (v := 1) hx hb dX4_orderOf_7 (by decide) ?_
  refine lv_istore (pc := 8) (lv' := [(4, .int 1), (3, .int p0), (2, .int r_1), (0, .int p0), (1, .int p1)]) hx hb dX4_orderOf_8 hl (by decide) rfl (fun ls hl => ?_)
  obtain ⟨I_2, ⟨k0_2, h0_2⟩, hst_2⟩ := hp
  have kl_2 : ∀ (n_2 : Nat) (x3_3 : Int32) (x4_4 : Int32) (H : Heap) (locs : List Loc) (ls : Array Slot), I_2 n_2 x3_3 x4_4 → Hp G (FA S s.heap.size) s.heap S H locs → lv_has ls 5 [(0, .int p0), (1, .int p1), (2, .int r_1), (3, .int x3_3), (4, .int x4_4)] → Wm G p l e { frames := 1, cells := 0, slots := 0, locals := 24 } s m args below meth c S QQ 0 0 H locs 0 0 (F0 m 10 ls []) := by
    intro n_2
    induction n_2 using Nat.strongRecOn with
    | ind n_2 ih_2 =>
      intro x3_3 x4_4 H locs ls hq9 hH hl
      have hp := hst_2 n_2 x3_3 x4_4 hq9
      refine lv_iload_n (pc := 10) hx hb dX4_orderOf_10 rfl (lv_at hl 3 rfl) ?_
      refine lv_iload_n (pc := 11) hx hb dX4_orderOf_11 rfl (lv_at hl 2 rfl) ?_
      refine lv_icmp_eq (pc := 12) (tgt := 36) hx hb dX4_orderOf_12 (by decide) (fun cc_5 => ?_) (fun cc_5 => ?_)
      · have hp := hp.1 cc_5
        refine lv_iload (pc := 36) hx hb dX4_orderOf_36 (lv_at hl 4 rfl) ?_
        exact sx_iret (pc := 38) B hH hr hlk (by rw [← hQQ]; exact ⟨_, rfl, rfl, hp⟩) (Nat.le_of_ble_eq_true rfl) (Nat.le_of_ble_eq_true rfl) dX4_orderOf_38
      · have hp := hp.2 cc_5
        refine lv_iload (pc := 15) hx hb dX4_orderOf_15 (lv_at hl 4 rfl) ?_
        refine lv_sipush (pc := 17) (v := 840) hx hb dX4_orderOf_17 (by decide) ?_
        refine lv_icmp_ge (pc := 20) (tgt := 36) hx hb dX4_orderOf_20 (by decide) (fun cc_6 => ?_) (fun cc_6 => ?_)
        · have hp := hp.1 cc_6
          refine lv_iload (pc := 36) hx hb dX4_orderOf_36 (lv_at hl 4 rfl) ?_
          exact sx_iret (pc := 38) B hH hr hlk (by rw [← hQQ]; exact ⟨_, rfl, rfl, hp⟩) (Nat.le_of_ble_eq_true rfl) (Nat.le_of_ble_eq_true rfl) dX4_orderOf_38
        · have hp := hp.2 cc_6
          refine lv_iload_n (pc := 23) hx hb dX4_orderOf_23 rfl (lv_at hl 3 rfl) ?_
          refine lv_iload_n (pc := 24) hx hb dX4_orderOf_24 rfl (lv_at hl 0 rfl) ?_
          refine lv_iload_n (pc := 25) hx hb dX4_orderOf_25 rfl (lv_at hl 1 rfl) ?_
          refine sx_S (pc := 26) (As := [.int x3_3, .int p0, .int p1]) (rest := []) B hH hl.1 (C_X4_multiply G l x3_3 p0 p1 _ _ hp) mi_X4_multiply w_914 w_913 rfl rfl ⟨Nat.le_of_ble_eq_true rfl, Nat.le_of_ble_eq_true rfl⟩ (Nat.le_of_ble_eq_true rfl) ⟨Nat.le_of_ble_eq_true rfl, Nat.le_of_ble_eq_true rfl⟩ dX4_orderOf_26 (fun v S1 H locs hq hH => ?_)
          obtain ⟨r_7, rfl, e9, hp⟩ := hq
          rw [e9] at hH
          refine W.eq (g2 := F0 m 29 ls [.int r_7]) rfl ?_
          refine lv_istore_n (pc := 29) (lv' := [(3, .int r_7), (0, .int p0), (1, .int p1), (2, .int r_1), (4, .int x4_4)]) hx hb dX4_orderOf_29 rfl hl (by decide) rfl (fun ls hl => ?_)
          obtain ⟨v_8, ev_8⟩ : ∃ y : Int32, y = x4_4 + 1 := ⟨_, rfl⟩
          have hp := hp v_8 ev_8
          refine lv_iinc (pc := 30) (v := v_8) (lv' := [(4, .int v_8), (3, .int r_7), (0, .int p0), (1, .int p1), (2, .int r_1)]) hx hb dX4_orderOf_30 hl (k := 4) rfl (by rw [ev_8]; rfl) (by decide) rfl (fun ls hl => ?_)
          refine lv_goto (pc := 33) (tgt := 10) hx hb dX4_orderOf_33 (by decide) ?_
          obtain ⟨k9, hlt9, hp⟩ := hp
          exact ih_2 k9 hlt9 _ _ _ _ _ hp hH (lv_sub hl [2, 3, 4, 1, 0] rfl)
  exact kl_2 k0_2 _ _ _ _ _ h0_2 hH (lv_sub hl [3, 4, 2, 1, 0] rfl)
theorem dX4_inversions_0 : decode cX4_inversions 0 = .ok (.ldc 15, 2) := by decide +kernel
theorem dX4_inversions_2 : decode cX4_inversions 2 = .ok (.istore_n 2, 1) := by decide +kernel
theorem dX4_inversions_3 : decode cX4_inversions 3 = .ok (.iconst 0, 1) := by decide +kernel
theorem dX4_inversions_4 : decode cX4_inversions 4 = .ok (.istore_n 3, 1) := by decide +kernel
theorem dX4_inversions_5 : decode cX4_inversions 5 = .ok (.iconst 0, 1) := by decide +kernel
theorem dX4_inversions_6 : decode cX4_inversions 6 = .ok (.istore 4, 2) := by decide +kernel
theorem dX4_inversions_8 : decode cX4_inversions 8 = .ok (.iload 4, 2) := by decide +kernel
theorem dX4_inversions_10 : decode cX4_inversions 10 = .ok (.iload_n 1, 1) := by decide +kernel
theorem dX4_inversions_11 : decode cX4_inversions 11 = .ok (.if_icmp .ge 40, 3) := by decide +kernel
theorem dX4_inversions_14 : decode cX4_inversions 14 = .ok (.iload_n 0, 1) := by decide +kernel
theorem dX4_inversions_15 : decode cX4_inversions 15 = .ok (.iconst 4, 1) := by decide +kernel
theorem dX4_inversions_16 : decode cX4_inversions 16 = .ok (.iload 4, 2) := by decide +kernel
theorem dX4_inversions_18 : decode cX4_inversions 18 = .ok (.imul, 1) := by decide +kernel
theorem dX4_inversions_19 : decode cX4_inversions 19 = .ok (.iushr, 1) := by decide +kernel
theorem dX4_inversions_20 : decode cX4_inversions 20 = .ok (.bipush 7, 2) := by decide +kernel
theorem dX4_inversions_22 : decode cX4_inversions 22 = .ok (.iand, 1) := by decide +kernel
theorem dX4_inversions_23 : decode cX4_inversions 23 = .ok (.iconst 2, 1) := by decide +kernel
theorem dX4_inversions_24 : decode cX4_inversions 24 = .ok (.ishl, 1) := by decide +kernel
theorem dX4_inversions_25 : decode cX4_inversions 25 = .ok (.istore 5, 2) := by decide +kernel
theorem dX4_inversions_27 : decode cX4_inversions 27 = .ok (.iload_n 3, 1) := by decide +kernel
theorem dX4_inversions_28 : decode cX4_inversions 28 = .ok (.iload_n 2, 1) := by decide +kernel
theorem dX4_inversions_29 : decode cX4_inversions 29 = .ok (.iload 5, 2) := by decide +kernel
theorem dX4_inversions_31 : decode cX4_inversions 31 = .ok (.iushr, 1) := by decide +kernel
theorem dX4_inversions_32 : decode cX4_inversions 32 = .ok (.bipush 7, 2) := by decide +kernel
theorem dX4_inversions_34 : decode cX4_inversions 34 = .ok (.iand, 1) := by decide +kernel
theorem dX4_inversions_35 : decode cX4_inversions 35 = .ok (.iadd, 1) := by decide +kernel
theorem dX4_inversions_36 : decode cX4_inversions 36 = .ok (.istore_n 3, 1) := by decide +kernel
theorem dX4_inversions_37 : decode cX4_inversions 37 = .ok (.iload_n 2, 1) := by decide +kernel
theorem dX4_inversions_38 : decode cX4_inversions 38 = .ok (.ldc 16, 2) := by decide +kernel
theorem dX4_inversions_40 : decode cX4_inversions 40 = .ok (.iload 5, 2) := by decide +kernel
theorem dX4_inversions_42 : decode cX4_inversions 42 = .ok (.ishl, 1) := by decide +kernel
theorem dX4_inversions_43 : decode cX4_inversions 43 = .ok (.isub, 1) := by decide +kernel
theorem dX4_inversions_44 : decode cX4_inversions 44 = .ok (.istore_n 2, 1) := by decide +kernel
theorem dX4_inversions_45 : decode cX4_inversions 45 = .ok (.iinc 4 1, 3) := by decide +kernel
theorem dX4_inversions_48 : decode cX4_inversions 48 = .ok (.goto (-40), 3) := by decide +kernel
theorem dX4_inversions_51 : decode cX4_inversions 51 = .ok (.iload_n 3, 1) := by decide +kernel
theorem dX4_inversions_52 : decode cX4_inversions 52 = .ok (.ireturn, 1) := by decide +kernel
theorem mi_X4_inversions : MI yX4_inversions cX4_inversions 6 (some FieldType.int) 2 := ⟨w_925, w_114, by decide +kernel, by decide +kernel, by decide +kernel⟩
set_option maxRecDepth 100000 in
set_option maxHeartbeats 4000000 in
theorem C_X4_inversions (G : GG) (l : Launch) (p0 : Int32) (p1 : Int32) (S : St) (Q : Int32 → Prop) (hp : P_X4_inversions p0 p1 Q) : Ctr G l yX4_inversions cX4_inversions 6 (some FieldType.int) 0 0 0 0 [.int p0, .int p1] S (fun (v : Option Value) (S9 : St) => ∃ (r : Int32), v = some (.int r) ∧ S9 = S ∧ Q r ) := by
  generalize hQQ : (fun (v : Option Value) (S9 : St) => ∃ (r : Int32), v = some (.int r) ∧ S9 = S ∧ Q r ) = QQ
  unfold P_X4_inversions at hp
  refine Ctr.of (by decide) (Nat.le_of_ble_eq_true rfl) ?_
  intro p e s m args below meth c ls B hr hlk hin hl hH
  generalize hlocs0 : ([] : List Loc) = locs at hH ⊢
  have hx := B.1
  have hb := B.2.1
  have hl : lv_has ls 6 [(0, .int p0), (1, .int p1)] := hl
  refine sx_ldc (pc := 0) (v := 1985229328) B w_708 dX4_inversions_0 ?_
  refine lv_istore_n (pc := 2) (lv' := [(2, .int 1985229328), (0, .int p0), (1, .int p1)]) hx hb dX4_inversions_2 rfl hl (by decide) rfl (fun ls hl => ?_)
  refine lv_iconst (pc := 3) (v := 0) hx hb dX4_inversions_3 (by decide) ?_
  refine lv_istore_n (pc := 4) (lv' := [(3, .int 0), (2, .int 1985229328), (0, .int p0), (1, .int p1)]) hx hb dX4_inversions_4 rfl hl (by decide) rfl (fun ls hl => ?_)
  refine lv_iconst (pc := 5) (v := 0) hx hb dX4_inversions_5 (by decide) ?_
  refine lv_istore (pc := 6) (lv' := [(4, .int 0), (3, .int 0), (2, .int 1985229328), (0, .int p0), (1, .int p1)]) hx hb dX4_inversions_6 hl (by decide) rfl (fun ls hl => ?_)
  obtain ⟨I_1, ⟨k0_1, h0_1⟩, hst_1⟩ := hp
  have kl_1 : ∀ (n_1 : Nat) (x2_2 : Int32) (x3_3 : Int32) (x4_4 : Int32) (H : Heap) (locs : List Loc) (ls : Array Slot), I_1 n_1 x2_2 x3_3 x4_4 → Hp G (FA S s.heap.size) s.heap S H locs → lv_has ls 6 [(0, .int p0), (1, .int p1), (2, .int x2_2), (3, .int x3_3), (4, .int x4_4)] → Wm G p l e { frames := 0, cells := 0, slots := 0, locals := 0 } s m args below meth c S QQ 0 0 H locs 0 0 (F0 m 8 ls []) := by
    intro n_1
    induction n_1 using Nat.strongRecOn with
    | ind n_1 ih_1 =>
      intro x2_2 x3_3 x4_4 H locs ls hq9 hH hl
      have hp := hst_1 n_1 x2_2 x3_3 x4_4 hq9
      refine lv_iload (pc := 8) hx hb dX4_inversions_8 (lv_at hl 4 rfl) ?_
      refine lv_iload_n (pc := 10) hx hb dX4_inversions_10 rfl (lv_at hl 1 rfl) ?_
      refine lv_icmp_ge (pc := 11) (tgt := 51) hx hb dX4_inversions_11 (by decide) (fun cc_5 => ?_) (fun cc_5 => ?_)
      · have hp := hp.1 cc_5
        refine lv_iload_n (pc := 51) hx hb dX4_inversions_51 rfl (lv_at hl 3 rfl) ?_
        exact sx_iret (pc := 52) B hH hr hlk (by rw [← hQQ]; exact ⟨_, rfl, rfl, hp⟩) (Nat.le_of_ble_eq_true rfl) (Nat.le_of_ble_eq_true rfl) dX4_inversions_52
      · have hp := hp.2 cc_5
        refine lv_iload_n (pc := 14) hx hb dX4_inversions_14 rfl (lv_at hl 0 rfl) ?_
        refine lv_iconst (pc := 15) (v := 4) hx hb dX4_inversions_15 (by decide) ?_
        refine lv_iload (pc := 16) hx hb dX4_inversions_16 (lv_at hl 4 rfl) ?_
        refine lv_imul (pc := 18) hx hb dX4_inversions_18 ?_
        refine lv_iushr (pc := 19) (v := ushr p0 (4 * x4_4)) hx hb dX4_inversions_19 rfl ?_
        refine lv_bipush (pc := 20) (v := 7) hx hb dX4_inversions_20 (by decide) ?_
        refine lv_iand (pc := 22) hx hb dX4_inversions_22 ?_
        refine lv_iconst (pc := 23) (v := 2) hx hb dX4_inversions_23 (by decide) ?_
        refine lv_ishl (pc := 24) hx hb dX4_inversions_24 ?_
        refine W.eq (g2 := F0 m 25 ls [.int (shl ((ushr p0 (4 * x4_4)) &&& 7) 2)]) rfl ?_
        refine lv_topi (fun v_6 ev_6 => ?_)
        have hp := hp v_6 ev_6
        refine lv_istore (pc := 25) (lv' := [(5, .int v_6), (0, .int p0), (1, .int p1), (2, .int x2_2), (3, .int x3_3), (4, .int x4_4)]) hx hb dX4_inversions_25 hl (by decide) rfl (fun ls hl => ?_)
        refine lv_iload_n (pc := 27) hx hb dX4_inversions_27 rfl (lv_at hl 4 rfl) ?_
        refine lv_iload_n (pc := 28) hx hb dX4_inversions_28 rfl (lv_at hl 3 rfl) ?_
        refine lv_iload (pc := 29) hx hb dX4_inversions_29 (lv_at hl 0 rfl) ?_
        refine lv_iushr (pc := 31) (v := ushr x2_2 v_6) hx hb dX4_inversions_31 rfl ?_
        refine lv_bipush (pc := 32) (v := 7) hx hb dX4_inversions_32 (by decide) ?_
        refine lv_iand (pc := 34) hx hb dX4_inversions_34 ?_
        refine lv_iadd (pc := 35) hx hb dX4_inversions_35 ?_
        refine lv_topi (fun v_7 ev_7 => ?_)
        have hp := hp v_7 ev_7
        refine lv_istore_n (pc := 36) (lv' := [(3, .int v_7), (5, .int v_6), (0, .int p0), (1, .int p1), (2, .int x2_2), (4, .int x4_4)]) hx hb dX4_inversions_36 rfl hl (by decide) rfl (fun ls hl => ?_)
        refine lv_iload_n (pc := 37) hx hb dX4_inversions_37 rfl (lv_at hl 4 rfl) ?_
        refine sx_ldc (pc := 38) (v := 286331152) B w_890 dX4_inversions_38 ?_
        refine lv_iload (pc := 40) hx hb dX4_inversions_40 (lv_at hl 1 rfl) ?_
        refine lv_ishl (pc := 42) hx hb dX4_inversions_42 ?_
        refine W.eq (g2 := F0 m 43 ls [.int (shl 286331152 v_6), .int x2_2]) rfl ?_
        refine lv_isub (pc := 43) hx hb dX4_inversions_43 ?_
        refine lv_topi (fun v_8 ev_8 => ?_)
        have hp := hp v_8 ev_8
        refine lv_istore_n (pc := 44) (lv' := [(2, .int v_8), (3, .int v_7), (5, .int v_6), (0, .int p0), (1, .int p1), (4, .int x4_4)]) hx hb dX4_inversions_44 rfl hl (by decide) rfl (fun ls hl => ?_)
        obtain ⟨v_9, ev_9⟩ : ∃ y : Int32, y = x4_4 + 1 := ⟨_, rfl⟩
        have hp := hp v_9 ev_9
        refine lv_iinc (pc := 45) (v := v_9) (lv' := [(4, .int v_9), (2, .int v_8), (3, .int v_7), (5, .int v_6), (0, .int p0), (1, .int p1)]) hx hb dX4_inversions_45 hl (k := 5) rfl (by rw [ev_9]; rfl) (by decide) rfl (fun ls hl => ?_)
        refine lv_goto (pc := 48) (tgt := 8) hx hb dX4_inversions_48 (by decide) ?_
        obtain ⟨k9, hlt9, hp⟩ := hp
        exact ih_1 k9 hlt9 _ _ _ _ _ _ hp hH (lv_sub hl [4, 5, 1, 2, 0] rfl)
  exact kl_1 k0_1 _ _ _ _ _ _ h0_1 hH (lv_sub hl [3, 4, 2, 1, 0] rfl)
theorem dX4_isEven_0 : decode cX4_isEven 0 = .ok (.iload_n 0, 1) := by decide +kernel
theorem dX4_isEven_1 : decode cX4_isEven 1 = .ok (.iload_n 1, 1) := by decide +kernel
theorem dX4_isEven_2 : decode cX4_isEven 2 = .ok (.invokestatic 34, 3) := by decide +kernel
theorem dX4_isEven_5 : decode cX4_isEven 5 = .ok (.iconst 1, 1) := by decide +kernel
theorem dX4_isEven_6 : decode cX4_isEven 6 = .ok (.iand, 1) := by decide +kernel
theorem dX4_isEven_7 : decode cX4_isEven 7 = .ok (.ifCond .ne 7, 3) := by decide +kernel
theorem dX4_isEven_10 : decode cX4_isEven 10 = .ok (.iconst 1, 1) := by decide +kernel
theorem dX4_isEven_11 : decode cX4_isEven 11 = .ok (.goto 4, 3) := by decide +kernel
theorem dX4_isEven_14 : decode cX4_isEven 14 = .ok (.iconst 0, 1) := by decide +kernel
theorem dX4_isEven_15 : decode cX4_isEven 15 = .ok (.ireturn, 1) := by decide +kernel
theorem mi_X4_isEven : MI yX4_isEven cX4_isEven 2 (some FieldType.boolean) 2 := ⟨w_922, w_114, by decide +kernel, by decide +kernel, by decide +kernel⟩
set_option maxRecDepth 100000 in
set_option maxHeartbeats 4000000 in
theorem C_X4_isEven (G : GG) (l : Launch) (p0 : Int32) (p1 : Int32) (S : St) (Q : Int32 → Prop) (hp : P_X4_isEven p0 p1 Q) : Ctr G l yX4_isEven cX4_isEven 2 (some FieldType.boolean) 1 25 0 0 [.int p0, .int p1] S (fun (v : Option Value) (S9 : St) => ∃ (r : Int32), v = some (.int r) ∧ S9 = S ∧ Q r ) := by
  generalize hQQ : (fun (v : Option Value) (S9 : St) => ∃ (r : Int32), v = some (.int r) ∧ S9 = S ∧ Q r ) = QQ
  unfold P_X4_isEven at hp
  refine Ctr.of (by decide) (Nat.le_of_ble_eq_true rfl) ?_
  intro p e s m args below meth c ls B hr hlk hin hl hH
  generalize hlocs0 : ([] : List Loc) = locs at hH ⊢
  have hx := B.1
  have hb := B.2.1
  have hl : lv_has ls 2 [(0, .int p0), (1, .int p1)] := hl
  refine lv_iload_n (pc := 0) hx hb dX4_isEven_0 rfl (lv_at hl 0 rfl) ?_
  refine lv_iload_n (pc := 1) hx hb dX4_isEven_1 rfl (lv_at hl 1 rfl) ?_
  refine sx_S (pc := 2) (As := [.int p0, .int p1]) (rest := []) B hH hl.1 (C_X4_inversions G l p0 p1 _ _ hp) mi_X4_inversions w_924 w_923 rfl rfl ⟨Nat.le_of_ble_eq_true rfl, Nat.le_of_ble_eq_true rfl⟩ (Nat.le_of_ble_eq_true rfl) ⟨Nat.le_of_ble_eq_true rfl, Nat.le_of_ble_eq_true rfl⟩ dX4_isEven_2 (fun v S1 H locs hq hH => ?_)
  obtain ⟨r_1, rfl, e9, hp⟩ := hq
  rw [e9] at hH
  refine W.eq (g2 := F0 m 5 ls [.int r_1]) rfl ?_
  refine lv_iconst (pc := 5) (v := 1) hx hb dX4_isEven_5 (by decide) ?_
  refine lv_iand (pc := 6) hx hb dX4_isEven_6 ?_
  refine lv_if_ne (pc := 7) (tgt := 14) hx hb dX4_isEven_7 (by decide) (fun cc_2 => ?_) (fun cc_2 => ?_)
  · have hp := hp.1 cc_2
    refine lv_iconst (pc := 14) (v := 0) hx hb dX4_isEven_14 (by decide) ?_
    exact sx_zret (pc := 15) B hH hr hlk (Or.inl rfl) (by rw [← hQQ]; exact ⟨_, rfl, rfl, hp⟩) (Nat.le_of_ble_eq_true rfl) (Nat.le_of_ble_eq_true rfl) dX4_isEven_15
  · have hp := hp.2 cc_2
    refine lv_iconst (pc := 10) (v := 1) hx hb dX4_isEven_10 (by decide) ?_
    refine lv_goto (pc := 11) (tgt := 15) hx hb dX4_isEven_11 (by decide) ?_
    exact sx_zret (pc := 15) B hH hr hlk (Or.inr rfl) (by rw [← hQQ]; exact ⟨_, rfl, rfl, hp⟩) (Nat.le_of_ble_eq_true rfl) (Nat.le_of_ble_eq_true rfl) dX4_isEven_15
theorem dX4_cyclesOf_0 : decode cX4_cyclesOf 0 = .ok (.iconst 0, 1) := by decide +kernel
theorem dX4_cyclesOf_1 : decode cX4_cyclesOf 1 = .ok (.istore_n 3, 1) := by decide +kernel
theorem dX4_cyclesOf_2 : decode cX4_cyclesOf 2 = .ok (.iconst 0, 1) := by decide +kernel
theorem dX4_cyclesOf_3 : decode cX4_cyclesOf 3 = .ok (.istore 4, 2) := by decide +kernel
theorem dX4_cyclesOf_5 : decode cX4_cyclesOf 5 = .ok (.iconst 0, 1) := by decide +kernel
theorem dX4_cyclesOf_6 : decode cX4_cyclesOf 6 = .ok (.istore 5, 2) := by decide +kernel
theorem dX4_cyclesOf_8 : decode cX4_cyclesOf 8 = .ok (.iload 5, 2) := by decide +kernel
theorem dX4_cyclesOf_10 : decode cX4_cyclesOf 10 = .ok (.iload_n 2, 1) := by decide +kernel
theorem dX4_cyclesOf_11 : decode cX4_cyclesOf 11 = .ok (.if_icmp .ge 61, 3) := by decide +kernel
theorem dX4_cyclesOf_14 : decode cX4_cyclesOf 14 = .ok (.iconst 0, 1) := by decide +kernel
theorem dX4_cyclesOf_15 : decode cX4_cyclesOf 15 = .ok (.istore 6, 2) := by decide +kernel
theorem dX4_cyclesOf_17 : decode cX4_cyclesOf 17 = .ok (.iload 5, 2) := by decide +kernel
theorem dX4_cyclesOf_19 : decode cX4_cyclesOf 19 = .ok (.istore 7, 2) := by decide +kernel
theorem dX4_cyclesOf_21 : decode cX4_cyclesOf 21 = .ok (.iload 6, 2) := by decide +kernel
theorem dX4_cyclesOf_23 : decode cX4_cyclesOf 23 = .ok (.iload_n 2, 1) := by decide +kernel
theorem dX4_cyclesOf_24 : decode cX4_cyclesOf 24 = .ok (.if_icmp .ge 33, 3) := by decide +kernel
theorem dX4_cyclesOf_27 : decode cX4_cyclesOf 27 = .ok (.iload_n 3, 1) := by decide +kernel
theorem dX4_cyclesOf_28 : decode cX4_cyclesOf 28 = .ok (.iconst 1, 1) := by decide +kernel
theorem dX4_cyclesOf_29 : decode cX4_cyclesOf 29 = .ok (.iload 7, 2) := by decide +kernel
theorem dX4_cyclesOf_31 : decode cX4_cyclesOf 31 = .ok (.ishl, 1) := by decide +kernel
theorem dX4_cyclesOf_32 : decode cX4_cyclesOf 32 = .ok (.iand, 1) := by decide +kernel
theorem dX4_cyclesOf_33 : decode cX4_cyclesOf 33 = .ok (.ifCond .ne 24, 3) := by decide +kernel
theorem dX4_cyclesOf_36 : decode cX4_cyclesOf 36 = .ok (.iload_n 3, 1) := by decide +kernel
theorem dX4_cyclesOf_37 : decode cX4_cyclesOf 37 = .ok (.iconst 1, 1) := by decide +kernel
theorem dX4_cyclesOf_38 : decode cX4_cyclesOf 38 = .ok (.iload 7, 2) := by decide +kernel
theorem dX4_cyclesOf_40 : decode cX4_cyclesOf 40 = .ok (.ishl, 1) := by decide +kernel
theorem dX4_cyclesOf_41 : decode cX4_cyclesOf 41 = .ok (.ior, 1) := by decide +kernel
theorem dX4_cyclesOf_42 : decode cX4_cyclesOf 42 = .ok (.istore_n 3, 1) := by decide +kernel
theorem dX4_cyclesOf_43 : decode cX4_cyclesOf 43 = .ok (.iload_n 0, 1) := by decide +kernel
theorem dX4_cyclesOf_44 : decode cX4_cyclesOf 44 = .ok (.iload 7, 2) := by decide +kernel
theorem dX4_cyclesOf_46 : decode cX4_cyclesOf 46 = .ok (.invokestatic 37, 3) := by decide +kernel
theorem dX4_cyclesOf_49 : decode cX4_cyclesOf 49 = .ok (.istore 7, 2) := by decide +kernel
theorem dX4_cyclesOf_51 : decode cX4_cyclesOf 51 = .ok (.iinc 6 1, 3) := by decide +kernel
theorem dX4_cyclesOf_54 : decode cX4_cyclesOf 54 = .ok (.goto (-33), 3) := by decide +kernel
theorem dX4_cyclesOf_57 : decode cX4_cyclesOf 57 = .ok (.iload 6, 2) := by decide +kernel
theorem dX4_cyclesOf_59 : decode cX4_cyclesOf 59 = .ok (.iload_n 1, 1) := by decide +kernel
theorem dX4_cyclesOf_60 : decode cX4_cyclesOf 60 = .ok (.if_icmp .ne 6, 3) := by decide +kernel
theorem dX4_cyclesOf_63 : decode cX4_cyclesOf 63 = .ok (.iinc 4 1, 3) := by decide +kernel
theorem dX4_cyclesOf_66 : decode cX4_cyclesOf 66 = .ok (.iinc 5 1, 3) := by decide +kernel
theorem dX4_cyclesOf_69 : decode cX4_cyclesOf 69 = .ok (.goto (-61), 3) := by decide +kernel
theorem dX4_cyclesOf_72 : decode cX4_cyclesOf 72 = .ok (.iload 4, 2) := by decide +kernel
theorem dX4_cyclesOf_74 : decode cX4_cyclesOf 74 = .ok (.ireturn, 1) := by decide +kernel
theorem mi_X4_cyclesOf : MI yX4_cyclesOf cX4_cyclesOf 8 (some FieldType.int) 3 := ⟨w_944, w_114, by decide +kernel, by decide +kernel, by decide +kernel⟩
set_option maxRecDepth 100000 in
set_option maxHeartbeats 4000000 in
theorem C_X4_cyclesOf (G : GG) (l : Launch) (p0 : Int32) (p1 : Int32) (p2 : Int32) (S : St) (Q : Int32 → Prop) (hp : P_X4_cyclesOf p0 p1 p2 Q) : Ctr G l yX4_cyclesOf cX4_cyclesOf 8 (some FieldType.int) 1 21 0 0 [.int p0, .int p1, .int p2] S (fun (v : Option Value) (S9 : St) => ∃ (r : Int32), v = some (.int r) ∧ S9 = S ∧ Q r ) := by
  generalize hQQ : (fun (v : Option Value) (S9 : St) => ∃ (r : Int32), v = some (.int r) ∧ S9 = S ∧ Q r ) = QQ
  unfold P_X4_cyclesOf at hp
  refine Ctr.of (by decide) (Nat.le_of_ble_eq_true rfl) ?_
  intro p e s m args below meth c ls B hr hlk hin hl hH
  generalize hlocs0 : ([] : List Loc) = locs at hH ⊢
  have hx := B.1
  have hb := B.2.1
  have hl : lv_has ls 8 [(0, .int p0), (1, .int p1), (2, .int p2)] := hl
  refine lv_iconst (pc := 0) (v := 0) hx hb dX4_cyclesOf_0 (by decide) ?_
  refine lv_istore_n (pc := 1) (lv' := [(3, .int 0), (0, .int p0), (1, .int p1), (2, .int p2)]) hx hb dX4_cyclesOf_1 rfl hl (by decide) rfl (fun ls hl => ?_)
  refine lv_iconst (pc := 2) (v := 0) hx hb dX4_cyclesOf_2 (by decide) ?_
  refine lv_istore (pc := 3) (lv' := [(4, .int 0), (3, .int 0), (0, .int p0), (1, .int p1), (2, .int p2)]) hx hb dX4_cyclesOf_3 hl (by decide) rfl (fun ls hl => ?_)
  refine lv_iconst (pc := 5) (v := 0) hx hb dX4_cyclesOf_5 (by decide) ?_
  refine lv_istore (pc := 6) (lv' := [(5, .int 0), (4, .int 0), (3, .int 0), (0, .int p0), (1, .int p1), (2, .int p2)]) hx hb dX4_cyclesOf_6 hl (by decide) rfl (fun ls hl => ?_)
  obtain ⟨I_1, ⟨k0_1, h0_1⟩, hst_1⟩ := hp
  have kl_1 : ∀ (n_1 : Nat) (x3_2 : Int32) (x4_3 : Int32) (x5_4 : Int32) (H : Heap) (locs : List Loc) (ls : Array Slot), I_1 n_1 x3_2 x4_3 x5_4 → Hp G (FA S s.heap.size) s.heap S H locs → lv_has ls 8 [(0, .int p0), (1, .int p1), (2, .int p2), (3, .int x3_2), (4, .int x4_3), (5, .int x5_4)] → Wm G p l e { frames := 1, cells := 0, slots := 0, locals := 21 } s m args below meth c S QQ 0 0 H locs 0 0 (F0 m 8 ls []) := by
    intro n_1
    induction n_1 using Nat.strongRecOn with
    | ind n_1 ih_1 =>
      intro x3_2 x4_3 x5_4 H locs ls hq9 hH hl
      have hp := hst_1 n_1 x3_2 x4_3 x5_4 hq9
      refine lv_iload (pc := 8) hx hb dX4_cyclesOf_8 (lv_at hl 5 rfl) ?_
      refine lv_iload_n (pc := 10) hx hb dX4_cyclesOf_10 rfl (lv_at hl 2 rfl) ?_
      refine lv_icmp_ge (pc := 11) (tgt := 72) hx hb dX4_cyclesOf_11 (by decide) (fun cc_5 => ?_) (fun cc_5 => ?_)
      · have hp := hp.1 cc_5
        refine lv_iload (pc := 72) hx hb dX4_cyclesOf_72 (lv_at hl 4 rfl) ?_
        exact sx_iret (pc := 74) B hH hr hlk (by rw [← hQQ]; exact ⟨_, rfl, rfl, hp⟩) (Nat.le_of_ble_eq_true rfl) (Nat.le_of_ble_eq_true rfl) dX4_cyclesOf_74
      · have hp := hp.2 cc_5
        refine lv_iconst (pc := 14) (v := 0) hx hb dX4_cyclesOf_14 (by decide) ?_
        refine lv_istore (pc := 15) (lv' := [(6, .int 0), (0, .int p0), (1, .int p1), (2, .int p2), (3, .int x3_2), (4, .int x4_3), (5, .int x5_4)]) hx hb dX4_cyclesOf_15 hl (by decide) rfl (fun ls hl => ?_)
        refine lv_iload (pc := 17) hx hb dX4_cyclesOf_17 (lv_at hl 6 rfl) ?_
        refine lv_istore (pc := 19) (lv' := [(7, .int x5_4), (6, .int 0), (0, .int p0), (1, .int p1), (2, .int p2), (3, .int x3_2), (4, .int x4_3), (5, .int x5_4)]) hx hb dX4_cyclesOf_19 hl (by decide) rfl (fun ls hl => ?_)
        obtain ⟨I_6, ⟨k0_6, h0_6⟩, hst_6⟩ := hp
        have kl_6 : ∀ (n_6 : Nat) (x3_7 : Int32) (x6_8 : Int32) (x7_9 : Int32) (H : Heap) (locs : List Loc) (ls : Array Slot), I_6 n_6 x3_7 x6_8 x7_9 → Hp G (FA S s.heap.size) s.heap S H locs → lv_has ls 8 [(0, .int p0), (1, .int p1), (2, .int p2), (3, .int x3_7), (4, .int x4_3), (5, .int x5_4), (6, .int x6_8), (7, .int x7_9)] → Wm G p l e { frames := 1, cells := 0, slots := 0, locals := 21 } s m args below meth c S QQ 0 0 H locs 0 0 (F0 m 21 ls []) := by
          intro n_6
          induction n_6 using Nat.strongRecOn with
          | ind n_6 ih_6 =>
            intro x3_7 x6_8 x7_9 H locs ls hq9 hH hl
            have hp := hst_6 n_6 x3_7 x6_8 x7_9 hq9
            refine lv_iload (pc := 21) hx hb dX4_cyclesOf_21 (lv_at hl 6 rfl) ?_
            refine lv_iload_n (pc := 23) hx hb dX4_cyclesOf_23 rfl (lv_at hl 2 rfl) ?_
            obtain ⟨J_11, hj_11, hp⟩ := hp
            have kj_11 : ∀  (H : Heap) (locs : List Loc) (ls : Array Slot), J_11  → Hp G (FA S s.heap.size) s.heap S H locs → lv_has ls 8 [(0, .int p0), (1, .int p1), (2, .int p2), (3, .int x3_7), (4, .int x4_3), (5, .int x5_4), (6, .int x6_8)] → Wm G p l e { frames := 1, cells := 0, slots := 0, locals := 21 } s m args below meth c S QQ 0 0 H locs 0 0 (F0 m 57 ls []) := by
              intro  H locs ls hq9 hH hl
              have hp := hj_11  hq9
              refine lv_iload (pc := 57) hx hb dX4_cyclesOf_57 (lv_at hl 6 rfl) ?_
              refine lv_iload_n (pc := 59) hx hb dX4_cyclesOf_59 rfl (lv_at hl 1 rfl) ?_
              refine lv_icmp_ne (pc := 60) (tgt := 66) hx hb dX4_cyclesOf_60 (by decide) (fun cc_12 => ?_) (fun cc_12 => ?_)
              · have hp := hp.1 cc_12
                obtain ⟨v_13, ev_13⟩ : ∃ y : Int32, y = x5_4 + 1 := ⟨_, rfl⟩
                have hp := hp v_13 ev_13
                refine lv_iinc (pc := 66) (v := v_13) (lv' := [(5, .int v_13), (0, .int p0), (1, .int p1), (2, .int p2), (3, .int x3_7), (4, .int x4_3), (6, .int x6_8)]) hx hb dX4_cyclesOf_66 hl (k := 5) rfl (by rw [ev_13]; rfl) (by decide) rfl (fun ls hl => ?_)
                refine lv_goto (pc := 69) (tgt := 8) hx hb dX4_cyclesOf_69 (by decide) ?_
                obtain ⟨k9, hlt9, hp⟩ := hp
                exact ih_1 k9 hlt9 _ _ _ _ _ _ hp hH (lv_sub hl [1, 2, 3, 4, 5, 0] rfl)
              · have hp := hp.2 cc_12
                obtain ⟨v_14, ev_14⟩ : ∃ y : Int32, y = x4_3 + 1 := ⟨_, rfl⟩
                have hp := hp v_14 ev_14
                refine lv_iinc (pc := 63) (v := v_14) (lv' := [(4, .int v_14), (0, .int p0), (1, .int p1), (2, .int p2), (3, .int x3_7), (5, .int x5_4), (6, .int x6_8)]) hx hb dX4_cyclesOf_63 hl (k := 4) rfl (by rw [ev_14]; rfl) (by decide) rfl (fun ls hl => ?_)
                obtain ⟨v_15, ev_15⟩ : ∃ y : Int32, y = x5_4 + 1 := ⟨_, rfl⟩
                have hp := hp v_15 ev_15
                refine lv_iinc (pc := 66) (v := v_15) (lv' := [(5, .int v_15), (4, .int v_14), (0, .int p0), (1, .int p1), (2, .int p2), (3, .int x3_7), (6, .int x6_8)]) hx hb dX4_cyclesOf_66 hl (k := 5) rfl (by rw [ev_15]; rfl) (by decide) rfl (fun ls hl => ?_)
                refine lv_goto (pc := 69) (tgt := 8) hx hb dX4_cyclesOf_69 (by decide) ?_
                obtain ⟨k9, hlt9, hp⟩ := hp
                exact ih_1 k9 hlt9 _ _ _ _ _ _ hp hH (lv_sub hl [2, 3, 4, 5, 1, 0] rfl)
            refine lv_icmp_ge (pc := 24) (tgt := 57) hx hb dX4_cyclesOf_24 (by decide) (fun cc_10 => ?_) (fun cc_10 => ?_)
            · have hp := hp.1 cc_10
              exact kj_11  _ _ _ hp hH (lv_sub hl [0, 1, 2, 3, 4, 5, 6] rfl)
            · have hp := hp.2 cc_10
              refine lv_iload_n (pc := 27) hx hb dX4_cyclesOf_27 rfl (lv_at hl 3 rfl) ?_
              refine lv_iconst (pc := 28) (v := 1) hx hb dX4_cyclesOf_28 (by decide) ?_
              refine lv_iload (pc := 29) hx hb dX4_cyclesOf_29 (lv_at hl 7 rfl) ?_
              refine lv_ishl (pc := 31) hx hb dX4_cyclesOf_31 ?_
              refine W.eq (g2 := F0 m 32 ls [.int (shl 1 x7_9), .int x3_7]) rfl ?_
              refine lv_iand (pc := 32) hx hb dX4_cyclesOf_32 ?_
              refine lv_if_ne (pc := 33) (tgt := 57) hx hb dX4_cyclesOf_33 (by decide) (fun cc_16 => ?_) (fun cc_16 => ?_)
              · have hp := hp.1 cc_16
                exact kj_11  _ _ _ hp hH (lv_sub hl [0, 1, 2, 3, 4, 5, 6] rfl)
              · have hp := hp.2 cc_16
                refine lv_iload_n (pc := 36) hx hb dX4_cyclesOf_36 rfl (lv_at hl 3 rfl) ?_
                refine lv_iconst (pc := 37) (v := 1) hx hb dX4_cyclesOf_37 (by decide) ?_
                refine lv_iload (pc := 38) hx hb dX4_cyclesOf_38 (lv_at hl 7 rfl) ?_
                refine lv_ishl (pc := 40) hx hb dX4_cyclesOf_40 ?_
                refine W.eq (g2 := F0 m 41 ls [.int (shl 1 x7_9), .int x3_7]) rfl ?_
                refine lv_ior (pc := 41) hx hb dX4_cyclesOf_41 ?_
                refine lv_topi (fun v_17 ev_17 => ?_)
                have hp := hp v_17 ev_17
                refine lv_istore_n (pc := 42) (lv' := [(3, .int v_17), (0, .int p0), (1, .int p1), (2, .int p2), (4, .int x4_3), (5, .int x5_4), (6, .int x6_8), (7, .int x7_9)]) hx hb dX4_cyclesOf_42 rfl hl (by decide) rfl (fun ls hl => ?_)
                refine lv_iload_n (pc := 43) hx hb dX4_cyclesOf_43 rfl (lv_at hl 1 rfl) ?_
                refine lv_iload (pc := 44) hx hb dX4_cyclesOf_44 (lv_at hl 7 rfl) ?_
                refine sx_S (pc := 46) (As := [.int p0, .int x7_9]) (rest := []) B hH hl.1 (C_X4_bellAt G l p0 x7_9 _ _ hp) mi_X4_bellAt w_873 w_945 rfl rfl ⟨Nat.le_of_ble_eq_true rfl, Nat.le_of_ble_eq_true rfl⟩ (Nat.le_of_ble_eq_true rfl) ⟨Nat.le_of_ble_eq_true rfl, Nat.le_of_ble_eq_true rfl⟩ dX4_cyclesOf_46 (fun v S1 H locs hq hH => ?_)
                obtain ⟨r_18, rfl, e9, hp⟩ := hq
                rw [e9] at hH
                refine W.eq (g2 := F0 m 49 ls [.int r_18]) rfl ?_
                refine lv_istore (pc := 49) (lv' := [(7, .int r_18), (3, .int v_17), (0, .int p0), (1, .int p1), (2, .int p2), (4, .int x4_3), (5, .int x5_4), (6, .int x6_8)]) hx hb dX4_cyclesOf_49 hl (by decide) rfl (fun ls hl => ?_)
                obtain ⟨v_19, ev_19⟩ : ∃ y : Int32, y = x6_8 + 1 := ⟨_, rfl⟩
                have hp := hp v_19 ev_19
                refine lv_iinc (pc := 51) (v := v_19) (lv' := [(6, .int v_19), (7, .int r_18), (3, .int v_17), (0, .int p0), (1, .int p1), (2, .int p2), (4, .int x4_3), (5, .int x5_4)]) hx hb dX4_cyclesOf_51 hl (k := 7) rfl (by rw [ev_19]; rfl) (by decide) rfl (fun ls hl => ?_)
                refine lv_goto (pc := 54) (tgt := 21) hx hb dX4_cyclesOf_54 (by decide) ?_
                obtain ⟨k9, hlt9, hp⟩ := hp
                exact ih_6 k9 hlt9 _ _ _ _ _ _ hp hH (lv_sub hl [3, 4, 5, 2, 6, 7, 0, 1] rfl)
        exact kl_6 k0_6 _ _ _ _ _ _ h0_6 hH (lv_sub hl [2, 3, 4, 5, 6, 7, 1, 0] rfl)
  exact kl_1 k0_1 _ _ _ _ _ _ h0_1 hH (lv_sub hl [3, 4, 5, 2, 1, 0] rfl)
theorem dX4_moveBetween_0 : decode cX4_moveBetween 0 = .ok (.iconst 0, 1) := by decide +kernel
theorem dX4_moveBetween_1 : decode cX4_moveBetween 1 = .ok (.istore_n 3, 1) := by decide +kernel
theorem dX4_moveBetween_2 : decode cX4_moveBetween 2 = .ok (.iconst 0, 1) := by decide +kernel
theorem dX4_moveBetween_3 : decode cX4_moveBetween 3 = .ok (.istore 4, 2) := by decide +kernel
theorem dX4_moveBetween_5 : decode cX4_moveBetween 5 = .ok (.iload 4, 2) := by decide +kernel
theorem dX4_moveBetween_7 : decode cX4_moveBetween 7 = .ok (.iload_n 2, 1) := by decide +kernel
theorem dX4_moveBetween_8 : decode cX4_moveBetween 8 = .ok (.if_icmp .ge 31, 3) := by decide +kernel
theorem dX4_moveBetween_11 : decode cX4_moveBetween 11 = .ok (.iload_n 0, 1) := by decide +kernel
theorem dX4_moveBetween_12 : decode cX4_moveBetween 12 = .ok (.iload 4, 2) := by decide +kernel
theorem dX4_moveBetween_14 : decode cX4_moveBetween 14 = .ok (.invokestatic 37, 3) := by decide +kernel
theorem dX4_moveBetween_17 : decode cX4_moveBetween 17 = .ok (.iload_n 1, 1) := by decide +kernel
theorem dX4_moveBetween_18 : decode cX4_moveBetween 18 = .ok (.iload 4, 2) := by decide +kernel
theorem dX4_moveBetween_20 : decode cX4_moveBetween 20 = .ok (.invokestatic 37, 3) := by decide +kernel
theorem dX4_moveBetween_23 : decode cX4_moveBetween 23 = .ok (.if_icmp .ne 10, 3) := by decide +kernel
theorem dX4_moveBetween_26 : decode cX4_moveBetween 26 = .ok (.iload_n 3, 1) := by decide +kernel
theorem dX4_moveBetween_27 : decode cX4_moveBetween 27 = .ok (.iconst 1, 1) := by decide +kernel
theorem dX4_moveBetween_28 : decode cX4_moveBetween 28 = .ok (.iload 4, 2) := by decide +kernel
theorem dX4_moveBetween_30 : decode cX4_moveBetween 30 = .ok (.ishl, 1) := by decide +kernel
theorem dX4_moveBetween_31 : decode cX4_moveBetween 31 = .ok (.ior, 1) := by decide +kernel
theorem dX4_moveBetween_32 : decode cX4_moveBetween 32 = .ok (.istore_n 3, 1) := by decide +kernel
theorem dX4_moveBetween_33 : decode cX4_moveBetween 33 = .ok (.iinc 4 1, 3) := by decide +kernel
theorem dX4_moveBetween_36 : decode cX4_moveBetween 36 = .ok (.goto (-31), 3) := by decide +kernel
theorem dX4_moveBetween_39 : decode cX4_moveBetween 39 = .ok (.iload_n 3, 1) := by decide +kernel
theorem dX4_moveBetween_40 : decode cX4_moveBetween 40 = .ok (.iload_n 2, 1) := by decide +kernel
theorem dX4_moveBetween_41 : decode cX4_moveBetween 41 = .ok (.invokestatic 40, 3) := by decide +kernel
theorem dX4_moveBetween_44 : decode cX4_moveBetween 44 = .ok (.istore 4, 2) := by decide +kernel
theorem dX4_moveBetween_46 : decode cX4_moveBetween 46 = .ok (.iload 4, 2) := by decide +kernel
theorem dX4_moveBetween_48 : decode cX4_moveBetween 48 = .ok (.iconst (-1), 1) := by decide +kernel
theorem dX4_moveBetween_49 : decode cX4_moveBetween 49 = .ok (.if_icmp .eq 18, 3) := by decide +kernel
theorem dX4_moveBetween_52 : decode cX4_moveBetween 52 = .ok (.iload_n 0, 1) := by decide +kernel
theorem dX4_moveBetween_53 : decode cX4_moveBetween 53 = .ok (.iload 4, 2) := by decide +kernel
theorem dX4_moveBetween_55 : decode cX4_moveBetween 55 = .ok (.invokestatic 43, 3) := by decide +kernel
theorem dX4_moveBetween_58 : decode cX4_moveBetween 58 = .ok (.iload_n 1, 1) := by decide +kernel
theorem dX4_moveBetween_59 : decode cX4_moveBetween 59 = .ok (.if_icmp .ne 8, 3) := by decide +kernel
theorem dX4_moveBetween_62 : decode cX4_moveBetween 62 = .ok (.iload 4, 2) := by decide +kernel
theorem dX4_moveBetween_64 : decode cX4_moveBetween 64 = .ok (.goto 4, 3) := by decide +kernel
theorem dX4_moveBetween_67 : decode cX4_moveBetween 67 = .ok (.iconst (-1), 1) := by decide +kernel
theorem dX4_moveBetween_68 : decode cX4_moveBetween 68 = .ok (.ireturn, 1) := by decide +kernel
theorem mi_X4_moveBetween : MI yX4_moveBetween cX4_moveBetween 5 (some FieldType.int) 3 := ⟨w_957, w_114, by decide +kernel, by decide +kernel, by decide +kernel⟩
set_option maxRecDepth 100000 in
set_option maxHeartbeats 4000000 in
theorem C_X4_moveBetween (G : GG) (l : Launch) (p0 : Int32) (p1 : Int32) (p2 : Int32) (S : St) (Q : Int32 → Prop) (hp : P_X4_moveBetween p0 p1 p2 Q) : Ctr G l yX4_moveBetween cX4_moveBetween 5 (some FieldType.int) 1 23 0 0 [.int p0, .int p1, .int p2] S (fun (v : Option Value) (S9 : St) => ∃ (r : Int32), v = some (.int r) ∧ S9 = S ∧ Q r ) := by
  generalize hQQ : (fun (v : Option Value) (S9 : St) => ∃ (r : Int32), v = some (.int r) ∧ S9 = S ∧ Q r ) = QQ
  unfold P_X4_moveBetween at hp
  refine Ctr.of (by decide) (Nat.le_of_ble_eq_true rfl) ?_
  intro p e s m args below meth c ls B hr hlk hin hl hH
  generalize hlocs0 : ([] : List Loc) = locs at hH ⊢
  have hx := B.1
  have hb := B.2.1
  have hl : lv_has ls 5 [(0, .int p0), (1, .int p1), (2, .int p2)] := hl
  refine lv_iconst (pc := 0) (v := 0) hx hb dX4_moveBetween_0 (by decide) ?_
  refine lv_istore_n (pc := 1) (lv' := [(3, .int 0), (0, .int p0), (1, .int p1), (2, .int p2)]) hx hb dX4_moveBetween_1 rfl hl (by decide) rfl (fun ls hl => ?_)
  refine lv_iconst (pc := 2) (v := 0) hx hb dX4_moveBetween_2 (by decide) ?_
  refine lv_istore (pc := 3) (lv' := [(4, .int 0), (3, .int 0), (0, .int p0), (1, .int p1), (2, .int p2)]) hx hb dX4_moveBetween_3 hl (by decide) rfl (fun ls hl => ?_)
  obtain ⟨I_1, ⟨k0_1, h0_1⟩, hst_1⟩ := hp
  have kl_1 : ∀ (n_1 : Nat) (x3_2 : Int32) (x4_3 : Int32) (H : Heap) (locs : List Loc) (ls : Array Slot), I_1 n_1 x3_2 x4_3 → Hp G (FA S s.heap.size) s.heap S H locs → lv_has ls 5 [(0, .int p0), (1, .int p1), (2, .int p2), (3, .int x3_2), (4, .int x4_3)] → Wm G p l e { frames := 1, cells := 0, slots := 0, locals := 23 } s m args below meth c S QQ 0 0 H locs 0 0 (F0 m 5 ls []) := by
    intro n_1
    induction n_1 using Nat.strongRecOn with
    | ind n_1 ih_1 =>
      intro x3_2 x4_3 H locs ls hq9 hH hl
      have hp := hst_1 n_1 x3_2 x4_3 hq9
      refine lv_iload (pc := 5) hx hb dX4_moveBetween_5 (lv_at hl 4 rfl) ?_
      refine lv_iload_n (pc := 7) hx hb dX4_moveBetween_7 rfl (lv_at hl 2 rfl) ?_
      refine lv_icmp_ge (pc := 8) (tgt := 39) hx hb dX4_moveBetween_8 (by decide) (fun cc_4 => ?_) (fun cc_4 => ?_)
      · have hp := hp.1 cc_4
        refine lv_iload_n (pc := 39) hx hb dX4_moveBetween_39 rfl (lv_at hl 3 rfl) ?_
        refine lv_iload_n (pc := 40) hx hb dX4_moveBetween_40 rfl (lv_at hl 2 rfl) ?_
        refine sx_S (pc := 41) (As := [.int x3_2, .int p2]) (rest := []) B hH hl.1 (C_X4_moveAround G l x3_2 p2 _ _ hp) mi_X4_moveAround w_665 w_664 rfl rfl ⟨Nat.le_of_ble_eq_true rfl, Nat.le_of_ble_eq_true rfl⟩ (Nat.le_of_ble_eq_true rfl) ⟨Nat.le_of_ble_eq_true rfl, Nat.le_of_ble_eq_true rfl⟩ dX4_moveBetween_41 (fun v S1 H locs hq hH => ?_)
        obtain ⟨r_5, rfl, e9, hp⟩ := hq
        rw [e9] at hH
        refine W.eq (g2 := F0 m 44 ls [.int r_5]) rfl ?_
        refine lv_istore (pc := 44) (lv' := [(4, .int r_5), (0, .int p0), (1, .int p1), (2, .int p2), (3, .int x3_2)]) hx hb dX4_moveBetween_44 hl (by decide) rfl (fun ls hl => ?_)
        refine lv_iload (pc := 46) hx hb dX4_moveBetween_46 (lv_at hl 0 rfl) ?_
        refine lv_iconst (pc := 48) (v := (-1)) hx hb dX4_moveBetween_48 (by decide) ?_
        refine lv_icmp_eq (pc := 49) (tgt := 67) hx hb dX4_moveBetween_49 (by decide) (fun cc_6 => ?_) (fun cc_6 => ?_)
        · have hp := hp.1 cc_6
          refine lv_iconst (pc := 67) (v := (-1)) hx hb dX4_moveBetween_67 (by decide) ?_
          exact sx_iret (pc := 68) B hH hr hlk (by rw [← hQQ]; exact ⟨_, rfl, rfl, hp⟩) (Nat.le_of_ble_eq_true rfl) (Nat.le_of_ble_eq_true rfl) dX4_moveBetween_68
        · have hp := hp.2 cc_6
          refine lv_iload_n (pc := 52) hx hb dX4_moveBetween_52 rfl (lv_at hl 1 rfl) ?_
          refine lv_iload (pc := 53) hx hb dX4_moveBetween_53 (lv_at hl 0 rfl) ?_
          refine sx_S (pc := 55) (As := [.int p0, .int r_5]) (rest := []) B hH hl.1 (C_X4_moved G l p0 r_5 _ _ hp) mi_X4_moved w_710 w_958 rfl rfl ⟨Nat.le_of_ble_eq_true rfl, Nat.le_of_ble_eq_true rfl⟩ (Nat.le_of_ble_eq_true rfl) ⟨Nat.le_of_ble_eq_true rfl, Nat.le_of_ble_eq_true rfl⟩ dX4_moveBetween_55 (fun v S1 H locs hq hH => ?_)
          obtain ⟨r_7, rfl, e9, hp⟩ := hq
          rw [e9] at hH
          refine W.eq (g2 := F0 m 58 ls [.int r_7]) rfl ?_
          refine lv_iload_n (pc := 58) hx hb dX4_moveBetween_58 rfl (lv_at hl 2 rfl) ?_
          refine lv_icmp_ne (pc := 59) (tgt := 67) hx hb dX4_moveBetween_59 (by decide) (fun cc_8 => ?_) (fun cc_8 => ?_)
          · have hp := hp.1 cc_8
            refine lv_iconst (pc := 67) (v := (-1)) hx hb dX4_moveBetween_67 (by decide) ?_
            exact sx_iret (pc := 68) B hH hr hlk (by rw [← hQQ]; exact ⟨_, rfl, rfl, hp⟩) (Nat.le_of_ble_eq_true rfl) (Nat.le_of_ble_eq_true rfl) dX4_moveBetween_68
          · have hp := hp.2 cc_8
            refine lv_iload (pc := 62) hx hb dX4_moveBetween_62 (lv_at hl 0 rfl) ?_
            refine lv_goto (pc := 64) (tgt := 68) hx hb dX4_moveBetween_64 (by decide) ?_
            exact sx_iret (pc := 68) B hH hr hlk (by rw [← hQQ]; exact ⟨_, rfl, rfl, hp⟩) (Nat.le_of_ble_eq_true rfl) (Nat.le_of_ble_eq_true rfl) dX4_moveBetween_68
      · have hp := hp.2 cc_4
        refine lv_iload_n (pc := 11) hx hb dX4_moveBetween_11 rfl (lv_at hl 0 rfl) ?_
        refine lv_iload (pc := 12) hx hb dX4_moveBetween_12 (lv_at hl 4 rfl) ?_
        refine sx_S (pc := 14) (As := [.int p0, .int x4_3]) (rest := []) B hH hl.1 (C_X4_bellAt G l p0 x4_3 _ _ hp) mi_X4_bellAt w_873 w_945 rfl rfl ⟨Nat.le_of_ble_eq_true rfl, Nat.le_of_ble_eq_true rfl⟩ (Nat.le_of_ble_eq_true rfl) ⟨Nat.le_of_ble_eq_true rfl, Nat.le_of_ble_eq_true rfl⟩ dX4_moveBetween_14 (fun v S1 H locs hq hH => ?_)
        obtain ⟨r_9, rfl, e9, hp⟩ := hq
        rw [e9] at hH
        refine W.eq (g2 := F0 m 17 ls [.int r_9]) rfl ?_
        refine lv_iload_n (pc := 17) hx hb dX4_moveBetween_17 rfl (lv_at hl 1 rfl) ?_
        refine lv_iload (pc := 18) hx hb dX4_moveBetween_18 (lv_at hl 4 rfl) ?_
        refine sx_S (pc := 20) (As := [.int p1, .int x4_3]) (rest := [.int r_9]) B hH hl.1 (C_X4_bellAt G l p1 x4_3 _ _ hp) mi_X4_bellAt w_873 w_945 rfl rfl ⟨Nat.le_of_ble_eq_true rfl, Nat.le_of_ble_eq_true rfl⟩ (Nat.le_of_ble_eq_true rfl) ⟨Nat.le_of_ble_eq_true rfl, Nat.le_of_ble_eq_true rfl⟩ dX4_moveBetween_20 (fun v S1 H locs hq hH => ?_)
        obtain ⟨r_10, rfl, e9, hp⟩ := hq
        rw [e9] at hH
        refine W.eq (g2 := F0 m 23 ls [.int r_10, .int r_9]) rfl ?_
        refine lv_icmp_ne (pc := 23) (tgt := 33) hx hb dX4_moveBetween_23 (by decide) (fun cc_11 => ?_) (fun cc_11 => ?_)
        · have hp := hp.1 cc_11
          obtain ⟨v_12, ev_12⟩ : ∃ y : Int32, y = x4_3 + 1 := ⟨_, rfl⟩
          have hp := hp v_12 ev_12
          refine lv_iinc (pc := 33) (v := v_12) (lv' := [(4, .int v_12), (0, .int p0), (1, .int p1), (2, .int p2), (3, .int x3_2)]) hx hb dX4_moveBetween_33 hl (k := 4) rfl (by rw [ev_12]; rfl) (by decide) rfl (fun ls hl => ?_)
          refine lv_goto (pc := 36) (tgt := 5) hx hb dX4_moveBetween_36 (by decide) ?_
          obtain ⟨k9, hlt9, hp⟩ := hp
          exact ih_1 k9 hlt9 _ _ _ _ _ hp hH (lv_sub hl [1, 2, 3, 4, 0] rfl)
        · have hp := hp.2 cc_11
          refine lv_iload_n (pc := 26) hx hb dX4_moveBetween_26 rfl (lv_at hl 3 rfl) ?_
          refine lv_iconst (pc := 27) (v := 1) hx hb dX4_moveBetween_27 (by decide) ?_
          refine lv_iload (pc := 28) hx hb dX4_moveBetween_28 (lv_at hl 4 rfl) ?_
          refine lv_ishl (pc := 30) hx hb dX4_moveBetween_30 ?_
          refine W.eq (g2 := F0 m 31 ls [.int (shl 1 x4_3), .int x3_2]) rfl ?_
          refine lv_ior (pc := 31) hx hb dX4_moveBetween_31 ?_
          refine lv_topi (fun v_13 ev_13 => ?_)
          have hp := hp v_13 ev_13
          refine lv_istore_n (pc := 32) (lv' := [(3, .int v_13), (0, .int p0), (1, .int p1), (2, .int p2), (4, .int x4_3)]) hx hb dX4_moveBetween_32 rfl hl (by decide) rfl (fun ls hl => ?_)
          obtain ⟨v_14, ev_14⟩ : ∃ y : Int32, y = x4_3 + 1 := ⟨_, rfl⟩
          have hp := hp v_14 ev_14
          refine lv_iinc (pc := 33) (v := v_14) (lv' := [(4, .int v_14), (3, .int v_13), (0, .int p0), (1, .int p1), (2, .int p2)]) hx hb dX4_moveBetween_33 hl (k := 4) rfl (by rw [ev_14]; rfl) (by decide) rfl (fun ls hl => ?_)
          refine lv_goto (pc := 36) (tgt := 5) hx hb dX4_moveBetween_36 (by decide) ?_
          obtain ⟨k9, hlt9, hp⟩ := hp
          exact ih_1 k9 hlt9 _ _ _ _ _ hp hH (lv_sub hl [2, 3, 4, 1, 0] rfl)
  exact kl_1 k0_1 _ _ _ _ _ h0_1 hH (lv_sub hl [2, 3, 4, 1, 0] rfl)
theorem dX4_placesOf_0 : decode cX4_placesOf 0 = .ok (.iconst 0, 1) := by decide +kernel
theorem dX4_placesOf_1 : decode cX4_placesOf 1 = .ok (.istore_n 2, 1) := by decide +kernel
theorem dX4_placesOf_2 : decode cX4_placesOf 2 = .ok (.iconst 0, 1) := by decide +kernel
theorem dX4_placesOf_3 : decode cX4_placesOf 3 = .ok (.istore_n 3, 1) := by decide +kernel
theorem dX4_placesOf_4 : decode cX4_placesOf 4 = .ok (.iload_n 3, 1) := by decide +kernel
theorem dX4_placesOf_5 : decode cX4_placesOf 5 = .ok (.iload_n 1, 1) := by decide +kernel
theorem dX4_placesOf_6 : decode cX4_placesOf 6 = .ok (.if_icmp .ge 35, 3) := by decide +kernel
theorem dX4_placesOf_9 : decode cX4_placesOf 9 = .ok (.iload_n 0, 1) := by decide +kernel
theorem dX4_placesOf_10 : decode cX4_placesOf 10 = .ok (.bipush 15, 2) := by decide +kernel
theorem dX4_placesOf_12 : decode cX4_placesOf 12 = .ok (.iconst 4, 1) := by decide +kernel
theorem dX4_placesOf_13 : decode cX4_placesOf 13 = .ok (.iload_n 3, 1) := by decide +kernel
theorem dX4_placesOf_14 : decode cX4_placesOf 14 = .ok (.imul, 1) := by decide +kernel
theorem dX4_placesOf_15 : decode cX4_placesOf 15 = .ok (.ishl, 1) := by decide +kernel
theorem dX4_placesOf_16 : decode cX4_placesOf 16 = .ok (.iand, 1) := by decide +kernel
theorem dX4_placesOf_17 : decode cX4_placesOf 17 = .ok (.ifCond .ne 15, 3) := by decide +kernel
theorem dX4_placesOf_20 : decode cX4_placesOf 20 = .ok (.iload_n 2, 1) := by decide +kernel
theorem dX4_placesOf_21 : decode cX4_placesOf 21 = .ok (.bipush 10, 2) := by decide +kernel
theorem dX4_placesOf_23 : decode cX4_placesOf 23 = .ok (.imul, 1) := by decide +kernel
theorem dX4_placesOf_24 : decode cX4_placesOf 24 = .ok (.iload_n 3, 1) := by decide +kernel
theorem dX4_placesOf_25 : decode cX4_placesOf 25 = .ok (.iadd, 1) := by decide +kernel
theorem dX4_placesOf_26 : decode cX4_placesOf 26 = .ok (.iconst 1, 1) := by decide +kernel
theorem dX4_placesOf_27 : decode cX4_placesOf 27 = .ok (.iadd, 1) := by decide +kernel
theorem dX4_placesOf_28 : decode cX4_placesOf 28 = .ok (.istore_n 2, 1) := by decide +kernel
theorem dX4_placesOf_29 : decode cX4_placesOf 29 = .ok (.goto 6, 3) := by decide +kernel
theorem dX4_placesOf_32 : decode cX4_placesOf 32 = .ok (.iinc 3 1, 3) := by decide +kernel
theorem dX4_placesOf_35 : decode cX4_placesOf 35 = .ok (.iinc 3 1, 3) := by decide +kernel
theorem dX4_placesOf_38 : decode cX4_placesOf 38 = .ok (.goto (-34), 3) := by decide +kernel
theorem dX4_placesOf_41 : decode cX4_placesOf 41 = .ok (.iload_n 2, 1) := by decide +kernel
theorem dX4_placesOf_42 : decode cX4_placesOf 42 = .ok (.ireturn, 1) := by decide +kernel
theorem mi_X4_placesOf : MI yX4_placesOf cX4_placesOf 4 (some FieldType.int) 2 := ⟨w_961, w_114, by decide +kernel, by decide +kernel, by decide +kernel⟩
set_option maxRecDepth 100000 in
set_option maxHeartbeats 4000000 in
theorem C_X4_placesOf (G : GG) (l : Launch) (p0 : Int32) (p1 : Int32) (S : St) (Q : Int32 → Prop) (hp : P_X4_placesOf p0 p1 Q) : Ctr G l yX4_placesOf cX4_placesOf 4 (some FieldType.int) 0 0 0 0 [.int p0, .int p1] S (fun (v : Option Value) (S9 : St) => ∃ (r : Int32), v = some (.int r) ∧ S9 = S ∧ Q r ) := by
  generalize hQQ : (fun (v : Option Value) (S9 : St) => ∃ (r : Int32), v = some (.int r) ∧ S9 = S ∧ Q r ) = QQ
  unfold P_X4_placesOf at hp
  refine Ctr.of (by decide) (Nat.le_of_ble_eq_true rfl) ?_
  intro p e s m args below meth c ls B hr hlk hin hl hH
  generalize hlocs0 : ([] : List Loc) = locs at hH ⊢
  have hx := B.1
  have hb := B.2.1
  have hl : lv_has ls 4 [(0, .int p0), (1, .int p1)] := hl
  refine lv_iconst (pc := 0) (v := 0) hx hb dX4_placesOf_0 (by decide) ?_
  refine lv_istore_n (pc := 1) (lv' := [(2, .int 0), (0, .int p0), (1, .int p1)]) hx hb dX4_placesOf_1 rfl hl (by decide) rfl (fun ls hl => ?_)
  refine lv_iconst (pc := 2) (v := 0) hx hb dX4_placesOf_2 (by decide) ?_
  refine lv_istore_n (pc := 3) (lv' := [(3, .int 0), (2, .int 0), (0, .int p0), (1, .int p1)]) hx hb dX4_placesOf_3 rfl hl (by decide) rfl (fun ls hl => ?_)
  obtain ⟨I_1, ⟨k0_1, h0_1⟩, hst_1⟩ := hp
  have kl_1 : ∀ (n_1 : Nat) (x2_2 : Int32) (x3_3 : Int32) (H : Heap) (locs : List Loc) (ls : Array Slot), I_1 n_1 x2_2 x3_3 → Hp G (FA S s.heap.size) s.heap S H locs → lv_has ls 4 [(0, .int p0), (1, .int p1), (2, .int x2_2), (3, .int x3_3)] → Wm G p l e { frames := 0, cells := 0, slots := 0, locals := 0 } s m args below meth c S QQ 0 0 H locs 0 0 (F0 m 4 ls []) := by
    intro n_1
    induction n_1 using Nat.strongRecOn with
    | ind n_1 ih_1 =>
      intro x2_2 x3_3 H locs ls hq9 hH hl
      have hp := hst_1 n_1 x2_2 x3_3 hq9
      refine lv_iload_n (pc := 4) hx hb dX4_placesOf_4 rfl (lv_at hl 3 rfl) ?_
      refine lv_iload_n (pc := 5) hx hb dX4_placesOf_5 rfl (lv_at hl 1 rfl) ?_
      refine lv_icmp_ge (pc := 6) (tgt := 41) hx hb dX4_placesOf_6 (by decide) (fun cc_4 => ?_) (fun cc_4 => ?_)
      · have hp := hp.1 cc_4
        refine lv_iload_n (pc := 41) hx hb dX4_placesOf_41 rfl (lv_at hl 2 rfl) ?_
        exact sx_iret (pc := 42) B hH hr hlk (by rw [← hQQ]; exact ⟨_, rfl, rfl, hp⟩) (Nat.le_of_ble_eq_true rfl) (Nat.le_of_ble_eq_true rfl) dX4_placesOf_42
      · have hp := hp.2 cc_4
        refine lv_iload_n (pc := 9) hx hb dX4_placesOf_9 rfl (lv_at hl 0 rfl) ?_
        refine lv_bipush (pc := 10) (v := 15) hx hb dX4_placesOf_10 (by decide) ?_
        refine lv_iconst (pc := 12) (v := 4) hx hb dX4_placesOf_12 (by decide) ?_
        refine lv_iload_n (pc := 13) hx hb dX4_placesOf_13 rfl (lv_at hl 3 rfl) ?_
        refine lv_imul (pc := 14) hx hb dX4_placesOf_14 ?_
        refine lv_ishl (pc := 15) hx hb dX4_placesOf_15 ?_
        refine W.eq (g2 := F0 m 16 ls [.int (shl 15 (4 * x3_3)), .int p0]) rfl ?_
        refine lv_iand (pc := 16) hx hb dX4_placesOf_16 ?_
        refine lv_if_ne (pc := 17) (tgt := 32) hx hb dX4_placesOf_17 (by decide) (fun cc_5 => ?_) (fun cc_5 => ?_)
        · have hp := hp.1 cc_5
          obtain ⟨v_6, ev_6⟩ : ∃ y : Int32, y = x3_3 + 1 := ⟨_, rfl⟩
          have hp := hp v_6 ev_6
          refine lv_iinc (pc := 32) (v := v_6) (lv' := [(3, .int v_6), (0, .int p0), (1, .int p1), (2, .int x2_2)]) hx hb dX4_placesOf_32 hl (k := 3) rfl (by rw [ev_6]; rfl) (by decide) rfl (fun ls hl => ?_)
          obtain ⟨v_7, ev_7⟩ : ∃ y : Int32, y = v_6 + 1 := ⟨_, rfl⟩
          have hp := hp v_7 ev_7
          refine lv_iinc (pc := 35) (v := v_7) (lv' := [(3, .int v_7), (0, .int p0), (1, .int p1), (2, .int x2_2)]) hx hb dX4_placesOf_35 hl (k := 0) rfl (by rw [ev_7]; rfl) (by decide) rfl (fun ls hl => ?_)
          refine lv_goto (pc := 38) (tgt := 4) hx hb dX4_placesOf_38 (by decide) ?_
          obtain ⟨k9, hlt9, hp⟩ := hp
          exact ih_1 k9 hlt9 _ _ _ _ _ hp hH (lv_sub hl [1, 2, 3, 0] rfl)
        · have hp := hp.2 cc_5
          refine lv_iload_n (pc := 20) hx hb dX4_placesOf_20 rfl (lv_at hl 2 rfl) ?_
          refine lv_bipush (pc := 21) (v := 10) hx hb dX4_placesOf_21 (by decide) ?_
          refine lv_imul (pc := 23) hx hb dX4_placesOf_23 ?_
          refine lv_iload_n (pc := 24) hx hb dX4_placesOf_24 rfl (lv_at hl 3 rfl) ?_
          refine lv_iadd (pc := 25) hx hb dX4_placesOf_25 ?_
          refine lv_iconst (pc := 26) (v := 1) hx hb dX4_placesOf_26 (by decide) ?_
          refine lv_iadd (pc := 27) hx hb dX4_placesOf_27 ?_
          refine lv_topi (fun v_8 ev_8 => ?_)
          have hp := hp v_8 ev_8
          refine lv_istore_n (pc := 28) (lv' := [(2, .int v_8), (0, .int p0), (1, .int p1), (3, .int x3_3)]) hx hb dX4_placesOf_28 rfl hl (by decide) rfl (fun ls hl => ?_)
          refine lv_goto (pc := 29) (tgt := 35) hx hb dX4_placesOf_29 (by decide) ?_
          obtain ⟨v_9, ev_9⟩ : ∃ y : Int32, y = x3_3 + 1 := ⟨_, rfl⟩
          have hp := hp v_9 ev_9
          refine lv_iinc (pc := 35) (v := v_9) (lv' := [(3, .int v_9), (2, .int v_8), (0, .int p0), (1, .int p1)]) hx hb dX4_placesOf_35 hl (k := 3) rfl (by rw [ev_9]; rfl) (by decide) rfl (fun ls hl => ?_)
          refine lv_goto (pc := 38) (tgt := 4) hx hb dX4_placesOf_38 (by decide) ?_
          obtain ⟨k9, hlt9, hp⟩ := hp
          exact ih_1 k9 hlt9 _ _ _ _ _ hp hH (lv_sub hl [2, 3, 1, 0] rfl)
  exact kl_1 k0_1 _ _ _ _ _ h0_1 hH (lv_sub hl [2, 3, 1, 0] rfl)
theorem dX4_fixedOf_0 : decode cX4_fixedOf 0 = .ok (.iconst 0, 1) := by decide +kernel
theorem dX4_fixedOf_1 : decode cX4_fixedOf 1 = .ok (.istore_n 2, 1) := by decide +kernel
theorem dX4_fixedOf_2 : decode cX4_fixedOf 2 = .ok (.iconst 0, 1) := by decide +kernel
theorem dX4_fixedOf_3 : decode cX4_fixedOf 3 = .ok (.istore_n 3, 1) := by decide +kernel
theorem dX4_fixedOf_4 : decode cX4_fixedOf 4 = .ok (.iload_n 3, 1) := by decide +kernel
theorem dX4_fixedOf_5 : decode cX4_fixedOf 5 = .ok (.iload_n 1, 1) := by decide +kernel
theorem dX4_fixedOf_6 : decode cX4_fixedOf 6 = .ok (.if_icmp .ge 24, 3) := by decide +kernel
theorem dX4_fixedOf_9 : decode cX4_fixedOf 9 = .ok (.iload_n 0, 1) := by decide +kernel
theorem dX4_fixedOf_10 : decode cX4_fixedOf 10 = .ok (.iload_n 3, 1) := by decide +kernel
theorem dX4_fixedOf_11 : decode cX4_fixedOf 11 = .ok (.invokestatic 37, 3) := by decide +kernel
theorem dX4_fixedOf_14 : decode cX4_fixedOf 14 = .ok (.iload_n 3, 1) := by decide +kernel
theorem dX4_fixedOf_15 : decode cX4_fixedOf 15 = .ok (.if_icmp .ne 9, 3) := by decide +kernel
theorem dX4_fixedOf_18 : decode cX4_fixedOf 18 = .ok (.iload_n 2, 1) := by decide +kernel
theorem dX4_fixedOf_19 : decode cX4_fixedOf 19 = .ok (.iconst 1, 1) := by decide +kernel
theorem dX4_fixedOf_20 : decode cX4_fixedOf 20 = .ok (.iload_n 3, 1) := by decide +kernel
theorem dX4_fixedOf_21 : decode cX4_fixedOf 21 = .ok (.ishl, 1) := by decide +kernel
theorem dX4_fixedOf_22 : decode cX4_fixedOf 22 = .ok (.ior, 1) := by decide +kernel
theorem dX4_fixedOf_23 : decode cX4_fixedOf 23 = .ok (.istore_n 2, 1) := by decide +kernel
theorem dX4_fixedOf_24 : decode cX4_fixedOf 24 = .ok (.iinc 3 1, 3) := by decide +kernel
theorem dX4_fixedOf_27 : decode cX4_fixedOf 27 = .ok (.goto (-23), 3) := by decide +kernel
theorem dX4_fixedOf_30 : decode cX4_fixedOf 30 = .ok (.iload_n 2, 1) := by decide +kernel
theorem dX4_fixedOf_31 : decode cX4_fixedOf 31 = .ok (.ireturn, 1) := by decide +kernel
theorem mi_X4_fixedOf : MI yX4_fixedOf cX4_fixedOf 4 (some FieldType.int) 2 := ⟨w_993, w_114, by decide +kernel, by decide +kernel, by decide +kernel⟩
set_option maxRecDepth 100000 in
set_option maxHeartbeats 4000000 in
theorem C_X4_fixedOf (G : GG) (l : Launch) (p0 : Int32) (p1 : Int32) (S : St) (Q : Int32 → Prop) (hp : P_X4_fixedOf p0 p1 Q) : Ctr G l yX4_fixedOf cX4_fixedOf 4 (some FieldType.int) 1 21 0 0 [.int p0, .int p1] S (fun (v : Option Value) (S9 : St) => ∃ (r : Int32), v = some (.int r) ∧ S9 = S ∧ Q r ) := by
  generalize hQQ : (fun (v : Option Value) (S9 : St) => ∃ (r : Int32), v = some (.int r) ∧ S9 = S ∧ Q r ) = QQ
  unfold P_X4_fixedOf at hp
  refine Ctr.of (by decide) (Nat.le_of_ble_eq_true rfl) ?_
  intro p e s m args below meth c ls B hr hlk hin hl hH
  generalize hlocs0 : ([] : List Loc) = locs at hH ⊢
  have hx := B.1
  have hb := B.2.1
  have hl : lv_has ls 4 [(0, .int p0), (1, .int p1)] := hl
  refine lv_iconst (pc := 0) (v := 0) hx hb dX4_fixedOf_0 (by decide) ?_
  refine lv_istore_n (pc := 1) (lv' := [(2, .int 0), (0, .int p0), (1, .int p1)]) hx hb dX4_fixedOf_1 rfl hl (by decide) rfl (fun ls hl => ?_)
  refine lv_iconst (pc := 2) (v := 0) hx hb dX4_fixedOf_2 (by decide) ?_
  refine lv_istore_n (pc := 3) (lv' := [(3, .int 0), (2, .int 0), (0, .int p0), (1, .int p1)]) hx hb dX4_fixedOf_3 rfl hl (by decide) rfl (fun ls hl => ?_)
  obtain ⟨I_1, ⟨k0_1, h0_1⟩, hst_1⟩ := hp
  have kl_1 : ∀ (n_1 : Nat) (x2_2 : Int32) (x3_3 : Int32) (H : Heap) (locs : List Loc) (ls : Array Slot), I_1 n_1 x2_2 x3_3 → Hp G (FA S s.heap.size) s.heap S H locs → lv_has ls 4 [(0, .int p0), (1, .int p1), (2, .int x2_2), (3, .int x3_3)] → Wm G p l e { frames := 1, cells := 0, slots := 0, locals := 21 } s m args below meth c S QQ 0 0 H locs 0 0 (F0 m 4 ls []) := by
    intro n_1
    induction n_1 using Nat.strongRecOn with
    | ind n_1 ih_1 =>
      intro x2_2 x3_3 H locs ls hq9 hH hl
      have hp := hst_1 n_1 x2_2 x3_3 hq9
      refine lv_iload_n (pc := 4) hx hb dX4_fixedOf_4 rfl (lv_at hl 3 rfl) ?_
      refine lv_iload_n (pc := 5) hx hb dX4_fixedOf_5 rfl (lv_at hl 1 rfl) ?_
      refine lv_icmp_ge (pc := 6) (tgt := 30) hx hb dX4_fixedOf_6 (by decide) (fun cc_4 => ?_) (fun cc_4 => ?_)
      · have hp := hp.1 cc_4
        refine lv_iload_n (pc := 30) hx hb dX4_fixedOf_30 rfl (lv_at hl 2 rfl) ?_
        exact sx_iret (pc := 31) B hH hr hlk (by rw [← hQQ]; exact ⟨_, rfl, rfl, hp⟩) (Nat.le_of_ble_eq_true rfl) (Nat.le_of_ble_eq_true rfl) dX4_fixedOf_31
      · have hp := hp.2 cc_4
        refine lv_iload_n (pc := 9) hx hb dX4_fixedOf_9 rfl (lv_at hl 0 rfl) ?_
        refine lv_iload_n (pc := 10) hx hb dX4_fixedOf_10 rfl (lv_at hl 3 rfl) ?_
        refine sx_S (pc := 11) (As := [.int p0, .int x3_3]) (rest := []) B hH hl.1 (C_X4_bellAt G l p0 x3_3 _ _ hp) mi_X4_bellAt w_873 w_945 rfl rfl ⟨Nat.le_of_ble_eq_true rfl, Nat.le_of_ble_eq_true rfl⟩ (Nat.le_of_ble_eq_true rfl) ⟨Nat.le_of_ble_eq_true rfl, Nat.le_of_ble_eq_true rfl⟩ dX4_fixedOf_11 (fun v S1 H locs hq hH => ?_)
        obtain ⟨r_5, rfl, e9, hp⟩ := hq
        rw [e9] at hH
        refine W.eq (g2 := F0 m 14 ls [.int r_5]) rfl ?_
        refine lv_iload_n (pc := 14) hx hb dX4_fixedOf_14 rfl (lv_at hl 3 rfl) ?_
        refine lv_icmp_ne (pc := 15) (tgt := 24) hx hb dX4_fixedOf_15 (by decide) (fun cc_6 => ?_) (fun cc_6 => ?_)
        · have hp := hp.1 cc_6
          obtain ⟨v_7, ev_7⟩ : ∃ y : Int32, y = x3_3 + 1 := ⟨_, rfl⟩
          have hp := hp v_7 ev_7
          refine lv_iinc (pc := 24) (v := v_7) (lv' := [(3, .int v_7), (0, .int p0), (1, .int p1), (2, .int x2_2)]) hx hb dX4_fixedOf_24 hl (k := 3) rfl (by rw [ev_7]; rfl) (by decide) rfl (fun ls hl => ?_)
          refine lv_goto (pc := 27) (tgt := 4) hx hb dX4_fixedOf_27 (by decide) ?_
          obtain ⟨k9, hlt9, hp⟩ := hp
          exact ih_1 k9 hlt9 _ _ _ _ _ hp hH (lv_sub hl [1, 2, 3, 0] rfl)
        · have hp := hp.2 cc_6
          refine lv_iload_n (pc := 18) hx hb dX4_fixedOf_18 rfl (lv_at hl 2 rfl) ?_
          refine lv_iconst (pc := 19) (v := 1) hx hb dX4_fixedOf_19 (by decide) ?_
          refine lv_iload_n (pc := 20) hx hb dX4_fixedOf_20 rfl (lv_at hl 3 rfl) ?_
          refine lv_ishl (pc := 21) hx hb dX4_fixedOf_21 ?_
          refine W.eq (g2 := F0 m 22 ls [.int (shl 1 x3_3), .int x2_2]) rfl ?_
          refine lv_ior (pc := 22) hx hb dX4_fixedOf_22 ?_
          refine lv_topi (fun v_8 ev_8 => ?_)
          have hp := hp v_8 ev_8
          refine lv_istore_n (pc := 23) (lv' := [(2, .int v_8), (0, .int p0), (1, .int p1), (3, .int x3_3)]) hx hb dX4_fixedOf_23 rfl hl (by decide) rfl (fun ls hl => ?_)
          obtain ⟨v_9, ev_9⟩ : ∃ y : Int32, y = x3_3 + 1 := ⟨_, rfl⟩
          have hp := hp v_9 ev_9
          refine lv_iinc (pc := 24) (v := v_9) (lv' := [(3, .int v_9), (2, .int v_8), (0, .int p0), (1, .int p1)]) hx hb dX4_fixedOf_24 hl (k := 3) rfl (by rw [ev_9]; rfl) (by decide) rfl (fun ls hl => ?_)
          refine lv_goto (pc := 27) (tgt := 4) hx hb dX4_fixedOf_27 (by decide) ?_
          obtain ⟨k9, hlt9, hp⟩ := hp
          exact ih_1 k9 hlt9 _ _ _ _ _ hp hH (lv_sub hl [2, 3, 1, 0] rfl)
  exact kl_1 k0_1 _ _ _ _ _ h0_1 hH (lv_sub hl [2, 3, 1, 0] rfl)
theorem dJ7_fill_53178_0 : decode cJ7_fill_53178 0 = .ok (.iconst 0, 1) := by decide +kernel
theorem dJ7_fill_53178_1 : decode cJ7_fill_53178 1 = .ok (.istore_n 2, 1) := by decide +kernel
theorem dJ7_fill_53178_2 : decode cJ7_fill_53178 2 = .ok (.aload_n 0, 1) := by decide +kernel
theorem dJ7_fill_53178_3 : decode cJ7_fill_53178 3 = .ok (.arraylength, 1) := by decide +kernel
theorem dJ7_fill_53178_4 : decode cJ7_fill_53178 4 = .ok (.istore_n 3, 1) := by decide +kernel
theorem dJ7_fill_53178_5 : decode cJ7_fill_53178 5 = .ok (.iload_n 2, 1) := by decide +kernel
theorem dJ7_fill_53178_6 : decode cJ7_fill_53178 6 = .ok (.iload_n 3, 1) := by decide +kernel
theorem dJ7_fill_53178_7 : decode cJ7_fill_53178 7 = .ok (.if_icmp .ge 13, 3) := by decide +kernel
theorem dJ7_fill_53178_10 : decode cJ7_fill_53178 10 = .ok (.aload_n 0, 1) := by decide +kernel
theorem dJ7_fill_53178_11 : decode cJ7_fill_53178 11 = .ok (.iload_n 2, 1) := by decide +kernel
theorem dJ7_fill_53178_12 : decode cJ7_fill_53178 12 = .ok (.iload_n 1, 1) := by decide +kernel
theorem dJ7_fill_53178_13 : decode cJ7_fill_53178 13 = .ok (.iastore, 1) := by decide +kernel
theorem dJ7_fill_53178_14 : decode cJ7_fill_53178 14 = .ok (.iinc 2 1, 3) := by decide +kernel
theorem dJ7_fill_53178_17 : decode cJ7_fill_53178 17 = .ok (.goto (-12), 3) := by decide +kernel
theorem dJ7_fill_53178_20 : decode cJ7_fill_53178 20 = .ok (.return_, 1) := by decide +kernel
theorem mi_J7_fill_53178 : MI yJ7_fill_53178 cJ7_fill_53178 4 (none : Option Jvm.ClassFile.FieldType) 2 := ⟨w_1206, w_122, by decide +kernel, by decide +kernel, by decide +kernel⟩
set_option maxRecDepth 100000 in
set_option maxHeartbeats 4000000 in
theorem C_J7_fill_53178 (G : GG) (l : Launch) (p0 : Nat) (p1 : Int32) (S : St) (Q : (Nat → Nat → Int32) → Prop) (hp : P_J7_fill_53178 p0 p1 S Q) : Ctr G l yJ7_fill_53178 cJ7_fill_53178 4 (none : Option Jvm.ClassFile.FieldType) 0 0 0 0 [.ref p0, .int p1] S (fun (v : Option Value) (S9 : St) => ∃ (I9 : Nat → Nat → Int32), v = none ∧ S9 = wI S I9 ∧ Q I9) := by
  generalize hQQ : (fun (v : Option Value) (S9 : St) => ∃ (I9 : Nat → Nat → Int32), v = none ∧ S9 = wI S I9 ∧ Q I9) = QQ
  unfold P_J7_fill_53178 at hp
  refine Ctr.of (by decide) (Nat.le_of_ble_eq_true rfl) ?_
  intro p e s m args below meth c ls B hr hlk hin hl hH
  generalize hlocs0 : ([] : List Loc) = locs at hH ⊢
  have hx := B.1
  have hb := B.2.1
  have hl : lv_has ls 4 [(0, .ref p0), (1, .int p1)] := hl
  refine lv_iconst (pc := 0) (v := 0) hx hb dJ7_fill_53178_0 (by decide) ?_
  refine lv_istore_n (pc := 1) (lv' := [(2, .int 0), (0, .ref p0), (1, .int p1)]) hx hb dJ7_fill_53178_1 rfl hl (by decide) rfl (fun ls hl => ?_)
  refine lv_aload_n (pc := 2) hx hb dJ7_fill_53178_2 rfl (lv_at hl 1 rfl) ?_
  obtain ⟨hk_1, hp⟩ := hp
  refine sx_alen (pc := 3) B hH hk_1 (by decide) (by decide) dJ7_fill_53178_3 ?_
  refine W.eq (g2 := F0 m 4 ls [.int (nI (ln S p0))]) rfl ?_
  refine lv_topi (fun v_2 ev_2 => ?_)
  have hp := hp v_2 ev_2
  refine lv_istore_n (pc := 4) (lv' := [(3, .int v_2), (2, .int 0), (0, .ref p0), (1, .int p1)]) hx hb dJ7_fill_53178_4 rfl hl (by decide) rfl (fun ls hl => ?_)
  obtain ⟨I_3, ⟨k0_3, h0_3⟩, hst_3⟩ := hp
  have kl_3 : ∀ (n_3 : Nat) (x2_4 : Int32) (F_5 : Nat → Nat → Int32) (H : Heap) (locs : List Loc) (ls : Array Slot), I_3 n_3 x2_4 F_5 → Hp G (FA S s.heap.size) s.heap (wI S F_5) H locs → lv_has ls 4 [(0, .ref p0), (1, .int p1), (2, .int x2_4), (3, .int v_2)] → Wm G p l e { frames := 0, cells := 0, slots := 0, locals := 0 } s m args below meth c S QQ 0 0 H locs 0 0 (F0 m 5 ls []) := by
    intro n_3
    induction n_3 using Nat.strongRecOn with
    | ind n_3 ih_3 =>
      intro x2_4 F_5 H locs ls hq9 hH hl
      have hp := hst_3 n_3 x2_4 F_5 hq9
      refine lv_iload_n (pc := 5) hx hb dJ7_fill_53178_5 rfl (lv_at hl 2 rfl) ?_
      refine lv_iload_n (pc := 6) hx hb dJ7_fill_53178_6 rfl (lv_at hl 3 rfl) ?_
      refine lv_icmp_ge (pc := 7) (tgt := 20) hx hb dJ7_fill_53178_7 (by decide) (fun cc_6 => ?_) (fun cc_6 => ?_)
      · have hp := hp.1 cc_6
        exact sx_vret (pc := 20) B hH hr hlk (by rw [← hQQ]; exact ⟨F_5, rfl, rfl, hp⟩) (Nat.le_of_ble_eq_true rfl) (Nat.le_of_ble_eq_true rfl) dJ7_fill_53178_20
      · have hp := hp.2 cc_6
        refine lv_aload_n (pc := 10) hx hb dJ7_fill_53178_10 rfl (lv_at hl 0 rfl) ?_
        refine lv_iload_n (pc := 11) hx hb dJ7_fill_53178_11 rfl (lv_at hl 2 rfl) ?_
        refine lv_iload_n (pc := 12) hx hb dJ7_fill_53178_12 rfl (lv_at hl 1 rfl) ?_
        obtain ⟨hn_7, hp⟩ := hp
        obtain ⟨F_8, eF_8⟩ : ∃ z : Nat → Nat → Int32, z = upI F_5 p0 x2_4.toNatClampNeg p1 := ⟨_, rfl⟩
        have hp := hp F_8 eF_8
        refine sx_iast (pc := 13) B hH hk_1 hn_7 dJ7_fill_53178_13 (fun H locs hH => ?_)
        have hH : Hp G (FA S s.heap.size) s.heap (wI S F_8) H locs := by rw [eF_8]; exact hH
        obtain ⟨v_9, ev_9⟩ : ∃ y : Int32, y = x2_4 + 1 := ⟨_, rfl⟩
        have hp := hp v_9 ev_9
        refine lv_iinc (pc := 14) (v := v_9) (lv' := [(2, .int v_9), (0, .ref p0), (1, .int p1), (3, .int v_2)]) hx hb dJ7_fill_53178_14 hl (k := 2) rfl (by rw [ev_9]; rfl) (by decide) rfl (fun ls hl => ?_)
        refine lv_goto (pc := 17) (tgt := 5) hx hb dJ7_fill_53178_17 (by decide) ?_
        obtain ⟨k9, hlt9, hp⟩ := hp
        exact ih_3 k9 hlt9 _ _ _ _ _ hp hH (lv_sub hl [1, 2, 0, 3] rfl)
  exact kl_3 k0_3 _ _ _ _ _ h0_3 hH (lv_sub hl [2, 3, 1, 0] rfl)
