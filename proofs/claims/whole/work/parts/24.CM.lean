theorem dX12_init_0 : decode cX12_init 0 = .ok (.aload_n 0, 1) := by decide +kernel
theorem dX12_init_1 : decode cX12_init 1 = .ok (.invokespecial 1, 3) := by decide +kernel
theorem dX12_init_4 : decode cX12_init 4 = .ok (.aload_n 0, 1) := by decide +kernel
theorem dX12_init_5 : decode cX12_init 5 = .ok (.sipush 12100, 3) := by decide +kernel
theorem dX12_init_8 : decode cX12_init 8 = .ok (.newarray .int, 2) := by decide +kernel
theorem dX12_init_10 : decode cX12_init 10 = .ok (.putfield 7, 3) := by decide +kernel
theorem dX12_init_13 : decode cX12_init 13 = .ok (.aload_n 0, 1) := by decide +kernel
theorem dX12_init_14 : decode cX12_init 14 = .ok (.bipush 70, 2) := by decide +kernel
theorem dX12_init_16 : decode cX12_init 16 = .ok (.newarray .long, 2) := by decide +kernel
theorem dX12_init_18 : decode cX12_init 18 = .ok (.putfield 13, 3) := by decide +kernel
theorem dX12_init_21 : decode cX12_init 21 = .ok (.aload_n 0, 1) := by decide +kernel
theorem dX12_init_22 : decode cX12_init 22 = .ok (.lconst 1, 1) := by decide +kernel
theorem dX12_init_23 : decode cX12_init 23 = .ok (.putfield 17, 3) := by decide +kernel
theorem dX12_init_26 : decode cX12_init 26 = .ok (.aload_n 0, 1) := by decide +kernel
theorem dX12_init_27 : decode cX12_init 27 = .ok (.iconst 4, 1) := by decide +kernel
theorem dX12_init_28 : decode cX12_init 28 = .ok (.newarray .int, 2) := by decide +kernel
theorem dX12_init_30 : decode cX12_init 30 = .ok (.putfield 21, 3) := by decide +kernel
theorem dX12_init_33 : decode cX12_init 33 = .ok (.aload_n 0, 1) := by decide +kernel
theorem dX12_init_34 : decode cX12_init 34 = .ok (.iconst 4, 1) := by decide +kernel
theorem dX12_init_35 : decode cX12_init 35 = .ok (.newarray .int, 2) := by decide +kernel
theorem dX12_init_37 : decode cX12_init 37 = .ok (.dup, 1) := by decide +kernel
theorem dX12_init_38 : decode cX12_init 38 = .ok (.iconst 0, 1) := by decide +kernel
theorem dX12_init_39 : decode cX12_init 39 = .ok (.iconst (-1), 1) := by decide +kernel
theorem dX12_init_40 : decode cX12_init 40 = .ok (.iastore, 1) := by decide +kernel
theorem dX12_init_41 : decode cX12_init 41 = .ok (.dup, 1) := by decide +kernel
theorem dX12_init_42 : decode cX12_init 42 = .ok (.iconst 1, 1) := by decide +kernel
theorem dX12_init_43 : decode cX12_init 43 = .ok (.iconst (-1), 1) := by decide +kernel
theorem dX12_init_44 : decode cX12_init 44 = .ok (.iastore, 1) := by decide +kernel
theorem dX12_init_45 : decode cX12_init 45 = .ok (.dup, 1) := by decide +kernel
theorem dX12_init_46 : decode cX12_init 46 = .ok (.iconst 2, 1) := by decide +kernel
theorem dX12_init_47 : decode cX12_init 47 = .ok (.iconst (-1), 1) := by decide +kernel
theorem dX12_init_48 : decode cX12_init 48 = .ok (.iastore, 1) := by decide +kernel
theorem dX12_init_49 : decode cX12_init 49 = .ok (.dup, 1) := by decide +kernel
theorem dX12_init_50 : decode cX12_init 50 = .ok (.iconst 3, 1) := by decide +kernel
theorem dX12_init_51 : decode cX12_init 51 = .ok (.iconst (-1), 1) := by decide +kernel
theorem dX12_init_52 : decode cX12_init 52 = .ok (.iastore, 1) := by decide +kernel
theorem dX12_init_53 : decode cX12_init 53 = .ok (.putfield 24, 3) := by decide +kernel
theorem dX12_init_56 : decode cX12_init 56 = .ok (.aload_n 0, 1) := by decide +kernel
theorem dX12_init_57 : decode cX12_init 57 = .ok (.sipush 240, 3) := by decide +kernel
theorem dX12_init_60 : decode cX12_init 60 = .ok (.newarray .long, 2) := by decide +kernel
theorem dX12_init_62 : decode cX12_init 62 = .ok (.putfield 27, 3) := by decide +kernel
theorem dX12_init_65 : decode cX12_init 65 = .ok (.aload_n 0, 1) := by decide +kernel
theorem dX12_init_66 : decode cX12_init 66 = .ok (.sipush 900, 3) := by decide +kernel
theorem dX12_init_69 : decode cX12_init 69 = .ok (.newarray .byte, 2) := by decide +kernel
theorem dX12_init_71 : decode cX12_init 71 = .ok (.putfield 30, 3) := by decide +kernel
theorem dX12_init_74 : decode cX12_init 74 = .ok (.aload_n 0, 1) := by decide +kernel
theorem dX12_init_75 : decode cX12_init 75 = .ok (.sipush 900, 3) := by decide +kernel
theorem dX12_init_78 : decode cX12_init 78 = .ok (.newarray .byte, 2) := by decide +kernel
theorem dX12_init_80 : decode cX12_init 80 = .ok (.putfield 34, 3) := by decide +kernel
theorem dX12_init_83 : decode cX12_init 83 = .ok (.aload_n 0, 1) := by decide +kernel
theorem dX12_init_84 : decode cX12_init 84 = .ok (.iconst (-1), 1) := by decide +kernel
theorem dX12_init_85 : decode cX12_init 85 = .ok (.putfield 37, 3) := by decide +kernel
theorem dX12_init_88 : decode cX12_init 88 = .ok (.aload_n 0, 1) := by decide +kernel
theorem dX12_init_89 : decode cX12_init 89 = .ok (.iconst (-1), 1) := by decide +kernel
theorem dX12_init_90 : decode cX12_init 90 = .ok (.putfield 41, 3) := by decide +kernel
theorem dX12_init_93 : decode cX12_init 93 = .ok (.aload_n 0, 1) := by decide +kernel
theorem dX12_init_94 : decode cX12_init 94 = .ok (.iconst 3, 1) := by decide +kernel
theorem dX12_init_95 : decode cX12_init 95 = .ok (.newarray .int, 2) := by decide +kernel
theorem dX12_init_97 : decode cX12_init 97 = .ok (.putfield 44, 3) := by decide +kernel
theorem dX12_init_100 : decode cX12_init 100 = .ok (.aload_n 0, 1) := by decide +kernel
theorem dX12_init_101 : decode cX12_init 101 = .ok (.bipush 8, 2) := by decide +kernel
theorem dX12_init_103 : decode cX12_init 103 = .ok (.newarray .int, 2) := by decide +kernel
theorem dX12_init_105 : decode cX12_init 105 = .ok (.putfield 47, 3) := by decide +kernel
theorem dX12_init_108 : decode cX12_init 108 = .ok (.aload_n 0, 1) := by decide +kernel
theorem dX12_init_109 : decode cX12_init 109 = .ok (.bipush 8, 2) := by decide +kernel
theorem dX12_init_111 : decode cX12_init 111 = .ok (.newarray .int, 2) := by decide +kernel
theorem dX12_init_113 : decode cX12_init 113 = .ok (.putfield 50, 3) := by decide +kernel
theorem dX12_init_116 : decode cX12_init 116 = .ok (.aload_n 0, 1) := by decide +kernel
theorem dX12_init_117 : decode cX12_init 117 = .ok (.bipush 8, 2) := by decide +kernel
theorem dX12_init_119 : decode cX12_init 119 = .ok (.newarray .int, 2) := by decide +kernel
theorem dX12_init_121 : decode cX12_init 121 = .ok (.putfield 53, 3) := by decide +kernel
theorem dX12_init_124 : decode cX12_init 124 = .ok (.aload_n 0, 1) := by decide +kernel
theorem dX12_init_125 : decode cX12_init 125 = .ok (.bipush 32, 2) := by decide +kernel
theorem dX12_init_127 : decode cX12_init 127 = .ok (.newarray .int, 2) := by decide +kernel
theorem dX12_init_129 : decode cX12_init 129 = .ok (.putfield 56, 3) := by decide +kernel
theorem dX12_init_132 : decode cX12_init 132 = .ok (.aload_n 0, 1) := by decide +kernel
theorem dX12_init_133 : decode cX12_init 133 = .ok (.bipush 32, 2) := by decide +kernel
theorem dX12_init_135 : decode cX12_init 135 = .ok (.newarray .int, 2) := by decide +kernel
theorem dX12_init_137 : decode cX12_init 137 = .ok (.putfield 59, 3) := by decide +kernel
theorem dX12_init_140 : decode cX12_init 140 = .ok (.aload_n 0, 1) := by decide +kernel
theorem dX12_init_141 : decode cX12_init 141 = .ok (.ldc 62, 2) := by decide +kernel
theorem dX12_init_143 : decode cX12_init 143 = .ok (.newarray .int, 2) := by decide +kernel
theorem dX12_init_145 : decode cX12_init 145 = .ok (.putfield 63, 3) := by decide +kernel
theorem dX12_init_148 : decode cX12_init 148 = .ok (.aload_n 0, 1) := by decide +kernel
theorem dX12_init_149 : decode cX12_init 149 = .ok (.bipush 80, 2) := by decide +kernel
theorem dX12_init_151 : decode cX12_init 151 = .ok (.newarray .int, 2) := by decide +kernel
theorem dX12_init_153 : decode cX12_init 153 = .ok (.putfield 66, 3) := by decide +kernel
theorem dX12_init_156 : decode cX12_init 156 = .ok (.aload_n 0, 1) := by decide +kernel
theorem dX12_init_157 : decode cX12_init 157 = .ok (.sipush 2001, 3) := by decide +kernel
theorem dX12_init_160 : decode cX12_init 160 = .ok (.newarray .int, 2) := by decide +kernel
theorem dX12_init_162 : decode cX12_init 162 = .ok (.putfield 69, 3) := by decide +kernel
theorem dX12_init_165 : decode cX12_init 165 = .ok (.aload_n 0, 1) := by decide +kernel
theorem dX12_init_166 : decode cX12_init 166 = .ok (.ldc 62, 2) := by decide +kernel
theorem dX12_init_168 : decode cX12_init 168 = .ok (.newarray .int, 2) := by decide +kernel
theorem dX12_init_170 : decode cX12_init 170 = .ok (.putfield 72, 3) := by decide +kernel
theorem dX12_init_173 : decode cX12_init 173 = .ok (.aload_n 0, 1) := by decide +kernel
theorem dX12_init_174 : decode cX12_init 174 = .ok (.ldc 62, 2) := by decide +kernel
theorem dX12_init_176 : decode cX12_init 176 = .ok (.newarray .int, 2) := by decide +kernel
theorem dX12_init_178 : decode cX12_init 178 = .ok (.putfield 75, 3) := by decide +kernel
theorem dX12_init_181 : decode cX12_init 181 = .ok (.aload_n 0, 1) := by decide +kernel
theorem dX12_init_182 : decode cX12_init 182 = .ok (.ldc 62, 2) := by decide +kernel
theorem dX12_init_184 : decode cX12_init 184 = .ok (.newarray .int, 2) := by decide +kernel
theorem dX12_init_186 : decode cX12_init 186 = .ok (.putfield 78, 3) := by decide +kernel
theorem dX12_init_189 : decode cX12_init 189 = .ok (.aload_n 0, 1) := by decide +kernel
theorem dX12_init_190 : decode cX12_init 190 = .ok (.ldc 62, 2) := by decide +kernel
theorem dX12_init_192 : decode cX12_init 192 = .ok (.newarray .int, 2) := by decide +kernel
theorem dX12_init_194 : decode cX12_init 194 = .ok (.putfield 81, 3) := by decide +kernel
theorem dX12_init_197 : decode cX12_init 197 = .ok (.aload_n 0, 1) := by decide +kernel
theorem dX12_init_198 : decode cX12_init 198 = .ok (.iconst (-1), 1) := by decide +kernel
theorem dX12_init_199 : decode cX12_init 199 = .ok (.putfield 84, 3) := by decide +kernel
theorem dX12_init_202 : decode cX12_init 202 = .ok (.aload_n 0, 1) := by decide +kernel
theorem dX12_init_203 : decode cX12_init 203 = .ok (.bipush 9, 2) := by decide +kernel
theorem dX12_init_205 : decode cX12_init 205 = .ok (.newarray .int, 2) := by decide +kernel
theorem dX12_init_207 : decode cX12_init 207 = .ok (.putfield 87, 3) := by decide +kernel
theorem dX12_init_210 : decode cX12_init 210 = .ok (.aload_n 0, 1) := by decide +kernel
theorem dX12_init_211 : decode cX12_init 211 = .ok (.bipush 8, 2) := by decide +kernel
theorem dX12_init_213 : decode cX12_init 213 = .ok (.newarray .int, 2) := by decide +kernel
theorem dX12_init_215 : decode cX12_init 215 = .ok (.putfield 90, 3) := by decide +kernel
theorem dX12_init_218 : decode cX12_init 218 = .ok (.aload_n 0, 1) := by decide +kernel
theorem dX12_init_219 : decode cX12_init 219 = .ok (.bipush 9, 2) := by decide +kernel
theorem dX12_init_221 : decode cX12_init 221 = .ok (.newarray .int, 2) := by decide +kernel
theorem dX12_init_223 : decode cX12_init 223 = .ok (.putfield 93, 3) := by decide +kernel
theorem dX12_init_226 : decode cX12_init 226 = .ok (.aload_n 0, 1) := by decide +kernel
theorem dX12_init_227 : decode cX12_init 227 = .ok (.sipush 257, 3) := by decide +kernel
theorem dX12_init_230 : decode cX12_init 230 = .ok (.newarray .int, 2) := by decide +kernel
theorem dX12_init_232 : decode cX12_init 232 = .ok (.putfield 96, 3) := by decide +kernel
theorem dX12_init_235 : decode cX12_init 235 = .ok (.aload_n 0, 1) := by decide +kernel
theorem dX12_init_236 : decode cX12_init 236 = .ok (.getfield 7, 3) := by decide +kernel
theorem dX12_init_239 : decode cX12_init 239 = .ok (.iconst 0, 1) := by decide +kernel
theorem dX12_init_240 : decode cX12_init 240 = .ok (.iconst 4, 1) := by decide +kernel
theorem dX12_init_241 : decode cX12_init 241 = .ok (.iastore, 1) := by decide +kernel
theorem dX12_init_242 : decode cX12_init 242 = .ok (.aload_n 0, 1) := by decide +kernel
theorem dX12_init_243 : decode cX12_init 243 = .ok (.getfield 7, 3) := by decide +kernel
theorem dX12_init_246 : decode cX12_init 246 = .ok (.iconst 4, 1) := by decide +kernel
theorem dX12_init_247 : decode cX12_init 247 = .ok (.iconst (-1), 1) := by decide +kernel
theorem dX12_init_248 : decode cX12_init 248 = .ok (.iastore, 1) := by decide +kernel
theorem dX12_init_249 : decode cX12_init 249 = .ok (.aload_n 0, 1) := by decide +kernel
theorem dX12_init_250 : decode cX12_init 250 = .ok (.getfield 7, 3) := by decide +kernel
theorem dX12_init_253 : decode cX12_init 253 = .ok (.bipush 6, 2) := by decide +kernel
theorem dX12_init_255 : decode cX12_init 255 = .ok (.iconst (-1), 1) := by decide +kernel
theorem dX12_init_256 : decode cX12_init 256 = .ok (.iastore, 1) := by decide +kernel
theorem dX12_init_257 : decode cX12_init 257 = .ok (.return_, 1) := by decide +kernel
theorem mi_X12_init : MI yX12_init cX12_init 1 (none : Option Jvm.ClassFile.FieldType) 0 := ⟨w_1301, w_118, by decide +kernel, by decide +kernel, by decide +kernel⟩
set_option maxRecDepth 100000 in
set_option maxHeartbeats 4000000 in
theorem C_X12_init (G : GG) (l : Launch) (th : Nat) (S : St) (bc bs : Nat) (Q : St → Prop) (hp : P_X12_init th S bc bs Q) : Ctr G l yX12_init cX12_init 1 (none : Option Jvm.ClassFile.FieldType) 1 20 bc bs [.ref th] S (fun (v : Option Value) (S9 : St) => v = none ∧ Q S9) := by
  generalize hQQ : (fun (v : Option Value) (S9 : St) => v = none ∧ Q S9) = QQ
  unfold P_X12_init at hp
  refine Ctr.of (by decide) (Nat.le_of_ble_eq_true rfl) ?_
  intro p e s m args below meth c ls B hr hlk hin hl hH
  generalize hlocs0 : ([] : List Loc) = locs at hH ⊢
  have hx := B.1
  have hb := B.2.1
  have hl : lv_has ls 1 [(0, .ref th)] := hl
  obtain ⟨hk_th, hp⟩ := hp
  refine lv_aload_n (pc := 0) hx hb dX12_init_0 rfl (lv_at hl 0 rfl) ?_
  refine sx_objInit (pc := 1) (rest := []) B hl.1 w_1302 w_131 w_obj (Nat.le_of_ble_eq_true rfl) (Nat.le_of_ble_eq_true rfl) dX12_init_1 ?_
  refine W.eq (g2 := F0 m 4 ls []) rfl ?_
  refine lv_aload_n (pc := 4) hx hb dX12_init_4 rfl (lv_at hl 0 rfl) ?_
  refine lv_sipush (pc := 5) (v := 12100) hx hb dX12_init_5 (by decide) ?_
  obtain ⟨hc_2, hp⟩ := hp
  obtain ⟨hc_3, hp⟩ := hp
  refine sx_newi (pc := 8) (S := S) B hH w_294 (by decide) (by decide) (by decide) (show _ + 1 ≤ bc by omega) (show _ + 12100 ≤ bs by first | omega | exact (by omega : _ + 12100 ≤ bs)) dX12_init_8 (fun q_1 H hq_1 hH => ?_)
  obtain ⟨S_1, eS_1⟩ : ∃ z : St, z = alo S q_1 21 12100 := ⟨_, rfl⟩
  have hp := hp q_1 hq_1 S_1 eS_1
  have hH : Hp G (FA S s.heap.size) s.heap S_1 H locs := by rw [eS_1]; exact hH
  have hk_1 : kd S_1 q_1 = 21 := by rw [eS_1]; exact kd_alo
  refine W.eq (g2 := F0 m 10 ls [.ref q_1, .ref th]) rfl ?_
  obtain ⟨hk_4, hp⟩ := hp
  obtain ⟨R_5, eR_5⟩ : ∃ z : Nat → Nat → Option Nat, z = upR (gR S_1) th 0 (some q_1) := ⟨_, rfl⟩
  have hp := hp R_5 eR_5
  refine sx_putR (pc := 10) (j := 0) (x := (some q_1)) B hH hk_4 coX12 rfl w_1304 rfl (Or.inr ⟨rfl, hin, rfl⟩) rfl dX12_init_10 (fun H locs hH => ?_)
  have hH : Hp G (FA S s.heap.size) s.heap (wA S_1 (gI S_1) (gJ S_1) R_5) H locs := by rw [eR_5]; exact hH
  refine lv_aload_n (pc := 13) hx hb dX12_init_13 rfl (lv_at hl 0 rfl) ?_
  refine lv_bipush (pc := 14) (v := 70) hx hb dX12_init_14 (by decide) ?_
  obtain ⟨hc_7, hp⟩ := hp
  obtain ⟨hc_8, hp⟩ := hp
  refine sx_newj (pc := 16) (S := (wA S_1 (gI S_1) (gJ S_1) R_5)) B hH w_248 (by decide) (by decide) (by decide) (show _ + 1 ≤ bc by omega) (show _ + 70 ≤ bs by first | omega | exact (by omega : _ + 70 ≤ bs)) dX12_init_16 (fun q_6 H hq_6 hH => ?_)
  obtain ⟨S_6, eS_6⟩ : ∃ z : St, z = alo (wA S_1 (gI S_1) (gJ S_1) R_5) q_6 22 70 := ⟨_, rfl⟩
  have hp := hp q_6 hq_6 S_6 eS_6
  have hH : Hp G (FA S s.heap.size) s.heap S_6 H locs := by rw [eS_6]; exact hH
  have hk_6 : kd S_6 q_6 = 22 := by rw [eS_6]; exact kd_alo
  refine W.eq (g2 := F0 m 18 ls [.ref q_6, .ref th]) rfl ?_
  obtain ⟨hk_9, hp⟩ := hp
  obtain ⟨R_10, eR_10⟩ : ∃ z : Nat → Nat → Option Nat, z = upR (gR S_6) th 1 (some q_6) := ⟨_, rfl⟩
  have hp := hp R_10 eR_10
  refine sx_putR (pc := 18) (j := 1) (x := (some q_6)) B hH hk_9 coX12 rfl w_1305 rfl (Or.inr ⟨rfl, hin, rfl⟩) rfl dX12_init_18 (fun H locs hH => ?_)
  have hH : Hp G (FA S s.heap.size) s.heap (wA S_6 (gI S_6) (gJ S_6) R_10) H locs := by rw [eR_10]; exact hH
  refine lv_aload_n (pc := 21) hx hb dX12_init_21 rfl (lv_at hl 0 rfl) ?_
  refine lv_lconst (pc := 22) (v := 1) hx hb dX12_init_22 (by decide) ?_
  obtain ⟨J_11, eJ_11⟩ : ∃ z : Nat → Nat → Int64, z = upJ (gJ S_6) th 4 1 := ⟨_, rfl⟩
  have hp := hp J_11 eJ_11
  refine sx_putJ (pc := 23) (j := 4) B hH hk_9 coX12 rfl w_1308 rfl (Or.inl rfl) rfl dX12_init_23 (fun H locs hH => ?_)
  have hH : Hp G (FA S s.heap.size) s.heap (wA S_6 (gI S_6) J_11 R_10) H locs := by rw [eJ_11]; exact hH
  refine lv_aload_n (pc := 26) hx hb dX12_init_26 rfl (lv_at hl 0 rfl) ?_
  refine lv_iconst (pc := 27) (v := 4) hx hb dX12_init_27 (by decide) ?_
  obtain ⟨hc_13, hp⟩ := hp
  obtain ⟨hc_14, hp⟩ := hp
  refine sx_newi (pc := 28) (S := (wA S_6 (gI S_6) J_11 R_10)) B hH w_294 (by decide) (by decide) (by decide) (show _ + 1 ≤ bc by omega) (show _ + 4 ≤ bs by first | omega | exact (by omega : _ + 4 ≤ bs)) dX12_init_28 (fun q_12 H hq_12 hH => ?_)
  obtain ⟨S_12, eS_12⟩ : ∃ z : St, z = alo (wA S_6 (gI S_6) J_11 R_10) q_12 21 4 := ⟨_, rfl⟩
  have hp := hp q_12 hq_12 S_12 eS_12
  have hH : Hp G (FA S s.heap.size) s.heap S_12 H locs := by rw [eS_12]; exact hH
  have hk_12 : kd S_12 q_12 = 21 := by rw [eS_12]; exact kd_alo
  refine W.eq (g2 := F0 m 30 ls [.ref q_12, .ref th]) rfl ?_
  obtain ⟨hk_15, hp⟩ := hp
  obtain ⟨R_16, eR_16⟩ : ∃ z : Nat → Nat → Option Nat, z = upR (gR S_12) th 5 (some q_12) := ⟨_, rfl⟩
  have hp := hp R_16 eR_16
  refine sx_putR (pc := 30) (j := 5) (x := (some q_12)) B hH hk_15 coX12 rfl w_1309 rfl (Or.inr ⟨rfl, hin, rfl⟩) rfl dX12_init_30 (fun H locs hH => ?_)
  have hH : Hp G (FA S s.heap.size) s.heap (wA S_12 (gI S_12) (gJ S_12) R_16) H locs := by rw [eR_16]; exact hH
  refine lv_aload_n (pc := 33) hx hb dX12_init_33 rfl (lv_at hl 0 rfl) ?_
  refine lv_iconst (pc := 34) (v := 4) hx hb dX12_init_34 (by decide) ?_
  obtain ⟨hc_18, hp⟩ := hp
  obtain ⟨hc_19, hp⟩ := hp
  refine sx_newi (pc := 35) (S := (wA S_12 (gI S_12) (gJ S_12) R_16)) B hH w_294 (by decide) (by decide) (by decide) (show _ + 1 ≤ bc by omega) (show _ + 4 ≤ bs by first | omega | exact (by omega : _ + 4 ≤ bs)) dX12_init_35 (fun q_17 H hq_17 hH => ?_)
  obtain ⟨S_17, eS_17⟩ : ∃ z : St, z = alo (wA S_12 (gI S_12) (gJ S_12) R_16) q_17 21 4 := ⟨_, rfl⟩
  have hp := hp q_17 hq_17 S_17 eS_17
  have hH : Hp G (FA S s.heap.size) s.heap S_17 H locs := by rw [eS_17]; exact hH
  have hk_17 : kd S_17 q_17 = 21 := by rw [eS_17]; exact kd_alo
  refine W.eq (g2 := F0 m 37 ls [.ref q_17, .ref th]) rfl ?_
  refine lv_dup (pc := 37) hx hb dX12_init_37 rfl ?_
  refine lv_iconst (pc := 38) (v := 0) hx hb dX12_init_38 (by decide) ?_
  refine lv_iconst (pc := 39) (v := (-1)) hx hb dX12_init_39 (by decide) ?_
  obtain ⟨hn_20, hp⟩ := hp
  obtain ⟨F_21, eF_21⟩ : ∃ z : Nat → Nat → Int32, z = upI (gI S_17) q_17 0 (-1) := ⟨_, rfl⟩
  have hp := hp F_21 eF_21
  refine sx_iast (pc := 40) B hH hk_17 hn_20 dX12_init_40 (fun H locs hH => ?_)
  have hH : Hp G (FA S s.heap.size) s.heap (wI S_17 F_21) H locs := by rw [eF_21]; exact hH
  refine lv_dup (pc := 41) hx hb dX12_init_41 rfl ?_
  refine lv_iconst (pc := 42) (v := 1) hx hb dX12_init_42 (by decide) ?_
  refine lv_iconst (pc := 43) (v := (-1)) hx hb dX12_init_43 (by decide) ?_
  obtain ⟨hn_22, hp⟩ := hp
  obtain ⟨F_23, eF_23⟩ : ∃ z : Nat → Nat → Int32, z = upI F_21 q_17 1 (-1) := ⟨_, rfl⟩
  have hp := hp F_23 eF_23
  refine sx_iast (pc := 44) B hH hk_17 hn_22 dX12_init_44 (fun H locs hH => ?_)
  have hH : Hp G (FA S s.heap.size) s.heap (wI S_17 F_23) H locs := by rw [eF_23]; exact hH
  refine lv_dup (pc := 45) hx hb dX12_init_45 rfl ?_
  refine lv_iconst (pc := 46) (v := 2) hx hb dX12_init_46 (by decide) ?_
  refine lv_iconst (pc := 47) (v := (-1)) hx hb dX12_init_47 (by decide) ?_
  obtain ⟨hn_24, hp⟩ := hp
  obtain ⟨F_25, eF_25⟩ : ∃ z : Nat → Nat → Int32, z = upI F_23 q_17 2 (-1) := ⟨_, rfl⟩
  have hp := hp F_25 eF_25
  refine sx_iast (pc := 48) B hH hk_17 hn_24 dX12_init_48 (fun H locs hH => ?_)
  have hH : Hp G (FA S s.heap.size) s.heap (wI S_17 F_25) H locs := by rw [eF_25]; exact hH
  refine lv_dup (pc := 49) hx hb dX12_init_49 rfl ?_
  refine lv_iconst (pc := 50) (v := 3) hx hb dX12_init_50 (by decide) ?_
  refine lv_iconst (pc := 51) (v := (-1)) hx hb dX12_init_51 (by decide) ?_
  obtain ⟨hn_26, hp⟩ := hp
  obtain ⟨F_27, eF_27⟩ : ∃ z : Nat → Nat → Int32, z = upI F_25 q_17 3 (-1) := ⟨_, rfl⟩
  have hp := hp F_27 eF_27
  refine sx_iast (pc := 52) B hH hk_17 hn_26 dX12_init_52 (fun H locs hH => ?_)
  have hH : Hp G (FA S s.heap.size) s.heap (wI S_17 F_27) H locs := by rw [eF_27]; exact hH
  obtain ⟨hk_28, hp⟩ := hp
  obtain ⟨R_29, eR_29⟩ : ∃ z : Nat → Nat → Option Nat, z = upR (gR S_17) th 6 (some q_17) := ⟨_, rfl⟩
  have hp := hp R_29 eR_29
  refine sx_putR (pc := 53) (j := 6) (x := (some q_17)) B hH hk_28 coX12 rfl w_1310 rfl (Or.inr ⟨rfl, hin, rfl⟩) rfl dX12_init_53 (fun H locs hH => ?_)
  have hH : Hp G (FA S s.heap.size) s.heap (wA S_17 F_27 (gJ S_17) R_29) H locs := by rw [eR_29]; exact hH
  refine lv_aload_n (pc := 56) hx hb dX12_init_56 rfl (lv_at hl 0 rfl) ?_
  refine lv_sipush (pc := 57) (v := 240) hx hb dX12_init_57 (by decide) ?_
  obtain ⟨hc_31, hp⟩ := hp
  obtain ⟨hc_32, hp⟩ := hp
  refine sx_newj (pc := 60) (S := (wA S_17 F_27 (gJ S_17) R_29)) B hH w_248 (by decide) (by decide) (by decide) (show _ + 1 ≤ bc by omega) (show _ + 240 ≤ bs by first | omega | exact (by omega : _ + 240 ≤ bs)) dX12_init_60 (fun q_30 H hq_30 hH => ?_)
  obtain ⟨S_30, eS_30⟩ : ∃ z : St, z = alo (wA S_17 F_27 (gJ S_17) R_29) q_30 22 240 := ⟨_, rfl⟩
  have hp := hp q_30 hq_30 S_30 eS_30
  have hH : Hp G (FA S s.heap.size) s.heap S_30 H locs := by rw [eS_30]; exact hH
  have hk_30 : kd S_30 q_30 = 22 := by rw [eS_30]; exact kd_alo
  refine W.eq (g2 := F0 m 62 ls [.ref q_30, .ref th]) rfl ?_
  obtain ⟨hk_33, hp⟩ := hp
  obtain ⟨R_34, eR_34⟩ : ∃ z : Nat → Nat → Option Nat, z = upR (gR S_30) th 7 (some q_30) := ⟨_, rfl⟩
  have hp := hp R_34 eR_34
  refine sx_putR (pc := 62) (j := 7) (x := (some q_30)) B hH hk_33 coX12 rfl w_1311 rfl (Or.inr ⟨rfl, hin, rfl⟩) rfl dX12_init_62 (fun H locs hH => ?_)
  have hH : Hp G (FA S s.heap.size) s.heap (wA S_30 (gI S_30) (gJ S_30) R_34) H locs := by rw [eR_34]; exact hH
  refine lv_aload_n (pc := 65) hx hb dX12_init_65 rfl (lv_at hl 0 rfl) ?_
  refine lv_sipush (pc := 66) (v := 900) hx hb dX12_init_66 (by decide) ?_
  obtain ⟨hc_36, hp⟩ := hp
  obtain ⟨hc_37, hp⟩ := hp
  refine sx_newb (pc := 69) (S := (wA S_30 (gI S_30) (gJ S_30) R_34)) B hH w_247 (by decide) (by decide) (by decide) (show _ + 1 ≤ bc by omega) (show _ + 900 ≤ bs by first | omega | exact (by omega : _ + 900 ≤ bs)) dX12_init_69 (fun q_35 H hq_35 hH => ?_)
  obtain ⟨S_35, eS_35⟩ : ∃ z : St, z = alo (wA S_30 (gI S_30) (gJ S_30) R_34) q_35 20 900 := ⟨_, rfl⟩
  have hp := hp q_35 hq_35 S_35 eS_35
  have hH : Hp G (FA S s.heap.size) s.heap S_35 H locs := by rw [eS_35]; exact hH
  have hk_35 : kd S_35 q_35 = 20 := by rw [eS_35]; exact kd_alo
  refine W.eq (g2 := F0 m 71 ls [.ref q_35, .ref th]) rfl ?_
  obtain ⟨hk_38, hp⟩ := hp
  obtain ⟨R_39, eR_39⟩ : ∃ z : Nat → Nat → Option Nat, z = upR (gR S_35) th 8 (some q_35) := ⟨_, rfl⟩
  have hp := hp R_39 eR_39
  refine sx_putR (pc := 71) (j := 8) (x := (some q_35)) B hH hk_38 coX12 rfl w_1312 rfl (Or.inr ⟨rfl, hin, rfl⟩) rfl dX12_init_71 (fun H locs hH => ?_)
  have hH : Hp G (FA S s.heap.size) s.heap (wA S_35 (gI S_35) (gJ S_35) R_39) H locs := by rw [eR_39]; exact hH
  refine lv_aload_n (pc := 74) hx hb dX12_init_74 rfl (lv_at hl 0 rfl) ?_
  refine lv_sipush (pc := 75) (v := 900) hx hb dX12_init_75 (by decide) ?_
  obtain ⟨hc_41, hp⟩ := hp
  obtain ⟨hc_42, hp⟩ := hp
  refine sx_newb (pc := 78) (S := (wA S_35 (gI S_35) (gJ S_35) R_39)) B hH w_247 (by decide) (by decide) (by decide) (show _ + 1 ≤ bc by omega) (show _ + 900 ≤ bs by first | omega | exact (by omega : _ + 900 ≤ bs)) dX12_init_78 (fun q_40 H hq_40 hH => ?_)
  obtain ⟨S_40, eS_40⟩ : ∃ z : St, z = alo (wA S_35 (gI S_35) (gJ S_35) R_39) q_40 20 900 := ⟨_, rfl⟩
  have hp := hp q_40 hq_40 S_40 eS_40
  have hH : Hp G (FA S s.heap.size) s.heap S_40 H locs := by rw [eS_40]; exact hH
  have hk_40 : kd S_40 q_40 = 20 := by rw [eS_40]; exact kd_alo
  refine W.eq (g2 := F0 m 80 ls [.ref q_40, .ref th]) rfl ?_
  obtain ⟨hk_43, hp⟩ := hp
  obtain ⟨R_44, eR_44⟩ : ∃ z : Nat → Nat → Option Nat, z = upR (gR S_40) th 9 (some q_40) := ⟨_, rfl⟩
  have hp := hp R_44 eR_44
  refine sx_putR (pc := 80) (j := 9) (x := (some q_40)) B hH hk_43 coX12 rfl w_1313 rfl (Or.inr ⟨rfl, hin, rfl⟩) rfl dX12_init_80 (fun H locs hH => ?_)
  have hH : Hp G (FA S s.heap.size) s.heap (wA S_40 (gI S_40) (gJ S_40) R_44) H locs := by rw [eR_44]; exact hH
  refine lv_aload_n (pc := 83) hx hb dX12_init_83 rfl (lv_at hl 0 rfl) ?_
  refine lv_iconst (pc := 84) (v := (-1)) hx hb dX12_init_84 (by decide) ?_
  obtain ⟨F_45, eF_45⟩ : ∃ z : Nat → Nat → Int32, z = upI (gI S_40) th 16 (-1) := ⟨_, rfl⟩
  have hp := hp F_45 eF_45
  refine sx_putI (pc := 85) (j := 16) B hH hk_43 coX12 rfl w_1320 rfl (Or.inl rfl) rfl dX12_init_85 (fun H locs hH => ?_)
  have hH : Hp G (FA S s.heap.size) s.heap (wA S_40 F_45 (gJ S_40) R_44) H locs := by rw [eF_45]; exact hH
  refine lv_aload_n (pc := 88) hx hb dX12_init_88 rfl (lv_at hl 0 rfl) ?_
  refine lv_iconst (pc := 89) (v := (-1)) hx hb dX12_init_89 (by decide) ?_
  obtain ⟨F_46, eF_46⟩ : ∃ z : Nat → Nat → Int32, z = upI F_45 th 17 (-1) := ⟨_, rfl⟩
  have hp := hp F_46 eF_46
  refine sx_putI (pc := 90) (j := 17) B hH hk_43 coX12 rfl w_1321 rfl (Or.inl rfl) rfl dX12_init_90 (fun H locs hH => ?_)
  have hH : Hp G (FA S s.heap.size) s.heap (wA S_40 F_46 (gJ S_40) R_44) H locs := by rw [eF_46]; exact hH
  refine lv_aload_n (pc := 93) hx hb dX12_init_93 rfl (lv_at hl 0 rfl) ?_
  refine lv_iconst (pc := 94) (v := 3) hx hb dX12_init_94 (by decide) ?_
  obtain ⟨hc_48, hp⟩ := hp
  obtain ⟨hc_49, hp⟩ := hp
  refine sx_newi (pc := 95) (S := (wA S_40 F_46 (gJ S_40) R_44)) B hH w_294 (by decide) (by decide) (by decide) (show _ + 1 ≤ bc by omega) (show _ + 3 ≤ bs by first | omega | exact (by omega : _ + 3 ≤ bs)) dX12_init_95 (fun q_47 H hq_47 hH => ?_)
  obtain ⟨S_47, eS_47⟩ : ∃ z : St, z = alo (wA S_40 F_46 (gJ S_40) R_44) q_47 21 3 := ⟨_, rfl⟩
  have hp := hp q_47 hq_47 S_47 eS_47
  have hH : Hp G (FA S s.heap.size) s.heap S_47 H locs := by rw [eS_47]; exact hH
  have hk_47 : kd S_47 q_47 = 21 := by rw [eS_47]; exact kd_alo
  refine W.eq (g2 := F0 m 97 ls [.ref q_47, .ref th]) rfl ?_
  obtain ⟨hk_50, hp⟩ := hp
  obtain ⟨R_51, eR_51⟩ : ∃ z : Nat → Nat → Option Nat, z = upR (gR S_47) th 20 (some q_47) := ⟨_, rfl⟩
  have hp := hp R_51 eR_51
  refine sx_putR (pc := 97) (j := 20) (x := (some q_47)) B hH hk_50 coX12 rfl w_1324 rfl (Or.inr ⟨rfl, hin, rfl⟩) rfl dX12_init_97 (fun H locs hH => ?_)
  have hH : Hp G (FA S s.heap.size) s.heap (wA S_47 (gI S_47) (gJ S_47) R_51) H locs := by rw [eR_51]; exact hH
  refine lv_aload_n (pc := 100) hx hb dX12_init_100 rfl (lv_at hl 0 rfl) ?_
  refine lv_bipush (pc := 101) (v := 8) hx hb dX12_init_101 (by decide) ?_
  obtain ⟨hc_53, hp⟩ := hp
  obtain ⟨hc_54, hp⟩ := hp
  refine sx_newi (pc := 103) (S := (wA S_47 (gI S_47) (gJ S_47) R_51)) B hH w_294 (by decide) (by decide) (by decide) (show _ + 1 ≤ bc by omega) (show _ + 8 ≤ bs by first | omega | exact (by omega : _ + 8 ≤ bs)) dX12_init_103 (fun q_52 H hq_52 hH => ?_)
  obtain ⟨S_52, eS_52⟩ : ∃ z : St, z = alo (wA S_47 (gI S_47) (gJ S_47) R_51) q_52 21 8 := ⟨_, rfl⟩
  have hp := hp q_52 hq_52 S_52 eS_52
  have hH : Hp G (FA S s.heap.size) s.heap S_52 H locs := by rw [eS_52]; exact hH
  have hk_52 : kd S_52 q_52 = 21 := by rw [eS_52]; exact kd_alo
  refine W.eq (g2 := F0 m 105 ls [.ref q_52, .ref th]) rfl ?_
  obtain ⟨hk_55, hp⟩ := hp
  obtain ⟨R_56, eR_56⟩ : ∃ z : Nat → Nat → Option Nat, z = upR (gR S_52) th 23 (some q_52) := ⟨_, rfl⟩
  have hp := hp R_56 eR_56
  refine sx_putR (pc := 105) (j := 23) (x := (some q_52)) B hH hk_55 coX12 rfl w_1327 rfl (Or.inr ⟨rfl, hin, rfl⟩) rfl dX12_init_105 (fun H locs hH => ?_)
  have hH : Hp G (FA S s.heap.size) s.heap (wA S_52 (gI S_52) (gJ S_52) R_56) H locs := by rw [eR_56]; exact hH
  refine lv_aload_n (pc := 108) hx hb dX12_init_108 rfl (lv_at hl 0 rfl) ?_
  refine lv_bipush (pc := 109) (v := 8) hx hb dX12_init_109 (by decide) ?_
  obtain ⟨hc_58, hp⟩ := hp
  obtain ⟨hc_59, hp⟩ := hp
  refine sx_newi (pc := 111) (S := (wA S_52 (gI S_52) (gJ S_52) R_56)) B hH w_294 (by decide) (by decide) (by decide) (show _ + 1 ≤ bc by omega) (show _ + 8 ≤ bs by first | omega | exact (by omega : _ + 8 ≤ bs)) dX12_init_111 (fun q_57 H hq_57 hH => ?_)
  obtain ⟨S_57, eS_57⟩ : ∃ z : St, z = alo (wA S_52 (gI S_52) (gJ S_52) R_56) q_57 21 8 := ⟨_, rfl⟩
  have hp := hp q_57 hq_57 S_57 eS_57
  have hH : Hp G (FA S s.heap.size) s.heap S_57 H locs := by rw [eS_57]; exact hH
  have hk_57 : kd S_57 q_57 = 21 := by rw [eS_57]; exact kd_alo
  refine W.eq (g2 := F0 m 113 ls [.ref q_57, .ref th]) rfl ?_
  obtain ⟨hk_60, hp⟩ := hp
  obtain ⟨R_61, eR_61⟩ : ∃ z : Nat → Nat → Option Nat, z = upR (gR S_57) th 24 (some q_57) := ⟨_, rfl⟩
  have hp := hp R_61 eR_61
  refine sx_putR (pc := 113) (j := 24) (x := (some q_57)) B hH hk_60 coX12 rfl w_1328 rfl (Or.inr ⟨rfl, hin, rfl⟩) rfl dX12_init_113 (fun H locs hH => ?_)
  have hH : Hp G (FA S s.heap.size) s.heap (wA S_57 (gI S_57) (gJ S_57) R_61) H locs := by rw [eR_61]; exact hH
  refine lv_aload_n (pc := 116) hx hb dX12_init_116 rfl (lv_at hl 0 rfl) ?_
  refine lv_bipush (pc := 117) (v := 8) hx hb dX12_init_117 (by decide) ?_
  obtain ⟨hc_63, hp⟩ := hp
  obtain ⟨hc_64, hp⟩ := hp
  refine sx_newi (pc := 119) (S := (wA S_57 (gI S_57) (gJ S_57) R_61)) B hH w_294 (by decide) (by decide) (by decide) (show _ + 1 ≤ bc by omega) (show _ + 8 ≤ bs by first | omega | exact (by omega : _ + 8 ≤ bs)) dX12_init_119 (fun q_62 H hq_62 hH => ?_)
  obtain ⟨S_62, eS_62⟩ : ∃ z : St, z = alo (wA S_57 (gI S_57) (gJ S_57) R_61) q_62 21 8 := ⟨_, rfl⟩
  have hp := hp q_62 hq_62 S_62 eS_62
  have hH : Hp G (FA S s.heap.size) s.heap S_62 H locs := by rw [eS_62]; exact hH
  have hk_62 : kd S_62 q_62 = 21 := by rw [eS_62]; exact kd_alo
  refine W.eq (g2 := F0 m 121 ls [.ref q_62, .ref th]) rfl ?_
  obtain ⟨hk_65, hp⟩ := hp
  obtain ⟨R_66, eR_66⟩ : ∃ z : Nat → Nat → Option Nat, z = upR (gR S_62) th 25 (some q_62) := ⟨_, rfl⟩
  have hp := hp R_66 eR_66
  refine sx_putR (pc := 121) (j := 25) (x := (some q_62)) B hH hk_65 coX12 rfl w_1329 rfl (Or.inr ⟨rfl, hin, rfl⟩) rfl dX12_init_121 (fun H locs hH => ?_)
  have hH : Hp G (FA S s.heap.size) s.heap (wA S_62 (gI S_62) (gJ S_62) R_66) H locs := by rw [eR_66]; exact hH
  refine lv_aload_n (pc := 124) hx hb dX12_init_124 rfl (lv_at hl 0 rfl) ?_
  refine lv_bipush (pc := 125) (v := 32) hx hb dX12_init_125 (by decide) ?_
  obtain ⟨hc_68, hp⟩ := hp
  obtain ⟨hc_69, hp⟩ := hp
  refine sx_newi (pc := 127) (S := (wA S_62 (gI S_62) (gJ S_62) R_66)) B hH w_294 (by decide) (by decide) (by decide) (show _ + 1 ≤ bc by omega) (show _ + 32 ≤ bs by first | omega | exact (by omega : _ + 32 ≤ bs)) dX12_init_127 (fun q_67 H hq_67 hH => ?_)
  obtain ⟨S_67, eS_67⟩ : ∃ z : St, z = alo (wA S_62 (gI S_62) (gJ S_62) R_66) q_67 21 32 := ⟨_, rfl⟩
  have hp := hp q_67 hq_67 S_67 eS_67
  have hH : Hp G (FA S s.heap.size) s.heap S_67 H locs := by rw [eS_67]; exact hH
  have hk_67 : kd S_67 q_67 = 21 := by rw [eS_67]; exact kd_alo
  refine W.eq (g2 := F0 m 129 ls [.ref q_67, .ref th]) rfl ?_
  obtain ⟨hk_70, hp⟩ := hp
  obtain ⟨R_71, eR_71⟩ : ∃ z : Nat → Nat → Option Nat, z = upR (gR S_67) th 26 (some q_67) := ⟨_, rfl⟩
  have hp := hp R_71 eR_71
  refine sx_putR (pc := 129) (j := 26) (x := (some q_67)) B hH hk_70 coX12 rfl w_1330 rfl (Or.inr ⟨rfl, hin, rfl⟩) rfl dX12_init_129 (fun H locs hH => ?_)
  have hH : Hp G (FA S s.heap.size) s.heap (wA S_67 (gI S_67) (gJ S_67) R_71) H locs := by rw [eR_71]; exact hH
  refine lv_aload_n (pc := 132) hx hb dX12_init_132 rfl (lv_at hl 0 rfl) ?_
  refine lv_bipush (pc := 133) (v := 32) hx hb dX12_init_133 (by decide) ?_
  obtain ⟨hc_73, hp⟩ := hp
  obtain ⟨hc_74, hp⟩ := hp
  refine sx_newi (pc := 135) (S := (wA S_67 (gI S_67) (gJ S_67) R_71)) B hH w_294 (by decide) (by decide) (by decide) (show _ + 1 ≤ bc by omega) (show _ + 32 ≤ bs by first | omega | exact (by omega : _ + 32 ≤ bs)) dX12_init_135 (fun q_72 H hq_72 hH => ?_)
  obtain ⟨S_72, eS_72⟩ : ∃ z : St, z = alo (wA S_67 (gI S_67) (gJ S_67) R_71) q_72 21 32 := ⟨_, rfl⟩
  have hp := hp q_72 hq_72 S_72 eS_72
  have hH : Hp G (FA S s.heap.size) s.heap S_72 H locs := by rw [eS_72]; exact hH
  have hk_72 : kd S_72 q_72 = 21 := by rw [eS_72]; exact kd_alo
  refine W.eq (g2 := F0 m 137 ls [.ref q_72, .ref th]) rfl ?_
  obtain ⟨hk_75, hp⟩ := hp
  obtain ⟨R_76, eR_76⟩ : ∃ z : Nat → Nat → Option Nat, z = upR (gR S_72) th 27 (some q_72) := ⟨_, rfl⟩
  have hp := hp R_76 eR_76
  refine sx_putR (pc := 137) (j := 27) (x := (some q_72)) B hH hk_75 coX12 rfl w_1331 rfl (Or.inr ⟨rfl, hin, rfl⟩) rfl dX12_init_137 (fun H locs hH => ?_)
  have hH : Hp G (FA S s.heap.size) s.heap (wA S_72 (gI S_72) (gJ S_72) R_76) H locs := by rw [eR_76]; exact hH
  refine lv_aload_n (pc := 140) hx hb dX12_init_140 rfl (lv_at hl 0 rfl) ?_
  refine sx_ldc (pc := 141) (v := 40320) B w_1303 dX12_init_141 ?_
  obtain ⟨hc_78, hp⟩ := hp
  obtain ⟨hc_79, hp⟩ := hp
  refine sx_newi (pc := 143) (S := (wA S_72 (gI S_72) (gJ S_72) R_76)) B hH w_294 (by decide) (by decide) (by decide) (show _ + 1 ≤ bc by omega) (show _ + 40320 ≤ bs by first | omega | exact (by omega : _ + 40320 ≤ bs)) dX12_init_143 (fun q_77 H hq_77 hH => ?_)
  obtain ⟨S_77, eS_77⟩ : ∃ z : St, z = alo (wA S_72 (gI S_72) (gJ S_72) R_76) q_77 21 40320 := ⟨_, rfl⟩
  have hp := hp q_77 hq_77 S_77 eS_77
  have hH : Hp G (FA S s.heap.size) s.heap S_77 H locs := by rw [eS_77]; exact hH
  have hk_77 : kd S_77 q_77 = 21 := by rw [eS_77]; exact kd_alo
  refine W.eq (g2 := F0 m 145 ls [.ref q_77, .ref th]) rfl ?_
  obtain ⟨hk_80, hp⟩ := hp
  obtain ⟨R_81, eR_81⟩ : ∃ z : Nat → Nat → Option Nat, z = upR (gR S_77) th 28 (some q_77) := ⟨_, rfl⟩
  have hp := hp R_81 eR_81
  refine sx_putR (pc := 145) (j := 28) (x := (some q_77)) B hH hk_80 coX12 rfl w_1332 rfl (Or.inr ⟨rfl, hin, rfl⟩) rfl dX12_init_145 (fun H locs hH => ?_)
  have hH : Hp G (FA S s.heap.size) s.heap (wA S_77 (gI S_77) (gJ S_77) R_81) H locs := by rw [eR_81]; exact hH
  refine lv_aload_n (pc := 148) hx hb dX12_init_148 rfl (lv_at hl 0 rfl) ?_
  refine lv_bipush (pc := 149) (v := 80) hx hb dX12_init_149 (by decide) ?_
  obtain ⟨hc_83, hp⟩ := hp
  obtain ⟨hc_84, hp⟩ := hp
  refine sx_newi (pc := 151) (S := (wA S_77 (gI S_77) (gJ S_77) R_81)) B hH w_294 (by decide) (by decide) (by decide) (show _ + 1 ≤ bc by omega) (show _ + 80 ≤ bs by first | omega | exact (by omega : _ + 80 ≤ bs)) dX12_init_151 (fun q_82 H hq_82 hH => ?_)
  obtain ⟨S_82, eS_82⟩ : ∃ z : St, z = alo (wA S_77 (gI S_77) (gJ S_77) R_81) q_82 21 80 := ⟨_, rfl⟩
  have hp := hp q_82 hq_82 S_82 eS_82
  have hH : Hp G (FA S s.heap.size) s.heap S_82 H locs := by rw [eS_82]; exact hH
  have hk_82 : kd S_82 q_82 = 21 := by rw [eS_82]; exact kd_alo
  refine W.eq (g2 := F0 m 153 ls [.ref q_82, .ref th]) rfl ?_
  obtain ⟨hk_85, hp⟩ := hp
  obtain ⟨R_86, eR_86⟩ : ∃ z : Nat → Nat → Option Nat, z = upR (gR S_82) th 30 (some q_82) := ⟨_, rfl⟩
  have hp := hp R_86 eR_86
  refine sx_putR (pc := 153) (j := 30) (x := (some q_82)) B hH hk_85 coX12 rfl w_1334 rfl (Or.inr ⟨rfl, hin, rfl⟩) rfl dX12_init_153 (fun H locs hH => ?_)
  have hH : Hp G (FA S s.heap.size) s.heap (wA S_82 (gI S_82) (gJ S_82) R_86) H locs := by rw [eR_86]; exact hH
  refine lv_aload_n (pc := 156) hx hb dX12_init_156 rfl (lv_at hl 0 rfl) ?_
  refine lv_sipush (pc := 157) (v := 2001) hx hb dX12_init_157 (by decide) ?_
  obtain ⟨hc_88, hp⟩ := hp
  obtain ⟨hc_89, hp⟩ := hp
  refine sx_newi (pc := 160) (S := (wA S_82 (gI S_82) (gJ S_82) R_86)) B hH w_294 (by decide) (by decide) (by decide) (show _ + 1 ≤ bc by omega) (show _ + 2001 ≤ bs by first | omega | exact (by omega : _ + 2001 ≤ bs)) dX12_init_160 (fun q_87 H hq_87 hH => ?_)
  obtain ⟨S_87, eS_87⟩ : ∃ z : St, z = alo (wA S_82 (gI S_82) (gJ S_82) R_86) q_87 21 2001 := ⟨_, rfl⟩
  have hp := hp q_87 hq_87 S_87 eS_87
  have hH : Hp G (FA S s.heap.size) s.heap S_87 H locs := by rw [eS_87]; exact hH
  have hk_87 : kd S_87 q_87 = 21 := by rw [eS_87]; exact kd_alo
  refine W.eq (g2 := F0 m 162 ls [.ref q_87, .ref th]) rfl ?_
  obtain ⟨hk_90, hp⟩ := hp
  obtain ⟨R_91, eR_91⟩ : ∃ z : Nat → Nat → Option Nat, z = upR (gR S_87) th 37 (some q_87) := ⟨_, rfl⟩
  have hp := hp R_91 eR_91
  refine sx_putR (pc := 162) (j := 37) (x := (some q_87)) B hH hk_90 coX12 rfl w_1341 rfl (Or.inr ⟨rfl, hin, rfl⟩) rfl dX12_init_162 (fun H locs hH => ?_)
  have hH : Hp G (FA S s.heap.size) s.heap (wA S_87 (gI S_87) (gJ S_87) R_91) H locs := by rw [eR_91]; exact hH
  refine lv_aload_n (pc := 165) hx hb dX12_init_165 rfl (lv_at hl 0 rfl) ?_
  refine sx_ldc (pc := 166) (v := 40320) B w_1303 dX12_init_166 ?_
  obtain ⟨hc_93, hp⟩ := hp
  obtain ⟨hc_94, hp⟩ := hp
  refine sx_newi (pc := 168) (S := (wA S_87 (gI S_87) (gJ S_87) R_91)) B hH w_294 (by decide) (by decide) (by decide) (show _ + 1 ≤ bc by omega) (show _ + 40320 ≤ bs by first | omega | exact (by omega : _ + 40320 ≤ bs)) dX12_init_168 (fun q_92 H hq_92 hH => ?_)
  obtain ⟨S_92, eS_92⟩ : ∃ z : St, z = alo (wA S_87 (gI S_87) (gJ S_87) R_91) q_92 21 40320 := ⟨_, rfl⟩
  have hp := hp q_92 hq_92 S_92 eS_92
  have hH : Hp G (FA S s.heap.size) s.heap S_92 H locs := by rw [eS_92]; exact hH
  have hk_92 : kd S_92 q_92 = 21 := by rw [eS_92]; exact kd_alo
  refine W.eq (g2 := F0 m 170 ls [.ref q_92, .ref th]) rfl ?_
  obtain ⟨hk_95, hp⟩ := hp
  obtain ⟨R_96, eR_96⟩ : ∃ z : Nat → Nat → Option Nat, z = upR (gR S_92) th 38 (some q_92) := ⟨_, rfl⟩
  have hp := hp R_96 eR_96
  refine sx_putR (pc := 170) (j := 38) (x := (some q_92)) B hH hk_95 coX12 rfl w_1342 rfl (Or.inr ⟨rfl, hin, rfl⟩) rfl dX12_init_170 (fun H locs hH => ?_)
  have hH : Hp G (FA S s.heap.size) s.heap (wA S_92 (gI S_92) (gJ S_92) R_96) H locs := by rw [eR_96]; exact hH
  refine lv_aload_n (pc := 173) hx hb dX12_init_173 rfl (lv_at hl 0 rfl) ?_
  refine sx_ldc (pc := 174) (v := 40320) B w_1303 dX12_init_174 ?_
  obtain ⟨hc_98, hp⟩ := hp
  obtain ⟨hc_99, hp⟩ := hp
  refine sx_newi (pc := 176) (S := (wA S_92 (gI S_92) (gJ S_92) R_96)) B hH w_294 (by decide) (by decide) (by decide) (show _ + 1 ≤ bc by omega) (show _ + 40320 ≤ bs by first | omega | exact (by omega : _ + 40320 ≤ bs)) dX12_init_176 (fun q_97 H hq_97 hH => ?_)
  obtain ⟨S_97, eS_97⟩ : ∃ z : St, z = alo (wA S_92 (gI S_92) (gJ S_92) R_96) q_97 21 40320 := ⟨_, rfl⟩
  have hp := hp q_97 hq_97 S_97 eS_97
  have hH : Hp G (FA S s.heap.size) s.heap S_97 H locs := by rw [eS_97]; exact hH
  have hk_97 : kd S_97 q_97 = 21 := by rw [eS_97]; exact kd_alo
  refine W.eq (g2 := F0 m 178 ls [.ref q_97, .ref th]) rfl ?_
  obtain ⟨hk_100, hp⟩ := hp
  obtain ⟨R_101, eR_101⟩ : ∃ z : Nat → Nat → Option Nat, z = upR (gR S_97) th 39 (some q_97) := ⟨_, rfl⟩
  have hp := hp R_101 eR_101
  refine sx_putR (pc := 178) (j := 39) (x := (some q_97)) B hH hk_100 coX12 rfl w_1343 rfl (Or.inr ⟨rfl, hin, rfl⟩) rfl dX12_init_178 (fun H locs hH => ?_)
  have hH : Hp G (FA S s.heap.size) s.heap (wA S_97 (gI S_97) (gJ S_97) R_101) H locs := by rw [eR_101]; exact hH
  refine lv_aload_n (pc := 181) hx hb dX12_init_181 rfl (lv_at hl 0 rfl) ?_
  refine sx_ldc (pc := 182) (v := 40320) B w_1303 dX12_init_182 ?_
  obtain ⟨hc_103, hp⟩ := hp
  obtain ⟨hc_104, hp⟩ := hp
  refine sx_newi (pc := 184) (S := (wA S_97 (gI S_97) (gJ S_97) R_101)) B hH w_294 (by decide) (by decide) (by decide) (show _ + 1 ≤ bc by omega) (show _ + 40320 ≤ bs by first | omega | exact (by omega : _ + 40320 ≤ bs)) dX12_init_184 (fun q_102 H hq_102 hH => ?_)
  obtain ⟨S_102, eS_102⟩ : ∃ z : St, z = alo (wA S_97 (gI S_97) (gJ S_97) R_101) q_102 21 40320 := ⟨_, rfl⟩
  have hp := hp q_102 hq_102 S_102 eS_102
  have hH : Hp G (FA S s.heap.size) s.heap S_102 H locs := by rw [eS_102]; exact hH
  have hk_102 : kd S_102 q_102 = 21 := by rw [eS_102]; exact kd_alo
  refine W.eq (g2 := F0 m 186 ls [.ref q_102, .ref th]) rfl ?_
  obtain ⟨hk_105, hp⟩ := hp
  obtain ⟨R_106, eR_106⟩ : ∃ z : Nat → Nat → Option Nat, z = upR (gR S_102) th 40 (some q_102) := ⟨_, rfl⟩
  have hp := hp R_106 eR_106
  refine sx_putR (pc := 186) (j := 40) (x := (some q_102)) B hH hk_105 coX12 rfl w_1344 rfl (Or.inr ⟨rfl, hin, rfl⟩) rfl dX12_init_186 (fun H locs hH => ?_)
  have hH : Hp G (FA S s.heap.size) s.heap (wA S_102 (gI S_102) (gJ S_102) R_106) H locs := by rw [eR_106]; exact hH
  refine lv_aload_n (pc := 189) hx hb dX12_init_189 rfl (lv_at hl 0 rfl) ?_
  refine sx_ldc (pc := 190) (v := 40320) B w_1303 dX12_init_190 ?_
  obtain ⟨hc_108, hp⟩ := hp
  obtain ⟨hc_109, hp⟩ := hp
  refine sx_newi (pc := 192) (S := (wA S_102 (gI S_102) (gJ S_102) R_106)) B hH w_294 (by decide) (by decide) (by decide) (show _ + 1 ≤ bc by omega) (show _ + 40320 ≤ bs by first | omega | exact (by omega : _ + 40320 ≤ bs)) dX12_init_192 (fun q_107 H hq_107 hH => ?_)
  obtain ⟨S_107, eS_107⟩ : ∃ z : St, z = alo (wA S_102 (gI S_102) (gJ S_102) R_106) q_107 21 40320 := ⟨_, rfl⟩
  have hp := hp q_107 hq_107 S_107 eS_107
  have hH : Hp G (FA S s.heap.size) s.heap S_107 H locs := by rw [eS_107]; exact hH
  have hk_107 : kd S_107 q_107 = 21 := by rw [eS_107]; exact kd_alo
  refine W.eq (g2 := F0 m 194 ls [.ref q_107, .ref th]) rfl ?_
  obtain ⟨hk_110, hp⟩ := hp
  obtain ⟨R_111, eR_111⟩ : ∃ z : Nat → Nat → Option Nat, z = upR (gR S_107) th 42 (some q_107) := ⟨_, rfl⟩
  have hp := hp R_111 eR_111
  refine sx_putR (pc := 194) (j := 42) (x := (some q_107)) B hH hk_110 coX12 rfl w_1346 rfl (Or.inr ⟨rfl, hin, rfl⟩) rfl dX12_init_194 (fun H locs hH => ?_)
  have hH : Hp G (FA S s.heap.size) s.heap (wA S_107 (gI S_107) (gJ S_107) R_111) H locs := by rw [eR_111]; exact hH
  refine lv_aload_n (pc := 197) hx hb dX12_init_197 rfl (lv_at hl 0 rfl) ?_
  refine lv_iconst (pc := 198) (v := (-1)) hx hb dX12_init_198 (by decide) ?_
  obtain ⟨F_112, eF_112⟩ : ∃ z : Nat → Nat → Int32, z = upI (gI S_107) th 43 (-1) := ⟨_, rfl⟩
  have hp := hp F_112 eF_112
  refine sx_putI (pc := 199) (j := 43) B hH hk_110 coX12 rfl w_1347 rfl (Or.inl rfl) rfl dX12_init_199 (fun H locs hH => ?_)
  have hH : Hp G (FA S s.heap.size) s.heap (wA S_107 F_112 (gJ S_107) R_111) H locs := by rw [eF_112]; exact hH
  refine lv_aload_n (pc := 202) hx hb dX12_init_202 rfl (lv_at hl 0 rfl) ?_
  refine lv_bipush (pc := 203) (v := 9) hx hb dX12_init_203 (by decide) ?_
  obtain ⟨hc_114, hp⟩ := hp
  obtain ⟨hc_115, hp⟩ := hp
  refine sx_newi (pc := 205) (S := (wA S_107 F_112 (gJ S_107) R_111)) B hH w_294 (by decide) (by decide) (by decide) (show _ + 1 ≤ bc by omega) (show _ + 9 ≤ bs by first | omega | exact (by omega : _ + 9 ≤ bs)) dX12_init_205 (fun q_113 H hq_113 hH => ?_)
  obtain ⟨S_113, eS_113⟩ : ∃ z : St, z = alo (wA S_107 F_112 (gJ S_107) R_111) q_113 21 9 := ⟨_, rfl⟩
  have hp := hp q_113 hq_113 S_113 eS_113
  have hH : Hp G (FA S s.heap.size) s.heap S_113 H locs := by rw [eS_113]; exact hH
  have hk_113 : kd S_113 q_113 = 21 := by rw [eS_113]; exact kd_alo
  refine W.eq (g2 := F0 m 207 ls [.ref q_113, .ref th]) rfl ?_
  obtain ⟨hk_116, hp⟩ := hp
  obtain ⟨R_117, eR_117⟩ : ∃ z : Nat → Nat → Option Nat, z = upR (gR S_113) th 44 (some q_113) := ⟨_, rfl⟩
  have hp := hp R_117 eR_117
  refine sx_putR (pc := 207) (j := 44) (x := (some q_113)) B hH hk_116 coX12 rfl w_1348 rfl (Or.inr ⟨rfl, hin, rfl⟩) rfl dX12_init_207 (fun H locs hH => ?_)
  have hH : Hp G (FA S s.heap.size) s.heap (wA S_113 (gI S_113) (gJ S_113) R_117) H locs := by rw [eR_117]; exact hH
  refine lv_aload_n (pc := 210) hx hb dX12_init_210 rfl (lv_at hl 0 rfl) ?_
  refine lv_bipush (pc := 211) (v := 8) hx hb dX12_init_211 (by decide) ?_
  obtain ⟨hc_119, hp⟩ := hp
  obtain ⟨hc_120, hp⟩ := hp
  refine sx_newi (pc := 213) (S := (wA S_113 (gI S_113) (gJ S_113) R_117)) B hH w_294 (by decide) (by decide) (by decide) (show _ + 1 ≤ bc by omega) (show _ + 8 ≤ bs by first | omega | exact (by omega : _ + 8 ≤ bs)) dX12_init_213 (fun q_118 H hq_118 hH => ?_)
  obtain ⟨S_118, eS_118⟩ : ∃ z : St, z = alo (wA S_113 (gI S_113) (gJ S_113) R_117) q_118 21 8 := ⟨_, rfl⟩
  have hp := hp q_118 hq_118 S_118 eS_118
  have hH : Hp G (FA S s.heap.size) s.heap S_118 H locs := by rw [eS_118]; exact hH
  have hk_118 : kd S_118 q_118 = 21 := by rw [eS_118]; exact kd_alo
  refine W.eq (g2 := F0 m 215 ls [.ref q_118, .ref th]) rfl ?_
  obtain ⟨hk_121, hp⟩ := hp
  obtain ⟨R_122, eR_122⟩ : ∃ z : Nat → Nat → Option Nat, z = upR (gR S_118) th 45 (some q_118) := ⟨_, rfl⟩
  have hp := hp R_122 eR_122
  refine sx_putR (pc := 215) (j := 45) (x := (some q_118)) B hH hk_121 coX12 rfl w_1349 rfl (Or.inr ⟨rfl, hin, rfl⟩) rfl dX12_init_215 (fun H locs hH => ?_)
  have hH : Hp G (FA S s.heap.size) s.heap (wA S_118 (gI S_118) (gJ S_118) R_122) H locs := by rw [eR_122]; exact hH
  refine lv_aload_n (pc := 218) hx hb dX12_init_218 rfl (lv_at hl 0 rfl) ?_
  refine lv_bipush (pc := 219) (v := 9) hx hb dX12_init_219 (by decide) ?_
  obtain ⟨hc_124, hp⟩ := hp
  obtain ⟨hc_125, hp⟩ := hp
  refine sx_newi (pc := 221) (S := (wA S_118 (gI S_118) (gJ S_118) R_122)) B hH w_294 (by decide) (by decide) (by decide) (show _ + 1 ≤ bc by omega) (show _ + 9 ≤ bs by first | omega | exact (by omega : _ + 9 ≤ bs)) dX12_init_221 (fun q_123 H hq_123 hH => ?_)
  obtain ⟨S_123, eS_123⟩ : ∃ z : St, z = alo (wA S_118 (gI S_118) (gJ S_118) R_122) q_123 21 9 := ⟨_, rfl⟩
  have hp := hp q_123 hq_123 S_123 eS_123
  have hH : Hp G (FA S s.heap.size) s.heap S_123 H locs := by rw [eS_123]; exact hH
  have hk_123 : kd S_123 q_123 = 21 := by rw [eS_123]; exact kd_alo
  refine W.eq (g2 := F0 m 223 ls [.ref q_123, .ref th]) rfl ?_
  obtain ⟨hk_126, hp⟩ := hp
  obtain ⟨R_127, eR_127⟩ : ∃ z : Nat → Nat → Option Nat, z = upR (gR S_123) th 46 (some q_123) := ⟨_, rfl⟩
  have hp := hp R_127 eR_127
  refine sx_putR (pc := 223) (j := 46) (x := (some q_123)) B hH hk_126 coX12 rfl w_1350 rfl (Or.inr ⟨rfl, hin, rfl⟩) rfl dX12_init_223 (fun H locs hH => ?_)
  have hH : Hp G (FA S s.heap.size) s.heap (wA S_123 (gI S_123) (gJ S_123) R_127) H locs := by rw [eR_127]; exact hH
  refine lv_aload_n (pc := 226) hx hb dX12_init_226 rfl (lv_at hl 0 rfl) ?_
  refine lv_sipush (pc := 227) (v := 257) hx hb dX12_init_227 (by decide) ?_
  obtain ⟨hc_129, hp⟩ := hp
  obtain ⟨hc_130, hp⟩ := hp
  refine sx_newi (pc := 230) (S := (wA S_123 (gI S_123) (gJ S_123) R_127)) B hH w_294 (by decide) (by decide) (by decide) (show _ + 1 ≤ bc by omega) (show _ + 257 ≤ bs by first | omega | exact (by omega : _ + 257 ≤ bs)) dX12_init_230 (fun q_128 H hq_128 hH => ?_)
  obtain ⟨S_128, eS_128⟩ : ∃ z : St, z = alo (wA S_123 (gI S_123) (gJ S_123) R_127) q_128 21 257 := ⟨_, rfl⟩
  have hp := hp q_128 hq_128 S_128 eS_128
  have hH : Hp G (FA S s.heap.size) s.heap S_128 H locs := by rw [eS_128]; exact hH
  have hk_128 : kd S_128 q_128 = 21 := by rw [eS_128]; exact kd_alo
  refine W.eq (g2 := F0 m 232 ls [.ref q_128, .ref th]) rfl ?_
  obtain ⟨hk_131, hp⟩ := hp
  obtain ⟨R_132, eR_132⟩ : ∃ z : Nat → Nat → Option Nat, z = upR (gR S_128) th 47 (some q_128) := ⟨_, rfl⟩
  have hp := hp R_132 eR_132
  refine sx_putR (pc := 232) (j := 47) (x := (some q_128)) B hH hk_131 coX12 rfl w_1351 rfl (Or.inr ⟨rfl, hin, rfl⟩) rfl dX12_init_232 (fun H locs hH => ?_)
  have hH : Hp G (FA S s.heap.size) s.heap (wA S_128 (gI S_128) (gJ S_128) R_132) H locs := by rw [eR_132]; exact hH
  refine lv_aload_n (pc := 235) hx hb dX12_init_235 rfl (lv_at hl 0 rfl) ?_
  refine sx_getR (pc := 236) (j := 0) B hH hk_131 coX12 rfl w_1304 rfl dX12_init_236 ?_
  refine W.eq (g2 := F0 m 239 ls [va_rf (R_132 th 0)]) rfl ?_
  obtain ⟨a_133, ha_133, hp⟩ := hp
  refine sx_nonnull (x := a_133) ha_133 ?_
  refine lv_iconst (pc := 239) (v := 0) hx hb dX12_init_239 (by decide) ?_
  refine lv_iconst (pc := 240) (v := 4) hx hb dX12_init_240 (by decide) ?_
  obtain ⟨hk_134, hp⟩ := hp
  obtain ⟨hn_135, hp⟩ := hp
  obtain ⟨F_136, eF_136⟩ : ∃ z : Nat → Nat → Int32, z = upI (gI S_128) a_133 0 4 := ⟨_, rfl⟩
  have hp := hp F_136 eF_136
  refine sx_iast (pc := 241) B hH hk_134 hn_135 dX12_init_241 (fun H locs hH => ?_)
  have hH : Hp G (FA S s.heap.size) s.heap (wA S_128 F_136 (gJ S_128) R_132) H locs := by rw [eF_136]; exact hH
  refine lv_aload_n (pc := 242) hx hb dX12_init_242 rfl (lv_at hl 0 rfl) ?_
  refine sx_getR (pc := 243) (j := 0) B hH hk_131 coX12 rfl w_1304 rfl dX12_init_243 ?_
  refine W.eq (g2 := F0 m 246 ls [va_rf (R_132 th 0)]) rfl ?_
  refine sx_nonnull (x := a_133) ha_133 ?_
  refine lv_iconst (pc := 246) (v := 4) hx hb dX12_init_246 (by decide) ?_
  refine lv_iconst (pc := 247) (v := (-1)) hx hb dX12_init_247 (by decide) ?_
  obtain ⟨hn_137, hp⟩ := hp
  obtain ⟨F_138, eF_138⟩ : ∃ z : Nat → Nat → Int32, z = upI F_136 a_133 4 (-1) := ⟨_, rfl⟩
  have hp := hp F_138 eF_138
  refine sx_iast (pc := 248) B hH hk_134 hn_137 dX12_init_248 (fun H locs hH => ?_)
  have hH : Hp G (FA S s.heap.size) s.heap (wA S_128 F_138 (gJ S_128) R_132) H locs := by rw [eF_138]; exact hH
  refine lv_aload_n (pc := 249) hx hb dX12_init_249 rfl (lv_at hl 0 rfl) ?_
  refine sx_getR (pc := 250) (j := 0) B hH hk_131 coX12 rfl w_1304 rfl dX12_init_250 ?_
  refine W.eq (g2 := F0 m 253 ls [va_rf (R_132 th 0)]) rfl ?_
  refine sx_nonnull (x := a_133) ha_133 ?_
  refine lv_bipush (pc := 253) (v := 6) hx hb dX12_init_253 (by decide) ?_
  refine lv_iconst (pc := 255) (v := (-1)) hx hb dX12_init_255 (by decide) ?_
  obtain ⟨hn_139, hp⟩ := hp
  obtain ⟨F_140, eF_140⟩ : ∃ z : Nat → Nat → Int32, z = upI F_138 a_133 6 (-1) := ⟨_, rfl⟩
  have hp := hp F_140 eF_140
  refine sx_iast (pc := 256) B hH hk_134 hn_139 dX12_init_256 (fun H locs hH => ?_)
  have hH : Hp G (FA S s.heap.size) s.heap (wA S_128 F_140 (gJ S_128) R_132) H locs := by rw [eF_140]; exact hH
  exact sx_vret (pc := 257) B hH hr hlk (by rw [← hQQ]; exact ⟨rfl, hp⟩) (show _ ≤ bc by omega) (show _ ≤ bs by omega) dX12_init_257
theorem dX12_status_0 : decode cX12_status 0 = .ok (.aload_n 0, 1) := by decide +kernel
theorem dX12_status_1 : decode cX12_status 1 = .ok (.getfield 99, 3) := by decide +kernel
theorem dX12_status_4 : decode cX12_status 4 = .ok (.ireturn, 1) := by decide +kernel
theorem mi_X12_status : MI yX12_status cX12_status 1 (some FieldType.int) 0 := ⟨w_1461, w_118, by decide +kernel, by decide +kernel, by decide +kernel⟩
set_option maxRecDepth 100000 in
set_option maxHeartbeats 4000000 in
theorem C_X12_status (G : GG) (l : Launch) (th : Nat) (S : St) (Q : Int32 → Prop) (hp : P_X12_status th S Q) : Ctr G l yX12_status cX12_status 1 (some FieldType.int) 0 0 0 0 [.ref th] S (fun (v : Option Value) (S9 : St) => ∃ (r : Int32), v = some (.int r) ∧ S9 = S ∧ Q r ) := by
  generalize hQQ : (fun (v : Option Value) (S9 : St) => ∃ (r : Int32), v = some (.int r) ∧ S9 = S ∧ Q r ) = QQ
  unfold P_X12_status at hp
  refine Ctr.of (by decide) (Nat.le_of_ble_eq_true rfl) ?_
  intro p e s m args below meth c ls B hr hlk hin hl hH
  generalize hlocs0 : ([] : List Loc) = locs at hH ⊢
  have hx := B.1
  have hb := B.2.1
  have hl : lv_has ls 1 [(0, .ref th)] := hl
  obtain ⟨hk_th, hp⟩ := hp
  refine lv_aload_n (pc := 0) hx hb dX12_status_0 rfl (lv_at hl 0 rfl) ?_
  refine sx_getI (pc := 1) (j := 2) B hH hk_th coX12 rfl w_1306 rfl dX12_status_1 ?_
  refine W.eq (g2 := F0 m 4 ls [.int (gI S th 2)]) rfl ?_
  exact sx_iret (pc := 4) B hH hr hlk (by rw [← hQQ]; exact ⟨_, rfl, rfl, hp⟩) (Nat.le_of_ble_eq_true rfl) (Nat.le_of_ble_eq_true rfl) dX12_status_4
theorem dX12_top_0 : decode cX12_top 0 = .ok (.aload_n 0, 1) := by decide +kernel
theorem dX12_top_1 : decode cX12_top 1 = .ok (.getfield 102, 3) := by decide +kernel
theorem dX12_top_4 : decode cX12_top 4 = .ok (.lreturn, 1) := by decide +kernel
theorem mi_X12_top : MI yX12_top cX12_top 1 (some FieldType.long) 0 := ⟨w_1465, w_118, by decide +kernel, by decide +kernel, by decide +kernel⟩
set_option maxRecDepth 100000 in
set_option maxHeartbeats 4000000 in
theorem C_X12_top (G : GG) (l : Launch) (th : Nat) (S : St) (Q : Int64 → Prop) (hp : P_X12_top th S Q) : Ctr G l yX12_top cX12_top 1 (some FieldType.long) 0 0 0 0 [.ref th] S (fun (v : Option Value) (S9 : St) => ∃ (r : Int64), v = some (.long r) ∧ S9 = S ∧ Q r ) := by
  generalize hQQ : (fun (v : Option Value) (S9 : St) => ∃ (r : Int64), v = some (.long r) ∧ S9 = S ∧ Q r ) = QQ
  unfold P_X12_top at hp
  refine Ctr.of (by decide) (Nat.le_of_ble_eq_true rfl) ?_
  intro p e s m args below meth c ls B hr hlk hin hl hH
  generalize hlocs0 : ([] : List Loc) = locs at hH ⊢
  have hx := B.1
  have hb := B.2.1
  have hl : lv_has ls 1 [(0, .ref th)] := hl
  obtain ⟨hk_th, hp⟩ := hp
  refine lv_aload_n (pc := 0) hx hb dX12_top_0 rfl (lv_at hl 0 rfl) ?_
  refine sx_getJ (pc := 1) (j := 3) B hH hk_th coX12 rfl w_1307 rfl dX12_top_1 ?_
  refine W.eq (g2 := F0 m 4 ls [.long (gJ S th 3)]) rfl ?_
  exact sx_lret (pc := 4) B hH hr hlk (by rw [← hQQ]; exact ⟨_, rfl, rfl, hp⟩) (Nat.le_of_ble_eq_true rfl) (Nat.le_of_ble_eq_true rfl) dX12_top_4
theorem dX12_bottom_0 : decode cX12_bottom 0 = .ok (.aload_n 0, 1) := by decide +kernel
theorem dX12_bottom_1 : decode cX12_bottom 1 = .ok (.getfield 17, 3) := by decide +kernel
theorem dX12_bottom_4 : decode cX12_bottom 4 = .ok (.lreturn, 1) := by decide +kernel
theorem mi_X12_bottom : MI yX12_bottom cX12_bottom 1 (some FieldType.long) 0 := ⟨w_1469, w_118, by decide +kernel, by decide +kernel, by decide +kernel⟩
set_option maxRecDepth 100000 in
set_option maxHeartbeats 4000000 in
theorem C_X12_bottom (G : GG) (l : Launch) (th : Nat) (S : St) (Q : Int64 → Prop) (hp : P_X12_bottom th S Q) : Ctr G l yX12_bottom cX12_bottom 1 (some FieldType.long) 0 0 0 0 [.ref th] S (fun (v : Option Value) (S9 : St) => ∃ (r : Int64), v = some (.long r) ∧ S9 = S ∧ Q r ) := by
  generalize hQQ : (fun (v : Option Value) (S9 : St) => ∃ (r : Int64), v = some (.long r) ∧ S9 = S ∧ Q r ) = QQ
  unfold P_X12_bottom at hp
  refine Ctr.of (by decide) (Nat.le_of_ble_eq_true rfl) ?_
  intro p e s m args below meth c ls B hr hlk hin hl hH
  generalize hlocs0 : ([] : List Loc) = locs at hH ⊢
  have hx := B.1
  have hb := B.2.1
  have hl : lv_has ls 1 [(0, .ref th)] := hl
  obtain ⟨hk_th, hp⟩ := hp
  refine lv_aload_n (pc := 0) hx hb dX12_bottom_0 rfl (lv_at hl 0 rfl) ?_
  refine sx_getJ (pc := 1) (j := 4) B hH hk_th coX12 rfl w_1308 rfl dX12_bottom_1 ?_
  refine W.eq (g2 := F0 m 4 ls [.long (gJ S th 4)]) rfl ?_
  exact sx_lret (pc := 4) B hH hr hlk (by rw [← hQQ]; exact ⟨_, rfl, rfl, hp⟩) (Nat.le_of_ble_eq_true rfl) (Nat.le_of_ble_eq_true rfl) dX12_bottom_4
theorem dX12_is_0 : decode cX12_is 0 = .ok (.aload_n 0, 1) := by decide +kernel
theorem dX12_is_1 : decode cX12_is 1 = .ok (.iload_n 1, 1) := by decide +kernel
theorem dX12_is_2 : decode cX12_is 2 = .ok (.putfield 99, 3) := by decide +kernel
theorem dX12_is_5 : decode cX12_is 5 = .ok (.iload_n 1, 1) := by decide +kernel
theorem dX12_is_6 : decode cX12_is 6 = .ok (.ifCond .ne 7, 3) := by decide +kernel
theorem dX12_is_9 : decode cX12_is 9 = .ok (.iconst 1, 1) := by decide +kernel
theorem dX12_is_10 : decode cX12_is 10 = .ok (.goto 4, 3) := by decide +kernel
theorem dX12_is_13 : decode cX12_is 13 = .ok (.iconst 0, 1) := by decide +kernel
theorem dX12_is_14 : decode cX12_is 14 = .ok (.ireturn, 1) := by decide +kernel
theorem mi_X12_is : MI yX12_is cX12_is 2 (some FieldType.boolean) 1 := ⟨w_1480, w_118, by decide +kernel, by decide +kernel, by decide +kernel⟩
set_option maxRecDepth 100000 in
set_option maxHeartbeats 4000000 in
theorem C_X12_is (G : GG) (l : Launch) (th : Nat) (p0 : Int32) (S : St) (Q : Int32 → (Nat → Nat → Int32) → Prop) (hp : P_X12_is th p0 S Q) : Ctr G l yX12_is cX12_is 2 (some FieldType.boolean) 0 0 0 0 [.ref th, .int p0] S (fun (v : Option Value) (S9 : St) => ∃ (r : Int32) (I9 : Nat → Nat → Int32), v = some (.int r) ∧ S9 = wI S I9 ∧ Q r I9) := by
  generalize hQQ : (fun (v : Option Value) (S9 : St) => ∃ (r : Int32) (I9 : Nat → Nat → Int32), v = some (.int r) ∧ S9 = wI S I9 ∧ Q r I9) = QQ
  unfold P_X12_is at hp
  refine Ctr.of (by decide) (Nat.le_of_ble_eq_true rfl) ?_
  intro p e s m args below meth c ls B hr hlk hin hl hH
  generalize hlocs0 : ([] : List Loc) = locs at hH ⊢
  have hx := B.1
  have hb := B.2.1
  have hl : lv_has ls 2 [(0, .ref th), (1, .int p0)] := hl
  obtain ⟨hk_th, hp⟩ := hp
  refine lv_aload_n (pc := 0) hx hb dX12_is_0 rfl (lv_at hl 0 rfl) ?_
  refine lv_iload_n (pc := 1) hx hb dX12_is_1 rfl (lv_at hl 1 rfl) ?_
  obtain ⟨F_1, eF_1⟩ : ∃ z : Nat → Nat → Int32, z = upI (gI S) th 2 p0 := ⟨_, rfl⟩
  have hp := hp F_1 eF_1
  refine sx_putI (pc := 2) (j := 2) B hH hk_th coX12 rfl w_1306 rfl (Or.inl rfl) rfl dX12_is_2 (fun H locs hH => ?_)
  have hH : Hp G (FA S s.heap.size) s.heap (wI S F_1) H locs := by rw [eF_1]; exact hH
  refine lv_iload_n (pc := 5) hx hb dX12_is_5 rfl (lv_at hl 1 rfl) ?_
  refine lv_if_ne (pc := 6) (tgt := 13) hx hb dX12_is_6 (by decide) (fun cc_2 => ?_) (fun cc_2 => ?_)
  · have hp := hp.1 cc_2
    refine lv_iconst (pc := 13) (v := 0) hx hb dX12_is_13 (by decide) ?_
    exact sx_zret (pc := 14) B hH hr hlk (Or.inl rfl) (by rw [← hQQ]; exact ⟨_, F_1, rfl, rfl, hp⟩) (Nat.le_of_ble_eq_true rfl) (Nat.le_of_ble_eq_true rfl) dX12_is_14
  · have hp := hp.2 cc_2
    refine lv_iconst (pc := 9) (v := 1) hx hb dX12_is_9 (by decide) ?_
    refine lv_goto (pc := 10) (tgt := 14) hx hb dX12_is_10 (by decide) ?_
    exact sx_zret (pc := 14) B hH hr hlk (Or.inr rfl) (by rw [← hQQ]; exact ⟨_, F_1, rfl, rfl, hp⟩) (Nat.le_of_ble_eq_true rfl) (Nat.le_of_ble_eq_true rfl) dX12_is_14
theorem dX12_refuse_0 : decode cX12_refuse 0 = .ok (.aload_n 0, 1) := by decide +kernel
theorem dX12_refuse_1 : decode cX12_refuse 1 = .ok (.iload_n 1, 1) := by decide +kernel
theorem dX12_refuse_2 : decode cX12_refuse 2 = .ok (.putfield 99, 3) := by decide +kernel
theorem dX12_refuse_5 : decode cX12_refuse 5 = .ok (.iconst (-1), 1) := by decide +kernel
theorem dX12_refuse_6 : decode cX12_refuse 6 = .ok (.ireturn, 1) := by decide +kernel
theorem mi_X12_refuse : MI yX12_refuse cX12_refuse 2 (some FieldType.int) 1 := ⟨w_1540, w_118, by decide +kernel, by decide +kernel, by decide +kernel⟩
set_option maxRecDepth 100000 in
set_option maxHeartbeats 4000000 in
theorem C_X12_refuse (G : GG) (l : Launch) (th : Nat) (p0 : Int32) (S : St) (Q : Int32 → (Nat → Nat → Int32) → Prop) (hp : P_X12_refuse th p0 S Q) : Ctr G l yX12_refuse cX12_refuse 2 (some FieldType.int) 0 0 0 0 [.ref th, .int p0] S (fun (v : Option Value) (S9 : St) => ∃ (r : Int32) (I9 : Nat → Nat → Int32), v = some (.int r) ∧ S9 = wI S I9 ∧ Q r I9) := by
  generalize hQQ : (fun (v : Option Value) (S9 : St) => ∃ (r : Int32) (I9 : Nat → Nat → Int32), v = some (.int r) ∧ S9 = wI S I9 ∧ Q r I9) = QQ
  unfold P_X12_refuse at hp
  refine Ctr.of (by decide) (Nat.le_of_ble_eq_true rfl) ?_
  intro p e s m args below meth c ls B hr hlk hin hl hH
  generalize hlocs0 : ([] : List Loc) = locs at hH ⊢
  have hx := B.1
  have hb := B.2.1
  have hl : lv_has ls 2 [(0, .ref th), (1, .int p0)] := hl
  obtain ⟨hk_th, hp⟩ := hp
  refine lv_aload_n (pc := 0) hx hb dX12_refuse_0 rfl (lv_at hl 0 rfl) ?_
  refine lv_iload_n (pc := 1) hx hb dX12_refuse_1 rfl (lv_at hl 1 rfl) ?_
  obtain ⟨F_1, eF_1⟩ : ∃ z : Nat → Nat → Int32, z = upI (gI S) th 2 p0 := ⟨_, rfl⟩
  have hp := hp F_1 eF_1
  refine sx_putI (pc := 2) (j := 2) B hH hk_th coX12 rfl w_1306 rfl (Or.inl rfl) rfl dX12_refuse_2 (fun H locs hH => ?_)
  have hH : Hp G (FA S s.heap.size) s.heap (wI S F_1) H locs := by rw [eF_1]; exact hH
  refine lv_iconst (pc := 5) (v := (-1)) hx hb dX12_refuse_5 (by decide) ?_
  exact sx_iret (pc := 6) B hH hr hlk (by rw [← hQQ]; exact ⟨_, F_1, rfl, rfl, hp⟩) (Nat.le_of_ble_eq_true rfl) (Nat.le_of_ble_eq_true rfl) dX12_refuse_6
theorem dX12_gives_0 : decode cX12_gives 0 = .ok (.aload_n 0, 1) := by decide +kernel
theorem dX12_gives_1 : decode cX12_gives 1 = .ok (.iconst 0, 1) := by decide +kernel
theorem dX12_gives_2 : decode cX12_gives 2 = .ok (.putfield 99, 3) := by decide +kernel
theorem dX12_gives_5 : decode cX12_gives 5 = .ok (.iload_n 1, 1) := by decide +kernel
theorem dX12_gives_6 : decode cX12_gives 6 = .ok (.ireturn, 1) := by decide +kernel
theorem mi_X12_gives : MI yX12_gives cX12_gives 2 (some FieldType.int) 1 := ⟨w_1618, w_118, by decide +kernel, by decide +kernel, by decide +kernel⟩
set_option maxRecDepth 100000 in
set_option maxHeartbeats 4000000 in
theorem C_X12_gives (G : GG) (l : Launch) (th : Nat) (p0 : Int32) (S : St) (Q : Int32 → (Nat → Nat → Int32) → Prop) (hp : P_X12_gives th p0 S Q) : Ctr G l yX12_gives cX12_gives 2 (some FieldType.int) 0 0 0 0 [.ref th, .int p0] S (fun (v : Option Value) (S9 : St) => ∃ (r : Int32) (I9 : Nat → Nat → Int32), v = some (.int r) ∧ S9 = wI S I9 ∧ Q r I9) := by
  generalize hQQ : (fun (v : Option Value) (S9 : St) => ∃ (r : Int32) (I9 : Nat → Nat → Int32), v = some (.int r) ∧ S9 = wI S I9 ∧ Q r I9) = QQ
  unfold P_X12_gives at hp
  refine Ctr.of (by decide) (Nat.le_of_ble_eq_true rfl) ?_
  intro p e s m args below meth c ls B hr hlk hin hl hH
  generalize hlocs0 : ([] : List Loc) = locs at hH ⊢
  have hx := B.1
  have hb := B.2.1
  have hl : lv_has ls 2 [(0, .ref th), (1, .int p0)] := hl
  obtain ⟨hk_th, hp⟩ := hp
  refine lv_aload_n (pc := 0) hx hb dX12_gives_0 rfl (lv_at hl 0 rfl) ?_
  refine lv_iconst (pc := 1) (v := 0) hx hb dX12_gives_1 (by decide) ?_
  obtain ⟨F_1, eF_1⟩ : ∃ z : Nat → Nat → Int32, z = upI (gI S) th 2 0 := ⟨_, rfl⟩
  have hp := hp F_1 eF_1
  refine sx_putI (pc := 2) (j := 2) B hH hk_th coX12 rfl w_1306 rfl (Or.inl rfl) rfl dX12_gives_2 (fun H locs hH => ?_)
  have hH : Hp G (FA S s.heap.size) s.heap (wI S F_1) H locs := by rw [eF_1]; exact hH
  refine lv_iload_n (pc := 5) hx hb dX12_gives_5 rfl (lv_at hl 1 rfl) ?_
  exact sx_iret (pc := 6) B hH hr hlk (by rw [← hQQ]; exact ⟨_, F_1, rfl, rfl, hp⟩) (Nat.le_of_ble_eq_true rfl) (Nat.le_of_ble_eq_true rfl) dX12_gives_6
theorem dX12_orNone_0 : decode cX12_orNone 0 = .ok (.iload_n 1, 1) := by decide +kernel
theorem dX12_orNone_1 : decode cX12_orNone 1 = .ok (.iconst (-1), 1) := by decide +kernel
theorem dX12_orNone_2 : decode cX12_orNone 2 = .ok (.if_icmp .ne 12, 3) := by decide +kernel
theorem dX12_orNone_5 : decode cX12_orNone 5 = .ok (.aload_n 0, 1) := by decide +kernel
theorem dX12_orNone_6 : decode cX12_orNone 6 = .ok (.bipush 6, 2) := by decide +kernel
theorem dX12_orNone_8 : decode cX12_orNone 8 = .ok (.invokevirtual 105, 3) := by decide +kernel
theorem dX12_orNone_11 : decode cX12_orNone 11 = .ok (.goto 8, 3) := by decide +kernel
theorem dX12_orNone_14 : decode cX12_orNone 14 = .ok (.aload_n 0, 1) := by decide +kernel
theorem dX12_orNone_15 : decode cX12_orNone 15 = .ok (.iload_n 1, 1) := by decide +kernel
theorem dX12_orNone_16 : decode cX12_orNone 16 = .ok (.invokevirtual 109, 3) := by decide +kernel
theorem dX12_orNone_19 : decode cX12_orNone 19 = .ok (.ireturn, 1) := by decide +kernel
theorem mi_X12_orNone : MI yX12_orNone cX12_orNone 2 (some FieldType.int) 1 := ⟨w_1642, w_118, by decide +kernel, by decide +kernel, by decide +kernel⟩
set_option maxRecDepth 100000 in
set_option maxHeartbeats 4000000 in
theorem C_X12_orNone (G : GG) (l : Launch) (th : Nat) (p0 : Int32) (S : St) (Q : Int32 → (Nat → Nat → Int32) → Prop) (hp : P_X12_orNone th p0 S Q) : Ctr G l yX12_orNone cX12_orNone 2 (some FieldType.int) 1 21 0 0 [.ref th, .int p0] S (fun (v : Option Value) (S9 : St) => ∃ (r : Int32) (I9 : Nat → Nat → Int32), v = some (.int r) ∧ S9 = wI S I9 ∧ Q r I9) := by
  generalize hQQ : (fun (v : Option Value) (S9 : St) => ∃ (r : Int32) (I9 : Nat → Nat → Int32), v = some (.int r) ∧ S9 = wI S I9 ∧ Q r I9) = QQ
  unfold P_X12_orNone at hp
  refine Ctr.of (by decide) (Nat.le_of_ble_eq_true rfl) ?_
  intro p e s m args below meth c ls B hr hlk hin hl hH
  generalize hlocs0 : ([] : List Loc) = locs at hH ⊢
  have hx := B.1
  have hb := B.2.1
  have hl : lv_has ls 2 [(0, .ref th), (1, .int p0)] := hl
  obtain ⟨hk_th, hp⟩ := hp
  refine lv_iload_n (pc := 0) hx hb dX12_orNone_0 rfl (lv_at hl 1 rfl) ?_
  refine lv_iconst (pc := 1) (v := (-1)) hx hb dX12_orNone_1 (by decide) ?_
  refine lv_icmp_ne (pc := 2) (tgt := 14) hx hb dX12_orNone_2 (by decide) (fun cc_1 => ?_) (fun cc_1 => ?_)
  · have hp := hp.1 cc_1
    refine lv_aload_n (pc := 14) hx hb dX12_orNone_14 rfl (lv_at hl 0 rfl) ?_
    refine lv_iload_n (pc := 15) hx hb dX12_orNone_15 rfl (lv_at hl 1 rfl) ?_
    refine sx_V (pc := 16) (As := [.int p0]) (rest := []) B hH hl.1 (C_X12_gives G l th p0 _ _ hp) mi_X12_gives coX12 hk_th w_1617 w_69 w_1615 rfl rfl ⟨Nat.le_of_ble_eq_true rfl, Nat.le_of_ble_eq_true rfl⟩ (Nat.le_of_ble_eq_true rfl) ⟨Nat.le_of_ble_eq_true rfl, Nat.le_of_ble_eq_true rfl⟩ dX12_orNone_16 (fun v S1 H locs hq hH => ?_)
    obtain ⟨r_2, F_2, rfl, e9, hp⟩ := hq
    rw [e9] at hH
    have hH : Hp G (FA S s.heap.size) s.heap (wI S F_2) H locs := hH
    refine W.eq (g2 := F0 m 19 ls [.int r_2]) rfl ?_
    exact sx_iret (pc := 19) B hH hr hlk (by rw [← hQQ]; exact ⟨_, F_2, rfl, rfl, hp⟩) (Nat.le_of_ble_eq_true rfl) (Nat.le_of_ble_eq_true rfl) dX12_orNone_19
  · have hp := hp.2 cc_1
    refine lv_aload_n (pc := 5) hx hb dX12_orNone_5 rfl (lv_at hl 0 rfl) ?_
    refine lv_bipush (pc := 6) (v := 6) hx hb dX12_orNone_6 (by decide) ?_
    refine sx_V (pc := 8) (As := [.int 6]) (rest := []) B hH hl.1 (C_X12_refuse G l th 6 _ _ hp) mi_X12_refuse coX12 hk_th w_1539 w_51 w_1537 rfl rfl ⟨Nat.le_of_ble_eq_true rfl, Nat.le_of_ble_eq_true rfl⟩ (Nat.le_of_ble_eq_true rfl) ⟨Nat.le_of_ble_eq_true rfl, Nat.le_of_ble_eq_true rfl⟩ dX12_orNone_8 (fun v S1 H locs hq hH => ?_)
    obtain ⟨r_3, F_3, rfl, e9, hp⟩ := hq
    rw [e9] at hH
    have hH : Hp G (FA S s.heap.size) s.heap (wI S F_3) H locs := hH
    refine W.eq (g2 := F0 m 11 ls [.int r_3]) rfl ?_
    refine lv_goto (pc := 11) (tgt := 19) hx hb dX12_orNone_11 (by decide) ?_
    exact sx_iret (pc := 19) B hH hr hlk (by rw [← hQQ]; exact ⟨_, F_3, rfl, rfl, hp⟩) (Nat.le_of_ble_eq_true rfl) (Nat.le_of_ble_eq_true rfl) dX12_orNone_19
theorem dX12_tellsBy_0 : decode cX12_tellsBy 0 = .ok (.lload_n 1, 1) := by decide +kernel
theorem dX12_tellsBy_1 : decode cX12_tellsBy 1 = .ok (.lstore 5, 2) := by decide +kernel
theorem dX12_tellsBy_3 : decode cX12_tellsBy 3 = .ok (.lload_n 3, 1) := by decide +kernel
theorem dX12_tellsBy_4 : decode cX12_tellsBy 4 = .ok (.lstore 7, 2) := by decide +kernel
theorem dX12_tellsBy_6 : decode cX12_tellsBy 6 = .ok (.lload 7, 2) := by decide +kernel
theorem dX12_tellsBy_8 : decode cX12_tellsBy 8 = .ok (.lconst 0, 1) := by decide +kernel
theorem dX12_tellsBy_9 : decode cX12_tellsBy 9 = .ok (.lcmp, 1) := by decide +kernel
theorem dX12_tellsBy_10 : decode cX12_tellsBy 10 = .ok (.ifCond .eq 21, 3) := by decide +kernel
theorem dX12_tellsBy_13 : decode cX12_tellsBy 13 = .ok (.lload 5, 2) := by decide +kernel
theorem dX12_tellsBy_15 : decode cX12_tellsBy 15 = .ok (.lload 7, 2) := by decide +kernel
theorem dX12_tellsBy_17 : decode cX12_tellsBy 17 = .ok (.lrem, 1) := by decide +kernel
theorem dX12_tellsBy_18 : decode cX12_tellsBy 18 = .ok (.lstore 9, 2) := by decide +kernel
theorem dX12_tellsBy_20 : decode cX12_tellsBy 20 = .ok (.lload 7, 2) := by decide +kernel
theorem dX12_tellsBy_22 : decode cX12_tellsBy 22 = .ok (.lstore 5, 2) := by decide +kernel
theorem dX12_tellsBy_24 : decode cX12_tellsBy 24 = .ok (.lload 9, 2) := by decide +kernel
theorem dX12_tellsBy_26 : decode cX12_tellsBy 26 = .ok (.lstore 7, 2) := by decide +kernel
theorem dX12_tellsBy_28 : decode cX12_tellsBy 28 = .ok (.goto (-22), 3) := by decide +kernel
theorem dX12_tellsBy_31 : decode cX12_tellsBy 31 = .ok (.aload_n 0, 1) := by decide +kernel
theorem dX12_tellsBy_32 : decode cX12_tellsBy 32 = .ok (.lload_n 1, 1) := by decide +kernel
theorem dX12_tellsBy_33 : decode cX12_tellsBy 33 = .ok (.lload 5, 2) := by decide +kernel
theorem dX12_tellsBy_35 : decode cX12_tellsBy 35 = .ok (.ldiv, 1) := by decide +kernel
theorem dX12_tellsBy_36 : decode cX12_tellsBy 36 = .ok (.putfield 102, 3) := by decide +kernel
theorem dX12_tellsBy_39 : decode cX12_tellsBy 39 = .ok (.aload_n 0, 1) := by decide +kernel
theorem dX12_tellsBy_40 : decode cX12_tellsBy 40 = .ok (.lload_n 3, 1) := by decide +kernel
theorem dX12_tellsBy_41 : decode cX12_tellsBy 41 = .ok (.lload 5, 2) := by decide +kernel
theorem dX12_tellsBy_43 : decode cX12_tellsBy 43 = .ok (.ldiv, 1) := by decide +kernel
theorem dX12_tellsBy_44 : decode cX12_tellsBy 44 = .ok (.putfield 17, 3) := by decide +kernel
theorem dX12_tellsBy_47 : decode cX12_tellsBy 47 = .ok (.aload_n 0, 1) := by decide +kernel
theorem dX12_tellsBy_48 : decode cX12_tellsBy 48 = .ok (.iconst 0, 1) := by decide +kernel
theorem dX12_tellsBy_49 : decode cX12_tellsBy 49 = .ok (.invokevirtual 112, 3) := by decide +kernel
theorem dX12_tellsBy_52 : decode cX12_tellsBy 52 = .ok (.ireturn, 1) := by decide +kernel
theorem mi_X12_tellsBy : MI yX12_tellsBy cX12_tellsBy 11 (some FieldType.boolean) 2 := ⟨w_1910, w_118, by decide +kernel, by decide +kernel, by decide +kernel⟩
set_option maxRecDepth 100000 in
set_option maxHeartbeats 4000000 in
theorem C_X12_tellsBy (G : GG) (l : Launch) (th : Nat) (p0 : Int64) (p1 : Int64) (S : St) (Q : Int32 → (Nat → Nat → Int32) → (Nat → Nat → Int64) → Prop) (hp : P_X12_tellsBy th p0 p1 S Q) : Ctr G l yX12_tellsBy cX12_tellsBy 11 (some FieldType.boolean) 1 21 0 0 [.ref th, .long p0, .long p1] S (fun (v : Option Value) (S9 : St) => ∃ (r : Int32) (I9 : Nat → Nat → Int32) (J9 : Nat → Nat → Int64), v = some (.int r) ∧ S9 = wA S I9 J9 (gR S) ∧ Q r I9 J9) := by
  generalize hQQ : (fun (v : Option Value) (S9 : St) => ∃ (r : Int32) (I9 : Nat → Nat → Int32) (J9 : Nat → Nat → Int64), v = some (.int r) ∧ S9 = wA S I9 J9 (gR S) ∧ Q r I9 J9) = QQ
  unfold P_X12_tellsBy at hp
  refine Ctr.of (by decide) (Nat.le_of_ble_eq_true rfl) ?_
  intro p e s m args below meth c ls B hr hlk hin hl hH
  generalize hlocs0 : ([] : List Loc) = locs at hH ⊢
  have hx := B.1
  have hb := B.2.1
  have hl : lv_has ls 11 [(0, .ref th), (1, .long p0), (3, .long p1)] := hl
  obtain ⟨hk_th, hp⟩ := hp
  refine lv_lload_n (pc := 0) hx hb dX12_tellsBy_0 rfl (lv_at hl 1 rfl) ?_
  refine lv_lstore (pc := 1) (lv' := [(5, .long p0), (0, .ref th), (1, .long p0), (3, .long p1)]) hx hb dX12_tellsBy_1 hl (by decide) rfl (fun ls hl => ?_)
  refine lv_lload_n (pc := 3) hx hb dX12_tellsBy_3 rfl (lv_at hl 3 rfl) ?_
  refine lv_lstore (pc := 4) (lv' := [(7, .long p1), (5, .long p0), (0, .ref th), (1, .long p0), (3, .long p1)]) hx hb dX12_tellsBy_4 hl (by decide) rfl (fun ls hl => ?_)
  obtain ⟨I_1, ⟨k0_1, h0_1⟩, hst_1⟩ := hp
  have kl_1 : ∀ (n_1 : Nat) (x5_2 : Int64) (x7_3 : Int64) (H : Heap) (locs : List Loc) (ls : Array Slot), I_1 n_1 x5_2 x7_3 → Hp G (FA S s.heap.size) s.heap S H locs → lv_has ls 11 [(0, .ref th), (1, .long p0), (3, .long p1), (5, .long x5_2), (7, .long x7_3)] → Wm G p l e { frames := 1, cells := 0, slots := 0, locals := 21 } s m args below meth c S QQ 0 0 H locs 0 0 (F0 m 6 ls []) := by
    intro n_1
    induction n_1 using Nat.strongRecOn with
    | ind n_1 ih_1 =>
      intro x5_2 x7_3 H locs ls hq9 hH hl
      have hp := hst_1 n_1 x5_2 x7_3 hq9
      refine lv_lload (pc := 6) hx hb dX12_tellsBy_6 (lv_at hl 4 rfl) ?_
      refine lv_lconst (pc := 8) (v := 0) hx hb dX12_tellsBy_8 (by decide) ?_
      refine W.lcmp (pc := 9) hx hb dX12_tellsBy_9 ?_
      refine lv_if_eq (pc := 10) (tgt := 31) hx hb dX12_tellsBy_10 (by decide) (fun cc_4 => ?_) (fun cc_4 => ?_)
      · have hp := hp.1 cc_4
        refine lv_aload_n (pc := 31) hx hb dX12_tellsBy_31 rfl (lv_at hl 0 rfl) ?_
        refine lv_lload_n (pc := 32) hx hb dX12_tellsBy_32 rfl (lv_at hl 1 rfl) ?_
        refine lv_lload (pc := 33) hx hb dX12_tellsBy_33 (lv_at hl 3 rfl) ?_
        obtain ⟨hc_5, hp⟩ := hp
        refine lv_ldiv (pc := 35) hx hb dX12_tellsBy_35 hc_5 ?_
        refine lv_topl (fun v_6 ev_6 => ?_)
        have hp := hp v_6 ev_6
        obtain ⟨J_7, eJ_7⟩ : ∃ z : Nat → Nat → Int64, z = upJ (gJ S) th 3 v_6 := ⟨_, rfl⟩
        have hp := hp J_7 eJ_7
        refine sx_putJ (pc := 36) (j := 3) B hH hk_th coX12 rfl w_1307 rfl (Or.inl rfl) rfl dX12_tellsBy_36 (fun H locs hH => ?_)
        have hH : Hp G (FA S s.heap.size) s.heap (wA S (gI S) J_7 (gR S)) H locs := by rw [eJ_7]; exact hH
        refine lv_aload_n (pc := 39) hx hb dX12_tellsBy_39 rfl (lv_at hl 0 rfl) ?_
        refine lv_lload_n (pc := 40) hx hb dX12_tellsBy_40 rfl (lv_at hl 2 rfl) ?_
        refine lv_lload (pc := 41) hx hb dX12_tellsBy_41 (lv_at hl 3 rfl) ?_
        obtain ⟨hc_8, hp⟩ := hp
        refine lv_ldiv (pc := 43) hx hb dX12_tellsBy_43 hc_8 ?_
        refine lv_topl (fun v_9 ev_9 => ?_)
        have hp := hp v_9 ev_9
        obtain ⟨J_10, eJ_10⟩ : ∃ z : Nat → Nat → Int64, z = upJ J_7 th 4 v_9 := ⟨_, rfl⟩
        have hp := hp J_10 eJ_10
        refine sx_putJ (pc := 44) (j := 4) B hH hk_th coX12 rfl w_1308 rfl (Or.inl rfl) rfl dX12_tellsBy_44 (fun H locs hH => ?_)
        have hH : Hp G (FA S s.heap.size) s.heap (wA S (gI S) J_10 (gR S)) H locs := by rw [eJ_10]; exact hH
        refine lv_aload_n (pc := 47) hx hb dX12_tellsBy_47 rfl (lv_at hl 0 rfl) ?_
        refine lv_iconst (pc := 48) (v := 0) hx hb dX12_tellsBy_48 (by decide) ?_
        refine sx_V (pc := 49) (As := [.int 0]) (rest := []) B hH hl.1 (C_X12_is G l th 0 _ _ hp) mi_X12_is coX12 hk_th w_1479 w_45 w_1477 rfl rfl ⟨Nat.le_of_ble_eq_true rfl, Nat.le_of_ble_eq_true rfl⟩ (Nat.le_of_ble_eq_true rfl) ⟨Nat.le_of_ble_eq_true rfl, Nat.le_of_ble_eq_true rfl⟩ dX12_tellsBy_49 (fun v S1 H locs hq hH => ?_)
        obtain ⟨r_11, F_11, rfl, e9, hp⟩ := hq
        rw [e9] at hH
        have hH : Hp G (FA S s.heap.size) s.heap (wA S F_11 J_10 (gR S)) H locs := hH
        refine W.eq (g2 := F0 m 52 ls [.int r_11]) rfl ?_
        obtain ⟨hz, hp⟩ := hp
        exact sx_zret (pc := 52) B hH hr hlk hz (by rw [← hQQ]; exact ⟨_, F_11, J_10, rfl, rfl, hp⟩) (Nat.le_of_ble_eq_true rfl) (Nat.le_of_ble_eq_true rfl) dX12_tellsBy_52
      · have hp := hp.2 cc_4
        refine lv_lload (pc := 13) hx hb dX12_tellsBy_13 (lv_at hl 3 rfl) ?_
        refine lv_lload (pc := 15) hx hb dX12_tellsBy_15 (lv_at hl 4 rfl) ?_
        obtain ⟨hc_12, hp⟩ := hp
        refine lv_lrem (pc := 17) hx hb dX12_tellsBy_17 hc_12 ?_
        refine W.eq (g2 := F0 m 18 ls [.long (lrm x5_2 x7_3)]) rfl ?_
        refine lv_topl (fun v_13 ev_13 => ?_)
        have hp := hp v_13 ev_13
        refine lv_lstore (pc := 18) (lv' := [(9, .long v_13), (0, .ref th), (1, .long p0), (3, .long p1), (5, .long x5_2), (7, .long x7_3)]) hx hb dX12_tellsBy_18 hl (by decide) rfl (fun ls hl => ?_)
        refine lv_lload (pc := 20) hx hb dX12_tellsBy_20 (lv_at hl 5 rfl) ?_
        refine lv_lstore (pc := 22) (lv' := [(5, .long x7_3), (9, .long v_13), (0, .ref th), (1, .long p0), (3, .long p1), (7, .long x7_3)]) hx hb dX12_tellsBy_22 hl (by decide) rfl (fun ls hl => ?_)
        refine lv_lload (pc := 24) hx hb dX12_tellsBy_24 (lv_at hl 1 rfl) ?_
        refine lv_lstore (pc := 26) (lv' := [(7, .long v_13), (5, .long x7_3), (9, .long v_13), (0, .ref th), (1, .long p0), (3, .long p1)]) hx hb dX12_tellsBy_26 hl (by decide) rfl (fun ls hl => ?_)
        refine lv_goto (pc := 28) (tgt := 6) hx hb dX12_tellsBy_28 (by decide) ?_
        obtain ⟨k9, hlt9, hp⟩ := hp
        exact ih_1 k9 hlt9 _ _ _ _ _ hp hH (lv_sub hl [3, 4, 5, 1, 0] rfl)
  exact kl_1 k0_1 _ _ _ _ _ h0_1 hH (lv_sub hl [2, 3, 4, 1, 0] rfl)
theorem dX12_isTray_0 : decode cX12_isTray 0 = .ok (.iload_n 0, 1) := by decide +kernel
theorem dX12_isTray_1 : decode cX12_isTray 1 = .ok (.ifCond .lt 12, 3) := by decide +kernel
theorem dX12_isTray_4 : decode cX12_isTray 4 = .ok (.iload_n 0, 1) := by decide +kernel
theorem dX12_isTray_5 : decode cX12_isTray 5 = .ok (.iconst 4, 1) := by decide +kernel
theorem dX12_isTray_6 : decode cX12_isTray 6 = .ok (.if_icmp .ge 7, 3) := by decide +kernel
theorem dX12_isTray_9 : decode cX12_isTray 9 = .ok (.iconst 1, 1) := by decide +kernel
theorem dX12_isTray_10 : decode cX12_isTray 10 = .ok (.goto 4, 3) := by decide +kernel
theorem dX12_isTray_13 : decode cX12_isTray 13 = .ok (.iconst 0, 1) := by decide +kernel
theorem dX12_isTray_14 : decode cX12_isTray 14 = .ok (.ireturn, 1) := by decide +kernel
theorem mi_X12_isTray : MI yX12_isTray cX12_isTray 1 (some FieldType.boolean) 1 := ⟨w_1476, w_118, by decide +kernel, by decide +kernel, by decide +kernel⟩
set_option maxRecDepth 100000 in
set_option maxHeartbeats 4000000 in
theorem C_X12_isTray (G : GG) (l : Launch) (p0 : Int32) (S : St) (Q : Int32 → Prop) (hp : P_X12_isTray p0 Q) : Ctr G l yX12_isTray cX12_isTray 1 (some FieldType.boolean) 0 0 0 0 [.int p0] S (fun (v : Option Value) (S9 : St) => ∃ (r : Int32), v = some (.int r) ∧ S9 = S ∧ Q r ) := by
  generalize hQQ : (fun (v : Option Value) (S9 : St) => ∃ (r : Int32), v = some (.int r) ∧ S9 = S ∧ Q r ) = QQ
  unfold P_X12_isTray at hp
  refine Ctr.of (by decide) (Nat.le_of_ble_eq_true rfl) ?_
  intro p e s m args below meth c ls B hr hlk hin hl hH
  generalize hlocs0 : ([] : List Loc) = locs at hH ⊢
  have hx := B.1
  have hb := B.2.1
  have hl : lv_has ls 1 [(0, .int p0)] := hl
  refine lv_iload_n (pc := 0) hx hb dX12_isTray_0 rfl (lv_at hl 0 rfl) ?_
  refine lv_if_lt (pc := 1) (tgt := 13) hx hb dX12_isTray_1 (by decide) (fun cc_1 => ?_) (fun cc_1 => ?_)
  · have hp := hp.1 cc_1
    refine lv_iconst (pc := 13) (v := 0) hx hb dX12_isTray_13 (by decide) ?_
    exact sx_zret (pc := 14) B hH hr hlk (Or.inl rfl) (by rw [← hQQ]; exact ⟨_, rfl, rfl, hp⟩) (Nat.le_of_ble_eq_true rfl) (Nat.le_of_ble_eq_true rfl) dX12_isTray_14
  · have hp := hp.2 cc_1
    refine lv_iload_n (pc := 4) hx hb dX12_isTray_4 rfl (lv_at hl 0 rfl) ?_
    refine lv_iconst (pc := 5) (v := 4) hx hb dX12_isTray_5 (by decide) ?_
    refine lv_icmp_ge (pc := 6) (tgt := 13) hx hb dX12_isTray_6 (by decide) (fun cc_2 => ?_) (fun cc_2 => ?_)
    · have hp := hp.1 cc_2
      refine lv_iconst (pc := 13) (v := 0) hx hb dX12_isTray_13 (by decide) ?_
      exact sx_zret (pc := 14) B hH hr hlk (Or.inl rfl) (by rw [← hQQ]; exact ⟨_, rfl, rfl, hp⟩) (Nat.le_of_ble_eq_true rfl) (Nat.le_of_ble_eq_true rfl) dX12_isTray_14
    · have hp := hp.2 cc_2
      refine lv_iconst (pc := 9) (v := 1) hx hb dX12_isTray_9 (by decide) ?_
      refine lv_goto (pc := 10) (tgt := 14) hx hb dX12_isTray_10 (by decide) ?_
      exact sx_zret (pc := 14) B hH hr hlk (Or.inr rfl) (by rw [← hQQ]; exact ⟨_, rfl, rfl, hp⟩) (Nat.le_of_ble_eq_true rfl) (Nat.le_of_ble_eq_true rfl) dX12_isTray_14
theorem dX12_cut_0 : decode cX12_cut 0 = .ok (.iload_n 2, 1) := by decide +kernel
theorem dX12_cut_1 : decode cX12_cut 1 = .ok (.ifCond .ne 10, 3) := by decide +kernel
theorem dX12_cut_4 : decode cX12_cut 4 = .ok (.lload_n 0, 1) := by decide +kernel
theorem dX12_cut_5 : decode cX12_cut 5 = .ok (.l2i, 1) := by decide +kernel
theorem dX12_cut_6 : decode cX12_cut 6 = .ok (.i2b, 1) := by decide +kernel
theorem dX12_cut_7 : decode cX12_cut 7 = .ok (.i2l, 1) := by decide +kernel
theorem dX12_cut_8 : decode cX12_cut 8 = .ok (.goto 27, 3) := by decide +kernel
theorem dX12_cut_11 : decode cX12_cut 11 = .ok (.iload_n 2, 1) := by decide +kernel
theorem dX12_cut_12 : decode cX12_cut 12 = .ok (.iconst 1, 1) := by decide +kernel
theorem dX12_cut_13 : decode cX12_cut 13 = .ok (.if_icmp .ne 10, 3) := by decide +kernel
theorem dX12_cut_16 : decode cX12_cut 16 = .ok (.lload_n 0, 1) := by decide +kernel
theorem dX12_cut_17 : decode cX12_cut 17 = .ok (.l2i, 1) := by decide +kernel
theorem dX12_cut_18 : decode cX12_cut 18 = .ok (.i2s, 1) := by decide +kernel
theorem dX12_cut_19 : decode cX12_cut 19 = .ok (.i2l, 1) := by decide +kernel
theorem dX12_cut_20 : decode cX12_cut 20 = .ok (.goto 15, 3) := by decide +kernel
theorem dX12_cut_23 : decode cX12_cut 23 = .ok (.iload_n 2, 1) := by decide +kernel
theorem dX12_cut_24 : decode cX12_cut 24 = .ok (.iconst 2, 1) := by decide +kernel
theorem dX12_cut_25 : decode cX12_cut 25 = .ok (.if_icmp .ne 9, 3) := by decide +kernel
theorem dX12_cut_28 : decode cX12_cut 28 = .ok (.lload_n 0, 1) := by decide +kernel
theorem dX12_cut_29 : decode cX12_cut 29 = .ok (.l2i, 1) := by decide +kernel
theorem dX12_cut_30 : decode cX12_cut 30 = .ok (.i2l, 1) := by decide +kernel
theorem dX12_cut_31 : decode cX12_cut 31 = .ok (.goto 4, 3) := by decide +kernel
theorem dX12_cut_34 : decode cX12_cut 34 = .ok (.lload_n 0, 1) := by decide +kernel
theorem dX12_cut_35 : decode cX12_cut 35 = .ok (.lreturn, 1) := by decide +kernel
theorem mi_X12_cut : MI yX12_cut cX12_cut 3 (some FieldType.long) 2 := ⟨w_1491, w_118, by decide +kernel, by decide +kernel, by decide +kernel⟩
set_option maxRecDepth 100000 in
set_option maxHeartbeats 4000000 in
theorem C_X12_cut (G : GG) (l : Launch) (p0 : Int64) (p1 : Int32) (S : St) (Q : Int64 → Prop) (hp : P_X12_cut p0 p1 Q) : Ctr G l yX12_cut cX12_cut 3 (some FieldType.long) 0 0 0 0 [.long p0, .int p1] S (fun (v : Option Value) (S9 : St) => ∃ (r : Int64), v = some (.long r) ∧ S9 = S ∧ Q r ) := by
  generalize hQQ : (fun (v : Option Value) (S9 : St) => ∃ (r : Int64), v = some (.long r) ∧ S9 = S ∧ Q r ) = QQ
  unfold P_X12_cut at hp
  refine Ctr.of (by decide) (Nat.le_of_ble_eq_true rfl) ?_
  intro p e s m args below meth c ls B hr hlk hin hl hH
  generalize hlocs0 : ([] : List Loc) = locs at hH ⊢
  have hx := B.1
  have hb := B.2.1
  have hl : lv_has ls 3 [(0, .long p0), (2, .int p1)] := hl
  refine lv_iload_n (pc := 0) hx hb dX12_cut_0 rfl (lv_at hl 1 rfl) ?_
  refine lv_if_ne (pc := 1) (tgt := 11) hx hb dX12_cut_1 (by decide) (fun cc_1 => ?_) (fun cc_1 => ?_)
  · have hp := hp.1 cc_1
    refine lv_iload_n (pc := 11) hx hb dX12_cut_11 rfl (lv_at hl 1 rfl) ?_
    refine lv_iconst (pc := 12) (v := 1) hx hb dX12_cut_12 (by decide) ?_
    refine lv_icmp_ne (pc := 13) (tgt := 23) hx hb dX12_cut_13 (by decide) (fun cc_2 => ?_) (fun cc_2 => ?_)
    · have hp := hp.1 cc_2
      refine lv_iload_n (pc := 23) hx hb dX12_cut_23 rfl (lv_at hl 1 rfl) ?_
      refine lv_iconst (pc := 24) (v := 2) hx hb dX12_cut_24 (by decide) ?_
      refine lv_icmp_ne (pc := 25) (tgt := 34) hx hb dX12_cut_25 (by decide) (fun cc_3 => ?_) (fun cc_3 => ?_)
      · have hp := hp.1 cc_3
        refine lv_lload_n (pc := 34) hx hb dX12_cut_34 rfl (lv_at hl 0 rfl) ?_
        exact sx_lret (pc := 35) B hH hr hlk (by rw [← hQQ]; exact ⟨_, rfl, rfl, hp⟩) (Nat.le_of_ble_eq_true rfl) (Nat.le_of_ble_eq_true rfl) dX12_cut_35
      · have hp := hp.2 cc_3
        refine lv_lload_n (pc := 28) hx hb dX12_cut_28 rfl (lv_at hl 0 rfl) ?_
        refine lv_l2i (pc := 29) (v := p0.toInt32) hx hb dX12_cut_29 rfl ?_
        refine lv_i2l (pc := 30) (v := p0.toInt32.toInt64) hx hb dX12_cut_30 rfl ?_
        refine lv_goto (pc := 31) (tgt := 35) hx hb dX12_cut_31 (by decide) ?_
        exact sx_lret (pc := 35) B hH hr hlk (by rw [← hQQ]; exact ⟨_, rfl, rfl, hp⟩) (Nat.le_of_ble_eq_true rfl) (Nat.le_of_ble_eq_true rfl) dX12_cut_35
    · have hp := hp.2 cc_2
      refine lv_lload_n (pc := 16) hx hb dX12_cut_16 rfl (lv_at hl 0 rfl) ?_
      refine lv_l2i (pc := 17) (v := p0.toInt32) hx hb dX12_cut_17 rfl ?_
      refine lv_i2s (pc := 18) (v := p0.toInt32.toInt16.toInt32) hx hb dX12_cut_18 rfl ?_
      refine lv_i2l (pc := 19) (v := p0.toInt32.toInt16.toInt32.toInt64) hx hb dX12_cut_19 rfl ?_
      refine lv_goto (pc := 20) (tgt := 35) hx hb dX12_cut_20 (by decide) ?_
      exact sx_lret (pc := 35) B hH hr hlk (by rw [← hQQ]; exact ⟨_, rfl, rfl, hp⟩) (Nat.le_of_ble_eq_true rfl) (Nat.le_of_ble_eq_true rfl) dX12_cut_35
  · have hp := hp.2 cc_1
    refine lv_lload_n (pc := 4) hx hb dX12_cut_4 rfl (lv_at hl 0 rfl) ?_
    refine lv_l2i (pc := 5) (v := p0.toInt32) hx hb dX12_cut_5 rfl ?_
    refine lv_i2b (pc := 6) (v := p0.toInt32.toInt8.toInt32) hx hb dX12_cut_6 rfl ?_
    refine lv_i2l (pc := 7) (v := p0.toInt32.toInt8.toInt32.toInt64) hx hb dX12_cut_7 rfl ?_
    refine lv_goto (pc := 8) (tgt := 35) hx hb dX12_cut_8 (by decide) ?_
    exact sx_lret (pc := 35) B hH hr hlk (by rw [← hQQ]; exact ⟨_, rfl, rfl, hp⟩) (Nat.le_of_ble_eq_true rfl) (Nat.le_of_ble_eq_true rfl) dX12_cut_35
theorem dX12_tray_0 : decode cX12_tray 0 = .ok (.iload_n 1, 1) := by decide +kernel
theorem dX12_tray_1 : decode cX12_tray 1 = .ok (.invokestatic 116, 3) := by decide +kernel
theorem dX12_tray_4 : decode cX12_tray 4 = .ok (.ifCond .eq 22, 3) := by decide +kernel
theorem dX12_tray_7 : decode cX12_tray 7 = .ok (.iload_n 2, 1) := by decide +kernel
theorem dX12_tray_8 : decode cX12_tray 8 = .ok (.ifCond .lt 18, 3) := by decide +kernel
theorem dX12_tray_11 : decode cX12_tray 11 = .ok (.iload_n 2, 1) := by decide +kernel
theorem dX12_tray_12 : decode cX12_tray 12 = .ok (.iconst 3, 1) := by decide +kernel
theorem dX12_tray_13 : decode cX12_tray 13 = .ok (.if_icmp .gt 13, 3) := by decide +kernel
theorem dX12_tray_16 : decode cX12_tray 16 = .ok (.iload_n 3, 1) := by decide +kernel
theorem dX12_tray_17 : decode cX12_tray 17 = .ok (.ifCond .lt 9, 3) := by decide +kernel
theorem dX12_tray_20 : decode cX12_tray 20 = .ok (.iload_n 3, 1) := by decide +kernel
theorem dX12_tray_21 : decode cX12_tray 21 = .ok (.bipush 60, 2) := by decide +kernel
theorem dX12_tray_23 : decode cX12_tray 23 = .ok (.if_icmp .le 9, 3) := by decide +kernel
theorem dX12_tray_26 : decode cX12_tray 26 = .ok (.aload_n 0, 1) := by decide +kernel
theorem dX12_tray_27 : decode cX12_tray 27 = .ok (.iconst 1, 1) := by decide +kernel
theorem dX12_tray_28 : decode cX12_tray 28 = .ok (.invokevirtual 112, 3) := by decide +kernel
theorem dX12_tray_31 : decode cX12_tray 31 = .ok (.ireturn, 1) := by decide +kernel
theorem dX12_tray_32 : decode cX12_tray 32 = .ok (.aload_n 0, 1) := by decide +kernel
theorem dX12_tray_33 : decode cX12_tray 33 = .ok (.getfield 21, 3) := by decide +kernel
theorem dX12_tray_36 : decode cX12_tray 36 = .ok (.iload_n 1, 1) := by decide +kernel
theorem dX12_tray_37 : decode cX12_tray 37 = .ok (.iload_n 2, 1) := by decide +kernel
theorem dX12_tray_38 : decode cX12_tray 38 = .ok (.iastore, 1) := by decide +kernel
theorem dX12_tray_39 : decode cX12_tray 39 = .ok (.aload_n 0, 1) := by decide +kernel
theorem dX12_tray_40 : decode cX12_tray 40 = .ok (.getfield 24, 3) := by decide +kernel
theorem dX12_tray_43 : decode cX12_tray 43 = .ok (.iload_n 1, 1) := by decide +kernel
theorem dX12_tray_44 : decode cX12_tray 44 = .ok (.iload_n 3, 1) := by decide +kernel
theorem dX12_tray_45 : decode cX12_tray 45 = .ok (.iastore, 1) := by decide +kernel
theorem dX12_tray_46 : decode cX12_tray 46 = .ok (.iconst 0, 1) := by decide +kernel
theorem dX12_tray_47 : decode cX12_tray 47 = .ok (.istore 4, 2) := by decide +kernel
theorem dX12_tray_49 : decode cX12_tray 49 = .ok (.iload 4, 2) := by decide +kernel
theorem dX12_tray_51 : decode cX12_tray 51 = .ok (.iload_n 3, 1) := by decide +kernel
theorem dX12_tray_52 : decode cX12_tray 52 = .ok (.if_icmp .ge 22, 3) := by decide +kernel
theorem dX12_tray_55 : decode cX12_tray 55 = .ok (.aload_n 0, 1) := by decide +kernel
theorem dX12_tray_56 : decode cX12_tray 56 = .ok (.getfield 27, 3) := by decide +kernel
theorem dX12_tray_59 : decode cX12_tray 59 = .ok (.bipush 60, 2) := by decide +kernel
theorem dX12_tray_61 : decode cX12_tray 61 = .ok (.iload_n 1, 1) := by decide +kernel
theorem dX12_tray_62 : decode cX12_tray 62 = .ok (.imul, 1) := by decide +kernel
theorem dX12_tray_63 : decode cX12_tray 63 = .ok (.iload 4, 2) := by decide +kernel
theorem dX12_tray_65 : decode cX12_tray 65 = .ok (.iadd, 1) := by decide +kernel
theorem dX12_tray_66 : decode cX12_tray 66 = .ok (.lconst 0, 1) := by decide +kernel
theorem dX12_tray_67 : decode cX12_tray 67 = .ok (.lastore, 1) := by decide +kernel
theorem dX12_tray_68 : decode cX12_tray 68 = .ok (.iinc 4 1, 3) := by decide +kernel
theorem dX12_tray_71 : decode cX12_tray 71 = .ok (.goto (-22), 3) := by decide +kernel
theorem dX12_tray_74 : decode cX12_tray 74 = .ok (.aload_n 0, 1) := by decide +kernel
theorem dX12_tray_75 : decode cX12_tray 75 = .ok (.iconst 0, 1) := by decide +kernel
theorem dX12_tray_76 : decode cX12_tray 76 = .ok (.invokevirtual 112, 3) := by decide +kernel
theorem dX12_tray_79 : decode cX12_tray 79 = .ok (.ireturn, 1) := by decide +kernel
theorem mi_X12_tray : MI yX12_tray cX12_tray 5 (some FieldType.boolean) 3 := ⟨w_1473, w_118, by decide +kernel, by decide +kernel, by decide +kernel⟩
set_option maxRecDepth 100000 in
set_option maxHeartbeats 4000000 in
theorem C_X12_tray (G : GG) (l : Launch) (th : Nat) (p0 : Int32) (p1 : Int32) (p2 : Int32) (S : St) (Q : Int32 → (Nat → Nat → Int32) → (Nat → Nat → Int64) → Prop) (hp : P_X12_tray th p0 p1 p2 S Q) : Ctr G l yX12_tray cX12_tray 5 (some FieldType.boolean) 1 21 0 0 [.ref th, .int p0, .int p1, .int p2] S (fun (v : Option Value) (S9 : St) => ∃ (r : Int32) (I9 : Nat → Nat → Int32) (J9 : Nat → Nat → Int64), v = some (.int r) ∧ S9 = wA S I9 J9 (gR S) ∧ Q r I9 J9) := by
  generalize hQQ : (fun (v : Option Value) (S9 : St) => ∃ (r : Int32) (I9 : Nat → Nat → Int32) (J9 : Nat → Nat → Int64), v = some (.int r) ∧ S9 = wA S I9 J9 (gR S) ∧ Q r I9 J9) = QQ
  unfold P_X12_tray at hp
  refine Ctr.of (by decide) (Nat.le_of_ble_eq_true rfl) ?_
  intro p e s m args below meth c ls B hr hlk hin hl hH
  generalize hlocs0 : ([] : List Loc) = locs at hH ⊢
  have hx := B.1
  have hb := B.2.1
  have hl : lv_has ls 5 [(0, .ref th), (1, .int p0), (2, .int p1), (3, .int p2)] := hl
  obtain ⟨hk_th, hp⟩ := hp
  refine lv_iload_n (pc := 0) hx hb dX12_tray_0 rfl (lv_at hl 1 rfl) ?_
  refine sx_S (pc := 1) (As := [.int p0]) (rest := []) B hH hl.1 (C_X12_isTray G l p0 _ _ hp) mi_X12_isTray w_1475 w_1474 rfl rfl ⟨Nat.le_of_ble_eq_true rfl, Nat.le_of_ble_eq_true rfl⟩ (Nat.le_of_ble_eq_true rfl) ⟨Nat.le_of_ble_eq_true rfl, Nat.le_of_ble_eq_true rfl⟩ dX12_tray_1 (fun v S1 H locs hq hH => ?_)
  obtain ⟨r_1, rfl, e9, hp⟩ := hq
  rw [e9] at hH
  refine W.eq (g2 := F0 m 4 ls [.int r_1]) rfl ?_
  obtain ⟨J_3, hj_3, hp⟩ := hp
  have kj_3 : ∀  (H : Heap) (locs : List Loc) (ls : Array Slot), J_3  → Hp G (FA S s.heap.size) s.heap S H locs → lv_has ls 5 [(0, .ref th)] → Wm G p l e { frames := 1, cells := 0, slots := 0, locals := 21 } s m args below meth c S QQ 0 0 H locs 0 0 (F0 m 26 ls []) := by
    intro  H locs ls hq9 hH hl
    have hp := hj_3  hq9
    refine lv_aload_n (pc := 26) hx hb dX12_tray_26 rfl (lv_at hl 0 rfl) ?_
    refine lv_iconst (pc := 27) (v := 1) hx hb dX12_tray_27 (by decide) ?_
    refine sx_V (pc := 28) (As := [.int 1]) (rest := []) B hH hl.1 (C_X12_is G l th 1 _ _ hp) mi_X12_is coX12 hk_th w_1479 w_45 w_1477 rfl rfl ⟨Nat.le_of_ble_eq_true rfl, Nat.le_of_ble_eq_true rfl⟩ (Nat.le_of_ble_eq_true rfl) ⟨Nat.le_of_ble_eq_true rfl, Nat.le_of_ble_eq_true rfl⟩ dX12_tray_28 (fun v S1 H locs hq hH => ?_)
    obtain ⟨r_4, F_4, rfl, e9, hp⟩ := hq
    rw [e9] at hH
    have hH : Hp G (FA S s.heap.size) s.heap (wI S F_4) H locs := hH
    refine W.eq (g2 := F0 m 31 ls [.int r_4]) rfl ?_
    obtain ⟨hz, hp⟩ := hp
    exact sx_zret (pc := 31) B hH hr hlk hz (by rw [← hQQ]; exact ⟨_, F_4, (gJ S), rfl, rfl, hp⟩) (Nat.le_of_ble_eq_true rfl) (Nat.le_of_ble_eq_true rfl) dX12_tray_31
  refine lv_if_eq (pc := 4) (tgt := 26) hx hb dX12_tray_4 (by decide) (fun cc_2 => ?_) (fun cc_2 => ?_)
  · have hp := hp.1 cc_2
    exact kj_3  _ _ _ hp hH (lv_sub hl [0] rfl)
  · have hp := hp.2 cc_2
    refine lv_iload_n (pc := 7) hx hb dX12_tray_7 rfl (lv_at hl 2 rfl) ?_
    refine lv_if_lt (pc := 8) (tgt := 26) hx hb dX12_tray_8 (by decide) (fun cc_5 => ?_) (fun cc_5 => ?_)
    · have hp := hp.1 cc_5
      exact kj_3  _ _ _ hp hH (lv_sub hl [0] rfl)
    · have hp := hp.2 cc_5
      refine lv_iload_n (pc := 11) hx hb dX12_tray_11 rfl (lv_at hl 2 rfl) ?_
      refine lv_iconst (pc := 12) (v := 3) hx hb dX12_tray_12 (by decide) ?_
      refine lv_icmp_gt (pc := 13) (tgt := 26) hx hb dX12_tray_13 (by decide) (fun cc_6 => ?_) (fun cc_6 => ?_)
      · have hp := hp.1 cc_6
        exact kj_3  _ _ _ hp hH (lv_sub hl [0] rfl)
      · have hp := hp.2 cc_6
        refine lv_iload_n (pc := 16) hx hb dX12_tray_16 rfl (lv_at hl 3 rfl) ?_
        refine lv_if_lt (pc := 17) (tgt := 26) hx hb dX12_tray_17 (by decide) (fun cc_7 => ?_) (fun cc_7 => ?_)
        · have hp := hp.1 cc_7
          exact kj_3  _ _ _ hp hH (lv_sub hl [0] rfl)
        · have hp := hp.2 cc_7
          refine lv_iload_n (pc := 20) hx hb dX12_tray_20 rfl (lv_at hl 3 rfl) ?_
          refine lv_bipush (pc := 21) (v := 60) hx hb dX12_tray_21 (by decide) ?_
          refine lv_icmp_le (pc := 23) (tgt := 32) hx hb dX12_tray_23 (by decide) (fun cc_8 => ?_) (fun cc_8 => ?_)
          · have hp := hp.1 cc_8
            refine lv_aload_n (pc := 32) hx hb dX12_tray_32 rfl (lv_at hl 0 rfl) ?_
            refine sx_getR (pc := 33) (j := 5) B hH hk_th coX12 rfl w_1309 rfl dX12_tray_33 ?_
            refine W.eq (g2 := F0 m 36 ls [va_rf (gR S th 5)]) rfl ?_
            obtain ⟨a_9, ha_9, hp⟩ := hp
            refine sx_nonnull (x := a_9) ha_9 ?_
            refine lv_iload_n (pc := 36) hx hb dX12_tray_36 rfl (lv_at hl 1 rfl) ?_
            refine lv_iload_n (pc := 37) hx hb dX12_tray_37 rfl (lv_at hl 2 rfl) ?_
            obtain ⟨hk_10, hp⟩ := hp
            obtain ⟨hn_11, hp⟩ := hp
            obtain ⟨F_12, eF_12⟩ : ∃ z : Nat → Nat → Int32, z = upI (gI S) a_9 p0.toNatClampNeg p1 := ⟨_, rfl⟩
            have hp := hp F_12 eF_12
            refine sx_iast (pc := 38) B hH hk_10 hn_11 dX12_tray_38 (fun H locs hH => ?_)
            have hH : Hp G (FA S s.heap.size) s.heap (wI S F_12) H locs := by rw [eF_12]; exact hH
            refine lv_aload_n (pc := 39) hx hb dX12_tray_39 rfl (lv_at hl 0 rfl) ?_
            refine sx_getR (pc := 40) (j := 6) B hH hk_th coX12 rfl w_1310 rfl dX12_tray_40 ?_
            refine W.eq (g2 := F0 m 43 ls [va_rf (gR S th 6)]) rfl ?_
            obtain ⟨a_13, ha_13, hp⟩ := hp
            refine sx_nonnull (x := a_13) ha_13 ?_
            refine lv_iload_n (pc := 43) hx hb dX12_tray_43 rfl (lv_at hl 1 rfl) ?_
            refine lv_iload_n (pc := 44) hx hb dX12_tray_44 rfl (lv_at hl 3 rfl) ?_
            obtain ⟨hk_14, hp⟩ := hp
            obtain ⟨hn_15, hp⟩ := hp
            obtain ⟨F_16, eF_16⟩ : ∃ z : Nat → Nat → Int32, z = upI F_12 a_13 p0.toNatClampNeg p2 := ⟨_, rfl⟩
            have hp := hp F_16 eF_16
            refine sx_iast (pc := 45) B hH hk_14 hn_15 dX12_tray_45 (fun H locs hH => ?_)
            have hH : Hp G (FA S s.heap.size) s.heap (wI S F_16) H locs := by rw [eF_16]; exact hH
            refine lv_iconst (pc := 46) (v := 0) hx hb dX12_tray_46 (by decide) ?_
            refine lv_istore (pc := 47) (lv' := [(4, .int 0), (0, .ref th), (1, .int p0), (2, .int p1), (3, .int p2)]) hx hb dX12_tray_47 hl (by decide) rfl (fun ls hl => ?_)
            obtain ⟨I_17, ⟨k0_17, h0_17⟩, hst_17⟩ := hp
            have kl_17 : ∀ (n_17 : Nat) (x4_18 : Int32) (J_19 : Nat → Nat → Int64) (H : Heap) (locs : List Loc) (ls : Array Slot), I_17 n_17 x4_18 J_19 → Hp G (FA S s.heap.size) s.heap (wA S F_16 J_19 (gR S)) H locs → lv_has ls 5 [(0, .ref th), (1, .int p0), (3, .int p2), (4, .int x4_18)] → Wm G p l e { frames := 1, cells := 0, slots := 0, locals := 21 } s m args below meth c S QQ 0 0 H locs 0 0 (F0 m 49 ls []) := by
              intro n_17
              induction n_17 using Nat.strongRecOn with
              | ind n_17 ih_17 =>
                intro x4_18 J_19 H locs ls hq9 hH hl
                have hp := hst_17 n_17 x4_18 J_19 hq9
                refine lv_iload (pc := 49) hx hb dX12_tray_49 (lv_at hl 3 rfl) ?_
                refine lv_iload_n (pc := 51) hx hb dX12_tray_51 rfl (lv_at hl 2 rfl) ?_
                refine lv_icmp_ge (pc := 52) (tgt := 74) hx hb dX12_tray_52 (by decide) (fun cc_20 => ?_) (fun cc_20 => ?_)
                · have hp := hp.1 cc_20
                  refine lv_aload_n (pc := 74) hx hb dX12_tray_74 rfl (lv_at hl 0 rfl) ?_
                  refine lv_iconst (pc := 75) (v := 0) hx hb dX12_tray_75 (by decide) ?_
                  refine sx_V (pc := 76) (As := [.int 0]) (rest := []) B hH hl.1 (C_X12_is G l th 0 _ _ hp) mi_X12_is coX12 hk_th w_1479 w_45 w_1477 rfl rfl ⟨Nat.le_of_ble_eq_true rfl, Nat.le_of_ble_eq_true rfl⟩ (Nat.le_of_ble_eq_true rfl) ⟨Nat.le_of_ble_eq_true rfl, Nat.le_of_ble_eq_true rfl⟩ dX12_tray_76 (fun v S1 H locs hq hH => ?_)
                  obtain ⟨r_21, F_21, rfl, e9, hp⟩ := hq
                  rw [e9] at hH
                  have hH : Hp G (FA S s.heap.size) s.heap (wA S F_21 J_19 (gR S)) H locs := hH
                  refine W.eq (g2 := F0 m 79 ls [.int r_21]) rfl ?_
                  obtain ⟨hz, hp⟩ := hp
                  exact sx_zret (pc := 79) B hH hr hlk hz (by rw [← hQQ]; exact ⟨_, F_21, J_19, rfl, rfl, hp⟩) (Nat.le_of_ble_eq_true rfl) (Nat.le_of_ble_eq_true rfl) dX12_tray_79
                · have hp := hp.2 cc_20
                  refine lv_aload_n (pc := 55) hx hb dX12_tray_55 rfl (lv_at hl 0 rfl) ?_
                  refine sx_getR (pc := 56) (j := 7) B hH hk_th coX12 rfl w_1311 rfl dX12_tray_56 ?_
                  refine W.eq (g2 := F0 m 59 ls [va_rf (gR S th 7)]) rfl ?_
                  obtain ⟨a_22, ha_22, hp⟩ := hp
                  refine sx_nonnull (x := a_22) ha_22 ?_
                  refine lv_bipush (pc := 59) (v := 60) hx hb dX12_tray_59 (by decide) ?_
                  refine lv_iload_n (pc := 61) hx hb dX12_tray_61 rfl (lv_at hl 1 rfl) ?_
                  refine lv_imul (pc := 62) hx hb dX12_tray_62 ?_
                  refine lv_iload (pc := 63) hx hb dX12_tray_63 (lv_at hl 3 rfl) ?_
                  refine lv_iadd (pc := 65) hx hb dX12_tray_65 ?_
                  refine lv_lconst (pc := 66) (v := 0) hx hb dX12_tray_66 (by decide) ?_
                  obtain ⟨hk_23, hp⟩ := hp
                  obtain ⟨hn_24, hp⟩ := hp
                  obtain ⟨J_25, eJ_25⟩ : ∃ z : Nat → Nat → Int64, z = upJ J_19 a_22 (((60 * p0) + x4_18).toNatClampNeg) 0 := ⟨_, rfl⟩
                  have hp := hp J_25 eJ_25
                  refine sx_last (pc := 67) B hH hk_23 hn_24 dX12_tray_67 (fun H locs hH => ?_)
                  have hH : Hp G (FA S s.heap.size) s.heap (wA S F_16 J_25 (gR S)) H locs := by rw [eJ_25]; exact hH
                  obtain ⟨v_26, ev_26⟩ : ∃ y : Int32, y = x4_18 + 1 := ⟨_, rfl⟩
                  have hp := hp v_26 ev_26
                  refine lv_iinc (pc := 68) (v := v_26) (lv' := [(4, .int v_26), (0, .ref th), (1, .int p0), (3, .int p2)]) hx hb dX12_tray_68 hl (k := 3) rfl (by rw [ev_26]; rfl) (by decide) rfl (fun ls hl => ?_)
                  refine lv_goto (pc := 71) (tgt := 49) hx hb dX12_tray_71 (by decide) ?_
                  obtain ⟨k9, hlt9, hp⟩ := hp
                  exact ih_17 k9 hlt9 _ _ _ _ _ hp hH (lv_sub hl [1, 2, 3, 0] rfl)
            exact kl_17 k0_17 _ _ _ _ _ h0_17 hH (lv_sub hl [1, 2, 4, 0] rfl)
          · have hp := hp.2 cc_8
            exact kj_3  _ _ _ hp hH (lv_sub hl [0] rfl)
theorem dX12_wrongPlace_0 : decode cX12_wrongPlace 0 = .ok (.iload_n 1, 1) := by decide +kernel
theorem dX12_wrongPlace_1 : decode cX12_wrongPlace 1 = .ok (.invokestatic 116, 3) := by decide +kernel
theorem dX12_wrongPlace_4 : decode cX12_wrongPlace 4 = .ok (.ifCond .ne 7, 3) := by decide +kernel
theorem dX12_wrongPlace_7 : decode cX12_wrongPlace 7 = .ok (.iconst 1, 1) := by decide +kernel
theorem dX12_wrongPlace_8 : decode cX12_wrongPlace 8 = .ok (.goto 36, 3) := by decide +kernel
theorem dX12_wrongPlace_11 : decode cX12_wrongPlace 11 = .ok (.aload_n 0, 1) := by decide +kernel
theorem dX12_wrongPlace_12 : decode cX12_wrongPlace 12 = .ok (.getfield 24, 3) := by decide +kernel
theorem dX12_wrongPlace_15 : decode cX12_wrongPlace 15 = .ok (.iload_n 1, 1) := by decide +kernel
theorem dX12_wrongPlace_16 : decode cX12_wrongPlace 16 = .ok (.iaload, 1) := by decide +kernel
theorem dX12_wrongPlace_17 : decode cX12_wrongPlace 17 = .ok (.iconst (-1), 1) := by decide +kernel
theorem dX12_wrongPlace_18 : decode cX12_wrongPlace 18 = .ok (.if_icmp .ne 7, 3) := by decide +kernel
theorem dX12_wrongPlace_21 : decode cX12_wrongPlace 21 = .ok (.iconst 2, 1) := by decide +kernel
theorem dX12_wrongPlace_22 : decode cX12_wrongPlace 22 = .ok (.goto 22, 3) := by decide +kernel
theorem dX12_wrongPlace_25 : decode cX12_wrongPlace 25 = .ok (.iload_n 2, 1) := by decide +kernel
theorem dX12_wrongPlace_26 : decode cX12_wrongPlace 26 = .ok (.ifCond .lt 13, 3) := by decide +kernel
theorem dX12_wrongPlace_29 : decode cX12_wrongPlace 29 = .ok (.iload_n 2, 1) := by decide +kernel
theorem dX12_wrongPlace_30 : decode cX12_wrongPlace 30 = .ok (.aload_n 0, 1) := by decide +kernel
theorem dX12_wrongPlace_31 : decode cX12_wrongPlace 31 = .ok (.getfield 24, 3) := by decide +kernel
theorem dX12_wrongPlace_34 : decode cX12_wrongPlace 34 = .ok (.iload_n 1, 1) := by decide +kernel
theorem dX12_wrongPlace_35 : decode cX12_wrongPlace 35 = .ok (.iaload, 1) := by decide +kernel
theorem dX12_wrongPlace_36 : decode cX12_wrongPlace 36 = .ok (.if_icmp .lt 7, 3) := by decide +kernel
theorem dX12_wrongPlace_39 : decode cX12_wrongPlace 39 = .ok (.iconst 3, 1) := by decide +kernel
theorem dX12_wrongPlace_40 : decode cX12_wrongPlace 40 = .ok (.goto 4, 3) := by decide +kernel
theorem dX12_wrongPlace_43 : decode cX12_wrongPlace 43 = .ok (.iconst 0, 1) := by decide +kernel
theorem dX12_wrongPlace_44 : decode cX12_wrongPlace 44 = .ok (.ireturn, 1) := by decide +kernel
theorem mi_X12_wrongPlace : MI yX12_wrongPlace cX12_wrongPlace 3 (some FieldType.int) 2 := ⟨w_1488, w_118, by decide +kernel, by decide +kernel, by decide +kernel⟩
set_option maxRecDepth 100000 in
set_option maxHeartbeats 4000000 in
theorem C_X12_wrongPlace (G : GG) (l : Launch) (th : Nat) (p0 : Int32) (p1 : Int32) (S : St) (Q : Int32 → Prop) (hp : P_X12_wrongPlace th p0 p1 S Q) : Ctr G l yX12_wrongPlace cX12_wrongPlace 3 (some FieldType.int) 1 20 0 0 [.ref th, .int p0, .int p1] S (fun (v : Option Value) (S9 : St) => ∃ (r : Int32), v = some (.int r) ∧ S9 = S ∧ Q r ) := by
  generalize hQQ : (fun (v : Option Value) (S9 : St) => ∃ (r : Int32), v = some (.int r) ∧ S9 = S ∧ Q r ) = QQ
  unfold P_X12_wrongPlace at hp
  refine Ctr.of (by decide) (Nat.le_of_ble_eq_true rfl) ?_
  intro p e s m args below meth c ls B hr hlk hin hl hH
  generalize hlocs0 : ([] : List Loc) = locs at hH ⊢
  have hx := B.1
  have hb := B.2.1
  have hl : lv_has ls 3 [(0, .ref th), (1, .int p0), (2, .int p1)] := hl
  obtain ⟨hk_th, hp⟩ := hp
  refine lv_iload_n (pc := 0) hx hb dX12_wrongPlace_0 rfl (lv_at hl 1 rfl) ?_
  refine sx_S (pc := 1) (As := [.int p0]) (rest := []) B hH hl.1 (C_X12_isTray G l p0 _ _ hp) mi_X12_isTray w_1475 w_1474 rfl rfl ⟨Nat.le_of_ble_eq_true rfl, Nat.le_of_ble_eq_true rfl⟩ (Nat.le_of_ble_eq_true rfl) ⟨Nat.le_of_ble_eq_true rfl, Nat.le_of_ble_eq_true rfl⟩ dX12_wrongPlace_1 (fun v S1 H locs hq hH => ?_)
  obtain ⟨r_1, rfl, e9, hp⟩ := hq
  rw [e9] at hH
  refine W.eq (g2 := F0 m 4 ls [.int r_1]) rfl ?_
  refine lv_if_ne (pc := 4) (tgt := 11) hx hb dX12_wrongPlace_4 (by decide) (fun cc_2 => ?_) (fun cc_2 => ?_)
  · have hp := hp.1 cc_2
    refine lv_aload_n (pc := 11) hx hb dX12_wrongPlace_11 rfl (lv_at hl 0 rfl) ?_
    refine sx_getR (pc := 12) (j := 6) B hH hk_th coX12 rfl w_1310 rfl dX12_wrongPlace_12 ?_
    refine W.eq (g2 := F0 m 15 ls [va_rf (gR S th 6)]) rfl ?_
    obtain ⟨a_3, ha_3, hp⟩ := hp
    refine sx_nonnull (x := a_3) ha_3 ?_
    refine lv_iload_n (pc := 15) hx hb dX12_wrongPlace_15 rfl (lv_at hl 1 rfl) ?_
    obtain ⟨hk_4, hp⟩ := hp
    obtain ⟨hn_5, hp⟩ := hp
    refine sx_iald (pc := 16) B hH hk_4 hn_5 dX12_wrongPlace_16 ?_
    refine W.eq (g2 := F0 m 17 ls [.int (gI S a_3 p0.toNatClampNeg)]) rfl ?_
    refine lv_iconst (pc := 17) (v := (-1)) hx hb dX12_wrongPlace_17 (by decide) ?_
    refine lv_icmp_ne (pc := 18) (tgt := 25) hx hb dX12_wrongPlace_18 (by decide) (fun cc_6 => ?_) (fun cc_6 => ?_)
    · have hp := hp.1 cc_6
      refine lv_iload_n (pc := 25) hx hb dX12_wrongPlace_25 rfl (lv_at hl 2 rfl) ?_
      refine lv_if_lt (pc := 26) (tgt := 39) hx hb dX12_wrongPlace_26 (by decide) (fun cc_7 => ?_) (fun cc_7 => ?_)
      · have hp := hp.1 cc_7
        refine lv_iconst (pc := 39) (v := 3) hx hb dX12_wrongPlace_39 (by decide) ?_
        refine lv_goto (pc := 40) (tgt := 44) hx hb dX12_wrongPlace_40 (by decide) ?_
        exact sx_iret (pc := 44) B hH hr hlk (by rw [← hQQ]; exact ⟨_, rfl, rfl, hp⟩) (Nat.le_of_ble_eq_true rfl) (Nat.le_of_ble_eq_true rfl) dX12_wrongPlace_44
      · have hp := hp.2 cc_7
        refine lv_iload_n (pc := 29) hx hb dX12_wrongPlace_29 rfl (lv_at hl 2 rfl) ?_
        refine lv_aload_n (pc := 30) hx hb dX12_wrongPlace_30 rfl (lv_at hl 0 rfl) ?_
        refine sx_getR (pc := 31) (j := 6) B hH hk_th coX12 rfl w_1310 rfl dX12_wrongPlace_31 ?_
        refine W.eq (g2 := F0 m 34 ls [va_rf (gR S th 6), .int p1]) rfl ?_
        refine sx_nonnull (x := a_3) ha_3 ?_
        refine lv_iload_n (pc := 34) hx hb dX12_wrongPlace_34 rfl (lv_at hl 1 rfl) ?_
        refine sx_iald (pc := 35) B hH hk_4 hn_5 dX12_wrongPlace_35 ?_
        refine W.eq (g2 := F0 m 36 ls [.int (gI S a_3 p0.toNatClampNeg), .int p1]) rfl ?_
        refine lv_icmp_lt (pc := 36) (tgt := 43) hx hb dX12_wrongPlace_36 (by decide) (fun cc_8 => ?_) (fun cc_8 => ?_)
        · have hp := hp.1 cc_8
          refine lv_iconst (pc := 43) (v := 0) hx hb dX12_wrongPlace_43 (by decide) ?_
          exact sx_iret (pc := 44) B hH hr hlk (by rw [← hQQ]; exact ⟨_, rfl, rfl, hp⟩) (Nat.le_of_ble_eq_true rfl) (Nat.le_of_ble_eq_true rfl) dX12_wrongPlace_44
        · have hp := hp.2 cc_8
          refine lv_iconst (pc := 39) (v := 3) hx hb dX12_wrongPlace_39 (by decide) ?_
          refine lv_goto (pc := 40) (tgt := 44) hx hb dX12_wrongPlace_40 (by decide) ?_
          exact sx_iret (pc := 44) B hH hr hlk (by rw [← hQQ]; exact ⟨_, rfl, rfl, hp⟩) (Nat.le_of_ble_eq_true rfl) (Nat.le_of_ble_eq_true rfl) dX12_wrongPlace_44
    · have hp := hp.2 cc_6
      refine lv_iconst (pc := 21) (v := 2) hx hb dX12_wrongPlace_21 (by decide) ?_
      refine lv_goto (pc := 22) (tgt := 44) hx hb dX12_wrongPlace_22 (by decide) ?_
      exact sx_iret (pc := 44) B hH hr hlk (by rw [← hQQ]; exact ⟨_, rfl, rfl, hp⟩) (Nat.le_of_ble_eq_true rfl) (Nat.le_of_ble_eq_true rfl) dX12_wrongPlace_44
  · have hp := hp.2 cc_2
    refine lv_iconst (pc := 7) (v := 1) hx hb dX12_wrongPlace_7 (by decide) ?_
    refine lv_goto (pc := 8) (tgt := 44) hx hb dX12_wrongPlace_8 (by decide) ?_
    exact sx_iret (pc := 44) B hH hr hlk (by rw [← hQQ]; exact ⟨_, rfl, rfl, hp⟩) (Nat.le_of_ble_eq_true rfl) (Nat.le_of_ble_eq_true rfl) dX12_wrongPlace_44
theorem dX12_write_0 : decode cX12_write 0 = .ok (.aload_n 0, 1) := by decide +kernel
theorem dX12_write_1 : decode cX12_write 1 = .ok (.iload_n 1, 1) := by decide +kernel
theorem dX12_write_2 : decode cX12_write 2 = .ok (.iload_n 2, 1) := by decide +kernel
theorem dX12_write_3 : decode cX12_write 3 = .ok (.invokevirtual 119, 3) := by decide +kernel
theorem dX12_write_6 : decode cX12_write 6 = .ok (.istore 5, 2) := by decide +kernel
theorem dX12_write_8 : decode cX12_write 8 = .ok (.iload 5, 2) := by decide +kernel
theorem dX12_write_10 : decode cX12_write 10 = .ok (.ifCond .ne 24, 3) := by decide +kernel
theorem dX12_write_13 : decode cX12_write 13 = .ok (.aload_n 0, 1) := by decide +kernel
theorem dX12_write_14 : decode cX12_write 14 = .ok (.getfield 27, 3) := by decide +kernel
theorem dX12_write_17 : decode cX12_write 17 = .ok (.bipush 60, 2) := by decide +kernel
theorem dX12_write_19 : decode cX12_write 19 = .ok (.iload_n 1, 1) := by decide +kernel
theorem dX12_write_20 : decode cX12_write 20 = .ok (.imul, 1) := by decide +kernel
theorem dX12_write_21 : decode cX12_write 21 = .ok (.iload_n 2, 1) := by decide +kernel
theorem dX12_write_22 : decode cX12_write 22 = .ok (.iadd, 1) := by decide +kernel
theorem dX12_write_23 : decode cX12_write 23 = .ok (.lload_n 3, 1) := by decide +kernel
theorem dX12_write_24 : decode cX12_write 24 = .ok (.aload_n 0, 1) := by decide +kernel
theorem dX12_write_25 : decode cX12_write 25 = .ok (.getfield 21, 3) := by decide +kernel
theorem dX12_write_28 : decode cX12_write 28 = .ok (.iload_n 1, 1) := by decide +kernel
theorem dX12_write_29 : decode cX12_write 29 = .ok (.iaload, 1) := by decide +kernel
theorem dX12_write_30 : decode cX12_write 30 = .ok (.invokestatic 123, 3) := by decide +kernel
theorem dX12_write_33 : decode cX12_write 33 = .ok (.lastore, 1) := by decide +kernel
theorem dX12_write_34 : decode cX12_write 34 = .ok (.aload_n 0, 1) := by decide +kernel
theorem dX12_write_35 : decode cX12_write 35 = .ok (.iload 5, 2) := by decide +kernel
theorem dX12_write_37 : decode cX12_write 37 = .ok (.invokevirtual 112, 3) := by decide +kernel
theorem dX12_write_40 : decode cX12_write 40 = .ok (.ireturn, 1) := by decide +kernel
theorem mi_X12_write : MI yX12_write cX12_write 6 (some FieldType.boolean) 3 := ⟨w_1484, w_118, by decide +kernel, by decide +kernel, by decide +kernel⟩
set_option maxRecDepth 100000 in
set_option maxHeartbeats 4000000 in
theorem C_X12_write (G : GG) (l : Launch) (th : Nat) (p0 : Int32) (p1 : Int32) (p2 : Int64) (S : St) (Q : Int32 → (Nat → Nat → Int32) → (Nat → Nat → Int64) → Prop) (hp : P_X12_write th p0 p1 p2 S Q) : Ctr G l yX12_write cX12_write 6 (some FieldType.boolean) 2 42 0 0 [.ref th, .int p0, .int p1, .long p2] S (fun (v : Option Value) (S9 : St) => ∃ (r : Int32) (I9 : Nat → Nat → Int32) (J9 : Nat → Nat → Int64), v = some (.int r) ∧ S9 = wA S I9 J9 (gR S) ∧ Q r I9 J9) := by
  generalize hQQ : (fun (v : Option Value) (S9 : St) => ∃ (r : Int32) (I9 : Nat → Nat → Int32) (J9 : Nat → Nat → Int64), v = some (.int r) ∧ S9 = wA S I9 J9 (gR S) ∧ Q r I9 J9) = QQ
  unfold P_X12_write at hp
  refine Ctr.of (by decide) (Nat.le_of_ble_eq_true rfl) ?_
  intro p e s m args below meth c ls B hr hlk hin hl hH
  generalize hlocs0 : ([] : List Loc) = locs at hH ⊢
  have hx := B.1
  have hb := B.2.1
  have hl : lv_has ls 6 [(0, .ref th), (1, .int p0), (2, .int p1), (3, .long p2)] := hl
  obtain ⟨hk_th, hp⟩ := hp
  refine lv_aload_n (pc := 0) hx hb dX12_write_0 rfl (lv_at hl 0 rfl) ?_
  refine lv_iload_n (pc := 1) hx hb dX12_write_1 rfl (lv_at hl 1 rfl) ?_
  refine lv_iload_n (pc := 2) hx hb dX12_write_2 rfl (lv_at hl 2 rfl) ?_
  refine sx_V (pc := 3) (As := [.int p0, .int p1]) (rest := []) B hH hl.1 (C_X12_wrongPlace G l th p0 p1 _ _ hp) mi_X12_wrongPlace coX12 hk_th w_1487 w_46 w_1485 rfl rfl ⟨Nat.le_of_ble_eq_true rfl, Nat.le_of_ble_eq_true rfl⟩ (Nat.le_of_ble_eq_true rfl) ⟨Nat.le_of_ble_eq_true rfl, Nat.le_of_ble_eq_true rfl⟩ dX12_write_3 (fun v S1 H locs hq hH => ?_)
  obtain ⟨r_1, rfl, e9, hp⟩ := hq
  rw [e9] at hH
  refine W.eq (g2 := F0 m 6 ls [.int r_1]) rfl ?_
  refine lv_istore (pc := 6) (lv' := [(5, .int r_1), (0, .ref th), (1, .int p0), (2, .int p1), (3, .long p2)]) hx hb dX12_write_6 hl (by decide) rfl (fun ls hl => ?_)
  refine lv_iload (pc := 8) hx hb dX12_write_8 (lv_at hl 0 rfl) ?_
  obtain ⟨J_3, hj_3, hp⟩ := hp
  have kj_3 : ∀ (J_4 : Nat → Nat → Int64) (H : Heap) (locs : List Loc) (ls : Array Slot), J_3 J_4 → Hp G (FA S s.heap.size) s.heap (wA S (gI S) J_4 (gR S)) H locs → lv_has ls 6 [(0, .ref th), (5, .int r_1)] → Wm G p l e { frames := 2, cells := 0, slots := 0, locals := 42 } s m args below meth c S QQ 0 0 H locs 0 0 (F0 m 34 ls []) := by
    intro J_4 H locs ls hq9 hH hl
    have hp := hj_3 J_4 hq9
    refine lv_aload_n (pc := 34) hx hb dX12_write_34 rfl (lv_at hl 0 rfl) ?_
    refine lv_iload (pc := 35) hx hb dX12_write_35 (lv_at hl 1 rfl) ?_
    refine sx_V (pc := 37) (As := [.int r_1]) (rest := []) B hH hl.1 (C_X12_is G l th r_1 _ _ hp) mi_X12_is coX12 hk_th w_1479 w_45 w_1477 rfl rfl ⟨Nat.le_of_ble_eq_true rfl, Nat.le_of_ble_eq_true rfl⟩ (Nat.le_of_ble_eq_true rfl) ⟨Nat.le_of_ble_eq_true rfl, Nat.le_of_ble_eq_true rfl⟩ dX12_write_37 (fun v S1 H locs hq hH => ?_)
    obtain ⟨r_5, F_5, rfl, e9, hp⟩ := hq
    rw [e9] at hH
    have hH : Hp G (FA S s.heap.size) s.heap (wA S F_5 J_4 (gR S)) H locs := hH
    refine W.eq (g2 := F0 m 40 ls [.int r_5]) rfl ?_
    obtain ⟨hz, hp⟩ := hp
    exact sx_zret (pc := 40) B hH hr hlk hz (by rw [← hQQ]; exact ⟨_, F_5, J_4, rfl, rfl, hp⟩) (Nat.le_of_ble_eq_true rfl) (Nat.le_of_ble_eq_true rfl) dX12_write_40
  refine lv_if_ne (pc := 10) (tgt := 34) hx hb dX12_write_10 (by decide) (fun cc_2 => ?_) (fun cc_2 => ?_)
  · have hp := hp.1 cc_2
    exact kj_3 _ _ _ _ hp hH (lv_sub hl [1, 0] rfl)
  · have hp := hp.2 cc_2
    refine lv_aload_n (pc := 13) hx hb dX12_write_13 rfl (lv_at hl 1 rfl) ?_
    refine sx_getR (pc := 14) (j := 7) B hH hk_th coX12 rfl w_1311 rfl dX12_write_14 ?_
    refine W.eq (g2 := F0 m 17 ls [va_rf (gR S th 7)]) rfl ?_
    obtain ⟨a_6, ha_6, hp⟩ := hp
    refine sx_nonnull (x := a_6) ha_6 ?_
    refine lv_bipush (pc := 17) (v := 60) hx hb dX12_write_17 (by decide) ?_
    refine lv_iload_n (pc := 19) hx hb dX12_write_19 rfl (lv_at hl 2 rfl) ?_
    refine lv_imul (pc := 20) hx hb dX12_write_20 ?_
    refine lv_iload_n (pc := 21) hx hb dX12_write_21 rfl (lv_at hl 3 rfl) ?_
    refine lv_iadd (pc := 22) hx hb dX12_write_22 ?_
    refine lv_lload_n (pc := 23) hx hb dX12_write_23 rfl (lv_at hl 4 rfl) ?_
    refine lv_aload_n (pc := 24) hx hb dX12_write_24 rfl (lv_at hl 1 rfl) ?_
    refine sx_getR (pc := 25) (j := 5) B hH hk_th coX12 rfl w_1309 rfl dX12_write_25 ?_
    refine W.eq (g2 := F0 m 28 ls [va_rf (gR S th 5), .long p2, .int ((60 * p0) + p1), .ref a_6]) rfl ?_
    obtain ⟨a_7, ha_7, hp⟩ := hp
    refine sx_nonnull (x := a_7) ha_7 ?_
    refine lv_iload_n (pc := 28) hx hb dX12_write_28 rfl (lv_at hl 2 rfl) ?_
    obtain ⟨hk_8, hp⟩ := hp
    obtain ⟨hn_9, hp⟩ := hp
    refine sx_iald (pc := 29) B hH hk_8 hn_9 dX12_write_29 ?_
    refine W.eq (g2 := F0 m 30 ls [.int (gI S a_7 p0.toNatClampNeg), .long p2, .int ((60 * p0) + p1), .ref a_6]) rfl ?_
    refine sx_S (pc := 30) (As := [.long p2, .int (gI S a_7 p0.toNatClampNeg)]) (rest := [.int ((60 * p0) + p1), .ref a_6]) B hH hl.1 (C_X12_cut G l p2 (gI S a_7 p0.toNatClampNeg) _ _ hp) mi_X12_cut w_1490 w_1489 rfl rfl ⟨Nat.le_of_ble_eq_true rfl, Nat.le_of_ble_eq_true rfl⟩ (Nat.le_of_ble_eq_true rfl) ⟨Nat.le_of_ble_eq_true rfl, Nat.le_of_ble_eq_true rfl⟩ dX12_write_30 (fun v S1 H locs hq hH => ?_)
    obtain ⟨r_10, rfl, e9, hp⟩ := hq
    rw [e9] at hH
    refine W.eq (g2 := F0 m 33 ls [.long r_10, .int ((60 * p0) + p1), .ref a_6]) rfl ?_
    obtain ⟨hk_11, hp⟩ := hp
    obtain ⟨hn_12, hp⟩ := hp
    obtain ⟨J_13, eJ_13⟩ : ∃ z : Nat → Nat → Int64, z = upJ (gJ S) a_6 (((60 * p0) + p1).toNatClampNeg) r_10 := ⟨_, rfl⟩
    have hp := hp J_13 eJ_13
    refine sx_last (pc := 33) B hH hk_11 hn_12 dX12_write_33 (fun H locs hH => ?_)
    have hH : Hp G (FA S s.heap.size) s.heap (wA S (gI S) J_13 (gR S)) H locs := by rw [eJ_13]; exact hH
    exact kj_3 _ _ _ _ hp hH (lv_sub hl [1, 0] rfl)
theorem dX12_read_0 : decode cX12_read 0 = .ok (.aload_n 0, 1) := by decide +kernel
theorem dX12_read_1 : decode cX12_read 1 = .ok (.aload_n 0, 1) := by decide +kernel
theorem dX12_read_2 : decode cX12_read 2 = .ok (.iload_n 1, 1) := by decide +kernel
theorem dX12_read_3 : decode cX12_read 3 = .ok (.iload_n 2, 1) := by decide +kernel
theorem dX12_read_4 : decode cX12_read 4 = .ok (.invokevirtual 119, 3) := by decide +kernel
theorem dX12_read_7 : decode cX12_read 7 = .ok (.putfield 99, 3) := by decide +kernel
theorem dX12_read_10 : decode cX12_read 10 = .ok (.aload_n 0, 1) := by decide +kernel
theorem dX12_read_11 : decode cX12_read 11 = .ok (.getfield 99, 3) := by decide +kernel
theorem dX12_read_14 : decode cX12_read 14 = .ok (.ifCond .le 9, 3) := by decide +kernel
theorem dX12_read_17 : decode cX12_read 17 = .ok (.ldc2_w 127, 3) := by decide +kernel
theorem dX12_read_20 : decode cX12_read 20 = .ok (.goto 14, 3) := by decide +kernel
theorem dX12_read_23 : decode cX12_read 23 = .ok (.aload_n 0, 1) := by decide +kernel
theorem dX12_read_24 : decode cX12_read 24 = .ok (.getfield 27, 3) := by decide +kernel
theorem dX12_read_27 : decode cX12_read 27 = .ok (.bipush 60, 2) := by decide +kernel
theorem dX12_read_29 : decode cX12_read 29 = .ok (.iload_n 1, 1) := by decide +kernel
theorem dX12_read_30 : decode cX12_read 30 = .ok (.imul, 1) := by decide +kernel
theorem dX12_read_31 : decode cX12_read 31 = .ok (.iload_n 2, 1) := by decide +kernel
theorem dX12_read_32 : decode cX12_read 32 = .ok (.iadd, 1) := by decide +kernel
theorem dX12_read_33 : decode cX12_read 33 = .ok (.laload, 1) := by decide +kernel
theorem dX12_read_34 : decode cX12_read 34 = .ok (.lreturn, 1) := by decide +kernel
theorem mi_X12_read : MI yX12_read cX12_read 3 (some FieldType.long) 2 := ⟨w_1495, w_118, by decide +kernel, by decide +kernel, by decide +kernel⟩
set_option maxRecDepth 100000 in
set_option maxHeartbeats 4000000 in
theorem C_X12_read (G : GG) (l : Launch) (th : Nat) (p0 : Int32) (p1 : Int32) (S : St) (Q : Int64 → (Nat → Nat → Int32) → Prop) (hp : P_X12_read th p0 p1 S Q) : Ctr G l yX12_read cX12_read 3 (some FieldType.long) 2 42 0 0 [.ref th, .int p0, .int p1] S (fun (v : Option Value) (S9 : St) => ∃ (r : Int64) (I9 : Nat → Nat → Int32), v = some (.long r) ∧ S9 = wI S I9 ∧ Q r I9) := by
  generalize hQQ : (fun (v : Option Value) (S9 : St) => ∃ (r : Int64) (I9 : Nat → Nat → Int32), v = some (.long r) ∧ S9 = wI S I9 ∧ Q r I9) = QQ
  unfold P_X12_read at hp
  refine Ctr.of (by decide) (Nat.le_of_ble_eq_true rfl) ?_
  intro p e s m args below meth c ls B hr hlk hin hl hH
  generalize hlocs0 : ([] : List Loc) = locs at hH ⊢
  have hx := B.1
  have hb := B.2.1
  have hl : lv_has ls 3 [(0, .ref th), (1, .int p0), (2, .int p1)] := hl
  obtain ⟨hk_th, hp⟩ := hp
  refine lv_aload_n (pc := 0) hx hb dX12_read_0 rfl (lv_at hl 0 rfl) ?_
  refine lv_aload_n (pc := 1) hx hb dX12_read_1 rfl (lv_at hl 0 rfl) ?_
  refine lv_iload_n (pc := 2) hx hb dX12_read_2 rfl (lv_at hl 1 rfl) ?_
  refine lv_iload_n (pc := 3) hx hb dX12_read_3 rfl (lv_at hl 2 rfl) ?_
  refine sx_V (pc := 4) (As := [.int p0, .int p1]) (rest := [.ref th]) B hH hl.1 (C_X12_wrongPlace G l th p0 p1 _ _ hp) mi_X12_wrongPlace coX12 hk_th w_1487 w_46 w_1485 rfl rfl ⟨Nat.le_of_ble_eq_true rfl, Nat.le_of_ble_eq_true rfl⟩ (Nat.le_of_ble_eq_true rfl) ⟨Nat.le_of_ble_eq_true rfl, Nat.le_of_ble_eq_true rfl⟩ dX12_read_4 (fun v S1 H locs hq hH => ?_)
  obtain ⟨r_1, rfl, e9, hp⟩ := hq
  rw [e9] at hH
  refine W.eq (g2 := F0 m 7 ls [.int r_1, .ref th]) rfl ?_
  obtain ⟨F_2, eF_2⟩ : ∃ z : Nat → Nat → Int32, z = upI (gI S) th 2 r_1 := ⟨_, rfl⟩
  have hp := hp F_2 eF_2
  refine sx_putI (pc := 7) (j := 2) B hH hk_th coX12 rfl w_1306 rfl (Or.inl rfl) rfl dX12_read_7 (fun H locs hH => ?_)
  have hH : Hp G (FA S s.heap.size) s.heap (wI S F_2) H locs := by rw [eF_2]; exact hH
  refine lv_aload_n (pc := 10) hx hb dX12_read_10 rfl (lv_at hl 0 rfl) ?_
  refine sx_getI (pc := 11) (j := 2) B hH hk_th coX12 rfl w_1306 rfl dX12_read_11 ?_
  refine W.eq (g2 := F0 m 14 ls [.int (F_2 th 2)]) rfl ?_
  refine lv_if_le (pc := 14) (tgt := 23) hx hb dX12_read_14 (by decide) (fun cc_3 => ?_) (fun cc_3 => ?_)
  · have hp := hp.1 cc_3
    refine lv_aload_n (pc := 23) hx hb dX12_read_23 rfl (lv_at hl 0 rfl) ?_
    refine sx_getR (pc := 24) (j := 7) B hH hk_th coX12 rfl w_1311 rfl dX12_read_24 ?_
    refine W.eq (g2 := F0 m 27 ls [va_rf (gR S th 7)]) rfl ?_
    obtain ⟨a_4, ha_4, hp⟩ := hp
    refine sx_nonnull (x := a_4) ha_4 ?_
    refine lv_bipush (pc := 27) (v := 60) hx hb dX12_read_27 (by decide) ?_
    refine lv_iload_n (pc := 29) hx hb dX12_read_29 rfl (lv_at hl 1 rfl) ?_
    refine lv_imul (pc := 30) hx hb dX12_read_30 ?_
    refine lv_iload_n (pc := 31) hx hb dX12_read_31 rfl (lv_at hl 2 rfl) ?_
    refine lv_iadd (pc := 32) hx hb dX12_read_32 ?_
    obtain ⟨hk_5, hp⟩ := hp
    obtain ⟨hn_6, hp⟩ := hp
    refine sx_lald (pc := 33) B hH hk_5 hn_6 dX12_read_33 ?_
    refine W.eq (g2 := F0 m 34 ls [.long (gJ S a_4 (((60 * p0) + p1).toNatClampNeg))]) rfl ?_
    exact sx_lret (pc := 34) B hH hr hlk (by rw [← hQQ]; exact ⟨_, F_2, rfl, rfl, hp⟩) (Nat.le_of_ble_eq_true rfl) (Nat.le_of_ble_eq_true rfl) dX12_read_34
  · have hp := hp.2 cc_3
    refine sx_ldc2 (pc := 17) (v := (-1)) B w_1496 dX12_read_17 ?_
    refine lv_goto (pc := 20) (tgt := 34) hx hb dX12_read_20 (by decide) ?_
    exact sx_lret (pc := 34) B hH hr hlk (by rw [← hQQ]; exact ⟨_, F_2, rfl, rfl, hp⟩) (Nat.le_of_ble_eq_true rfl) (Nat.le_of_ble_eq_true rfl) dX12_read_34
theorem dX12_pour_0 : decode cX12_pour 0 = .ok (.iload_n 1, 1) := by decide +kernel
theorem dX12_pour_1 : decode cX12_pour 1 = .ok (.invokestatic 116, 3) := by decide +kernel
theorem dX12_pour_4 : decode cX12_pour 4 = .ok (.ifCond .eq 24, 3) := by decide +kernel
theorem dX12_pour_7 : decode cX12_pour 7 = .ok (.iload_n 3, 1) := by decide +kernel
theorem dX12_pour_8 : decode cX12_pour 8 = .ok (.invokestatic 116, 3) := by decide +kernel
theorem dX12_pour_11 : decode cX12_pour 11 = .ok (.ifCond .eq 17, 3) := by decide +kernel
theorem dX12_pour_14 : decode cX12_pour 14 = .ok (.iload_n 2, 1) := by decide +kernel
theorem dX12_pour_15 : decode cX12_pour 15 = .ok (.ifCond .lt 13, 3) := by decide +kernel
theorem dX12_pour_18 : decode cX12_pour 18 = .ok (.iload 4, 2) := by decide +kernel
theorem dX12_pour_20 : decode cX12_pour 20 = .ok (.ifCond .lt 8, 3) := by decide +kernel
theorem dX12_pour_23 : decode cX12_pour 23 = .ok (.iload 5, 2) := by decide +kernel
theorem dX12_pour_25 : decode cX12_pour 25 = .ok (.ifCond .ge 9, 3) := by decide +kernel
theorem dX12_pour_28 : decode cX12_pour 28 = .ok (.aload_n 0, 1) := by decide +kernel
theorem dX12_pour_29 : decode cX12_pour 29 = .ok (.iconst 1, 1) := by decide +kernel
theorem dX12_pour_30 : decode cX12_pour 30 = .ok (.invokevirtual 112, 3) := by decide +kernel
theorem dX12_pour_33 : decode cX12_pour 33 = .ok (.ireturn, 1) := by decide +kernel
theorem dX12_pour_34 : decode cX12_pour 34 = .ok (.aload_n 0, 1) := by decide +kernel
theorem dX12_pour_35 : decode cX12_pour 35 = .ok (.getfield 24, 3) := by decide +kernel
theorem dX12_pour_38 : decode cX12_pour 38 = .ok (.iload_n 1, 1) := by decide +kernel
theorem dX12_pour_39 : decode cX12_pour 39 = .ok (.iaload, 1) := by decide +kernel
theorem dX12_pour_40 : decode cX12_pour 40 = .ok (.iconst (-1), 1) := by decide +kernel
theorem dX12_pour_41 : decode cX12_pour 41 = .ok (.if_icmp .eq 13, 3) := by decide +kernel
theorem dX12_pour_44 : decode cX12_pour 44 = .ok (.aload_n 0, 1) := by decide +kernel
theorem dX12_pour_45 : decode cX12_pour 45 = .ok (.getfield 24, 3) := by decide +kernel
theorem dX12_pour_48 : decode cX12_pour 48 = .ok (.iload_n 3, 1) := by decide +kernel
theorem dX12_pour_49 : decode cX12_pour 49 = .ok (.iaload, 1) := by decide +kernel
theorem dX12_pour_50 : decode cX12_pour 50 = .ok (.iconst (-1), 1) := by decide +kernel
theorem dX12_pour_51 : decode cX12_pour 51 = .ok (.if_icmp .ne 9, 3) := by decide +kernel
theorem dX12_pour_54 : decode cX12_pour 54 = .ok (.aload_n 0, 1) := by decide +kernel
theorem dX12_pour_55 : decode cX12_pour 55 = .ok (.iconst 2, 1) := by decide +kernel
theorem dX12_pour_56 : decode cX12_pour 56 = .ok (.invokevirtual 112, 3) := by decide +kernel
theorem dX12_pour_59 : decode cX12_pour 59 = .ok (.ireturn, 1) := by decide +kernel
theorem dX12_pour_60 : decode cX12_pour 60 = .ok (.aload_n 0, 1) := by decide +kernel
theorem dX12_pour_61 : decode cX12_pour 61 = .ok (.getfield 21, 3) := by decide +kernel
theorem dX12_pour_64 : decode cX12_pour 64 = .ok (.iload_n 1, 1) := by decide +kernel
theorem dX12_pour_65 : decode cX12_pour 65 = .ok (.iaload, 1) := by decide +kernel
theorem dX12_pour_66 : decode cX12_pour 66 = .ok (.aload_n 0, 1) := by decide +kernel
theorem dX12_pour_67 : decode cX12_pour 67 = .ok (.getfield 21, 3) := by decide +kernel
theorem dX12_pour_70 : decode cX12_pour 70 = .ok (.iload_n 3, 1) := by decide +kernel
theorem dX12_pour_71 : decode cX12_pour 71 = .ok (.iaload, 1) := by decide +kernel
theorem dX12_pour_72 : decode cX12_pour 72 = .ok (.if_icmp .eq 10, 3) := by decide +kernel
theorem dX12_pour_75 : decode cX12_pour 75 = .ok (.aload_n 0, 1) := by decide +kernel
theorem dX12_pour_76 : decode cX12_pour 76 = .ok (.bipush 8, 2) := by decide +kernel
theorem dX12_pour_78 : decode cX12_pour 78 = .ok (.invokevirtual 112, 3) := by decide +kernel
theorem dX12_pour_81 : decode cX12_pour 81 = .ok (.ireturn, 1) := by decide +kernel
theorem dX12_pour_82 : decode cX12_pour 82 = .ok (.iload 5, 2) := by decide +kernel
theorem dX12_pour_84 : decode cX12_pour 84 = .ok (.aload_n 0, 1) := by decide +kernel
theorem dX12_pour_85 : decode cX12_pour 85 = .ok (.getfield 24, 3) := by decide +kernel
theorem dX12_pour_88 : decode cX12_pour 88 = .ok (.iload_n 1, 1) := by decide +kernel
theorem dX12_pour_89 : decode cX12_pour 89 = .ok (.iaload, 1) := by decide +kernel
theorem dX12_pour_90 : decode cX12_pour 90 = .ok (.iload_n 2, 1) := by decide +kernel
theorem dX12_pour_91 : decode cX12_pour 91 = .ok (.isub, 1) := by decide +kernel
theorem dX12_pour_92 : decode cX12_pour 92 = .ok (.if_icmp .gt 17, 3) := by decide +kernel
theorem dX12_pour_95 : decode cX12_pour 95 = .ok (.iload 5, 2) := by decide +kernel
theorem dX12_pour_97 : decode cX12_pour 97 = .ok (.aload_n 0, 1) := by decide +kernel
theorem dX12_pour_98 : decode cX12_pour 98 = .ok (.getfield 24, 3) := by decide +kernel
theorem dX12_pour_101 : decode cX12_pour 101 = .ok (.iload_n 3, 1) := by decide +kernel
theorem dX12_pour_102 : decode cX12_pour 102 = .ok (.iaload, 1) := by decide +kernel
theorem dX12_pour_103 : decode cX12_pour 103 = .ok (.iload 4, 2) := by decide +kernel
theorem dX12_pour_105 : decode cX12_pour 105 = .ok (.isub, 1) := by decide +kernel
theorem dX12_pour_106 : decode cX12_pour 106 = .ok (.if_icmp .le 9, 3) := by decide +kernel
theorem dX12_pour_109 : decode cX12_pour 109 = .ok (.aload_n 0, 1) := by decide +kernel
theorem dX12_pour_110 : decode cX12_pour 110 = .ok (.iconst 3, 1) := by decide +kernel
theorem dX12_pour_111 : decode cX12_pour 111 = .ok (.invokevirtual 112, 3) := by decide +kernel
theorem dX12_pour_114 : decode cX12_pour 114 = .ok (.ireturn, 1) := by decide +kernel
theorem dX12_pour_115 : decode cX12_pour 115 = .ok (.iconst 0, 1) := by decide +kernel
theorem dX12_pour_116 : decode cX12_pour 116 = .ok (.istore 6, 2) := by decide +kernel
theorem dX12_pour_118 : decode cX12_pour 118 = .ok (.iload 6, 2) := by decide +kernel
theorem dX12_pour_120 : decode cX12_pour 120 = .ok (.iload 5, 2) := by decide +kernel
theorem dX12_pour_122 : decode cX12_pour 122 = .ok (.if_icmp .ge 58, 3) := by decide +kernel
theorem dX12_pour_125 : decode cX12_pour 125 = .ok (.iload_n 2, 1) := by decide +kernel
theorem dX12_pour_126 : decode cX12_pour 126 = .ok (.iload 4, 2) := by decide +kernel
theorem dX12_pour_128 : decode cX12_pour 128 = .ok (.if_icmp .ge 13, 3) := by decide +kernel
theorem dX12_pour_131 : decode cX12_pour 131 = .ok (.iload 5, 2) := by decide +kernel
theorem dX12_pour_133 : decode cX12_pour 133 = .ok (.iconst 1, 1) := by decide +kernel
theorem dX12_pour_134 : decode cX12_pour 134 = .ok (.isub, 1) := by decide +kernel
theorem dX12_pour_135 : decode cX12_pour 135 = .ok (.iload 6, 2) := by decide +kernel
theorem dX12_pour_137 : decode cX12_pour 137 = .ok (.isub, 1) := by decide +kernel
theorem dX12_pour_138 : decode cX12_pour 138 = .ok (.goto 5, 3) := by decide +kernel
theorem dX12_pour_141 : decode cX12_pour 141 = .ok (.iload 6, 2) := by decide +kernel
theorem dX12_pour_143 : decode cX12_pour 143 = .ok (.istore 7, 2) := by decide +kernel
theorem dX12_pour_145 : decode cX12_pour 145 = .ok (.aload_n 0, 1) := by decide +kernel
theorem dX12_pour_146 : decode cX12_pour 146 = .ok (.getfield 27, 3) := by decide +kernel
theorem dX12_pour_149 : decode cX12_pour 149 = .ok (.bipush 60, 2) := by decide +kernel
theorem dX12_pour_151 : decode cX12_pour 151 = .ok (.iload_n 3, 1) := by decide +kernel
theorem dX12_pour_152 : decode cX12_pour 152 = .ok (.imul, 1) := by decide +kernel
theorem dX12_pour_153 : decode cX12_pour 153 = .ok (.iload 4, 2) := by decide +kernel
theorem dX12_pour_155 : decode cX12_pour 155 = .ok (.iadd, 1) := by decide +kernel
theorem dX12_pour_156 : decode cX12_pour 156 = .ok (.iload 7, 2) := by decide +kernel
theorem dX12_pour_158 : decode cX12_pour 158 = .ok (.iadd, 1) := by decide +kernel
theorem dX12_pour_159 : decode cX12_pour 159 = .ok (.aload_n 0, 1) := by decide +kernel
theorem dX12_pour_160 : decode cX12_pour 160 = .ok (.getfield 27, 3) := by decide +kernel
theorem dX12_pour_163 : decode cX12_pour 163 = .ok (.bipush 60, 2) := by decide +kernel
theorem dX12_pour_165 : decode cX12_pour 165 = .ok (.iload_n 1, 1) := by decide +kernel
theorem dX12_pour_166 : decode cX12_pour 166 = .ok (.imul, 1) := by decide +kernel
theorem dX12_pour_167 : decode cX12_pour 167 = .ok (.iload_n 2, 1) := by decide +kernel
theorem dX12_pour_168 : decode cX12_pour 168 = .ok (.iadd, 1) := by decide +kernel
theorem dX12_pour_169 : decode cX12_pour 169 = .ok (.iload 7, 2) := by decide +kernel
theorem dX12_pour_171 : decode cX12_pour 171 = .ok (.iadd, 1) := by decide +kernel
theorem dX12_pour_172 : decode cX12_pour 172 = .ok (.laload, 1) := by decide +kernel
theorem dX12_pour_173 : decode cX12_pour 173 = .ok (.lastore, 1) := by decide +kernel
theorem dX12_pour_174 : decode cX12_pour 174 = .ok (.iinc 6 1, 3) := by decide +kernel
theorem dX12_pour_177 : decode cX12_pour 177 = .ok (.goto (-59), 3) := by decide +kernel
theorem dX12_pour_180 : decode cX12_pour 180 = .ok (.aload_n 0, 1) := by decide +kernel
theorem dX12_pour_181 : decode cX12_pour 181 = .ok (.iconst 0, 1) := by decide +kernel
theorem dX12_pour_182 : decode cX12_pour 182 = .ok (.invokevirtual 112, 3) := by decide +kernel
theorem dX12_pour_185 : decode cX12_pour 185 = .ok (.ireturn, 1) := by decide +kernel
theorem mi_X12_pour : MI yX12_pour cX12_pour 8 (some FieldType.boolean) 5 := ⟨w_1500, w_118, by decide +kernel, by decide +kernel, by decide +kernel⟩
set_option maxRecDepth 100000 in
set_option maxHeartbeats 4000000 in
theorem C_X12_pour (G : GG) (l : Launch) (th : Nat) (p0 : Int32) (p1 : Int32) (p2 : Int32) (p3 : Int32) (p4 : Int32) (S : St) (Q : Int32 → (Nat → Nat → Int32) → (Nat → Nat → Int64) → Prop) (hp : P_X12_pour th p0 p1 p2 p3 p4 S Q) : Ctr G l yX12_pour cX12_pour 8 (some FieldType.boolean) 1 21 0 0 [.ref th, .int p0, .int p1, .int p2, .int p3, .int p4] S (fun (v : Option Value) (S9 : St) => ∃ (r : Int32) (I9 : Nat → Nat → Int32) (J9 : Nat → Nat → Int64), v = some (.int r) ∧ S9 = wA S I9 J9 (gR S) ∧ Q r I9 J9) := by
  generalize hQQ : (fun (v : Option Value) (S9 : St) => ∃ (r : Int32) (I9 : Nat → Nat → Int32) (J9 : Nat → Nat → Int64), v = some (.int r) ∧ S9 = wA S I9 J9 (gR S) ∧ Q r I9 J9) = QQ
  unfold P_X12_pour at hp
  refine Ctr.of (by decide) (Nat.le_of_ble_eq_true rfl) ?_
  intro p e s m args below meth c ls B hr hlk hin hl hH
  generalize hlocs0 : ([] : List Loc) = locs at hH ⊢
  have hx := B.1
  have hb := B.2.1
  have hl : lv_has ls 8 [(0, .ref th), (1, .int p0), (2, .int p1), (3, .int p2), (4, .int p3), (5, .int p4)] := hl
  obtain ⟨hk_th, hp⟩ := hp
  refine lv_iload_n (pc := 0) hx hb dX12_pour_0 rfl (lv_at hl 1 rfl) ?_
  refine sx_S (pc := 1) (As := [.int p0]) (rest := []) B hH hl.1 (C_X12_isTray G l p0 _ _ hp) mi_X12_isTray w_1475 w_1474 rfl rfl ⟨Nat.le_of_ble_eq_true rfl, Nat.le_of_ble_eq_true rfl⟩ (Nat.le_of_ble_eq_true rfl) ⟨Nat.le_of_ble_eq_true rfl, Nat.le_of_ble_eq_true rfl⟩ dX12_pour_1 (fun v S1 H locs hq hH => ?_)
  obtain ⟨r_1, rfl, e9, hp⟩ := hq
  rw [e9] at hH
  refine W.eq (g2 := F0 m 4 ls [.int r_1]) rfl ?_
  obtain ⟨J_3, hj_3, hp⟩ := hp
  have kj_3 : ∀  (H : Heap) (locs : List Loc) (ls : Array Slot), J_3  → Hp G (FA S s.heap.size) s.heap S H locs → lv_has ls 8 [(0, .ref th)] → Wm G p l e { frames := 1, cells := 0, slots := 0, locals := 21 } s m args below meth c S QQ 0 0 H locs 0 0 (F0 m 28 ls []) := by
    intro  H locs ls hq9 hH hl
    have hp := hj_3  hq9
    refine lv_aload_n (pc := 28) hx hb dX12_pour_28 rfl (lv_at hl 0 rfl) ?_
    refine lv_iconst (pc := 29) (v := 1) hx hb dX12_pour_29 (by decide) ?_
    refine sx_V (pc := 30) (As := [.int 1]) (rest := []) B hH hl.1 (C_X12_is G l th 1 _ _ hp) mi_X12_is coX12 hk_th w_1479 w_45 w_1477 rfl rfl ⟨Nat.le_of_ble_eq_true rfl, Nat.le_of_ble_eq_true rfl⟩ (Nat.le_of_ble_eq_true rfl) ⟨Nat.le_of_ble_eq_true rfl, Nat.le_of_ble_eq_true rfl⟩ dX12_pour_30 (fun v S1 H locs hq hH => ?_)
    obtain ⟨r_4, F_4, rfl, e9, hp⟩ := hq
    rw [e9] at hH
    have hH : Hp G (FA S s.heap.size) s.heap (wI S F_4) H locs := hH
    refine W.eq (g2 := F0 m 33 ls [.int r_4]) rfl ?_
    obtain ⟨hz, hp⟩ := hp
    exact sx_zret (pc := 33) B hH hr hlk hz (by rw [← hQQ]; exact ⟨_, F_4, (gJ S), rfl, rfl, hp⟩) (Nat.le_of_ble_eq_true rfl) (Nat.le_of_ble_eq_true rfl) dX12_pour_33
  refine lv_if_eq (pc := 4) (tgt := 28) hx hb dX12_pour_4 (by decide) (fun cc_2 => ?_) (fun cc_2 => ?_)
  · have hp := hp.1 cc_2
    exact kj_3  _ _ _ hp hH (lv_sub hl [0] rfl)
  · have hp := hp.2 cc_2
    refine lv_iload_n (pc := 7) hx hb dX12_pour_7 rfl (lv_at hl 3 rfl) ?_
    refine sx_S (pc := 8) (As := [.int p2]) (rest := []) B hH hl.1 (C_X12_isTray G l p2 _ _ hp) mi_X12_isTray w_1475 w_1474 rfl rfl ⟨Nat.le_of_ble_eq_true rfl, Nat.le_of_ble_eq_true rfl⟩ (Nat.le_of_ble_eq_true rfl) ⟨Nat.le_of_ble_eq_true rfl, Nat.le_of_ble_eq_true rfl⟩ dX12_pour_8 (fun v S1 H locs hq hH => ?_)
    obtain ⟨r_5, rfl, e9, hp⟩ := hq
    rw [e9] at hH
    refine W.eq (g2 := F0 m 11 ls [.int r_5]) rfl ?_
    refine lv_if_eq (pc := 11) (tgt := 28) hx hb dX12_pour_11 (by decide) (fun cc_6 => ?_) (fun cc_6 => ?_)
    · have hp := hp.1 cc_6
      exact kj_3  _ _ _ hp hH (lv_sub hl [0] rfl)
    · have hp := hp.2 cc_6
      refine lv_iload_n (pc := 14) hx hb dX12_pour_14 rfl (lv_at hl 2 rfl) ?_
      refine lv_if_lt (pc := 15) (tgt := 28) hx hb dX12_pour_15 (by decide) (fun cc_7 => ?_) (fun cc_7 => ?_)
      · have hp := hp.1 cc_7
        exact kj_3  _ _ _ hp hH (lv_sub hl [0] rfl)
      · have hp := hp.2 cc_7
        refine lv_iload (pc := 18) hx hb dX12_pour_18 (lv_at hl 4 rfl) ?_
        refine lv_if_lt (pc := 20) (tgt := 28) hx hb dX12_pour_20 (by decide) (fun cc_8 => ?_) (fun cc_8 => ?_)
        · have hp := hp.1 cc_8
          exact kj_3  _ _ _ hp hH (lv_sub hl [0] rfl)
        · have hp := hp.2 cc_8
          refine lv_iload (pc := 23) hx hb dX12_pour_23 (lv_at hl 5 rfl) ?_
          refine lv_if_ge (pc := 25) (tgt := 34) hx hb dX12_pour_25 (by decide) (fun cc_9 => ?_) (fun cc_9 => ?_)
          · have hp := hp.1 cc_9
            refine lv_aload_n (pc := 34) hx hb dX12_pour_34 rfl (lv_at hl 0 rfl) ?_
            refine sx_getR (pc := 35) (j := 6) B hH hk_th coX12 rfl w_1310 rfl dX12_pour_35 ?_
            refine W.eq (g2 := F0 m 38 ls [va_rf (gR S th 6)]) rfl ?_
            obtain ⟨a_10, ha_10, hp⟩ := hp
            refine sx_nonnull (x := a_10) ha_10 ?_
            refine lv_iload_n (pc := 38) hx hb dX12_pour_38 rfl (lv_at hl 1 rfl) ?_
            obtain ⟨hk_11, hp⟩ := hp
            obtain ⟨hn_12, hp⟩ := hp
            refine sx_iald (pc := 39) B hH hk_11 hn_12 dX12_pour_39 ?_
            refine W.eq (g2 := F0 m 40 ls [.int (gI S a_10 p0.toNatClampNeg)]) rfl ?_
            refine lv_iconst (pc := 40) (v := (-1)) hx hb dX12_pour_40 (by decide) ?_
            obtain ⟨J_14, hj_14, hp⟩ := hp
            have kj_14 : ∀  (H : Heap) (locs : List Loc) (ls : Array Slot), J_14  → Hp G (FA S s.heap.size) s.heap S H locs → lv_has ls 8 [(0, .ref th)] → Wm G p l e { frames := 1, cells := 0, slots := 0, locals := 21 } s m args below meth c S QQ 0 0 H locs 0 0 (F0 m 54 ls []) := by
              intro  H locs ls hq9 hH hl
              have hp := hj_14  hq9
              refine lv_aload_n (pc := 54) hx hb dX12_pour_54 rfl (lv_at hl 0 rfl) ?_
              refine lv_iconst (pc := 55) (v := 2) hx hb dX12_pour_55 (by decide) ?_
              refine sx_V (pc := 56) (As := [.int 2]) (rest := []) B hH hl.1 (C_X12_is G l th 2 _ _ hp) mi_X12_is coX12 hk_th w_1479 w_45 w_1477 rfl rfl ⟨Nat.le_of_ble_eq_true rfl, Nat.le_of_ble_eq_true rfl⟩ (Nat.le_of_ble_eq_true rfl) ⟨Nat.le_of_ble_eq_true rfl, Nat.le_of_ble_eq_true rfl⟩ dX12_pour_56 (fun v S1 H locs hq hH => ?_)
              obtain ⟨r_15, F_15, rfl, e9, hp⟩ := hq
              rw [e9] at hH
              have hH : Hp G (FA S s.heap.size) s.heap (wI S F_15) H locs := hH
              refine W.eq (g2 := F0 m 59 ls [.int r_15]) rfl ?_
              obtain ⟨hz, hp⟩ := hp
              exact sx_zret (pc := 59) B hH hr hlk hz (by rw [← hQQ]; exact ⟨_, F_15, (gJ S), rfl, rfl, hp⟩) (Nat.le_of_ble_eq_true rfl) (Nat.le_of_ble_eq_true rfl) dX12_pour_59
            refine lv_icmp_eq (pc := 41) (tgt := 54) hx hb dX12_pour_41 (by decide) (fun cc_13 => ?_) (fun cc_13 => ?_)
            · have hp := hp.1 cc_13
              exact kj_14  _ _ _ hp hH (lv_sub hl [0] rfl)
            · have hp := hp.2 cc_13
              refine lv_aload_n (pc := 44) hx hb dX12_pour_44 rfl (lv_at hl 0 rfl) ?_
              refine sx_getR (pc := 45) (j := 6) B hH hk_th coX12 rfl w_1310 rfl dX12_pour_45 ?_
              refine W.eq (g2 := F0 m 48 ls [va_rf (gR S th 6)]) rfl ?_
              refine sx_nonnull (x := a_10) ha_10 ?_
              refine lv_iload_n (pc := 48) hx hb dX12_pour_48 rfl (lv_at hl 3 rfl) ?_
              obtain ⟨hn_16, hp⟩ := hp
              refine sx_iald (pc := 49) B hH hk_11 hn_16 dX12_pour_49 ?_
              refine W.eq (g2 := F0 m 50 ls [.int (gI S a_10 p2.toNatClampNeg)]) rfl ?_
              refine lv_iconst (pc := 50) (v := (-1)) hx hb dX12_pour_50 (by decide) ?_
              refine lv_icmp_ne (pc := 51) (tgt := 60) hx hb dX12_pour_51 (by decide) (fun cc_17 => ?_) (fun cc_17 => ?_)
              · have hp := hp.1 cc_17
                refine lv_aload_n (pc := 60) hx hb dX12_pour_60 rfl (lv_at hl 0 rfl) ?_
                refine sx_getR (pc := 61) (j := 5) B hH hk_th coX12 rfl w_1309 rfl dX12_pour_61 ?_
                refine W.eq (g2 := F0 m 64 ls [va_rf (gR S th 5)]) rfl ?_
                obtain ⟨a_18, ha_18, hp⟩ := hp
                refine sx_nonnull (x := a_18) ha_18 ?_
                refine lv_iload_n (pc := 64) hx hb dX12_pour_64 rfl (lv_at hl 1 rfl) ?_
                obtain ⟨hk_19, hp⟩ := hp
                obtain ⟨hn_20, hp⟩ := hp
                refine sx_iald (pc := 65) B hH hk_19 hn_20 dX12_pour_65 ?_
                refine W.eq (g2 := F0 m 66 ls [.int (gI S a_18 p0.toNatClampNeg)]) rfl ?_
                refine lv_aload_n (pc := 66) hx hb dX12_pour_66 rfl (lv_at hl 0 rfl) ?_
                refine sx_getR (pc := 67) (j := 5) B hH hk_th coX12 rfl w_1309 rfl dX12_pour_67 ?_
                refine W.eq (g2 := F0 m 70 ls [va_rf (gR S th 5), .int (gI S a_18 p0.toNatClampNeg)]) rfl ?_
                refine sx_nonnull (x := a_18) ha_18 ?_
                refine lv_iload_n (pc := 70) hx hb dX12_pour_70 rfl (lv_at hl 3 rfl) ?_
                obtain ⟨hn_21, hp⟩ := hp
                refine sx_iald (pc := 71) B hH hk_19 hn_21 dX12_pour_71 ?_
                refine W.eq (g2 := F0 m 72 ls [.int (gI S a_18 p2.toNatClampNeg), .int (gI S a_18 p0.toNatClampNeg)]) rfl ?_
                refine lv_icmp_eq (pc := 72) (tgt := 82) hx hb dX12_pour_72 (by decide) (fun cc_22 => ?_) (fun cc_22 => ?_)
                · have hp := hp.1 cc_22
                  refine lv_iload (pc := 82) hx hb dX12_pour_82 (lv_at hl 5 rfl) ?_
                  refine lv_aload_n (pc := 84) hx hb dX12_pour_84 rfl (lv_at hl 0 rfl) ?_
                  refine sx_getR (pc := 85) (j := 6) B hH hk_th coX12 rfl w_1310 rfl dX12_pour_85 ?_
                  refine W.eq (g2 := F0 m 88 ls [va_rf (gR S th 6), .int p4]) rfl ?_
                  refine sx_nonnull (x := a_10) ha_10 ?_
                  refine lv_iload_n (pc := 88) hx hb dX12_pour_88 rfl (lv_at hl 1 rfl) ?_
                  refine sx_iald (pc := 89) B hH hk_11 hn_12 dX12_pour_89 ?_
                  refine W.eq (g2 := F0 m 90 ls [.int (gI S a_10 p0.toNatClampNeg), .int p4]) rfl ?_
                  refine lv_iload_n (pc := 90) hx hb dX12_pour_90 rfl (lv_at hl 2 rfl) ?_
                  refine lv_isub (pc := 91) hx hb dX12_pour_91 ?_
                  obtain ⟨J_24, hj_24, hp⟩ := hp
                  have kj_24 : ∀  (H : Heap) (locs : List Loc) (ls : Array Slot), J_24  → Hp G (FA S s.heap.size) s.heap S H locs → lv_has ls 8 [(0, .ref th)] → Wm G p l e { frames := 1, cells := 0, slots := 0, locals := 21 } s m args below meth c S QQ 0 0 H locs 0 0 (F0 m 109 ls []) := by
                    intro  H locs ls hq9 hH hl
                    have hp := hj_24  hq9
                    refine lv_aload_n (pc := 109) hx hb dX12_pour_109 rfl (lv_at hl 0 rfl) ?_
                    refine lv_iconst (pc := 110) (v := 3) hx hb dX12_pour_110 (by decide) ?_
                    refine sx_V (pc := 111) (As := [.int 3]) (rest := []) B hH hl.1 (C_X12_is G l th 3 _ _ hp) mi_X12_is coX12 hk_th w_1479 w_45 w_1477 rfl rfl ⟨Nat.le_of_ble_eq_true rfl, Nat.le_of_ble_eq_true rfl⟩ (Nat.le_of_ble_eq_true rfl) ⟨Nat.le_of_ble_eq_true rfl, Nat.le_of_ble_eq_true rfl⟩ dX12_pour_111 (fun v S1 H locs hq hH => ?_)
                    obtain ⟨r_25, F_25, rfl, e9, hp⟩ := hq
                    rw [e9] at hH
                    have hH : Hp G (FA S s.heap.size) s.heap (wI S F_25) H locs := hH
                    refine W.eq (g2 := F0 m 114 ls [.int r_25]) rfl ?_
                    obtain ⟨hz, hp⟩ := hp
                    exact sx_zret (pc := 114) B hH hr hlk hz (by rw [← hQQ]; exact ⟨_, F_25, (gJ S), rfl, rfl, hp⟩) (Nat.le_of_ble_eq_true rfl) (Nat.le_of_ble_eq_true rfl) dX12_pour_114
                  refine lv_icmp_gt (pc := 92) (tgt := 109) hx hb dX12_pour_92 (by decide) (fun cc_23 => ?_) (fun cc_23 => ?_)
                  · have hp := hp.1 cc_23
                    exact kj_24  _ _ _ hp hH (lv_sub hl [0] rfl)
                  · have hp := hp.2 cc_23
                    refine lv_iload (pc := 95) hx hb dX12_pour_95 (lv_at hl 5 rfl) ?_
                    refine lv_aload_n (pc := 97) hx hb dX12_pour_97 rfl (lv_at hl 0 rfl) ?_
                    refine sx_getR (pc := 98) (j := 6) B hH hk_th coX12 rfl w_1310 rfl dX12_pour_98 ?_
                    refine W.eq (g2 := F0 m 101 ls [va_rf (gR S th 6), .int p4]) rfl ?_
                    refine sx_nonnull (x := a_10) ha_10 ?_
                    refine lv_iload_n (pc := 101) hx hb dX12_pour_101 rfl (lv_at hl 3 rfl) ?_
                    refine sx_iald (pc := 102) B hH hk_11 hn_16 dX12_pour_102 ?_
                    refine W.eq (g2 := F0 m 103 ls [.int (gI S a_10 p2.toNatClampNeg), .int p4]) rfl ?_
                    refine lv_iload (pc := 103) hx hb dX12_pour_103 (lv_at hl 4 rfl) ?_
                    refine lv_isub (pc := 105) hx hb dX12_pour_105 ?_
                    refine lv_icmp_le (pc := 106) (tgt := 115) hx hb dX12_pour_106 (by decide) (fun cc_26 => ?_) (fun cc_26 => ?_)
                    · have hp := hp.1 cc_26
                      refine lv_iconst (pc := 115) (v := 0) hx hb dX12_pour_115 (by decide) ?_
                      refine lv_istore (pc := 116) (lv' := [(6, .int 0), (0, .ref th), (1, .int p0), (2, .int p1), (3, .int p2), (4, .int p3), (5, .int p4)]) hx hb dX12_pour_116 hl (by decide) rfl (fun ls hl => ?_)
                      obtain ⟨I_27, ⟨k0_27, h0_27⟩, hst_27⟩ := hp
                      have kl_27 : ∀ (n_27 : Nat) (x6_28 : Int32) (J_29 : Nat → Nat → Int64) (H : Heap) (locs : List Loc) (ls : Array Slot), I_27 n_27 x6_28 J_29 → Hp G (FA S s.heap.size) s.heap (wA S (gI S) J_29 (gR S)) H locs → lv_has ls 8 [(0, .ref th), (1, .int p0), (2, .int p1), (3, .int p2), (4, .int p3), (5, .int p4), (6, .int x6_28)] → Wm G p l e { frames := 1, cells := 0, slots := 0, locals := 21 } s m args below meth c S QQ 0 0 H locs 0 0 (F0 m 118 ls []) := by
                        intro n_27
                        induction n_27 using Nat.strongRecOn with
                        | ind n_27 ih_27 =>
                          intro x6_28 J_29 H locs ls hq9 hH hl
                          have hp := hst_27 n_27 x6_28 J_29 hq9
                          refine lv_iload (pc := 118) hx hb dX12_pour_118 (lv_at hl 6 rfl) ?_
                          refine lv_iload (pc := 120) hx hb dX12_pour_120 (lv_at hl 5 rfl) ?_
                          refine lv_icmp_ge (pc := 122) (tgt := 180) hx hb dX12_pour_122 (by decide) (fun cc_30 => ?_) (fun cc_30 => ?_)
                          · have hp := hp.1 cc_30
                            refine lv_aload_n (pc := 180) hx hb dX12_pour_180 rfl (lv_at hl 0 rfl) ?_
                            refine lv_iconst (pc := 181) (v := 0) hx hb dX12_pour_181 (by decide) ?_
                            refine sx_V (pc := 182) (As := [.int 0]) (rest := []) B hH hl.1 (C_X12_is G l th 0 _ _ hp) mi_X12_is coX12 hk_th w_1479 w_45 w_1477 rfl rfl ⟨Nat.le_of_ble_eq_true rfl, Nat.le_of_ble_eq_true rfl⟩ (Nat.le_of_ble_eq_true rfl) ⟨Nat.le_of_ble_eq_true rfl, Nat.le_of_ble_eq_true rfl⟩ dX12_pour_182 (fun v S1 H locs hq hH => ?_)
                            obtain ⟨r_31, F_31, rfl, e9, hp⟩ := hq
                            rw [e9] at hH
                            have hH : Hp G (FA S s.heap.size) s.heap (wA S F_31 J_29 (gR S)) H locs := hH
                            refine W.eq (g2 := F0 m 185 ls [.int r_31]) rfl ?_
                            obtain ⟨hz, hp⟩ := hp
                            exact sx_zret (pc := 185) B hH hr hlk hz (by rw [← hQQ]; exact ⟨_, F_31, J_29, rfl, rfl, hp⟩) (Nat.le_of_ble_eq_true rfl) (Nat.le_of_ble_eq_true rfl) dX12_pour_185
                          · have hp := hp.2 cc_30
                            refine lv_iload_n (pc := 125) hx hb dX12_pour_125 rfl (lv_at hl 2 rfl) ?_
                            refine lv_iload (pc := 126) hx hb dX12_pour_126 (lv_at hl 4 rfl) ?_
                            obtain ⟨J_33, hj_33, hp⟩ := hp
                            have kj_33 : ∀ (t_34 : Int32) (H : Heap) (locs : List Loc) (ls : Array Slot), J_33 t_34 → Hp G (FA S s.heap.size) s.heap (wA S (gI S) J_29 (gR S)) H locs → lv_has ls 8 [(0, .ref th), (1, .int p0), (2, .int p1), (3, .int p2), (4, .int p3), (5, .int p4), (6, .int x6_28)] → Wm G p l e { frames := 1, cells := 0, slots := 0, locals := 21 } s m args below meth c S QQ 0 0 H locs 0 0 (F0 m 143 ls [.int t_34]) := by
                              intro t_34 H locs ls hq9 hH hl
                              have hp := hj_33 t_34 hq9
                              refine lv_istore (pc := 143) (lv' := [(7, .int t_34), (0, .ref th), (1, .int p0), (2, .int p1), (3, .int p2), (4, .int p3), (5, .int p4), (6, .int x6_28)]) hx hb dX12_pour_143 hl (by decide) rfl (fun ls hl => ?_)
                              refine lv_aload_n (pc := 145) hx hb dX12_pour_145 rfl (lv_at hl 1 rfl) ?_
                              refine sx_getR (pc := 146) (j := 7) B hH hk_th coX12 rfl w_1311 rfl dX12_pour_146 ?_
                              refine W.eq (g2 := F0 m 149 ls [va_rf (gR S th 7)]) rfl ?_
                              obtain ⟨a_35, ha_35, hp⟩ := hp
                              refine sx_nonnull (x := a_35) ha_35 ?_
                              refine lv_bipush (pc := 149) (v := 60) hx hb dX12_pour_149 (by decide) ?_
                              refine lv_iload_n (pc := 151) hx hb dX12_pour_151 rfl (lv_at hl 4 rfl) ?_
                              refine lv_imul (pc := 152) hx hb dX12_pour_152 ?_
                              refine lv_iload (pc := 153) hx hb dX12_pour_153 (lv_at hl 5 rfl) ?_
                              refine lv_iadd (pc := 155) hx hb dX12_pour_155 ?_
                              refine lv_iload (pc := 156) hx hb dX12_pour_156 (lv_at hl 0 rfl) ?_
                              refine lv_iadd (pc := 158) hx hb dX12_pour_158 ?_
                              refine lv_aload_n (pc := 159) hx hb dX12_pour_159 rfl (lv_at hl 1 rfl) ?_
                              refine sx_getR (pc := 160) (j := 7) B hH hk_th coX12 rfl w_1311 rfl dX12_pour_160 ?_
                              refine W.eq (g2 := F0 m 163 ls [va_rf (gR S th 7), .int (((60 * p2) + p3) + t_34), .ref a_35]) rfl ?_
                              refine sx_nonnull (x := a_35) ha_35 ?_
                              refine lv_bipush (pc := 163) (v := 60) hx hb dX12_pour_163 (by decide) ?_
                              refine lv_iload_n (pc := 165) hx hb dX12_pour_165 rfl (lv_at hl 2 rfl) ?_
                              refine lv_imul (pc := 166) hx hb dX12_pour_166 ?_
                              refine lv_iload_n (pc := 167) hx hb dX12_pour_167 rfl (lv_at hl 3 rfl) ?_
                              refine lv_iadd (pc := 168) hx hb dX12_pour_168 ?_
                              refine lv_iload (pc := 169) hx hb dX12_pour_169 (lv_at hl 0 rfl) ?_
                              refine lv_iadd (pc := 171) hx hb dX12_pour_171 ?_
                              obtain ⟨hk_36, hp⟩ := hp
                              obtain ⟨hn_37, hp⟩ := hp
                              refine sx_lald (pc := 172) B hH hk_36 hn_37 dX12_pour_172 ?_
                              refine W.eq (g2 := F0 m 173 ls [.long (J_29 a_35 ((((60 * p0) + p1) + t_34).toNatClampNeg)), .int (((60 * p2) + p3) + t_34), .ref a_35]) rfl ?_
                              obtain ⟨hn_38, hp⟩ := hp
                              refine lv_topl (fun v_39 ev_39 => ?_)
                              have hp := hp v_39 ev_39
                              obtain ⟨J_40, eJ_40⟩ : ∃ z : Nat → Nat → Int64, z = upJ J_29 a_35 ((((60 * p2) + p3) + t_34).toNatClampNeg) v_39 := ⟨_, rfl⟩
                              have hp := hp J_40 eJ_40
                              refine sx_last (pc := 173) B hH hk_36 hn_38 dX12_pour_173 (fun H locs hH => ?_)
                              have hH : Hp G (FA S s.heap.size) s.heap (wA S (gI S) J_40 (gR S)) H locs := by rw [eJ_40]; exact hH
                              obtain ⟨v_41, ev_41⟩ : ∃ y : Int32, y = x6_28 + 1 := ⟨_, rfl⟩
                              have hp := hp v_41 ev_41
                              refine lv_iinc (pc := 174) (v := v_41) (lv' := [(6, .int v_41), (7, .int t_34), (0, .ref th), (1, .int p0), (2, .int p1), (3, .int p2), (4, .int p3), (5, .int p4)]) hx hb dX12_pour_174 hl (k := 7) rfl (by rw [ev_41]; rfl) (by decide) rfl (fun ls hl => ?_)
                              refine lv_goto (pc := 177) (tgt := 118) hx hb dX12_pour_177 (by decide) ?_
                              obtain ⟨k9, hlt9, hp⟩ := hp
                              exact ih_27 k9 hlt9 _ _ _ _ _ hp hH (lv_sub hl [2, 3, 4, 5, 6, 7, 0] rfl)
                            refine lv_icmp_ge (pc := 128) (tgt := 141) hx hb dX12_pour_128 (by decide) (fun cc_32 => ?_) (fun cc_32 => ?_)
                            · have hp := hp.1 cc_32
                              refine lv_iload (pc := 141) hx hb dX12_pour_141 (lv_at hl 6 rfl) ?_
                              exact kj_33 _ _ _ _ hp hH (lv_sub hl [0, 1, 2, 3, 4, 5, 6] rfl)
                            · have hp := hp.2 cc_32
                              refine lv_iload (pc := 131) hx hb dX12_pour_131 (lv_at hl 5 rfl) ?_
                              refine lv_iconst (pc := 133) (v := 1) hx hb dX12_pour_133 (by decide) ?_
                              refine lv_isub (pc := 134) hx hb dX12_pour_134 ?_
                              refine lv_iload (pc := 135) hx hb dX12_pour_135 (lv_at hl 6 rfl) ?_
                              refine lv_isub (pc := 137) hx hb dX12_pour_137 ?_
                              refine lv_goto (pc := 138) (tgt := 143) hx hb dX12_pour_138 (by decide) ?_
                              exact kj_33 _ _ _ _ hp hH (lv_sub hl [0, 1, 2, 3, 4, 5, 6] rfl)
                      exact kl_27 k0_27 _ _ _ _ _ h0_27 hH (lv_sub hl [1, 2, 3, 4, 5, 6, 0] rfl)
                    · have hp := hp.2 cc_26
                      exact kj_24  _ _ _ hp hH (lv_sub hl [0] rfl)
                · have hp := hp.2 cc_22
                  refine lv_aload_n (pc := 75) hx hb dX12_pour_75 rfl (lv_at hl 0 rfl) ?_
                  refine lv_bipush (pc := 76) (v := 8) hx hb dX12_pour_76 (by decide) ?_
                  refine sx_V (pc := 78) (As := [.int 8]) (rest := []) B hH hl.1 (C_X12_is G l th 8 _ _ hp) mi_X12_is coX12 hk_th w_1479 w_45 w_1477 rfl rfl ⟨Nat.le_of_ble_eq_true rfl, Nat.le_of_ble_eq_true rfl⟩ (Nat.le_of_ble_eq_true rfl) ⟨Nat.le_of_ble_eq_true rfl, Nat.le_of_ble_eq_true rfl⟩ dX12_pour_78 (fun v S1 H locs hq hH => ?_)
                  obtain ⟨r_42, F_42, rfl, e9, hp⟩ := hq
                  rw [e9] at hH
                  have hH : Hp G (FA S s.heap.size) s.heap (wI S F_42) H locs := hH
                  refine W.eq (g2 := F0 m 81 ls [.int r_42]) rfl ?_
                  obtain ⟨hz, hp⟩ := hp
                  exact sx_zret (pc := 81) B hH hr hlk hz (by rw [← hQQ]; exact ⟨_, F_42, (gJ S), rfl, rfl, hp⟩) (Nat.le_of_ble_eq_true rfl) (Nat.le_of_ble_eq_true rfl) dX12_pour_81
              · have hp := hp.2 cc_17
                exact kj_14  _ _ _ hp hH (lv_sub hl [0] rfl)
          · have hp := hp.2 cc_9
            exact kj_3  _ _ _ hp hH (lv_sub hl [0] rfl)
theorem dX12_isFrom_0 : decode cX12_isFrom 0 = .ok (.lload_n 0, 1) := by decide +kernel
theorem dX12_isFrom_1 : decode cX12_isFrom 1 = .ok (.lload_n 2, 1) := by decide +kernel
theorem dX12_isFrom_2 : decode cX12_isFrom 2 = .ok (.lcmp, 1) := by decide +kernel
theorem dX12_isFrom_3 : decode cX12_isFrom 3 = .ok (.ifCond .lt 14, 3) := by decide +kernel
theorem dX12_isFrom_6 : decode cX12_isFrom 6 = .ok (.lload_n 0, 1) := by decide +kernel
theorem dX12_isFrom_7 : decode cX12_isFrom 7 = .ok (.lload 4, 2) := by decide +kernel
theorem dX12_isFrom_9 : decode cX12_isFrom 9 = .ok (.lcmp, 1) := by decide +kernel
theorem dX12_isFrom_10 : decode cX12_isFrom 10 = .ok (.ifCond .gt 7, 3) := by decide +kernel
theorem dX12_isFrom_13 : decode cX12_isFrom 13 = .ok (.iconst 1, 1) := by decide +kernel
theorem dX12_isFrom_14 : decode cX12_isFrom 14 = .ok (.goto 4, 3) := by decide +kernel
theorem dX12_isFrom_17 : decode cX12_isFrom 17 = .ok (.iconst 0, 1) := by decide +kernel
theorem dX12_isFrom_18 : decode cX12_isFrom 18 = .ok (.ireturn, 1) := by decide +kernel
theorem mi_X12_isFrom : MI yX12_isFrom cX12_isFrom 6 (some FieldType.boolean) 3 := ⟨w_1665, w_118, by decide +kernel, by decide +kernel, by decide +kernel⟩
set_option maxRecDepth 100000 in
set_option maxHeartbeats 4000000 in
theorem C_X12_isFrom (G : GG) (l : Launch) (p0 : Int64) (p1 : Int64) (p2 : Int64) (S : St) (Q : Int32 → Prop) (hp : P_X12_isFrom p0 p1 p2 Q) : Ctr G l yX12_isFrom cX12_isFrom 6 (some FieldType.boolean) 0 0 0 0 [.long p0, .long p1, .long p2] S (fun (v : Option Value) (S9 : St) => ∃ (r : Int32), v = some (.int r) ∧ S9 = S ∧ Q r ) := by
  generalize hQQ : (fun (v : Option Value) (S9 : St) => ∃ (r : Int32), v = some (.int r) ∧ S9 = S ∧ Q r ) = QQ
  unfold P_X12_isFrom at hp
  refine Ctr.of (by decide) (Nat.le_of_ble_eq_true rfl) ?_
  intro p e s m args below meth c ls B hr hlk hin hl hH
  generalize hlocs0 : ([] : List Loc) = locs at hH ⊢
  have hx := B.1
  have hb := B.2.1
  have hl : lv_has ls 6 [(0, .long p0), (2, .long p1), (4, .long p2)] := hl
  refine lv_lload_n (pc := 0) hx hb dX12_isFrom_0 rfl (lv_at hl 0 rfl) ?_
  refine lv_lload_n (pc := 1) hx hb dX12_isFrom_1 rfl (lv_at hl 1 rfl) ?_
  refine W.lcmp (pc := 2) hx hb dX12_isFrom_2 ?_
  refine lv_if_lt (pc := 3) (tgt := 17) hx hb dX12_isFrom_3 (by decide) (fun cc_1 => ?_) (fun cc_1 => ?_)
  · have hp := hp.1 cc_1
    refine lv_iconst (pc := 17) (v := 0) hx hb dX12_isFrom_17 (by decide) ?_
    exact sx_zret (pc := 18) B hH hr hlk (Or.inl rfl) (by rw [← hQQ]; exact ⟨_, rfl, rfl, hp⟩) (Nat.le_of_ble_eq_true rfl) (Nat.le_of_ble_eq_true rfl) dX12_isFrom_18
  · have hp := hp.2 cc_1
    refine lv_lload_n (pc := 6) hx hb dX12_isFrom_6 rfl (lv_at hl 0 rfl) ?_
    refine lv_lload (pc := 7) hx hb dX12_isFrom_7 (lv_at hl 2 rfl) ?_
    refine W.lcmp (pc := 9) hx hb dX12_isFrom_9 ?_
    refine lv_if_gt (pc := 10) (tgt := 17) hx hb dX12_isFrom_10 (by decide) (fun cc_2 => ?_) (fun cc_2 => ?_)
    · have hp := hp.1 cc_2
      refine lv_iconst (pc := 17) (v := 0) hx hb dX12_isFrom_17 (by decide) ?_
      exact sx_zret (pc := 18) B hH hr hlk (Or.inl rfl) (by rw [← hQQ]; exact ⟨_, rfl, rfl, hp⟩) (Nat.le_of_ble_eq_true rfl) (Nat.le_of_ble_eq_true rfl) dX12_isFrom_18
    · have hp := hp.2 cc_2
      refine lv_iconst (pc := 13) (v := 1) hx hb dX12_isFrom_13 (by decide) ?_
      refine lv_goto (pc := 14) (tgt := 18) hx hb dX12_isFrom_14 (by decide) ?_
      exact sx_zret (pc := 18) B hH hr hlk (Or.inr rfl) (by rw [← hQQ]; exact ⟨_, rfl, rfl, hp⟩) (Nat.le_of_ble_eq_true rfl) (Nat.le_of_ble_eq_true rfl) dX12_isFrom_18
theorem dX12_four_0 : decode cX12_four 0 = .ok (.bipush 24, 2) := by decide +kernel
theorem dX12_four_2 : decode cX12_four 2 = .ok (.istore_n 2, 1) := by decide +kernel
theorem dX12_four_3 : decode cX12_four 3 = .ok (.iload_n 2, 1) := by decide +kernel
theorem dX12_four_4 : decode cX12_four 4 = .ok (.ifCond .lt 32, 3) := by decide +kernel
theorem dX12_four_7 : decode cX12_four 7 = .ok (.aload_n 0, 1) := by decide +kernel
theorem dX12_four_8 : decode cX12_four 8 = .ok (.getfield 30, 3) := by decide +kernel
theorem dX12_four_11 : decode cX12_four 11 = .ok (.aload_n 0, 1) := by decide +kernel
theorem dX12_four_12 : decode cX12_four 12 = .ok (.getfield 129, 3) := by decide +kernel
theorem dX12_four_15 : decode cX12_four 15 = .ok (.iload_n 1, 1) := by decide +kernel
theorem dX12_four_16 : decode cX12_four 16 = .ok (.iload_n 2, 1) := by decide +kernel
theorem dX12_four_17 : decode cX12_four 17 = .ok (.ishr, 1) := by decide +kernel
theorem dX12_four_18 : decode cX12_four 18 = .ok (.i2b, 1) := by decide +kernel
theorem dX12_four_19 : decode cX12_four 19 = .ok (.bastore, 1) := by decide +kernel
theorem dX12_four_20 : decode cX12_four 20 = .ok (.aload_n 0, 1) := by decide +kernel
theorem dX12_four_21 : decode cX12_four 21 = .ok (.dup, 1) := by decide +kernel
theorem dX12_four_22 : decode cX12_four 22 = .ok (.getfield 129, 3) := by decide +kernel
theorem dX12_four_25 : decode cX12_four 25 = .ok (.iconst 1, 1) := by decide +kernel
theorem dX12_four_26 : decode cX12_four 26 = .ok (.iadd, 1) := by decide +kernel
theorem dX12_four_27 : decode cX12_four 27 = .ok (.putfield 129, 3) := by decide +kernel
theorem dX12_four_30 : decode cX12_four 30 = .ok (.iinc 2 (-8), 3) := by decide +kernel
theorem dX12_four_33 : decode cX12_four 33 = .ok (.goto (-30), 3) := by decide +kernel
theorem dX12_four_36 : decode cX12_four 36 = .ok (.return_, 1) := by decide +kernel
theorem mi_X12_four : MI yX12_four cX12_four 3 (none : Option Jvm.ClassFile.FieldType) 1 := ⟨w_1508, w_118, by decide +kernel, by decide +kernel, by decide +kernel⟩
set_option maxRecDepth 100000 in
set_option maxHeartbeats 4000000 in
theorem C_X12_four (G : GG) (l : Launch) (th : Nat) (p0 : Int32) (S : St) (Q : (Nat → Nat → Int32) → Prop) (hp : P_X12_four th p0 S Q) : Ctr G l yX12_four cX12_four 3 (none : Option Jvm.ClassFile.FieldType) 0 0 0 0 [.ref th, .int p0] S (fun (v : Option Value) (S9 : St) => ∃ (I9 : Nat → Nat → Int32), v = none ∧ S9 = wI S I9 ∧ Q I9) := by
  generalize hQQ : (fun (v : Option Value) (S9 : St) => ∃ (I9 : Nat → Nat → Int32), v = none ∧ S9 = wI S I9 ∧ Q I9) = QQ
  unfold P_X12_four at hp
  refine Ctr.of (by decide) (Nat.le_of_ble_eq_true rfl) ?_
  intro p e s m args below meth c ls B hr hlk hin hl hH
  generalize hlocs0 : ([] : List Loc) = locs at hH ⊢
  have hx := B.1
  have hb := B.2.1
  have hl : lv_has ls 3 [(0, .ref th), (1, .int p0)] := hl
  obtain ⟨hk_th, hp⟩ := hp
  refine lv_bipush (pc := 0) (v := 24) hx hb dX12_four_0 (by decide) ?_
  refine lv_istore_n (pc := 2) (lv' := [(2, .int 24), (0, .ref th), (1, .int p0)]) hx hb dX12_four_2 rfl hl (by decide) rfl (fun ls hl => ?_)
  obtain ⟨I_1, ⟨k0_1, h0_1⟩, hst_1⟩ := hp
  have kl_1 : ∀ (n_1 : Nat) (x2_2 : Int32) (F_3 : Nat → Nat → Int32) (H : Heap) (locs : List Loc) (ls : Array Slot), I_1 n_1 x2_2 F_3 → Hp G (FA S s.heap.size) s.heap (wI S F_3) H locs → lv_has ls 3 [(0, .ref th), (1, .int p0), (2, .int x2_2)] → Wm G p l e { frames := 0, cells := 0, slots := 0, locals := 0 } s m args below meth c S QQ 0 0 H locs 0 0 (F0 m 3 ls []) := by
    intro n_1
    induction n_1 using Nat.strongRecOn with
    | ind n_1 ih_1 =>
      intro x2_2 F_3 H locs ls hq9 hH hl
      have hp := hst_1 n_1 x2_2 F_3 hq9
      refine lv_iload_n (pc := 3) hx hb dX12_four_3 rfl (lv_at hl 2 rfl) ?_
      refine lv_if_lt (pc := 4) (tgt := 36) hx hb dX12_four_4 (by decide) (fun cc_4 => ?_) (fun cc_4 => ?_)
      · have hp := hp.1 cc_4
        exact sx_vret (pc := 36) B hH hr hlk (by rw [← hQQ]; exact ⟨F_3, rfl, rfl, hp⟩) (Nat.le_of_ble_eq_true rfl) (Nat.le_of_ble_eq_true rfl) dX12_four_36
      · have hp := hp.2 cc_4
        refine lv_aload_n (pc := 7) hx hb dX12_four_7 rfl (lv_at hl 0 rfl) ?_
        refine sx_getR (pc := 8) (j := 8) B hH hk_th coX12 rfl w_1312 rfl dX12_four_8 ?_
        refine W.eq (g2 := F0 m 11 ls [va_rf (gR S th 8)]) rfl ?_
        obtain ⟨a_5, ha_5, hp⟩ := hp
        refine sx_nonnull (x := a_5) ha_5 ?_
        refine lv_aload_n (pc := 11) hx hb dX12_four_11 rfl (lv_at hl 0 rfl) ?_
        refine sx_getI (pc := 12) (j := 10) B hH hk_th coX12 rfl w_1314 rfl dX12_four_12 ?_
        refine W.eq (g2 := F0 m 15 ls [.int (F_3 th 10), .ref a_5]) rfl ?_
        refine lv_iload_n (pc := 15) hx hb dX12_four_15 rfl (lv_at hl 1 rfl) ?_
        refine lv_iload_n (pc := 16) hx hb dX12_four_16 rfl (lv_at hl 2 rfl) ?_
        refine lv_ishr (pc := 17) hx hb dX12_four_17 ?_
        refine W.eq (g2 := F0 m 18 ls [.int (shr p0 x2_2), .int (F_3 th 10), .ref a_5]) rfl ?_
        refine lv_i2b (pc := 18) (v := (shr p0 x2_2).toInt8.toInt32) hx hb dX12_four_18 rfl ?_
        obtain ⟨hk_6, hp⟩ := hp
        obtain ⟨hn_7, hp⟩ := hp
        refine lv_topi (fun v_8 ev_8 => ?_)
        have hp := hp v_8 ev_8
        obtain ⟨F_9, eF_9⟩ : ∃ z : Nat → Nat → Int32, z = upI F_3 a_5 ((F_3 th 10).toNatClampNeg) v_8.toInt8.toInt32 := ⟨_, rfl⟩
        have hp := hp F_9 eF_9
        refine sx_bast (pc := 19) B hH hk_6 hn_7 dX12_four_19 (fun H locs hH => ?_)
        have hH : Hp G (FA S s.heap.size) s.heap (wI S F_9) H locs := by rw [eF_9]; exact hH
        refine lv_aload_n (pc := 20) hx hb dX12_four_20 rfl (lv_at hl 0 rfl) ?_
        refine lv_dup (pc := 21) hx hb dX12_four_21 rfl ?_
        refine sx_getI (pc := 22) (j := 10) B hH hk_th coX12 rfl w_1314 rfl dX12_four_22 ?_
        refine W.eq (g2 := F0 m 25 ls [.int (F_9 th 10), .ref th]) rfl ?_
        refine lv_iconst (pc := 25) (v := 1) hx hb dX12_four_25 (by decide) ?_
        refine lv_iadd (pc := 26) hx hb dX12_four_26 ?_
        refine lv_topi (fun v_10 ev_10 => ?_)
        have hp := hp v_10 ev_10
        obtain ⟨F_11, eF_11⟩ : ∃ z : Nat → Nat → Int32, z = upI F_9 th 10 v_10 := ⟨_, rfl⟩
        have hp := hp F_11 eF_11
        refine sx_putI (pc := 27) (j := 10) B hH hk_th coX12 rfl w_1314 rfl (Or.inl rfl) rfl dX12_four_27 (fun H locs hH => ?_)
        have hH : Hp G (FA S s.heap.size) s.heap (wI S F_11) H locs := by rw [eF_11]; exact hH
        obtain ⟨v_12, ev_12⟩ : ∃ y : Int32, y = x2_2 + (-8) := ⟨_, rfl⟩
        have hp := hp v_12 ev_12
        refine lv_iinc (pc := 30) (v := v_12) (lv' := [(2, .int v_12), (0, .ref th), (1, .int p0)]) hx hb dX12_four_30 hl (k := 2) rfl (by rw [ev_12]; rfl) (by decide) rfl (fun ls hl => ?_)
        refine lv_goto (pc := 33) (tgt := 3) hx hb dX12_four_33 (by decide) ?_
        obtain ⟨k9, hlt9, hp⟩ := hp
        exact ih_1 k9 hlt9 _ _ _ _ _ hp hH (lv_sub hl [1, 2, 0] rfl)
  exact kl_1 k0_1 _ _ _ _ _ h0_1 hH (lv_sub hl [1, 2, 0] rfl)
theorem dX12_feed_0 : decode cX12_feed 0 = .ok (.aload_n 0, 1) := by decide +kernel
theorem dX12_feed_1 : decode cX12_feed 1 = .ok (.getfield 129, 3) := by decide +kernel
theorem dX12_feed_4 : decode cX12_feed 4 = .ok (.bipush 20, 2) := by decide +kernel
theorem dX12_feed_6 : decode cX12_feed 6 = .ok (.iadd, 1) := by decide +kernel
theorem dX12_feed_7 : decode cX12_feed 7 = .ok (.sipush 900, 3) := by decide +kernel
theorem dX12_feed_10 : decode cX12_feed 10 = .ok (.if_icmp .le 5, 3) := by decide +kernel
theorem dX12_feed_13 : decode cX12_feed 13 = .ok (.iconst (-1), 1) := by decide +kernel
theorem dX12_feed_14 : decode cX12_feed 14 = .ok (.ireturn, 1) := by decide +kernel
theorem dX12_feed_15 : decode cX12_feed 15 = .ok (.aload_n 0, 1) := by decide +kernel
theorem dX12_feed_16 : decode cX12_feed 16 = .ok (.iload_n 1, 1) := by decide +kernel
theorem dX12_feed_17 : decode cX12_feed 17 = .ok (.invokevirtual 132, 3) := by decide +kernel
theorem dX12_feed_20 : decode cX12_feed 20 = .ok (.aload_n 0, 1) := by decide +kernel
theorem dX12_feed_21 : decode cX12_feed 21 = .ok (.iload_n 2, 1) := by decide +kernel
theorem dX12_feed_22 : decode cX12_feed 22 = .ok (.invokevirtual 132, 3) := by decide +kernel
theorem dX12_feed_25 : decode cX12_feed 25 = .ok (.aload_n 0, 1) := by decide +kernel
theorem dX12_feed_26 : decode cX12_feed 26 = .ok (.iload_n 3, 1) := by decide +kernel
theorem dX12_feed_27 : decode cX12_feed 27 = .ok (.invokevirtual 132, 3) := by decide +kernel
theorem dX12_feed_30 : decode cX12_feed 30 = .ok (.aload_n 0, 1) := by decide +kernel
theorem dX12_feed_31 : decode cX12_feed 31 = .ok (.iload 4, 2) := by decide +kernel
theorem dX12_feed_33 : decode cX12_feed 33 = .ok (.invokevirtual 132, 3) := by decide +kernel
theorem dX12_feed_36 : decode cX12_feed 36 = .ok (.aload_n 0, 1) := by decide +kernel
theorem dX12_feed_37 : decode cX12_feed 37 = .ok (.iload 5, 2) := by decide +kernel
theorem dX12_feed_39 : decode cX12_feed 39 = .ok (.invokevirtual 132, 3) := by decide +kernel
theorem dX12_feed_42 : decode cX12_feed 42 = .ok (.aload_n 0, 1) := by decide +kernel
theorem dX12_feed_43 : decode cX12_feed 43 = .ok (.getfield 129, 3) := by decide +kernel
theorem dX12_feed_46 : decode cX12_feed 46 = .ok (.ireturn, 1) := by decide +kernel
theorem mi_X12_feed : MI yX12_feed cX12_feed 6 (some FieldType.int) 5 := ⟨w_1504, w_118, by decide +kernel, by decide +kernel, by decide +kernel⟩
set_option maxRecDepth 100000 in
set_option maxHeartbeats 4000000 in
theorem C_X12_feed (G : GG) (l : Launch) (th : Nat) (p0 : Int32) (p1 : Int32) (p2 : Int32) (p3 : Int32) (p4 : Int32) (S : St) (Q : Int32 → (Nat → Nat → Int32) → Prop) (hp : P_X12_feed th p0 p1 p2 p3 p4 S Q) : Ctr G l yX12_feed cX12_feed 6 (some FieldType.int) 1 22 0 0 [.ref th, .int p0, .int p1, .int p2, .int p3, .int p4] S (fun (v : Option Value) (S9 : St) => ∃ (r : Int32) (I9 : Nat → Nat → Int32), v = some (.int r) ∧ S9 = wI S I9 ∧ Q r I9) := by
  generalize hQQ : (fun (v : Option Value) (S9 : St) => ∃ (r : Int32) (I9 : Nat → Nat → Int32), v = some (.int r) ∧ S9 = wI S I9 ∧ Q r I9) = QQ
  unfold P_X12_feed at hp
  refine Ctr.of (by decide) (Nat.le_of_ble_eq_true rfl) ?_
  intro p e s m args below meth c ls B hr hlk hin hl hH
  generalize hlocs0 : ([] : List Loc) = locs at hH ⊢
  have hx := B.1
  have hb := B.2.1
  have hl : lv_has ls 6 [(0, .ref th), (1, .int p0), (2, .int p1), (3, .int p2), (4, .int p3), (5, .int p4)] := hl
  obtain ⟨hk_th, hp⟩ := hp
  refine lv_aload_n (pc := 0) hx hb dX12_feed_0 rfl (lv_at hl 0 rfl) ?_
  refine sx_getI (pc := 1) (j := 10) B hH hk_th coX12 rfl w_1314 rfl dX12_feed_1 ?_
  refine W.eq (g2 := F0 m 4 ls [.int (gI S th 10)]) rfl ?_
  refine lv_bipush (pc := 4) (v := 20) hx hb dX12_feed_4 (by decide) ?_
  refine lv_iadd (pc := 6) hx hb dX12_feed_6 ?_
  refine lv_sipush (pc := 7) (v := 900) hx hb dX12_feed_7 (by decide) ?_
  refine lv_icmp_le (pc := 10) (tgt := 15) hx hb dX12_feed_10 (by decide) (fun cc_1 => ?_) (fun cc_1 => ?_)
  · have hp := hp.1 cc_1
    refine lv_aload_n (pc := 15) hx hb dX12_feed_15 rfl (lv_at hl 0 rfl) ?_
    refine lv_iload_n (pc := 16) hx hb dX12_feed_16 rfl (lv_at hl 1 rfl) ?_
    refine sx_V (pc := 17) (As := [.int p0]) (rest := []) B hH hl.1 (C_X12_four G l th p0 _ _ hp) mi_X12_four coX12 hk_th w_1507 w_47 w_1505 rfl rfl ⟨Nat.le_of_ble_eq_true rfl, Nat.le_of_ble_eq_true rfl⟩ (Nat.le_of_ble_eq_true rfl) ⟨Nat.le_of_ble_eq_true rfl, Nat.le_of_ble_eq_true rfl⟩ dX12_feed_17 (fun v S1 H locs hq hH => ?_)
    obtain ⟨F_2, rfl, e9, hp⟩ := hq
    rw [e9] at hH
    have hH : Hp G (FA S s.heap.size) s.heap (wI S F_2) H locs := hH
    refine W.eq (g2 := F0 m 20 ls []) rfl ?_
    refine lv_aload_n (pc := 20) hx hb dX12_feed_20 rfl (lv_at hl 0 rfl) ?_
    refine lv_iload_n (pc := 21) hx hb dX12_feed_21 rfl (lv_at hl 2 rfl) ?_
    refine sx_V (pc := 22) (As := [.int p1]) (rest := []) B hH hl.1 (C_X12_four G l th p1 _ _ hp) mi_X12_four coX12 hk_th w_1507 w_47 w_1505 rfl rfl ⟨Nat.le_of_ble_eq_true rfl, Nat.le_of_ble_eq_true rfl⟩ (Nat.le_of_ble_eq_true rfl) ⟨Nat.le_of_ble_eq_true rfl, Nat.le_of_ble_eq_true rfl⟩ dX12_feed_22 (fun v S1 H locs hq hH => ?_)
    obtain ⟨F_3, rfl, e9, hp⟩ := hq
    rw [e9] at hH
    have hH : Hp G (FA S s.heap.size) s.heap (wI S F_3) H locs := hH
    refine W.eq (g2 := F0 m 25 ls []) rfl ?_
    refine lv_aload_n (pc := 25) hx hb dX12_feed_25 rfl (lv_at hl 0 rfl) ?_
    refine lv_iload_n (pc := 26) hx hb dX12_feed_26 rfl (lv_at hl 3 rfl) ?_
    refine sx_V (pc := 27) (As := [.int p2]) (rest := []) B hH hl.1 (C_X12_four G l th p2 _ _ hp) mi_X12_four coX12 hk_th w_1507 w_47 w_1505 rfl rfl ⟨Nat.le_of_ble_eq_true rfl, Nat.le_of_ble_eq_true rfl⟩ (Nat.le_of_ble_eq_true rfl) ⟨Nat.le_of_ble_eq_true rfl, Nat.le_of_ble_eq_true rfl⟩ dX12_feed_27 (fun v S1 H locs hq hH => ?_)
    obtain ⟨F_4, rfl, e9, hp⟩ := hq
    rw [e9] at hH
    have hH : Hp G (FA S s.heap.size) s.heap (wI S F_4) H locs := hH
    refine W.eq (g2 := F0 m 30 ls []) rfl ?_
    refine lv_aload_n (pc := 30) hx hb dX12_feed_30 rfl (lv_at hl 0 rfl) ?_
    refine lv_iload (pc := 31) hx hb dX12_feed_31 (lv_at hl 4 rfl) ?_
    refine sx_V (pc := 33) (As := [.int p3]) (rest := []) B hH hl.1 (C_X12_four G l th p3 _ _ hp) mi_X12_four coX12 hk_th w_1507 w_47 w_1505 rfl rfl ⟨Nat.le_of_ble_eq_true rfl, Nat.le_of_ble_eq_true rfl⟩ (Nat.le_of_ble_eq_true rfl) ⟨Nat.le_of_ble_eq_true rfl, Nat.le_of_ble_eq_true rfl⟩ dX12_feed_33 (fun v S1 H locs hq hH => ?_)
    obtain ⟨F_5, rfl, e9, hp⟩ := hq
    rw [e9] at hH
    have hH : Hp G (FA S s.heap.size) s.heap (wI S F_5) H locs := hH
    refine W.eq (g2 := F0 m 36 ls []) rfl ?_
    refine lv_aload_n (pc := 36) hx hb dX12_feed_36 rfl (lv_at hl 0 rfl) ?_
    refine lv_iload (pc := 37) hx hb dX12_feed_37 (lv_at hl 5 rfl) ?_
    refine sx_V (pc := 39) (As := [.int p4]) (rest := []) B hH hl.1 (C_X12_four G l th p4 _ _ hp) mi_X12_four coX12 hk_th w_1507 w_47 w_1505 rfl rfl ⟨Nat.le_of_ble_eq_true rfl, Nat.le_of_ble_eq_true rfl⟩ (Nat.le_of_ble_eq_true rfl) ⟨Nat.le_of_ble_eq_true rfl, Nat.le_of_ble_eq_true rfl⟩ dX12_feed_39 (fun v S1 H locs hq hH => ?_)
    obtain ⟨F_6, rfl, e9, hp⟩ := hq
    rw [e9] at hH
    have hH : Hp G (FA S s.heap.size) s.heap (wI S F_6) H locs := hH
    refine W.eq (g2 := F0 m 42 ls []) rfl ?_
    refine lv_aload_n (pc := 42) hx hb dX12_feed_42 rfl (lv_at hl 0 rfl) ?_
    refine sx_getI (pc := 43) (j := 10) B hH hk_th coX12 rfl w_1314 rfl dX12_feed_43 ?_
    refine W.eq (g2 := F0 m 46 ls [.int (F_6 th 10)]) rfl ?_
    exact sx_iret (pc := 46) B hH hr hlk (by rw [← hQQ]; exact ⟨_, F_6, rfl, rfl, hp⟩) (Nat.le_of_ble_eq_true rfl) (Nat.le_of_ble_eq_true rfl) dX12_feed_46
  · have hp := hp.2 cc_1
    refine lv_iconst (pc := 13) (v := (-1)) hx hb dX12_feed_13 (by decide) ?_
    exact sx_iret (pc := 14) B hH hr hlk (by rw [← hQQ]; exact ⟨_, (gI S), rfl, rfl, hp⟩) (Nat.le_of_ble_eq_true rfl) (Nat.le_of_ble_eq_true rfl) dX12_feed_14
theorem dX12_byteAt_0 : decode cX12_byteAt 0 = .ok (.iload_n 1, 1) := by decide +kernel
theorem dX12_byteAt_1 : decode cX12_byteAt 1 = .ok (.aload_n 0, 1) := by decide +kernel
theorem dX12_byteAt_2 : decode cX12_byteAt 2 = .ok (.getfield 136, 3) := by decide +kernel
theorem dX12_byteAt_5 : decode cX12_byteAt 5 = .ok (.if_icmp .ge 16, 3) := by decide +kernel
theorem dX12_byteAt_8 : decode cX12_byteAt 8 = .ok (.aload_n 0, 1) := by decide +kernel
theorem dX12_byteAt_9 : decode cX12_byteAt 9 = .ok (.getfield 34, 3) := by decide +kernel
theorem dX12_byteAt_12 : decode cX12_byteAt 12 = .ok (.iload_n 1, 1) := by decide +kernel
theorem dX12_byteAt_13 : decode cX12_byteAt 13 = .ok (.baload, 1) := by decide +kernel
theorem dX12_byteAt_14 : decode cX12_byteAt 14 = .ok (.sipush 255, 3) := by decide +kernel
theorem dX12_byteAt_17 : decode cX12_byteAt 17 = .ok (.iand, 1) := by decide +kernel
theorem dX12_byteAt_18 : decode cX12_byteAt 18 = .ok (.goto 4, 3) := by decide +kernel
theorem dX12_byteAt_21 : decode cX12_byteAt 21 = .ok (.iconst (-1), 1) := by decide +kernel
theorem dX12_byteAt_22 : decode cX12_byteAt 22 = .ok (.ireturn, 1) := by decide +kernel
theorem mi_X12_byteAt : MI yX12_byteAt cX12_byteAt 2 (some FieldType.int) 1 := ⟨w_1528, w_118, by decide +kernel, by decide +kernel, by decide +kernel⟩
set_option maxRecDepth 100000 in
set_option maxHeartbeats 4000000 in
theorem C_X12_byteAt (G : GG) (l : Launch) (th : Nat) (p0 : Int32) (S : St) (Q : Int32 → Prop) (hp : P_X12_byteAt th p0 S Q) : Ctr G l yX12_byteAt cX12_byteAt 2 (some FieldType.int) 0 0 0 0 [.ref th, .int p0] S (fun (v : Option Value) (S9 : St) => ∃ (r : Int32), v = some (.int r) ∧ S9 = S ∧ Q r ) := by
  generalize hQQ : (fun (v : Option Value) (S9 : St) => ∃ (r : Int32), v = some (.int r) ∧ S9 = S ∧ Q r ) = QQ
  unfold P_X12_byteAt at hp
  refine Ctr.of (by decide) (Nat.le_of_ble_eq_true rfl) ?_
  intro p e s m args below meth c ls B hr hlk hin hl hH
  generalize hlocs0 : ([] : List Loc) = locs at hH ⊢
  have hx := B.1
  have hb := B.2.1
  have hl : lv_has ls 2 [(0, .ref th), (1, .int p0)] := hl
  obtain ⟨hk_th, hp⟩ := hp
  refine lv_iload_n (pc := 0) hx hb dX12_byteAt_0 rfl (lv_at hl 1 rfl) ?_
  refine lv_aload_n (pc := 1) hx hb dX12_byteAt_1 rfl (lv_at hl 0 rfl) ?_
  refine sx_getI (pc := 2) (j := 11) B hH hk_th coX12 rfl w_1315 rfl dX12_byteAt_2 ?_
  refine W.eq (g2 := F0 m 5 ls [.int (gI S th 11), .int p0]) rfl ?_
  refine lv_icmp_ge (pc := 5) (tgt := 21) hx hb dX12_byteAt_5 (by decide) (fun cc_1 => ?_) (fun cc_1 => ?_)
  · have hp := hp.1 cc_1
    refine lv_iconst (pc := 21) (v := (-1)) hx hb dX12_byteAt_21 (by decide) ?_
    exact sx_iret (pc := 22) B hH hr hlk (by rw [← hQQ]; exact ⟨_, rfl, rfl, hp⟩) (Nat.le_of_ble_eq_true rfl) (Nat.le_of_ble_eq_true rfl) dX12_byteAt_22
  · have hp := hp.2 cc_1
    refine lv_aload_n (pc := 8) hx hb dX12_byteAt_8 rfl (lv_at hl 0 rfl) ?_
    refine sx_getR (pc := 9) (j := 9) B hH hk_th coX12 rfl w_1313 rfl dX12_byteAt_9 ?_
    refine W.eq (g2 := F0 m 12 ls [va_rf (gR S th 9)]) rfl ?_
    obtain ⟨a_2, ha_2, hp⟩ := hp
    refine sx_nonnull (x := a_2) ha_2 ?_
    refine lv_iload_n (pc := 12) hx hb dX12_byteAt_12 rfl (lv_at hl 1 rfl) ?_
    obtain ⟨hk_3, hp⟩ := hp
    obtain ⟨hn_4, hp⟩ := hp
    refine sx_bald (pc := 13) B hH hk_3 hn_4 dX12_byteAt_13 ?_
    refine W.eq (g2 := F0 m 14 ls [.int (gI S a_2 p0.toNatClampNeg)]) rfl ?_
    refine lv_sipush (pc := 14) (v := 255) hx hb dX12_byteAt_14 (by decide) ?_
    refine lv_iand (pc := 17) hx hb dX12_byteAt_17 ?_
    refine lv_goto (pc := 18) (tgt := 22) hx hb dX12_byteAt_18 (by decide) ?_
    exact sx_iret (pc := 22) B hH hr hlk (by rw [← hQQ]; exact ⟨_, rfl, rfl, hp⟩) (Nat.le_of_ble_eq_true rfl) (Nat.le_of_ble_eq_true rfl) dX12_byteAt_22
theorem dX12_isSmall_0 : decode cX12_isSmall 0 = .ok (.iload_n 0, 1) := by decide +kernel
theorem dX12_isSmall_1 : decode cX12_isSmall 1 = .ok (.bipush 97, 2) := by decide +kernel
theorem dX12_isSmall_3 : decode cX12_isSmall 3 = .ok (.if_icmp .lt 13, 3) := by decide +kernel
theorem dX12_isSmall_6 : decode cX12_isSmall 6 = .ok (.iload_n 0, 1) := by decide +kernel
theorem dX12_isSmall_7 : decode cX12_isSmall 7 = .ok (.bipush 122, 2) := by decide +kernel
theorem dX12_isSmall_9 : decode cX12_isSmall 9 = .ok (.if_icmp .gt 7, 3) := by decide +kernel
theorem dX12_isSmall_12 : decode cX12_isSmall 12 = .ok (.iconst 1, 1) := by decide +kernel
theorem dX12_isSmall_13 : decode cX12_isSmall 13 = .ok (.goto 4, 3) := by decide +kernel
theorem dX12_isSmall_16 : decode cX12_isSmall 16 = .ok (.iconst 0, 1) := by decide +kernel
theorem dX12_isSmall_17 : decode cX12_isSmall 17 = .ok (.ireturn, 1) := by decide +kernel
theorem mi_X12_isSmall : MI yX12_isSmall cX12_isSmall 1 (some FieldType.boolean) 1 := ⟨w_1531, w_118, by decide +kernel, by decide +kernel, by decide +kernel⟩
set_option maxRecDepth 100000 in
set_option maxHeartbeats 4000000 in
theorem C_X12_isSmall (G : GG) (l : Launch) (p0 : Int32) (S : St) (Q : Int32 → Prop) (hp : P_X12_isSmall p0 Q) : Ctr G l yX12_isSmall cX12_isSmall 1 (some FieldType.boolean) 0 0 0 0 [.int p0] S (fun (v : Option Value) (S9 : St) => ∃ (r : Int32), v = some (.int r) ∧ S9 = S ∧ Q r ) := by
  generalize hQQ : (fun (v : Option Value) (S9 : St) => ∃ (r : Int32), v = some (.int r) ∧ S9 = S ∧ Q r ) = QQ
  unfold P_X12_isSmall at hp
  refine Ctr.of (by decide) (Nat.le_of_ble_eq_true rfl) ?_
  intro p e s m args below meth c ls B hr hlk hin hl hH
  generalize hlocs0 : ([] : List Loc) = locs at hH ⊢
  have hx := B.1
  have hb := B.2.1
  have hl : lv_has ls 1 [(0, .int p0)] := hl
  refine lv_iload_n (pc := 0) hx hb dX12_isSmall_0 rfl (lv_at hl 0 rfl) ?_
  refine lv_bipush (pc := 1) (v := 97) hx hb dX12_isSmall_1 (by decide) ?_
  refine lv_icmp_lt (pc := 3) (tgt := 16) hx hb dX12_isSmall_3 (by decide) (fun cc_1 => ?_) (fun cc_1 => ?_)
  · have hp := hp.1 cc_1
    refine lv_iconst (pc := 16) (v := 0) hx hb dX12_isSmall_16 (by decide) ?_
    exact sx_zret (pc := 17) B hH hr hlk (Or.inl rfl) (by rw [← hQQ]; exact ⟨_, rfl, rfl, hp⟩) (Nat.le_of_ble_eq_true rfl) (Nat.le_of_ble_eq_true rfl) dX12_isSmall_17
  · have hp := hp.2 cc_1
    refine lv_iload_n (pc := 6) hx hb dX12_isSmall_6 rfl (lv_at hl 0 rfl) ?_
    refine lv_bipush (pc := 7) (v := 122) hx hb dX12_isSmall_7 (by decide) ?_
    refine lv_icmp_gt (pc := 9) (tgt := 16) hx hb dX12_isSmall_9 (by decide) (fun cc_2 => ?_) (fun cc_2 => ?_)
    · have hp := hp.1 cc_2
      refine lv_iconst (pc := 16) (v := 0) hx hb dX12_isSmall_16 (by decide) ?_
      exact sx_zret (pc := 17) B hH hr hlk (Or.inl rfl) (by rw [← hQQ]; exact ⟨_, rfl, rfl, hp⟩) (Nat.le_of_ble_eq_true rfl) (Nat.le_of_ble_eq_true rfl) dX12_isSmall_17
    · have hp := hp.2 cc_2
      refine lv_iconst (pc := 12) (v := 1) hx hb dX12_isSmall_12 (by decide) ?_
      refine lv_goto (pc := 13) (tgt := 17) hx hb dX12_isSmall_13 (by decide) ?_
      exact sx_zret (pc := 17) B hH hr hlk (Or.inr rfl) (by rw [← hQQ]; exact ⟨_, rfl, rfl, hp⟩) (Nat.le_of_ble_eq_true rfl) (Nat.le_of_ble_eq_true rfl) dX12_isSmall_17
theorem dX12_isDigit_0 : decode cX12_isDigit 0 = .ok (.iload_n 0, 1) := by decide +kernel
theorem dX12_isDigit_1 : decode cX12_isDigit 1 = .ok (.bipush 48, 2) := by decide +kernel
theorem dX12_isDigit_3 : decode cX12_isDigit 3 = .ok (.if_icmp .lt 13, 3) := by decide +kernel
theorem dX12_isDigit_6 : decode cX12_isDigit 6 = .ok (.iload_n 0, 1) := by decide +kernel
theorem dX12_isDigit_7 : decode cX12_isDigit 7 = .ok (.bipush 57, 2) := by decide +kernel
theorem dX12_isDigit_9 : decode cX12_isDigit 9 = .ok (.if_icmp .gt 7, 3) := by decide +kernel
theorem dX12_isDigit_12 : decode cX12_isDigit 12 = .ok (.iconst 1, 1) := by decide +kernel
theorem dX12_isDigit_13 : decode cX12_isDigit 13 = .ok (.goto 4, 3) := by decide +kernel
theorem dX12_isDigit_16 : decode cX12_isDigit 16 = .ok (.iconst 0, 1) := by decide +kernel
theorem dX12_isDigit_17 : decode cX12_isDigit 17 = .ok (.ireturn, 1) := by decide +kernel
theorem mi_X12_isDigit : MI yX12_isDigit cX12_isDigit 1 (some FieldType.boolean) 1 := ⟨w_1534, w_118, by decide +kernel, by decide +kernel, by decide +kernel⟩
set_option maxRecDepth 100000 in
set_option maxHeartbeats 4000000 in
theorem C_X12_isDigit (G : GG) (l : Launch) (p0 : Int32) (S : St) (Q : Int32 → Prop) (hp : P_X12_isDigit p0 Q) : Ctr G l yX12_isDigit cX12_isDigit 1 (some FieldType.boolean) 0 0 0 0 [.int p0] S (fun (v : Option Value) (S9 : St) => ∃ (r : Int32), v = some (.int r) ∧ S9 = S ∧ Q r ) := by
  generalize hQQ : (fun (v : Option Value) (S9 : St) => ∃ (r : Int32), v = some (.int r) ∧ S9 = S ∧ Q r ) = QQ
  unfold P_X12_isDigit at hp
  refine Ctr.of (by decide) (Nat.le_of_ble_eq_true rfl) ?_
  intro p e s m args below meth c ls B hr hlk hin hl hH
  generalize hlocs0 : ([] : List Loc) = locs at hH ⊢
  have hx := B.1
  have hb := B.2.1
  have hl : lv_has ls 1 [(0, .int p0)] := hl
  refine lv_iload_n (pc := 0) hx hb dX12_isDigit_0 rfl (lv_at hl 0 rfl) ?_
  refine lv_bipush (pc := 1) (v := 48) hx hb dX12_isDigit_1 (by decide) ?_
  refine lv_icmp_lt (pc := 3) (tgt := 16) hx hb dX12_isDigit_3 (by decide) (fun cc_1 => ?_) (fun cc_1 => ?_)
  · have hp := hp.1 cc_1
    refine lv_iconst (pc := 16) (v := 0) hx hb dX12_isDigit_16 (by decide) ?_
    exact sx_zret (pc := 17) B hH hr hlk (Or.inl rfl) (by rw [← hQQ]; exact ⟨_, rfl, rfl, hp⟩) (Nat.le_of_ble_eq_true rfl) (Nat.le_of_ble_eq_true rfl) dX12_isDigit_17
  · have hp := hp.2 cc_1
    refine lv_iload_n (pc := 6) hx hb dX12_isDigit_6 rfl (lv_at hl 0 rfl) ?_
    refine lv_bipush (pc := 7) (v := 57) hx hb dX12_isDigit_7 (by decide) ?_
    refine lv_icmp_gt (pc := 9) (tgt := 16) hx hb dX12_isDigit_9 (by decide) (fun cc_2 => ?_) (fun cc_2 => ?_)
    · have hp := hp.1 cc_2
      refine lv_iconst (pc := 16) (v := 0) hx hb dX12_isDigit_16 (by decide) ?_
      exact sx_zret (pc := 17) B hH hr hlk (Or.inl rfl) (by rw [← hQQ]; exact ⟨_, rfl, rfl, hp⟩) (Nat.le_of_ble_eq_true rfl) (Nat.le_of_ble_eq_true rfl) dX12_isDigit_17
    · have hp := hp.2 cc_2
      refine lv_iconst (pc := 12) (v := 1) hx hb dX12_isDigit_12 (by decide) ?_
      refine lv_goto (pc := 13) (tgt := 17) hx hb dX12_isDigit_13 (by decide) ?_
      exact sx_zret (pc := 17) B hH hr hlk (Or.inr rfl) (by rw [← hQQ]; exact ⟨_, rfl, rfl, hp⟩) (Nat.le_of_ble_eq_true rfl) (Nat.le_of_ble_eq_true rfl) dX12_isDigit_17
theorem dX12_ahead_0 : decode cX12_ahead 0 = .ok (.aload_n 0, 1) := by decide +kernel
theorem dX12_ahead_1 : decode cX12_ahead 1 = .ok (.aload_n 0, 1) := by decide +kernel
theorem dX12_ahead_2 : decode cX12_ahead 2 = .ok (.getfield 139, 3) := by decide +kernel
theorem dX12_ahead_5 : decode cX12_ahead 5 = .ok (.invokevirtual 142, 3) := by decide +kernel
theorem dX12_ahead_8 : decode cX12_ahead 8 = .ok (.bipush 32, 2) := by decide +kernel
theorem dX12_ahead_10 : decode cX12_ahead 10 = .ok (.if_icmp .eq 16, 3) := by decide +kernel
theorem dX12_ahead_13 : decode cX12_ahead 13 = .ok (.aload_n 0, 1) := by decide +kernel
theorem dX12_ahead_14 : decode cX12_ahead 14 = .ok (.aload_n 0, 1) := by decide +kernel
theorem dX12_ahead_15 : decode cX12_ahead 15 = .ok (.getfield 139, 3) := by decide +kernel
theorem dX12_ahead_18 : decode cX12_ahead 18 = .ok (.invokevirtual 142, 3) := by decide +kernel
theorem dX12_ahead_21 : decode cX12_ahead 21 = .ok (.bipush 10, 2) := by decide +kernel
theorem dX12_ahead_23 : decode cX12_ahead 23 = .ok (.if_icmp .ne 16, 3) := by decide +kernel
theorem dX12_ahead_26 : decode cX12_ahead 26 = .ok (.aload_n 0, 1) := by decide +kernel
theorem dX12_ahead_27 : decode cX12_ahead 27 = .ok (.dup, 1) := by decide +kernel
theorem dX12_ahead_28 : decode cX12_ahead 28 = .ok (.getfield 139, 3) := by decide +kernel
theorem dX12_ahead_31 : decode cX12_ahead 31 = .ok (.iconst 1, 1) := by decide +kernel
theorem dX12_ahead_32 : decode cX12_ahead 32 = .ok (.iadd, 1) := by decide +kernel
theorem dX12_ahead_33 : decode cX12_ahead 33 = .ok (.putfield 139, 3) := by decide +kernel
theorem dX12_ahead_36 : decode cX12_ahead 36 = .ok (.goto (-36), 3) := by decide +kernel
theorem dX12_ahead_39 : decode cX12_ahead 39 = .ok (.aload_n 0, 1) := by decide +kernel
theorem dX12_ahead_40 : decode cX12_ahead 40 = .ok (.aload_n 0, 1) := by decide +kernel
theorem dX12_ahead_41 : decode cX12_ahead 41 = .ok (.getfield 139, 3) := by decide +kernel
theorem dX12_ahead_44 : decode cX12_ahead 44 = .ok (.putfield 145, 3) := by decide +kernel
theorem dX12_ahead_47 : decode cX12_ahead 47 = .ok (.aload_n 0, 1) := by decide +kernel
theorem dX12_ahead_48 : decode cX12_ahead 48 = .ok (.aload_n 0, 1) := by decide +kernel
theorem dX12_ahead_49 : decode cX12_ahead 49 = .ok (.getfield 139, 3) := by decide +kernel
theorem dX12_ahead_52 : decode cX12_ahead 52 = .ok (.invokevirtual 142, 3) := by decide +kernel
theorem dX12_ahead_55 : decode cX12_ahead 55 = .ok (.istore_n 1, 1) := by decide +kernel
theorem dX12_ahead_56 : decode cX12_ahead 56 = .ok (.aload_n 0, 1) := by decide +kernel
theorem dX12_ahead_57 : decode cX12_ahead 57 = .ok (.iload_n 1, 1) := by decide +kernel
theorem dX12_ahead_58 : decode cX12_ahead 58 = .ok (.putfield 148, 3) := by decide +kernel
theorem dX12_ahead_61 : decode cX12_ahead 61 = .ok (.iload_n 1, 1) := by decide +kernel
theorem dX12_ahead_62 : decode cX12_ahead 62 = .ok (.iconst (-1), 1) := by decide +kernel
theorem dX12_ahead_63 : decode cX12_ahead 63 = .ok (.if_icmp .ne 11, 3) := by decide +kernel
theorem dX12_ahead_66 : decode cX12_ahead 66 = .ok (.aload_n 0, 1) := by decide +kernel
theorem dX12_ahead_67 : decode cX12_ahead 67 = .ok (.iconst 0, 1) := by decide +kernel
theorem dX12_ahead_68 : decode cX12_ahead 68 = .ok (.putfield 151, 3) := by decide +kernel
theorem dX12_ahead_71 : decode cX12_ahead 71 = .ok (.goto 163, 3) := by decide +kernel
theorem dX12_ahead_74 : decode cX12_ahead 74 = .ok (.iload_n 1, 1) := by decide +kernel
theorem dX12_ahead_75 : decode cX12_ahead 75 = .ok (.invokestatic 154, 3) := by decide +kernel
theorem dX12_ahead_78 : decode cX12_ahead 78 = .ok (.ifCond .eq 38, 3) := by decide +kernel
theorem dX12_ahead_81 : decode cX12_ahead 81 = .ok (.aload_n 0, 1) := by decide +kernel
theorem dX12_ahead_82 : decode cX12_ahead 82 = .ok (.aload_n 0, 1) := by decide +kernel
theorem dX12_ahead_83 : decode cX12_ahead 83 = .ok (.getfield 139, 3) := by decide +kernel
theorem dX12_ahead_86 : decode cX12_ahead 86 = .ok (.invokevirtual 142, 3) := by decide +kernel
theorem dX12_ahead_89 : decode cX12_ahead 89 = .ok (.invokestatic 154, 3) := by decide +kernel
theorem dX12_ahead_92 : decode cX12_ahead 92 = .ok (.ifCond .eq 16, 3) := by decide +kernel
theorem dX12_ahead_95 : decode cX12_ahead 95 = .ok (.aload_n 0, 1) := by decide +kernel
theorem dX12_ahead_96 : decode cX12_ahead 96 = .ok (.dup, 1) := by decide +kernel
theorem dX12_ahead_97 : decode cX12_ahead 97 = .ok (.getfield 139, 3) := by decide +kernel
theorem dX12_ahead_100 : decode cX12_ahead 100 = .ok (.iconst 1, 1) := by decide +kernel
theorem dX12_ahead_101 : decode cX12_ahead 101 = .ok (.iadd, 1) := by decide +kernel
theorem dX12_ahead_102 : decode cX12_ahead 102 = .ok (.putfield 139, 3) := by decide +kernel
theorem dX12_ahead_105 : decode cX12_ahead 105 = .ok (.goto (-24), 3) := by decide +kernel
theorem dX12_ahead_108 : decode cX12_ahead 108 = .ok (.aload_n 0, 1) := by decide +kernel
theorem dX12_ahead_109 : decode cX12_ahead 109 = .ok (.iconst 2, 1) := by decide +kernel
theorem dX12_ahead_110 : decode cX12_ahead 110 = .ok (.putfield 151, 3) := by decide +kernel
theorem dX12_ahead_113 : decode cX12_ahead 113 = .ok (.goto 121, 3) := by decide +kernel
theorem dX12_ahead_116 : decode cX12_ahead 116 = .ok (.iload_n 1, 1) := by decide +kernel
theorem dX12_ahead_117 : decode cX12_ahead 117 = .ok (.invokestatic 157, 3) := by decide +kernel
theorem dX12_ahead_120 : decode cX12_ahead 120 = .ok (.ifCond .eq 89, 3) := by decide +kernel
theorem dX12_ahead_123 : decode cX12_ahead 123 = .ok (.aload_n 0, 1) := by decide +kernel
theorem dX12_ahead_124 : decode cX12_ahead 124 = .ok (.iconst 0, 1) := by decide +kernel
theorem dX12_ahead_125 : decode cX12_ahead 125 = .ok (.putfield 148, 3) := by decide +kernel
theorem dX12_ahead_128 : decode cX12_ahead 128 = .ok (.aload_n 0, 1) := by decide +kernel
theorem dX12_ahead_129 : decode cX12_ahead 129 = .ok (.aload_n 0, 1) := by decide +kernel
theorem dX12_ahead_130 : decode cX12_ahead 130 = .ok (.getfield 139, 3) := by decide +kernel
theorem dX12_ahead_133 : decode cX12_ahead 133 = .ok (.invokevirtual 142, 3) := by decide +kernel
theorem dX12_ahead_136 : decode cX12_ahead 136 = .ok (.invokestatic 157, 3) := by decide +kernel
theorem dX12_ahead_139 : decode cX12_ahead 139 = .ok (.ifCond .eq 44, 3) := by decide +kernel
theorem dX12_ahead_142 : decode cX12_ahead 142 = .ok (.aload_n 0, 1) := by decide +kernel
theorem dX12_ahead_143 : decode cX12_ahead 143 = .ok (.ldc 160, 2) := by decide +kernel
theorem dX12_ahead_145 : decode cX12_ahead 145 = .ok (.bipush 10, 2) := by decide +kernel
theorem dX12_ahead_147 : decode cX12_ahead 147 = .ok (.aload_n 0, 1) := by decide +kernel
theorem dX12_ahead_148 : decode cX12_ahead 148 = .ok (.getfield 148, 3) := by decide +kernel
theorem dX12_ahead_151 : decode cX12_ahead 151 = .ok (.imul, 1) := by decide +kernel
theorem dX12_ahead_152 : decode cX12_ahead 152 = .ok (.aload_n 0, 1) := by decide +kernel
theorem dX12_ahead_153 : decode cX12_ahead 153 = .ok (.aload_n 0, 1) := by decide +kernel
theorem dX12_ahead_154 : decode cX12_ahead 154 = .ok (.getfield 139, 3) := by decide +kernel
theorem dX12_ahead_157 : decode cX12_ahead 157 = .ok (.invokevirtual 142, 3) := by decide +kernel
theorem dX12_ahead_160 : decode cX12_ahead 160 = .ok (.iadd, 1) := by decide +kernel
theorem dX12_ahead_161 : decode cX12_ahead 161 = .ok (.bipush 48, 2) := by decide +kernel
theorem dX12_ahead_163 : decode cX12_ahead 163 = .ok (.isub, 1) := by decide +kernel
theorem dX12_ahead_164 : decode cX12_ahead 164 = .ok (.invokestatic 161, 3) := by decide +kernel
theorem dX12_ahead_167 : decode cX12_ahead 167 = .ok (.putfield 148, 3) := by decide +kernel
theorem dX12_ahead_170 : decode cX12_ahead 170 = .ok (.aload_n 0, 1) := by decide +kernel
theorem dX12_ahead_171 : decode cX12_ahead 171 = .ok (.dup, 1) := by decide +kernel
theorem dX12_ahead_172 : decode cX12_ahead 172 = .ok (.getfield 139, 3) := by decide +kernel
theorem dX12_ahead_175 : decode cX12_ahead 175 = .ok (.iconst 1, 1) := by decide +kernel
theorem dX12_ahead_176 : decode cX12_ahead 176 = .ok (.iadd, 1) := by decide +kernel
theorem dX12_ahead_177 : decode cX12_ahead 177 = .ok (.putfield 139, 3) := by decide +kernel
theorem dX12_ahead_180 : decode cX12_ahead 180 = .ok (.goto (-52), 3) := by decide +kernel
theorem dX12_ahead_183 : decode cX12_ahead 183 = .ok (.aload_n 0, 1) := by decide +kernel
theorem dX12_ahead_184 : decode cX12_ahead 184 = .ok (.aload_n 0, 1) := by decide +kernel
theorem dX12_ahead_185 : decode cX12_ahead 185 = .ok (.getfield 139, 3) := by decide +kernel
theorem dX12_ahead_188 : decode cX12_ahead 188 = .ok (.aload_n 0, 1) := by decide +kernel
theorem dX12_ahead_189 : decode cX12_ahead 189 = .ok (.getfield 145, 3) := by decide +kernel
theorem dX12_ahead_192 : decode cX12_ahead 192 = .ok (.isub, 1) := by decide +kernel
theorem dX12_ahead_193 : decode cX12_ahead 193 = .ok (.bipush 8, 2) := by decide +kernel
theorem dX12_ahead_195 : decode cX12_ahead 195 = .ok (.if_icmp .le 7, 3) := by decide +kernel
theorem dX12_ahead_198 : decode cX12_ahead 198 = .ok (.iconst 1, 1) := by decide +kernel
theorem dX12_ahead_199 : decode cX12_ahead 199 = .ok (.goto 4, 3) := by decide +kernel
theorem dX12_ahead_202 : decode cX12_ahead 202 = .ok (.iconst 3, 1) := by decide +kernel
theorem dX12_ahead_203 : decode cX12_ahead 203 = .ok (.putfield 151, 3) := by decide +kernel
theorem dX12_ahead_206 : decode cX12_ahead 206 = .ok (.goto 28, 3) := by decide +kernel
theorem dX12_ahead_209 : decode cX12_ahead 209 = .ok (.aload_n 0, 1) := by decide +kernel
theorem dX12_ahead_210 : decode cX12_ahead 210 = .ok (.dup, 1) := by decide +kernel
theorem dX12_ahead_211 : decode cX12_ahead 211 = .ok (.getfield 139, 3) := by decide +kernel
theorem dX12_ahead_214 : decode cX12_ahead 214 = .ok (.iconst 1, 1) := by decide +kernel
theorem dX12_ahead_215 : decode cX12_ahead 215 = .ok (.iadd, 1) := by decide +kernel
theorem dX12_ahead_216 : decode cX12_ahead 216 = .ok (.putfield 139, 3) := by decide +kernel
theorem dX12_ahead_219 : decode cX12_ahead 219 = .ok (.aload_n 0, 1) := by decide +kernel
theorem dX12_ahead_220 : decode cX12_ahead 220 = .ok (.iload_n 1, 1) := by decide +kernel
theorem dX12_ahead_221 : decode cX12_ahead 221 = .ok (.bipush 59, 2) := by decide +kernel
theorem dX12_ahead_223 : decode cX12_ahead 223 = .ok (.if_icmp .ne 7, 3) := by decide +kernel
theorem dX12_ahead_226 : decode cX12_ahead 226 = .ok (.iconst 4, 1) := by decide +kernel
theorem dX12_ahead_227 : decode cX12_ahead 227 = .ok (.goto 4, 3) := by decide +kernel
theorem dX12_ahead_230 : decode cX12_ahead 230 = .ok (.iconst 1, 1) := by decide +kernel
theorem dX12_ahead_231 : decode cX12_ahead 231 = .ok (.putfield 151, 3) := by decide +kernel
theorem dX12_ahead_234 : decode cX12_ahead 234 = .ok (.return_, 1) := by decide +kernel
theorem mi_X12_ahead : MI yX12_ahead cX12_ahead 2 (none : Option Jvm.ClassFile.FieldType) 0 := ⟨w_1524, w_118, by decide +kernel, by decide +kernel, by decide +kernel⟩
set_option maxRecDepth 100000 in
set_option maxHeartbeats 4000000 in
theorem C_X12_ahead (G : GG) (l : Launch) (th : Nat) (S : St) (Q : (Nat → Nat → Int32) → Prop) (hp : P_X12_ahead th S Q) : Ctr G l yX12_ahead cX12_ahead 2 (none : Option Jvm.ClassFile.FieldType) 1 21 0 0 [.ref th] S (fun (v : Option Value) (S9 : St) => ∃ (I9 : Nat → Nat → Int32), v = none ∧ S9 = wI S I9 ∧ Q I9) := by
  generalize hQQ : (fun (v : Option Value) (S9 : St) => ∃ (I9 : Nat → Nat → Int32), v = none ∧ S9 = wI S I9 ∧ Q I9) = QQ
  unfold P_X12_ahead at hp
  refine Ctr.of (by decide) (Nat.le_of_ble_eq_true rfl) ?_
  intro p e s m args below meth c ls B hr hlk hin hl hH
  generalize hlocs0 : ([] : List Loc) = locs at hH ⊢
  have hx := B.1
  have hb := B.2.1
  have hl : lv_has ls 2 [(0, .ref th)] := hl
  obtain ⟨hk_th, hp⟩ := hp
  obtain ⟨I_1, ⟨k0_1, h0_1⟩, hst_1⟩ := hp
  have kl_1 : ∀ (n_1 : Nat) (F_2 : Nat → Nat → Int32) (H : Heap) (locs : List Loc) (ls : Array Slot), I_1 n_1 F_2 → Hp G (FA S s.heap.size) s.heap (wI S F_2) H locs → lv_has ls 2 [(0, .ref th)] → Wm G p l e { frames := 1, cells := 0, slots := 0, locals := 21 } s m args below meth c S QQ 0 0 H locs 0 0 (F0 m 0 ls []) := by
    intro n_1
    induction n_1 using Nat.strongRecOn with
    | ind n_1 ih_1 =>
      intro F_2 H locs ls hq9 hH hl
      have hp := hst_1 n_1 F_2 hq9
      refine lv_aload_n (pc := 0) hx hb dX12_ahead_0 rfl (lv_at hl 0 rfl) ?_
      refine lv_aload_n (pc := 1) hx hb dX12_ahead_1 rfl (lv_at hl 0 rfl) ?_
      refine sx_getI (pc := 2) (j := 14) B hH hk_th coX12 rfl w_1318 rfl dX12_ahead_2 ?_
      refine W.eq (g2 := F0 m 5 ls [.int (F_2 th 14), .ref th]) rfl ?_
      refine sx_V (pc := 5) (As := [.int (F_2 th 14)]) (rest := []) B hH hl.1 (C_X12_byteAt G l th (F_2 th 14) _ _ hp) mi_X12_byteAt coX12 hk_th w_1527 w_50 w_1525 rfl rfl ⟨Nat.le_of_ble_eq_true rfl, Nat.le_of_ble_eq_true rfl⟩ (Nat.le_of_ble_eq_true rfl) ⟨Nat.le_of_ble_eq_true rfl, Nat.le_of_ble_eq_true rfl⟩ dX12_ahead_5 (fun v S1 H locs hq hH => ?_)
      obtain ⟨r_3, rfl, e9, hp⟩ := hq
      rw [e9] at hH
      refine W.eq (g2 := F0 m 8 ls [.int r_3]) rfl ?_
      refine lv_bipush (pc := 8) (v := 32) hx hb dX12_ahead_8 (by decide) ?_
      obtain ⟨J_5, hj_5, hp⟩ := hp
      have kj_5 : ∀  (H : Heap) (locs : List Loc) (ls : Array Slot), J_5  → Hp G (FA S s.heap.size) s.heap (wI S F_2) H locs → lv_has ls 2 [(0, .ref th)] → Wm G p l e { frames := 1, cells := 0, slots := 0, locals := 21 } s m args below meth c S QQ 0 0 H locs 0 0 (F0 m 26 ls []) := by
        intro  H locs ls hq9 hH hl
        have hp := hj_5  hq9
        refine lv_aload_n (pc := 26) hx hb dX12_ahead_26 rfl (lv_at hl 0 rfl) ?_
        refine lv_dup (pc := 27) hx hb dX12_ahead_27 rfl ?_
        refine sx_getI (pc := 28) (j := 14) B hH hk_th coX12 rfl w_1318 rfl dX12_ahead_28 ?_
        refine W.eq (g2 := F0 m 31 ls [.int (F_2 th 14), .ref th]) rfl ?_
        refine lv_iconst (pc := 31) (v := 1) hx hb dX12_ahead_31 (by decide) ?_
        refine lv_iadd (pc := 32) hx hb dX12_ahead_32 ?_
        refine lv_topi (fun v_6 ev_6 => ?_)
        have hp := hp v_6 ev_6
        obtain ⟨F_7, eF_7⟩ : ∃ z : Nat → Nat → Int32, z = upI F_2 th 14 v_6 := ⟨_, rfl⟩
        have hp := hp F_7 eF_7
        refine sx_putI (pc := 33) (j := 14) B hH hk_th coX12 rfl w_1318 rfl (Or.inl rfl) rfl dX12_ahead_33 (fun H locs hH => ?_)
        have hH : Hp G (FA S s.heap.size) s.heap (wI S F_7) H locs := by rw [eF_7]; exact hH
        refine lv_goto (pc := 36) (tgt := 0) hx hb dX12_ahead_36 (by decide) ?_
        obtain ⟨k9, hlt9, hp⟩ := hp
        exact ih_1 k9 hlt9 _ _ _ _ hp hH (lv_sub hl [0] rfl)
      refine lv_icmp_eq (pc := 10) (tgt := 26) hx hb dX12_ahead_10 (by decide) (fun cc_4 => ?_) (fun cc_4 => ?_)
      · have hp := hp.1 cc_4
        exact kj_5  _ _ _ hp hH (lv_sub hl [0] rfl)
      · have hp := hp.2 cc_4
        refine lv_aload_n (pc := 13) hx hb dX12_ahead_13 rfl (lv_at hl 0 rfl) ?_
        refine lv_aload_n (pc := 14) hx hb dX12_ahead_14 rfl (lv_at hl 0 rfl) ?_
        refine sx_getI (pc := 15) (j := 14) B hH hk_th coX12 rfl w_1318 rfl dX12_ahead_15 ?_
        refine W.eq (g2 := F0 m 18 ls [.int (F_2 th 14), .ref th]) rfl ?_
        refine sx_V (pc := 18) (As := [.int (F_2 th 14)]) (rest := []) B hH hl.1 (C_X12_byteAt G l th (F_2 th 14) _ _ hp) mi_X12_byteAt coX12 hk_th w_1527 w_50 w_1525 rfl rfl ⟨Nat.le_of_ble_eq_true rfl, Nat.le_of_ble_eq_true rfl⟩ (Nat.le_of_ble_eq_true rfl) ⟨Nat.le_of_ble_eq_true rfl, Nat.le_of_ble_eq_true rfl⟩ dX12_ahead_18 (fun v S1 H locs hq hH => ?_)
        obtain ⟨r_8, rfl, e9, hp⟩ := hq
        rw [e9] at hH
        refine W.eq (g2 := F0 m 21 ls [.int r_8]) rfl ?_
        refine lv_bipush (pc := 21) (v := 10) hx hb dX12_ahead_21 (by decide) ?_
        refine lv_icmp_ne (pc := 23) (tgt := 39) hx hb dX12_ahead_23 (by decide) (fun cc_9 => ?_) (fun cc_9 => ?_)
        · have hp := hp.1 cc_9
          refine lv_aload_n (pc := 39) hx hb dX12_ahead_39 rfl (lv_at hl 0 rfl) ?_
          refine lv_aload_n (pc := 40) hx hb dX12_ahead_40 rfl (lv_at hl 0 rfl) ?_
          refine sx_getI (pc := 41) (j := 14) B hH hk_th coX12 rfl w_1318 rfl dX12_ahead_41 ?_
          refine W.eq (g2 := F0 m 44 ls [.int (F_2 th 14), .ref th]) rfl ?_
          refine lv_topi (fun v_10 ev_10 => ?_)
          have hp := hp v_10 ev_10
          obtain ⟨F_11, eF_11⟩ : ∃ z : Nat → Nat → Int32, z = upI F_2 th 13 v_10 := ⟨_, rfl⟩
          have hp := hp F_11 eF_11
          refine sx_putI (pc := 44) (j := 13) B hH hk_th coX12 rfl w_1317 rfl (Or.inl rfl) rfl dX12_ahead_44 (fun H locs hH => ?_)
          have hH : Hp G (FA S s.heap.size) s.heap (wI S F_11) H locs := by rw [eF_11]; exact hH
          refine lv_aload_n (pc := 47) hx hb dX12_ahead_47 rfl (lv_at hl 0 rfl) ?_
          refine lv_aload_n (pc := 48) hx hb dX12_ahead_48 rfl (lv_at hl 0 rfl) ?_
          refine sx_getI (pc := 49) (j := 14) B hH hk_th coX12 rfl w_1318 rfl dX12_ahead_49 ?_
          refine W.eq (g2 := F0 m 52 ls [.int (F_11 th 14), .ref th]) rfl ?_
          refine sx_V (pc := 52) (As := [.int (F_11 th 14)]) (rest := []) B hH hl.1 (C_X12_byteAt G l th (F_11 th 14) _ _ hp) mi_X12_byteAt coX12 hk_th w_1527 w_50 w_1525 rfl rfl ⟨Nat.le_of_ble_eq_true rfl, Nat.le_of_ble_eq_true rfl⟩ (Nat.le_of_ble_eq_true rfl) ⟨Nat.le_of_ble_eq_true rfl, Nat.le_of_ble_eq_true rfl⟩ dX12_ahead_52 (fun v S1 H locs hq hH => ?_)
          obtain ⟨r_12, rfl, e9, hp⟩ := hq
          rw [e9] at hH
          refine W.eq (g2 := F0 m 55 ls [.int r_12]) rfl ?_
          refine lv_istore_n (pc := 55) (lv' := [(1, .int r_12), (0, .ref th)]) hx hb dX12_ahead_55 rfl hl (by decide) rfl (fun ls hl => ?_)
          refine lv_aload_n (pc := 56) hx hb dX12_ahead_56 rfl (lv_at hl 1 rfl) ?_
          refine lv_iload_n (pc := 57) hx hb dX12_ahead_57 rfl (lv_at hl 0 rfl) ?_
          obtain ⟨F_13, eF_13⟩ : ∃ z : Nat → Nat → Int32, z = upI F_11 th 15 r_12 := ⟨_, rfl⟩
          have hp := hp F_13 eF_13
          refine sx_putI (pc := 58) (j := 15) B hH hk_th coX12 rfl w_1319 rfl (Or.inl rfl) rfl dX12_ahead_58 (fun H locs hH => ?_)
          have hH : Hp G (FA S s.heap.size) s.heap (wI S F_13) H locs := by rw [eF_13]; exact hH
          refine lv_iload_n (pc := 61) hx hb dX12_ahead_61 rfl (lv_at hl 0 rfl) ?_
          refine lv_iconst (pc := 62) (v := (-1)) hx hb dX12_ahead_62 (by decide) ?_
          refine lv_icmp_ne (pc := 63) (tgt := 74) hx hb dX12_ahead_63 (by decide) (fun cc_14 => ?_) (fun cc_14 => ?_)
          · have hp := hp.1 cc_14
            refine lv_iload_n (pc := 74) hx hb dX12_ahead_74 rfl (lv_at hl 0 rfl) ?_
            refine sx_S (pc := 75) (As := [.int r_12]) (rest := []) B hH hl.1 (C_X12_isSmall G l r_12 _ _ hp) mi_X12_isSmall w_1530 w_1529 rfl rfl ⟨Nat.le_of_ble_eq_true rfl, Nat.le_of_ble_eq_true rfl⟩ (Nat.le_of_ble_eq_true rfl) ⟨Nat.le_of_ble_eq_true rfl, Nat.le_of_ble_eq_true rfl⟩ dX12_ahead_75 (fun v S1 H locs hq hH => ?_)
            obtain ⟨r_15, rfl, e9, hp⟩ := hq
            rw [e9] at hH
            refine W.eq (g2 := F0 m 78 ls [.int r_15]) rfl ?_
            refine lv_if_eq (pc := 78) (tgt := 116) hx hb dX12_ahead_78 (by decide) (fun cc_16 => ?_) (fun cc_16 => ?_)
            · have hp := hp.1 cc_16
              refine lv_iload_n (pc := 116) hx hb dX12_ahead_116 rfl (lv_at hl 0 rfl) ?_
              refine sx_S (pc := 117) (As := [.int r_12]) (rest := []) B hH hl.1 (C_X12_isDigit G l r_12 _ _ hp) mi_X12_isDigit w_1533 w_1532 rfl rfl ⟨Nat.le_of_ble_eq_true rfl, Nat.le_of_ble_eq_true rfl⟩ (Nat.le_of_ble_eq_true rfl) ⟨Nat.le_of_ble_eq_true rfl, Nat.le_of_ble_eq_true rfl⟩ dX12_ahead_117 (fun v S1 H locs hq hH => ?_)
              obtain ⟨r_17, rfl, e9, hp⟩ := hq
              rw [e9] at hH
              refine W.eq (g2 := F0 m 120 ls [.int r_17]) rfl ?_
              refine lv_if_eq (pc := 120) (tgt := 209) hx hb dX12_ahead_120 (by decide) (fun cc_18 => ?_) (fun cc_18 => ?_)
              · have hp := hp.1 cc_18
                refine lv_aload_n (pc := 209) hx hb dX12_ahead_209 rfl (lv_at hl 1 rfl) ?_
                refine lv_dup (pc := 210) hx hb dX12_ahead_210 rfl ?_
                refine sx_getI (pc := 211) (j := 14) B hH hk_th coX12 rfl w_1318 rfl dX12_ahead_211 ?_
                refine W.eq (g2 := F0 m 214 ls [.int (F_13 th 14), .ref th]) rfl ?_
                refine lv_iconst (pc := 214) (v := 1) hx hb dX12_ahead_214 (by decide) ?_
                refine lv_iadd (pc := 215) hx hb dX12_ahead_215 ?_
                refine lv_topi (fun v_19 ev_19 => ?_)
                have hp := hp v_19 ev_19
                obtain ⟨F_20, eF_20⟩ : ∃ z : Nat → Nat → Int32, z = upI F_13 th 14 v_19 := ⟨_, rfl⟩
                have hp := hp F_20 eF_20
                refine sx_putI (pc := 216) (j := 14) B hH hk_th coX12 rfl w_1318 rfl (Or.inl rfl) rfl dX12_ahead_216 (fun H locs hH => ?_)
                have hH : Hp G (FA S s.heap.size) s.heap (wI S F_20) H locs := by rw [eF_20]; exact hH
                refine lv_aload_n (pc := 219) hx hb dX12_ahead_219 rfl (lv_at hl 1 rfl) ?_
                refine lv_iload_n (pc := 220) hx hb dX12_ahead_220 rfl (lv_at hl 0 rfl) ?_
                refine lv_bipush (pc := 221) (v := 59) hx hb dX12_ahead_221 (by decide) ?_
                obtain ⟨J_22, hj_22, hp⟩ := hp
                have kj_22 : ∀ (t_23 : Int32) (H : Heap) (locs : List Loc) (ls : Array Slot), J_22 t_23 → Hp G (FA S s.heap.size) s.heap (wI S F_20) H locs → lv_has ls 2 [] → Wm G p l e { frames := 1, cells := 0, slots := 0, locals := 21 } s m args below meth c S QQ 0 0 H locs 0 0 (F0 m 231 ls [.int t_23, .ref th]) := by
                  intro t_23 H locs ls hq9 hH hl
                  have hp := hj_22 t_23 hq9
                  obtain ⟨F_24, eF_24⟩ : ∃ z : Nat → Nat → Int32, z = upI F_20 th 12 t_23 := ⟨_, rfl⟩
                  have hp := hp F_24 eF_24
                  refine sx_putI (pc := 231) (j := 12) B hH hk_th coX12 rfl w_1316 rfl (Or.inl rfl) rfl dX12_ahead_231 (fun H locs hH => ?_)
                  have hH : Hp G (FA S s.heap.size) s.heap (wI S F_24) H locs := by rw [eF_24]; exact hH
                  exact sx_vret (pc := 234) B hH hr hlk (by rw [← hQQ]; exact ⟨F_24, rfl, rfl, hp⟩) (Nat.le_of_ble_eq_true rfl) (Nat.le_of_ble_eq_true rfl) dX12_ahead_234
                refine lv_icmp_ne (pc := 223) (tgt := 230) hx hb dX12_ahead_223 (by decide) (fun cc_21 => ?_) (fun cc_21 => ?_)
                · have hp := hp.1 cc_21
                  refine lv_iconst (pc := 230) (v := 1) hx hb dX12_ahead_230 (by decide) ?_
                  exact kj_22 _ _ _ _ hp hH (lv_sub hl [] rfl)
                · have hp := hp.2 cc_21
                  refine lv_iconst (pc := 226) (v := 4) hx hb dX12_ahead_226 (by decide) ?_
                  refine lv_goto (pc := 227) (tgt := 231) hx hb dX12_ahead_227 (by decide) ?_
                  exact kj_22 _ _ _ _ hp hH (lv_sub hl [] rfl)
              · have hp := hp.2 cc_18
                refine lv_aload_n (pc := 123) hx hb dX12_ahead_123 rfl (lv_at hl 1 rfl) ?_
                refine lv_iconst (pc := 124) (v := 0) hx hb dX12_ahead_124 (by decide) ?_
                obtain ⟨F_25, eF_25⟩ : ∃ z : Nat → Nat → Int32, z = upI F_13 th 15 0 := ⟨_, rfl⟩
                have hp := hp F_25 eF_25
                refine sx_putI (pc := 125) (j := 15) B hH hk_th coX12 rfl w_1319 rfl (Or.inl rfl) rfl dX12_ahead_125 (fun H locs hH => ?_)
                have hH : Hp G (FA S s.heap.size) s.heap (wI S F_25) H locs := by rw [eF_25]; exact hH
                obtain ⟨I_26, ⟨k0_26, h0_26⟩, hst_26⟩ := hp
                have kl_26 : ∀ (n_26 : Nat) (F_27 : Nat → Nat → Int32) (H : Heap) (locs : List Loc) (ls : Array Slot), I_26 n_26 F_27 → Hp G (FA S s.heap.size) s.heap (wI S F_27) H locs → lv_has ls 2 [(0, .ref th)] → Wm G p l e { frames := 1, cells := 0, slots := 0, locals := 21 } s m args below meth c S QQ 0 0 H locs 0 0 (F0 m 128 ls []) := by
                  intro n_26
                  induction n_26 using Nat.strongRecOn with
                  | ind n_26 ih_26 =>
                    intro F_27 H locs ls hq9 hH hl
                    have hp := hst_26 n_26 F_27 hq9
                    refine lv_aload_n (pc := 128) hx hb dX12_ahead_128 rfl (lv_at hl 0 rfl) ?_
                    refine lv_aload_n (pc := 129) hx hb dX12_ahead_129 rfl (lv_at hl 0 rfl) ?_
                    refine sx_getI (pc := 130) (j := 14) B hH hk_th coX12 rfl w_1318 rfl dX12_ahead_130 ?_
                    refine W.eq (g2 := F0 m 133 ls [.int (F_27 th 14), .ref th]) rfl ?_
                    refine sx_V (pc := 133) (As := [.int (F_27 th 14)]) (rest := []) B hH hl.1 (C_X12_byteAt G l th (F_27 th 14) _ _ hp) mi_X12_byteAt coX12 hk_th w_1527 w_50 w_1525 rfl rfl ⟨Nat.le_of_ble_eq_true rfl, Nat.le_of_ble_eq_true rfl⟩ (Nat.le_of_ble_eq_true rfl) ⟨Nat.le_of_ble_eq_true rfl, Nat.le_of_ble_eq_true rfl⟩ dX12_ahead_133 (fun v S1 H locs hq hH => ?_)
                    obtain ⟨r_28, rfl, e9, hp⟩ := hq
                    rw [e9] at hH
                    refine W.eq (g2 := F0 m 136 ls [.int r_28]) rfl ?_
                    refine sx_S (pc := 136) (As := [.int r_28]) (rest := []) B hH hl.1 (C_X12_isDigit G l r_28 _ _ hp) mi_X12_isDigit w_1533 w_1532 rfl rfl ⟨Nat.le_of_ble_eq_true rfl, Nat.le_of_ble_eq_true rfl⟩ (Nat.le_of_ble_eq_true rfl) ⟨Nat.le_of_ble_eq_true rfl, Nat.le_of_ble_eq_true rfl⟩ dX12_ahead_136 (fun v S1 H locs hq hH => ?_)
                    obtain ⟨r_29, rfl, e9, hp⟩ := hq
                    rw [e9] at hH
                    refine W.eq (g2 := F0 m 139 ls [.int r_29]) rfl ?_
                    refine lv_if_eq (pc := 139) (tgt := 183) hx hb dX12_ahead_139 (by decide) (fun cc_30 => ?_) (fun cc_30 => ?_)
                    · have hp := hp.1 cc_30
                      refine lv_aload_n (pc := 183) hx hb dX12_ahead_183 rfl (lv_at hl 0 rfl) ?_
                      refine lv_aload_n (pc := 184) hx hb dX12_ahead_184 rfl (lv_at hl 0 rfl) ?_
                      refine sx_getI (pc := 185) (j := 14) B hH hk_th coX12 rfl w_1318 rfl dX12_ahead_185 ?_
                      refine W.eq (g2 := F0 m 188 ls [.int (F_27 th 14), .ref th]) rfl ?_
                      refine lv_aload_n (pc := 188) hx hb dX12_ahead_188 rfl (lv_at hl 0 rfl) ?_
                      refine sx_getI (pc := 189) (j := 13) B hH hk_th coX12 rfl w_1317 rfl dX12_ahead_189 ?_
                      refine W.eq (g2 := F0 m 192 ls [.int (F_27 th 13), .int (F_27 th 14), .ref th]) rfl ?_
                      refine lv_isub (pc := 192) hx hb dX12_ahead_192 ?_
                      refine lv_bipush (pc := 193) (v := 8) hx hb dX12_ahead_193 (by decide) ?_
                      obtain ⟨J_32, hj_32, hp⟩ := hp
                      have kj_32 : ∀ (t_33 : Int32) (H : Heap) (locs : List Loc) (ls : Array Slot), J_32 t_33 → Hp G (FA S s.heap.size) s.heap (wI S F_27) H locs → lv_has ls 2 [] → Wm G p l e { frames := 1, cells := 0, slots := 0, locals := 21 } s m args below meth c S QQ 0 0 H locs 0 0 (F0 m 203 ls [.int t_33, .ref th]) := by
                        intro t_33 H locs ls hq9 hH hl
                        have hp := hj_32 t_33 hq9
                        obtain ⟨F_34, eF_34⟩ : ∃ z : Nat → Nat → Int32, z = upI F_27 th 12 t_33 := ⟨_, rfl⟩
                        have hp := hp F_34 eF_34
                        refine sx_putI (pc := 203) (j := 12) B hH hk_th coX12 rfl w_1316 rfl (Or.inl rfl) rfl dX12_ahead_203 (fun H locs hH => ?_)
                        have hH : Hp G (FA S s.heap.size) s.heap (wI S F_34) H locs := by rw [eF_34]; exact hH
                        refine lv_goto (pc := 206) (tgt := 234) hx hb dX12_ahead_206 (by decide) ?_
                        exact sx_vret (pc := 234) B hH hr hlk (by rw [← hQQ]; exact ⟨F_34, rfl, rfl, hp⟩) (Nat.le_of_ble_eq_true rfl) (Nat.le_of_ble_eq_true rfl) dX12_ahead_234
                      refine lv_icmp_le (pc := 195) (tgt := 202) hx hb dX12_ahead_195 (by decide) (fun cc_31 => ?_) (fun cc_31 => ?_)
                      · have hp := hp.1 cc_31
                        refine lv_iconst (pc := 202) (v := 3) hx hb dX12_ahead_202 (by decide) ?_
                        exact kj_32 _ _ _ _ hp hH (lv_sub hl [] rfl)
                      · have hp := hp.2 cc_31
                        refine lv_iconst (pc := 198) (v := 1) hx hb dX12_ahead_198 (by decide) ?_
                        refine lv_goto (pc := 199) (tgt := 203) hx hb dX12_ahead_199 (by decide) ?_
                        exact kj_32 _ _ _ _ hp hH (lv_sub hl [] rfl)
                    · have hp := hp.2 cc_30
                      refine lv_aload_n (pc := 142) hx hb dX12_ahead_142 rfl (lv_at hl 0 rfl) ?_
                      refine sx_ldc (pc := 143) (v := 100000000) B w_1535 dX12_ahead_143 ?_
                      refine lv_bipush (pc := 145) (v := 10) hx hb dX12_ahead_145 (by decide) ?_
                      refine lv_aload_n (pc := 147) hx hb dX12_ahead_147 rfl (lv_at hl 0 rfl) ?_
                      refine sx_getI (pc := 148) (j := 15) B hH hk_th coX12 rfl w_1319 rfl dX12_ahead_148 ?_
                      refine W.eq (g2 := F0 m 151 ls [.int (F_27 th 15), .int 10, .int 100000000, .ref th]) rfl ?_
                      refine lv_imul (pc := 151) hx hb dX12_ahead_151 ?_
                      refine lv_aload_n (pc := 152) hx hb dX12_ahead_152 rfl (lv_at hl 0 rfl) ?_
                      refine lv_aload_n (pc := 153) hx hb dX12_ahead_153 rfl (lv_at hl 0 rfl) ?_
                      refine sx_getI (pc := 154) (j := 14) B hH hk_th coX12 rfl w_1318 rfl dX12_ahead_154 ?_
                      refine W.eq (g2 := F0 m 157 ls [.int (F_27 th 14), .ref th, .int (10 * (F_27 th 15)), .int 100000000, .ref th]) rfl ?_
                      refine sx_V (pc := 157) (As := [.int (F_27 th 14)]) (rest := [.int (10 * (F_27 th 15)), .int 100000000, .ref th]) B hH hl.1 (C_X12_byteAt G l th (F_27 th 14) _ _ hp) mi_X12_byteAt coX12 hk_th w_1527 w_50 w_1525 rfl rfl ⟨Nat.le_of_ble_eq_true rfl, Nat.le_of_ble_eq_true rfl⟩ (Nat.le_of_ble_eq_true rfl) ⟨Nat.le_of_ble_eq_true rfl, Nat.le_of_ble_eq_true rfl⟩ dX12_ahead_157 (fun v S1 H locs hq hH => ?_)
                      obtain ⟨r_35, rfl, e9, hp⟩ := hq
                      rw [e9] at hH
                      refine W.eq (g2 := F0 m 160 ls [.int r_35, .int (10 * (F_27 th 15)), .int 100000000, .ref th]) rfl ?_
                      refine lv_iadd (pc := 160) hx hb dX12_ahead_160 ?_
                      refine lv_bipush (pc := 161) (v := 48) hx hb dX12_ahead_161 (by decide) ?_
                      refine lv_isub (pc := 163) hx hb dX12_ahead_163 ?_
                      refine sx_min (pc := 164) B hl.1 w_1536 w_600 w_121 w_min (Nat.le_of_ble_eq_true rfl) (Nat.le_of_ble_eq_true rfl) (Nat.le_of_ble_eq_true rfl) (Nat.le_of_ble_eq_true rfl) dX12_ahead_164 ?_
                      refine W.eq (g2 := F0 m 167 ls [.int (imin 100000000 (((10 * (F_27 th 15)) + r_35) - 48)), .ref th]) rfl ?_
                      refine lv_topi (fun v_36 ev_36 => ?_)
                      have hp := hp v_36 ev_36
                      obtain ⟨F_37, eF_37⟩ : ∃ z : Nat → Nat → Int32, z = upI F_27 th 15 v_36 := ⟨_, rfl⟩
                      have hp := hp F_37 eF_37
                      refine sx_putI (pc := 167) (j := 15) B hH hk_th coX12 rfl w_1319 rfl (Or.inl rfl) rfl dX12_ahead_167 (fun H locs hH => ?_)
                      have hH : Hp G (FA S s.heap.size) s.heap (wI S F_37) H locs := by rw [eF_37]; exact hH
                      refine lv_aload_n (pc := 170) hx hb dX12_ahead_170 rfl (lv_at hl 0 rfl) ?_
                      refine lv_dup (pc := 171) hx hb dX12_ahead_171 rfl ?_
                      refine sx_getI (pc := 172) (j := 14) B hH hk_th coX12 rfl w_1318 rfl dX12_ahead_172 ?_
                      refine W.eq (g2 := F0 m 175 ls [.int (F_37 th 14), .ref th]) rfl ?_
                      refine lv_iconst (pc := 175) (v := 1) hx hb dX12_ahead_175 (by decide) ?_
                      refine lv_iadd (pc := 176) hx hb dX12_ahead_176 ?_
                      refine lv_topi (fun v_38 ev_38 => ?_)
                      have hp := hp v_38 ev_38
                      obtain ⟨F_39, eF_39⟩ : ∃ z : Nat → Nat → Int32, z = upI F_37 th 14 v_38 := ⟨_, rfl⟩
                      have hp := hp F_39 eF_39
                      refine sx_putI (pc := 177) (j := 14) B hH hk_th coX12 rfl w_1318 rfl (Or.inl rfl) rfl dX12_ahead_177 (fun H locs hH => ?_)
                      have hH : Hp G (FA S s.heap.size) s.heap (wI S F_39) H locs := by rw [eF_39]; exact hH
                      refine lv_goto (pc := 180) (tgt := 128) hx hb dX12_ahead_180 (by decide) ?_
                      obtain ⟨k9, hlt9, hp⟩ := hp
                      exact ih_26 k9 hlt9 _ _ _ _ hp hH (lv_sub hl [0] rfl)
                exact kl_26 k0_26 _ _ _ _ h0_26 hH (lv_sub hl [1] rfl)
            · have hp := hp.2 cc_16
              obtain ⟨I_40, ⟨k0_40, h0_40⟩, hst_40⟩ := hp
              have kl_40 : ∀ (n_40 : Nat) (F_41 : Nat → Nat → Int32) (H : Heap) (locs : List Loc) (ls : Array Slot), I_40 n_40 F_41 → Hp G (FA S s.heap.size) s.heap (wI S F_41) H locs → lv_has ls 2 [(0, .ref th)] → Wm G p l e { frames := 1, cells := 0, slots := 0, locals := 21 } s m args below meth c S QQ 0 0 H locs 0 0 (F0 m 81 ls []) := by
                intro n_40
                induction n_40 using Nat.strongRecOn with
                | ind n_40 ih_40 =>
                  intro F_41 H locs ls hq9 hH hl
                  have hp := hst_40 n_40 F_41 hq9
                  refine lv_aload_n (pc := 81) hx hb dX12_ahead_81 rfl (lv_at hl 0 rfl) ?_
                  refine lv_aload_n (pc := 82) hx hb dX12_ahead_82 rfl (lv_at hl 0 rfl) ?_
                  refine sx_getI (pc := 83) (j := 14) B hH hk_th coX12 rfl w_1318 rfl dX12_ahead_83 ?_
                  refine W.eq (g2 := F0 m 86 ls [.int (F_41 th 14), .ref th]) rfl ?_
                  refine sx_V (pc := 86) (As := [.int (F_41 th 14)]) (rest := []) B hH hl.1 (C_X12_byteAt G l th (F_41 th 14) _ _ hp) mi_X12_byteAt coX12 hk_th w_1527 w_50 w_1525 rfl rfl ⟨Nat.le_of_ble_eq_true rfl, Nat.le_of_ble_eq_true rfl⟩ (Nat.le_of_ble_eq_true rfl) ⟨Nat.le_of_ble_eq_true rfl, Nat.le_of_ble_eq_true rfl⟩ dX12_ahead_86 (fun v S1 H locs hq hH => ?_)
                  obtain ⟨r_42, rfl, e9, hp⟩ := hq
                  rw [e9] at hH
                  refine W.eq (g2 := F0 m 89 ls [.int r_42]) rfl ?_
                  refine sx_S (pc := 89) (As := [.int r_42]) (rest := []) B hH hl.1 (C_X12_isSmall G l r_42 _ _ hp) mi_X12_isSmall w_1530 w_1529 rfl rfl ⟨Nat.le_of_ble_eq_true rfl, Nat.le_of_ble_eq_true rfl⟩ (Nat.le_of_ble_eq_true rfl) ⟨Nat.le_of_ble_eq_true rfl, Nat.le_of_ble_eq_true rfl⟩ dX12_ahead_89 (fun v S1 H locs hq hH => ?_)
                  obtain ⟨r_43, rfl, e9, hp⟩ := hq
                  rw [e9] at hH
                  refine W.eq (g2 := F0 m 92 ls [.int r_43]) rfl ?_
                  refine lv_if_eq (pc := 92) (tgt := 108) hx hb dX12_ahead_92 (by decide) (fun cc_44 => ?_) (fun cc_44 => ?_)
                  · have hp := hp.1 cc_44
                    refine lv_aload_n (pc := 108) hx hb dX12_ahead_108 rfl (lv_at hl 0 rfl) ?_
                    refine lv_iconst (pc := 109) (v := 2) hx hb dX12_ahead_109 (by decide) ?_
                    obtain ⟨F_45, eF_45⟩ : ∃ z : Nat → Nat → Int32, z = upI F_41 th 12 2 := ⟨_, rfl⟩
                    have hp := hp F_45 eF_45
                    refine sx_putI (pc := 110) (j := 12) B hH hk_th coX12 rfl w_1316 rfl (Or.inl rfl) rfl dX12_ahead_110 (fun H locs hH => ?_)
                    have hH : Hp G (FA S s.heap.size) s.heap (wI S F_45) H locs := by rw [eF_45]; exact hH
                    refine lv_goto (pc := 113) (tgt := 234) hx hb dX12_ahead_113 (by decide) ?_
                    exact sx_vret (pc := 234) B hH hr hlk (by rw [← hQQ]; exact ⟨F_45, rfl, rfl, hp⟩) (Nat.le_of_ble_eq_true rfl) (Nat.le_of_ble_eq_true rfl) dX12_ahead_234
                  · have hp := hp.2 cc_44
                    refine lv_aload_n (pc := 95) hx hb dX12_ahead_95 rfl (lv_at hl 0 rfl) ?_
                    refine lv_dup (pc := 96) hx hb dX12_ahead_96 rfl ?_
                    refine sx_getI (pc := 97) (j := 14) B hH hk_th coX12 rfl w_1318 rfl dX12_ahead_97 ?_
                    refine W.eq (g2 := F0 m 100 ls [.int (F_41 th 14), .ref th]) rfl ?_
                    refine lv_iconst (pc := 100) (v := 1) hx hb dX12_ahead_100 (by decide) ?_
                    refine lv_iadd (pc := 101) hx hb dX12_ahead_101 ?_
                    refine lv_topi (fun v_46 ev_46 => ?_)
                    have hp := hp v_46 ev_46
                    obtain ⟨F_47, eF_47⟩ : ∃ z : Nat → Nat → Int32, z = upI F_41 th 14 v_46 := ⟨_, rfl⟩
                    have hp := hp F_47 eF_47
                    refine sx_putI (pc := 102) (j := 14) B hH hk_th coX12 rfl w_1318 rfl (Or.inl rfl) rfl dX12_ahead_102 (fun H locs hH => ?_)
                    have hH : Hp G (FA S s.heap.size) s.heap (wI S F_47) H locs := by rw [eF_47]; exact hH
                    refine lv_goto (pc := 105) (tgt := 81) hx hb dX12_ahead_105 (by decide) ?_
                    obtain ⟨k9, hlt9, hp⟩ := hp
                    exact ih_40 k9 hlt9 _ _ _ _ hp hH (lv_sub hl [0] rfl)
              exact kl_40 k0_40 _ _ _ _ h0_40 hH (lv_sub hl [1] rfl)
          · have hp := hp.2 cc_14
            refine lv_aload_n (pc := 66) hx hb dX12_ahead_66 rfl (lv_at hl 1 rfl) ?_
            refine lv_iconst (pc := 67) (v := 0) hx hb dX12_ahead_67 (by decide) ?_
            obtain ⟨F_48, eF_48⟩ : ∃ z : Nat → Nat → Int32, z = upI F_13 th 12 0 := ⟨_, rfl⟩
            have hp := hp F_48 eF_48
            refine sx_putI (pc := 68) (j := 12) B hH hk_th coX12 rfl w_1316 rfl (Or.inl rfl) rfl dX12_ahead_68 (fun H locs hH => ?_)
            have hH : Hp G (FA S s.heap.size) s.heap (wI S F_48) H locs := by rw [eF_48]; exact hH
            refine lv_goto (pc := 71) (tgt := 234) hx hb dX12_ahead_71 (by decide) ?_
            exact sx_vret (pc := 234) B hH hr hlk (by rw [← hQQ]; exact ⟨F_48, rfl, rfl, hp⟩) (Nat.le_of_ble_eq_true rfl) (Nat.le_of_ble_eq_true rfl) dX12_ahead_234
        · have hp := hp.2 cc_9
          exact kj_5  _ _ _ hp hH (lv_sub hl [0] rfl)
  exact kl_1 k0_1 _ _ _ _ h0_1 hH (lv_sub hl [0] rfl)
theorem dX12_isSign_0 : decode cX12_isSign 0 = .ok (.aload_n 0, 1) := by decide +kernel
theorem dX12_isSign_1 : decode cX12_isSign 1 = .ok (.getfield 151, 3) := by decide +kernel
theorem dX12_isSign_4 : decode cX12_isSign 4 = .ok (.iconst 4, 1) := by decide +kernel
theorem dX12_isSign_5 : decode cX12_isSign 5 = .ok (.if_icmp .ne 15, 3) := by decide +kernel
theorem dX12_isSign_8 : decode cX12_isSign 8 = .ok (.aload_n 0, 1) := by decide +kernel
theorem dX12_isSign_9 : decode cX12_isSign 9 = .ok (.getfield 148, 3) := by decide +kernel
theorem dX12_isSign_12 : decode cX12_isSign 12 = .ok (.iload_n 1, 1) := by decide +kernel
theorem dX12_isSign_13 : decode cX12_isSign 13 = .ok (.if_icmp .ne 7, 3) := by decide +kernel
theorem dX12_isSign_16 : decode cX12_isSign 16 = .ok (.iconst 1, 1) := by decide +kernel
theorem dX12_isSign_17 : decode cX12_isSign 17 = .ok (.goto 4, 3) := by decide +kernel
theorem dX12_isSign_20 : decode cX12_isSign 20 = .ok (.iconst 0, 1) := by decide +kernel
theorem dX12_isSign_21 : decode cX12_isSign 21 = .ok (.ireturn, 1) := by decide +kernel
theorem mi_X12_isSign : MI yX12_isSign cX12_isSign 2 (some FieldType.boolean) 1 := ⟨w_1567, w_118, by decide +kernel, by decide +kernel, by decide +kernel⟩
set_option maxRecDepth 100000 in
set_option maxHeartbeats 4000000 in
theorem C_X12_isSign (G : GG) (l : Launch) (th : Nat) (p0 : Int32) (S : St) (Q : Int32 → Prop) (hp : P_X12_isSign th p0 S Q) : Ctr G l yX12_isSign cX12_isSign 2 (some FieldType.boolean) 0 0 0 0 [.ref th, .int p0] S (fun (v : Option Value) (S9 : St) => ∃ (r : Int32), v = some (.int r) ∧ S9 = S ∧ Q r ) := by
  generalize hQQ : (fun (v : Option Value) (S9 : St) => ∃ (r : Int32), v = some (.int r) ∧ S9 = S ∧ Q r ) = QQ
  unfold P_X12_isSign at hp
  refine Ctr.of (by decide) (Nat.le_of_ble_eq_true rfl) ?_
  intro p e s m args below meth c ls B hr hlk hin hl hH
  generalize hlocs0 : ([] : List Loc) = locs at hH ⊢
  have hx := B.1
  have hb := B.2.1
  have hl : lv_has ls 2 [(0, .ref th), (1, .int p0)] := hl
  obtain ⟨hk_th, hp⟩ := hp
  refine lv_aload_n (pc := 0) hx hb dX12_isSign_0 rfl (lv_at hl 0 rfl) ?_
  refine sx_getI (pc := 1) (j := 12) B hH hk_th coX12 rfl w_1316 rfl dX12_isSign_1 ?_
  refine W.eq (g2 := F0 m 4 ls [.int (gI S th 12)]) rfl ?_
  refine lv_iconst (pc := 4) (v := 4) hx hb dX12_isSign_4 (by decide) ?_
  refine lv_icmp_ne (pc := 5) (tgt := 20) hx hb dX12_isSign_5 (by decide) (fun cc_1 => ?_) (fun cc_1 => ?_)
  · have hp := hp.1 cc_1
    refine lv_iconst (pc := 20) (v := 0) hx hb dX12_isSign_20 (by decide) ?_
    exact sx_zret (pc := 21) B hH hr hlk (Or.inl rfl) (by rw [← hQQ]; exact ⟨_, rfl, rfl, hp⟩) (Nat.le_of_ble_eq_true rfl) (Nat.le_of_ble_eq_true rfl) dX12_isSign_21
  · have hp := hp.2 cc_1
    refine lv_aload_n (pc := 8) hx hb dX12_isSign_8 rfl (lv_at hl 0 rfl) ?_
    refine sx_getI (pc := 9) (j := 15) B hH hk_th coX12 rfl w_1319 rfl dX12_isSign_9 ?_
    refine W.eq (g2 := F0 m 12 ls [.int (gI S th 15)]) rfl ?_
    refine lv_iload_n (pc := 12) hx hb dX12_isSign_12 rfl (lv_at hl 1 rfl) ?_
    refine lv_icmp_ne (pc := 13) (tgt := 20) hx hb dX12_isSign_13 (by decide) (fun cc_2 => ?_) (fun cc_2 => ?_)
    · have hp := hp.1 cc_2
      refine lv_iconst (pc := 20) (v := 0) hx hb dX12_isSign_20 (by decide) ?_
      exact sx_zret (pc := 21) B hH hr hlk (Or.inl rfl) (by rw [← hQQ]; exact ⟨_, rfl, rfl, hp⟩) (Nat.le_of_ble_eq_true rfl) (Nat.le_of_ble_eq_true rfl) dX12_isSign_21
    · have hp := hp.2 cc_2
      refine lv_iconst (pc := 16) (v := 1) hx hb dX12_isSign_16 (by decide) ?_
      refine lv_goto (pc := 17) (tgt := 21) hx hb dX12_isSign_17 (by decide) ?_
      exact sx_zret (pc := 21) B hH hr hlk (Or.inr rfl) (by rw [← hQQ]; exact ⟨_, rfl, rfl, hp⟩) (Nat.le_of_ble_eq_true rfl) (Nat.le_of_ble_eq_true rfl) dX12_isSign_21
theorem dX12_inWords_0 : decode cX12_inWords 0 = .ok (.aload_n 0, 1) := by decide +kernel
theorem dX12_inWords_1 : decode cX12_inWords 1 = .ok (.getfield 151, 3) := by decide +kernel
theorem dX12_inWords_4 : decode cX12_inWords 4 = .ok (.iconst 2, 1) := by decide +kernel
theorem dX12_inWords_5 : decode cX12_inWords 5 = .ok (.if_icmp .eq 5, 3) := by decide +kernel
theorem dX12_inWords_8 : decode cX12_inWords 8 = .ok (.iconst (-1), 1) := by decide +kernel
theorem dX12_inWords_9 : decode cX12_inWords 9 = .ok (.ireturn, 1) := by decide +kernel
theorem dX12_inWords_10 : decode cX12_inWords 10 = .ok (.iconst 0, 1) := by decide +kernel
theorem dX12_inWords_11 : decode cX12_inWords 11 = .ok (.istore_n 2, 1) := by decide +kernel
theorem dX12_inWords_12 : decode cX12_inWords 12 = .ok (.iconst 1, 1) := by decide +kernel
theorem dX12_inWords_13 : decode cX12_inWords 13 = .ok (.istore_n 3, 1) := by decide +kernel
theorem dX12_inWords_14 : decode cX12_inWords 14 = .ok (.iload_n 3, 1) := by decide +kernel
theorem dX12_inWords_15 : decode cX12_inWords 15 = .ok (.aload_n 1, 1) := by decide +kernel
theorem dX12_inWords_16 : decode cX12_inWords 16 = .ok (.invokevirtual 166, 3) := by decide +kernel
theorem dX12_inWords_19 : decode cX12_inWords 19 = .ok (.if_icmp .ge 114, 3) := by decide +kernel
theorem dX12_inWords_22 : decode cX12_inWords 22 = .ok (.iload_n 3, 1) := by decide +kernel
theorem dX12_inWords_23 : decode cX12_inWords 23 = .ok (.istore 4, 2) := by decide +kernel
theorem dX12_inWords_25 : decode cX12_inWords 25 = .ok (.aload_n 1, 1) := by decide +kernel
theorem dX12_inWords_26 : decode cX12_inWords 26 = .ok (.iload 4, 2) := by decide +kernel
theorem dX12_inWords_28 : decode cX12_inWords 28 = .ok (.invokevirtual 172, 3) := by decide +kernel
theorem dX12_inWords_31 : decode cX12_inWords 31 = .ok (.bipush 32, 2) := by decide +kernel
theorem dX12_inWords_33 : decode cX12_inWords 33 = .ok (.if_icmp .eq 9, 3) := by decide +kernel
theorem dX12_inWords_36 : decode cX12_inWords 36 = .ok (.iinc 4 1, 3) := by decide +kernel
theorem dX12_inWords_39 : decode cX12_inWords 39 = .ok (.goto (-14), 3) := by decide +kernel
theorem dX12_inWords_42 : decode cX12_inWords 42 = .ok (.iload 4, 2) := by decide +kernel
theorem dX12_inWords_44 : decode cX12_inWords 44 = .ok (.iload_n 3, 1) := by decide +kernel
theorem dX12_inWords_45 : decode cX12_inWords 45 = .ok (.isub, 1) := by decide +kernel
theorem dX12_inWords_46 : decode cX12_inWords 46 = .ok (.aload_n 0, 1) := by decide +kernel
theorem dX12_inWords_47 : decode cX12_inWords 47 = .ok (.getfield 139, 3) := by decide +kernel
theorem dX12_inWords_50 : decode cX12_inWords 50 = .ok (.aload_n 0, 1) := by decide +kernel
theorem dX12_inWords_51 : decode cX12_inWords 51 = .ok (.getfield 145, 3) := by decide +kernel
theorem dX12_inWords_54 : decode cX12_inWords 54 = .ok (.isub, 1) := by decide +kernel
theorem dX12_inWords_55 : decode cX12_inWords 55 = .ok (.if_icmp .ne 7, 3) := by decide +kernel
theorem dX12_inWords_58 : decode cX12_inWords 58 = .ok (.iconst 1, 1) := by decide +kernel
theorem dX12_inWords_59 : decode cX12_inWords 59 = .ok (.goto 4, 3) := by decide +kernel
theorem dX12_inWords_62 : decode cX12_inWords 62 = .ok (.iconst 0, 1) := by decide +kernel
theorem dX12_inWords_63 : decode cX12_inWords 63 = .ok (.istore 5, 2) := by decide +kernel
theorem dX12_inWords_65 : decode cX12_inWords 65 = .ok (.iload_n 3, 1) := by decide +kernel
theorem dX12_inWords_66 : decode cX12_inWords 66 = .ok (.istore 6, 2) := by decide +kernel
theorem dX12_inWords_68 : decode cX12_inWords 68 = .ok (.iload 6, 2) := by decide +kernel
theorem dX12_inWords_70 : decode cX12_inWords 70 = .ok (.iload 4, 2) := by decide +kernel
theorem dX12_inWords_72 : decode cX12_inWords 72 = .ok (.if_icmp .ge 43, 3) := by decide +kernel
theorem dX12_inWords_75 : decode cX12_inWords 75 = .ok (.iload 5, 2) := by decide +kernel
theorem dX12_inWords_77 : decode cX12_inWords 77 = .ok (.ifCond .eq 38, 3) := by decide +kernel
theorem dX12_inWords_80 : decode cX12_inWords 80 = .ok (.aload_n 1, 1) := by decide +kernel
theorem dX12_inWords_81 : decode cX12_inWords 81 = .ok (.iload 6, 2) := by decide +kernel
theorem dX12_inWords_83 : decode cX12_inWords 83 = .ok (.invokevirtual 172, 3) := by decide +kernel
theorem dX12_inWords_86 : decode cX12_inWords 86 = .ok (.aload_n 0, 1) := by decide +kernel
theorem dX12_inWords_87 : decode cX12_inWords 87 = .ok (.aload_n 0, 1) := by decide +kernel
theorem dX12_inWords_88 : decode cX12_inWords 88 = .ok (.getfield 145, 3) := by decide +kernel
theorem dX12_inWords_91 : decode cX12_inWords 91 = .ok (.iload 6, 2) := by decide +kernel
theorem dX12_inWords_93 : decode cX12_inWords 93 = .ok (.iadd, 1) := by decide +kernel
theorem dX12_inWords_94 : decode cX12_inWords 94 = .ok (.iload_n 3, 1) := by decide +kernel
theorem dX12_inWords_95 : decode cX12_inWords 95 = .ok (.isub, 1) := by decide +kernel
theorem dX12_inWords_96 : decode cX12_inWords 96 = .ok (.invokevirtual 142, 3) := by decide +kernel
theorem dX12_inWords_99 : decode cX12_inWords 99 = .ok (.if_icmp .ne 7, 3) := by decide +kernel
theorem dX12_inWords_102 : decode cX12_inWords 102 = .ok (.iconst 1, 1) := by decide +kernel
theorem dX12_inWords_103 : decode cX12_inWords 103 = .ok (.goto 4, 3) := by decide +kernel
theorem dX12_inWords_106 : decode cX12_inWords 106 = .ok (.iconst 0, 1) := by decide +kernel
theorem dX12_inWords_107 : decode cX12_inWords 107 = .ok (.istore 5, 2) := by decide +kernel
theorem dX12_inWords_109 : decode cX12_inWords 109 = .ok (.iinc 6 1, 3) := by decide +kernel
theorem dX12_inWords_112 : decode cX12_inWords 112 = .ok (.goto (-44), 3) := by decide +kernel
theorem dX12_inWords_115 : decode cX12_inWords 115 = .ok (.iload 5, 2) := by decide +kernel
theorem dX12_inWords_117 : decode cX12_inWords 117 = .ok (.ifCond .eq 5, 3) := by decide +kernel
theorem dX12_inWords_120 : decode cX12_inWords 120 = .ok (.iload_n 2, 1) := by decide +kernel
theorem dX12_inWords_121 : decode cX12_inWords 121 = .ok (.ireturn, 1) := by decide +kernel
theorem dX12_inWords_122 : decode cX12_inWords 122 = .ok (.iinc 2 1, 3) := by decide +kernel
theorem dX12_inWords_125 : decode cX12_inWords 125 = .ok (.iload 4, 2) := by decide +kernel
theorem dX12_inWords_127 : decode cX12_inWords 127 = .ok (.iconst 1, 1) := by decide +kernel
theorem dX12_inWords_128 : decode cX12_inWords 128 = .ok (.iadd, 1) := by decide +kernel
theorem dX12_inWords_129 : decode cX12_inWords 129 = .ok (.istore_n 3, 1) := by decide +kernel
theorem dX12_inWords_130 : decode cX12_inWords 130 = .ok (.goto (-116), 3) := by decide +kernel
theorem dX12_inWords_133 : decode cX12_inWords 133 = .ok (.iconst (-1), 1) := by decide +kernel
theorem dX12_inWords_134 : decode cX12_inWords 134 = .ok (.ireturn, 1) := by decide +kernel
theorem mi_X12_inWords : MI yX12_inWords cX12_inWords 7 (some FieldType.int) 1 := ⟨w_1549, w_118, by decide +kernel, by decide +kernel, by decide +kernel⟩
set_option maxRecDepth 100000 in
set_option maxHeartbeats 4000000 in
theorem C_X12_inWords (G : GG) (l : Launch) (th : Nat) (p0 : Nat) (S : St) (Q : Int32 → Prop) (hp : P_X12_inWords th p0 S Q) : Ctr G l yX12_inWords cX12_inWords 7 (some FieldType.int) 4 85 0 0 [.ref th, .ref (G.2.2.1 p0)] S (fun (v : Option Value) (S9 : St) => ∃ (r : Int32), v = some (.int r) ∧ S9 = S ∧ Q r ) := by
  generalize hQQ : (fun (v : Option Value) (S9 : St) => ∃ (r : Int32), v = some (.int r) ∧ S9 = S ∧ Q r ) = QQ
  unfold P_X12_inWords at hp
  refine Ctr.of (by decide) (Nat.le_of_ble_eq_true rfl) ?_
  intro p e s m args below meth c ls B hr hlk hin hl hH
  generalize hlocs0 : ([] : List Loc) = locs at hH ⊢
  have hx := B.1
  have hb := B.2.1
  have hl : lv_has ls 7 [(0, .ref th), (1, .ref (G.2.2.1 p0))] := hl
  obtain ⟨hk_th, hp⟩ := hp
  refine lv_aload_n (pc := 0) hx hb dX12_inWords_0 rfl (lv_at hl 0 rfl) ?_
  refine sx_getI (pc := 1) (j := 12) B hH hk_th coX12 rfl w_1316 rfl dX12_inWords_1 ?_
  refine W.eq (g2 := F0 m 4 ls [.int (gI S th 12)]) rfl ?_
  refine lv_iconst (pc := 4) (v := 2) hx hb dX12_inWords_4 (by decide) ?_
  refine lv_icmp_eq (pc := 5) (tgt := 10) hx hb dX12_inWords_5 (by decide) (fun cc_1 => ?_) (fun cc_1 => ?_)
  · have hp := hp.1 cc_1
    refine lv_iconst (pc := 10) (v := 0) hx hb dX12_inWords_10 (by decide) ?_
    refine lv_istore_n (pc := 11) (lv' := [(2, .int 0), (0, .ref th), (1, .ref (G.2.2.1 p0))]) hx hb dX12_inWords_11 rfl hl (by decide) rfl (fun ls hl => ?_)
    refine lv_iconst (pc := 12) (v := 1) hx hb dX12_inWords_12 (by decide) ?_
    refine lv_istore_n (pc := 13) (lv' := [(3, .int 1), (2, .int 0), (0, .ref th), (1, .ref (G.2.2.1 p0))]) hx hb dX12_inWords_13 rfl hl (by decide) rfl (fun ls hl => ?_)
    obtain ⟨I_2, ⟨k0_2, h0_2⟩, hst_2⟩ := hp
    have kl_2 : ∀ (n_2 : Nat) (x2_3 : Int32) (x3_4 : Int32) (H : Heap) (locs : List Loc) (ls : Array Slot), I_2 n_2 x2_3 x3_4 → Hp G (FA S s.heap.size) s.heap S H locs → lv_has ls 7 [(0, .ref th), (1, .ref (G.2.2.1 p0)), (2, .int x2_3), (3, .int x3_4)] → Wm G p l e { frames := 4, cells := 0, slots := 0, locals := 85 } s m args below meth c S QQ 0 0 H locs 0 0 (F0 m 14 ls []) := by
      intro n_2
      induction n_2 using Nat.strongRecOn with
      | ind n_2 ih_2 =>
        intro x2_3 x3_4 H locs ls hq9 hH hl
        have hp := hst_2 n_2 x2_3 x3_4 hq9
        refine lv_iload_n (pc := 14) hx hb dX12_inWords_14 rfl (lv_at hl 3 rfl) ?_
        refine lv_aload_n (pc := 15) hx hb dX12_inWords_15 rfl (lv_at hl 1 rfl) ?_
        obtain ⟨hc_5, hp⟩ := hp
        refine sx_slen (pc := 16) B hH hl.1 hc_5 w_1550 ⟨Nat.le_of_ble_eq_true rfl, Nat.le_of_ble_eq_true rfl⟩ (Nat.le_of_ble_eq_true rfl) ⟨Nat.le_of_ble_eq_true rfl, Nat.le_of_ble_eq_true rfl⟩ dX12_inWords_16 (fun H locs hH => ?_)
        refine W.eq (g2 := F0 m 19 ls [.int (nI (sLen.getD p0 0)), .int x3_4]) rfl ?_
        refine lv_icmp_ge (pc := 19) (tgt := 133) hx hb dX12_inWords_19 (by decide) (fun cc_6 => ?_) (fun cc_6 => ?_)
        · have hp := hp.1 cc_6
          refine lv_iconst (pc := 133) (v := (-1)) hx hb dX12_inWords_133 (by decide) ?_
          exact sx_iret (pc := 134) B hH hr hlk (by rw [← hQQ]; exact ⟨_, rfl, rfl, hp⟩) (Nat.le_of_ble_eq_true rfl) (Nat.le_of_ble_eq_true rfl) dX12_inWords_134
        · have hp := hp.2 cc_6
          refine lv_iload_n (pc := 22) hx hb dX12_inWords_22 rfl (lv_at hl 3 rfl) ?_
          refine lv_istore (pc := 23) (lv' := [(4, .int x3_4), (0, .ref th), (1, .ref (G.2.2.1 p0)), (2, .int x2_3), (3, .int x3_4)]) hx hb dX12_inWords_23 hl (by decide) rfl (fun ls hl => ?_)
          obtain ⟨I_7, ⟨k0_7, h0_7⟩, hst_7⟩ := hp
          have kl_7 : ∀ (n_7 : Nat) (x4_8 : Int32) (H : Heap) (locs : List Loc) (ls : Array Slot), I_7 n_7 x4_8 → Hp G (FA S s.heap.size) s.heap S H locs → lv_has ls 7 [(0, .ref th), (1, .ref (G.2.2.1 p0)), (2, .int x2_3), (3, .int x3_4), (4, .int x4_8)] → Wm G p l e { frames := 4, cells := 0, slots := 0, locals := 85 } s m args below meth c S QQ 0 0 H locs 0 0 (F0 m 25 ls []) := by
            intro n_7
            induction n_7 using Nat.strongRecOn with
            | ind n_7 ih_7 =>
              intro x4_8 H locs ls hq9 hH hl
              have hp := hst_7 n_7 x4_8 hq9
              refine lv_aload_n (pc := 25) hx hb dX12_inWords_25 rfl (lv_at hl 1 rfl) ?_
              refine lv_iload (pc := 26) hx hb dX12_inWords_26 (lv_at hl 4 rfl) ?_
              obtain ⟨hc_9, hp⟩ := hp
              obtain ⟨hc_10, hp⟩ := hp
              refine sx_schr (pc := 28) B hH hl.1 hc_9 hc_10 w_1551 ⟨Nat.le_of_ble_eq_true rfl, Nat.le_of_ble_eq_true rfl⟩ (Nat.le_of_ble_eq_true rfl) ⟨Nat.le_of_ble_eq_true rfl, Nat.le_of_ble_eq_true rfl⟩ dX12_inWords_28 (fun H locs hH => ?_)
              refine W.eq (g2 := F0 m 31 ls [.int (sCh p0 x4_8)]) rfl ?_
              refine lv_bipush (pc := 31) (v := 32) hx hb dX12_inWords_31 (by decide) ?_
              refine lv_icmp_eq (pc := 33) (tgt := 42) hx hb dX12_inWords_33 (by decide) (fun cc_11 => ?_) (fun cc_11 => ?_)
              · have hp := hp.1 cc_11
                refine lv_iload (pc := 42) hx hb dX12_inWords_42 (lv_at hl 4 rfl) ?_
                refine lv_iload_n (pc := 44) hx hb dX12_inWords_44 rfl (lv_at hl 3 rfl) ?_
                refine lv_isub (pc := 45) hx hb dX12_inWords_45 ?_
                refine lv_aload_n (pc := 46) hx hb dX12_inWords_46 rfl (lv_at hl 0 rfl) ?_
                refine sx_getI (pc := 47) (j := 14) B hH hk_th coX12 rfl w_1318 rfl dX12_inWords_47 ?_
                refine W.eq (g2 := F0 m 50 ls [.int (gI S th 14), .int (x4_8 - x3_4)]) rfl ?_
                refine lv_aload_n (pc := 50) hx hb dX12_inWords_50 rfl (lv_at hl 0 rfl) ?_
                refine sx_getI (pc := 51) (j := 13) B hH hk_th coX12 rfl w_1317 rfl dX12_inWords_51 ?_
                refine W.eq (g2 := F0 m 54 ls [.int (gI S th 13), .int (gI S th 14), .int (x4_8 - x3_4)]) rfl ?_
                refine lv_isub (pc := 54) hx hb dX12_inWords_54 ?_
                refine lv_icmp_ne (pc := 55) (tgt := 62) hx hb dX12_inWords_55 (by decide) (fun cc_12 => ?_) (fun cc_12 => ?_)
                · have hp := hp.1 cc_12
                  refine lv_iconst (pc := 62) (v := 0) hx hb dX12_inWords_62 (by decide) ?_
                  refine lv_istore (pc := 63) (lv' := [(5, .int 0), (0, .ref th), (1, .ref (G.2.2.1 p0)), (2, .int x2_3), (3, .int x3_4), (4, .int x4_8)]) hx hb dX12_inWords_63 hl (by decide) rfl (fun ls hl => ?_)
                  refine lv_iload_n (pc := 65) hx hb dX12_inWords_65 rfl (lv_at hl 4 rfl) ?_
                  refine lv_istore (pc := 66) (lv' := [(6, .int x3_4), (5, .int 0), (0, .ref th), (1, .ref (G.2.2.1 p0)), (2, .int x2_3), (3, .int x3_4), (4, .int x4_8)]) hx hb dX12_inWords_66 hl (by decide) rfl (fun ls hl => ?_)
                  obtain ⟨I_13, ⟨k0_13, h0_13⟩, hst_13⟩ := hp
                  have kl_13 : ∀ (n_13 : Nat) (x5_14 : Int32) (x6_15 : Int32) (H : Heap) (locs : List Loc) (ls : Array Slot), I_13 n_13 x5_14 x6_15 → Hp G (FA S s.heap.size) s.heap S H locs → lv_has ls 7 [(0, .ref th), (1, .ref (G.2.2.1 p0)), (2, .int x2_3), (3, .int x3_4), (4, .int x4_8), (5, .int x5_14), (6, .int x6_15)] → Wm G p l e { frames := 4, cells := 0, slots := 0, locals := 85 } s m args below meth c S QQ 0 0 H locs 0 0 (F0 m 68 ls []) := by
                    intro n_13
                    induction n_13 using Nat.strongRecOn with
                    | ind n_13 ih_13 =>
                      intro x5_14 x6_15 H locs ls hq9 hH hl
                      have hp := hst_13 n_13 x5_14 x6_15 hq9
                      refine lv_iload (pc := 68) hx hb dX12_inWords_68 (lv_at hl 6 rfl) ?_
                      refine lv_iload (pc := 70) hx hb dX12_inWords_70 (lv_at hl 4 rfl) ?_
                      obtain ⟨J_17, hj_17, hp⟩ := hp
                      have kj_17 : ∀  (H : Heap) (locs : List Loc) (ls : Array Slot), J_17  → Hp G (FA S s.heap.size) s.heap S H locs → lv_has ls 7 [(0, .ref th), (1, .ref (G.2.2.1 p0)), (2, .int x2_3), (4, .int x4_8), (5, .int x5_14)] → Wm G p l e { frames := 4, cells := 0, slots := 0, locals := 85 } s m args below meth c S QQ 0 0 H locs 0 0 (F0 m 115 ls []) := by
                        intro  H locs ls hq9 hH hl
                        have hp := hj_17  hq9
                        refine lv_iload (pc := 115) hx hb dX12_inWords_115 (lv_at hl 4 rfl) ?_
                        refine lv_if_eq (pc := 117) (tgt := 122) hx hb dX12_inWords_117 (by decide) (fun cc_18 => ?_) (fun cc_18 => ?_)
                        · have hp := hp.1 cc_18
                          obtain ⟨v_19, ev_19⟩ : ∃ y : Int32, y = x2_3 + 1 := ⟨_, rfl⟩
                          have hp := hp v_19 ev_19
                          refine lv_iinc (pc := 122) (v := v_19) (lv' := [(2, .int v_19), (0, .ref th), (1, .ref (G.2.2.1 p0)), (4, .int x4_8), (5, .int x5_14)]) hx hb dX12_inWords_122 hl (k := 2) rfl (by rw [ev_19]; rfl) (by decide) rfl (fun ls hl => ?_)
                          refine lv_iload (pc := 125) hx hb dX12_inWords_125 (lv_at hl 3 rfl) ?_
                          refine lv_iconst (pc := 127) (v := 1) hx hb dX12_inWords_127 (by decide) ?_
                          refine lv_iadd (pc := 128) hx hb dX12_inWords_128 ?_
                          refine lv_topi (fun v_20 ev_20 => ?_)
                          have hp := hp v_20 ev_20
                          refine lv_istore_n (pc := 129) (lv' := [(3, .int v_20), (2, .int v_19), (0, .ref th), (1, .ref (G.2.2.1 p0)), (4, .int x4_8), (5, .int x5_14)]) hx hb dX12_inWords_129 rfl hl (by decide) rfl (fun ls hl => ?_)
                          refine lv_goto (pc := 130) (tgt := 14) hx hb dX12_inWords_130 (by decide) ?_
                          obtain ⟨k9, hlt9, hp⟩ := hp
                          exact ih_2 k9 hlt9 _ _ _ _ _ hp hH (lv_sub hl [2, 3, 1, 0] rfl)
                        · have hp := hp.2 cc_18
                          refine lv_iload_n (pc := 120) hx hb dX12_inWords_120 rfl (lv_at hl 2 rfl) ?_
                          exact sx_iret (pc := 121) B hH hr hlk (by rw [← hQQ]; exact ⟨_, rfl, rfl, hp⟩) (Nat.le_of_ble_eq_true rfl) (Nat.le_of_ble_eq_true rfl) dX12_inWords_121
                      refine lv_icmp_ge (pc := 72) (tgt := 115) hx hb dX12_inWords_72 (by decide) (fun cc_16 => ?_) (fun cc_16 => ?_)
                      · have hp := hp.1 cc_16
                        exact kj_17  _ _ _ hp hH (lv_sub hl [0, 1, 2, 4, 5] rfl)
                      · have hp := hp.2 cc_16
                        refine lv_iload (pc := 75) hx hb dX12_inWords_75 (lv_at hl 5 rfl) ?_
                        refine lv_if_eq (pc := 77) (tgt := 115) hx hb dX12_inWords_77 (by decide) (fun cc_21 => ?_) (fun cc_21 => ?_)
                        · have hp := hp.1 cc_21
                          exact kj_17  _ _ _ hp hH (lv_sub hl [0, 1, 2, 4, 5] rfl)
                        · have hp := hp.2 cc_21
                          refine lv_aload_n (pc := 80) hx hb dX12_inWords_80 rfl (lv_at hl 1 rfl) ?_
                          refine lv_iload (pc := 81) hx hb dX12_inWords_81 (lv_at hl 6 rfl) ?_
                          obtain ⟨hc_22, hp⟩ := hp
                          obtain ⟨hc_23, hp⟩ := hp
                          refine sx_schr (pc := 83) B hH hl.1 hc_22 hc_23 w_1551 ⟨Nat.le_of_ble_eq_true rfl, Nat.le_of_ble_eq_true rfl⟩ (Nat.le_of_ble_eq_true rfl) ⟨Nat.le_of_ble_eq_true rfl, Nat.le_of_ble_eq_true rfl⟩ dX12_inWords_83 (fun H locs hH => ?_)
                          refine W.eq (g2 := F0 m 86 ls [.int (sCh p0 x6_15)]) rfl ?_
                          refine lv_aload_n (pc := 86) hx hb dX12_inWords_86 rfl (lv_at hl 0 rfl) ?_
                          refine lv_aload_n (pc := 87) hx hb dX12_inWords_87 rfl (lv_at hl 0 rfl) ?_
                          refine sx_getI (pc := 88) (j := 13) B hH hk_th coX12 rfl w_1317 rfl dX12_inWords_88 ?_
                          refine W.eq (g2 := F0 m 91 ls [.int (gI S th 13), .ref th, .int (sCh p0 x6_15)]) rfl ?_
                          refine lv_iload (pc := 91) hx hb dX12_inWords_91 (lv_at hl 6 rfl) ?_
                          refine lv_iadd (pc := 93) hx hb dX12_inWords_93 ?_
                          refine lv_iload_n (pc := 94) hx hb dX12_inWords_94 rfl (lv_at hl 3 rfl) ?_
                          refine lv_isub (pc := 95) hx hb dX12_inWords_95 ?_
                          refine sx_V (pc := 96) (As := [.int (((gI S th 13) + x6_15) - x3_4)]) (rest := [.int (sCh p0 x6_15)]) B hH hl.1 (C_X12_byteAt G l th (((gI S th 13) + x6_15) - x3_4) _ _ hp) mi_X12_byteAt coX12 hk_th w_1527 w_50 w_1525 rfl rfl ⟨Nat.le_of_ble_eq_true rfl, Nat.le_of_ble_eq_true rfl⟩ (Nat.le_of_ble_eq_true rfl) ⟨Nat.le_of_ble_eq_true rfl, Nat.le_of_ble_eq_true rfl⟩ dX12_inWords_96 (fun v S1 H locs hq hH => ?_)
                          obtain ⟨r_24, rfl, e9, hp⟩ := hq
                          rw [e9] at hH
                          refine W.eq (g2 := F0 m 99 ls [.int r_24, .int (sCh p0 x6_15)]) rfl ?_
                          refine lv_icmp_ne (pc := 99) (tgt := 106) hx hb dX12_inWords_99 (by decide) (fun cc_25 => ?_) (fun cc_25 => ?_)
                          · have hp := hp.1 cc_25
                            refine lv_iconst (pc := 106) (v := 0) hx hb dX12_inWords_106 (by decide) ?_
                            refine lv_istore (pc := 107) (lv' := [(5, .int 0), (0, .ref th), (1, .ref (G.2.2.1 p0)), (2, .int x2_3), (3, .int x3_4), (4, .int x4_8), (6, .int x6_15)]) hx hb dX12_inWords_107 hl (by decide) rfl (fun ls hl => ?_)
                            obtain ⟨v_26, ev_26⟩ : ∃ y : Int32, y = x6_15 + 1 := ⟨_, rfl⟩
                            have hp := hp v_26 ev_26
                            refine lv_iinc (pc := 109) (v := v_26) (lv' := [(6, .int v_26), (5, .int 0), (0, .ref th), (1, .ref (G.2.2.1 p0)), (2, .int x2_3), (3, .int x3_4), (4, .int x4_8)]) hx hb dX12_inWords_109 hl (k := 6) rfl (by rw [ev_26]; rfl) (by decide) rfl (fun ls hl => ?_)
                            refine lv_goto (pc := 112) (tgt := 68) hx hb dX12_inWords_112 (by decide) ?_
                            obtain ⟨k9, hlt9, hp⟩ := hp
                            exact ih_13 k9 hlt9 _ _ _ _ _ hp hH (lv_sub hl [2, 3, 4, 5, 6, 1, 0] rfl)
                          · have hp := hp.2 cc_25
                            refine lv_iconst (pc := 102) (v := 1) hx hb dX12_inWords_102 (by decide) ?_
                            refine lv_goto (pc := 103) (tgt := 107) hx hb dX12_inWords_103 (by decide) ?_
                            refine lv_istore (pc := 107) (lv' := [(5, .int 1), (0, .ref th), (1, .ref (G.2.2.1 p0)), (2, .int x2_3), (3, .int x3_4), (4, .int x4_8), (6, .int x6_15)]) hx hb dX12_inWords_107 hl (by decide) rfl (fun ls hl => ?_)
                            obtain ⟨v_27, ev_27⟩ : ∃ y : Int32, y = x6_15 + 1 := ⟨_, rfl⟩
                            have hp := hp v_27 ev_27
                            refine lv_iinc (pc := 109) (v := v_27) (lv' := [(6, .int v_27), (5, .int 1), (0, .ref th), (1, .ref (G.2.2.1 p0)), (2, .int x2_3), (3, .int x3_4), (4, .int x4_8)]) hx hb dX12_inWords_109 hl (k := 6) rfl (by rw [ev_27]; rfl) (by decide) rfl (fun ls hl => ?_)
                            refine lv_goto (pc := 112) (tgt := 68) hx hb dX12_inWords_112 (by decide) ?_
                            obtain ⟨k9, hlt9, hp⟩ := hp
                            exact ih_13 k9 hlt9 _ _ _ _ _ hp hH (lv_sub hl [2, 3, 4, 5, 6, 1, 0] rfl)
                  exact kl_13 k0_13 _ _ _ _ _ h0_13 hH (lv_sub hl [2, 3, 4, 5, 6, 1, 0] rfl)
                · have hp := hp.2 cc_12
                  refine lv_iconst (pc := 58) (v := 1) hx hb dX12_inWords_58 (by decide) ?_
                  refine lv_goto (pc := 59) (tgt := 63) hx hb dX12_inWords_59 (by decide) ?_
                  refine lv_istore (pc := 63) (lv' := [(5, .int 1), (0, .ref th), (1, .ref (G.2.2.1 p0)), (2, .int x2_3), (3, .int x3_4), (4, .int x4_8)]) hx hb dX12_inWords_63 hl (by decide) rfl (fun ls hl => ?_)
                  refine lv_iload_n (pc := 65) hx hb dX12_inWords_65 rfl (lv_at hl 4 rfl) ?_
                  refine lv_istore (pc := 66) (lv' := [(6, .int x3_4), (5, .int 1), (0, .ref th), (1, .ref (G.2.2.1 p0)), (2, .int x2_3), (3, .int x3_4), (4, .int x4_8)]) hx hb dX12_inWords_66 hl (by decide) rfl (fun ls hl => ?_)
                  obtain ⟨I_28, ⟨k0_28, h0_28⟩, hst_28⟩ := hp
                  have kl_28 : ∀ (n_28 : Nat) (x5_29 : Int32) (x6_30 : Int32) (H : Heap) (locs : List Loc) (ls : Array Slot), I_28 n_28 x5_29 x6_30 → Hp G (FA S s.heap.size) s.heap S H locs → lv_has ls 7 [(0, .ref th), (1, .ref (G.2.2.1 p0)), (2, .int x2_3), (3, .int x3_4), (4, .int x4_8), (5, .int x5_29), (6, .int x6_30)] → Wm G p l e { frames := 4, cells := 0, slots := 0, locals := 85 } s m args below meth c S QQ 0 0 H locs 0 0 (F0 m 68 ls []) := by
                    intro n_28
                    induction n_28 using Nat.strongRecOn with
                    | ind n_28 ih_28 =>
                      intro x5_29 x6_30 H locs ls hq9 hH hl
                      have hp := hst_28 n_28 x5_29 x6_30 hq9
                      refine lv_iload (pc := 68) hx hb dX12_inWords_68 (lv_at hl 6 rfl) ?_
                      refine lv_iload (pc := 70) hx hb dX12_inWords_70 (lv_at hl 4 rfl) ?_
                      obtain ⟨J_32, hj_32, hp⟩ := hp
                      have kj_32 : ∀  (H : Heap) (locs : List Loc) (ls : Array Slot), J_32  → Hp G (FA S s.heap.size) s.heap S H locs → lv_has ls 7 [(0, .ref th), (1, .ref (G.2.2.1 p0)), (2, .int x2_3), (4, .int x4_8), (5, .int x5_29)] → Wm G p l e { frames := 4, cells := 0, slots := 0, locals := 85 } s m args below meth c S QQ 0 0 H locs 0 0 (F0 m 115 ls []) := by
                        intro  H locs ls hq9 hH hl
                        have hp := hj_32  hq9
                        refine lv_iload (pc := 115) hx hb dX12_inWords_115 (lv_at hl 4 rfl) ?_
                        refine lv_if_eq (pc := 117) (tgt := 122) hx hb dX12_inWords_117 (by decide) (fun cc_33 => ?_) (fun cc_33 => ?_)
                        · have hp := hp.1 cc_33
                          obtain ⟨v_34, ev_34⟩ : ∃ y : Int32, y = x2_3 + 1 := ⟨_, rfl⟩
                          have hp := hp v_34 ev_34
                          refine lv_iinc (pc := 122) (v := v_34) (lv' := [(2, .int v_34), (0, .ref th), (1, .ref (G.2.2.1 p0)), (4, .int x4_8), (5, .int x5_29)]) hx hb dX12_inWords_122 hl (k := 2) rfl (by rw [ev_34]; rfl) (by decide) rfl (fun ls hl => ?_)
                          refine lv_iload (pc := 125) hx hb dX12_inWords_125 (lv_at hl 3 rfl) ?_
                          refine lv_iconst (pc := 127) (v := 1) hx hb dX12_inWords_127 (by decide) ?_
                          refine lv_iadd (pc := 128) hx hb dX12_inWords_128 ?_
                          refine lv_topi (fun v_35 ev_35 => ?_)
                          have hp := hp v_35 ev_35
                          refine lv_istore_n (pc := 129) (lv' := [(3, .int v_35), (2, .int v_34), (0, .ref th), (1, .ref (G.2.2.1 p0)), (4, .int x4_8), (5, .int x5_29)]) hx hb dX12_inWords_129 rfl hl (by decide) rfl (fun ls hl => ?_)
                          refine lv_goto (pc := 130) (tgt := 14) hx hb dX12_inWords_130 (by decide) ?_
                          obtain ⟨k9, hlt9, hp⟩ := hp
                          exact ih_2 k9 hlt9 _ _ _ _ _ hp hH (lv_sub hl [2, 3, 1, 0] rfl)
                        · have hp := hp.2 cc_33
                          refine lv_iload_n (pc := 120) hx hb dX12_inWords_120 rfl (lv_at hl 2 rfl) ?_
                          exact sx_iret (pc := 121) B hH hr hlk (by rw [← hQQ]; exact ⟨_, rfl, rfl, hp⟩) (Nat.le_of_ble_eq_true rfl) (Nat.le_of_ble_eq_true rfl) dX12_inWords_121
                      refine lv_icmp_ge (pc := 72) (tgt := 115) hx hb dX12_inWords_72 (by decide) (fun cc_31 => ?_) (fun cc_31 => ?_)
                      · have hp := hp.1 cc_31
                        exact kj_32  _ _ _ hp hH (lv_sub hl [0, 1, 2, 4, 5] rfl)
                      · have hp := hp.2 cc_31
                        refine lv_iload (pc := 75) hx hb dX12_inWords_75 (lv_at hl 5 rfl) ?_
                        refine lv_if_eq (pc := 77) (tgt := 115) hx hb dX12_inWords_77 (by decide) (fun cc_36 => ?_) (fun cc_36 => ?_)
                        · have hp := hp.1 cc_36
                          exact kj_32  _ _ _ hp hH (lv_sub hl [0, 1, 2, 4, 5] rfl)
                        · have hp := hp.2 cc_36
                          refine lv_aload_n (pc := 80) hx hb dX12_inWords_80 rfl (lv_at hl 1 rfl) ?_
                          refine lv_iload (pc := 81) hx hb dX12_inWords_81 (lv_at hl 6 rfl) ?_
                          obtain ⟨hc_37, hp⟩ := hp
                          obtain ⟨hc_38, hp⟩ := hp
                          refine sx_schr (pc := 83) B hH hl.1 hc_37 hc_38 w_1551 ⟨Nat.le_of_ble_eq_true rfl, Nat.le_of_ble_eq_true rfl⟩ (Nat.le_of_ble_eq_true rfl) ⟨Nat.le_of_ble_eq_true rfl, Nat.le_of_ble_eq_true rfl⟩ dX12_inWords_83 (fun H locs hH => ?_)
                          refine W.eq (g2 := F0 m 86 ls [.int (sCh p0 x6_30)]) rfl ?_
                          refine lv_aload_n (pc := 86) hx hb dX12_inWords_86 rfl (lv_at hl 0 rfl) ?_
                          refine lv_aload_n (pc := 87) hx hb dX12_inWords_87 rfl (lv_at hl 0 rfl) ?_
                          refine sx_getI (pc := 88) (j := 13) B hH hk_th coX12 rfl w_1317 rfl dX12_inWords_88 ?_
                          refine W.eq (g2 := F0 m 91 ls [.int (gI S th 13), .ref th, .int (sCh p0 x6_30)]) rfl ?_
                          refine lv_iload (pc := 91) hx hb dX12_inWords_91 (lv_at hl 6 rfl) ?_
                          refine lv_iadd (pc := 93) hx hb dX12_inWords_93 ?_
                          refine lv_iload_n (pc := 94) hx hb dX12_inWords_94 rfl (lv_at hl 3 rfl) ?_
                          refine lv_isub (pc := 95) hx hb dX12_inWords_95 ?_
                          refine sx_V (pc := 96) (As := [.int (((gI S th 13) + x6_30) - x3_4)]) (rest := [.int (sCh p0 x6_30)]) B hH hl.1 (C_X12_byteAt G l th (((gI S th 13) + x6_30) - x3_4) _ _ hp) mi_X12_byteAt coX12 hk_th w_1527 w_50 w_1525 rfl rfl ⟨Nat.le_of_ble_eq_true rfl, Nat.le_of_ble_eq_true rfl⟩ (Nat.le_of_ble_eq_true rfl) ⟨Nat.le_of_ble_eq_true rfl, Nat.le_of_ble_eq_true rfl⟩ dX12_inWords_96 (fun v S1 H locs hq hH => ?_)
                          obtain ⟨r_39, rfl, e9, hp⟩ := hq
                          rw [e9] at hH
                          refine W.eq (g2 := F0 m 99 ls [.int r_39, .int (sCh p0 x6_30)]) rfl ?_
                          refine lv_icmp_ne (pc := 99) (tgt := 106) hx hb dX12_inWords_99 (by decide) (fun cc_40 => ?_) (fun cc_40 => ?_)
                          · have hp := hp.1 cc_40
                            refine lv_iconst (pc := 106) (v := 0) hx hb dX12_inWords_106 (by decide) ?_
                            refine lv_istore (pc := 107) (lv' := [(5, .int 0), (0, .ref th), (1, .ref (G.2.2.1 p0)), (2, .int x2_3), (3, .int x3_4), (4, .int x4_8), (6, .int x6_30)]) hx hb dX12_inWords_107 hl (by decide) rfl (fun ls hl => ?_)
                            obtain ⟨v_41, ev_41⟩ : ∃ y : Int32, y = x6_30 + 1 := ⟨_, rfl⟩
                            have hp := hp v_41 ev_41
                            refine lv_iinc (pc := 109) (v := v_41) (lv' := [(6, .int v_41), (5, .int 0), (0, .ref th), (1, .ref (G.2.2.1 p0)), (2, .int x2_3), (3, .int x3_4), (4, .int x4_8)]) hx hb dX12_inWords_109 hl (k := 6) rfl (by rw [ev_41]; rfl) (by decide) rfl (fun ls hl => ?_)
                            refine lv_goto (pc := 112) (tgt := 68) hx hb dX12_inWords_112 (by decide) ?_
                            obtain ⟨k9, hlt9, hp⟩ := hp
                            exact ih_28 k9 hlt9 _ _ _ _ _ hp hH (lv_sub hl [2, 3, 4, 5, 6, 1, 0] rfl)
                          · have hp := hp.2 cc_40
                            refine lv_iconst (pc := 102) (v := 1) hx hb dX12_inWords_102 (by decide) ?_
                            refine lv_goto (pc := 103) (tgt := 107) hx hb dX12_inWords_103 (by decide) ?_
                            refine lv_istore (pc := 107) (lv' := [(5, .int 1), (0, .ref th), (1, .ref (G.2.2.1 p0)), (2, .int x2_3), (3, .int x3_4), (4, .int x4_8), (6, .int x6_30)]) hx hb dX12_inWords_107 hl (by decide) rfl (fun ls hl => ?_)
                            obtain ⟨v_42, ev_42⟩ : ∃ y : Int32, y = x6_30 + 1 := ⟨_, rfl⟩
                            have hp := hp v_42 ev_42
                            refine lv_iinc (pc := 109) (v := v_42) (lv' := [(6, .int v_42), (5, .int 1), (0, .ref th), (1, .ref (G.2.2.1 p0)), (2, .int x2_3), (3, .int x3_4), (4, .int x4_8)]) hx hb dX12_inWords_109 hl (k := 6) rfl (by rw [ev_42]; rfl) (by decide) rfl (fun ls hl => ?_)
                            refine lv_goto (pc := 112) (tgt := 68) hx hb dX12_inWords_112 (by decide) ?_
                            obtain ⟨k9, hlt9, hp⟩ := hp
                            exact ih_28 k9 hlt9 _ _ _ _ _ hp hH (lv_sub hl [2, 3, 4, 5, 6, 1, 0] rfl)
                  exact kl_28 k0_28 _ _ _ _ _ h0_28 hH (lv_sub hl [2, 3, 4, 5, 6, 1, 0] rfl)
              · have hp := hp.2 cc_11
                obtain ⟨v_43, ev_43⟩ : ∃ y : Int32, y = x4_8 + 1 := ⟨_, rfl⟩
                have hp := hp v_43 ev_43
                refine lv_iinc (pc := 36) (v := v_43) (lv' := [(4, .int v_43), (0, .ref th), (1, .ref (G.2.2.1 p0)), (2, .int x2_3), (3, .int x3_4)]) hx hb dX12_inWords_36 hl (k := 4) rfl (by rw [ev_43]; rfl) (by decide) rfl (fun ls hl => ?_)
                refine lv_goto (pc := 39) (tgt := 25) hx hb dX12_inWords_39 (by decide) ?_
                obtain ⟨k9, hlt9, hp⟩ := hp
                exact ih_7 k9 hlt9 _ _ _ _ hp hH (lv_sub hl [1, 2, 3, 4, 0] rfl)
          exact kl_7 k0_7 _ _ _ _ h0_7 hH (lv_sub hl [1, 2, 3, 4, 0] rfl)
    exact kl_2 k0_2 _ _ _ _ _ h0_2 hH (lv_sub hl [2, 3, 1, 0] rfl)
  · have hp := hp.2 cc_1
    refine lv_iconst (pc := 8) (v := (-1)) hx hb dX12_inWords_8 (by decide) ?_
    exact sx_iret (pc := 9) B hH hr hlk (by rw [← hQQ]; exact ⟨_, rfl, rfl, hp⟩) (Nat.le_of_ble_eq_true rfl) (Nat.le_of_ble_eq_true rfl) dX12_inWords_9
theorem dX12_fails_0 : decode cX12_fails 0 = .ok (.aload_n 0, 1) := by decide +kernel
theorem dX12_fails_1 : decode cX12_fails 1 = .ok (.getfield 176, 3) := by decide +kernel
theorem dX12_fails_4 : decode cX12_fails 4 = .ok (.ifCond .ne 28, 3) := by decide +kernel
theorem dX12_fails_7 : decode cX12_fails 7 = .ok (.aload_n 0, 1) := by decide +kernel
theorem dX12_fails_8 : decode cX12_fails 8 = .ok (.aload_n 0, 1) := by decide +kernel
theorem dX12_fails_9 : decode cX12_fails 9 = .ok (.getfield 151, 3) := by decide +kernel
theorem dX12_fails_12 : decode cX12_fails 12 = .ok (.iconst 1, 1) := by decide +kernel
theorem dX12_fails_13 : decode cX12_fails 13 = .ok (.if_icmp .ne 7, 3) := by decide +kernel
theorem dX12_fails_16 : decode cX12_fails 16 = .ok (.iconst 1, 1) := by decide +kernel
theorem dX12_fails_17 : decode cX12_fails 17 = .ok (.goto 4, 3) := by decide +kernel
theorem dX12_fails_20 : decode cX12_fails 20 = .ok (.iload_n 1, 1) := by decide +kernel
theorem dX12_fails_21 : decode cX12_fails 21 = .ok (.putfield 176, 3) := by decide +kernel
theorem dX12_fails_24 : decode cX12_fails 24 = .ok (.aload_n 0, 1) := by decide +kernel
theorem dX12_fails_25 : decode cX12_fails 25 = .ok (.aload_n 0, 1) := by decide +kernel
theorem dX12_fails_26 : decode cX12_fails 26 = .ok (.getfield 145, 3) := by decide +kernel
theorem dX12_fails_29 : decode cX12_fails 29 = .ok (.putfield 41, 3) := by decide +kernel
theorem dX12_fails_32 : decode cX12_fails 32 = .ok (.iconst 0, 1) := by decide +kernel
theorem dX12_fails_33 : decode cX12_fails 33 = .ok (.ireturn, 1) := by decide +kernel
theorem mi_X12_fails : MI yX12_fails cX12_fails 2 (some FieldType.boolean) 1 := ⟨w_1555, w_118, by decide +kernel, by decide +kernel, by decide +kernel⟩
set_option maxRecDepth 100000 in
set_option maxHeartbeats 4000000 in
theorem C_X12_fails (G : GG) (l : Launch) (th : Nat) (p0 : Int32) (S : St) (Q : Int32 → (Nat → Nat → Int32) → Prop) (hp : P_X12_fails th p0 S Q) : Ctr G l yX12_fails cX12_fails 2 (some FieldType.boolean) 0 0 0 0 [.ref th, .int p0] S (fun (v : Option Value) (S9 : St) => ∃ (r : Int32) (I9 : Nat → Nat → Int32), v = some (.int r) ∧ S9 = wI S I9 ∧ Q r I9) := by
  generalize hQQ : (fun (v : Option Value) (S9 : St) => ∃ (r : Int32) (I9 : Nat → Nat → Int32), v = some (.int r) ∧ S9 = wI S I9 ∧ Q r I9) = QQ
  unfold P_X12_fails at hp
  refine Ctr.of (by decide) (Nat.le_of_ble_eq_true rfl) ?_
  intro p e s m args below meth c ls B hr hlk hin hl hH
  generalize hlocs0 : ([] : List Loc) = locs at hH ⊢
  have hx := B.1
  have hb := B.2.1
  have hl : lv_has ls 2 [(0, .ref th), (1, .int p0)] := hl
  obtain ⟨hk_th, hp⟩ := hp
  refine lv_aload_n (pc := 0) hx hb dX12_fails_0 rfl (lv_at hl 0 rfl) ?_
  refine sx_getI (pc := 1) (j := 18) B hH hk_th coX12 rfl w_1322 rfl dX12_fails_1 ?_
  refine W.eq (g2 := F0 m 4 ls [.int (gI S th 18)]) rfl ?_
  refine lv_if_ne (pc := 4) (tgt := 32) hx hb dX12_fails_4 (by decide) (fun cc_1 => ?_) (fun cc_1 => ?_)
  · have hp := hp.1 cc_1
    refine lv_iconst (pc := 32) (v := 0) hx hb dX12_fails_32 (by decide) ?_
    exact sx_zret (pc := 33) B hH hr hlk (Or.inl rfl) (by rw [← hQQ]; exact ⟨_, (gI S), rfl, rfl, hp⟩) (Nat.le_of_ble_eq_true rfl) (Nat.le_of_ble_eq_true rfl) dX12_fails_33
  · have hp := hp.2 cc_1
    refine lv_aload_n (pc := 7) hx hb dX12_fails_7 rfl (lv_at hl 0 rfl) ?_
    refine lv_aload_n (pc := 8) hx hb dX12_fails_8 rfl (lv_at hl 0 rfl) ?_
    refine sx_getI (pc := 9) (j := 12) B hH hk_th coX12 rfl w_1316 rfl dX12_fails_9 ?_
    refine W.eq (g2 := F0 m 12 ls [.int (gI S th 12), .ref th]) rfl ?_
    refine lv_iconst (pc := 12) (v := 1) hx hb dX12_fails_12 (by decide) ?_
    obtain ⟨J_3, hj_3, hp⟩ := hp
    have kj_3 : ∀ (t_4 : Int32) (H : Heap) (locs : List Loc) (ls : Array Slot), J_3 t_4 → Hp G (FA S s.heap.size) s.heap S H locs → lv_has ls 2 [(0, .ref th)] → Wm G p l e { frames := 0, cells := 0, slots := 0, locals := 0 } s m args below meth c S QQ 0 0 H locs 0 0 (F0 m 21 ls [.int t_4, .ref th]) := by
      intro t_4 H locs ls hq9 hH hl
      have hp := hj_3 t_4 hq9
      obtain ⟨F_5, eF_5⟩ : ∃ z : Nat → Nat → Int32, z = upI (gI S) th 18 t_4 := ⟨_, rfl⟩
      have hp := hp F_5 eF_5
      refine sx_putI (pc := 21) (j := 18) B hH hk_th coX12 rfl w_1322 rfl (Or.inl rfl) rfl dX12_fails_21 (fun H locs hH => ?_)
      have hH : Hp G (FA S s.heap.size) s.heap (wI S F_5) H locs := by rw [eF_5]; exact hH
      refine lv_aload_n (pc := 24) hx hb dX12_fails_24 rfl (lv_at hl 0 rfl) ?_
      refine lv_aload_n (pc := 25) hx hb dX12_fails_25 rfl (lv_at hl 0 rfl) ?_
      refine sx_getI (pc := 26) (j := 13) B hH hk_th coX12 rfl w_1317 rfl dX12_fails_26 ?_
      refine W.eq (g2 := F0 m 29 ls [.int (F_5 th 13), .ref th]) rfl ?_
      refine lv_topi (fun v_6 ev_6 => ?_)
      have hp := hp v_6 ev_6
      obtain ⟨F_7, eF_7⟩ : ∃ z : Nat → Nat → Int32, z = upI F_5 th 17 v_6 := ⟨_, rfl⟩
      have hp := hp F_7 eF_7
      refine sx_putI (pc := 29) (j := 17) B hH hk_th coX12 rfl w_1321 rfl (Or.inl rfl) rfl dX12_fails_29 (fun H locs hH => ?_)
      have hH : Hp G (FA S s.heap.size) s.heap (wI S F_7) H locs := by rw [eF_7]; exact hH
      refine lv_iconst (pc := 32) (v := 0) hx hb dX12_fails_32 (by decide) ?_
      exact sx_zret (pc := 33) B hH hr hlk (Or.inl rfl) (by rw [← hQQ]; exact ⟨_, F_7, rfl, rfl, hp⟩) (Nat.le_of_ble_eq_true rfl) (Nat.le_of_ble_eq_true rfl) dX12_fails_33
    refine lv_icmp_ne (pc := 13) (tgt := 20) hx hb dX12_fails_13 (by decide) (fun cc_2 => ?_) (fun cc_2 => ?_)
    · have hp := hp.1 cc_2
      refine lv_iload_n (pc := 20) hx hb dX12_fails_20 rfl (lv_at hl 1 rfl) ?_
      exact kj_3 _ _ _ _ hp hH (lv_sub hl [0] rfl)
    · have hp := hp.2 cc_2
      refine lv_iconst (pc := 16) (v := 1) hx hb dX12_fails_16 (by decide) ?_
      refine lv_goto (pc := 17) (tgt := 21) hx hb dX12_fails_17 (by decide) ?_
      exact kj_3 _ _ _ _ hp hH (lv_sub hl [0] rfl)
theorem dX12_begins_0 : decode cX12_begins 0 = .ok (.iload_n 1, 1) := by decide +kernel
theorem dX12_begins_1 : decode cX12_begins 1 = .ok (.ifCond .lt 16, 3) := by decide +kernel
theorem dX12_begins_4 : decode cX12_begins 4 = .ok (.iload_n 1, 1) := by decide +kernel
theorem dX12_begins_5 : decode cX12_begins 5 = .ok (.aload_n 0, 1) := by decide +kernel
theorem dX12_begins_6 : decode cX12_begins 6 = .ok (.getfield 129, 3) := by decide +kernel
theorem dX12_begins_9 : decode cX12_begins 9 = .ok (.if_icmp .gt 8, 3) := by decide +kernel
theorem dX12_begins_12 : decode cX12_begins 12 = .ok (.iload_n 1, 1) := by decide +kernel
theorem dX12_begins_13 : decode cX12_begins 13 = .ok (.iload_n 2, 1) := by decide +kernel
theorem dX12_begins_14 : decode cX12_begins 14 = .ok (.if_icmp .le 5, 3) := by decide +kernel
theorem dX12_begins_17 : decode cX12_begins 17 = .ok (.iconst 0, 1) := by decide +kernel
theorem dX12_begins_18 : decode cX12_begins 18 = .ok (.ireturn, 1) := by decide +kernel
theorem dX12_begins_19 : decode cX12_begins 19 = .ok (.aload_n 0, 1) := by decide +kernel
theorem dX12_begins_20 : decode cX12_begins 20 = .ok (.iload_n 1, 1) := by decide +kernel
theorem dX12_begins_21 : decode cX12_begins 21 = .ok (.putfield 136, 3) := by decide +kernel
theorem dX12_begins_24 : decode cX12_begins 24 = .ok (.iconst 0, 1) := by decide +kernel
theorem dX12_begins_25 : decode cX12_begins 25 = .ok (.istore_n 3, 1) := by decide +kernel
theorem dX12_begins_26 : decode cX12_begins 26 = .ok (.iload_n 3, 1) := by decide +kernel
theorem dX12_begins_27 : decode cX12_begins 27 = .ok (.iload_n 1, 1) := by decide +kernel
theorem dX12_begins_28 : decode cX12_begins 28 = .ok (.if_icmp .ge 21, 3) := by decide +kernel
theorem dX12_begins_31 : decode cX12_begins 31 = .ok (.aload_n 0, 1) := by decide +kernel
theorem dX12_begins_32 : decode cX12_begins 32 = .ok (.getfield 34, 3) := by decide +kernel
theorem dX12_begins_35 : decode cX12_begins 35 = .ok (.iload_n 3, 1) := by decide +kernel
theorem dX12_begins_36 : decode cX12_begins 36 = .ok (.aload_n 0, 1) := by decide +kernel
theorem dX12_begins_37 : decode cX12_begins 37 = .ok (.getfield 30, 3) := by decide +kernel
theorem dX12_begins_40 : decode cX12_begins 40 = .ok (.iload_n 3, 1) := by decide +kernel
theorem dX12_begins_41 : decode cX12_begins 41 = .ok (.baload, 1) := by decide +kernel
theorem dX12_begins_42 : decode cX12_begins 42 = .ok (.bastore, 1) := by decide +kernel
theorem dX12_begins_43 : decode cX12_begins 43 = .ok (.iinc 3 1, 3) := by decide +kernel
theorem dX12_begins_46 : decode cX12_begins 46 = .ok (.goto (-20), 3) := by decide +kernel
theorem dX12_begins_49 : decode cX12_begins 49 = .ok (.aload_n 0, 1) := by decide +kernel
theorem dX12_begins_50 : decode cX12_begins 50 = .ok (.iconst 0, 1) := by decide +kernel
theorem dX12_begins_51 : decode cX12_begins 51 = .ok (.putfield 129, 3) := by decide +kernel
theorem dX12_begins_54 : decode cX12_begins 54 = .ok (.aload_n 0, 1) := by decide +kernel
theorem dX12_begins_55 : decode cX12_begins 55 = .ok (.iconst 0, 1) := by decide +kernel
theorem dX12_begins_56 : decode cX12_begins 56 = .ok (.putfield 176, 3) := by decide +kernel
theorem dX12_begins_59 : decode cX12_begins 59 = .ok (.aload_n 0, 1) := by decide +kernel
theorem dX12_begins_60 : decode cX12_begins 60 = .ok (.iconst (-1), 1) := by decide +kernel
theorem dX12_begins_61 : decode cX12_begins 61 = .ok (.putfield 41, 3) := by decide +kernel
theorem dX12_begins_64 : decode cX12_begins 64 = .ok (.aload_n 0, 1) := by decide +kernel
theorem dX12_begins_65 : decode cX12_begins 65 = .ok (.iconst 0, 1) := by decide +kernel
theorem dX12_begins_66 : decode cX12_begins 66 = .ok (.putfield 139, 3) := by decide +kernel
theorem dX12_begins_69 : decode cX12_begins 69 = .ok (.aload_n 0, 1) := by decide +kernel
theorem dX12_begins_70 : decode cX12_begins 70 = .ok (.iconst 0, 1) := by decide +kernel
theorem dX12_begins_71 : decode cX12_begins 71 = .ok (.putfield 179, 3) := by decide +kernel
theorem dX12_begins_74 : decode cX12_begins 74 = .ok (.aload_n 0, 1) := by decide +kernel
theorem dX12_begins_75 : decode cX12_begins 75 = .ok (.invokevirtual 182, 3) := by decide +kernel
theorem dX12_begins_78 : decode cX12_begins 78 = .ok (.iconst 1, 1) := by decide +kernel
theorem dX12_begins_79 : decode cX12_begins 79 = .ok (.ireturn, 1) := by decide +kernel
theorem mi_X12_begins : MI yX12_begins cX12_begins 4 (some FieldType.boolean) 2 := ⟨w_1520, w_118, by decide +kernel, by decide +kernel, by decide +kernel⟩
set_option maxRecDepth 100000 in
set_option maxHeartbeats 4000000 in
theorem C_X12_begins (G : GG) (l : Launch) (th : Nat) (p0 : Int32) (p1 : Int32) (S : St) (Q : Int32 → (Nat → Nat → Int32) → Prop) (hp : P_X12_begins th p0 p1 S Q) : Ctr G l yX12_begins cX12_begins 4 (some FieldType.boolean) 2 42 0 0 [.ref th, .int p0, .int p1] S (fun (v : Option Value) (S9 : St) => ∃ (r : Int32) (I9 : Nat → Nat → Int32), v = some (.int r) ∧ S9 = wI S I9 ∧ Q r I9) := by
  generalize hQQ : (fun (v : Option Value) (S9 : St) => ∃ (r : Int32) (I9 : Nat → Nat → Int32), v = some (.int r) ∧ S9 = wI S I9 ∧ Q r I9) = QQ
  unfold P_X12_begins at hp
  refine Ctr.of (by decide) (Nat.le_of_ble_eq_true rfl) ?_
  intro p e s m args below meth c ls B hr hlk hin hl hH
  generalize hlocs0 : ([] : List Loc) = locs at hH ⊢
  have hx := B.1
  have hb := B.2.1
  have hl : lv_has ls 4 [(0, .ref th), (1, .int p0), (2, .int p1)] := hl
  obtain ⟨hk_th, hp⟩ := hp
  refine lv_iload_n (pc := 0) hx hb dX12_begins_0 rfl (lv_at hl 1 rfl) ?_
  refine lv_if_lt (pc := 1) (tgt := 17) hx hb dX12_begins_1 (by decide) (fun cc_1 => ?_) (fun cc_1 => ?_)
  · have hp := hp.1 cc_1
    refine lv_iconst (pc := 17) (v := 0) hx hb dX12_begins_17 (by decide) ?_
    exact sx_zret (pc := 18) B hH hr hlk (Or.inl rfl) (by rw [← hQQ]; exact ⟨_, (gI S), rfl, rfl, hp⟩) (Nat.le_of_ble_eq_true rfl) (Nat.le_of_ble_eq_true rfl) dX12_begins_18
  · have hp := hp.2 cc_1
    refine lv_iload_n (pc := 4) hx hb dX12_begins_4 rfl (lv_at hl 1 rfl) ?_
    refine lv_aload_n (pc := 5) hx hb dX12_begins_5 rfl (lv_at hl 0 rfl) ?_
    refine sx_getI (pc := 6) (j := 10) B hH hk_th coX12 rfl w_1314 rfl dX12_begins_6 ?_
    refine W.eq (g2 := F0 m 9 ls [.int (gI S th 10), .int p0]) rfl ?_
    refine lv_icmp_gt (pc := 9) (tgt := 17) hx hb dX12_begins_9 (by decide) (fun cc_2 => ?_) (fun cc_2 => ?_)
    · have hp := hp.1 cc_2
      refine lv_iconst (pc := 17) (v := 0) hx hb dX12_begins_17 (by decide) ?_
      exact sx_zret (pc := 18) B hH hr hlk (Or.inl rfl) (by rw [← hQQ]; exact ⟨_, (gI S), rfl, rfl, hp⟩) (Nat.le_of_ble_eq_true rfl) (Nat.le_of_ble_eq_true rfl) dX12_begins_18
    · have hp := hp.2 cc_2
      refine lv_iload_n (pc := 12) hx hb dX12_begins_12 rfl (lv_at hl 1 rfl) ?_
      refine lv_iload_n (pc := 13) hx hb dX12_begins_13 rfl (lv_at hl 2 rfl) ?_
      refine lv_icmp_le (pc := 14) (tgt := 19) hx hb dX12_begins_14 (by decide) (fun cc_3 => ?_) (fun cc_3 => ?_)
      · have hp := hp.1 cc_3
        refine lv_aload_n (pc := 19) hx hb dX12_begins_19 rfl (lv_at hl 0 rfl) ?_
        refine lv_iload_n (pc := 20) hx hb dX12_begins_20 rfl (lv_at hl 1 rfl) ?_
        obtain ⟨F_4, eF_4⟩ : ∃ z : Nat → Nat → Int32, z = upI (gI S) th 11 p0 := ⟨_, rfl⟩
        have hp := hp F_4 eF_4
        refine sx_putI (pc := 21) (j := 11) B hH hk_th coX12 rfl w_1315 rfl (Or.inl rfl) rfl dX12_begins_21 (fun H locs hH => ?_)
        have hH : Hp G (FA S s.heap.size) s.heap (wI S F_4) H locs := by rw [eF_4]; exact hH
        refine lv_iconst (pc := 24) (v := 0) hx hb dX12_begins_24 (by decide) ?_
        refine lv_istore_n (pc := 25) (lv' := [(3, .int 0), (0, .ref th), (1, .int p0), (2, .int p1)]) hx hb dX12_begins_25 rfl hl (by decide) rfl (fun ls hl => ?_)
        obtain ⟨I_5, ⟨k0_5, h0_5⟩, hst_5⟩ := hp
        have kl_5 : ∀ (n_5 : Nat) (x3_6 : Int32) (F_7 : Nat → Nat → Int32) (H : Heap) (locs : List Loc) (ls : Array Slot), I_5 n_5 x3_6 F_7 → Hp G (FA S s.heap.size) s.heap (wI S F_7) H locs → lv_has ls 4 [(0, .ref th), (1, .int p0), (3, .int x3_6)] → Wm G p l e { frames := 2, cells := 0, slots := 0, locals := 42 } s m args below meth c S QQ 0 0 H locs 0 0 (F0 m 26 ls []) := by
          intro n_5
          induction n_5 using Nat.strongRecOn with
          | ind n_5 ih_5 =>
            intro x3_6 F_7 H locs ls hq9 hH hl
            have hp := hst_5 n_5 x3_6 F_7 hq9
            refine lv_iload_n (pc := 26) hx hb dX12_begins_26 rfl (lv_at hl 2 rfl) ?_
            refine lv_iload_n (pc := 27) hx hb dX12_begins_27 rfl (lv_at hl 1 rfl) ?_
            refine lv_icmp_ge (pc := 28) (tgt := 49) hx hb dX12_begins_28 (by decide) (fun cc_8 => ?_) (fun cc_8 => ?_)
            · have hp := hp.1 cc_8
              refine lv_aload_n (pc := 49) hx hb dX12_begins_49 rfl (lv_at hl 0 rfl) ?_
              refine lv_iconst (pc := 50) (v := 0) hx hb dX12_begins_50 (by decide) ?_
              obtain ⟨F_9, eF_9⟩ : ∃ z : Nat → Nat → Int32, z = upI F_7 th 10 0 := ⟨_, rfl⟩
              have hp := hp F_9 eF_9
              refine sx_putI (pc := 51) (j := 10) B hH hk_th coX12 rfl w_1314 rfl (Or.inl rfl) rfl dX12_begins_51 (fun H locs hH => ?_)
              have hH : Hp G (FA S s.heap.size) s.heap (wI S F_9) H locs := by rw [eF_9]; exact hH
              refine lv_aload_n (pc := 54) hx hb dX12_begins_54 rfl (lv_at hl 0 rfl) ?_
              refine lv_iconst (pc := 55) (v := 0) hx hb dX12_begins_55 (by decide) ?_
              obtain ⟨F_10, eF_10⟩ : ∃ z : Nat → Nat → Int32, z = upI F_9 th 18 0 := ⟨_, rfl⟩
              have hp := hp F_10 eF_10
              refine sx_putI (pc := 56) (j := 18) B hH hk_th coX12 rfl w_1322 rfl (Or.inl rfl) rfl dX12_begins_56 (fun H locs hH => ?_)
              have hH : Hp G (FA S s.heap.size) s.heap (wI S F_10) H locs := by rw [eF_10]; exact hH
              refine lv_aload_n (pc := 59) hx hb dX12_begins_59 rfl (lv_at hl 0 rfl) ?_
              refine lv_iconst (pc := 60) (v := (-1)) hx hb dX12_begins_60 (by decide) ?_
              obtain ⟨F_11, eF_11⟩ : ∃ z : Nat → Nat → Int32, z = upI F_10 th 17 (-1) := ⟨_, rfl⟩
              have hp := hp F_11 eF_11
              refine sx_putI (pc := 61) (j := 17) B hH hk_th coX12 rfl w_1321 rfl (Or.inl rfl) rfl dX12_begins_61 (fun H locs hH => ?_)
              have hH : Hp G (FA S s.heap.size) s.heap (wI S F_11) H locs := by rw [eF_11]; exact hH
              refine lv_aload_n (pc := 64) hx hb dX12_begins_64 rfl (lv_at hl 0 rfl) ?_
              refine lv_iconst (pc := 65) (v := 0) hx hb dX12_begins_65 (by decide) ?_
              obtain ⟨F_12, eF_12⟩ : ∃ z : Nat → Nat → Int32, z = upI F_11 th 14 0 := ⟨_, rfl⟩
              have hp := hp F_12 eF_12
              refine sx_putI (pc := 66) (j := 14) B hH hk_th coX12 rfl w_1318 rfl (Or.inl rfl) rfl dX12_begins_66 (fun H locs hH => ?_)
              have hH : Hp G (FA S s.heap.size) s.heap (wI S F_12) H locs := by rw [eF_12]; exact hH
              refine lv_aload_n (pc := 69) hx hb dX12_begins_69 rfl (lv_at hl 0 rfl) ?_
              refine lv_iconst (pc := 70) (v := 0) hx hb dX12_begins_70 (by decide) ?_
              obtain ⟨F_13, eF_13⟩ : ∃ z : Nat → Nat → Int32, z = upI F_12 th 19 0 := ⟨_, rfl⟩
              have hp := hp F_13 eF_13
              refine sx_putI (pc := 71) (j := 19) B hH hk_th coX12 rfl w_1323 rfl (Or.inl rfl) rfl dX12_begins_71 (fun H locs hH => ?_)
              have hH : Hp G (FA S s.heap.size) s.heap (wI S F_13) H locs := by rw [eF_13]; exact hH
              refine lv_aload_n (pc := 74) hx hb dX12_begins_74 rfl (lv_at hl 0 rfl) ?_
              refine sx_V (pc := 75) (As := []) (rest := []) B hH hl.1 (C_X12_ahead G l th _ _ hp) mi_X12_ahead coX12 hk_th w_1523 w_49 w_1521 rfl rfl ⟨Nat.le_of_ble_eq_true rfl, Nat.le_of_ble_eq_true rfl⟩ (Nat.le_of_ble_eq_true rfl) ⟨Nat.le_of_ble_eq_true rfl, Nat.le_of_ble_eq_true rfl⟩ dX12_begins_75 (fun v S1 H locs hq hH => ?_)
              obtain ⟨F_14, rfl, e9, hp⟩ := hq
              rw [e9] at hH
              have hH : Hp G (FA S s.heap.size) s.heap (wI S F_14) H locs := hH
              refine W.eq (g2 := F0 m 78 ls []) rfl ?_
              refine lv_iconst (pc := 78) (v := 1) hx hb dX12_begins_78 (by decide) ?_
              exact sx_zret (pc := 79) B hH hr hlk (Or.inr rfl) (by rw [← hQQ]; exact ⟨_, F_14, rfl, rfl, hp⟩) (Nat.le_of_ble_eq_true rfl) (Nat.le_of_ble_eq_true rfl) dX12_begins_79
            · have hp := hp.2 cc_8
              refine lv_aload_n (pc := 31) hx hb dX12_begins_31 rfl (lv_at hl 0 rfl) ?_
              refine sx_getR (pc := 32) (j := 9) B hH hk_th coX12 rfl w_1313 rfl dX12_begins_32 ?_
              refine W.eq (g2 := F0 m 35 ls [va_rf (gR S th 9)]) rfl ?_
              obtain ⟨a_15, ha_15, hp⟩ := hp
              refine sx_nonnull (x := a_15) ha_15 ?_
              refine lv_iload_n (pc := 35) hx hb dX12_begins_35 rfl (lv_at hl 2 rfl) ?_
              refine lv_aload_n (pc := 36) hx hb dX12_begins_36 rfl (lv_at hl 0 rfl) ?_
              refine sx_getR (pc := 37) (j := 8) B hH hk_th coX12 rfl w_1312 rfl dX12_begins_37 ?_
              refine W.eq (g2 := F0 m 40 ls [va_rf (gR S th 8), .int x3_6, .ref a_15]) rfl ?_
              obtain ⟨a_16, ha_16, hp⟩ := hp
              refine sx_nonnull (x := a_16) ha_16 ?_
              refine lv_iload_n (pc := 40) hx hb dX12_begins_40 rfl (lv_at hl 2 rfl) ?_
              obtain ⟨hk_17, hp⟩ := hp
              obtain ⟨hn_18, hp⟩ := hp
              refine sx_bald (pc := 41) B hH hk_17 hn_18 dX12_begins_41 ?_
              refine W.eq (g2 := F0 m 42 ls [.int (F_7 a_16 x3_6.toNatClampNeg), .int x3_6, .ref a_15]) rfl ?_
              obtain ⟨hk_19, hp⟩ := hp
              obtain ⟨hn_20, hp⟩ := hp
              refine lv_topi (fun v_21 ev_21 => ?_)
              have hp := hp v_21 ev_21
              obtain ⟨F_22, eF_22⟩ : ∃ z : Nat → Nat → Int32, z = upI F_7 a_15 x3_6.toNatClampNeg v_21.toInt8.toInt32 := ⟨_, rfl⟩
              have hp := hp F_22 eF_22
              refine sx_bast (pc := 42) B hH hk_19 hn_20 dX12_begins_42 (fun H locs hH => ?_)
              have hH : Hp G (FA S s.heap.size) s.heap (wI S F_22) H locs := by rw [eF_22]; exact hH
              obtain ⟨v_23, ev_23⟩ : ∃ y : Int32, y = x3_6 + 1 := ⟨_, rfl⟩
              have hp := hp v_23 ev_23
              refine lv_iinc (pc := 43) (v := v_23) (lv' := [(3, .int v_23), (0, .ref th), (1, .int p0)]) hx hb dX12_begins_43 hl (k := 2) rfl (by rw [ev_23]; rfl) (by decide) rfl (fun ls hl => ?_)
              refine lv_goto (pc := 46) (tgt := 26) hx hb dX12_begins_46 (by decide) ?_
              obtain ⟨k9, hlt9, hp⟩ := hp
              exact ih_5 k9 hlt9 _ _ _ _ _ hp hH (lv_sub hl [1, 2, 0] rfl)
        exact kl_5 k0_5 _ _ _ _ _ h0_5 hH (lv_sub hl [1, 2, 0] rfl)
      · have hp := hp.2 cc_3
        refine lv_iconst (pc := 17) (v := 0) hx hb dX12_begins_17 (by decide) ?_
        exact sx_zret (pc := 18) B hH hr hlk (Or.inl rfl) (by rw [← hQQ]; exact ⟨_, (gI S), rfl, rfl, hp⟩) (Nat.le_of_ble_eq_true rfl) (Nat.le_of_ble_eq_true rfl) dX12_begins_18
theorem dX12_wantSign_0 : decode cX12_wantSign 0 = .ok (.aload_n 0, 1) := by decide +kernel
theorem dX12_wantSign_1 : decode cX12_wantSign 1 = .ok (.iload_n 1, 1) := by decide +kernel
theorem dX12_wantSign_2 : decode cX12_wantSign 2 = .ok (.invokevirtual 185, 3) := by decide +kernel
theorem dX12_wantSign_5 : decode cX12_wantSign 5 = .ok (.ifCond .ne 9, 3) := by decide +kernel
theorem dX12_wantSign_8 : decode cX12_wantSign 8 = .ok (.aload_n 0, 1) := by decide +kernel
theorem dX12_wantSign_9 : decode cX12_wantSign 9 = .ok (.iconst 2, 1) := by decide +kernel
theorem dX12_wantSign_10 : decode cX12_wantSign 10 = .ok (.invokevirtual 188, 3) := by decide +kernel
theorem dX12_wantSign_13 : decode cX12_wantSign 13 = .ok (.ireturn, 1) := by decide +kernel
theorem dX12_wantSign_14 : decode cX12_wantSign 14 = .ok (.aload_n 0, 1) := by decide +kernel
theorem dX12_wantSign_15 : decode cX12_wantSign 15 = .ok (.invokevirtual 182, 3) := by decide +kernel
theorem dX12_wantSign_18 : decode cX12_wantSign 18 = .ok (.iconst 1, 1) := by decide +kernel
theorem dX12_wantSign_19 : decode cX12_wantSign 19 = .ok (.ireturn, 1) := by decide +kernel
theorem mi_X12_wantSign : MI yX12_wantSign cX12_wantSign 2 (some FieldType.boolean) 1 := ⟨w_1563, w_118, by decide +kernel, by decide +kernel, by decide +kernel⟩
set_option maxRecDepth 100000 in
set_option maxHeartbeats 4000000 in
theorem C_X12_wantSign (G : GG) (l : Launch) (th : Nat) (p0 : Int32) (S : St) (Q : Int32 → (Nat → Nat → Int32) → Prop) (hp : P_X12_wantSign th p0 S Q) : Ctr G l yX12_wantSign cX12_wantSign 2 (some FieldType.boolean) 2 42 0 0 [.ref th, .int p0] S (fun (v : Option Value) (S9 : St) => ∃ (r : Int32) (I9 : Nat → Nat → Int32), v = some (.int r) ∧ S9 = wI S I9 ∧ Q r I9) := by
  generalize hQQ : (fun (v : Option Value) (S9 : St) => ∃ (r : Int32) (I9 : Nat → Nat → Int32), v = some (.int r) ∧ S9 = wI S I9 ∧ Q r I9) = QQ
  unfold P_X12_wantSign at hp
  refine Ctr.of (by decide) (Nat.le_of_ble_eq_true rfl) ?_
  intro p e s m args below meth c ls B hr hlk hin hl hH
  generalize hlocs0 : ([] : List Loc) = locs at hH ⊢
  have hx := B.1
  have hb := B.2.1
  have hl : lv_has ls 2 [(0, .ref th), (1, .int p0)] := hl
  obtain ⟨hk_th, hp⟩ := hp
  refine lv_aload_n (pc := 0) hx hb dX12_wantSign_0 rfl (lv_at hl 0 rfl) ?_
  refine lv_iload_n (pc := 1) hx hb dX12_wantSign_1 rfl (lv_at hl 1 rfl) ?_
  refine sx_V (pc := 2) (As := [.int p0]) (rest := []) B hH hl.1 (C_X12_isSign G l th p0 _ _ hp) mi_X12_isSign coX12 hk_th w_1566 w_57 w_1564 rfl rfl ⟨Nat.le_of_ble_eq_true rfl, Nat.le_of_ble_eq_true rfl⟩ (Nat.le_of_ble_eq_true rfl) ⟨Nat.le_of_ble_eq_true rfl, Nat.le_of_ble_eq_true rfl⟩ dX12_wantSign_2 (fun v S1 H locs hq hH => ?_)
  obtain ⟨r_1, rfl, e9, hp⟩ := hq
  rw [e9] at hH
  refine W.eq (g2 := F0 m 5 ls [.int r_1]) rfl ?_
  refine lv_if_ne (pc := 5) (tgt := 14) hx hb dX12_wantSign_5 (by decide) (fun cc_2 => ?_) (fun cc_2 => ?_)
  · have hp := hp.1 cc_2
    refine lv_aload_n (pc := 14) hx hb dX12_wantSign_14 rfl (lv_at hl 0 rfl) ?_
    refine sx_V (pc := 15) (As := []) (rest := []) B hH hl.1 (C_X12_ahead G l th _ _ hp) mi_X12_ahead coX12 hk_th w_1523 w_49 w_1521 rfl rfl ⟨Nat.le_of_ble_eq_true rfl, Nat.le_of_ble_eq_true rfl⟩ (Nat.le_of_ble_eq_true rfl) ⟨Nat.le_of_ble_eq_true rfl, Nat.le_of_ble_eq_true rfl⟩ dX12_wantSign_15 (fun v S1 H locs hq hH => ?_)
    obtain ⟨F_3, rfl, e9, hp⟩ := hq
    rw [e9] at hH
    have hH : Hp G (FA S s.heap.size) s.heap (wI S F_3) H locs := hH
    refine W.eq (g2 := F0 m 18 ls []) rfl ?_
    refine lv_iconst (pc := 18) (v := 1) hx hb dX12_wantSign_18 (by decide) ?_
    exact sx_zret (pc := 19) B hH hr hlk (Or.inr rfl) (by rw [← hQQ]; exact ⟨_, F_3, rfl, rfl, hp⟩) (Nat.le_of_ble_eq_true rfl) (Nat.le_of_ble_eq_true rfl) dX12_wantSign_19
  · have hp := hp.2 cc_2
    refine lv_aload_n (pc := 8) hx hb dX12_wantSign_8 rfl (lv_at hl 0 rfl) ?_
    refine lv_iconst (pc := 9) (v := 2) hx hb dX12_wantSign_9 (by decide) ?_
    refine sx_V (pc := 10) (As := [.int 2]) (rest := []) B hH hl.1 (C_X12_fails G l th 2 _ _ hp) mi_X12_fails coX12 hk_th w_1554 w_54 w_1552 rfl rfl ⟨Nat.le_of_ble_eq_true rfl, Nat.le_of_ble_eq_true rfl⟩ (Nat.le_of_ble_eq_true rfl) ⟨Nat.le_of_ble_eq_true rfl, Nat.le_of_ble_eq_true rfl⟩ dX12_wantSign_10 (fun v S1 H locs hq hH => ?_)
    obtain ⟨r_4, F_4, rfl, e9, hp⟩ := hq
    rw [e9] at hH
    have hH : Hp G (FA S s.heap.size) s.heap (wI S F_4) H locs := hH
    refine W.eq (g2 := F0 m 13 ls [.int r_4]) rfl ?_
    obtain ⟨hz, hp⟩ := hp
    exact sx_zret (pc := 13) B hH hr hlk hz (by rw [← hQQ]; exact ⟨_, F_4, rfl, rfl, hp⟩) (Nat.le_of_ble_eq_true rfl) (Nat.le_of_ble_eq_true rfl) dX12_wantSign_13
theorem dX12_wantWord_0 : decode cX12_wantWord 0 = .ok (.aload_n 0, 1) := by decide +kernel
theorem dX12_wantWord_1 : decode cX12_wantWord 1 = .ok (.aload_n 1, 1) := by decide +kernel
theorem dX12_wantWord_2 : decode cX12_wantWord 2 = .ok (.invokevirtual 191, 3) := by decide +kernel
theorem dX12_wantWord_5 : decode cX12_wantWord 5 = .ok (.iload_n 2, 1) := by decide +kernel
theorem dX12_wantWord_6 : decode cX12_wantWord 6 = .ok (.if_icmp .eq 9, 3) := by decide +kernel
theorem dX12_wantWord_9 : decode cX12_wantWord 9 = .ok (.aload_n 0, 1) := by decide +kernel
theorem dX12_wantWord_10 : decode cX12_wantWord 10 = .ok (.iconst 2, 1) := by decide +kernel
theorem dX12_wantWord_11 : decode cX12_wantWord 11 = .ok (.invokevirtual 188, 3) := by decide +kernel
theorem dX12_wantWord_14 : decode cX12_wantWord 14 = .ok (.ireturn, 1) := by decide +kernel
theorem dX12_wantWord_15 : decode cX12_wantWord 15 = .ok (.aload_n 0, 1) := by decide +kernel
theorem dX12_wantWord_16 : decode cX12_wantWord 16 = .ok (.invokevirtual 182, 3) := by decide +kernel
theorem dX12_wantWord_19 : decode cX12_wantWord 19 = .ok (.iconst 1, 1) := by decide +kernel
theorem dX12_wantWord_20 : decode cX12_wantWord 20 = .ok (.ireturn, 1) := by decide +kernel
theorem mi_X12_wantWord : MI yX12_wantWord cX12_wantWord 3 (some FieldType.boolean) 2 := ⟨w_1545, w_118, by decide +kernel, by decide +kernel, by decide +kernel⟩
set_option maxRecDepth 100000 in
set_option maxHeartbeats 4000000 in
theorem C_X12_wantWord (G : GG) (l : Launch) (th : Nat) (p0 : Nat) (p1 : Int32) (S : St) (Q : Int32 → (Nat → Nat → Int32) → Prop) (hp : P_X12_wantWord th p0 p1 S Q) : Ctr G l yX12_wantWord cX12_wantWord 3 (some FieldType.boolean) 5 111 0 0 [.ref th, .ref (G.2.2.1 p0), .int p1] S (fun (v : Option Value) (S9 : St) => ∃ (r : Int32) (I9 : Nat → Nat → Int32), v = some (.int r) ∧ S9 = wI S I9 ∧ Q r I9) := by
  generalize hQQ : (fun (v : Option Value) (S9 : St) => ∃ (r : Int32) (I9 : Nat → Nat → Int32), v = some (.int r) ∧ S9 = wI S I9 ∧ Q r I9) = QQ
  unfold P_X12_wantWord at hp
  refine Ctr.of (by decide) (Nat.le_of_ble_eq_true rfl) ?_
  intro p e s m args below meth c ls B hr hlk hin hl hH
  generalize hlocs0 : ([] : List Loc) = locs at hH ⊢
  have hx := B.1
  have hb := B.2.1
  have hl : lv_has ls 3 [(0, .ref th), (1, .ref (G.2.2.1 p0)), (2, .int p1)] := hl
  obtain ⟨hk_th, hp⟩ := hp
  refine lv_aload_n (pc := 0) hx hb dX12_wantWord_0 rfl (lv_at hl 0 rfl) ?_
  refine lv_aload_n (pc := 1) hx hb dX12_wantWord_1 rfl (lv_at hl 1 rfl) ?_
  refine sx_V (pc := 2) (As := [.ref (G.2.2.1 p0)]) (rest := []) B hH hl.1 (C_X12_inWords G l th p0 _ _ hp) mi_X12_inWords coX12 hk_th w_1548 w_53 w_1546 rfl rfl ⟨Nat.le_of_ble_eq_true rfl, Nat.le_of_ble_eq_true rfl⟩ (Nat.le_of_ble_eq_true rfl) ⟨Nat.le_of_ble_eq_true rfl, Nat.le_of_ble_eq_true rfl⟩ dX12_wantWord_2 (fun v S1 H locs hq hH => ?_)
  obtain ⟨r_1, rfl, e9, hp⟩ := hq
  rw [e9] at hH
  refine W.eq (g2 := F0 m 5 ls [.int r_1]) rfl ?_
  refine lv_iload_n (pc := 5) hx hb dX12_wantWord_5 rfl (lv_at hl 2 rfl) ?_
  refine lv_icmp_eq (pc := 6) (tgt := 15) hx hb dX12_wantWord_6 (by decide) (fun cc_2 => ?_) (fun cc_2 => ?_)
  · have hp := hp.1 cc_2
    refine lv_aload_n (pc := 15) hx hb dX12_wantWord_15 rfl (lv_at hl 0 rfl) ?_
    refine sx_V (pc := 16) (As := []) (rest := []) B hH hl.1 (C_X12_ahead G l th _ _ hp) mi_X12_ahead coX12 hk_th w_1523 w_49 w_1521 rfl rfl ⟨Nat.le_of_ble_eq_true rfl, Nat.le_of_ble_eq_true rfl⟩ (Nat.le_of_ble_eq_true rfl) ⟨Nat.le_of_ble_eq_true rfl, Nat.le_of_ble_eq_true rfl⟩ dX12_wantWord_16 (fun v S1 H locs hq hH => ?_)
    obtain ⟨F_3, rfl, e9, hp⟩ := hq
    rw [e9] at hH
    have hH : Hp G (FA S s.heap.size) s.heap (wI S F_3) H locs := hH
    refine W.eq (g2 := F0 m 19 ls []) rfl ?_
    refine lv_iconst (pc := 19) (v := 1) hx hb dX12_wantWord_19 (by decide) ?_
    exact sx_zret (pc := 20) B hH hr hlk (Or.inr rfl) (by rw [← hQQ]; exact ⟨_, F_3, rfl, rfl, hp⟩) (Nat.le_of_ble_eq_true rfl) (Nat.le_of_ble_eq_true rfl) dX12_wantWord_20
  · have hp := hp.2 cc_2
    refine lv_aload_n (pc := 9) hx hb dX12_wantWord_9 rfl (lv_at hl 0 rfl) ?_
    refine lv_iconst (pc := 10) (v := 2) hx hb dX12_wantWord_10 (by decide) ?_
    refine sx_V (pc := 11) (As := [.int 2]) (rest := []) B hH hl.1 (C_X12_fails G l th 2 _ _ hp) mi_X12_fails coX12 hk_th w_1554 w_54 w_1552 rfl rfl ⟨Nat.le_of_ble_eq_true rfl, Nat.le_of_ble_eq_true rfl⟩ (Nat.le_of_ble_eq_true rfl) ⟨Nat.le_of_ble_eq_true rfl, Nat.le_of_ble_eq_true rfl⟩ dX12_wantWord_11 (fun v S1 H locs hq hH => ?_)
    obtain ⟨r_4, F_4, rfl, e9, hp⟩ := hq
    rw [e9] at hH
    have hH : Hp G (FA S s.heap.size) s.heap (wI S F_4) H locs := hH
    refine W.eq (g2 := F0 m 14 ls [.int r_4]) rfl ?_
    obtain ⟨hz, hp⟩ := hp
    exact sx_zret (pc := 14) B hH hr hlk hz (by rw [← hQQ]; exact ⟨_, F_4, rfl, rfl, hp⟩) (Nat.le_of_ble_eq_true rfl) (Nat.le_of_ble_eq_true rfl) dX12_wantWord_14
theorem dX12_numberTo_0 : decode cX12_numberTo 0 = .ok (.aload_n 0, 1) := by decide +kernel
theorem dX12_numberTo_1 : decode cX12_numberTo 1 = .ok (.getfield 151, 3) := by decide +kernel
theorem dX12_numberTo_4 : decode cX12_numberTo 4 = .ok (.iconst 3, 1) := by decide +kernel
theorem dX12_numberTo_5 : decode cX12_numberTo 5 = .ok (.if_icmp .eq 9, 3) := by decide +kernel
theorem dX12_numberTo_8 : decode cX12_numberTo 8 = .ok (.aload_n 0, 1) := by decide +kernel
theorem dX12_numberTo_9 : decode cX12_numberTo 9 = .ok (.iconst 2, 1) := by decide +kernel
theorem dX12_numberTo_10 : decode cX12_numberTo 10 = .ok (.invokevirtual 188, 3) := by decide +kernel
theorem dX12_numberTo_13 : decode cX12_numberTo 13 = .ok (.ireturn, 1) := by decide +kernel
theorem dX12_numberTo_14 : decode cX12_numberTo 14 = .ok (.aload_n 0, 1) := by decide +kernel
theorem dX12_numberTo_15 : decode cX12_numberTo 15 = .ok (.getfield 148, 3) := by decide +kernel
theorem dX12_numberTo_18 : decode cX12_numberTo 18 = .ok (.iload_n 2, 1) := by decide +kernel
theorem dX12_numberTo_19 : decode cX12_numberTo 19 = .ok (.if_icmp .lt 11, 3) := by decide +kernel
theorem dX12_numberTo_22 : decode cX12_numberTo 22 = .ok (.aload_n 0, 1) := by decide +kernel
theorem dX12_numberTo_23 : decode cX12_numberTo 23 = .ok (.getfield 148, 3) := by decide +kernel
theorem dX12_numberTo_26 : decode cX12_numberTo 26 = .ok (.iload_n 3, 1) := by decide +kernel
theorem dX12_numberTo_27 : decode cX12_numberTo 27 = .ok (.if_icmp .le 9, 3) := by decide +kernel
theorem dX12_numberTo_30 : decode cX12_numberTo 30 = .ok (.aload_n 0, 1) := by decide +kernel
theorem dX12_numberTo_31 : decode cX12_numberTo 31 = .ok (.iconst 4, 1) := by decide +kernel
theorem dX12_numberTo_32 : decode cX12_numberTo 32 = .ok (.invokevirtual 188, 3) := by decide +kernel
theorem dX12_numberTo_35 : decode cX12_numberTo 35 = .ok (.ireturn, 1) := by decide +kernel
theorem dX12_numberTo_36 : decode cX12_numberTo 36 = .ok (.aload_n 0, 1) := by decide +kernel
theorem dX12_numberTo_37 : decode cX12_numberTo 37 = .ok (.getfield 7, 3) := by decide +kernel
theorem dX12_numberTo_40 : decode cX12_numberTo 40 = .ok (.iload_n 1, 1) := by decide +kernel
theorem dX12_numberTo_41 : decode cX12_numberTo 41 = .ok (.aload_n 0, 1) := by decide +kernel
theorem dX12_numberTo_42 : decode cX12_numberTo 42 = .ok (.getfield 148, 3) := by decide +kernel
theorem dX12_numberTo_45 : decode cX12_numberTo 45 = .ok (.iastore, 1) := by decide +kernel
theorem dX12_numberTo_46 : decode cX12_numberTo 46 = .ok (.aload_n 0, 1) := by decide +kernel
theorem dX12_numberTo_47 : decode cX12_numberTo 47 = .ok (.invokevirtual 182, 3) := by decide +kernel
theorem dX12_numberTo_50 : decode cX12_numberTo 50 = .ok (.iconst 1, 1) := by decide +kernel
theorem dX12_numberTo_51 : decode cX12_numberTo 51 = .ok (.ireturn, 1) := by decide +kernel
theorem mi_X12_numberTo : MI yX12_numberTo cX12_numberTo 4 (some FieldType.boolean) 3 := ⟨w_1559, w_118, by decide +kernel, by decide +kernel, by decide +kernel⟩
set_option maxRecDepth 100000 in
set_option maxHeartbeats 4000000 in
theorem C_X12_numberTo (G : GG) (l : Launch) (th : Nat) (p0 : Int32) (p1 : Int32) (p2 : Int32) (S : St) (Q : Int32 → (Nat → Nat → Int32) → Prop) (hp : P_X12_numberTo th p0 p1 p2 S Q) : Ctr G l yX12_numberTo cX12_numberTo 4 (some FieldType.boolean) 2 42 0 0 [.ref th, .int p0, .int p1, .int p2] S (fun (v : Option Value) (S9 : St) => ∃ (r : Int32) (I9 : Nat → Nat → Int32), v = some (.int r) ∧ S9 = wI S I9 ∧ Q r I9) := by
  generalize hQQ : (fun (v : Option Value) (S9 : St) => ∃ (r : Int32) (I9 : Nat → Nat → Int32), v = some (.int r) ∧ S9 = wI S I9 ∧ Q r I9) = QQ
  unfold P_X12_numberTo at hp
  refine Ctr.of (by decide) (Nat.le_of_ble_eq_true rfl) ?_
  intro p e s m args below meth c ls B hr hlk hin hl hH
  generalize hlocs0 : ([] : List Loc) = locs at hH ⊢
  have hx := B.1
  have hb := B.2.1
  have hl : lv_has ls 4 [(0, .ref th), (1, .int p0), (2, .int p1), (3, .int p2)] := hl
  obtain ⟨hk_th, hp⟩ := hp
  refine lv_aload_n (pc := 0) hx hb dX12_numberTo_0 rfl (lv_at hl 0 rfl) ?_
  refine sx_getI (pc := 1) (j := 12) B hH hk_th coX12 rfl w_1316 rfl dX12_numberTo_1 ?_
  refine W.eq (g2 := F0 m 4 ls [.int (gI S th 12)]) rfl ?_
  refine lv_iconst (pc := 4) (v := 3) hx hb dX12_numberTo_4 (by decide) ?_
  refine lv_icmp_eq (pc := 5) (tgt := 14) hx hb dX12_numberTo_5 (by decide) (fun cc_1 => ?_) (fun cc_1 => ?_)
  · have hp := hp.1 cc_1
    refine lv_aload_n (pc := 14) hx hb dX12_numberTo_14 rfl (lv_at hl 0 rfl) ?_
    refine sx_getI (pc := 15) (j := 15) B hH hk_th coX12 rfl w_1319 rfl dX12_numberTo_15 ?_
    refine W.eq (g2 := F0 m 18 ls [.int (gI S th 15)]) rfl ?_
    refine lv_iload_n (pc := 18) hx hb dX12_numberTo_18 rfl (lv_at hl 2 rfl) ?_
    obtain ⟨J_3, hj_3, hp⟩ := hp
    have kj_3 : ∀  (H : Heap) (locs : List Loc) (ls : Array Slot), J_3  → Hp G (FA S s.heap.size) s.heap S H locs → lv_has ls 4 [(0, .ref th)] → Wm G p l e { frames := 2, cells := 0, slots := 0, locals := 42 } s m args below meth c S QQ 0 0 H locs 0 0 (F0 m 30 ls []) := by
      intro  H locs ls hq9 hH hl
      have hp := hj_3  hq9
      refine lv_aload_n (pc := 30) hx hb dX12_numberTo_30 rfl (lv_at hl 0 rfl) ?_
      refine lv_iconst (pc := 31) (v := 4) hx hb dX12_numberTo_31 (by decide) ?_
      refine sx_V (pc := 32) (As := [.int 4]) (rest := []) B hH hl.1 (C_X12_fails G l th 4 _ _ hp) mi_X12_fails coX12 hk_th w_1554 w_54 w_1552 rfl rfl ⟨Nat.le_of_ble_eq_true rfl, Nat.le_of_ble_eq_true rfl⟩ (Nat.le_of_ble_eq_true rfl) ⟨Nat.le_of_ble_eq_true rfl, Nat.le_of_ble_eq_true rfl⟩ dX12_numberTo_32 (fun v S1 H locs hq hH => ?_)
      obtain ⟨r_4, F_4, rfl, e9, hp⟩ := hq
      rw [e9] at hH
      have hH : Hp G (FA S s.heap.size) s.heap (wI S F_4) H locs := hH
      refine W.eq (g2 := F0 m 35 ls [.int r_4]) rfl ?_
      obtain ⟨hz, hp⟩ := hp
      exact sx_zret (pc := 35) B hH hr hlk hz (by rw [← hQQ]; exact ⟨_, F_4, rfl, rfl, hp⟩) (Nat.le_of_ble_eq_true rfl) (Nat.le_of_ble_eq_true rfl) dX12_numberTo_35
    refine lv_icmp_lt (pc := 19) (tgt := 30) hx hb dX12_numberTo_19 (by decide) (fun cc_2 => ?_) (fun cc_2 => ?_)
    · have hp := hp.1 cc_2
      exact kj_3  _ _ _ hp hH (lv_sub hl [0] rfl)
    · have hp := hp.2 cc_2
      refine lv_aload_n (pc := 22) hx hb dX12_numberTo_22 rfl (lv_at hl 0 rfl) ?_
      refine sx_getI (pc := 23) (j := 15) B hH hk_th coX12 rfl w_1319 rfl dX12_numberTo_23 ?_
      refine W.eq (g2 := F0 m 26 ls [.int (gI S th 15)]) rfl ?_
      refine lv_iload_n (pc := 26) hx hb dX12_numberTo_26 rfl (lv_at hl 3 rfl) ?_
      refine lv_icmp_le (pc := 27) (tgt := 36) hx hb dX12_numberTo_27 (by decide) (fun cc_5 => ?_) (fun cc_5 => ?_)
      · have hp := hp.1 cc_5
        refine lv_aload_n (pc := 36) hx hb dX12_numberTo_36 rfl (lv_at hl 0 rfl) ?_
        refine sx_getR (pc := 37) (j := 0) B hH hk_th coX12 rfl w_1304 rfl dX12_numberTo_37 ?_
        refine W.eq (g2 := F0 m 40 ls [va_rf (gR S th 0)]) rfl ?_
        obtain ⟨a_6, ha_6, hp⟩ := hp
        refine sx_nonnull (x := a_6) ha_6 ?_
        refine lv_iload_n (pc := 40) hx hb dX12_numberTo_40 rfl (lv_at hl 1 rfl) ?_
        refine lv_aload_n (pc := 41) hx hb dX12_numberTo_41 rfl (lv_at hl 0 rfl) ?_
        refine sx_getI (pc := 42) (j := 15) B hH hk_th coX12 rfl w_1319 rfl dX12_numberTo_42 ?_
        refine W.eq (g2 := F0 m 45 ls [.int (gI S th 15), .int p0, .ref a_6]) rfl ?_
        obtain ⟨hk_7, hp⟩ := hp
        obtain ⟨hn_8, hp⟩ := hp
        refine lv_topi (fun v_9 ev_9 => ?_)
        have hp := hp v_9 ev_9
        obtain ⟨F_10, eF_10⟩ : ∃ z : Nat → Nat → Int32, z = upI (gI S) a_6 p0.toNatClampNeg v_9 := ⟨_, rfl⟩
        have hp := hp F_10 eF_10
        refine sx_iast (pc := 45) B hH hk_7 hn_8 dX12_numberTo_45 (fun H locs hH => ?_)
        have hH : Hp G (FA S s.heap.size) s.heap (wI S F_10) H locs := by rw [eF_10]; exact hH
        refine lv_aload_n (pc := 46) hx hb dX12_numberTo_46 rfl (lv_at hl 0 rfl) ?_
        refine sx_V (pc := 47) (As := []) (rest := []) B hH hl.1 (C_X12_ahead G l th _ _ hp) mi_X12_ahead coX12 hk_th w_1523 w_49 w_1521 rfl rfl ⟨Nat.le_of_ble_eq_true rfl, Nat.le_of_ble_eq_true rfl⟩ (Nat.le_of_ble_eq_true rfl) ⟨Nat.le_of_ble_eq_true rfl, Nat.le_of_ble_eq_true rfl⟩ dX12_numberTo_47 (fun v S1 H locs hq hH => ?_)
        obtain ⟨F_11, rfl, e9, hp⟩ := hq
        rw [e9] at hH
        have hH : Hp G (FA S s.heap.size) s.heap (wI S F_11) H locs := hH
        refine W.eq (g2 := F0 m 50 ls []) rfl ?_
        refine lv_iconst (pc := 50) (v := 1) hx hb dX12_numberTo_50 (by decide) ?_
        exact sx_zret (pc := 51) B hH hr hlk (Or.inr rfl) (by rw [← hQQ]; exact ⟨_, F_11, rfl, rfl, hp⟩) (Nat.le_of_ble_eq_true rfl) (Nat.le_of_ble_eq_true rfl) dX12_numberTo_51
      · have hp := hp.2 cc_5
        exact kj_3  _ _ _ hp hH (lv_sub hl [0] rfl)
  · have hp := hp.2 cc_1
    refine lv_aload_n (pc := 8) hx hb dX12_numberTo_8 rfl (lv_at hl 0 rfl) ?_
    refine lv_iconst (pc := 9) (v := 2) hx hb dX12_numberTo_9 (by decide) ?_
    refine sx_V (pc := 10) (As := [.int 2]) (rest := []) B hH hl.1 (C_X12_fails G l th 2 _ _ hp) mi_X12_fails coX12 hk_th w_1554 w_54 w_1552 rfl rfl ⟨Nat.le_of_ble_eq_true rfl, Nat.le_of_ble_eq_true rfl⟩ (Nat.le_of_ble_eq_true rfl) ⟨Nat.le_of_ble_eq_true rfl, Nat.le_of_ble_eq_true rfl⟩ dX12_numberTo_10 (fun v S1 H locs hq hH => ?_)
    obtain ⟨r_12, F_12, rfl, e9, hp⟩ := hq
    rw [e9] at hH
    have hH : Hp G (FA S s.heap.size) s.heap (wI S F_12) H locs := hH
    refine W.eq (g2 := F0 m 13 ls [.int r_12]) rfl ?_
    obtain ⟨hz, hp⟩ := hp
    exact sx_zret (pc := 13) B hH hr hlk hz (by rw [← hQQ]; exact ⟨_, F_12, rfl, rfl, hp⟩) (Nat.le_of_ble_eq_true rfl) (Nat.le_of_ble_eq_true rfl) dX12_numberTo_13
theorem dX12_isName_0 : decode cX12_isName 0 = .ok (.aload_n 0, 1) := by decide +kernel
theorem dX12_isName_1 : decode cX12_isName 1 = .ok (.getfield 151, 3) := by decide +kernel
theorem dX12_isName_4 : decode cX12_isName 4 = .ok (.iconst 2, 1) := by decide +kernel
theorem dX12_isName_5 : decode cX12_isName 5 = .ok (.if_icmp .ne 30, 3) := by decide +kernel
theorem dX12_isName_8 : decode cX12_isName 8 = .ok (.aload_n 0, 1) := by decide +kernel
theorem dX12_isName_9 : decode cX12_isName 9 = .ok (.getfield 139, 3) := by decide +kernel
theorem dX12_isName_12 : decode cX12_isName 12 = .ok (.aload_n 0, 1) := by decide +kernel
theorem dX12_isName_13 : decode cX12_isName 13 = .ok (.getfield 145, 3) := by decide +kernel
theorem dX12_isName_16 : decode cX12_isName 16 = .ok (.isub, 1) := by decide +kernel
theorem dX12_isName_17 : decode cX12_isName 17 = .ok (.bipush 8, 2) := by decide +kernel
theorem dX12_isName_19 : decode cX12_isName 19 = .ok (.if_icmp .gt 16, 3) := by decide +kernel
theorem dX12_isName_22 : decode cX12_isName 22 = .ok (.aload_n 0, 1) := by decide +kernel
theorem dX12_isName_23 : decode cX12_isName 23 = .ok (.aload_n 1, 1) := by decide +kernel
theorem dX12_isName_24 : decode cX12_isName 24 = .ok (.invokevirtual 191, 3) := by decide +kernel
theorem dX12_isName_27 : decode cX12_isName 27 = .ok (.iconst (-1), 1) := by decide +kernel
theorem dX12_isName_28 : decode cX12_isName 28 = .ok (.if_icmp .ne 7, 3) := by decide +kernel
theorem dX12_isName_31 : decode cX12_isName 31 = .ok (.iconst 1, 1) := by decide +kernel
theorem dX12_isName_32 : decode cX12_isName 32 = .ok (.goto 4, 3) := by decide +kernel
theorem dX12_isName_35 : decode cX12_isName 35 = .ok (.iconst 0, 1) := by decide +kernel
theorem dX12_isName_36 : decode cX12_isName 36 = .ok (.ireturn, 1) := by decide +kernel
theorem mi_X12_isName : MI yX12_isName cX12_isName 2 (some FieldType.boolean) 1 := ⟨w_1583, w_118, by decide +kernel, by decide +kernel, by decide +kernel⟩
set_option maxRecDepth 100000 in
set_option maxHeartbeats 4000000 in
theorem C_X12_isName (G : GG) (l : Launch) (th : Nat) (p0 : Nat) (S : St) (Q : Int32 → Prop) (hp : P_X12_isName th p0 S Q) : Ctr G l yX12_isName cX12_isName 2 (some FieldType.boolean) 5 111 0 0 [.ref th, .ref (G.2.2.1 p0)] S (fun (v : Option Value) (S9 : St) => ∃ (r : Int32), v = some (.int r) ∧ S9 = S ∧ Q r ) := by
  generalize hQQ : (fun (v : Option Value) (S9 : St) => ∃ (r : Int32), v = some (.int r) ∧ S9 = S ∧ Q r ) = QQ
  unfold P_X12_isName at hp
  refine Ctr.of (by decide) (Nat.le_of_ble_eq_true rfl) ?_
  intro p e s m args below meth c ls B hr hlk hin hl hH
  generalize hlocs0 : ([] : List Loc) = locs at hH ⊢
  have hx := B.1
  have hb := B.2.1
  have hl : lv_has ls 2 [(0, .ref th), (1, .ref (G.2.2.1 p0))] := hl
  obtain ⟨hk_th, hp⟩ := hp
  refine lv_aload_n (pc := 0) hx hb dX12_isName_0 rfl (lv_at hl 0 rfl) ?_
  refine sx_getI (pc := 1) (j := 12) B hH hk_th coX12 rfl w_1316 rfl dX12_isName_1 ?_
  refine W.eq (g2 := F0 m 4 ls [.int (gI S th 12)]) rfl ?_
  refine lv_iconst (pc := 4) (v := 2) hx hb dX12_isName_4 (by decide) ?_
  refine lv_icmp_ne (pc := 5) (tgt := 35) hx hb dX12_isName_5 (by decide) (fun cc_1 => ?_) (fun cc_1 => ?_)
  · have hp := hp.1 cc_1
    refine lv_iconst (pc := 35) (v := 0) hx hb dX12_isName_35 (by decide) ?_
    exact sx_zret (pc := 36) B hH hr hlk (Or.inl rfl) (by rw [← hQQ]; exact ⟨_, rfl, rfl, hp⟩) (Nat.le_of_ble_eq_true rfl) (Nat.le_of_ble_eq_true rfl) dX12_isName_36
  · have hp := hp.2 cc_1
    refine lv_aload_n (pc := 8) hx hb dX12_isName_8 rfl (lv_at hl 0 rfl) ?_
    refine sx_getI (pc := 9) (j := 14) B hH hk_th coX12 rfl w_1318 rfl dX12_isName_9 ?_
    refine W.eq (g2 := F0 m 12 ls [.int (gI S th 14)]) rfl ?_
    refine lv_aload_n (pc := 12) hx hb dX12_isName_12 rfl (lv_at hl 0 rfl) ?_
    refine sx_getI (pc := 13) (j := 13) B hH hk_th coX12 rfl w_1317 rfl dX12_isName_13 ?_
    refine W.eq (g2 := F0 m 16 ls [.int (gI S th 13), .int (gI S th 14)]) rfl ?_
    refine lv_isub (pc := 16) hx hb dX12_isName_16 ?_
    refine lv_bipush (pc := 17) (v := 8) hx hb dX12_isName_17 (by decide) ?_
    refine lv_icmp_gt (pc := 19) (tgt := 35) hx hb dX12_isName_19 (by decide) (fun cc_2 => ?_) (fun cc_2 => ?_)
    · have hp := hp.1 cc_2
      refine lv_iconst (pc := 35) (v := 0) hx hb dX12_isName_35 (by decide) ?_
      exact sx_zret (pc := 36) B hH hr hlk (Or.inl rfl) (by rw [← hQQ]; exact ⟨_, rfl, rfl, hp⟩) (Nat.le_of_ble_eq_true rfl) (Nat.le_of_ble_eq_true rfl) dX12_isName_36
    · have hp := hp.2 cc_2
      refine lv_aload_n (pc := 22) hx hb dX12_isName_22 rfl (lv_at hl 0 rfl) ?_
      refine lv_aload_n (pc := 23) hx hb dX12_isName_23 rfl (lv_at hl 1 rfl) ?_
      refine sx_V (pc := 24) (As := [.ref (G.2.2.1 p0)]) (rest := []) B hH hl.1 (C_X12_inWords G l th p0 _ _ hp) mi_X12_inWords coX12 hk_th w_1548 w_53 w_1546 rfl rfl ⟨Nat.le_of_ble_eq_true rfl, Nat.le_of_ble_eq_true rfl⟩ (Nat.le_of_ble_eq_true rfl) ⟨Nat.le_of_ble_eq_true rfl, Nat.le_of_ble_eq_true rfl⟩ dX12_isName_24 (fun v S1 H locs hq hH => ?_)
      obtain ⟨r_3, rfl, e9, hp⟩ := hq
      rw [e9] at hH
      refine W.eq (g2 := F0 m 27 ls [.int r_3]) rfl ?_
      refine lv_iconst (pc := 27) (v := (-1)) hx hb dX12_isName_27 (by decide) ?_
      refine lv_icmp_ne (pc := 28) (tgt := 35) hx hb dX12_isName_28 (by decide) (fun cc_4 => ?_) (fun cc_4 => ?_)
      · have hp := hp.1 cc_4
        refine lv_iconst (pc := 35) (v := 0) hx hb dX12_isName_35 (by decide) ?_
        exact sx_zret (pc := 36) B hH hr hlk (Or.inl rfl) (by rw [← hQQ]; exact ⟨_, rfl, rfl, hp⟩) (Nat.le_of_ble_eq_true rfl) (Nat.le_of_ble_eq_true rfl) dX12_isName_36
      · have hp := hp.2 cc_4
        refine lv_iconst (pc := 31) (v := 1) hx hb dX12_isName_31 (by decide) ?_
        refine lv_goto (pc := 32) (tgt := 36) hx hb dX12_isName_32 (by decide) ?_
        exact sx_zret (pc := 36) B hH hr hlk (Or.inr rfl) (by rw [← hQQ]; exact ⟨_, rfl, rfl, hp⟩) (Nat.le_of_ble_eq_true rfl) (Nat.le_of_ble_eq_true rfl) dX12_isName_36
